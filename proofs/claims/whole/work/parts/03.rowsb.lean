theorem dX7_lineOf_0 : decode cX7_lineOf 0 = .ok (.aload_n 0, 1) := by decide +kernel
theorem dX7_lineOf_1 : decode cX7_lineOf 1 = .ok (.iload_n 1, 1) := by decide +kernel
theorem dX7_lineOf_2 : decode cX7_lineOf 2 = .ok (.iload_n 2, 1) := by decide +kernel
theorem dX7_lineOf_3 : decode cX7_lineOf 3 = .ok (.invokevirtual 94, 3) := by decide +kernel
theorem dX7_lineOf_6 : decode cX7_lineOf 6 = .ok (.istore 4, 2) := by decide +kernel
theorem dX7_lineOf_8 : decode cX7_lineOf 8 = .ok (.aload_n 0, 1) := by decide +kernel
theorem dX7_lineOf_9 : decode cX7_lineOf 9 = .ok (.iload_n 1, 1) := by decide +kernel
theorem dX7_lineOf_10 : decode cX7_lineOf 10 = .ok (.iload_n 2, 1) := by decide +kernel
theorem dX7_lineOf_11 : decode cX7_lineOf 11 = .ok (.invokevirtual 97, 3) := by decide +kernel
theorem dX7_lineOf_14 : decode cX7_lineOf 14 = .ok (.istore 5, 2) := by decide +kernel
theorem dX7_lineOf_16 : decode cX7_lineOf 16 = .ok (.iload_n 3, 1) := by decide +kernel
theorem dX7_lineOf_17 : decode cX7_lineOf 17 = .ok (.ifCond .ne 6, 3) := by decide +kernel
theorem dX7_lineOf_20 : decode cX7_lineOf 20 = .ok (.iload 4, 2) := by decide +kernel
theorem dX7_lineOf_22 : decode cX7_lineOf 22 = .ok (.ireturn, 1) := by decide +kernel
theorem dX7_lineOf_23 : decode cX7_lineOf 23 = .ok (.iload_n 3, 1) := by decide +kernel
theorem dX7_lineOf_24 : decode cX7_lineOf 24 = .ok (.iconst 2, 1) := by decide +kernel
theorem dX7_lineOf_25 : decode cX7_lineOf 25 = .ok (.if_icmp .ne 8, 3) := by decide +kernel
theorem dX7_lineOf_28 : decode cX7_lineOf 28 = .ok (.iload 5, 2) := by decide +kernel
theorem dX7_lineOf_30 : decode cX7_lineOf 30 = .ok (.goto 15, 3) := by decide +kernel
theorem dX7_lineOf_33 : decode cX7_lineOf 33 = .ok (.iload 4, 2) := by decide +kernel
theorem dX7_lineOf_35 : decode cX7_lineOf 35 = .ok (.iload 5, 2) := by decide +kernel
theorem dX7_lineOf_37 : decode cX7_lineOf 37 = .ok (.iload 4, 2) := by decide +kernel
theorem dX7_lineOf_39 : decode cX7_lineOf 39 = .ok (.isub, 1) := by decide +kernel
theorem dX7_lineOf_40 : decode cX7_lineOf 40 = .ok (.iconst 2, 1) := by decide +kernel
theorem dX7_lineOf_41 : decode cX7_lineOf 41 = .ok (.invokestatic 100, 3) := by decide +kernel
theorem dX7_lineOf_44 : decode cX7_lineOf 44 = .ok (.iadd, 1) := by decide +kernel
theorem dX7_lineOf_45 : decode cX7_lineOf 45 = .ok (.ireturn, 1) := by decide +kernel
set_option maxRecDepth 20000 in
theorem ggX7_canShift_X7_find : GoodIn wsX7_canShift wsX7_find := goodIn_r _ [6, 1, 7, 23, 24, 25, 26, 27, 28, 29, 30, 31, 32, 33] (by decide +kernel) (by decide +kernel)
set_option maxRecDepth 20000 in
theorem gX7_canShift_X7_find : GoodIn wsX7_canShift (wsV RX7 33 RX7 yX7_find wsX7_find) := goodIn_app (goodIn_of _ (by decide +kernel)) ggX7_canShift_X7_find
set_option maxRecDepth 20000 in
theorem ggX7_canShift_X11_hasBit : GoodIn wsX7_canShift wsX11_hasBit := goodIn_r _ [10] (by decide +kernel) (by decide +kernel)
set_option maxRecDepth 20000 in
theorem gX7_canShift_X11_hasBit_n74 : GoodIn wsX7_canShift (wsX11_hasBit) := ggX7_canShift_X11_hasBit
set_option maxRecDepth 20000 in
theorem ggX7_canShift_X6_start : GoodIn wsX7_canShift wsX6_start := goodIn_r _ [15, 16, 17, 26, 27, 28, 29, 30, 31, 32, 33] (by decide +kernel) (by decide +kernel)
set_option maxRecDepth 20000 in
theorem gX7_canShift_X6_start : GoodIn wsX7_canShift (wsV RX7 77 RX6 yX6_start wsX6_start) := goodIn_app (goodIn_of _ (by decide +kernel)) ggX7_canShift_X6_start
set_option maxRecDepth 20000 in
theorem ggX7_canShift_X11_isCoordinate : GoodIn wsX7_canShift wsX11_isCoordinate := goodIn_r _ [19, 20, 21, 9, 22] (by decide +kernel) (by decide +kernel)
set_option maxRecDepth 20000 in
theorem gX7_canShift_X11_isCoordinate_n103 : GoodIn wsX7_canShift (wsX11_isCoordinate) := ggX7_canShift_X11_isCoordinate
theorem dX7_canShift_0 : decode cX7_canShift 0 = .ok (.iconst 0, 1) := by decide +kernel
theorem dX7_canShift_1 : decode cX7_canShift 1 = .ok (.istore 4, 2) := by decide +kernel
theorem dX7_canShift_3 : decode cX7_canShift 3 = .ok (.iload 4, 2) := by decide +kernel
theorem dX7_canShift_5 : decode cX7_canShift 5 = .ok (.aload_n 0, 1) := by decide +kernel
theorem dX7_canShift_6 : decode cX7_canShift 6 = .ok (.getfield 11, 3) := by decide +kernel
theorem dX7_canShift_9 : decode cX7_canShift 9 = .ok (.arraylength, 1) := by decide +kernel
theorem dX7_canShift_10 : decode cX7_canShift 10 = .ok (.if_icmp .ge 47, 3) := by decide +kernel
theorem dX7_canShift_13 : decode cX7_canShift 13 = .ok (.aload_n 0, 1) := by decide +kernel
theorem dX7_canShift_14 : decode cX7_canShift 14 = .ok (.iload 4, 2) := by decide +kernel
theorem dX7_canShift_16 : decode cX7_canShift 16 = .ok (.invokevirtual 33, 3) := by decide +kernel
theorem dX7_canShift_19 : decode cX7_canShift 19 = .ok (.astore 5, 2) := by decide +kernel
theorem dX7_canShift_21 : decode cX7_canShift 21 = .ok (.aload 5, 2) := by decide +kernel
theorem dX7_canShift_23 : decode cX7_canShift 23 = .ok (.ifnull 28, 3) := by decide +kernel
theorem dX7_canShift_26 : decode cX7_canShift 26 = .ok (.iload_n 1, 1) := by decide +kernel
theorem dX7_canShift_27 : decode cX7_canShift 27 = .ok (.iload 4, 2) := by decide +kernel
theorem dX7_canShift_29 : decode cX7_canShift 29 = .ok (.invokestatic 74, 3) := by decide +kernel
theorem dX7_canShift_32 : decode cX7_canShift 32 = .ok (.ifCond .eq 19, 3) := by decide +kernel
theorem dX7_canShift_35 : decode cX7_canShift 35 = .ok (.aload 5, 2) := by decide +kernel
theorem dX7_canShift_37 : decode cX7_canShift 37 = .ok (.iload_n 2, 1) := by decide +kernel
theorem dX7_canShift_38 : decode cX7_canShift 38 = .ok (.invokevirtual 77, 3) := by decide +kernel
theorem dX7_canShift_41 : decode cX7_canShift 41 = .ok (.iload_n 3, 1) := by decide +kernel
theorem dX7_canShift_42 : decode cX7_canShift 42 = .ok (.iadd, 1) := by decide +kernel
theorem dX7_canShift_43 : decode cX7_canShift 43 = .ok (.invokestatic 103, 3) := by decide +kernel
theorem dX7_canShift_46 : decode cX7_canShift 46 = .ok (.ifCond .ne 5, 3) := by decide +kernel
theorem dX7_canShift_49 : decode cX7_canShift 49 = .ok (.iconst 0, 1) := by decide +kernel
theorem dX7_canShift_50 : decode cX7_canShift 50 = .ok (.ireturn, 1) := by decide +kernel
theorem dX7_canShift_51 : decode cX7_canShift 51 = .ok (.iinc 4 1, 3) := by decide +kernel
theorem dX7_canShift_54 : decode cX7_canShift 54 = .ok (.goto (-51), 3) := by decide +kernel
theorem dX7_canShift_57 : decode cX7_canShift 57 = .ok (.iconst 1, 1) := by decide +kernel
theorem dX7_canShift_58 : decode cX7_canShift 58 = .ok (.ireturn, 1) := by decide +kernel
set_option maxRecDepth 20000 in
theorem ggX7_shift_X7_find : GoodIn wsX7_shift wsX7_find := goodIn_r _ [6, 1, 7, 18, 19, 20, 21, 22, 23, 24, 25, 26, 27, 28] (by decide +kernel) (by decide +kernel)
set_option maxRecDepth 20000 in
theorem gX7_shift_X7_find : GoodIn wsX7_shift (wsV RX7 33 RX7 yX7_find wsX7_find) := goodIn_app (goodIn_of _ (by decide +kernel)) ggX7_shift_X7_find
set_option maxRecDepth 20000 in
theorem ggX7_shift_X11_hasBit : GoodIn wsX7_shift wsX11_hasBit := goodIn_r _ [10] (by decide +kernel) (by decide +kernel)
set_option maxRecDepth 20000 in
theorem gX7_shift_X11_hasBit_n74 : GoodIn wsX7_shift (wsX11_hasBit) := ggX7_shift_X11_hasBit
set_option maxRecDepth 20000 in
theorem ggX7_shift_X6_shift : GoodIn wsX7_shift wsX6_shift := goodIn_r _ [15, 16, 17, 21, 22, 23, 24, 25, 26, 27, 28] (by decide +kernel) (by decide +kernel)
set_option maxRecDepth 20000 in
theorem gX7_shift_X6_shift : GoodIn wsX7_shift (wsV RX7 107 RX6 yX6_shift wsX6_shift) := goodIn_app (goodIn_of _ (by decide +kernel)) ggX7_shift_X6_shift
theorem dX7_shift_0 : decode cX7_shift 0 = .ok (.iconst 0, 1) := by decide +kernel
theorem dX7_shift_1 : decode cX7_shift 1 = .ok (.istore 4, 2) := by decide +kernel
theorem dX7_shift_3 : decode cX7_shift 3 = .ok (.iload 4, 2) := by decide +kernel
theorem dX7_shift_5 : decode cX7_shift 5 = .ok (.aload_n 0, 1) := by decide +kernel
theorem dX7_shift_6 : decode cX7_shift 6 = .ok (.getfield 11, 3) := by decide +kernel
theorem dX7_shift_9 : decode cX7_shift 9 = .ok (.arraylength, 1) := by decide +kernel
theorem dX7_shift_10 : decode cX7_shift 10 = .ok (.if_icmp .ge 38, 3) := by decide +kernel
theorem dX7_shift_13 : decode cX7_shift 13 = .ok (.aload_n 0, 1) := by decide +kernel
theorem dX7_shift_14 : decode cX7_shift 14 = .ok (.iload 4, 2) := by decide +kernel
theorem dX7_shift_16 : decode cX7_shift 16 = .ok (.invokevirtual 33, 3) := by decide +kernel
theorem dX7_shift_19 : decode cX7_shift 19 = .ok (.astore 5, 2) := by decide +kernel
theorem dX7_shift_21 : decode cX7_shift 21 = .ok (.aload 5, 2) := by decide +kernel
theorem dX7_shift_23 : decode cX7_shift 23 = .ok (.ifnull 19, 3) := by decide +kernel
theorem dX7_shift_26 : decode cX7_shift 26 = .ok (.iload_n 1, 1) := by decide +kernel
theorem dX7_shift_27 : decode cX7_shift 27 = .ok (.iload 4, 2) := by decide +kernel
theorem dX7_shift_29 : decode cX7_shift 29 = .ok (.invokestatic 74, 3) := by decide +kernel
theorem dX7_shift_32 : decode cX7_shift 32 = .ok (.ifCond .eq 10, 3) := by decide +kernel
theorem dX7_shift_35 : decode cX7_shift 35 = .ok (.aload 5, 2) := by decide +kernel
theorem dX7_shift_37 : decode cX7_shift 37 = .ok (.iload_n 2, 1) := by decide +kernel
theorem dX7_shift_38 : decode cX7_shift 38 = .ok (.iload_n 3, 1) := by decide +kernel
theorem dX7_shift_39 : decode cX7_shift 39 = .ok (.invokevirtual 107, 3) := by decide +kernel
theorem dX7_shift_42 : decode cX7_shift 42 = .ok (.iinc 4 1, 3) := by decide +kernel
theorem dX7_shift_45 : decode cX7_shift 45 = .ok (.goto (-42), 3) := by decide +kernel
theorem dX7_shift_48 : decode cX7_shift 48 = .ok (.return_, 1) := by decide +kernel
theorem dX8_init_0 : decode cX8_init 0 = .ok (.aload_n 0, 1) := by decide +kernel
theorem dX8_init_1 : decode cX8_init 1 = .ok (.invokespecial 3, 3) := by decide +kernel
theorem dX8_init_4 : decode cX8_init 4 = .ok (.return_, 1) := by decide +kernel
set_option maxRecDepth 20000 in
theorem ggX8_search_X7_lineOf : GoodIn wsX8_search wsX7_lineOf := goodIn_r _ [14, 15, 16, 17, 13, 18, 19, 20, 21, 22, 23, 24, 25, 26, 27, 28, 29, 30, 31, 32, 33, 34, 35, 36, 37, 38, 39, 40, 41, 42, 43, 44, 45, 46, 47, 48, 49, 50, 51, 52, 53, 54, 55, 56, 57, 58, 59, 60, 61, 62, 111, 112, 113, 122, 123, 124, 125, 126, 127, 128, 129] (by decide +kernel) (by decide +kernel)
set_option maxRecDepth 20000 in
theorem gX8_search_X7_lineOf : GoodIn wsX8_search (wsV RX8 21 RX7 yX7_lineOf wsX7_lineOf) := goodIn_app (goodIn_of _ (by decide +kernel)) ggX8_search_X7_lineOf
set_option maxRecDepth 20000 in
theorem ggX8_search_X4_isOn : GoodIn wsX8_search wsX4_isOn := goodIn_r _ [67, 68, 69, 117, 118, 119, 120, 121] (by decide +kernel) (by decide +kernel)
set_option maxRecDepth 20000 in
theorem gX8_search_X4_isOn : GoodIn wsX8_search (wsV RX8 46 RX4 yX4_isOn wsX4_isOn) := goodIn_app (goodIn_of _ (by decide +kernel)) ggX8_search_X4_isOn
set_option maxRecDepth 20000 in
theorem ggX8_search_X4_placeOf : GoodIn wsX8_search wsX4_placeOf := goodIn_r _ [73, 74, 75, 117, 118, 119, 120, 121] (by decide +kernel) (by decide +kernel)
set_option maxRecDepth 20000 in
theorem gX8_search_X4_placeOf : GoodIn wsX8_search (wsV RX8 50 RX4 yX4_placeOf wsX4_placeOf) := goodIn_app (goodIn_of _ (by decide +kernel)) ggX8_search_X4_placeOf
set_option maxRecDepth 20000 in
theorem ggX8_search_X8_offer : GoodIn wsX8_search wsX8_offer := goodIn_r _ [80, 81, 82, 23, 83, 7, 3, 4, 84, 85, 86, 79, 87, 114, 115, 116] (by decide +kernel) (by decide +kernel)
set_option maxRecDepth 20000 in
theorem gX8_search_X8_offer : GoodIn wsX8_search (wsV RX8 54 RX8 yX8_offer wsX8_offer) := goodIn_app (goodIn_of _ (by decide +kernel)) ggX8_search_X8_offer
set_option maxRecDepth 20000 in
theorem ggX8_search_X7_find : GoodIn wsX8_search wsX7_find := goodIn_r _ [28, 20, 29, 111, 112, 113, 122, 123, 124, 125, 126, 127, 128, 129] (by decide +kernel) (by decide +kernel)
set_option maxRecDepth 20000 in
theorem gX8_search_X7_find : GoodIn wsX8_search (wsV RX8 58 RX7 yX7_find wsX7_find) := goodIn_app (goodIn_of _ (by decide +kernel)) ggX8_search_X7_find
set_option maxRecDepth 20000 in
theorem ggX8_search_X11_hasBit : GoodIn wsX8_search wsX11_hasBit := goodIn_r _ [32] (by decide +kernel) (by decide +kernel)
set_option maxRecDepth 20000 in
theorem gX8_search_X11_hasBit_n62 : GoodIn wsX8_search (wsX11_hasBit) := ggX8_search_X11_hasBit
set_option maxRecDepth 20000 in
theorem ggX8_search_X6_center : GoodIn wsX8_search wsX6_center := goodIn_r _ [92, 52, 34, 35, 36, 37, 38, 39, 53, 54, 55, 56, 57, 58, 93, 60, 61, 62, 122, 123, 124, 125, 126, 127, 128, 129] (by decide +kernel) (by decide +kernel)
set_option maxRecDepth 20000 in
theorem gX8_search_X6_center : GoodIn wsX8_search (wsV RX8 65 RX6 yX6_center wsX6_center) := goodIn_app (goodIn_of _ (by decide +kernel)) ggX8_search_X6_center
set_option maxRecDepth 20000 in
theorem ggX8_search_X6_start : GoodIn wsX8_search wsX6_start := goodIn_r _ [37, 38, 39, 122, 123, 124, 125, 126, 127, 128, 129] (by decide +kernel) (by decide +kernel)
set_option maxRecDepth 20000 in
theorem gX8_search_X6_start : GoodIn wsX8_search (wsV RX8 70 RX6 yX6_start wsX6_start) := goodIn_app (goodIn_of _ (by decide +kernel)) ggX8_search_X6_start
set_option maxRecDepth 20000 in
theorem ggX8_search_X6_end : GoodIn wsX8_search wsX6_end := goodIn_r _ [51, 52, 34, 35, 36, 37, 38, 39, 53, 54, 55, 56, 57, 58, 122, 123, 124, 125, 126, 127, 128, 129] (by decide +kernel) (by decide +kernel)
set_option maxRecDepth 20000 in
theorem gX8_search_X6_end : GoodIn wsX8_search (wsV RX8 73 RX6 yX6_end wsX6_end) := goodIn_app (goodIn_of _ (by decide +kernel)) ggX8_search_X6_end
set_option maxRecDepth 20000 in
theorem ggX8_search_X8_offerSides : GoodIn wsX8_search wsX8_offerSides := goodIn_r _ [99, 76, 77, 78, 79, 80, 81, 82, 23, 83, 7, 3, 4, 84, 85, 86, 87, 114, 115, 116] (by decide +kernel) (by decide +kernel)
set_option maxRecDepth 20000 in
theorem gX8_search_X8_offerSides : GoodIn wsX8_search (wsV RX8 76 RX8 yX8_offerSides wsX8_offerSides) := goodIn_app (goodIn_of _ (by decide +kernel)) ggX8_search_X8_offerSides
set_option maxRecDepth 20000 in
theorem ggX8_search_X8_offerGrid : GoodIn wsX8_search wsX8_offerGrid := goodIn_r _ [103, 104, 105, 61, 106, 76, 77, 78, 79, 80, 81, 82, 23, 83, 7, 3, 4, 84, 85, 86, 87, 114, 115, 116] (by decide +kernel) (by decide +kernel)
set_option maxRecDepth 20000 in
theorem gX8_search_X8_offerGrid : GoodIn wsX8_search (wsV RX8 83 RX8 yX8_offerGrid wsX8_offerGrid) := goodIn_app (goodIn_of _ (by decide +kernel)) ggX8_search_X8_offerGrid
theorem dX8_search_0 : decode cX8_search 0 = .ok (.aload_n 1, 1) := by decide +kernel
theorem dX8_search_1 : decode cX8_search 1 = .ok (.getfield 9, 3) := by decide +kernel
theorem dX8_search_4 : decode cX8_search 4 = .ok (.astore 4, 2) := by decide +kernel
theorem dX8_search_6 : decode cX8_search 6 = .ok (.aload 4, 2) := by decide +kernel
theorem dX8_search_8 : decode cX8_search 8 = .ok (.aload 4, 2) := by decide +kernel
theorem dX8_search_10 : decode cX8_search 10 = .ok (.getfield 15, 3) := by decide +kernel
theorem dX8_search_13 : decode cX8_search 13 = .ok (.iload_n 2, 1) := by decide +kernel
theorem dX8_search_14 : decode cX8_search 14 = .ok (.iconst 0, 1) := by decide +kernel
theorem dX8_search_15 : decode cX8_search 15 = .ok (.invokevirtual 21, 3) := by decide +kernel
theorem dX8_search_18 : decode cX8_search 18 = .ok (.iload_n 3, 1) := by decide +kernel
theorem dX8_search_19 : decode cX8_search 19 = .ok (.iadd, 1) := by decide +kernel
theorem dX8_search_20 : decode cX8_search 20 = .ok (.istore 5, 2) := by decide +kernel
theorem dX8_search_22 : decode cX8_search 22 = .ok (.aload 4, 2) := by decide +kernel
theorem dX8_search_24 : decode cX8_search 24 = .ok (.aload 4, 2) := by decide +kernel
theorem dX8_search_26 : decode cX8_search 26 = .ok (.getfield 15, 3) := by decide +kernel
theorem dX8_search_29 : decode cX8_search 29 = .ok (.iload_n 2, 1) := by decide +kernel
theorem dX8_search_30 : decode cX8_search 30 = .ok (.iconst 1, 1) := by decide +kernel
theorem dX8_search_31 : decode cX8_search 31 = .ok (.invokevirtual 21, 3) := by decide +kernel
theorem dX8_search_34 : decode cX8_search 34 = .ok (.iload_n 3, 1) := by decide +kernel
theorem dX8_search_35 : decode cX8_search 35 = .ok (.iadd, 1) := by decide +kernel
theorem dX8_search_36 : decode cX8_search 36 = .ok (.istore 6, 2) := by decide +kernel
theorem dX8_search_38 : decode cX8_search 38 = .ok (.aload 4, 2) := by decide +kernel
theorem dX8_search_40 : decode cX8_search 40 = .ok (.aload 4, 2) := by decide +kernel
theorem dX8_search_42 : decode cX8_search 42 = .ok (.getfield 15, 3) := by decide +kernel
theorem dX8_search_45 : decode cX8_search 45 = .ok (.iload_n 2, 1) := by decide +kernel
theorem dX8_search_46 : decode cX8_search 46 = .ok (.iconst 2, 1) := by decide +kernel
theorem dX8_search_47 : decode cX8_search 47 = .ok (.invokevirtual 21, 3) := by decide +kernel
theorem dX8_search_50 : decode cX8_search 50 = .ok (.iload_n 3, 1) := by decide +kernel
theorem dX8_search_51 : decode cX8_search 51 = .ok (.iadd, 1) := by decide +kernel
theorem dX8_search_52 : decode cX8_search 52 = .ok (.istore 7, 2) := by decide +kernel
theorem dX8_search_54 : decode cX8_search 54 = .ok (.aload_n 0, 1) := by decide +kernel
theorem dX8_search_55 : decode cX8_search 55 = .ok (.iconst 4, 1) := by decide +kernel
theorem dX8_search_56 : decode cX8_search 56 = .ok (.putfield 27, 3) := by decide +kernel
theorem dX8_search_59 : decode cX8_search 59 = .ok (.aload_n 0, 1) := by decide +kernel
theorem dX8_search_60 : decode cX8_search 60 = .ok (.iconst 0, 1) := by decide +kernel
theorem dX8_search_61 : decode cX8_search 61 = .ok (.putfield 30, 3) := by decide +kernel
theorem dX8_search_64 : decode cX8_search 64 = .ok (.aload_n 0, 1) := by decide +kernel
theorem dX8_search_65 : decode cX8_search 65 = .ok (.aload_n 1, 1) := by decide +kernel
theorem dX8_search_66 : decode cX8_search 66 = .ok (.getfield 33, 3) := by decide +kernel
theorem dX8_search_69 : decode cX8_search 69 = .ok (.getfield 37, 3) := by decide +kernel
theorem dX8_search_72 : decode cX8_search 72 = .ok (.putfield 42, 3) := by decide +kernel
theorem dX8_search_75 : decode cX8_search 75 = .ok (.iconst 0, 1) := by decide +kernel
theorem dX8_search_76 : decode cX8_search 76 = .ok (.istore 8, 2) := by decide +kernel
theorem dX8_search_78 : decode cX8_search 78 = .ok (.iload 8, 2) := by decide +kernel
theorem dX8_search_80 : decode cX8_search 80 = .ok (.aload_n 1, 1) := by decide +kernel
theorem dX8_search_81 : decode cX8_search 81 = .ok (.getfield 33, 3) := by decide +kernel
theorem dX8_search_84 : decode cX8_search 84 = .ok (.getfield 43, 3) := by decide +kernel
theorem dX8_search_87 : decode cX8_search 87 = .ok (.if_icmp .ge 63, 3) := by decide +kernel
theorem dX8_search_90 : decode cX8_search 90 = .ok (.aload_n 1, 1) := by decide +kernel
theorem dX8_search_91 : decode cX8_search 91 = .ok (.getfield 33, 3) := by decide +kernel
theorem dX8_search_94 : decode cX8_search 94 = .ok (.iload 8, 2) := by decide +kernel
theorem dX8_search_96 : decode cX8_search 96 = .ok (.iload_n 2, 1) := by decide +kernel
theorem dX8_search_97 : decode cX8_search 97 = .ok (.invokevirtual 46, 3) := by decide +kernel
theorem dX8_search_100 : decode cX8_search 100 = .ok (.ifCond .eq 44, 3) := by decide +kernel
theorem dX8_search_103 : decode cX8_search 103 = .ok (.aload_n 1, 1) := by decide +kernel
theorem dX8_search_104 : decode cX8_search 104 = .ok (.getfield 33, 3) := by decide +kernel
theorem dX8_search_107 : decode cX8_search 107 = .ok (.iload 8, 2) := by decide +kernel
theorem dX8_search_109 : decode cX8_search 109 = .ok (.invokevirtual 50, 3) := by decide +kernel
theorem dX8_search_112 : decode cX8_search 112 = .ok (.istore 9, 2) := by decide +kernel
theorem dX8_search_114 : decode cX8_search 114 = .ok (.aload_n 0, 1) := by decide +kernel
theorem dX8_search_115 : decode cX8_search 115 = .ok (.iconst 0, 1) := by decide +kernel
theorem dX8_search_116 : decode cX8_search 116 = .ok (.iload 9, 2) := by decide +kernel
theorem dX8_search_118 : decode cX8_search 118 = .ok (.iload 5, 2) := by decide +kernel
theorem dX8_search_120 : decode cX8_search 120 = .ok (.isub, 1) := by decide +kernel
theorem dX8_search_121 : decode cX8_search 121 = .ok (.invokevirtual 54, 3) := by decide +kernel
theorem dX8_search_124 : decode cX8_search 124 = .ok (.aload_n 0, 1) := by decide +kernel
theorem dX8_search_125 : decode cX8_search 125 = .ok (.iconst 0, 1) := by decide +kernel
theorem dX8_search_126 : decode cX8_search 126 = .ok (.iload 9, 2) := by decide +kernel
theorem dX8_search_128 : decode cX8_search 128 = .ok (.iload 6, 2) := by decide +kernel
theorem dX8_search_130 : decode cX8_search 130 = .ok (.isub, 1) := by decide +kernel
theorem dX8_search_131 : decode cX8_search 131 = .ok (.invokevirtual 54, 3) := by decide +kernel
theorem dX8_search_134 : decode cX8_search 134 = .ok (.aload_n 0, 1) := by decide +kernel
theorem dX8_search_135 : decode cX8_search 135 = .ok (.iconst 0, 1) := by decide +kernel
theorem dX8_search_136 : decode cX8_search 136 = .ok (.iload 9, 2) := by decide +kernel
theorem dX8_search_138 : decode cX8_search 138 = .ok (.iload 7, 2) := by decide +kernel
theorem dX8_search_140 : decode cX8_search 140 = .ok (.isub, 1) := by decide +kernel
theorem dX8_search_141 : decode cX8_search 141 = .ok (.invokevirtual 54, 3) := by decide +kernel
theorem dX8_search_144 : decode cX8_search 144 = .ok (.iinc 8 1, 3) := by decide +kernel
theorem dX8_search_147 : decode cX8_search 147 = .ok (.goto (-69), 3) := by decide +kernel
theorem dX8_search_150 : decode cX8_search 150 = .ok (.iconst 0, 1) := by decide +kernel
theorem dX8_search_151 : decode cX8_search 151 = .ok (.istore 8, 2) := by decide +kernel
theorem dX8_search_153 : decode cX8_search 153 = .ok (.iload 8, 2) := by decide +kernel
theorem dX8_search_155 : decode cX8_search 155 = .ok (.bipush 20, 2) := by decide +kernel
theorem dX8_search_157 : decode cX8_search 157 = .ok (.if_icmp .ge 86, 3) := by decide +kernel
theorem dX8_search_160 : decode cX8_search 160 = .ok (.aload 4, 2) := by decide +kernel
theorem dX8_search_162 : decode cX8_search 162 = .ok (.iload 8, 2) := by decide +kernel
theorem dX8_search_164 : decode cX8_search 164 = .ok (.invokevirtual 58, 3) := by decide +kernel
theorem dX8_search_167 : decode cX8_search 167 = .ok (.astore 9, 2) := by decide +kernel
theorem dX8_search_169 : decode cX8_search 169 = .ok (.aload 9, 2) := by decide +kernel
theorem dX8_search_171 : decode cX8_search 171 = .ok (.ifnull 66, 3) := by decide +kernel
theorem dX8_search_174 : decode cX8_search 174 = .ok (.aload 4, 2) := by decide +kernel
theorem dX8_search_176 : decode cX8_search 176 = .ok (.getfield 15, 3) := by decide +kernel
theorem dX8_search_179 : decode cX8_search 179 = .ok (.iload 8, 2) := by decide +kernel
theorem dX8_search_181 : decode cX8_search 181 = .ok (.invokestatic 62, 3) := by decide +kernel
theorem dX8_search_184 : decode cX8_search 184 = .ok (.ifCond .ne 53, 3) := by decide +kernel
theorem dX8_search_187 : decode cX8_search 187 = .ok (.aload_n 0, 1) := by decide +kernel
theorem dX8_search_188 : decode cX8_search 188 = .ok (.iconst 1, 1) := by decide +kernel
theorem dX8_search_189 : decode cX8_search 189 = .ok (.aload 9, 2) := by decide +kernel
theorem dX8_search_191 : decode cX8_search 191 = .ok (.iload_n 2, 1) := by decide +kernel
theorem dX8_search_192 : decode cX8_search 192 = .ok (.invokevirtual 65, 3) := by decide +kernel
theorem dX8_search_195 : decode cX8_search 195 = .ok (.iload 6, 2) := by decide +kernel
theorem dX8_search_197 : decode cX8_search 197 = .ok (.isub, 1) := by decide +kernel
theorem dX8_search_198 : decode cX8_search 198 = .ok (.invokevirtual 54, 3) := by decide +kernel
theorem dX8_search_201 : decode cX8_search 201 = .ok (.aload_n 0, 1) := by decide +kernel
theorem dX8_search_202 : decode cX8_search 202 = .ok (.aload 9, 2) := by decide +kernel
theorem dX8_search_204 : decode cX8_search 204 = .ok (.iload_n 2, 1) := by decide +kernel
theorem dX8_search_205 : decode cX8_search 205 = .ok (.invokevirtual 70, 3) := by decide +kernel
theorem dX8_search_208 : decode cX8_search 208 = .ok (.aload 9, 2) := by decide +kernel
theorem dX8_search_210 : decode cX8_search 210 = .ok (.iload_n 2, 1) := by decide +kernel
theorem dX8_search_211 : decode cX8_search 211 = .ok (.invokevirtual 73, 3) := by decide +kernel
theorem dX8_search_214 : decode cX8_search 214 = .ok (.iload 5, 2) := by decide +kernel
theorem dX8_search_216 : decode cX8_search 216 = .ok (.invokevirtual 76, 3) := by decide +kernel
theorem dX8_search_219 : decode cX8_search 219 = .ok (.aload_n 0, 1) := by decide +kernel
theorem dX8_search_220 : decode cX8_search 220 = .ok (.aload 9, 2) := by decide +kernel
theorem dX8_search_222 : decode cX8_search 222 = .ok (.iload_n 2, 1) := by decide +kernel
theorem dX8_search_223 : decode cX8_search 223 = .ok (.invokevirtual 70, 3) := by decide +kernel
theorem dX8_search_226 : decode cX8_search 226 = .ok (.aload 9, 2) := by decide +kernel
theorem dX8_search_228 : decode cX8_search 228 = .ok (.iload_n 2, 1) := by decide +kernel
theorem dX8_search_229 : decode cX8_search 229 = .ok (.invokevirtual 73, 3) := by decide +kernel
theorem dX8_search_232 : decode cX8_search 232 = .ok (.iload 7, 2) := by decide +kernel
theorem dX8_search_234 : decode cX8_search 234 = .ok (.invokevirtual 76, 3) := by decide +kernel
theorem dX8_search_237 : decode cX8_search 237 = .ok (.iinc 8 1, 3) := by decide +kernel
theorem dX8_search_240 : decode cX8_search 240 = .ok (.goto (-87), 3) := by decide +kernel
theorem dX8_search_243 : decode cX8_search 243 = .ok (.aload_n 0, 1) := by decide +kernel
theorem dX8_search_244 : decode cX8_search 244 = .ok (.aload_n 1, 1) := by decide +kernel
theorem dX8_search_245 : decode cX8_search 245 = .ok (.getfield 33, 3) := by decide +kernel
theorem dX8_search_248 : decode cX8_search 248 = .ok (.getfield 80, 3) := by decide +kernel
theorem dX8_search_251 : decode cX8_search 251 = .ok (.iload 5, 2) := by decide +kernel
theorem dX8_search_253 : decode cX8_search 253 = .ok (.invokevirtual 83, 3) := by decide +kernel
theorem dX8_search_256 : decode cX8_search 256 = .ok (.return_, 1) := by decide +kernel
set_option maxRecDepth 20000 in
theorem ggX8_offerSides_X8_offer : GoodIn wsX8_offerSides wsX8_offer := goodIn_r _ [5, 6, 7, 8, 9, 10, 11, 12, 13, 14, 15, 4, 16, 17, 18, 19] (by decide +kernel) (by decide +kernel)
set_option maxRecDepth 20000 in
theorem gX8_offerSides_X8_offer : GoodIn wsX8_offerSides (wsV RX8 54 RX8 yX8_offer wsX8_offer) := goodIn_app (goodIn_of _ (by decide +kernel)) ggX8_offerSides_X8_offer
theorem dX8_offerSides_0 : decode cX8_offerSides 0 = .ok (.aload_n 0, 1) := by decide +kernel
theorem dX8_offerSides_1 : decode cX8_offerSides 1 = .ok (.iconst 2, 1) := by decide +kernel
theorem dX8_offerSides_2 : decode cX8_offerSides 2 = .ok (.iload_n 1, 1) := by decide +kernel
theorem dX8_offerSides_3 : decode cX8_offerSides 3 = .ok (.iload_n 3, 1) := by decide +kernel
theorem dX8_offerSides_4 : decode cX8_offerSides 4 = .ok (.isub, 1) := by decide +kernel
theorem dX8_offerSides_5 : decode cX8_offerSides 5 = .ok (.invokevirtual 54, 3) := by decide +kernel
theorem dX8_offerSides_8 : decode cX8_offerSides 8 = .ok (.aload_n 0, 1) := by decide +kernel
theorem dX8_offerSides_9 : decode cX8_offerSides 9 = .ok (.iconst 2, 1) := by decide +kernel
theorem dX8_offerSides_10 : decode cX8_offerSides 10 = .ok (.iload_n 2, 1) := by decide +kernel
theorem dX8_offerSides_11 : decode cX8_offerSides 11 = .ok (.iload_n 3, 1) := by decide +kernel
theorem dX8_offerSides_12 : decode cX8_offerSides 12 = .ok (.isub, 1) := by decide +kernel
theorem dX8_offerSides_13 : decode cX8_offerSides 13 = .ok (.invokevirtual 54, 3) := by decide +kernel
theorem dX8_offerSides_16 : decode cX8_offerSides 16 = .ok (.return_, 1) := by decide +kernel
set_option maxRecDepth 20000 in
theorem ggX8_offerGrid_J9_floorMod_7cf53 : GoodIn wsX8_offerGrid wsJ9_floorMod_7cf53 := goodIn_r _ [4] (by decide +kernel) (by decide +kernel)
set_option maxRecDepth 20000 in
theorem gX8_offerGrid_J9_floorMod_7cf53 : GoodIn wsX8_offerGrid (va_wsS RX8 86 yJ9_floorMod_7cf53 wsJ9_floorMod_7cf53) := goodIn_app (goodIn_of _ (by decide +kernel)) ggX8_offerGrid_J9_floorMod_7cf53
set_option maxRecDepth 20000 in
theorem ggX8_offerGrid_X8_offer : GoodIn wsX8_offerGrid wsX8_offer := goodIn_r _ [9, 10, 11, 12, 13, 14, 15, 16, 17, 18, 19, 8, 20, 21, 22, 23] (by decide +kernel) (by decide +kernel)
set_option maxRecDepth 20000 in
theorem gX8_offerGrid_X8_offer : GoodIn wsX8_offerGrid (wsV RX8 54 RX8 yX8_offer wsX8_offer) := goodIn_app (goodIn_of _ (by decide +kernel)) ggX8_offerGrid_X8_offer
theorem dX8_offerGrid_0 : decode cX8_offerGrid 0 = .ok (.iload_n 1, 1) := by decide +kernel
theorem dX8_offerGrid_1 : decode cX8_offerGrid 1 = .ok (.ifCond .le 24, 3) := by decide +kernel
theorem dX8_offerGrid_4 : decode cX8_offerGrid 4 = .ok (.iload_n 2, 1) := by decide +kernel
theorem dX8_offerGrid_5 : decode cX8_offerGrid 5 = .ok (.iload_n 1, 1) := by decide +kernel
theorem dX8_offerGrid_6 : decode cX8_offerGrid 6 = .ok (.invokestatic 86, 3) := by decide +kernel
theorem dX8_offerGrid_9 : decode cX8_offerGrid 9 = .ok (.istore_n 3, 1) := by decide +kernel
theorem dX8_offerGrid_10 : decode cX8_offerGrid 10 = .ok (.aload_n 0, 1) := by decide +kernel
theorem dX8_offerGrid_11 : decode cX8_offerGrid 11 = .ok (.iconst 3, 1) := by decide +kernel
theorem dX8_offerGrid_12 : decode cX8_offerGrid 12 = .ok (.iload_n 3, 1) := by decide +kernel
theorem dX8_offerGrid_13 : decode cX8_offerGrid 13 = .ok (.ineg, 1) := by decide +kernel
theorem dX8_offerGrid_14 : decode cX8_offerGrid 14 = .ok (.invokevirtual 54, 3) := by decide +kernel
theorem dX8_offerGrid_17 : decode cX8_offerGrid 17 = .ok (.aload_n 0, 1) := by decide +kernel
theorem dX8_offerGrid_18 : decode cX8_offerGrid 18 = .ok (.iconst 3, 1) := by decide +kernel
theorem dX8_offerGrid_19 : decode cX8_offerGrid 19 = .ok (.iload_n 1, 1) := by decide +kernel
theorem dX8_offerGrid_20 : decode cX8_offerGrid 20 = .ok (.iload_n 3, 1) := by decide +kernel
theorem dX8_offerGrid_21 : decode cX8_offerGrid 21 = .ok (.isub, 1) := by decide +kernel
theorem dX8_offerGrid_22 : decode cX8_offerGrid 22 = .ok (.invokevirtual 54, 3) := by decide +kernel
theorem dX8_offerGrid_25 : decode cX8_offerGrid 25 = .ok (.return_, 1) := by decide +kernel
set_option maxRecDepth 20000 in
theorem ggX8_offer_X8_isNearer : GoodIn wsX8_offer wsX8_isNearer := goodIn_r _ [12, 1, 2, 3, 4, 7, 13, 14, 15] (by decide +kernel) (by decide +kernel)
set_option maxRecDepth 20000 in
theorem gX8_offer_X8_isNearer : GoodIn wsX8_offer (wsV RX8 95 RX8 yX8_isNearer wsX8_isNearer) := goodIn_app (goodIn_of _ (by decide +kernel)) ggX8_offer_X8_isNearer
theorem dX8_offer_0 : decode cX8_offer 0 = .ok (.iload_n 2, 1) := by decide +kernel
theorem dX8_offer_1 : decode cX8_offer 1 = .ok (.invokestatic 92, 3) := by decide +kernel
theorem dX8_offer_4 : decode cX8_offer 4 = .ok (.aload_n 0, 1) := by decide +kernel
theorem dX8_offer_5 : decode cX8_offer 5 = .ok (.getfield 42, 3) := by decide +kernel
theorem dX8_offer_8 : decode cX8_offer 8 = .ok (.if_icmp .gt 11, 3) := by decide +kernel
theorem dX8_offer_11 : decode cX8_offer 11 = .ok (.iload_n 1, 1) := by decide +kernel
theorem dX8_offer_12 : decode cX8_offer 12 = .ok (.aload_n 0, 1) := by decide +kernel
theorem dX8_offer_13 : decode cX8_offer 13 = .ok (.getfield 27, 3) := by decide +kernel
theorem dX8_offer_16 : decode cX8_offer 16 = .ok (.if_icmp .le 4, 3) := by decide +kernel
theorem dX8_offer_19 : decode cX8_offer 19 = .ok (.return_, 1) := by decide +kernel
theorem dX8_offer_20 : decode cX8_offer 20 = .ok (.iload_n 1, 1) := by decide +kernel
theorem dX8_offer_21 : decode cX8_offer 21 = .ok (.aload_n 0, 1) := by decide +kernel
theorem dX8_offer_22 : decode cX8_offer 22 = .ok (.getfield 27, 3) := by decide +kernel
theorem dX8_offer_25 : decode cX8_offer 25 = .ok (.if_icmp .lt 11, 3) := by decide +kernel
theorem dX8_offer_28 : decode cX8_offer 28 = .ok (.aload_n 0, 1) := by decide +kernel
theorem dX8_offer_29 : decode cX8_offer 29 = .ok (.iload_n 2, 1) := by decide +kernel
theorem dX8_offer_30 : decode cX8_offer 30 = .ok (.invokevirtual 95, 3) := by decide +kernel
theorem dX8_offer_33 : decode cX8_offer 33 = .ok (.ifCond .eq 13, 3) := by decide +kernel
theorem dX8_offer_36 : decode cX8_offer 36 = .ok (.aload_n 0, 1) := by decide +kernel
theorem dX8_offer_37 : decode cX8_offer 37 = .ok (.iload_n 1, 1) := by decide +kernel
theorem dX8_offer_38 : decode cX8_offer 38 = .ok (.putfield 27, 3) := by decide +kernel
theorem dX8_offer_41 : decode cX8_offer 41 = .ok (.aload_n 0, 1) := by decide +kernel
theorem dX8_offer_42 : decode cX8_offer 42 = .ok (.iload_n 2, 1) := by decide +kernel
theorem dX8_offer_43 : decode cX8_offer 43 = .ok (.putfield 30, 3) := by decide +kernel
theorem dX8_offer_46 : decode cX8_offer 46 = .ok (.return_, 1) := by decide +kernel
theorem dX8_isNearer_0 : decode cX8_isNearer 0 = .ok (.iload_n 1, 1) := by decide +kernel
theorem dX8_isNearer_1 : decode cX8_isNearer 1 = .ok (.invokestatic 92, 3) := by decide +kernel
theorem dX8_isNearer_4 : decode cX8_isNearer 4 = .ok (.istore_n 2, 1) := by decide +kernel
theorem dX8_isNearer_5 : decode cX8_isNearer 5 = .ok (.aload_n 0, 1) := by decide +kernel
theorem dX8_isNearer_6 : decode cX8_isNearer 6 = .ok (.getfield 30, 3) := by decide +kernel
theorem dX8_isNearer_9 : decode cX8_isNearer 9 = .ok (.invokestatic 92, 3) := by decide +kernel
theorem dX8_isNearer_12 : decode cX8_isNearer 12 = .ok (.istore_n 3, 1) := by decide +kernel
theorem dX8_isNearer_13 : decode cX8_isNearer 13 = .ok (.iload_n 2, 1) := by decide +kernel
theorem dX8_isNearer_14 : decode cX8_isNearer 14 = .ok (.iload_n 3, 1) := by decide +kernel
theorem dX8_isNearer_15 : decode cX8_isNearer 15 = .ok (.if_icmp .lt 16, 3) := by decide +kernel
theorem dX8_isNearer_18 : decode cX8_isNearer 18 = .ok (.iload_n 2, 1) := by decide +kernel
theorem dX8_isNearer_19 : decode cX8_isNearer 19 = .ok (.iload_n 3, 1) := by decide +kernel
theorem dX8_isNearer_20 : decode cX8_isNearer 20 = .ok (.if_icmp .ne 15, 3) := by decide +kernel
theorem dX8_isNearer_23 : decode cX8_isNearer 23 = .ok (.iload_n 1, 1) := by decide +kernel
theorem dX8_isNearer_24 : decode cX8_isNearer 24 = .ok (.aload_n 0, 1) := by decide +kernel
theorem dX8_isNearer_25 : decode cX8_isNearer 25 = .ok (.getfield 30, 3) := by decide +kernel
theorem dX8_isNearer_28 : decode cX8_isNearer 28 = .ok (.if_icmp .ge 7, 3) := by decide +kernel
theorem dX8_isNearer_31 : decode cX8_isNearer 31 = .ok (.iconst 1, 1) := by decide +kernel
theorem dX8_isNearer_32 : decode cX8_isNearer 32 = .ok (.goto 4, 3) := by decide +kernel
theorem dX8_isNearer_35 : decode cX8_isNearer 35 = .ok (.iconst 0, 1) := by decide +kernel
theorem dX8_isNearer_36 : decode cX8_isNearer 36 = .ok (.ireturn, 1) := by decide +kernel
set_option maxRecDepth 20000 in
theorem ggX9_init_X6_init : GoodIn wsX9_init wsX6_init := goodIn_r _ [11, 12, 2, 3] (by decide +kernel) (by decide +kernel)
set_option maxRecDepth 20000 in
theorem gX9_init_X6_init_n21 : GoodIn wsX9_init (wsX6_init) := ggX9_init_X6_init
theorem dX9_init_0 : decode cX9_init 0 = .ok (.aload_n 0, 1) := by decide +kernel
theorem dX9_init_1 : decode cX9_init 1 = .ok (.invokespecial 3, 3) := by decide +kernel
theorem dX9_init_4 : decode cX9_init 4 = .ok (.aload_n 0, 1) := by decide +kernel
theorem dX9_init_5 : decode cX9_init 5 = .ok (.bipush 60, 2) := by decide +kernel
theorem dX9_init_7 : decode cX9_init 7 = .ok (.newarray .int, 2) := by decide +kernel
theorem dX9_init_9 : decode cX9_init 9 = .ok (.putfield 9, 3) := by decide +kernel
theorem dX9_init_12 : decode cX9_init 12 = .ok (.aload_n 0, 1) := by decide +kernel
theorem dX9_init_13 : decode cX9_init 13 = .ok (.bipush 7, 2) := by decide +kernel
theorem dX9_init_15 : decode cX9_init 15 = .ok (.anewarray 15, 3) := by decide +kernel
theorem dX9_init_18 : decode cX9_init 18 = .ok (.putfield 17, 3) := by decide +kernel
theorem dX9_init_21 : decode cX9_init 21 = .ok (.iconst 0, 1) := by decide +kernel
theorem dX9_init_22 : decode cX9_init 22 = .ok (.istore_n 1, 1) := by decide +kernel
theorem dX9_init_23 : decode cX9_init 23 = .ok (.iload_n 1, 1) := by decide +kernel
theorem dX9_init_24 : decode cX9_init 24 = .ok (.aload_n 0, 1) := by decide +kernel
theorem dX9_init_25 : decode cX9_init 25 = .ok (.getfield 17, 3) := by decide +kernel
theorem dX9_init_28 : decode cX9_init 28 = .ok (.arraylength, 1) := by decide +kernel
theorem dX9_init_29 : decode cX9_init 29 = .ok (.if_icmp .ge 22, 3) := by decide +kernel
theorem dX9_init_32 : decode cX9_init 32 = .ok (.aload_n 0, 1) := by decide +kernel
theorem dX9_init_33 : decode cX9_init 33 = .ok (.getfield 17, 3) := by decide +kernel
theorem dX9_init_36 : decode cX9_init 36 = .ok (.iload_n 1, 1) := by decide +kernel
theorem dX9_init_37 : decode cX9_init 37 = .ok (.new 15, 3) := by decide +kernel
theorem dX9_init_40 : decode cX9_init 40 = .ok (.dup, 1) := by decide +kernel
theorem dX9_init_41 : decode cX9_init 41 = .ok (.invokespecial 21, 3) := by decide +kernel
theorem dX9_init_44 : decode cX9_init 44 = .ok (.aastore, 1) := by decide +kernel
theorem dX9_init_45 : decode cX9_init 45 = .ok (.iinc 1 1, 3) := by decide +kernel
theorem dX9_init_48 : decode cX9_init 48 = .ok (.goto (-25), 3) := by decide +kernel
theorem dX9_init_51 : decode cX9_init 51 = .ok (.return_, 1) := by decide +kernel
theorem dX9_append_0 : decode cX9_append 0 = .ok (.aload_n 0, 1) := by decide +kernel
theorem dX9_append_1 : decode cX9_append 1 = .ok (.getfield 22, 3) := by decide +kernel
theorem dX9_append_4 : decode cX9_append 4 = .ok (.ifCond .lt 15, 3) := by decide +kernel
theorem dX9_append_7 : decode cX9_append 7 = .ok (.aload_n 0, 1) := by decide +kernel
theorem dX9_append_8 : decode cX9_append 8 = .ok (.getfield 22, 3) := by decide +kernel
theorem dX9_append_11 : decode cX9_append 11 = .ok (.aload_n 0, 1) := by decide +kernel
theorem dX9_append_12 : decode cX9_append 12 = .ok (.getfield 9, 3) := by decide +kernel
theorem dX9_append_15 : decode cX9_append 15 = .ok (.arraylength, 1) := by decide +kernel
theorem dX9_append_16 : decode cX9_append 16 = .ok (.if_icmp .lt 5, 3) := by decide +kernel
theorem dX9_append_19 : decode cX9_append 19 = .ok (.iconst 0, 1) := by decide +kernel
theorem dX9_append_20 : decode cX9_append 20 = .ok (.ireturn, 1) := by decide +kernel
theorem dX9_append_21 : decode cX9_append 21 = .ok (.aload_n 0, 1) := by decide +kernel
theorem dX9_append_22 : decode cX9_append 22 = .ok (.getfield 9, 3) := by decide +kernel
theorem dX9_append_25 : decode cX9_append 25 = .ok (.aload_n 0, 1) := by decide +kernel
theorem dX9_append_26 : decode cX9_append 26 = .ok (.getfield 22, 3) := by decide +kernel
theorem dX9_append_29 : decode cX9_append 29 = .ok (.iload_n 1, 1) := by decide +kernel
theorem dX9_append_30 : decode cX9_append 30 = .ok (.iastore, 1) := by decide +kernel
theorem dX9_append_31 : decode cX9_append 31 = .ok (.aload_n 0, 1) := by decide +kernel
theorem dX9_append_32 : decode cX9_append 32 = .ok (.dup, 1) := by decide +kernel
theorem dX9_append_33 : decode cX9_append 33 = .ok (.getfield 22, 3) := by decide +kernel
theorem dX9_append_36 : decode cX9_append 36 = .ok (.iconst 1, 1) := by decide +kernel
theorem dX9_append_37 : decode cX9_append 37 = .ok (.iadd, 1) := by decide +kernel
theorem dX9_append_38 : decode cX9_append 38 = .ok (.putfield 22, 3) := by decide +kernel
theorem dX9_append_41 : decode cX9_append 41 = .ok (.iconst 1, 1) := by decide +kernel
theorem dX9_append_42 : decode cX9_append 42 = .ok (.ireturn, 1) := by decide +kernel
theorem dX9_draft_0 : decode cX9_draft 0 = .ok (.iload_n 1, 1) := by decide +kernel
theorem dX9_draft_1 : decode cX9_draft 1 = .ok (.ifCond .lt 21, 3) := by decide +kernel
theorem dX9_draft_4 : decode cX9_draft 4 = .ok (.iload_n 1, 1) := by decide +kernel
theorem dX9_draft_5 : decode cX9_draft 5 = .ok (.aload_n 0, 1) := by decide +kernel
theorem dX9_draft_6 : decode cX9_draft 6 = .ok (.getfield 17, 3) := by decide +kernel
theorem dX9_draft_9 : decode cX9_draft 9 = .ok (.arraylength, 1) := by decide +kernel
theorem dX9_draft_10 : decode cX9_draft 10 = .ok (.if_icmp .ge 12, 3) := by decide +kernel
theorem dX9_draft_13 : decode cX9_draft 13 = .ok (.aload_n 0, 1) := by decide +kernel
theorem dX9_draft_14 : decode cX9_draft 14 = .ok (.getfield 17, 3) := by decide +kernel
theorem dX9_draft_17 : decode cX9_draft 17 = .ok (.iload_n 1, 1) := by decide +kernel
theorem dX9_draft_18 : decode cX9_draft 18 = .ok (.aaload, 1) := by decide +kernel
theorem dX9_draft_19 : decode cX9_draft 19 = .ok (.goto 4, 3) := by decide +kernel
theorem dX9_draft_22 : decode cX9_draft 22 = .ok (.aconst_null, 1) := by decide +kernel
theorem dX9_draft_23 : decode cX9_draft 23 = .ok (.areturn, 1) := by decide +kernel
theorem dX9_code_0 : decode cX9_code 0 = .ok (.aload_n 0, 1) := by decide +kernel
theorem dX9_code_1 : decode cX9_code 1 = .ok (.getfield 26, 3) := by decide +kernel
theorem dX9_code_4 : decode cX9_code 4 = .ok (.ifCond .lt 38, 3) := by decide +kernel
theorem dX9_code_7 : decode cX9_code 7 = .ok (.aload_n 0, 1) := by decide +kernel
theorem dX9_code_8 : decode cX9_code 8 = .ok (.getfield 26, 3) := by decide +kernel
theorem dX9_code_11 : decode cX9_code 11 = .ok (.aload_n 0, 1) := by decide +kernel
theorem dX9_code_12 : decode cX9_code 12 = .ok (.getfield 22, 3) := by decide +kernel
theorem dX9_code_15 : decode cX9_code 15 = .ok (.if_icmp .ge 27, 3) := by decide +kernel
theorem dX9_code_18 : decode cX9_code 18 = .ok (.aload_n 0, 1) := by decide +kernel
theorem dX9_code_19 : decode cX9_code 19 = .ok (.getfield 26, 3) := by decide +kernel
theorem dX9_code_22 : decode cX9_code 22 = .ok (.aload_n 0, 1) := by decide +kernel
theorem dX9_code_23 : decode cX9_code 23 = .ok (.getfield 9, 3) := by decide +kernel
theorem dX9_code_26 : decode cX9_code 26 = .ok (.arraylength, 1) := by decide +kernel
theorem dX9_code_27 : decode cX9_code 27 = .ok (.if_icmp .ge 15, 3) := by decide +kernel
theorem dX9_code_30 : decode cX9_code 30 = .ok (.aload_n 0, 1) := by decide +kernel
theorem dX9_code_31 : decode cX9_code 31 = .ok (.getfield 9, 3) := by decide +kernel
theorem dX9_code_34 : decode cX9_code 34 = .ok (.aload_n 0, 1) := by decide +kernel
theorem dX9_code_35 : decode cX9_code 35 = .ok (.getfield 26, 3) := by decide +kernel
theorem dX9_code_38 : decode cX9_code 38 = .ok (.iaload, 1) := by decide +kernel
theorem dX9_code_39 : decode cX9_code 39 = .ok (.goto 5, 3) := by decide +kernel
theorem dX9_code_42 : decode cX9_code 42 = .ok (.ldc 29, 2) := by decide +kernel
theorem dX9_code_44 : decode cX9_code 44 = .ok (.ireturn, 1) := by decide +kernel
set_option maxRecDepth 20000 in
theorem ggX9_parse_X9_parseShape : GoodIn wsX9_parse wsX9_parseShape := goodIn_r _ [11, 12, 3, 1, 13, 14, 15, 10, 16, 6, 17, 18, 19, 20, 21, 22, 23, 24, 25, 26, 27, 28, 29, 30, 31, 32, 4, 33, 34, 35, 36, 37, 38, 39, 40, 41, 49, 50, 51, 52, 53, 54, 55, 56, 42, 43, 44, 45, 46, 47, 48] (by decide +kernel) (by decide +kernel)
set_option maxRecDepth 20000 in
theorem gX9_parse_X9_parseShape : GoodIn wsX9_parse (wsV RX9 36 RX9 yX9_parseShape wsX9_parseShape) := goodIn_app (goodIn_of _ (by decide +kernel)) ggX9_parse_X9_parseShape
set_option maxRecDepth 20000 in
theorem ggX9_parse_X9_code : GoodIn wsX9_parse wsX9_code := goodIn_r _ [16, 1, 6, 17, 3, 42, 43, 44, 45, 46, 47, 48] (by decide +kernel) (by decide +kernel)
set_option maxRecDepth 20000 in
theorem gX9_parse_X9_code : GoodIn wsX9_parse (wsV RX9 40 RX9 yX9_code wsX9_code) := goodIn_app (goodIn_of _ (by decide +kernel)) ggX9_parse_X9_code
theorem dX9_parse_0 : decode cX9_parse 0 = .ok (.aload_n 0, 1) := by decide +kernel
theorem dX9_parse_1 : decode cX9_parse 1 = .ok (.iconst 0, 1) := by decide +kernel
theorem dX9_parse_2 : decode cX9_parse 2 = .ok (.putfield 26, 3) := by decide +kernel
theorem dX9_parse_5 : decode cX9_parse 5 = .ok (.aload_n 0, 1) := by decide +kernel
theorem dX9_parse_6 : decode cX9_parse 6 = .ok (.iconst 0, 1) := by decide +kernel
theorem dX9_parse_7 : decode cX9_parse 7 = .ok (.putfield 30, 3) := by decide +kernel
theorem dX9_parse_10 : decode cX9_parse 10 = .ok (.aload_n 0, 1) := by decide +kernel
theorem dX9_parse_11 : decode cX9_parse 11 = .ok (.ldc 29, 2) := by decide +kernel
theorem dX9_parse_13 : decode cX9_parse 13 = .ok (.putfield 33, 3) := by decide +kernel
theorem dX9_parse_16 : decode cX9_parse 16 = .ok (.iconst 0, 1) := by decide +kernel
theorem dX9_parse_17 : decode cX9_parse 17 = .ok (.istore_n 1, 1) := by decide +kernel
theorem dX9_parse_18 : decode cX9_parse 18 = .ok (.iload_n 1, 1) := by decide +kernel
theorem dX9_parse_19 : decode cX9_parse 19 = .ok (.aload_n 0, 1) := by decide +kernel
theorem dX9_parse_20 : decode cX9_parse 20 = .ok (.getfield 17, 3) := by decide +kernel
theorem dX9_parse_23 : decode cX9_parse 23 = .ok (.arraylength, 1) := by decide +kernel
theorem dX9_parse_24 : decode cX9_parse 24 = .ok (.if_icmp .ge 83, 3) := by decide +kernel
theorem dX9_parse_27 : decode cX9_parse 27 = .ok (.aload_n 0, 1) := by decide +kernel
theorem dX9_parse_28 : decode cX9_parse 28 = .ok (.getfield 17, 3) := by decide +kernel
theorem dX9_parse_31 : decode cX9_parse 31 = .ok (.iload_n 1, 1) := by decide +kernel
theorem dX9_parse_32 : decode cX9_parse 32 = .ok (.aaload, 1) := by decide +kernel
theorem dX9_parse_33 : decode cX9_parse 33 = .ok (.astore_n 2, 1) := by decide +kernel
theorem dX9_parse_34 : decode cX9_parse 34 = .ok (.aload_n 2, 1) := by decide +kernel
theorem dX9_parse_35 : decode cX9_parse 35 = .ok (.ifnull 11, 3) := by decide +kernel
theorem dX9_parse_38 : decode cX9_parse 38 = .ok (.aload_n 0, 1) := by decide +kernel
theorem dX9_parse_39 : decode cX9_parse 39 = .ok (.aload_n 2, 1) := by decide +kernel
theorem dX9_parse_40 : decode cX9_parse 40 = .ok (.invokevirtual 36, 3) := by decide +kernel
theorem dX9_parse_43 : decode cX9_parse 43 = .ok (.ifCond .ne 8, 3) := by decide +kernel
theorem dX9_parse_46 : decode cX9_parse 46 = .ok (.aload_n 0, 1) := by decide +kernel
theorem dX9_parse_47 : decode cX9_parse 47 = .ok (.getfield 26, 3) := by decide +kernel
theorem dX9_parse_50 : decode cX9_parse 50 = .ok (.ireturn, 1) := by decide +kernel
theorem dX9_parse_51 : decode cX9_parse 51 = .ok (.aload_n 0, 1) := by decide +kernel
theorem dX9_parse_52 : decode cX9_parse 52 = .ok (.dup, 1) := by decide +kernel
theorem dX9_parse_53 : decode cX9_parse 53 = .ok (.getfield 30, 3) := by decide +kernel
theorem dX9_parse_56 : decode cX9_parse 56 = .ok (.iconst 1, 1) := by decide +kernel
theorem dX9_parse_57 : decode cX9_parse 57 = .ok (.iadd, 1) := by decide +kernel
theorem dX9_parse_58 : decode cX9_parse 58 = .ok (.putfield 30, 3) := by decide +kernel
theorem dX9_parse_61 : decode cX9_parse 61 = .ok (.aload_n 0, 1) := by decide +kernel
theorem dX9_parse_62 : decode cX9_parse 62 = .ok (.getfield 26, 3) := by decide +kernel
theorem dX9_parse_65 : decode cX9_parse 65 = .ok (.aload_n 0, 1) := by decide +kernel
theorem dX9_parse_66 : decode cX9_parse 66 = .ok (.getfield 22, 3) := by decide +kernel
theorem dX9_parse_69 : decode cX9_parse 69 = .ok (.if_icmp .lt 8, 3) := by decide +kernel
theorem dX9_parse_72 : decode cX9_parse 72 = .ok (.aload_n 0, 1) := by decide +kernel
theorem dX9_parse_73 : decode cX9_parse 73 = .ok (.getfield 33, 3) := by decide +kernel
theorem dX9_parse_76 : decode cX9_parse 76 = .ok (.ireturn, 1) := by decide +kernel
theorem dX9_parse_77 : decode cX9_parse 77 = .ok (.aload_n 0, 1) := by decide +kernel
theorem dX9_parse_78 : decode cX9_parse 78 = .ok (.invokevirtual 40, 3) := by decide +kernel
theorem dX9_parse_81 : decode cX9_parse 81 = .ok (.bipush 59, 2) := by decide +kernel
theorem dX9_parse_83 : decode cX9_parse 83 = .ok (.if_icmp .eq 8, 3) := by decide +kernel
theorem dX9_parse_86 : decode cX9_parse 86 = .ok (.aload_n 0, 1) := by decide +kernel
theorem dX9_parse_87 : decode cX9_parse 87 = .ok (.getfield 26, 3) := by decide +kernel
theorem dX9_parse_90 : decode cX9_parse 90 = .ok (.ireturn, 1) := by decide +kernel
theorem dX9_parse_91 : decode cX9_parse 91 = .ok (.aload_n 0, 1) := by decide +kernel
theorem dX9_parse_92 : decode cX9_parse 92 = .ok (.dup, 1) := by decide +kernel
theorem dX9_parse_93 : decode cX9_parse 93 = .ok (.getfield 26, 3) := by decide +kernel
theorem dX9_parse_96 : decode cX9_parse 96 = .ok (.iconst 1, 1) := by decide +kernel
theorem dX9_parse_97 : decode cX9_parse 97 = .ok (.iadd, 1) := by decide +kernel
theorem dX9_parse_98 : decode cX9_parse 98 = .ok (.putfield 26, 3) := by decide +kernel
theorem dX9_parse_101 : decode cX9_parse 101 = .ok (.iinc 1 1, 3) := by decide +kernel
theorem dX9_parse_104 : decode cX9_parse 104 = .ok (.goto (-86), 3) := by decide +kernel
theorem dX9_parse_107 : decode cX9_parse 107 = .ok (.aload_n 0, 1) := by decide +kernel
theorem dX9_parse_108 : decode cX9_parse 108 = .ok (.getfield 26, 3) := by decide +kernel
theorem dX9_parse_111 : decode cX9_parse 111 = .ok (.ireturn, 1) := by decide +kernel
set_option maxRecDepth 20000 in
theorem ggX9_parseShape_X9_code : GoodIn wsX9_parseShape wsX9_code := goodIn_r _ [8, 3, 9, 10, 2, 44, 45, 46, 47, 48, 49, 50] (by decide +kernel) (by decide +kernel)
set_option maxRecDepth 20000 in
theorem gX9_parseShape_X9_code : GoodIn wsX9_parseShape (wsV RX9 40 RX9 yX9_code wsX9_code) := goodIn_app (goodIn_of _ (by decide +kernel)) ggX9_parseShape_X9_code
set_option maxRecDepth 20000 in
theorem ggX9_parseShape_X9_kindOf : GoodIn wsX9_parseShape wsX9_kindOf := goodIn_r _ [13, 2] (by decide +kernel) (by decide +kernel)
set_option maxRecDepth 20000 in
theorem gX9_parseShape_X9_kindOf : GoodIn wsX9_parseShape (va_wsS RX9 44 yX9_kindOf wsX9_kindOf) := goodIn_app (goodIn_of _ (by decide +kernel)) ggX9_parseShape_X9_kindOf
set_option maxRecDepth 20000 in
theorem ggX9_parseShape_X9_parseNumber : GoodIn wsX9_parseShape wsX9_parseNumber := goodIn_r _ [17, 3, 18, 4, 5, 6, 7, 8, 9, 10, 2, 19, 20, 21, 44, 45, 46, 47, 48, 49, 50] (by decide +kernel) (by decide +kernel)
set_option maxRecDepth 20000 in
theorem gX9_parseShape_X9_parseNumber : GoodIn wsX9_parseShape (wsV RX9 51 RX9 yX9_parseNumber wsX9_parseNumber) := goodIn_app (goodIn_of _ (by decide +kernel)) ggX9_parseShape_X9_parseNumber
set_option maxRecDepth 20000 in
theorem ggX9_parseShape_X9_takeNumber : GoodIn wsX9_parseShape wsX9_takeNumber := goodIn_r _ [25, 18, 26, 2, 27, 28, 29, 30, 31, 20, 32, 33, 19, 21, 34, 35, 44, 45, 46, 47, 48, 49, 50, 36, 37, 38, 39, 40, 41, 42, 43] (by decide +kernel) (by decide +kernel)
set_option maxRecDepth 20000 in
theorem gX9_parseShape_X9_takeNumber : GoodIn wsX9_parseShape (wsV RX9 55 RX9 yX9_takeNumber wsX9_takeNumber) := goodIn_app (goodIn_of _ (by decide +kernel)) ggX9_parseShape_X9_takeNumber
theorem dX9_parseShape_0 : decode cX9_parseShape 0 = .ok (.aload_n 1, 1) := by decide +kernel
theorem dX9_parseShape_1 : decode cX9_parseShape 1 = .ok (.aload_n 0, 1) := by decide +kernel
theorem dX9_parseShape_2 : decode cX9_parseShape 2 = .ok (.invokevirtual 40, 3) := by decide +kernel
theorem dX9_parseShape_5 : decode cX9_parseShape 5 = .ok (.invokestatic 44, 3) := by decide +kernel
theorem dX9_parseShape_8 : decode cX9_parseShape 8 = .ok (.putfield 48, 3) := by decide +kernel
theorem dX9_parseShape_11 : decode cX9_parseShape 11 = .ok (.aload_n 1, 1) := by decide +kernel
theorem dX9_parseShape_12 : decode cX9_parseShape 12 = .ok (.getfield 48, 3) := by decide +kernel
theorem dX9_parseShape_15 : decode cX9_parseShape 15 = .ok (.ldc 29, 2) := by decide +kernel
theorem dX9_parseShape_17 : decode cX9_parseShape 17 = .ok (.if_icmp .ne 5, 3) := by decide +kernel
theorem dX9_parseShape_20 : decode cX9_parseShape 20 = .ok (.iconst 0, 1) := by decide +kernel
theorem dX9_parseShape_21 : decode cX9_parseShape 21 = .ok (.ireturn, 1) := by decide +kernel
theorem dX9_parseShape_22 : decode cX9_parseShape 22 = .ok (.aload_n 0, 1) := by decide +kernel
theorem dX9_parseShape_23 : decode cX9_parseShape 23 = .ok (.dup, 1) := by decide +kernel
theorem dX9_parseShape_24 : decode cX9_parseShape 24 = .ok (.getfield 26, 3) := by decide +kernel
theorem dX9_parseShape_27 : decode cX9_parseShape 27 = .ok (.iconst 1, 1) := by decide +kernel
theorem dX9_parseShape_28 : decode cX9_parseShape 28 = .ok (.iadd, 1) := by decide +kernel
theorem dX9_parseShape_29 : decode cX9_parseShape 29 = .ok (.putfield 26, 3) := by decide +kernel
theorem dX9_parseShape_32 : decode cX9_parseShape 32 = .ok (.iconst 0, 1) := by decide +kernel
theorem dX9_parseShape_33 : decode cX9_parseShape 33 = .ok (.istore_n 2, 1) := by decide +kernel
theorem dX9_parseShape_34 : decode cX9_parseShape 34 = .ok (.iload_n 2, 1) := by decide +kernel
theorem dX9_parseShape_35 : decode cX9_parseShape 35 = .ok (.iconst 4, 1) := by decide +kernel
theorem dX9_parseShape_36 : decode cX9_parseShape 36 = .ok (.if_icmp .ge 55, 3) := by decide +kernel
theorem dX9_parseShape_39 : decode cX9_parseShape 39 = .ok (.iload_n 2, 1) := by decide +kernel
theorem dX9_parseShape_40 : decode cX9_parseShape 40 = .ok (.ifCond .le 24, 3) := by decide +kernel
theorem dX9_parseShape_43 : decode cX9_parseShape 43 = .ok (.aload_n 0, 1) := by decide +kernel
theorem dX9_parseShape_44 : decode cX9_parseShape 44 = .ok (.invokevirtual 40, 3) := by decide +kernel
theorem dX9_parseShape_47 : decode cX9_parseShape 47 = .ok (.bipush 44, 2) := by decide +kernel
theorem dX9_parseShape_49 : decode cX9_parseShape 49 = .ok (.if_icmp .eq 5, 3) := by decide +kernel
theorem dX9_parseShape_52 : decode cX9_parseShape 52 = .ok (.iconst 0, 1) := by decide +kernel
theorem dX9_parseShape_53 : decode cX9_parseShape 53 = .ok (.ireturn, 1) := by decide +kernel
theorem dX9_parseShape_54 : decode cX9_parseShape 54 = .ok (.aload_n 0, 1) := by decide +kernel
theorem dX9_parseShape_55 : decode cX9_parseShape 55 = .ok (.dup, 1) := by decide +kernel
theorem dX9_parseShape_56 : decode cX9_parseShape 56 = .ok (.getfield 26, 3) := by decide +kernel
theorem dX9_parseShape_59 : decode cX9_parseShape 59 = .ok (.iconst 1, 1) := by decide +kernel
theorem dX9_parseShape_60 : decode cX9_parseShape 60 = .ok (.iadd, 1) := by decide +kernel
theorem dX9_parseShape_61 : decode cX9_parseShape 61 = .ok (.putfield 26, 3) := by decide +kernel
theorem dX9_parseShape_64 : decode cX9_parseShape 64 = .ok (.aload_n 0, 1) := by decide +kernel
theorem dX9_parseShape_65 : decode cX9_parseShape 65 = .ok (.getfield 26, 3) := by decide +kernel
theorem dX9_parseShape_68 : decode cX9_parseShape 68 = .ok (.istore_n 3, 1) := by decide +kernel
theorem dX9_parseShape_69 : decode cX9_parseShape 69 = .ok (.aload_n 0, 1) := by decide +kernel
theorem dX9_parseShape_70 : decode cX9_parseShape 70 = .ok (.invokevirtual 51, 3) := by decide +kernel
theorem dX9_parseShape_73 : decode cX9_parseShape 73 = .ok (.ifCond .ne 5, 3) := by decide +kernel
theorem dX9_parseShape_76 : decode cX9_parseShape 76 = .ok (.iconst 0, 1) := by decide +kernel
theorem dX9_parseShape_77 : decode cX9_parseShape 77 = .ok (.ireturn, 1) := by decide +kernel
theorem dX9_parseShape_78 : decode cX9_parseShape 78 = .ok (.aload_n 0, 1) := by decide +kernel
theorem dX9_parseShape_79 : decode cX9_parseShape 79 = .ok (.aload_n 1, 1) := by decide +kernel
theorem dX9_parseShape_80 : decode cX9_parseShape 80 = .ok (.iload_n 2, 1) := by decide +kernel
theorem dX9_parseShape_81 : decode cX9_parseShape 81 = .ok (.iload_n 3, 1) := by decide +kernel
theorem dX9_parseShape_82 : decode cX9_parseShape 82 = .ok (.invokevirtual 55, 3) := by decide +kernel
theorem dX9_parseShape_85 : decode cX9_parseShape 85 = .ok (.iinc 2 1, 3) := by decide +kernel
theorem dX9_parseShape_88 : decode cX9_parseShape 88 = .ok (.goto (-54), 3) := by decide +kernel
theorem dX9_parseShape_91 : decode cX9_parseShape 91 = .ok (.iconst 1, 1) := by decide +kernel
theorem dX9_parseShape_92 : decode cX9_parseShape 92 = .ok (.ireturn, 1) := by decide +kernel
theorem dX9_kindOf_0 : decode cX9_kindOf 0 = .ok (.iload_n 0, 1) := by decide +kernel
theorem dX9_kindOf_1 : decode cX9_kindOf 1 = .ok (.tableswitch 37 98 101 #[31, 37, 35, 33], 31) := by decide +kernel
theorem dX9_kindOf_32 : decode cX9_kindOf 32 = .ok (.iconst 0, 1) := by decide +kernel
theorem dX9_kindOf_33 : decode cX9_kindOf 33 = .ok (.ireturn, 1) := by decide +kernel
theorem dX9_kindOf_34 : decode cX9_kindOf 34 = .ok (.iconst 1, 1) := by decide +kernel
theorem dX9_kindOf_35 : decode cX9_kindOf 35 = .ok (.ireturn, 1) := by decide +kernel
theorem dX9_kindOf_36 : decode cX9_kindOf 36 = .ok (.iconst 2, 1) := by decide +kernel
theorem dX9_kindOf_37 : decode cX9_kindOf 37 = .ok (.ireturn, 1) := by decide +kernel
theorem dX9_kindOf_38 : decode cX9_kindOf 38 = .ok (.ldc 29, 2) := by decide +kernel
theorem dX9_kindOf_40 : decode cX9_kindOf 40 = .ok (.ireturn, 1) := by decide +kernel
set_option maxRecDepth 20000 in
theorem ggX9_parseNumber_X9_code : GoodIn wsX9_parseNumber wsX9_code := goodIn_r _ [7, 1, 8, 9, 10, 14, 15, 16, 17, 18, 19, 20] (by decide +kernel) (by decide +kernel)
set_option maxRecDepth 20000 in
theorem gX9_parseNumber_X9_code : GoodIn wsX9_parseNumber (wsV RX9 40 RX9 yX9_code wsX9_code) := goodIn_app (goodIn_of _ (by decide +kernel)) ggX9_parseNumber_X9_code
set_option maxRecDepth 20000 in
theorem ggX9_parseNumber_X11_isWithin : GoodIn wsX9_parseNumber wsX11_isWithin := goodIn_r _ [13] (by decide +kernel) (by decide +kernel)
set_option maxRecDepth 20000 in
theorem gX9_parseNumber_X11_isWithin_n59 : GoodIn wsX9_parseNumber (wsX11_isWithin) := ggX9_parseNumber_X11_isWithin
theorem dX9_parseNumber_0 : decode cX9_parseNumber 0 = .ok (.aload_n 0, 1) := by decide +kernel
theorem dX9_parseNumber_1 : decode cX9_parseNumber 1 = .ok (.invokevirtual 40, 3) := by decide +kernel
theorem dX9_parseNumber_4 : decode cX9_parseNumber 4 = .ok (.bipush 45, 2) := by decide +kernel
theorem dX9_parseNumber_6 : decode cX9_parseNumber 6 = .ok (.if_icmp .ne 7, 3) := by decide +kernel
theorem dX9_parseNumber_9 : decode cX9_parseNumber 9 = .ok (.iconst 1, 1) := by decide +kernel
theorem dX9_parseNumber_10 : decode cX9_parseNumber 10 = .ok (.goto 4, 3) := by decide +kernel
theorem dX9_parseNumber_13 : decode cX9_parseNumber 13 = .ok (.iconst 0, 1) := by decide +kernel
theorem dX9_parseNumber_14 : decode cX9_parseNumber 14 = .ok (.istore_n 1, 1) := by decide +kernel
theorem dX9_parseNumber_15 : decode cX9_parseNumber 15 = .ok (.iload_n 1, 1) := by decide +kernel
theorem dX9_parseNumber_16 : decode cX9_parseNumber 16 = .ok (.ifCond .eq 13, 3) := by decide +kernel
theorem dX9_parseNumber_19 : decode cX9_parseNumber 19 = .ok (.aload_n 0, 1) := by decide +kernel
theorem dX9_parseNumber_20 : decode cX9_parseNumber 20 = .ok (.dup, 1) := by decide +kernel
theorem dX9_parseNumber_21 : decode cX9_parseNumber 21 = .ok (.getfield 26, 3) := by decide +kernel
theorem dX9_parseNumber_24 : decode cX9_parseNumber 24 = .ok (.iconst 1, 1) := by decide +kernel
theorem dX9_parseNumber_25 : decode cX9_parseNumber 25 = .ok (.iadd, 1) := by decide +kernel
theorem dX9_parseNumber_26 : decode cX9_parseNumber 26 = .ok (.putfield 26, 3) := by decide +kernel
theorem dX9_parseNumber_29 : decode cX9_parseNumber 29 = .ok (.iconst 0, 1) := by decide +kernel
theorem dX9_parseNumber_30 : decode cX9_parseNumber 30 = .ok (.istore_n 2, 1) := by decide +kernel
theorem dX9_parseNumber_31 : decode cX9_parseNumber 31 = .ok (.iconst 0, 1) := by decide +kernel
theorem dX9_parseNumber_32 : decode cX9_parseNumber 32 = .ok (.istore_n 3, 1) := by decide +kernel
theorem dX9_parseNumber_33 : decode cX9_parseNumber 33 = .ok (.iload_n 3, 1) := by decide +kernel
theorem dX9_parseNumber_34 : decode cX9_parseNumber 34 = .ok (.iconst 5, 1) := by decide +kernel
theorem dX9_parseNumber_35 : decode cX9_parseNumber 35 = .ok (.if_icmp .ge 46, 3) := by decide +kernel
theorem dX9_parseNumber_38 : decode cX9_parseNumber 38 = .ok (.aload_n 0, 1) := by decide +kernel
theorem dX9_parseNumber_39 : decode cX9_parseNumber 39 = .ok (.invokevirtual 40, 3) := by decide +kernel
theorem dX9_parseNumber_42 : decode cX9_parseNumber 42 = .ok (.bipush 48, 2) := by decide +kernel
theorem dX9_parseNumber_44 : decode cX9_parseNumber 44 = .ok (.bipush 57, 2) := by decide +kernel
theorem dX9_parseNumber_46 : decode cX9_parseNumber 46 = .ok (.invokestatic 59, 3) := by decide +kernel
theorem dX9_parseNumber_49 : decode cX9_parseNumber 49 = .ok (.ifCond .eq 32, 3) := by decide +kernel
theorem dX9_parseNumber_52 : decode cX9_parseNumber 52 = .ok (.bipush 10, 2) := by decide +kernel
theorem dX9_parseNumber_54 : decode cX9_parseNumber 54 = .ok (.iload_n 2, 1) := by decide +kernel
theorem dX9_parseNumber_55 : decode cX9_parseNumber 55 = .ok (.imul, 1) := by decide +kernel
theorem dX9_parseNumber_56 : decode cX9_parseNumber 56 = .ok (.aload_n 0, 1) := by decide +kernel
theorem dX9_parseNumber_57 : decode cX9_parseNumber 57 = .ok (.invokevirtual 40, 3) := by decide +kernel
theorem dX9_parseNumber_60 : decode cX9_parseNumber 60 = .ok (.iadd, 1) := by decide +kernel
theorem dX9_parseNumber_61 : decode cX9_parseNumber 61 = .ok (.bipush 48, 2) := by decide +kernel
theorem dX9_parseNumber_63 : decode cX9_parseNumber 63 = .ok (.isub, 1) := by decide +kernel
theorem dX9_parseNumber_64 : decode cX9_parseNumber 64 = .ok (.istore_n 2, 1) := by decide +kernel
theorem dX9_parseNumber_65 : decode cX9_parseNumber 65 = .ok (.iinc 3 1, 3) := by decide +kernel
theorem dX9_parseNumber_68 : decode cX9_parseNumber 68 = .ok (.aload_n 0, 1) := by decide +kernel
theorem dX9_parseNumber_69 : decode cX9_parseNumber 69 = .ok (.dup, 1) := by decide +kernel
theorem dX9_parseNumber_70 : decode cX9_parseNumber 70 = .ok (.getfield 26, 3) := by decide +kernel
theorem dX9_parseNumber_73 : decode cX9_parseNumber 73 = .ok (.iconst 1, 1) := by decide +kernel
theorem dX9_parseNumber_74 : decode cX9_parseNumber 74 = .ok (.iadd, 1) := by decide +kernel
theorem dX9_parseNumber_75 : decode cX9_parseNumber 75 = .ok (.putfield 26, 3) := by decide +kernel
theorem dX9_parseNumber_78 : decode cX9_parseNumber 78 = .ok (.goto (-45), 3) := by decide +kernel
theorem dX9_parseNumber_81 : decode cX9_parseNumber 81 = .ok (.aload_n 0, 1) := by decide +kernel
theorem dX9_parseNumber_82 : decode cX9_parseNumber 82 = .ok (.iload_n 1, 1) := by decide +kernel
theorem dX9_parseNumber_83 : decode cX9_parseNumber 83 = .ok (.ifCond .eq 8, 3) := by decide +kernel
theorem dX9_parseNumber_86 : decode cX9_parseNumber 86 = .ok (.iload_n 2, 1) := by decide +kernel
theorem dX9_parseNumber_87 : decode cX9_parseNumber 87 = .ok (.ineg, 1) := by decide +kernel
theorem dX9_parseNumber_88 : decode cX9_parseNumber 88 = .ok (.goto 4, 3) := by decide +kernel
theorem dX9_parseNumber_91 : decode cX9_parseNumber 91 = .ok (.iload_n 2, 1) := by decide +kernel
theorem dX9_parseNumber_92 : decode cX9_parseNumber 92 = .ok (.putfield 63, 3) := by decide +kernel
theorem dX9_parseNumber_95 : decode cX9_parseNumber 95 = .ok (.iload_n 3, 1) := by decide +kernel
theorem dX9_parseNumber_96 : decode cX9_parseNumber 96 = .ok (.ifCond .le 7, 3) := by decide +kernel
theorem dX9_parseNumber_99 : decode cX9_parseNumber 99 = .ok (.iconst 1, 1) := by decide +kernel
theorem dX9_parseNumber_100 : decode cX9_parseNumber 100 = .ok (.goto 4, 3) := by decide +kernel
theorem dX9_parseNumber_103 : decode cX9_parseNumber 103 = .ok (.iconst 0, 1) := by decide +kernel
theorem dX9_parseNumber_104 : decode cX9_parseNumber 104 = .ok (.ireturn, 1) := by decide +kernel
set_option maxRecDepth 20000 in
theorem ggX9_takeNumber_X11_isCoordinate : GoodIn wsX9_takeNumber wsX11_isCoordinate := goodIn_r _ [10, 11, 12, 9, 13] (by decide +kernel) (by decide +kernel)
set_option maxRecDepth 20000 in
theorem gX9_takeNumber_X11_isCoordinate_n66 : GoodIn wsX9_takeNumber (wsX11_isCoordinate) := ggX9_takeNumber_X11_isCoordinate
set_option maxRecDepth 20000 in
theorem ggX9_takeNumber_X11_isSize : GoodIn wsX9_takeNumber wsX11_isSize := goodIn_r _ [15, 11, 12, 9, 13] (by decide +kernel) (by decide +kernel)
set_option maxRecDepth 20000 in
theorem gX9_takeNumber_X11_isSize_n70 : GoodIn wsX9_takeNumber (wsX11_isSize) := ggX9_takeNumber_X11_isSize
theorem dX9_takeNumber_0 : decode cX9_takeNumber 0 = .ok (.iload_n 2, 1) := by decide +kernel
theorem dX9_takeNumber_1 : decode cX9_takeNumber 1 = .ok (.iconst 2, 1) := by decide +kernel
theorem dX9_takeNumber_2 : decode cX9_takeNumber 2 = .ok (.if_icmp .ge 13, 3) := by decide +kernel
theorem dX9_takeNumber_5 : decode cX9_takeNumber 5 = .ok (.aload_n 0, 1) := by decide +kernel
theorem dX9_takeNumber_6 : decode cX9_takeNumber 6 = .ok (.getfield 63, 3) := by decide +kernel
theorem dX9_takeNumber_9 : decode cX9_takeNumber 9 = .ok (.invokestatic 66, 3) := by decide +kernel
theorem dX9_takeNumber_12 : decode cX9_takeNumber 12 = .ok (.goto 10, 3) := by decide +kernel
theorem dX9_takeNumber_15 : decode cX9_takeNumber 15 = .ok (.aload_n 0, 1) := by decide +kernel
theorem dX9_takeNumber_16 : decode cX9_takeNumber 16 = .ok (.getfield 63, 3) := by decide +kernel
theorem dX9_takeNumber_19 : decode cX9_takeNumber 19 = .ok (.invokestatic 70, 3) := by decide +kernel
theorem dX9_takeNumber_22 : decode cX9_takeNumber 22 = .ok (.istore 4, 2) := by decide +kernel
theorem dX9_takeNumber_24 : decode cX9_takeNumber 24 = .ok (.iload 4, 2) := by decide +kernel
theorem dX9_takeNumber_26 : decode cX9_takeNumber 26 = .ok (.ifCond .ne 17, 3) := by decide +kernel
theorem dX9_takeNumber_29 : decode cX9_takeNumber 29 = .ok (.aload_n 0, 1) := by decide +kernel
theorem dX9_takeNumber_30 : decode cX9_takeNumber 30 = .ok (.getfield 33, 3) := by decide +kernel
theorem dX9_takeNumber_33 : decode cX9_takeNumber 33 = .ok (.ldc 29, 2) := by decide +kernel
theorem dX9_takeNumber_35 : decode cX9_takeNumber 35 = .ok (.if_icmp .ne 8, 3) := by decide +kernel
theorem dX9_takeNumber_38 : decode cX9_takeNumber 38 = .ok (.aload_n 0, 1) := by decide +kernel
theorem dX9_takeNumber_39 : decode cX9_takeNumber 39 = .ok (.iload_n 3, 1) := by decide +kernel
theorem dX9_takeNumber_40 : decode cX9_takeNumber 40 = .ok (.putfield 33, 3) := by decide +kernel
theorem dX9_takeNumber_43 : decode cX9_takeNumber 43 = .ok (.iload_n 2, 1) := by decide +kernel
theorem dX9_takeNumber_44 : decode cX9_takeNumber 44 = .ok (.tableswitch 61 0 2 #[28, 39, 50], 28) := by decide +kernel
theorem dX9_takeNumber_72 : decode cX9_takeNumber 72 = .ok (.aload_n 1, 1) := by decide +kernel
theorem dX9_takeNumber_73 : decode cX9_takeNumber 73 = .ok (.aload_n 0, 1) := by decide +kernel
theorem dX9_takeNumber_74 : decode cX9_takeNumber 74 = .ok (.getfield 63, 3) := by decide +kernel
theorem dX9_takeNumber_77 : decode cX9_takeNumber 77 = .ok (.putfield 73, 3) := by decide +kernel
theorem dX9_takeNumber_80 : decode cX9_takeNumber 80 = .ok (.goto 33, 3) := by decide +kernel
theorem dX9_takeNumber_83 : decode cX9_takeNumber 83 = .ok (.aload_n 1, 1) := by decide +kernel
theorem dX9_takeNumber_84 : decode cX9_takeNumber 84 = .ok (.aload_n 0, 1) := by decide +kernel
theorem dX9_takeNumber_85 : decode cX9_takeNumber 85 = .ok (.getfield 63, 3) := by decide +kernel
theorem dX9_takeNumber_88 : decode cX9_takeNumber 88 = .ok (.putfield 76, 3) := by decide +kernel
theorem dX9_takeNumber_91 : decode cX9_takeNumber 91 = .ok (.goto 22, 3) := by decide +kernel
theorem dX9_takeNumber_94 : decode cX9_takeNumber 94 = .ok (.aload_n 1, 1) := by decide +kernel
theorem dX9_takeNumber_95 : decode cX9_takeNumber 95 = .ok (.aload_n 0, 1) := by decide +kernel
theorem dX9_takeNumber_96 : decode cX9_takeNumber 96 = .ok (.getfield 63, 3) := by decide +kernel
theorem dX9_takeNumber_99 : decode cX9_takeNumber 99 = .ok (.putfield 79, 3) := by decide +kernel
theorem dX9_takeNumber_102 : decode cX9_takeNumber 102 = .ok (.goto 11, 3) := by decide +kernel
theorem dX9_takeNumber_105 : decode cX9_takeNumber 105 = .ok (.aload_n 1, 1) := by decide +kernel
theorem dX9_takeNumber_106 : decode cX9_takeNumber 106 = .ok (.aload_n 0, 1) := by decide +kernel
theorem dX9_takeNumber_107 : decode cX9_takeNumber 107 = .ok (.getfield 63, 3) := by decide +kernel
theorem dX9_takeNumber_110 : decode cX9_takeNumber 110 = .ok (.putfield 82, 3) := by decide +kernel
theorem dX9_takeNumber_113 : decode cX9_takeNumber 113 = .ok (.return_, 1) := by decide +kernel
theorem dX10_init_0 : decode cX10_init 0 = .ok (.aload_n 0, 1) := by decide +kernel
theorem dX10_init_1 : decode cX10_init 1 = .ok (.invokespecial 3, 3) := by decide +kernel
theorem dX10_init_4 : decode cX10_init 4 = .ok (.aload_n 0, 1) := by decide +kernel
theorem dX10_init_5 : decode cX10_init 5 = .ok (.bipush 20, 2) := by decide +kernel
theorem dX10_init_7 : decode cX10_init 7 = .ok (.newarray .int, 2) := by decide +kernel
theorem dX10_init_9 : decode cX10_init 9 = .ok (.putfield 9, 3) := by decide +kernel
theorem dX10_init_12 : decode cX10_init 12 = .ok (.aload_n 0, 1) := by decide +kernel
theorem dX10_init_13 : decode cX10_init 13 = .ok (.bipush 20, 2) := by decide +kernel
theorem dX10_init_15 : decode cX10_init 15 = .ok (.newarray .int, 2) := by decide +kernel
theorem dX10_init_17 : decode cX10_init 17 = .ok (.putfield 15, 3) := by decide +kernel
theorem dX10_init_20 : decode cX10_init 20 = .ok (.return_, 1) := by decide +kernel
set_option maxRecDepth 20000 in
theorem ggX10_gather_X7_find : GoodIn wsX10_gather wsX7_find := goodIn_r _ [8, 9, 10, 61, 62, 63, 64, 65, 66, 67, 68, 69, 70, 71] (by decide +kernel) (by decide +kernel)
set_option maxRecDepth 20000 in
theorem gX10_gather_X7_find : GoodIn wsX10_gather (wsV RX10 28 RX7 yX7_find wsX7_find) := goodIn_app (goodIn_of _ (by decide +kernel)) ggX10_gather_X7_find
set_option maxRecDepth 20000 in
theorem ggX10_gather_X11_hasBit : GoodIn wsX10_gather wsX11_hasBit := goodIn_r _ [13] (by decide +kernel) (by decide +kernel)
set_option maxRecDepth 20000 in
theorem gX10_gather_X11_hasBit_n37 : GoodIn wsX10_gather (wsX11_hasBit) := ggX10_gather_X11_hasBit
set_option maxRecDepth 20000 in
theorem ggX10_gather_X2_unitOf : GoodIn wsX10_gather wsX2_unitOf := goodIn_r _ [18, 19, 20, 21, 22, 23, 24, 25, 26, 27, 28, 29, 30, 31, 32, 33, 34, 35, 36, 37, 38, 39, 40, 17, 41, 42, 43, 5, 6, 7, 8, 9, 10, 44, 45, 46, 47, 57, 58, 59, 60, 64, 65, 66, 67, 68, 69, 70, 71, 72, 73, 61, 62, 63] (by decide +kernel) (by decide +kernel)
set_option maxRecDepth 20000 in
theorem gX10_gather_X2_unitOf : GoodIn wsX10_gather (wsV RX10 41 RX2 yX2_unitOf wsX2_unitOf) := goodIn_app (goodIn_of _ (by decide +kernel)) ggX10_gather_X2_unitOf
set_option maxRecDepth 20000 in
theorem ggX10_gather_X10_add : GoodIn wsX10_gather wsX10_add := goodIn_r _ [52, 1, 53, 54, 55, 56] (by decide +kernel) (by decide +kernel)
set_option maxRecDepth 20000 in
theorem gX10_gather_X10_add : GoodIn wsX10_gather (wsV RX10 45 RX10 yX10_add wsX10_add) := goodIn_app (goodIn_of _ (by decide +kernel)) ggX10_gather_X10_add
theorem dX10_gather_0 : decode cX10_gather 0 = .ok (.aload_n 0, 1) := by decide +kernel
theorem dX10_gather_1 : decode cX10_gather 1 = .ok (.iconst 0, 1) := by decide +kernel
theorem dX10_gather_2 : decode cX10_gather 2 = .ok (.putfield 18, 3) := by decide +kernel
theorem dX10_gather_5 : decode cX10_gather 5 = .ok (.iconst 0, 1) := by decide +kernel
theorem dX10_gather_6 : decode cX10_gather 6 = .ok (.istore_n 2, 1) := by decide +kernel
theorem dX10_gather_7 : decode cX10_gather 7 = .ok (.iconst 0, 1) := by decide +kernel
theorem dX10_gather_8 : decode cX10_gather 8 = .ok (.istore_n 3, 1) := by decide +kernel
theorem dX10_gather_9 : decode cX10_gather 9 = .ok (.iload_n 3, 1) := by decide +kernel
theorem dX10_gather_10 : decode cX10_gather 10 = .ok (.bipush 20, 2) := by decide +kernel
theorem dX10_gather_12 : decode cX10_gather 12 = .ok (.if_icmp .ge 62, 3) := by decide +kernel
theorem dX10_gather_15 : decode cX10_gather 15 = .ok (.aload_n 1, 1) := by decide +kernel
theorem dX10_gather_16 : decode cX10_gather 16 = .ok (.getfield 22, 3) := by decide +kernel
theorem dX10_gather_19 : decode cX10_gather 19 = .ok (.iload_n 3, 1) := by decide +kernel
theorem dX10_gather_20 : decode cX10_gather 20 = .ok (.invokevirtual 28, 3) := by decide +kernel
theorem dX10_gather_23 : decode cX10_gather 23 = .ok (.astore 4, 2) := by decide +kernel
theorem dX10_gather_25 : decode cX10_gather 25 = .ok (.aload 4, 2) := by decide +kernel
theorem dX10_gather_27 : decode cX10_gather 27 = .ok (.ifnull 41, 3) := by decide +kernel
theorem dX10_gather_30 : decode cX10_gather 30 = .ok (.aload_n 1, 1) := by decide +kernel
theorem dX10_gather_31 : decode cX10_gather 31 = .ok (.getfield 22, 3) := by decide +kernel
theorem dX10_gather_34 : decode cX10_gather 34 = .ok (.getfield 34, 3) := by decide +kernel
theorem dX10_gather_37 : decode cX10_gather 37 = .ok (.iload_n 2, 1) := by decide +kernel
theorem dX10_gather_38 : decode cX10_gather 38 = .ok (.iconst (-1), 1) := by decide +kernel
theorem dX10_gather_39 : decode cX10_gather 39 = .ok (.ixor, 1) := by decide +kernel
theorem dX10_gather_40 : decode cX10_gather 40 = .ok (.iand, 1) := by decide +kernel
theorem dX10_gather_41 : decode cX10_gather 41 = .ok (.iload_n 3, 1) := by decide +kernel
theorem dX10_gather_42 : decode cX10_gather 42 = .ok (.invokestatic 37, 3) := by decide +kernel
theorem dX10_gather_45 : decode cX10_gather 45 = .ok (.ifCond .eq 23, 3) := by decide +kernel
theorem dX10_gather_48 : decode cX10_gather 48 = .ok (.aload_n 1, 1) := by decide +kernel
theorem dX10_gather_49 : decode cX10_gather 49 = .ok (.iload_n 3, 1) := by decide +kernel
theorem dX10_gather_50 : decode cX10_gather 50 = .ok (.aload 4, 2) := by decide +kernel
theorem dX10_gather_52 : decode cX10_gather 52 = .ok (.invokevirtual 41, 3) := by decide +kernel
theorem dX10_gather_55 : decode cX10_gather 55 = .ok (.istore 5, 2) := by decide +kernel
theorem dX10_gather_57 : decode cX10_gather 57 = .ok (.iload_n 2, 1) := by decide +kernel
theorem dX10_gather_58 : decode cX10_gather 58 = .ok (.iload 5, 2) := by decide +kernel
theorem dX10_gather_60 : decode cX10_gather 60 = .ok (.ior, 1) := by decide +kernel
theorem dX10_gather_61 : decode cX10_gather 61 = .ok (.istore_n 2, 1) := by decide +kernel
theorem dX10_gather_62 : decode cX10_gather 62 = .ok (.aload_n 0, 1) := by decide +kernel
theorem dX10_gather_63 : decode cX10_gather 63 = .ok (.iload 5, 2) := by decide +kernel
theorem dX10_gather_65 : decode cX10_gather 65 = .ok (.invokevirtual 45, 3) := by decide +kernel
theorem dX10_gather_68 : decode cX10_gather 68 = .ok (.iinc 3 1, 3) := by decide +kernel
theorem dX10_gather_71 : decode cX10_gather 71 = .ok (.goto (-62), 3) := by decide +kernel
theorem dX10_gather_74 : decode cX10_gather 74 = .ok (.return_, 1) := by decide +kernel
theorem dX10_add_0 : decode cX10_add 0 = .ok (.aload_n 0, 1) := by decide +kernel
theorem dX10_add_1 : decode cX10_add 1 = .ok (.getfield 18, 3) := by decide +kernel
theorem dX10_add_4 : decode cX10_add 4 = .ok (.ifCond .lt 35, 3) := by decide +kernel
theorem dX10_add_7 : decode cX10_add 7 = .ok (.aload_n 0, 1) := by decide +kernel
theorem dX10_add_8 : decode cX10_add 8 = .ok (.getfield 18, 3) := by decide +kernel
theorem dX10_add_11 : decode cX10_add 11 = .ok (.aload_n 0, 1) := by decide +kernel
theorem dX10_add_12 : decode cX10_add 12 = .ok (.getfield 9, 3) := by decide +kernel
theorem dX10_add_15 : decode cX10_add 15 = .ok (.arraylength, 1) := by decide +kernel
theorem dX10_add_16 : decode cX10_add 16 = .ok (.if_icmp .ge 23, 3) := by decide +kernel
theorem dX10_add_19 : decode cX10_add 19 = .ok (.aload_n 0, 1) := by decide +kernel
theorem dX10_add_20 : decode cX10_add 20 = .ok (.getfield 9, 3) := by decide +kernel
theorem dX10_add_23 : decode cX10_add 23 = .ok (.aload_n 0, 1) := by decide +kernel
theorem dX10_add_24 : decode cX10_add 24 = .ok (.getfield 18, 3) := by decide +kernel
theorem dX10_add_27 : decode cX10_add 27 = .ok (.iload_n 1, 1) := by decide +kernel
theorem dX10_add_28 : decode cX10_add 28 = .ok (.iastore, 1) := by decide +kernel
theorem dX10_add_29 : decode cX10_add 29 = .ok (.aload_n 0, 1) := by decide +kernel
theorem dX10_add_30 : decode cX10_add 30 = .ok (.dup, 1) := by decide +kernel
theorem dX10_add_31 : decode cX10_add 31 = .ok (.getfield 18, 3) := by decide +kernel
theorem dX10_add_34 : decode cX10_add 34 = .ok (.iconst 1, 1) := by decide +kernel
theorem dX10_add_35 : decode cX10_add 35 = .ok (.iadd, 1) := by decide +kernel
theorem dX10_add_36 : decode cX10_add 36 = .ok (.putfield 18, 3) := by decide +kernel
theorem dX10_add_39 : decode cX10_add 39 = .ok (.return_, 1) := by decide +kernel
theorem dX10_setOf_0 : decode cX10_setOf 0 = .ok (.iload_n 1, 1) := by decide +kernel
theorem dX10_setOf_1 : decode cX10_setOf 1 = .ok (.ifCond .lt 29, 3) := by decide +kernel
theorem dX10_setOf_4 : decode cX10_setOf 4 = .ok (.iload_n 1, 1) := by decide +kernel
theorem dX10_setOf_5 : decode cX10_setOf 5 = .ok (.aload_n 0, 1) := by decide +kernel
theorem dX10_setOf_6 : decode cX10_setOf 6 = .ok (.getfield 18, 3) := by decide +kernel
theorem dX10_setOf_9 : decode cX10_setOf 9 = .ok (.if_icmp .ge 21, 3) := by decide +kernel
theorem dX10_setOf_12 : decode cX10_setOf 12 = .ok (.iload_n 1, 1) := by decide +kernel
theorem dX10_setOf_13 : decode cX10_setOf 13 = .ok (.aload_n 0, 1) := by decide +kernel
theorem dX10_setOf_14 : decode cX10_setOf 14 = .ok (.getfield 9, 3) := by decide +kernel
theorem dX10_setOf_17 : decode cX10_setOf 17 = .ok (.arraylength, 1) := by decide +kernel
theorem dX10_setOf_18 : decode cX10_setOf 18 = .ok (.if_icmp .ge 12, 3) := by decide +kernel
theorem dX10_setOf_21 : decode cX10_setOf 21 = .ok (.aload_n 0, 1) := by decide +kernel
theorem dX10_setOf_22 : decode cX10_setOf 22 = .ok (.getfield 9, 3) := by decide +kernel
theorem dX10_setOf_25 : decode cX10_setOf 25 = .ok (.iload_n 1, 1) := by decide +kernel
theorem dX10_setOf_26 : decode cX10_setOf 26 = .ok (.iaload, 1) := by decide +kernel
theorem dX10_setOf_27 : decode cX10_setOf 27 = .ok (.goto 4, 3) := by decide +kernel
theorem dX10_setOf_30 : decode cX10_setOf 30 = .ok (.iconst 0, 1) := by decide +kernel
theorem dX10_setOf_31 : decode cX10_setOf 31 = .ok (.ireturn, 1) := by decide +kernel
theorem dX10_wayOf_0 : decode cX10_wayOf 0 = .ok (.iload_n 1, 1) := by decide +kernel
theorem dX10_wayOf_1 : decode cX10_wayOf 1 = .ok (.ifCond .lt 29, 3) := by decide +kernel
theorem dX10_wayOf_4 : decode cX10_wayOf 4 = .ok (.iload_n 1, 1) := by decide +kernel
theorem dX10_wayOf_5 : decode cX10_wayOf 5 = .ok (.aload_n 0, 1) := by decide +kernel
theorem dX10_wayOf_6 : decode cX10_wayOf 6 = .ok (.getfield 18, 3) := by decide +kernel
theorem dX10_wayOf_9 : decode cX10_wayOf 9 = .ok (.if_icmp .ge 21, 3) := by decide +kernel
theorem dX10_wayOf_12 : decode cX10_wayOf 12 = .ok (.iload_n 1, 1) := by decide +kernel
theorem dX10_wayOf_13 : decode cX10_wayOf 13 = .ok (.aload_n 0, 1) := by decide +kernel
theorem dX10_wayOf_14 : decode cX10_wayOf 14 = .ok (.getfield 15, 3) := by decide +kernel
theorem dX10_wayOf_17 : decode cX10_wayOf 17 = .ok (.arraylength, 1) := by decide +kernel
theorem dX10_wayOf_18 : decode cX10_wayOf 18 = .ok (.if_icmp .ge 12, 3) := by decide +kernel
theorem dX10_wayOf_21 : decode cX10_wayOf 21 = .ok (.aload_n 0, 1) := by decide +kernel
theorem dX10_wayOf_22 : decode cX10_wayOf 22 = .ok (.getfield 15, 3) := by decide +kernel
theorem dX10_wayOf_25 : decode cX10_wayOf 25 = .ok (.iload_n 1, 1) := by decide +kernel
theorem dX10_wayOf_26 : decode cX10_wayOf 26 = .ok (.iaload, 1) := by decide +kernel
theorem dX10_wayOf_27 : decode cX10_wayOf 27 = .ok (.goto 4, 3) := by decide +kernel
theorem dX10_wayOf_30 : decode cX10_wayOf 30 = .ok (.iconst 0, 1) := by decide +kernel
theorem dX10_wayOf_31 : decode cX10_wayOf 31 = .ok (.ireturn, 1) := by decide +kernel
theorem dX10_putWay_0 : decode cX10_putWay 0 = .ok (.iload_n 1, 1) := by decide +kernel
theorem dX10_putWay_1 : decode cX10_putWay 1 = .ok (.ifCond .lt 19, 3) := by decide +kernel
theorem dX10_putWay_4 : decode cX10_putWay 4 = .ok (.iload_n 1, 1) := by decide +kernel
theorem dX10_putWay_5 : decode cX10_putWay 5 = .ok (.aload_n 0, 1) := by decide +kernel
theorem dX10_putWay_6 : decode cX10_putWay 6 = .ok (.getfield 15, 3) := by decide +kernel
theorem dX10_putWay_9 : decode cX10_putWay 9 = .ok (.arraylength, 1) := by decide +kernel
theorem dX10_putWay_10 : decode cX10_putWay 10 = .ok (.if_icmp .ge 10, 3) := by decide +kernel
theorem dX10_putWay_13 : decode cX10_putWay 13 = .ok (.aload_n 0, 1) := by decide +kernel
theorem dX10_putWay_14 : decode cX10_putWay 14 = .ok (.getfield 15, 3) := by decide +kernel
theorem dX10_putWay_17 : decode cX10_putWay 17 = .ok (.iload_n 1, 1) := by decide +kernel
theorem dX10_putWay_18 : decode cX10_putWay 18 = .ok (.iload_n 2, 1) := by decide +kernel
theorem dX10_putWay_19 : decode cX10_putWay 19 = .ok (.iastore, 1) := by decide +kernel
theorem dX10_putWay_20 : decode cX10_putWay 20 = .ok (.return_, 1) := by decide +kernel
set_option maxRecDepth 20000 in
theorem ggX10_sizeOf_X10_setOf : GoodIn wsX10_sizeOf wsX10_setOf := goodIn_r _ [5, 6, 7, 53, 54, 55] (by decide +kernel) (by decide +kernel)
set_option maxRecDepth 20000 in
theorem gX10_sizeOf_X10_setOf : GoodIn wsX10_sizeOf (wsV RX10 49 RX10 yX10_setOf wsX10_setOf) := goodIn_app (goodIn_of _ (by decide +kernel)) ggX10_sizeOf_X10_setOf
set_option maxRecDepth 20000 in
theorem ggX10_sizeOf_X7_high : GoodIn wsX10_sizeOf wsX7_high := goodIn_r _ [12, 13, 14, 15, 16, 17, 18, 19, 20, 21, 11, 22, 23, 24, 25, 26, 27, 28, 29, 30, 31, 32, 33, 34, 35, 36, 37, 38, 39, 40, 41, 42, 43, 56, 57, 58, 59, 60, 61, 62, 63, 64, 65, 66] (by decide +kernel) (by decide +kernel)
set_option maxRecDepth 20000 in
theorem gX10_sizeOf_X7_high : GoodIn wsX10_sizeOf (wsV RX10 53 RX7 yX7_high wsX7_high) := goodIn_app (goodIn_of _ (by decide +kernel)) ggX10_sizeOf_X7_high
set_option maxRecDepth 20000 in
theorem ggX10_sizeOf_X7_low : GoodIn wsX10_sizeOf wsX7_low := goodIn_r _ [47, 48, 14, 49, 50, 17, 51, 19, 20, 21, 11, 22, 23, 24, 25, 26, 52, 33, 34, 30, 35, 36, 37, 56, 57, 58, 59, 60, 61, 62, 63, 64, 65, 66] (by decide +kernel) (by decide +kernel)
set_option maxRecDepth 20000 in
theorem gX10_sizeOf_X7_low : GoodIn wsX10_sizeOf (wsV RX10 57 RX7 yX7_low wsX7_low) := goodIn_app (goodIn_of _ (by decide +kernel)) ggX10_sizeOf_X7_low
theorem dX10_sizeOf_0 : decode cX10_sizeOf 0 = .ok (.aload_n 1, 1) := by decide +kernel
theorem dX10_sizeOf_1 : decode cX10_sizeOf 1 = .ok (.aload_n 0, 1) := by decide +kernel
theorem dX10_sizeOf_2 : decode cX10_sizeOf 2 = .ok (.iload_n 2, 1) := by decide +kernel
theorem dX10_sizeOf_3 : decode cX10_sizeOf 3 = .ok (.invokevirtual 49, 3) := by decide +kernel
theorem dX10_sizeOf_6 : decode cX10_sizeOf 6 = .ok (.iload_n 3, 1) := by decide +kernel
theorem dX10_sizeOf_7 : decode cX10_sizeOf 7 = .ok (.invokevirtual 53, 3) := by decide +kernel
theorem dX10_sizeOf_10 : decode cX10_sizeOf 10 = .ok (.aload_n 1, 1) := by decide +kernel
theorem dX10_sizeOf_11 : decode cX10_sizeOf 11 = .ok (.aload_n 0, 1) := by decide +kernel
theorem dX10_sizeOf_12 : decode cX10_sizeOf 12 = .ok (.iload_n 2, 1) := by decide +kernel
theorem dX10_sizeOf_13 : decode cX10_sizeOf 13 = .ok (.invokevirtual 49, 3) := by decide +kernel
theorem dX10_sizeOf_16 : decode cX10_sizeOf 16 = .ok (.iload_n 3, 1) := by decide +kernel
theorem dX10_sizeOf_17 : decode cX10_sizeOf 17 = .ok (.invokevirtual 57, 3) := by decide +kernel
theorem dX10_sizeOf_20 : decode cX10_sizeOf 20 = .ok (.isub, 1) := by decide +kernel
theorem dX10_sizeOf_21 : decode cX10_sizeOf 21 = .ok (.ireturn, 1) := by decide +kernel
set_option maxRecDepth 20000 in
theorem ggX10_planAlignment_X7_lineOf : GoodIn wsX10_planAlignment wsX7_lineOf := goodIn_r _ [7, 8, 9, 10, 6, 11, 12, 13, 14, 15, 16, 17, 18, 19, 20, 21, 22, 23, 24, 25, 26, 27, 28, 29, 30, 31, 32, 33, 34, 35, 36, 37, 38, 39, 40, 41, 42, 43, 44, 45, 46, 47, 48, 49, 50, 51, 52, 53, 54, 55, 67, 68, 69, 73, 74, 75, 76, 77, 78, 79, 80] (by decide +kernel) (by decide +kernel)
set_option maxRecDepth 20000 in
theorem gX10_planAlignment_X7_lineOf : GoodIn wsX10_planAlignment (wsV RX10 60 RX7 yX7_lineOf wsX7_lineOf) := goodIn_app (goodIn_of _ (by decide +kernel)) ggX10_planAlignment_X7_lineOf
set_option maxRecDepth 20000 in
theorem ggX10_planAlignment_X10_setOf : GoodIn wsX10_planAlignment wsX10_setOf := goodIn_r _ [60, 2, 61, 70, 71, 72] (by decide +kernel) (by decide +kernel)
set_option maxRecDepth 20000 in
theorem gX10_planAlignment_X10_setOf : GoodIn wsX10_planAlignment (wsV RX10 49 RX10 yX10_setOf wsX10_setOf) := goodIn_app (goodIn_of _ (by decide +kernel)) ggX10_planAlignment_X10_setOf
set_option maxRecDepth 20000 in
theorem ggX10_planAlignment_X10_putWay : GoodIn wsX10_planAlignment wsX10_putWay := goodIn_r _ [65, 66, 70, 71, 72] (by decide +kernel) (by decide +kernel)
set_option maxRecDepth 20000 in
theorem gX10_planAlignment_X10_putWay : GoodIn wsX10_planAlignment (wsV RX10 64 RX10 yX10_putWay wsX10_putWay) := goodIn_app (goodIn_of _ (by decide +kernel)) ggX10_planAlignment_X10_putWay
theorem dX10_planAlignment_0 : decode cX10_planAlignment 0 = .ok (.aload_n 1, 1) := by decide +kernel
theorem dX10_planAlignment_1 : decode cX10_planAlignment 1 = .ok (.aload_n 1, 1) := by decide +kernel
theorem dX10_planAlignment_2 : decode cX10_planAlignment 2 = .ok (.getfield 34, 3) := by decide +kernel
theorem dX10_planAlignment_5 : decode cX10_planAlignment 5 = .ok (.iload_n 2, 1) := by decide +kernel
theorem dX10_planAlignment_6 : decode cX10_planAlignment 6 = .ok (.iload_n 3, 1) := by decide +kernel
theorem dX10_planAlignment_7 : decode cX10_planAlignment 7 = .ok (.invokevirtual 60, 3) := by decide +kernel
theorem dX10_planAlignment_10 : decode cX10_planAlignment 10 = .ok (.istore 4, 2) := by decide +kernel
theorem dX10_planAlignment_12 : decode cX10_planAlignment 12 = .ok (.iconst 0, 1) := by decide +kernel
theorem dX10_planAlignment_13 : decode cX10_planAlignment 13 = .ok (.istore 5, 2) := by decide +kernel
theorem dX10_planAlignment_15 : decode cX10_planAlignment 15 = .ok (.iload 5, 2) := by decide +kernel
theorem dX10_planAlignment_17 : decode cX10_planAlignment 17 = .ok (.aload_n 0, 1) := by decide +kernel
theorem dX10_planAlignment_18 : decode cX10_planAlignment 18 = .ok (.getfield 18, 3) := by decide +kernel
theorem dX10_planAlignment_21 : decode cX10_planAlignment 21 = .ok (.if_icmp .ge 30, 3) := by decide +kernel
theorem dX10_planAlignment_24 : decode cX10_planAlignment 24 = .ok (.aload_n 0, 1) := by decide +kernel
theorem dX10_planAlignment_25 : decode cX10_planAlignment 25 = .ok (.iload 5, 2) := by decide +kernel
theorem dX10_planAlignment_27 : decode cX10_planAlignment 27 = .ok (.iload 4, 2) := by decide +kernel
theorem dX10_planAlignment_29 : decode cX10_planAlignment 29 = .ok (.aload_n 1, 1) := by decide +kernel
theorem dX10_planAlignment_30 : decode cX10_planAlignment 30 = .ok (.aload_n 0, 1) := by decide +kernel
theorem dX10_planAlignment_31 : decode cX10_planAlignment 31 = .ok (.iload 5, 2) := by decide +kernel
theorem dX10_planAlignment_33 : decode cX10_planAlignment 33 = .ok (.invokevirtual 49, 3) := by decide +kernel
theorem dX10_planAlignment_36 : decode cX10_planAlignment 36 = .ok (.iload_n 2, 1) := by decide +kernel
theorem dX10_planAlignment_37 : decode cX10_planAlignment 37 = .ok (.iload_n 3, 1) := by decide +kernel
theorem dX10_planAlignment_38 : decode cX10_planAlignment 38 = .ok (.invokevirtual 60, 3) := by decide +kernel
theorem dX10_planAlignment_41 : decode cX10_planAlignment 41 = .ok (.isub, 1) := by decide +kernel
theorem dX10_planAlignment_42 : decode cX10_planAlignment 42 = .ok (.invokevirtual 64, 3) := by decide +kernel
theorem dX10_planAlignment_45 : decode cX10_planAlignment 45 = .ok (.iinc 5 1, 3) := by decide +kernel
theorem dX10_planAlignment_48 : decode cX10_planAlignment 48 = .ok (.goto (-33), 3) := by decide +kernel
theorem dX10_planAlignment_51 : decode cX10_planAlignment 51 = .ok (.return_, 1) := by decide +kernel
set_option maxRecDepth 20000 in
theorem ggX10_planDistribution_X10_sortAlong : GoodIn wsX10_planDistribution wsX10_sortAlong := goodIn_r _ [6, 1, 7, 8, 9, 10, 11, 12, 13, 14, 15, 16, 17, 18, 19, 20, 21, 22, 23, 24, 25, 26, 27, 28, 29, 30, 31, 32, 33, 73, 74, 75, 76, 77, 78, 79, 80, 81, 82, 83, 84, 85, 86] (by decide +kernel) (by decide +kernel)
set_option maxRecDepth 20000 in
theorem gX10_planDistribution_X10_sortAlong : GoodIn wsX10_planDistribution (wsV RX10 68 RX10 yX10_sortAlong wsX10_sortAlong) := goodIn_app (goodIn_of _ (by decide +kernel)) ggX10_planDistribution_X10_sortAlong
set_option maxRecDepth 20000 in
theorem ggX10_planDistribution_X10_setOf : GoodIn wsX10_planDistribution wsX10_setOf := goodIn_r _ [37, 1, 7, 73, 74, 75] (by decide +kernel) (by decide +kernel)
set_option maxRecDepth 20000 in
theorem gX10_planDistribution_X10_setOf : GoodIn wsX10_planDistribution (wsV RX10 49 RX10 yX10_setOf wsX10_setOf) := goodIn_app (goodIn_of _ (by decide +kernel)) ggX10_planDistribution_X10_setOf
set_option maxRecDepth 20000 in
theorem ggX10_planDistribution_X7_low : GoodIn wsX10_planDistribution wsX7_low := goodIn_r _ [12, 13, 14, 15, 16, 17, 18, 19, 20, 21, 11, 22, 23, 24, 25, 26, 27, 28, 29, 30, 31, 32, 33, 76, 77, 78, 79, 80, 81, 82, 83, 84, 85, 86] (by decide +kernel) (by decide +kernel)
set_option maxRecDepth 20000 in
theorem gX10_planDistribution_X7_low : GoodIn wsX10_planDistribution (wsV RX10 57 RX7 yX7_low wsX7_low) := goodIn_app (goodIn_of _ (by decide +kernel)) ggX10_planDistribution_X7_low
set_option maxRecDepth 20000 in
theorem ggX10_planDistribution_X7_high : GoodIn wsX10_planDistribution wsX7_high := goodIn_r _ [41, 42, 14, 43, 44, 17, 45, 19, 20, 21, 11, 22, 23, 24, 25, 26, 46, 47, 48, 30, 49, 50, 28, 29, 31, 32, 33, 51, 52, 53, 54, 55, 56, 76, 77, 78, 79, 80, 81, 82, 83, 84, 85, 86] (by decide +kernel) (by decide +kernel)
set_option maxRecDepth 20000 in
theorem gX10_planDistribution_X7_high : GoodIn wsX10_planDistribution (wsV RX10 53 RX7 yX7_high wsX7_high) := goodIn_app (goodIn_of _ (by decide +kernel)) ggX10_planDistribution_X7_high
set_option maxRecDepth 20000 in
theorem ggX10_planDistribution_X10_sizeOf : GoodIn wsX10_planDistribution wsX10_sizeOf := goodIn_r _ [60, 34, 35, 36, 5, 37, 1, 7, 38, 39, 40, 11, 41, 42, 14, 43, 44, 17, 45, 19, 20, 21, 22, 23, 24, 25, 26, 46, 47, 48, 30, 49, 50, 28, 29, 31, 32, 33, 51, 52, 53, 54, 55, 56, 8, 9, 10, 12, 13, 15, 16, 18, 27, 73, 74, 75, 76, 77, 78, 79, 80, 81, 82, 83, 84, 85, 86] (by decide +kernel) (by decide +kernel)
set_option maxRecDepth 20000 in
theorem gX10_planDistribution_X10_sizeOf : GoodIn wsX10_planDistribution (wsV RX10 72 RX10 yX10_sizeOf wsX10_sizeOf) := goodIn_app (goodIn_of _ (by decide +kernel)) ggX10_planDistribution_X10_sizeOf
set_option maxRecDepth 20000 in
theorem ggX10_planDistribution_J9_floorDiv_7cf53 : GoodIn wsX10_planDistribution wsJ9_floorDiv_7cf53 := goodIn_r _ [64] (by decide +kernel) (by decide +kernel)
set_option maxRecDepth 20000 in
theorem gX10_planDistribution_J9_floorDiv_7cf53 : GoodIn wsX10_planDistribution (va_wsS RX10 76 yJ9_floorDiv_7cf53 wsJ9_floorDiv_7cf53) := goodIn_app (goodIn_of _ (by decide +kernel)) ggX10_planDistribution_J9_floorDiv_7cf53
set_option maxRecDepth 20000 in
theorem ggX10_planDistribution_J9_floorMod_7cf53 : GoodIn wsX10_planDistribution wsJ9_floorMod_7cf53 := goodIn_r _ [67] (by decide +kernel) (by decide +kernel)
set_option maxRecDepth 20000 in
theorem gX10_planDistribution_J9_floorMod_7cf53 : GoodIn wsX10_planDistribution (va_wsS RX10 81 yJ9_floorMod_7cf53 wsJ9_floorMod_7cf53) := goodIn_app (goodIn_of _ (by decide +kernel)) ggX10_planDistribution_J9_floorMod_7cf53
set_option maxRecDepth 20000 in
theorem ggX10_planDistribution_X10_putWay : GoodIn wsX10_planDistribution wsX10_putWay := goodIn_r _ [71, 72, 73, 74, 75] (by decide +kernel) (by decide +kernel)
set_option maxRecDepth 20000 in
theorem gX10_planDistribution_X10_putWay : GoodIn wsX10_planDistribution (wsV RX10 64 RX10 yX10_putWay wsX10_putWay) := goodIn_app (goodIn_of _ (by decide +kernel)) ggX10_planDistribution_X10_putWay
theorem dX10_planDistribution_0 : decode cX10_planDistribution 0 = .ok (.aload_n 0, 1) := by decide +kernel
theorem dX10_planDistribution_1 : decode cX10_planDistribution 1 = .ok (.aload_n 1, 1) := by decide +kernel
theorem dX10_planDistribution_2 : decode cX10_planDistribution 2 = .ok (.iload_n 2, 1) := by decide +kernel
theorem dX10_planDistribution_3 : decode cX10_planDistribution 3 = .ok (.invokevirtual 68, 3) := by decide +kernel
theorem dX10_planDistribution_6 : decode cX10_planDistribution 6 = .ok (.aload_n 0, 1) := by decide +kernel
theorem dX10_planDistribution_7 : decode cX10_planDistribution 7 = .ok (.getfield 18, 3) := by decide +kernel
theorem dX10_planDistribution_10 : decode cX10_planDistribution 10 = .ok (.iconst 1, 1) := by decide +kernel
theorem dX10_planDistribution_11 : decode cX10_planDistribution 11 = .ok (.isub, 1) := by decide +kernel
theorem dX10_planDistribution_12 : decode cX10_planDistribution 12 = .ok (.istore_n 3, 1) := by decide +kernel
theorem dX10_planDistribution_13 : decode cX10_planDistribution 13 = .ok (.aload_n 1, 1) := by decide +kernel
theorem dX10_planDistribution_14 : decode cX10_planDistribution 14 = .ok (.aload_n 0, 1) := by decide +kernel
theorem dX10_planDistribution_15 : decode cX10_planDistribution 15 = .ok (.iload_n 3, 1) := by decide +kernel
theorem dX10_planDistribution_16 : decode cX10_planDistribution 16 = .ok (.invokevirtual 49, 3) := by decide +kernel
theorem dX10_planDistribution_19 : decode cX10_planDistribution 19 = .ok (.iload_n 2, 1) := by decide +kernel
theorem dX10_planDistribution_20 : decode cX10_planDistribution 20 = .ok (.invokevirtual 57, 3) := by decide +kernel
theorem dX10_planDistribution_23 : decode cX10_planDistribution 23 = .ok (.aload_n 1, 1) := by decide +kernel
theorem dX10_planDistribution_24 : decode cX10_planDistribution 24 = .ok (.aload_n 0, 1) := by decide +kernel
theorem dX10_planDistribution_25 : decode cX10_planDistribution 25 = .ok (.iconst 0, 1) := by decide +kernel
theorem dX10_planDistribution_26 : decode cX10_planDistribution 26 = .ok (.invokevirtual 49, 3) := by decide +kernel
theorem dX10_planDistribution_29 : decode cX10_planDistribution 29 = .ok (.iload_n 2, 1) := by decide +kernel
theorem dX10_planDistribution_30 : decode cX10_planDistribution 30 = .ok (.invokevirtual 53, 3) := by decide +kernel
theorem dX10_planDistribution_33 : decode cX10_planDistribution 33 = .ok (.isub, 1) := by decide +kernel
theorem dX10_planDistribution_34 : decode cX10_planDistribution 34 = .ok (.istore 4, 2) := by decide +kernel
theorem dX10_planDistribution_36 : decode cX10_planDistribution 36 = .ok (.iconst 1, 1) := by decide +kernel
theorem dX10_planDistribution_37 : decode cX10_planDistribution 37 = .ok (.istore 5, 2) := by decide +kernel
theorem dX10_planDistribution_39 : decode cX10_planDistribution 39 = .ok (.iload 5, 2) := by decide +kernel
theorem dX10_planDistribution_41 : decode cX10_planDistribution 41 = .ok (.iload_n 3, 1) := by decide +kernel
theorem dX10_planDistribution_42 : decode cX10_planDistribution 42 = .ok (.if_icmp .ge 22, 3) := by decide +kernel
theorem dX10_planDistribution_45 : decode cX10_planDistribution 45 = .ok (.iload 4, 2) := by decide +kernel
theorem dX10_planDistribution_47 : decode cX10_planDistribution 47 = .ok (.aload_n 0, 1) := by decide +kernel
theorem dX10_planDistribution_48 : decode cX10_planDistribution 48 = .ok (.aload_n 1, 1) := by decide +kernel
theorem dX10_planDistribution_49 : decode cX10_planDistribution 49 = .ok (.iload 5, 2) := by decide +kernel
theorem dX10_planDistribution_51 : decode cX10_planDistribution 51 = .ok (.iload_n 2, 1) := by decide +kernel
theorem dX10_planDistribution_52 : decode cX10_planDistribution 52 = .ok (.invokevirtual 72, 3) := by decide +kernel
theorem dX10_planDistribution_55 : decode cX10_planDistribution 55 = .ok (.isub, 1) := by decide +kernel
theorem dX10_planDistribution_56 : decode cX10_planDistribution 56 = .ok (.istore 4, 2) := by decide +kernel
theorem dX10_planDistribution_58 : decode cX10_planDistribution 58 = .ok (.iinc 5 1, 3) := by decide +kernel
theorem dX10_planDistribution_61 : decode cX10_planDistribution 61 = .ok (.goto (-22), 3) := by decide +kernel
theorem dX10_planDistribution_64 : decode cX10_planDistribution 64 = .ok (.iload_n 3, 1) := by decide +kernel
theorem dX10_planDistribution_65 : decode cX10_planDistribution 65 = .ok (.ifCond .le 12, 3) := by decide +kernel
theorem dX10_planDistribution_68 : decode cX10_planDistribution 68 = .ok (.iload 4, 2) := by decide +kernel
theorem dX10_planDistribution_70 : decode cX10_planDistribution 70 = .ok (.iload_n 3, 1) := by decide +kernel
theorem dX10_planDistribution_71 : decode cX10_planDistribution 71 = .ok (.invokestatic 76, 3) := by decide +kernel
theorem dX10_planDistribution_74 : decode cX10_planDistribution 74 = .ok (.goto 4, 3) := by decide +kernel
theorem dX10_planDistribution_77 : decode cX10_planDistribution 77 = .ok (.iconst 0, 1) := by decide +kernel
theorem dX10_planDistribution_78 : decode cX10_planDistribution 78 = .ok (.istore 5, 2) := by decide +kernel
theorem dX10_planDistribution_80 : decode cX10_planDistribution 80 = .ok (.iload_n 3, 1) := by decide +kernel
theorem dX10_planDistribution_81 : decode cX10_planDistribution 81 = .ok (.ifCond .le 12, 3) := by decide +kernel
theorem dX10_planDistribution_84 : decode cX10_planDistribution 84 = .ok (.iload 4, 2) := by decide +kernel
theorem dX10_planDistribution_86 : decode cX10_planDistribution 86 = .ok (.iload_n 3, 1) := by decide +kernel
theorem dX10_planDistribution_87 : decode cX10_planDistribution 87 = .ok (.invokestatic 81, 3) := by decide +kernel
theorem dX10_planDistribution_90 : decode cX10_planDistribution 90 = .ok (.goto 4, 3) := by decide +kernel
theorem dX10_planDistribution_93 : decode cX10_planDistribution 93 = .ok (.iconst 0, 1) := by decide +kernel
theorem dX10_planDistribution_94 : decode cX10_planDistribution 94 = .ok (.istore 6, 2) := by decide +kernel
theorem dX10_planDistribution_96 : decode cX10_planDistribution 96 = .ok (.aload_n 1, 1) := by decide +kernel
theorem dX10_planDistribution_97 : decode cX10_planDistribution 97 = .ok (.aload_n 0, 1) := by decide +kernel
theorem dX10_planDistribution_98 : decode cX10_planDistribution 98 = .ok (.iconst 0, 1) := by decide +kernel
theorem dX10_planDistribution_99 : decode cX10_planDistribution 99 = .ok (.invokevirtual 49, 3) := by decide +kernel
theorem dX10_planDistribution_102 : decode cX10_planDistribution 102 = .ok (.iload_n 2, 1) := by decide +kernel
theorem dX10_planDistribution_103 : decode cX10_planDistribution 103 = .ok (.invokevirtual 53, 3) := by decide +kernel
theorem dX10_planDistribution_106 : decode cX10_planDistribution 106 = .ok (.istore 7, 2) := by decide +kernel
theorem dX10_planDistribution_108 : decode cX10_planDistribution 108 = .ok (.aload_n 0, 1) := by decide +kernel
theorem dX10_planDistribution_109 : decode cX10_planDistribution 109 = .ok (.iconst 0, 1) := by decide +kernel
theorem dX10_planDistribution_110 : decode cX10_planDistribution 110 = .ok (.iconst 0, 1) := by decide +kernel
theorem dX10_planDistribution_111 : decode cX10_planDistribution 111 = .ok (.invokevirtual 64, 3) := by decide +kernel
theorem dX10_planDistribution_114 : decode cX10_planDistribution 114 = .ok (.aload_n 0, 1) := by decide +kernel
theorem dX10_planDistribution_115 : decode cX10_planDistribution 115 = .ok (.iload_n 3, 1) := by decide +kernel
theorem dX10_planDistribution_116 : decode cX10_planDistribution 116 = .ok (.iconst 0, 1) := by decide +kernel
theorem dX10_planDistribution_117 : decode cX10_planDistribution 117 = .ok (.invokevirtual 64, 3) := by decide +kernel
theorem dX10_planDistribution_120 : decode cX10_planDistribution 120 = .ok (.iconst 1, 1) := by decide +kernel
theorem dX10_planDistribution_121 : decode cX10_planDistribution 121 = .ok (.istore 8, 2) := by decide +kernel
theorem dX10_planDistribution_123 : decode cX10_planDistribution 123 = .ok (.iload 8, 2) := by decide +kernel
theorem dX10_planDistribution_125 : decode cX10_planDistribution 125 = .ok (.iload_n 3, 1) := by decide +kernel
theorem dX10_planDistribution_126 : decode cX10_planDistribution 126 = .ok (.if_icmp .ge 63, 3) := by decide +kernel
theorem dX10_planDistribution_129 : decode cX10_planDistribution 129 = .ok (.iload 7, 2) := by decide +kernel
theorem dX10_planDistribution_131 : decode cX10_planDistribution 131 = .ok (.iload 8, 2) := by decide +kernel
theorem dX10_planDistribution_133 : decode cX10_planDistribution 133 = .ok (.iload 6, 2) := by decide +kernel
theorem dX10_planDistribution_135 : decode cX10_planDistribution 135 = .ok (.if_icmp .gt 10, 3) := by decide +kernel
theorem dX10_planDistribution_138 : decode cX10_planDistribution 138 = .ok (.iload 5, 2) := by decide +kernel
theorem dX10_planDistribution_140 : decode cX10_planDistribution 140 = .ok (.iconst 1, 1) := by decide +kernel
theorem dX10_planDistribution_141 : decode cX10_planDistribution 141 = .ok (.iadd, 1) := by decide +kernel
theorem dX10_planDistribution_142 : decode cX10_planDistribution 142 = .ok (.goto 5, 3) := by decide +kernel
theorem dX10_planDistribution_145 : decode cX10_planDistribution 145 = .ok (.iload 5, 2) := by decide +kernel
theorem dX10_planDistribution_147 : decode cX10_planDistribution 147 = .ok (.iadd, 1) := by decide +kernel
theorem dX10_planDistribution_148 : decode cX10_planDistribution 148 = .ok (.istore 7, 2) := by decide +kernel
theorem dX10_planDistribution_150 : decode cX10_planDistribution 150 = .ok (.aload_n 0, 1) := by decide +kernel
theorem dX10_planDistribution_151 : decode cX10_planDistribution 151 = .ok (.iload 8, 2) := by decide +kernel
theorem dX10_planDistribution_153 : decode cX10_planDistribution 153 = .ok (.iload 7, 2) := by decide +kernel
theorem dX10_planDistribution_155 : decode cX10_planDistribution 155 = .ok (.aload_n 1, 1) := by decide +kernel
theorem dX10_planDistribution_156 : decode cX10_planDistribution 156 = .ok (.aload_n 0, 1) := by decide +kernel
theorem dX10_planDistribution_157 : decode cX10_planDistribution 157 = .ok (.iload 8, 2) := by decide +kernel
theorem dX10_planDistribution_159 : decode cX10_planDistribution 159 = .ok (.invokevirtual 49, 3) := by decide +kernel
theorem dX10_planDistribution_162 : decode cX10_planDistribution 162 = .ok (.iload_n 2, 1) := by decide +kernel
theorem dX10_planDistribution_163 : decode cX10_planDistribution 163 = .ok (.invokevirtual 57, 3) := by decide +kernel
theorem dX10_planDistribution_166 : decode cX10_planDistribution 166 = .ok (.isub, 1) := by decide +kernel
theorem dX10_planDistribution_167 : decode cX10_planDistribution 167 = .ok (.invokevirtual 64, 3) := by decide +kernel
theorem dX10_planDistribution_170 : decode cX10_planDistribution 170 = .ok (.iload 7, 2) := by decide +kernel
theorem dX10_planDistribution_172 : decode cX10_planDistribution 172 = .ok (.aload_n 0, 1) := by decide +kernel
theorem dX10_planDistribution_173 : decode cX10_planDistribution 173 = .ok (.aload_n 1, 1) := by decide +kernel
theorem dX10_planDistribution_174 : decode cX10_planDistribution 174 = .ok (.iload 8, 2) := by decide +kernel
theorem dX10_planDistribution_176 : decode cX10_planDistribution 176 = .ok (.iload_n 2, 1) := by decide +kernel
theorem dX10_planDistribution_177 : decode cX10_planDistribution 177 = .ok (.invokevirtual 72, 3) := by decide +kernel
theorem dX10_planDistribution_180 : decode cX10_planDistribution 180 = .ok (.iadd, 1) := by decide +kernel
theorem dX10_planDistribution_181 : decode cX10_planDistribution 181 = .ok (.istore 7, 2) := by decide +kernel
theorem dX10_planDistribution_183 : decode cX10_planDistribution 183 = .ok (.iinc 8 1, 3) := by decide +kernel
theorem dX10_planDistribution_186 : decode cX10_planDistribution 186 = .ok (.goto (-63), 3) := by decide +kernel
theorem dX10_planDistribution_189 : decode cX10_planDistribution 189 = .ok (.iload 4, 2) := by decide +kernel
theorem dX10_planDistribution_191 : decode cX10_planDistribution 191 = .ok (.ireturn, 1) := by decide +kernel
set_option maxRecDepth 20000 in
theorem ggX10_sortAlong_X7_low : GoodIn wsX10_sortAlong wsX7_low := goodIn_r _ [7, 8, 9, 10, 11, 12, 13, 14, 15, 16, 6, 17, 18, 19, 20, 21, 22, 23, 24, 25, 26, 27, 28, 32, 33, 34, 35, 36, 37, 38, 39, 40, 41, 42] (by decide +kernel) (by decide +kernel)
set_option maxRecDepth 20000 in
theorem gX10_sortAlong_X7_low : GoodIn wsX10_sortAlong (wsV RX10 57 RX7 yX7_low wsX7_low) := goodIn_app (goodIn_of _ (by decide +kernel)) ggX10_sortAlong_X7_low
theorem dX10_sortAlong_0 : decode cX10_sortAlong 0 = .ok (.iconst 1, 1) := by decide +kernel
theorem dX10_sortAlong_1 : decode cX10_sortAlong 1 = .ok (.istore_n 3, 1) := by decide +kernel
theorem dX10_sortAlong_2 : decode cX10_sortAlong 2 = .ok (.iload_n 3, 1) := by decide +kernel
theorem dX10_sortAlong_3 : decode cX10_sortAlong 3 = .ok (.aload_n 0, 1) := by decide +kernel
theorem dX10_sortAlong_4 : decode cX10_sortAlong 4 = .ok (.getfield 18, 3) := by decide +kernel
theorem dX10_sortAlong_7 : decode cX10_sortAlong 7 = .ok (.if_icmp .ge 93, 3) := by decide +kernel
theorem dX10_sortAlong_10 : decode cX10_sortAlong 10 = .ok (.iload_n 3, 1) := by decide +kernel
theorem dX10_sortAlong_11 : decode cX10_sortAlong 11 = .ok (.aload_n 0, 1) := by decide +kernel
theorem dX10_sortAlong_12 : decode cX10_sortAlong 12 = .ok (.getfield 9, 3) := by decide +kernel
theorem dX10_sortAlong_15 : decode cX10_sortAlong 15 = .ok (.arraylength, 1) := by decide +kernel
theorem dX10_sortAlong_16 : decode cX10_sortAlong 16 = .ok (.if_icmp .ge 84, 3) := by decide +kernel
theorem dX10_sortAlong_19 : decode cX10_sortAlong 19 = .ok (.aload_n 0, 1) := by decide +kernel
theorem dX10_sortAlong_20 : decode cX10_sortAlong 20 = .ok (.getfield 9, 3) := by decide +kernel
theorem dX10_sortAlong_23 : decode cX10_sortAlong 23 = .ok (.iload_n 3, 1) := by decide +kernel
theorem dX10_sortAlong_24 : decode cX10_sortAlong 24 = .ok (.iaload, 1) := by decide +kernel
theorem dX10_sortAlong_25 : decode cX10_sortAlong 25 = .ok (.istore 4, 2) := by decide +kernel
theorem dX10_sortAlong_27 : decode cX10_sortAlong 27 = .ok (.aload_n 1, 1) := by decide +kernel
theorem dX10_sortAlong_28 : decode cX10_sortAlong 28 = .ok (.iload 4, 2) := by decide +kernel
theorem dX10_sortAlong_30 : decode cX10_sortAlong 30 = .ok (.iload_n 2, 1) := by decide +kernel
theorem dX10_sortAlong_31 : decode cX10_sortAlong 31 = .ok (.invokevirtual 57, 3) := by decide +kernel
theorem dX10_sortAlong_34 : decode cX10_sortAlong 34 = .ok (.istore 5, 2) := by decide +kernel
theorem dX10_sortAlong_36 : decode cX10_sortAlong 36 = .ok (.iload_n 3, 1) := by decide +kernel
theorem dX10_sortAlong_37 : decode cX10_sortAlong 37 = .ok (.istore 6, 2) := by decide +kernel
theorem dX10_sortAlong_39 : decode cX10_sortAlong 39 = .ok (.iload 6, 2) := by decide +kernel
theorem dX10_sortAlong_41 : decode cX10_sortAlong 41 = .ok (.ifCond .le 44, 3) := by decide +kernel
theorem dX10_sortAlong_44 : decode cX10_sortAlong 44 = .ok (.aload_n 1, 1) := by decide +kernel
theorem dX10_sortAlong_45 : decode cX10_sortAlong 45 = .ok (.aload_n 0, 1) := by decide +kernel
theorem dX10_sortAlong_46 : decode cX10_sortAlong 46 = .ok (.getfield 9, 3) := by decide +kernel
theorem dX10_sortAlong_49 : decode cX10_sortAlong 49 = .ok (.iload 6, 2) := by decide +kernel
theorem dX10_sortAlong_51 : decode cX10_sortAlong 51 = .ok (.iconst 1, 1) := by decide +kernel
theorem dX10_sortAlong_52 : decode cX10_sortAlong 52 = .ok (.isub, 1) := by decide +kernel
theorem dX10_sortAlong_53 : decode cX10_sortAlong 53 = .ok (.iaload, 1) := by decide +kernel
theorem dX10_sortAlong_54 : decode cX10_sortAlong 54 = .ok (.iload_n 2, 1) := by decide +kernel
theorem dX10_sortAlong_55 : decode cX10_sortAlong 55 = .ok (.invokevirtual 57, 3) := by decide +kernel
theorem dX10_sortAlong_58 : decode cX10_sortAlong 58 = .ok (.iload 5, 2) := by decide +kernel
theorem dX10_sortAlong_60 : decode cX10_sortAlong 60 = .ok (.if_icmp .le 25, 3) := by decide +kernel
theorem dX10_sortAlong_63 : decode cX10_sortAlong 63 = .ok (.aload_n 0, 1) := by decide +kernel
theorem dX10_sortAlong_64 : decode cX10_sortAlong 64 = .ok (.getfield 9, 3) := by decide +kernel
theorem dX10_sortAlong_67 : decode cX10_sortAlong 67 = .ok (.iload 6, 2) := by decide +kernel
theorem dX10_sortAlong_69 : decode cX10_sortAlong 69 = .ok (.aload_n 0, 1) := by decide +kernel
theorem dX10_sortAlong_70 : decode cX10_sortAlong 70 = .ok (.getfield 9, 3) := by decide +kernel
theorem dX10_sortAlong_73 : decode cX10_sortAlong 73 = .ok (.iload 6, 2) := by decide +kernel
theorem dX10_sortAlong_75 : decode cX10_sortAlong 75 = .ok (.iconst 1, 1) := by decide +kernel
theorem dX10_sortAlong_76 : decode cX10_sortAlong 76 = .ok (.isub, 1) := by decide +kernel
theorem dX10_sortAlong_77 : decode cX10_sortAlong 77 = .ok (.iaload, 1) := by decide +kernel
theorem dX10_sortAlong_78 : decode cX10_sortAlong 78 = .ok (.iastore, 1) := by decide +kernel
theorem dX10_sortAlong_79 : decode cX10_sortAlong 79 = .ok (.iinc 6 (-1), 3) := by decide +kernel
theorem dX10_sortAlong_82 : decode cX10_sortAlong 82 = .ok (.goto (-43), 3) := by decide +kernel
theorem dX10_sortAlong_85 : decode cX10_sortAlong 85 = .ok (.aload_n 0, 1) := by decide +kernel
theorem dX10_sortAlong_86 : decode cX10_sortAlong 86 = .ok (.getfield 9, 3) := by decide +kernel
theorem dX10_sortAlong_89 : decode cX10_sortAlong 89 = .ok (.iload 6, 2) := by decide +kernel
theorem dX10_sortAlong_91 : decode cX10_sortAlong 91 = .ok (.iload 4, 2) := by decide +kernel
theorem dX10_sortAlong_93 : decode cX10_sortAlong 93 = .ok (.iastore, 1) := by decide +kernel
theorem dX10_sortAlong_94 : decode cX10_sortAlong 94 = .ok (.iinc 3 1, 3) := by decide +kernel
theorem dX10_sortAlong_97 : decode cX10_sortAlong 97 = .ok (.goto (-95), 3) := by decide +kernel
theorem dX10_sortAlong_100 : decode cX10_sortAlong 100 = .ok (.return_, 1) := by decide +kernel
set_option maxRecDepth 20000 in
theorem ggX10_canShift_X10_setOf : GoodIn wsX10_canShift wsX10_setOf := goodIn_r _ [6, 1, 7, 39, 40, 41] (by decide +kernel) (by decide +kernel)
set_option maxRecDepth 20000 in
theorem gX10_canShift_X10_setOf : GoodIn wsX10_canShift (wsV RX10 49 RX10 yX10_setOf wsX10_setOf) := goodIn_app (goodIn_of _ (by decide +kernel)) ggX10_canShift_X10_setOf
set_option maxRecDepth 20000 in
theorem ggX10_canShift_X10_wayOf : GoodIn wsX10_canShift wsX10_wayOf := goodIn_r _ [11, 1, 12, 39, 40, 41] (by decide +kernel) (by decide +kernel)
set_option maxRecDepth 20000 in
theorem gX10_canShift_X10_wayOf : GoodIn wsX10_canShift (wsV RX10 84 RX10 yX10_wayOf wsX10_wayOf) := goodIn_app (goodIn_of _ (by decide +kernel)) ggX10_canShift_X10_wayOf
set_option maxRecDepth 20000 in
theorem ggX10_canShift_X7_canShift : GoodIn wsX10_canShift wsX7_canShift := goodIn_r _ [17, 18, 19, 20, 21, 16, 22, 23, 24, 25, 26, 27, 28, 29, 30, 31, 32, 33, 34, 35, 36, 37, 38, 42, 43, 44, 45, 46, 47, 48, 49, 50, 51, 52] (by decide +kernel) (by decide +kernel)
set_option maxRecDepth 20000 in
theorem gX10_canShift_X7_canShift : GoodIn wsX10_canShift (wsV RX10 87 RX7 yX7_canShift wsX7_canShift) := goodIn_app (goodIn_of _ (by decide +kernel)) ggX10_canShift_X7_canShift
theorem dX10_canShift_0 : decode cX10_canShift 0 = .ok (.iconst 0, 1) := by decide +kernel
theorem dX10_canShift_1 : decode cX10_canShift 1 = .ok (.istore_n 3, 1) := by decide +kernel
theorem dX10_canShift_2 : decode cX10_canShift 2 = .ok (.iload_n 3, 1) := by decide +kernel
theorem dX10_canShift_3 : decode cX10_canShift 3 = .ok (.aload_n 0, 1) := by decide +kernel
theorem dX10_canShift_4 : decode cX10_canShift 4 = .ok (.getfield 18, 3) := by decide +kernel
theorem dX10_canShift_7 : decode cX10_canShift 7 = .ok (.if_icmp .ge 29, 3) := by decide +kernel
theorem dX10_canShift_10 : decode cX10_canShift 10 = .ok (.aload_n 1, 1) := by decide +kernel
theorem dX10_canShift_11 : decode cX10_canShift 11 = .ok (.aload_n 0, 1) := by decide +kernel
theorem dX10_canShift_12 : decode cX10_canShift 12 = .ok (.iload_n 3, 1) := by decide +kernel
theorem dX10_canShift_13 : decode cX10_canShift 13 = .ok (.invokevirtual 49, 3) := by decide +kernel
theorem dX10_canShift_16 : decode cX10_canShift 16 = .ok (.iload_n 2, 1) := by decide +kernel
theorem dX10_canShift_17 : decode cX10_canShift 17 = .ok (.aload_n 0, 1) := by decide +kernel
theorem dX10_canShift_18 : decode cX10_canShift 18 = .ok (.iload_n 3, 1) := by decide +kernel
theorem dX10_canShift_19 : decode cX10_canShift 19 = .ok (.invokevirtual 84, 3) := by decide +kernel
theorem dX10_canShift_22 : decode cX10_canShift 22 = .ok (.invokevirtual 87, 3) := by decide +kernel
theorem dX10_canShift_25 : decode cX10_canShift 25 = .ok (.ifCond .ne 5, 3) := by decide +kernel
theorem dX10_canShift_28 : decode cX10_canShift 28 = .ok (.iconst 0, 1) := by decide +kernel
theorem dX10_canShift_29 : decode cX10_canShift 29 = .ok (.ireturn, 1) := by decide +kernel
theorem dX10_canShift_30 : decode cX10_canShift 30 = .ok (.iinc 3 1, 3) := by decide +kernel
theorem dX10_canShift_33 : decode cX10_canShift 33 = .ok (.goto (-31), 3) := by decide +kernel
theorem dX10_canShift_36 : decode cX10_canShift 36 = .ok (.iconst 1, 1) := by decide +kernel
theorem dX10_canShift_37 : decode cX10_canShift 37 = .ok (.ireturn, 1) := by decide +kernel
set_option maxRecDepth 20000 in
theorem ggX10_shift_X10_wayOf : GoodIn wsX10_shift wsX10_wayOf := goodIn_r _ [6, 1, 7, 34, 35, 36] (by decide +kernel) (by decide +kernel)
set_option maxRecDepth 20000 in
theorem gX10_shift_X10_wayOf : GoodIn wsX10_shift (wsV RX10 84 RX10 yX10_wayOf wsX10_wayOf) := goodIn_app (goodIn_of _ (by decide +kernel)) ggX10_shift_X10_wayOf
set_option maxRecDepth 20000 in
theorem ggX10_shift_X10_setOf : GoodIn wsX10_shift wsX10_setOf := goodIn_r _ [11, 1, 12, 34, 35, 36] (by decide +kernel) (by decide +kernel)
set_option maxRecDepth 20000 in
theorem gX10_shift_X10_setOf : GoodIn wsX10_shift (wsV RX10 49 RX10 yX10_setOf wsX10_setOf) := goodIn_app (goodIn_of _ (by decide +kernel)) ggX10_shift_X10_setOf
set_option maxRecDepth 20000 in
theorem ggX10_shift_X7_shift : GoodIn wsX10_shift wsX7_shift := goodIn_r _ [17, 18, 19, 20, 21, 16, 22, 23, 24, 25, 26, 27, 28, 29, 30, 31, 32, 33, 37, 38, 39, 40, 41, 42, 43, 44, 45, 46, 47] (by decide +kernel) (by decide +kernel)
set_option maxRecDepth 20000 in
theorem gX10_shift_X7_shift : GoodIn wsX10_shift (wsV RX10 91 RX7 yX7_shift wsX7_shift) := goodIn_app (goodIn_of _ (by decide +kernel)) ggX10_shift_X7_shift
theorem dX10_shift_0 : decode cX10_shift 0 = .ok (.iconst 0, 1) := by decide +kernel
theorem dX10_shift_1 : decode cX10_shift 1 = .ok (.istore_n 3, 1) := by decide +kernel
theorem dX10_shift_2 : decode cX10_shift 2 = .ok (.iconst 0, 1) := by decide +kernel
theorem dX10_shift_3 : decode cX10_shift 3 = .ok (.istore 4, 2) := by decide +kernel
theorem dX10_shift_5 : decode cX10_shift 5 = .ok (.iload 4, 2) := by decide +kernel
theorem dX10_shift_7 : decode cX10_shift 7 = .ok (.aload_n 0, 1) := by decide +kernel
theorem dX10_shift_8 : decode cX10_shift 8 = .ok (.getfield 18, 3) := by decide +kernel
theorem dX10_shift_11 : decode cX10_shift 11 = .ok (.if_icmp .ge 38, 3) := by decide +kernel
theorem dX10_shift_14 : decode cX10_shift 14 = .ok (.aload_n 0, 1) := by decide +kernel
theorem dX10_shift_15 : decode cX10_shift 15 = .ok (.iload 4, 2) := by decide +kernel
theorem dX10_shift_17 : decode cX10_shift 17 = .ok (.invokevirtual 84, 3) := by decide +kernel
theorem dX10_shift_20 : decode cX10_shift 20 = .ok (.ifCond .eq 23, 3) := by decide +kernel
theorem dX10_shift_23 : decode cX10_shift 23 = .ok (.aload_n 1, 1) := by decide +kernel
theorem dX10_shift_24 : decode cX10_shift 24 = .ok (.aload_n 0, 1) := by decide +kernel
theorem dX10_shift_25 : decode cX10_shift 25 = .ok (.iload 4, 2) := by decide +kernel
theorem dX10_shift_27 : decode cX10_shift 27 = .ok (.invokevirtual 49, 3) := by decide +kernel
theorem dX10_shift_30 : decode cX10_shift 30 = .ok (.iload_n 2, 1) := by decide +kernel
theorem dX10_shift_31 : decode cX10_shift 31 = .ok (.aload_n 0, 1) := by decide +kernel
theorem dX10_shift_32 : decode cX10_shift 32 = .ok (.iload 4, 2) := by decide +kernel
theorem dX10_shift_34 : decode cX10_shift 34 = .ok (.invokevirtual 84, 3) := by decide +kernel
theorem dX10_shift_37 : decode cX10_shift 37 = .ok (.invokevirtual 91, 3) := by decide +kernel
theorem dX10_shift_40 : decode cX10_shift 40 = .ok (.iinc 3 1, 3) := by decide +kernel
theorem dX10_shift_43 : decode cX10_shift 43 = .ok (.iinc 4 1, 3) := by decide +kernel
theorem dX10_shift_46 : decode cX10_shift 46 = .ok (.goto (-41), 3) := by decide +kernel
theorem dX10_shift_49 : decode cX10_shift 49 = .ok (.iload_n 3, 1) := by decide +kernel
theorem dX10_shift_50 : decode cX10_shift 50 = .ok (.ireturn, 1) := by decide +kernel
set_option maxRecDepth 20000 in
theorem ggX11_init_X2_init : GoodIn wsX11_init wsX2_init := goodIn_r _ [25, 26, 2, 3, 27, 28, 29, 30, 31, 32, 33, 34, 35, 36, 37, 38, 39, 40, 41, 42, 43, 44, 45, 46, 47, 48, 49, 50, 51, 52, 53, 54, 55, 56, 57, 58, 59, 60, 61, 62, 63, 64, 65, 66, 67, 68, 69, 70, 71, 72, 73, 74, 75, 76, 77, 123, 124, 125, 99, 100, 101, 102, 126, 127, 128, 129, 130, 131, 132, 133, 134, 135, 136, 137, 138, 139, 140, 141, 142, 143, 144, 145, 146, 147] (by decide +kernel) (by decide +kernel)
set_option maxRecDepth 20000 in
theorem gX11_init_X2_init_n9 : GoodIn wsX11_init (wsX2_init) := ggX11_init_X2_init
set_option maxRecDepth 20000 in
theorem ggX11_init_X5_init : GoodIn wsX11_init wsX5_init := goodIn_r _ [80, 81, 2, 3, 82, 83, 5, 6, 24, 25, 26, 27, 28, 29, 30, 31, 32, 33, 34, 35, 36, 37, 38, 39, 40, 41, 42, 43, 44, 45, 46, 47, 48, 49, 50, 51, 52, 53, 54, 55, 56, 57, 58, 59, 60, 61, 62, 63, 64, 65, 66, 67, 68, 69, 70, 71, 72, 73, 74, 75, 76, 77, 108, 109, 99, 100, 101, 102, 123, 124, 125, 126, 127, 128, 129, 130, 131, 132, 133, 134, 135, 136, 137, 138, 139, 140, 141, 142, 143, 144, 145, 146, 147] (by decide +kernel) (by decide +kernel)
set_option maxRecDepth 20000 in
theorem gX11_init_X5_init : GoodIn wsX11_init (wsX5_init) := ggX11_init_X5_init
set_option maxRecDepth 20000 in
theorem ggX11_init_X9_init : GoodIn wsX11_init wsX9_init := goodIn_r _ [86, 87, 2, 3, 70, 88, 89, 90, 49, 50, 51, 52, 53, 110, 111, 112, 113, 114, 115, 116, 135, 136, 137, 138, 139, 140, 141, 142] (by decide +kernel) (by decide +kernel)
set_option maxRecDepth 20000 in
theorem gX11_init_X9_init : GoodIn wsX11_init (wsX9_init) := ggX11_init_X9_init
set_option maxRecDepth 20000 in
theorem ggX11_init_X10_init : GoodIn wsX11_init wsX10_init := goodIn_r _ [92, 93, 2, 3, 70, 94, 95, 117, 118, 119] (by decide +kernel) (by decide +kernel)
set_option maxRecDepth 20000 in
theorem gX11_init_X10_init_n32 : GoodIn wsX11_init (wsX10_init) := ggX11_init_X10_init
set_option maxRecDepth 20000 in
theorem ggX11_init_X8_init : GoodIn wsX11_init wsX8_init := goodIn_r _ [97, 98, 2, 3] (by decide +kernel) (by decide +kernel)
set_option maxRecDepth 20000 in
theorem gX11_init_X8_init_n39 : GoodIn wsX11_init (wsX8_init) := ggX11_init_X8_init
theorem dX11_init_0 : decode cX11_init 0 = .ok (.aload_n 0, 1) := by decide +kernel
theorem dX11_init_1 : decode cX11_init 1 = .ok (.invokespecial 1, 3) := by decide +kernel
theorem dX11_init_4 : decode cX11_init 4 = .ok (.aload_n 0, 1) := by decide +kernel
theorem dX11_init_5 : decode cX11_init 5 = .ok (.new 7, 3) := by decide +kernel
theorem dX11_init_8 : decode cX11_init 8 = .ok (.dup, 1) := by decide +kernel
theorem dX11_init_9 : decode cX11_init 9 = .ok (.invokespecial 9, 3) := by decide +kernel
theorem dX11_init_12 : decode cX11_init 12 = .ok (.putfield 10, 3) := by decide +kernel
theorem dX11_init_15 : decode cX11_init 15 = .ok (.aload_n 0, 1) := by decide +kernel
theorem dX11_init_16 : decode cX11_init 16 = .ok (.new 16, 3) := by decide +kernel
theorem dX11_init_19 : decode cX11_init 19 = .ok (.dup, 1) := by decide +kernel
theorem dX11_init_20 : decode cX11_init 20 = .ok (.invokespecial 18, 3) := by decide +kernel
theorem dX11_init_23 : decode cX11_init 23 = .ok (.putfield 19, 3) := by decide +kernel
theorem dX11_init_26 : decode cX11_init 26 = .ok (.aload_n 0, 1) := by decide +kernel
theorem dX11_init_27 : decode cX11_init 27 = .ok (.new 23, 3) := by decide +kernel
theorem dX11_init_30 : decode cX11_init 30 = .ok (.dup, 1) := by decide +kernel
theorem dX11_init_31 : decode cX11_init 31 = .ok (.invokespecial 25, 3) := by decide +kernel
theorem dX11_init_34 : decode cX11_init 34 = .ok (.putfield 26, 3) := by decide +kernel
theorem dX11_init_37 : decode cX11_init 37 = .ok (.aload_n 0, 1) := by decide +kernel
theorem dX11_init_38 : decode cX11_init 38 = .ok (.new 30, 3) := by decide +kernel
theorem dX11_init_41 : decode cX11_init 41 = .ok (.dup, 1) := by decide +kernel
theorem dX11_init_42 : decode cX11_init 42 = .ok (.invokespecial 32, 3) := by decide +kernel
theorem dX11_init_45 : decode cX11_init 45 = .ok (.putfield 33, 3) := by decide +kernel
theorem dX11_init_48 : decode cX11_init 48 = .ok (.aload_n 0, 1) := by decide +kernel
theorem dX11_init_49 : decode cX11_init 49 = .ok (.new 37, 3) := by decide +kernel
theorem dX11_init_52 : decode cX11_init 52 = .ok (.dup, 1) := by decide +kernel
theorem dX11_init_53 : decode cX11_init 53 = .ok (.invokespecial 39, 3) := by decide +kernel
theorem dX11_init_56 : decode cX11_init 56 = .ok (.putfield 40, 3) := by decide +kernel
theorem dX11_init_59 : decode cX11_init 59 = .ok (.return_, 1) := by decide +kernel
set_option maxRecDepth 20000 in
theorem ggX11_addShape_X11_isWithin : GoodIn wsX11_addShape wsX11_isWithin := goodIn_r _ [8] (by decide +kernel) (by decide +kernel)
set_option maxRecDepth 20000 in
theorem gX11_addShape_X11_isWithin : GoodIn wsX11_addShape (va_wsS RX11 44 yX11_isWithin wsX11_isWithin) := goodIn_app (goodIn_of _ (by decide +kernel)) ggX11_addShape_X11_isWithin
set_option maxRecDepth 20000 in
theorem ggX11_addShape_X11_isCoordinate : GoodIn wsX11_addShape wsX11_isCoordinate := goodIn_r _ [11, 5, 6, 7, 8] (by decide +kernel) (by decide +kernel)
set_option maxRecDepth 20000 in
theorem gX11_addShape_X11_isCoordinate : GoodIn wsX11_addShape (va_wsS RX11 48 yX11_isCoordinate wsX11_isCoordinate) := goodIn_app (goodIn_of _ (by decide +kernel)) ggX11_addShape_X11_isCoordinate
set_option maxRecDepth 20000 in
theorem ggX11_addShape_X11_isSize : GoodIn wsX11_addShape wsX11_isSize := goodIn_r _ [14, 5, 6, 7, 8] (by decide +kernel) (by decide +kernel)
set_option maxRecDepth 20000 in
theorem gX11_addShape_X11_isSize : GoodIn wsX11_addShape (va_wsS RX11 52 yX11_isSize wsX11_isSize) := goodIn_app (goodIn_of _ (by decide +kernel)) ggX11_addShape_X11_isSize
set_option maxRecDepth 20000 in
theorem ggX11_addShape_X5_keep : GoodIn wsX11_addShape wsX5_keep := goodIn_r _ [19, 20, 21, 22, 23, 24, 18, 25, 26, 27, 28, 29, 30, 31, 32, 33, 34, 35, 36, 37, 38, 39, 40, 41, 42, 43, 44, 45, 46, 47, 48, 49, 50, 51, 52, 53, 54, 55, 56, 57, 58, 59, 60, 61, 62, 63, 64, 65, 66, 67, 68, 69, 70, 71, 72, 73, 74, 75, 76, 77, 78, 79, 80, 81, 82, 83, 84, 85, 86, 87, 88, 89, 90, 91, 92, 93, 94, 95, 96, 97, 98, 99, 100, 101, 102, 103, 104, 105, 106, 144, 145, 137, 138, 139, 140, 141, 142, 143, 146, 147, 148, 149, 150, 151, 152, 153, 154, 155, 156, 157, 158, 159, 160, 161, 162, 163, 164, 165, 166, 167] (by decide +kernel) (by decide +kernel)
set_option maxRecDepth 20000 in
theorem gX11_addShape_X5_keep : GoodIn wsX11_addShape (wsV RX11 65 RX5 yX5_keep wsX5_keep) := goodIn_app (goodIn_of _ (by decide +kernel)) ggX11_addShape_X5_keep
set_option maxRecDepth 20000 in
theorem ggX11_addShape_X7_add : GoodIn wsX11_addShape wsX7_add := goodIn_r _ [110, 41, 40, 111, 112, 113, 114, 115, 116, 117, 118, 119, 120, 121, 122, 38, 123, 124, 125, 126, 127, 128, 129, 130, 131, 141, 142, 143, 146, 147, 148, 149, 150, 151, 152, 153] (by decide +kernel) (by decide +kernel)
set_option maxRecDepth 20000 in
theorem gX11_addShape_X7_add : GoodIn wsX11_addShape (wsV RX11 69 RX7 yX7_add wsX7_add) := goodIn_app (goodIn_of _ (by decide +kernel)) ggX11_addShape_X7_add
theorem dX11_addShape_0 : decode cX11_addShape 0 = .ok (.iload_n 1, 1) := by decide +kernel
theorem dX11_addShape_1 : decode cX11_addShape 1 = .ok (.iconst 0, 1) := by decide +kernel
theorem dX11_addShape_2 : decode cX11_addShape 2 = .ok (.iconst 2, 1) := by decide +kernel
theorem dX11_addShape_3 : decode cX11_addShape 3 = .ok (.invokestatic 44, 3) := by decide +kernel
theorem dX11_addShape_6 : decode cX11_addShape 6 = .ok (.ifCond .eq 17, 3) := by decide +kernel
theorem dX11_addShape_9 : decode cX11_addShape 9 = .ok (.iload_n 2, 1) := by decide +kernel
theorem dX11_addShape_10 : decode cX11_addShape 10 = .ok (.invokestatic 48, 3) := by decide +kernel
theorem dX11_addShape_13 : decode cX11_addShape 13 = .ok (.ifCond .eq 10, 3) := by decide +kernel
theorem dX11_addShape_16 : decode cX11_addShape 16 = .ok (.iload_n 3, 1) := by decide +kernel
theorem dX11_addShape_17 : decode cX11_addShape 17 = .ok (.invokestatic 48, 3) := by decide +kernel
theorem dX11_addShape_20 : decode cX11_addShape 20 = .ok (.ifCond .ne 5, 3) := by decide +kernel
theorem dX11_addShape_23 : decode cX11_addShape 23 = .ok (.iconst (-1), 1) := by decide +kernel
theorem dX11_addShape_24 : decode cX11_addShape 24 = .ok (.ireturn, 1) := by decide +kernel
theorem dX11_addShape_25 : decode cX11_addShape 25 = .ok (.iload 4, 2) := by decide +kernel
theorem dX11_addShape_27 : decode cX11_addShape 27 = .ok (.invokestatic 52, 3) := by decide +kernel
theorem dX11_addShape_30 : decode cX11_addShape 30 = .ok (.ifCond .eq 11, 3) := by decide +kernel
theorem dX11_addShape_33 : decode cX11_addShape 33 = .ok (.iload 5, 2) := by decide +kernel
theorem dX11_addShape_35 : decode cX11_addShape 35 = .ok (.invokestatic 52, 3) := by decide +kernel
theorem dX11_addShape_38 : decode cX11_addShape 38 = .ok (.ifCond .ne 5, 3) := by decide +kernel
theorem dX11_addShape_41 : decode cX11_addShape 41 = .ok (.iconst (-1), 1) := by decide +kernel
theorem dX11_addShape_42 : decode cX11_addShape 42 = .ok (.ireturn, 1) := by decide +kernel
theorem dX11_addShape_43 : decode cX11_addShape 43 = .ok (.aload_n 0, 1) := by decide +kernel
theorem dX11_addShape_44 : decode cX11_addShape 44 = .ok (.getfield 10, 3) := by decide +kernel
theorem dX11_addShape_47 : decode cX11_addShape 47 = .ok (.getfield 55, 3) := by decide +kernel
theorem dX11_addShape_50 : decode cX11_addShape 50 = .ok (.getfield 59, 3) := by decide +kernel
theorem dX11_addShape_53 : decode cX11_addShape 53 = .ok (.bipush 20, 2) := by decide +kernel
theorem dX11_addShape_55 : decode cX11_addShape 55 = .ok (.if_icmp .lt 6, 3) := by decide +kernel
theorem dX11_addShape_58 : decode cX11_addShape 58 = .ok (.bipush (-3), 2) := by decide +kernel
theorem dX11_addShape_60 : decode cX11_addShape 60 = .ok (.ireturn, 1) := by decide +kernel
theorem dX11_addShape_61 : decode cX11_addShape 61 = .ok (.aload_n 0, 1) := by decide +kernel
theorem dX11_addShape_62 : decode cX11_addShape 62 = .ok (.getfield 19, 3) := by decide +kernel
theorem dX11_addShape_65 : decode cX11_addShape 65 = .ok (.aload_n 0, 1) := by decide +kernel
theorem dX11_addShape_66 : decode cX11_addShape 66 = .ok (.getfield 10, 3) := by decide +kernel
theorem dX11_addShape_69 : decode cX11_addShape 69 = .ok (.invokevirtual 65, 3) := by decide +kernel
theorem dX11_addShape_72 : decode cX11_addShape 72 = .ok (.aload_n 0, 1) := by decide +kernel
theorem dX11_addShape_73 : decode cX11_addShape 73 = .ok (.getfield 10, 3) := by decide +kernel
theorem dX11_addShape_76 : decode cX11_addShape 76 = .ok (.getfield 55, 3) := by decide +kernel
theorem dX11_addShape_79 : decode cX11_addShape 79 = .ok (.iload_n 1, 1) := by decide +kernel
theorem dX11_addShape_80 : decode cX11_addShape 80 = .ok (.iload_n 2, 1) := by decide +kernel
theorem dX11_addShape_81 : decode cX11_addShape 81 = .ok (.iload_n 3, 1) := by decide +kernel
theorem dX11_addShape_82 : decode cX11_addShape 82 = .ok (.iload 4, 2) := by decide +kernel
theorem dX11_addShape_84 : decode cX11_addShape 84 = .ok (.iload 5, 2) := by decide +kernel
theorem dX11_addShape_86 : decode cX11_addShape 86 = .ok (.invokevirtual 69, 3) := by decide +kernel
theorem dX11_addShape_89 : decode cX11_addShape 89 = .ok (.ireturn, 1) := by decide +kernel
set_option maxRecDepth 20000 in
theorem ggX11_removeShape_X7_find : GoodIn wsX11_removeShape wsX7_find := goodIn_r _ [8, 9, 10, 159, 160, 161, 162, 163, 164, 165, 166, 167, 168, 169] (by decide +kernel) (by decide +kernel)
set_option maxRecDepth 20000 in
theorem gX11_removeShape_X7_find : GoodIn wsX11_removeShape (wsV RX11 73 RX7 yX7_find wsX7_find) := goodIn_app (goodIn_of _ (by decide +kernel)) ggX11_removeShape_X7_find
set_option maxRecDepth 20000 in
theorem ggX11_removeShape_X5_keep : GoodIn wsX11_removeShape wsX5_keep := goodIn_r _ [15, 16, 17, 18, 19, 20, 14, 21, 22, 23, 24, 25, 26, 27, 28, 29, 30, 31, 32, 33, 7, 34, 9, 35, 36, 37, 38, 39, 40, 41, 42, 43, 44, 45, 46, 47, 48, 49, 50, 51, 52, 53, 54, 55, 56, 57, 58, 59, 60, 61, 62, 63, 64, 65, 66, 67, 68, 69, 70, 71, 72, 73, 74, 75, 76, 77, 78, 79, 80, 81, 82, 83, 84, 85, 86, 87, 88, 89, 90, 91, 92, 93, 94, 95, 96, 97, 98, 99, 100, 170, 171, 155, 156, 157, 158, 159, 160, 161, 162, 163, 164, 165, 166, 167, 168, 169, 172, 173, 174, 175, 176, 177, 178, 179, 180, 181, 182, 183, 184, 185] (by decide +kernel) (by decide +kernel)
set_option maxRecDepth 20000 in
theorem gX11_removeShape_X5_keep : GoodIn wsX11_removeShape (wsV RX11 65 RX5 yX5_keep wsX5_keep) := goodIn_app (goodIn_of _ (by decide +kernel)) ggX11_removeShape_X5_keep
set_option maxRecDepth 20000 in
theorem ggX11_removeShape_X2_dropShape : GoodIn wsX11_removeShape wsX2_dropShape := goodIn_r _ [104, 27, 29, 28, 105, 106, 107, 7, 108, 10, 36, 109, 5, 6, 8, 9, 110, 111, 112, 113, 114, 115, 116, 117, 118, 119, 73, 74, 70, 75, 76, 120, 121, 122, 25, 123, 124, 125, 126, 127, 128, 129, 82, 77, 78, 79, 80, 81, 72, 130, 131, 132, 133, 83, 84, 85, 86, 134, 135, 136, 53, 137, 55, 138, 139, 140, 141, 56, 142, 143, 144, 60, 145, 62, 64, 146, 147, 148, 149, 57, 58, 59, 61, 63, 65, 66, 155, 156, 157, 158, 162, 163, 164, 165, 166, 167, 168, 169, 159, 160, 161, 179, 180, 172, 173, 174, 175, 176, 177, 178] (by decide +kernel) (by decide +kernel)
set_option maxRecDepth 20000 in
theorem gX11_removeShape_X2_dropShape : GoodIn wsX11_removeShape (wsV RX11 77 RX2 yX2_dropShape wsX2_dropShape) := goodIn_app (goodIn_of _ (by decide +kernel)) ggX11_removeShape_X2_dropShape
theorem dX11_removeShape_0 : decode cX11_removeShape 0 = .ok (.aload_n 0, 1) := by decide +kernel
theorem dX11_removeShape_1 : decode cX11_removeShape 1 = .ok (.getfield 10, 3) := by decide +kernel
theorem dX11_removeShape_4 : decode cX11_removeShape 4 = .ok (.getfield 55, 3) := by decide +kernel
theorem dX11_removeShape_7 : decode cX11_removeShape 7 = .ok (.iload_n 1, 1) := by decide +kernel
theorem dX11_removeShape_8 : decode cX11_removeShape 8 = .ok (.invokevirtual 73, 3) := by decide +kernel
theorem dX11_removeShape_11 : decode cX11_removeShape 11 = .ok (.ifnonnull 5, 3) := by decide +kernel
theorem dX11_removeShape_14 : decode cX11_removeShape 14 = .ok (.iconst (-1), 1) := by decide +kernel
theorem dX11_removeShape_15 : decode cX11_removeShape 15 = .ok (.ireturn, 1) := by decide +kernel
theorem dX11_removeShape_16 : decode cX11_removeShape 16 = .ok (.aload_n 0, 1) := by decide +kernel
theorem dX11_removeShape_17 : decode cX11_removeShape 17 = .ok (.getfield 19, 3) := by decide +kernel
theorem dX11_removeShape_20 : decode cX11_removeShape 20 = .ok (.aload_n 0, 1) := by decide +kernel
theorem dX11_removeShape_21 : decode cX11_removeShape 21 = .ok (.getfield 10, 3) := by decide +kernel
theorem dX11_removeShape_24 : decode cX11_removeShape 24 = .ok (.invokevirtual 65, 3) := by decide +kernel
theorem dX11_removeShape_27 : decode cX11_removeShape 27 = .ok (.aload_n 0, 1) := by decide +kernel
theorem dX11_removeShape_28 : decode cX11_removeShape 28 = .ok (.getfield 10, 3) := by decide +kernel
theorem dX11_removeShape_31 : decode cX11_removeShape 31 = .ok (.iload_n 1, 1) := by decide +kernel
theorem dX11_removeShape_32 : decode cX11_removeShape 32 = .ok (.invokevirtual 77, 3) := by decide +kernel
theorem dX11_removeShape_35 : decode cX11_removeShape 35 = .ok (.ireturn, 1) := by decide +kernel
set_option maxRecDepth 20000 in
theorem ggX11_resize_X7_find : GoodIn wsX11_resize wsX7_find := goodIn_r _ [11, 12, 13, 140, 141, 142, 132, 133, 134, 135, 136, 137, 138, 139] (by decide +kernel) (by decide +kernel)
set_option maxRecDepth 20000 in
theorem gX11_resize_X7_find : GoodIn wsX11_resize (wsV RX11 73 RX7 yX7_find wsX7_find) := goodIn_app (goodIn_of _ (by decide +kernel)) ggX11_resize_X7_find
set_option maxRecDepth 20000 in
theorem ggX11_resize_X11_isSize : GoodIn wsX11_resize wsX11_isSize := goodIn_r _ [17, 18, 19, 16, 20] (by decide +kernel) (by decide +kernel)
set_option maxRecDepth 20000 in
theorem gX11_resize_X11_isSize : GoodIn wsX11_resize (va_wsS RX11 52 yX11_isSize wsX11_isSize) := goodIn_app (goodIn_of _ (by decide +kernel)) ggX11_resize_X11_isSize
set_option maxRecDepth 20000 in
theorem ggX11_resize_X5_keep : GoodIn wsX11_resize wsX5_keep := goodIn_r _ [25, 26, 27, 28, 29, 30, 24, 31, 32, 33, 34, 35, 36, 37, 38, 39, 40, 41, 42, 43, 10, 44, 12, 45, 46, 47, 48, 49, 50, 51, 52, 53, 54, 55, 56, 57, 58, 59, 60, 61, 62, 63, 64, 65, 66, 67, 68, 69, 70, 71, 72, 73, 74, 75, 76, 77, 78, 79, 80, 81, 82, 83, 84, 85, 86, 87, 88, 89, 90, 91, 92, 93, 94, 95, 96, 97, 98, 99, 100, 101, 102, 103, 104, 105, 106, 107, 108, 109, 110, 143, 144, 128, 129, 130, 131, 140, 141, 142, 132, 133, 134, 135, 136, 137, 138, 139, 145, 146, 147, 148, 149, 150, 151, 152, 153, 154, 155, 156, 157, 158] (by decide +kernel) (by decide +kernel)
set_option maxRecDepth 20000 in
theorem gX11_resize_X5_keep : GoodIn wsX11_resize (wsV RX11 65 RX5 yX5_keep wsX5_keep) := goodIn_app (goodIn_of _ (by decide +kernel)) ggX11_resize_X5_keep
set_option maxRecDepth 20000 in
theorem ggX11_resize_X1_countAt : GoodIn wsX11_resize wsX1_countAt := goodIn_r _ [114, 65, 115, 116, 117, 63, 118, 66, 119, 120, 121, 70, 122, 72, 74, 145, 146, 147, 148, 149, 150, 151] (by decide +kernel) (by decide +kernel)
set_option maxRecDepth 20000 in
theorem gX11_resize_X1_countAt : GoodIn wsX11_resize (wsV RX11 93 RX1 yX1_countAt wsX1_countAt) := goodIn_app (goodIn_of _ (by decide +kernel)) ggX11_resize_X1_countAt
theorem dX11_resize_0 : decode cX11_resize 0 = .ok (.aload_n 0, 1) := by decide +kernel
theorem dX11_resize_1 : decode cX11_resize 1 = .ok (.getfield 10, 3) := by decide +kernel
theorem dX11_resize_4 : decode cX11_resize 4 = .ok (.getfield 55, 3) := by decide +kernel
theorem dX11_resize_7 : decode cX11_resize 7 = .ok (.iload_n 1, 1) := by decide +kernel
theorem dX11_resize_8 : decode cX11_resize 8 = .ok (.invokevirtual 73, 3) := by decide +kernel
theorem dX11_resize_11 : decode cX11_resize 11 = .ok (.astore 4, 2) := by decide +kernel
theorem dX11_resize_13 : decode cX11_resize 13 = .ok (.aload 4, 2) := by decide +kernel
theorem dX11_resize_15 : decode cX11_resize 15 = .ok (.ifnull 17, 3) := by decide +kernel
theorem dX11_resize_18 : decode cX11_resize 18 = .ok (.iload_n 2, 1) := by decide +kernel
theorem dX11_resize_19 : decode cX11_resize 19 = .ok (.invokestatic 52, 3) := by decide +kernel
theorem dX11_resize_22 : decode cX11_resize 22 = .ok (.ifCond .eq 10, 3) := by decide +kernel
theorem dX11_resize_25 : decode cX11_resize 25 = .ok (.iload_n 3, 1) := by decide +kernel
theorem dX11_resize_26 : decode cX11_resize 26 = .ok (.invokestatic 52, 3) := by decide +kernel
theorem dX11_resize_29 : decode cX11_resize 29 = .ok (.ifCond .ne 5, 3) := by decide +kernel
theorem dX11_resize_32 : decode cX11_resize 32 = .ok (.iconst (-1), 1) := by decide +kernel
theorem dX11_resize_33 : decode cX11_resize 33 = .ok (.ireturn, 1) := by decide +kernel
theorem dX11_resize_34 : decode cX11_resize 34 = .ok (.aload_n 0, 1) := by decide +kernel
theorem dX11_resize_35 : decode cX11_resize 35 = .ok (.getfield 19, 3) := by decide +kernel
theorem dX11_resize_38 : decode cX11_resize 38 = .ok (.aload_n 0, 1) := by decide +kernel
theorem dX11_resize_39 : decode cX11_resize 39 = .ok (.getfield 10, 3) := by decide +kernel
theorem dX11_resize_42 : decode cX11_resize 42 = .ok (.invokevirtual 65, 3) := by decide +kernel
theorem dX11_resize_45 : decode cX11_resize 45 = .ok (.aload 4, 2) := by decide +kernel
theorem dX11_resize_47 : decode cX11_resize 47 = .ok (.iload_n 2, 1) := by decide +kernel
theorem dX11_resize_48 : decode cX11_resize 48 = .ok (.putfield 81, 3) := by decide +kernel
theorem dX11_resize_51 : decode cX11_resize 51 = .ok (.aload 4, 2) := by decide +kernel
theorem dX11_resize_53 : decode cX11_resize 53 = .ok (.iload_n 3, 1) := by decide +kernel
theorem dX11_resize_54 : decode cX11_resize 54 = .ok (.putfield 86, 3) := by decide +kernel
theorem dX11_resize_57 : decode cX11_resize 57 = .ok (.aload_n 0, 1) := by decide +kernel
theorem dX11_resize_58 : decode cX11_resize 58 = .ok (.getfield 10, 3) := by decide +kernel
theorem dX11_resize_61 : decode cX11_resize 61 = .ok (.getfield 89, 3) := by decide +kernel
theorem dX11_resize_64 : decode cX11_resize 64 = .ok (.iload_n 1, 1) := by decide +kernel
theorem dX11_resize_65 : decode cX11_resize 65 = .ok (.invokevirtual 93, 3) := by decide +kernel
theorem dX11_resize_68 : decode cX11_resize 68 = .ok (.ireturn, 1) := by decide +kernel
set_option maxRecDepth 20000 in
theorem ggX11_shape_X7_find : GoodIn wsX11_shape wsX7_find := goodIn_r _ [17, 18, 19, 57, 58, 59, 49, 50, 51, 52, 53, 54, 55, 56] (by decide +kernel) (by decide +kernel)
set_option maxRecDepth 20000 in
theorem gX11_shape_X7_find : GoodIn wsX11_shape (wsV RX11 73 RX7 yX7_find wsX7_find) := goodIn_app (goodIn_of _ (by decide +kernel)) ggX11_shape_X7_find
set_option maxRecDepth 20000 in
theorem ggX11_shape_X11_hasBit : GoodIn wsX11_shape wsX11_hasBit := goodIn_r _ [23] (by decide +kernel) (by decide +kernel)
set_option maxRecDepth 20000 in
theorem gX11_shape_X11_hasBit : GoodIn wsX11_shape (va_wsS RX11 111 yX11_hasBit wsX11_hasBit) := goodIn_app (goodIn_of _ (by decide +kernel)) ggX11_shape_X11_hasBit
set_option maxRecDepth 20000 in
theorem ggX11_shape_X3_outermost : GoodIn wsX11_shape wsX3_outermost := goodIn_r _ [28, 29, 30, 31, 32, 27, 33, 34, 35, 36, 37, 38, 39, 60, 61] (by decide +kernel) (by decide +kernel)
set_option maxRecDepth 20000 in
theorem gX11_shape_X3_outermost : GoodIn wsX11_shape (wsV RX11 125 RX3 yX3_outermost wsX3_outermost) := goodIn_app (goodIn_of _ (by decide +kernel)) ggX11_shape_X3_outermost
theorem dX11_shape_0 : decode cX11_shape 0 = .ok (.aload_n 0, 1) := by decide +kernel
theorem dX11_shape_1 : decode cX11_shape 1 = .ok (.getfield 10, 3) := by decide +kernel
theorem dX11_shape_4 : decode cX11_shape 4 = .ok (.getfield 55, 3) := by decide +kernel
theorem dX11_shape_7 : decode cX11_shape 7 = .ok (.iload_n 1, 1) := by decide +kernel
theorem dX11_shape_8 : decode cX11_shape 8 = .ok (.invokevirtual 73, 3) := by decide +kernel
theorem dX11_shape_11 : decode cX11_shape 11 = .ok (.astore_n 3, 1) := by decide +kernel
theorem dX11_shape_12 : decode cX11_shape 12 = .ok (.aload_n 3, 1) := by decide +kernel
theorem dX11_shape_13 : decode cX11_shape 13 = .ok (.ifnonnull 6, 3) := by decide +kernel
theorem dX11_shape_16 : decode cX11_shape 16 = .ok (.ldc 98, 2) := by decide +kernel
theorem dX11_shape_18 : decode cX11_shape 18 = .ok (.ireturn, 1) := by decide +kernel
theorem dX11_shape_19 : decode cX11_shape 19 = .ok (.iload_n 2, 1) := by decide +kernel
theorem dX11_shape_20 : decode cX11_shape 20 = .ok (.tableswitch 125 0 8 #[52, 57, 62, 67, 72, 77, 100, 105, 110], 52) := by decide +kernel
theorem dX11_shape_72 : decode cX11_shape 72 = .ok (.aload_n 3, 1) := by decide +kernel
theorem dX11_shape_73 : decode cX11_shape 73 = .ok (.getfield 99, 3) := by decide +kernel
theorem dX11_shape_76 : decode cX11_shape 76 = .ok (.ireturn, 1) := by decide +kernel
theorem dX11_shape_77 : decode cX11_shape 77 = .ok (.aload_n 3, 1) := by decide +kernel
theorem dX11_shape_78 : decode cX11_shape 78 = .ok (.getfield 102, 3) := by decide +kernel
theorem dX11_shape_81 : decode cX11_shape 81 = .ok (.ireturn, 1) := by decide +kernel
theorem dX11_shape_82 : decode cX11_shape 82 = .ok (.aload_n 3, 1) := by decide +kernel
theorem dX11_shape_83 : decode cX11_shape 83 = .ok (.getfield 105, 3) := by decide +kernel
theorem dX11_shape_86 : decode cX11_shape 86 = .ok (.ireturn, 1) := by decide +kernel
theorem dX11_shape_87 : decode cX11_shape 87 = .ok (.aload_n 3, 1) := by decide +kernel
theorem dX11_shape_88 : decode cX11_shape 88 = .ok (.getfield 81, 3) := by decide +kernel
theorem dX11_shape_91 : decode cX11_shape 91 = .ok (.ireturn, 1) := by decide +kernel
theorem dX11_shape_92 : decode cX11_shape 92 = .ok (.aload_n 3, 1) := by decide +kernel
theorem dX11_shape_93 : decode cX11_shape 93 = .ok (.getfield 86, 3) := by decide +kernel
theorem dX11_shape_96 : decode cX11_shape 96 = .ok (.ireturn, 1) := by decide +kernel
theorem dX11_shape_97 : decode cX11_shape 97 = .ok (.aload_n 0, 1) := by decide +kernel
theorem dX11_shape_98 : decode cX11_shape 98 = .ok (.getfield 10, 3) := by decide +kernel
theorem dX11_shape_101 : decode cX11_shape 101 = .ok (.getfield 55, 3) := by decide +kernel
theorem dX11_shape_104 : decode cX11_shape 104 = .ok (.getfield 108, 3) := by decide +kernel
theorem dX11_shape_107 : decode cX11_shape 107 = .ok (.iload_n 1, 1) := by decide +kernel
theorem dX11_shape_108 : decode cX11_shape 108 = .ok (.invokestatic 111, 3) := by decide +kernel
theorem dX11_shape_111 : decode cX11_shape 111 = .ok (.ifCond .eq 7, 3) := by decide +kernel
theorem dX11_shape_114 : decode cX11_shape 114 = .ok (.iconst 1, 1) := by decide +kernel
theorem dX11_shape_115 : decode cX11_shape 115 = .ok (.goto 4, 3) := by decide +kernel
theorem dX11_shape_118 : decode cX11_shape 118 = .ok (.iconst 0, 1) := by decide +kernel
theorem dX11_shape_119 : decode cX11_shape 119 = .ok (.ireturn, 1) := by decide +kernel
theorem dX11_shape_120 : decode cX11_shape 120 = .ok (.aload_n 3, 1) := by decide +kernel
theorem dX11_shape_121 : decode cX11_shape 121 = .ok (.getfield 115, 3) := by decide +kernel
theorem dX11_shape_124 : decode cX11_shape 124 = .ok (.ireturn, 1) := by decide +kernel
theorem dX11_shape_125 : decode cX11_shape 125 = .ok (.aload_n 3, 1) := by decide +kernel
theorem dX11_shape_126 : decode cX11_shape 126 = .ok (.getfield 118, 3) := by decide +kernel
theorem dX11_shape_129 : decode cX11_shape 129 = .ok (.ireturn, 1) := by decide +kernel
theorem dX11_shape_130 : decode cX11_shape 130 = .ok (.aload_n 0, 1) := by decide +kernel
theorem dX11_shape_131 : decode cX11_shape 131 = .ok (.getfield 10, 3) := by decide +kernel
theorem dX11_shape_134 : decode cX11_shape 134 = .ok (.getfield 121, 3) := by decide +kernel
theorem dX11_shape_137 : decode cX11_shape 137 = .ok (.aload_n 3, 1) := by decide +kernel
theorem dX11_shape_138 : decode cX11_shape 138 = .ok (.getfield 118, 3) := by decide +kernel
theorem dX11_shape_141 : decode cX11_shape 141 = .ok (.invokevirtual 125, 3) := by decide +kernel
theorem dX11_shape_144 : decode cX11_shape 144 = .ok (.ireturn, 1) := by decide +kernel
theorem dX11_shape_145 : decode cX11_shape 145 = .ok (.ldc 98, 2) := by decide +kernel
theorem dX11_shape_147 : decode cX11_shape 147 = .ok (.ireturn, 1) := by decide +kernel
set_option maxRecDepth 20000 in
theorem ggX11_port_X7_find : GoodIn wsX11_port wsX7_find := goodIn_r _ [8, 9, 10, 59, 60, 61, 62, 63, 64, 65, 66, 67, 68, 69] (by decide +kernel) (by decide +kernel)
set_option maxRecDepth 20000 in
theorem gX11_port_X7_find : GoodIn wsX11_port (wsV RX11 73 RX7 yX7_find wsX7_find) := goodIn_app (goodIn_of _ (by decide +kernel)) ggX11_port_X7_find
set_option maxRecDepth 20000 in
theorem ggX11_port_X11_isPort : GoodIn wsX11_port wsX11_isPort := goodIn_r _ [14, 15, 16, 13, 17] (by decide +kernel) (by decide +kernel)
set_option maxRecDepth 20000 in
theorem gX11_port_X11_isPort : GoodIn wsX11_port (va_wsS RX11 130 yX11_isPort wsX11_isPort) := goodIn_app (goodIn_of _ (by decide +kernel)) ggX11_port_X11_isPort
set_option maxRecDepth 20000 in
theorem ggX11_port_X11_isAxis : GoodIn wsX11_port wsX11_isAxis := goodIn_r _ [20] (by decide +kernel) (by decide +kernel)
set_option maxRecDepth 20000 in
theorem gX11_port_X11_isAxis : GoodIn wsX11_port (va_wsS RX11 133 yX11_isAxis wsX11_isAxis) := goodIn_app (goodIn_of _ (by decide +kernel)) ggX11_port_X11_isAxis
set_option maxRecDepth 20000 in
theorem ggX11_port_X6_portPlace : GoodIn wsX11_port wsX6_portPlace := goodIn_r _ [25, 26, 27, 28, 24, 29, 30, 31, 32, 33, 34, 35, 36, 37, 38, 39, 40, 41, 42, 43, 44, 45, 46, 47, 48, 49, 62, 63, 64, 65, 66, 67, 68, 69] (by decide +kernel) (by decide +kernel)
set_option maxRecDepth 20000 in
theorem gX11_port_X6_portPlace : GoodIn wsX11_port (wsV RX11 136 RX6 yX6_portPlace wsX6_portPlace) := goodIn_app (goodIn_of _ (by decide +kernel)) ggX11_port_X6_portPlace
theorem dX11_port_0 : decode cX11_port 0 = .ok (.aload_n 0, 1) := by decide +kernel
theorem dX11_port_1 : decode cX11_port 1 = .ok (.getfield 10, 3) := by decide +kernel
theorem dX11_port_4 : decode cX11_port 4 = .ok (.getfield 55, 3) := by decide +kernel
theorem dX11_port_7 : decode cX11_port 7 = .ok (.iload_n 1, 1) := by decide +kernel
theorem dX11_port_8 : decode cX11_port 8 = .ok (.invokevirtual 73, 3) := by decide +kernel
theorem dX11_port_11 : decode cX11_port 11 = .ok (.astore 4, 2) := by decide +kernel
theorem dX11_port_13 : decode cX11_port 13 = .ok (.aload 4, 2) := by decide +kernel
theorem dX11_port_15 : decode cX11_port 15 = .ok (.ifnull 17, 3) := by decide +kernel
theorem dX11_port_18 : decode cX11_port 18 = .ok (.iload_n 2, 1) := by decide +kernel
theorem dX11_port_19 : decode cX11_port 19 = .ok (.invokestatic 130, 3) := by decide +kernel
theorem dX11_port_22 : decode cX11_port 22 = .ok (.ifCond .eq 10, 3) := by decide +kernel
theorem dX11_port_25 : decode cX11_port 25 = .ok (.iload_n 3, 1) := by decide +kernel
theorem dX11_port_26 : decode cX11_port 26 = .ok (.invokestatic 133, 3) := by decide +kernel
theorem dX11_port_29 : decode cX11_port 29 = .ok (.ifCond .ne 6, 3) := by decide +kernel
theorem dX11_port_32 : decode cX11_port 32 = .ok (.ldc 98, 2) := by decide +kernel
theorem dX11_port_34 : decode cX11_port 34 = .ok (.ireturn, 1) := by decide +kernel
theorem dX11_port_35 : decode cX11_port 35 = .ok (.aload 4, 2) := by decide +kernel
theorem dX11_port_37 : decode cX11_port 37 = .ok (.iload_n 2, 1) := by decide +kernel
theorem dX11_port_38 : decode cX11_port 38 = .ok (.iload_n 3, 1) := by decide +kernel
theorem dX11_port_39 : decode cX11_port 39 = .ok (.invokevirtual 136, 3) := by decide +kernel
theorem dX11_port_42 : decode cX11_port 42 = .ok (.ireturn, 1) := by decide +kernel
set_option maxRecDepth 20000 in
theorem ggX11_bring_X7_find : GoodIn wsX11_bring wsX7_find := goodIn_r _ [9, 10, 11, 129, 130, 131, 121, 122, 123, 124, 125, 126, 127, 128] (by decide +kernel) (by decide +kernel)
set_option maxRecDepth 20000 in
theorem gX11_bring_X7_find : GoodIn wsX11_bring (wsV RX11 73 RX7 yX7_find wsX7_find) := goodIn_app (goodIn_of _ (by decide +kernel)) ggX11_bring_X7_find
set_option maxRecDepth 20000 in
theorem ggX11_bring_X5_keep : GoodIn wsX11_bring wsX5_keep := goodIn_r _ [16, 17, 18, 19, 20, 21, 15, 22, 23, 24, 25, 26, 27, 28, 29, 30, 31, 32, 33, 34, 8, 35, 10, 36, 37, 38, 39, 40, 41, 42, 43, 44, 45, 46, 47, 48, 49, 50, 51, 52, 53, 54, 55, 56, 57, 58, 59, 60, 61, 62, 63, 64, 65, 66, 67, 68, 69, 70, 71, 72, 73, 74, 75, 76, 77, 78, 79, 80, 81, 82, 83, 84, 85, 86, 87, 88, 89, 90, 91, 92, 93, 94, 95, 96, 97, 98, 99, 100, 101, 132, 133, 117, 118, 119, 120, 129, 130, 131, 121, 122, 123, 124, 125, 126, 127, 128, 134, 135, 136, 137, 138, 139, 140, 141, 142, 143, 144, 145, 146, 147] (by decide +kernel) (by decide +kernel)
set_option maxRecDepth 20000 in
theorem gX11_bring_X5_keep : GoodIn wsX11_bring (wsV RX11 65 RX5 yX5_keep wsX5_keep) := goodIn_app (goodIn_of _ (by decide +kernel)) ggX11_bring_X5_keep
set_option maxRecDepth 20000 in
theorem ggX11_bring_X7_count : GoodIn wsX11_bring wsX7_count := goodIn_r _ [105, 10, 106, 6, 7, 8, 9, 11, 129, 130, 131, 121, 122, 123, 124, 125, 126, 127, 128] (by decide +kernel) (by decide +kernel)
set_option maxRecDepth 20000 in
theorem gX11_bring_X7_count : GoodIn wsX11_bring (wsV RX11 140 RX7 yX7_count wsX7_count) := goodIn_app (goodIn_of _ (by decide +kernel)) ggX11_bring_X7_count
set_option maxRecDepth 20000 in
theorem ggX11_bring_X7_putAtDepth : GoodIn wsX11_bring wsX7_putAtDepth := goodIn_r _ [110, 111, 10, 106, 6, 7, 8, 9, 11, 121, 122, 123, 124, 125, 126, 127, 128, 129, 130, 131] (by decide +kernel) (by decide +kernel)
set_option maxRecDepth 20000 in
theorem gX11_bring_X7_putAtDepth : GoodIn wsX11_bring (wsV RX11 144 RX7 yX7_putAtDepth wsX7_putAtDepth) := goodIn_app (goodIn_of _ (by decide +kernel)) ggX11_bring_X7_putAtDepth
theorem dX11_bring_0 : decode cX11_bring 0 = .ok (.aload_n 0, 1) := by decide +kernel
theorem dX11_bring_1 : decode cX11_bring 1 = .ok (.getfield 10, 3) := by decide +kernel
theorem dX11_bring_4 : decode cX11_bring 4 = .ok (.getfield 55, 3) := by decide +kernel
theorem dX11_bring_7 : decode cX11_bring 7 = .ok (.iload_n 1, 1) := by decide +kernel
theorem dX11_bring_8 : decode cX11_bring 8 = .ok (.invokevirtual 73, 3) := by decide +kernel
theorem dX11_bring_11 : decode cX11_bring 11 = .ok (.astore_n 3, 1) := by decide +kernel
theorem dX11_bring_12 : decode cX11_bring 12 = .ok (.aload_n 3, 1) := by decide +kernel
theorem dX11_bring_13 : decode cX11_bring 13 = .ok (.ifnonnull 5, 3) := by decide +kernel
theorem dX11_bring_16 : decode cX11_bring 16 = .ok (.iconst (-1), 1) := by decide +kernel
theorem dX11_bring_17 : decode cX11_bring 17 = .ok (.ireturn, 1) := by decide +kernel
theorem dX11_bring_18 : decode cX11_bring 18 = .ok (.aload_n 0, 1) := by decide +kernel
theorem dX11_bring_19 : decode cX11_bring 19 = .ok (.getfield 19, 3) := by decide +kernel
theorem dX11_bring_22 : decode cX11_bring 22 = .ok (.aload_n 0, 1) := by decide +kernel
theorem dX11_bring_23 : decode cX11_bring 23 = .ok (.getfield 10, 3) := by decide +kernel
theorem dX11_bring_26 : decode cX11_bring 26 = .ok (.invokevirtual 65, 3) := by decide +kernel
theorem dX11_bring_29 : decode cX11_bring 29 = .ok (.aload_n 3, 1) := by decide +kernel
theorem dX11_bring_30 : decode cX11_bring 30 = .ok (.getfield 115, 3) := by decide +kernel
theorem dX11_bring_33 : decode cX11_bring 33 = .ok (.istore 4, 2) := by decide +kernel
theorem dX11_bring_35 : decode cX11_bring 35 = .ok (.aload_n 0, 1) := by decide +kernel
theorem dX11_bring_36 : decode cX11_bring 36 = .ok (.getfield 10, 3) := by decide +kernel
theorem dX11_bring_39 : decode cX11_bring 39 = .ok (.getfield 55, 3) := by decide +kernel
theorem dX11_bring_42 : decode cX11_bring 42 = .ok (.aload_n 3, 1) := by decide +kernel
theorem dX11_bring_43 : decode cX11_bring 43 = .ok (.iload_n 2, 1) := by decide +kernel
theorem dX11_bring_44 : decode cX11_bring 44 = .ok (.ifCond .eq 7, 3) := by decide +kernel
theorem dX11_bring_47 : decode cX11_bring 47 = .ok (.iconst 0, 1) := by decide +kernel
theorem dX11_bring_48 : decode cX11_bring 48 = .ok (.goto 15, 3) := by decide +kernel
theorem dX11_bring_51 : decode cX11_bring 51 = .ok (.aload_n 0, 1) := by decide +kernel
theorem dX11_bring_52 : decode cX11_bring 52 = .ok (.getfield 10, 3) := by decide +kernel
theorem dX11_bring_55 : decode cX11_bring 55 = .ok (.getfield 55, 3) := by decide +kernel
theorem dX11_bring_58 : decode cX11_bring 58 = .ok (.invokevirtual 140, 3) := by decide +kernel
theorem dX11_bring_61 : decode cX11_bring 61 = .ok (.iconst 1, 1) := by decide +kernel
theorem dX11_bring_62 : decode cX11_bring 62 = .ok (.isub, 1) := by decide +kernel
theorem dX11_bring_63 : decode cX11_bring 63 = .ok (.invokevirtual 144, 3) := by decide +kernel
theorem dX11_bring_66 : decode cX11_bring 66 = .ok (.iload 4, 2) := by decide +kernel
theorem dX11_bring_68 : decode cX11_bring 68 = .ok (.ireturn, 1) := by decide +kernel
set_option maxRecDepth 20000 in
theorem ggX11_at_X11_isWithin : GoodIn wsX11_at wsX11_isWithin := goodIn_r _ [8] (by decide +kernel) (by decide +kernel)
set_option maxRecDepth 20000 in
theorem gX11_at_X11_isWithin : GoodIn wsX11_at (va_wsS RX11 44 yX11_isWithin wsX11_isWithin) := goodIn_app (goodIn_of _ (by decide +kernel)) ggX11_at_X11_isWithin
set_option maxRecDepth 20000 in
theorem ggX11_at_X7_frontmostOn : GoodIn wsX11_at wsX7_frontmostOn := goodIn_r _ [13, 14, 15, 16, 17, 18, 19, 12, 20, 21, 22, 23, 24, 25, 26, 27, 28, 29, 30, 31, 32, 33, 34, 35, 36, 37, 38, 39, 40, 41, 42, 43, 44, 45, 46, 47, 48, 6, 7, 8, 58, 59, 60, 61, 62, 63, 64, 65, 66, 67, 68] (by decide +kernel) (by decide +kernel)
set_option maxRecDepth 20000 in
theorem gX11_at_X7_frontmostOn : GoodIn wsX11_at (wsV RX11 150 RX7 yX7_frontmostOn wsX7_frontmostOn) := goodIn_app (goodIn_of _ (by decide +kernel)) ggX11_at_X7_frontmostOn
theorem dX11_at_0 : decode cX11_at 0 = .ok (.iload_n 1, 1) := by decide +kernel
theorem dX11_at_1 : decode cX11_at 1 = .ok (.ldc 148, 2) := by decide +kernel
theorem dX11_at_3 : decode cX11_at 3 = .ok (.ldc 149, 2) := by decide +kernel
theorem dX11_at_5 : decode cX11_at 5 = .ok (.invokestatic 44, 3) := by decide +kernel
theorem dX11_at_8 : decode cX11_at 8 = .ok (.ifCond .eq 14, 3) := by decide +kernel
theorem dX11_at_11 : decode cX11_at 11 = .ok (.iload_n 2, 1) := by decide +kernel
theorem dX11_at_12 : decode cX11_at 12 = .ok (.ldc 148, 2) := by decide +kernel
theorem dX11_at_14 : decode cX11_at 14 = .ok (.ldc 149, 2) := by decide +kernel
theorem dX11_at_16 : decode cX11_at 16 = .ok (.invokestatic 44, 3) := by decide +kernel
theorem dX11_at_19 : decode cX11_at 19 = .ok (.ifCond .ne 5, 3) := by decide +kernel
theorem dX11_at_22 : decode cX11_at 22 = .ok (.iconst (-1), 1) := by decide +kernel
theorem dX11_at_23 : decode cX11_at 23 = .ok (.ireturn, 1) := by decide +kernel
theorem dX11_at_24 : decode cX11_at 24 = .ok (.aload_n 0, 1) := by decide +kernel
theorem dX11_at_25 : decode cX11_at 25 = .ok (.getfield 10, 3) := by decide +kernel
theorem dX11_at_28 : decode cX11_at 28 = .ok (.getfield 55, 3) := by decide +kernel
theorem dX11_at_31 : decode cX11_at 31 = .ok (.iload_n 1, 1) := by decide +kernel
theorem dX11_at_32 : decode cX11_at 32 = .ok (.iload_n 2, 1) := by decide +kernel
theorem dX11_at_33 : decode cX11_at 33 = .ok (.invokevirtual 150, 3) := by decide +kernel
theorem dX11_at_36 : decode cX11_at 36 = .ok (.ireturn, 1) := by decide +kernel
set_option maxRecDepth 20000 in
theorem ggX11_connect_X7_find : GoodIn wsX11_connect wsX7_find := goodIn_r _ [10, 11, 12, 130, 131, 132, 133, 134, 135, 136, 137, 138, 139, 140] (by decide +kernel) (by decide +kernel)
set_option maxRecDepth 20000 in
theorem gX11_connect_X7_find : GoodIn wsX11_connect (wsV RX11 73 RX7 yX7_find wsX7_find) := goodIn_app (goodIn_of _ (by decide +kernel)) ggX11_connect_X7_find
set_option maxRecDepth 20000 in
theorem ggX11_connect_X11_isPort : GoodIn wsX11_connect wsX11_isPort := goodIn_r _ [16, 17, 18, 15, 19] (by decide +kernel) (by decide +kernel)
set_option maxRecDepth 20000 in
theorem gX11_connect_X11_isPort : GoodIn wsX11_connect (va_wsS RX11 130 yX11_isPort wsX11_isPort) := goodIn_app (goodIn_of _ (by decide +kernel)) ggX11_connect_X11_isPort
set_option maxRecDepth 20000 in
theorem ggX11_connect_X11_isWithin : GoodIn wsX11_connect wsX11_isWithin := goodIn_r _ [19] (by decide +kernel) (by decide +kernel)
set_option maxRecDepth 20000 in
theorem gX11_connect_X11_isWithin : GoodIn wsX11_connect (va_wsS RX11 44 yX11_isWithin wsX11_isWithin) := goodIn_app (goodIn_of _ (by decide +kernel)) ggX11_connect_X11_isWithin
set_option maxRecDepth 20000 in
theorem ggX11_connect_X5_keep : GoodIn wsX11_connect wsX5_keep := goodIn_r _ [24, 25, 26, 27, 28, 29, 23, 30, 31, 32, 33, 34, 35, 36, 37, 38, 39, 40, 41, 42, 9, 43, 11, 44, 45, 46, 47, 48, 49, 50, 51, 52, 53, 54, 55, 56, 57, 58, 59, 60, 61, 62, 63, 64, 65, 66, 67, 68, 69, 70, 71, 72, 73, 74, 75, 76, 77, 78, 79, 80, 81, 82, 83, 84, 85, 86, 87, 88, 89, 90, 91, 92, 93, 94, 95, 96, 97, 98, 99, 100, 101, 102, 103, 104, 105, 106, 107, 108, 109, 141, 142, 124, 125, 126, 127, 130, 131, 132, 133, 134, 135, 136, 137, 138, 139, 140, 128, 129, 143, 144, 145, 146, 147, 148, 149, 150, 151, 152, 153, 154] (by decide +kernel) (by decide +kernel)
set_option maxRecDepth 20000 in
theorem gX11_connect_X5_keep : GoodIn wsX11_connect (wsV RX11 65 RX5 yX5_keep wsX5_keep) := goodIn_app (goodIn_of _ (by decide +kernel)) ggX11_connect_X5_keep
set_option maxRecDepth 20000 in
theorem ggX11_connect_X1_add : GoodIn wsX11_connect wsX1_add := goodIn_r _ [113, 65, 64, 114, 115, 116, 117, 118, 128, 129, 143, 144, 145, 146, 147] (by decide +kernel) (by decide +kernel)
set_option maxRecDepth 20000 in
theorem gX11_connect_X1_add : GoodIn wsX11_connect (wsV RX11 155 RX1 yX1_add wsX1_add) := goodIn_app (goodIn_of _ (by decide +kernel)) ggX11_connect_X1_add
theorem dX11_connect_0 : decode cX11_connect 0 = .ok (.aload_n 0, 1) := by decide +kernel
theorem dX11_connect_1 : decode cX11_connect 1 = .ok (.getfield 10, 3) := by decide +kernel
theorem dX11_connect_4 : decode cX11_connect 4 = .ok (.getfield 55, 3) := by decide +kernel
theorem dX11_connect_7 : decode cX11_connect 7 = .ok (.iload_n 1, 1) := by decide +kernel
theorem dX11_connect_8 : decode cX11_connect 8 = .ok (.invokevirtual 73, 3) := by decide +kernel
theorem dX11_connect_11 : decode cX11_connect 11 = .ok (.ifnull 22, 3) := by decide +kernel
theorem dX11_connect_14 : decode cX11_connect 14 = .ok (.aload_n 0, 1) := by decide +kernel
theorem dX11_connect_15 : decode cX11_connect 15 = .ok (.getfield 10, 3) := by decide +kernel
theorem dX11_connect_18 : decode cX11_connect 18 = .ok (.getfield 55, 3) := by decide +kernel
theorem dX11_connect_21 : decode cX11_connect 21 = .ok (.iload_n 3, 1) := by decide +kernel
theorem dX11_connect_22 : decode cX11_connect 22 = .ok (.invokevirtual 73, 3) := by decide +kernel
theorem dX11_connect_25 : decode cX11_connect 25 = .ok (.ifnull 8, 3) := by decide +kernel
theorem dX11_connect_28 : decode cX11_connect 28 = .ok (.iload_n 1, 1) := by decide +kernel
theorem dX11_connect_29 : decode cX11_connect 29 = .ok (.iload_n 3, 1) := by decide +kernel
theorem dX11_connect_30 : decode cX11_connect 30 = .ok (.if_icmp .ne 5, 3) := by decide +kernel
theorem dX11_connect_33 : decode cX11_connect 33 = .ok (.iconst (-1), 1) := by decide +kernel
theorem dX11_connect_34 : decode cX11_connect 34 = .ok (.ireturn, 1) := by decide +kernel
theorem dX11_connect_35 : decode cX11_connect 35 = .ok (.iload_n 2, 1) := by decide +kernel
theorem dX11_connect_36 : decode cX11_connect 36 = .ok (.invokestatic 130, 3) := by decide +kernel
theorem dX11_connect_39 : decode cX11_connect 39 = .ok (.ifCond .eq 21, 3) := by decide +kernel
theorem dX11_connect_42 : decode cX11_connect 42 = .ok (.iload 4, 2) := by decide +kernel
theorem dX11_connect_44 : decode cX11_connect 44 = .ok (.invokestatic 130, 3) := by decide +kernel
theorem dX11_connect_47 : decode cX11_connect 47 = .ok (.ifCond .eq 13, 3) := by decide +kernel
theorem dX11_connect_50 : decode cX11_connect 50 = .ok (.iload 5, 2) := by decide +kernel
theorem dX11_connect_52 : decode cX11_connect 52 = .ok (.iconst 0, 1) := by decide +kernel
theorem dX11_connect_53 : decode cX11_connect 53 = .ok (.iconst 2, 1) := by decide +kernel
theorem dX11_connect_54 : decode cX11_connect 54 = .ok (.invokestatic 44, 3) := by decide +kernel
theorem dX11_connect_57 : decode cX11_connect 57 = .ok (.ifCond .ne 5, 3) := by decide +kernel
theorem dX11_connect_60 : decode cX11_connect 60 = .ok (.iconst (-1), 1) := by decide +kernel
theorem dX11_connect_61 : decode cX11_connect 61 = .ok (.ireturn, 1) := by decide +kernel
theorem dX11_connect_62 : decode cX11_connect 62 = .ok (.aload_n 0, 1) := by decide +kernel
theorem dX11_connect_63 : decode cX11_connect 63 = .ok (.getfield 10, 3) := by decide +kernel
theorem dX11_connect_66 : decode cX11_connect 66 = .ok (.getfield 89, 3) := by decide +kernel
theorem dX11_connect_69 : decode cX11_connect 69 = .ok (.getfield 153, 3) := by decide +kernel
theorem dX11_connect_72 : decode cX11_connect 72 = .ok (.bipush 20, 2) := by decide +kernel
theorem dX11_connect_74 : decode cX11_connect 74 = .ok (.if_icmp .lt 6, 3) := by decide +kernel
theorem dX11_connect_77 : decode cX11_connect 77 = .ok (.bipush (-3), 2) := by decide +kernel
theorem dX11_connect_79 : decode cX11_connect 79 = .ok (.ireturn, 1) := by decide +kernel
theorem dX11_connect_80 : decode cX11_connect 80 = .ok (.aload_n 0, 1) := by decide +kernel
theorem dX11_connect_81 : decode cX11_connect 81 = .ok (.getfield 19, 3) := by decide +kernel
theorem dX11_connect_84 : decode cX11_connect 84 = .ok (.aload_n 0, 1) := by decide +kernel
theorem dX11_connect_85 : decode cX11_connect 85 = .ok (.getfield 10, 3) := by decide +kernel
theorem dX11_connect_88 : decode cX11_connect 88 = .ok (.invokevirtual 65, 3) := by decide +kernel
theorem dX11_connect_91 : decode cX11_connect 91 = .ok (.aload_n 0, 1) := by decide +kernel
theorem dX11_connect_92 : decode cX11_connect 92 = .ok (.getfield 10, 3) := by decide +kernel
theorem dX11_connect_95 : decode cX11_connect 95 = .ok (.getfield 89, 3) := by decide +kernel
theorem dX11_connect_98 : decode cX11_connect 98 = .ok (.iload_n 1, 1) := by decide +kernel
theorem dX11_connect_99 : decode cX11_connect 99 = .ok (.iload_n 2, 1) := by decide +kernel
theorem dX11_connect_100 : decode cX11_connect 100 = .ok (.iload_n 3, 1) := by decide +kernel
theorem dX11_connect_101 : decode cX11_connect 101 = .ok (.iload 4, 2) := by decide +kernel
theorem dX11_connect_103 : decode cX11_connect 103 = .ok (.iload 5, 2) := by decide +kernel
theorem dX11_connect_105 : decode cX11_connect 105 = .ok (.invokevirtual 155, 3) := by decide +kernel
theorem dX11_connect_108 : decode cX11_connect 108 = .ok (.ireturn, 1) := by decide +kernel
set_option maxRecDepth 20000 in
theorem ggX11_disconnect_X1_find : GoodIn wsX11_disconnect wsX1_find := goodIn_r _ [9, 10, 11, 115, 116] (by decide +kernel) (by decide +kernel)
set_option maxRecDepth 20000 in
theorem gX11_disconnect_X1_find : GoodIn wsX11_disconnect (wsV RX11 156 RX1 yX1_find wsX1_find) := goodIn_app (goodIn_of _ (by decide +kernel)) ggX11_disconnect_X1_find
set_option maxRecDepth 20000 in
theorem ggX11_disconnect_X5_keep : GoodIn wsX11_disconnect wsX5_keep := goodIn_r _ [16, 17, 18, 19, 20, 21, 15, 22, 23, 24, 25, 26, 27, 28, 29, 30, 31, 32, 33, 34, 35, 36, 37, 38, 39, 40, 41, 42, 43, 44, 45, 46, 47, 48, 49, 50, 51, 52, 53, 54, 55, 8, 56, 11, 10, 57, 58, 59, 60, 61, 62, 63, 64, 65, 66, 67, 68, 69, 70, 71, 72, 73, 74, 75, 76, 77, 78, 79, 80, 81, 82, 83, 84, 85, 86, 87, 88, 89, 90, 91, 92, 93, 94, 95, 96, 97, 98, 99, 100, 117, 118, 111, 112, 113, 114, 119, 120, 121, 122, 123, 124, 125, 126, 127, 128, 129, 115, 116, 130, 131, 132, 133, 134, 135, 136, 137, 138, 139, 140, 141] (by decide +kernel) (by decide +kernel)
set_option maxRecDepth 20000 in
theorem gX11_disconnect_X5_keep : GoodIn wsX11_disconnect (wsV RX11 65 RX5 yX5_keep wsX5_keep) := goodIn_app (goodIn_of _ (by decide +kernel)) ggX11_disconnect_X5_keep
set_option maxRecDepth 20000 in
theorem ggX11_disconnect_X1_drop : GoodIn wsX11_disconnect wsX1_drop := goodIn_r _ [104, 10, 105, 6, 7, 8, 9, 11, 57, 58, 59, 60, 61, 62, 63, 64, 65, 66, 115, 116, 130, 131, 132, 133, 134] (by decide +kernel) (by decide +kernel)
set_option maxRecDepth 20000 in
theorem gX11_disconnect_X1_drop : GoodIn wsX11_disconnect (wsV RX11 159 RX1 yX1_drop wsX1_drop) := goodIn_app (goodIn_of _ (by decide +kernel)) ggX11_disconnect_X1_drop
theorem dX11_disconnect_0 : decode cX11_disconnect 0 = .ok (.aload_n 0, 1) := by decide +kernel
theorem dX11_disconnect_1 : decode cX11_disconnect 1 = .ok (.getfield 10, 3) := by decide +kernel
theorem dX11_disconnect_4 : decode cX11_disconnect 4 = .ok (.getfield 89, 3) := by decide +kernel
theorem dX11_disconnect_7 : decode cX11_disconnect 7 = .ok (.iload_n 1, 1) := by decide +kernel
theorem dX11_disconnect_8 : decode cX11_disconnect 8 = .ok (.invokevirtual 156, 3) := by decide +kernel
theorem dX11_disconnect_11 : decode cX11_disconnect 11 = .ok (.ifnonnull 5, 3) := by decide +kernel
theorem dX11_disconnect_14 : decode cX11_disconnect 14 = .ok (.iconst (-1), 1) := by decide +kernel
theorem dX11_disconnect_15 : decode cX11_disconnect 15 = .ok (.ireturn, 1) := by decide +kernel
theorem dX11_disconnect_16 : decode cX11_disconnect 16 = .ok (.aload_n 0, 1) := by decide +kernel
theorem dX11_disconnect_17 : decode cX11_disconnect 17 = .ok (.getfield 19, 3) := by decide +kernel
theorem dX11_disconnect_20 : decode cX11_disconnect 20 = .ok (.aload_n 0, 1) := by decide +kernel
theorem dX11_disconnect_21 : decode cX11_disconnect 21 = .ok (.getfield 10, 3) := by decide +kernel
theorem dX11_disconnect_24 : decode cX11_disconnect 24 = .ok (.invokevirtual 65, 3) := by decide +kernel
theorem dX11_disconnect_27 : decode cX11_disconnect 27 = .ok (.aload_n 0, 1) := by decide +kernel
theorem dX11_disconnect_28 : decode cX11_disconnect 28 = .ok (.getfield 10, 3) := by decide +kernel
theorem dX11_disconnect_31 : decode cX11_disconnect 31 = .ok (.getfield 89, 3) := by decide +kernel
theorem dX11_disconnect_34 : decode cX11_disconnect 34 = .ok (.iload_n 1, 1) := by decide +kernel
theorem dX11_disconnect_35 : decode cX11_disconnect 35 = .ok (.invokevirtual 159, 3) := by decide +kernel
theorem dX11_disconnect_38 : decode cX11_disconnect 38 = .ok (.aload_n 0, 1) := by decide +kernel
theorem dX11_disconnect_39 : decode cX11_disconnect 39 = .ok (.getfield 10, 3) := by decide +kernel
theorem dX11_disconnect_42 : decode cX11_disconnect 42 = .ok (.getfield 89, 3) := by decide +kernel
theorem dX11_disconnect_45 : decode cX11_disconnect 45 = .ok (.getfield 153, 3) := by decide +kernel
theorem dX11_disconnect_48 : decode cX11_disconnect 48 = .ok (.ireturn, 1) := by decide +kernel
theorem dX11_connectors_0 : decode cX11_connectors 0 = .ok (.aload_n 0, 1) := by decide +kernel
theorem dX11_connectors_1 : decode cX11_connectors 1 = .ok (.getfield 10, 3) := by decide +kernel
theorem dX11_connectors_4 : decode cX11_connectors 4 = .ok (.getfield 89, 3) := by decide +kernel
theorem dX11_connectors_7 : decode cX11_connectors 7 = .ok (.getfield 153, 3) := by decide +kernel
theorem dX11_connectors_10 : decode cX11_connectors 10 = .ok (.ireturn, 1) := by decide +kernel
set_option maxRecDepth 20000 in
theorem ggX11_point_X1_find : GoodIn wsX11_point wsX1_find := goodIn_r _ [9, 10, 11, 81, 82] (by decide +kernel) (by decide +kernel)
set_option maxRecDepth 20000 in
theorem gX11_point_X1_find : GoodIn wsX11_point (wsV RX11 156 RX1 yX1_find wsX1_find) := goodIn_app (goodIn_of _ (by decide +kernel)) ggX11_point_X1_find
set_option maxRecDepth 20000 in
theorem ggX11_point_X0_lastPoint : GoodIn wsX11_point wsX0_lastPoint := goodIn_r _ [16, 17, 83, 84, 85, 86, 87] (by decide +kernel) (by decide +kernel)
set_option maxRecDepth 20000 in
theorem gX11_point_X0_lastPoint : GoodIn wsX11_point (wsV RX11 163 RX0 yX0_lastPoint wsX0_lastPoint) := goodIn_app (goodIn_of _ (by decide +kernel)) ggX11_point_X0_lastPoint
set_option maxRecDepth 20000 in
theorem ggX11_point_X11_isWithin : GoodIn wsX11_point wsX11_isWithin := goodIn_r _ [21] (by decide +kernel) (by decide +kernel)
set_option maxRecDepth 20000 in
theorem gX11_point_X11_isWithin : GoodIn wsX11_point (va_wsS RX11 44 yX11_isWithin wsX11_isWithin) := goodIn_app (goodIn_of _ (by decide +kernel)) ggX11_point_X11_isWithin
set_option maxRecDepth 20000 in
theorem ggX11_point_X11_isAxis : GoodIn wsX11_point wsX11_isAxis := goodIn_r _ [24] (by decide +kernel) (by decide +kernel)
set_option maxRecDepth 20000 in
theorem gX11_point_X11_isAxis : GoodIn wsX11_point (va_wsS RX11 133 yX11_isAxis wsX11_isAxis) := goodIn_app (goodIn_of _ (by decide +kernel)) ggX11_point_X11_isAxis
set_option maxRecDepth 20000 in
theorem ggX11_point_X0_place : GoodIn wsX11_point wsX0_place := goodIn_r _ [28, 29, 30, 31, 32, 33, 17, 34, 35, 36, 37, 38, 39, 40, 41, 42, 43, 44, 45, 46, 47, 48, 49, 50, 51, 52, 53, 54, 55, 56, 57, 58, 59, 60, 61, 62, 63, 64, 65, 66, 67, 68, 69, 70, 13, 14, 15, 16, 71, 83, 84, 85, 86, 87, 88, 89, 90, 91, 92, 93, 94, 95, 96, 97, 98] (by decide +kernel) (by decide +kernel)
set_option maxRecDepth 20000 in
theorem gX11_point_X0_place : GoodIn wsX11_point (wsV RX11 168 RX0 yX0_place wsX0_place) := goodIn_app (goodIn_of _ (by decide +kernel)) ggX11_point_X0_place
theorem dX11_point_0 : decode cX11_point 0 = .ok (.aload_n 0, 1) := by decide +kernel
theorem dX11_point_1 : decode cX11_point 1 = .ok (.getfield 10, 3) := by decide +kernel
theorem dX11_point_4 : decode cX11_point 4 = .ok (.getfield 89, 3) := by decide +kernel
theorem dX11_point_7 : decode cX11_point 7 = .ok (.iload_n 1, 1) := by decide +kernel
theorem dX11_point_8 : decode cX11_point 8 = .ok (.invokevirtual 156, 3) := by decide +kernel
theorem dX11_point_11 : decode cX11_point 11 = .ok (.astore 4, 2) := by decide +kernel
theorem dX11_point_13 : decode cX11_point 13 = .ok (.aload 4, 2) := by decide +kernel
theorem dX11_point_15 : decode cX11_point 15 = .ok (.ifnull 23, 3) := by decide +kernel
theorem dX11_point_18 : decode cX11_point 18 = .ok (.iload_n 2, 1) := by decide +kernel
theorem dX11_point_19 : decode cX11_point 19 = .ok (.iconst 0, 1) := by decide +kernel
theorem dX11_point_20 : decode cX11_point 20 = .ok (.aload 4, 2) := by decide +kernel
theorem dX11_point_22 : decode cX11_point 22 = .ok (.invokevirtual 163, 3) := by decide +kernel
theorem dX11_point_25 : decode cX11_point 25 = .ok (.invokestatic 44, 3) := by decide +kernel
theorem dX11_point_28 : decode cX11_point 28 = .ok (.ifCond .eq 10, 3) := by decide +kernel
theorem dX11_point_31 : decode cX11_point 31 = .ok (.iload_n 3, 1) := by decide +kernel
theorem dX11_point_32 : decode cX11_point 32 = .ok (.invokestatic 133, 3) := by decide +kernel
theorem dX11_point_35 : decode cX11_point 35 = .ok (.ifCond .ne 6, 3) := by decide +kernel
theorem dX11_point_38 : decode cX11_point 38 = .ok (.ldc 98, 2) := by decide +kernel
theorem dX11_point_40 : decode cX11_point 40 = .ok (.ireturn, 1) := by decide +kernel
theorem dX11_point_41 : decode cX11_point 41 = .ok (.aload 4, 2) := by decide +kernel
theorem dX11_point_43 : decode cX11_point 43 = .ok (.aload_n 0, 1) := by decide +kernel
theorem dX11_point_44 : decode cX11_point 44 = .ok (.getfield 10, 3) := by decide +kernel
theorem dX11_point_47 : decode cX11_point 47 = .ok (.getfield 55, 3) := by decide +kernel
theorem dX11_point_50 : decode cX11_point 50 = .ok (.iload_n 2, 1) := by decide +kernel
theorem dX11_point_51 : decode cX11_point 51 = .ok (.iload_n 3, 1) := by decide +kernel
theorem dX11_point_52 : decode cX11_point 52 = .ok (.invokevirtual 168, 3) := by decide +kernel
theorem dX11_point_55 : decode cX11_point 55 = .ok (.ireturn, 1) := by decide +kernel
set_option maxRecDepth 20000 in
theorem ggX11_length_X1_find : GoodIn wsX11_length wsX1_find := goodIn_r _ [8, 9, 10, 80, 81] (by decide +kernel) (by decide +kernel)
set_option maxRecDepth 20000 in
theorem gX11_length_X1_find : GoodIn wsX11_length (wsV RX11 156 RX1 yX1_find wsX1_find) := goodIn_app (goodIn_of _ (by decide +kernel)) ggX11_length_X1_find
set_option maxRecDepth 20000 in
theorem ggX11_length_X0_extent : GoodIn wsX11_length wsX0_extent := goodIn_r _ [15, 16, 17, 18, 19, 20, 21, 22, 14, 23, 24, 25, 26, 27, 28, 29, 30, 31, 32, 33, 34, 35, 36, 37, 38, 39, 40, 41, 42, 43, 44, 45, 46, 47, 48, 49, 50, 51, 52, 53, 54, 55, 56, 57, 58, 59, 60, 61, 62, 63, 64, 65, 66, 67, 68, 69, 70, 82, 83, 84, 85, 86, 87, 88, 89, 90, 91, 92, 93, 94, 95, 96, 97] (by decide +kernel) (by decide +kernel)
set_option maxRecDepth 20000 in
theorem gX11_length_X0_extent : GoodIn wsX11_length (wsV RX11 172 RX0 yX0_extent wsX0_extent) := goodIn_app (goodIn_of _ (by decide +kernel)) ggX11_length_X0_extent
theorem dX11_length_0 : decode cX11_length 0 = .ok (.aload_n 0, 1) := by decide +kernel
theorem dX11_length_1 : decode cX11_length 1 = .ok (.getfield 10, 3) := by decide +kernel
theorem dX11_length_4 : decode cX11_length 4 = .ok (.getfield 89, 3) := by decide +kernel
theorem dX11_length_7 : decode cX11_length 7 = .ok (.iload_n 1, 1) := by decide +kernel
theorem dX11_length_8 : decode cX11_length 8 = .ok (.invokevirtual 156, 3) := by decide +kernel
theorem dX11_length_11 : decode cX11_length 11 = .ok (.astore_n 2, 1) := by decide +kernel
theorem dX11_length_12 : decode cX11_length 12 = .ok (.aload_n 2, 1) := by decide +kernel
theorem dX11_length_13 : decode cX11_length 13 = .ok (.ifnonnull 7, 3) := by decide +kernel
theorem dX11_length_16 : decode cX11_length 16 = .ok (.iconst (-1), 1) := by decide +kernel
theorem dX11_length_17 : decode cX11_length 17 = .ok (.goto 14, 3) := by decide +kernel
theorem dX11_length_20 : decode cX11_length 20 = .ok (.aload_n 2, 1) := by decide +kernel
theorem dX11_length_21 : decode cX11_length 21 = .ok (.aload_n 0, 1) := by decide +kernel
theorem dX11_length_22 : decode cX11_length 22 = .ok (.getfield 10, 3) := by decide +kernel
theorem dX11_length_25 : decode cX11_length 25 = .ok (.getfield 55, 3) := by decide +kernel
theorem dX11_length_28 : decode cX11_length 28 = .ok (.invokevirtual 172, 3) := by decide +kernel
theorem dX11_length_31 : decode cX11_length 31 = .ok (.ireturn, 1) := by decide +kernel
set_option maxRecDepth 20000 in
theorem ggX11_through_X1_find : GoodIn wsX11_through wsX1_find := goodIn_r _ [8, 9, 10, 101, 102] (by decide +kernel) (by decide +kernel)
set_option maxRecDepth 20000 in
theorem gX11_through_X1_find : GoodIn wsX11_through (wsV RX11 156 RX1 yX1_find wsX1_find) := goodIn_app (goodIn_of _ (by decide +kernel)) ggX11_through_X1_find
set_option maxRecDepth 20000 in
theorem ggX11_through_X0_crossed : GoodIn wsX11_through wsX0_crossed := goodIn_r _ [15, 16, 17, 18, 14, 19, 20, 21, 22, 23, 24, 25, 26, 27, 28, 29, 30, 31, 32, 33, 34, 35, 36, 37, 38, 39, 40, 41, 42, 43, 44, 45, 46, 47, 48, 49, 50, 51, 52, 53, 54, 55, 56, 57, 58, 59, 60, 61, 62, 63, 64, 65, 66, 67, 68, 69, 70, 71, 72, 73, 74, 75, 76, 77, 78, 79, 80, 81, 82, 83, 84, 85, 86, 87, 88, 89, 90, 91, 103, 104, 105, 106, 107, 108, 109, 110, 111, 112, 113, 114, 115, 116, 117, 118] (by decide +kernel) (by decide +kernel)
set_option maxRecDepth 20000 in
theorem gX11_through_X0_crossed : GoodIn wsX11_through (wsV RX11 176 RX0 yX0_crossed wsX0_crossed) := goodIn_app (goodIn_of _ (by decide +kernel)) ggX11_through_X0_crossed
theorem dX11_through_0 : decode cX11_through 0 = .ok (.aload_n 0, 1) := by decide +kernel
theorem dX11_through_1 : decode cX11_through 1 = .ok (.getfield 10, 3) := by decide +kernel
theorem dX11_through_4 : decode cX11_through 4 = .ok (.getfield 89, 3) := by decide +kernel
theorem dX11_through_7 : decode cX11_through 7 = .ok (.iload_n 1, 1) := by decide +kernel
theorem dX11_through_8 : decode cX11_through 8 = .ok (.invokevirtual 156, 3) := by decide +kernel
theorem dX11_through_11 : decode cX11_through 11 = .ok (.astore_n 2, 1) := by decide +kernel
theorem dX11_through_12 : decode cX11_through 12 = .ok (.aload_n 2, 1) := by decide +kernel
theorem dX11_through_13 : decode cX11_through 13 = .ok (.ifnonnull 7, 3) := by decide +kernel
theorem dX11_through_16 : decode cX11_through 16 = .ok (.iconst (-1), 1) := by decide +kernel
theorem dX11_through_17 : decode cX11_through 17 = .ok (.goto 14, 3) := by decide +kernel
theorem dX11_through_20 : decode cX11_through 20 = .ok (.aload_n 2, 1) := by decide +kernel
theorem dX11_through_21 : decode cX11_through 21 = .ok (.aload_n 0, 1) := by decide +kernel
theorem dX11_through_22 : decode cX11_through 22 = .ok (.getfield 10, 3) := by decide +kernel
theorem dX11_through_25 : decode cX11_through 25 = .ok (.getfield 55, 3) := by decide +kernel
theorem dX11_through_28 : decode cX11_through 28 = .ok (.invokevirtual 176, 3) := by decide +kernel
theorem dX11_through_31 : decode cX11_through 31 = .ok (.ireturn, 1) := by decide +kernel
set_option maxRecDepth 20000 in
theorem ggX11_select_X7_find : GoodIn wsX11_select wsX7_find := goodIn_r _ [9, 10, 11, 137, 138, 139, 140, 141, 142, 143, 144, 145, 146, 147] (by decide +kernel) (by decide +kernel)
set_option maxRecDepth 20000 in
theorem gX11_select_X7_find : GoodIn wsX11_select (wsV RX11 73 RX7 yX7_find wsX7_find) := goodIn_app (goodIn_of _ (by decide +kernel)) ggX11_select_X7_find
set_option maxRecDepth 20000 in
theorem ggX11_select_X5_keep : GoodIn wsX11_select wsX5_keep := goodIn_r _ [16, 17, 18, 19, 20, 21, 15, 22, 23, 24, 25, 26, 27, 28, 29, 30, 31, 32, 33, 34, 8, 35, 10, 36, 37, 38, 39, 40, 41, 42, 43, 44, 45, 46, 47, 48, 49, 50, 51, 52, 53, 54, 55, 56, 57, 58, 59, 60, 61, 62, 63, 64, 65, 66, 67, 68, 69, 70, 71, 72, 73, 74, 75, 76, 77, 78, 79, 80, 81, 82, 83, 84, 85, 86, 87, 88, 89, 90, 91, 92, 93, 94, 95, 96, 97, 98, 99, 100, 101, 148, 149, 133, 134, 135, 136, 137, 138, 139, 140, 141, 142, 143, 144, 145, 146, 147, 150, 151, 152, 153, 154, 155, 156, 157, 158, 159, 160, 161, 162, 163] (by decide +kernel) (by decide +kernel)
set_option maxRecDepth 20000 in
theorem gX11_select_X5_keep : GoodIn wsX11_select (wsV RX11 65 RX5 yX5_keep wsX5_keep) := goodIn_app (goodIn_of _ (by decide +kernel)) ggX11_select_X5_keep
set_option maxRecDepth 20000 in
theorem ggX11_select_X2_unitOf : GoodIn wsX11_select wsX2_unitOf := goodIn_r _ [105, 30, 106, 107, 108, 109, 110, 71, 111, 83, 78, 79, 80, 81, 82, 73, 74, 75, 76, 77, 112, 113, 114, 26, 115, 28, 116, 6, 7, 8, 9, 10, 11, 117, 118, 119, 120, 133, 134, 135, 136, 140, 141, 142, 143, 144, 145, 146, 147, 157, 158, 137, 138, 139] (by decide +kernel) (by decide +kernel)
set_option maxRecDepth 20000 in
theorem gX11_select_X2_unitOf : GoodIn wsX11_select (wsV RX11 179 RX2 yX2_unitOf wsX2_unitOf) := goodIn_app (goodIn_of _ (by decide +kernel)) ggX11_select_X2_unitOf
set_option maxRecDepth 20000 in
theorem ggX11_select_J6_bitCount_0f7a4 : GoodIn wsX11_select wsJ6_bitCount_0f7a4 := goodIn_r _ [124, 125, 126, 127] (by decide +kernel) (by decide +kernel)
set_option maxRecDepth 20000 in
theorem gX11_select_J6_bitCount_0f7a4 : GoodIn wsX11_select (va_wsS RX11 183 yJ6_bitCount_0f7a4 wsJ6_bitCount_0f7a4) := goodIn_app (goodIn_of _ (by decide +kernel)) ggX11_select_J6_bitCount_0f7a4
theorem dX11_select_0 : decode cX11_select 0 = .ok (.aload_n 0, 1) := by decide +kernel
theorem dX11_select_1 : decode cX11_select 1 = .ok (.getfield 10, 3) := by decide +kernel
theorem dX11_select_4 : decode cX11_select 4 = .ok (.getfield 55, 3) := by decide +kernel
theorem dX11_select_7 : decode cX11_select 7 = .ok (.iload_n 1, 1) := by decide +kernel
theorem dX11_select_8 : decode cX11_select 8 = .ok (.invokevirtual 73, 3) := by decide +kernel
theorem dX11_select_11 : decode cX11_select 11 = .ok (.astore_n 3, 1) := by decide +kernel
theorem dX11_select_12 : decode cX11_select 12 = .ok (.aload_n 3, 1) := by decide +kernel
theorem dX11_select_13 : decode cX11_select 13 = .ok (.ifnonnull 5, 3) := by decide +kernel
theorem dX11_select_16 : decode cX11_select 16 = .ok (.iconst (-1), 1) := by decide +kernel
theorem dX11_select_17 : decode cX11_select 17 = .ok (.ireturn, 1) := by decide +kernel
theorem dX11_select_18 : decode cX11_select 18 = .ok (.aload_n 0, 1) := by decide +kernel
theorem dX11_select_19 : decode cX11_select 19 = .ok (.getfield 19, 3) := by decide +kernel
theorem dX11_select_22 : decode cX11_select 22 = .ok (.aload_n 0, 1) := by decide +kernel
theorem dX11_select_23 : decode cX11_select 23 = .ok (.getfield 10, 3) := by decide +kernel
theorem dX11_select_26 : decode cX11_select 26 = .ok (.invokevirtual 65, 3) := by decide +kernel
theorem dX11_select_29 : decode cX11_select 29 = .ok (.aload_n 0, 1) := by decide +kernel
theorem dX11_select_30 : decode cX11_select 30 = .ok (.getfield 10, 3) := by decide +kernel
theorem dX11_select_33 : decode cX11_select 33 = .ok (.iload_n 1, 1) := by decide +kernel
theorem dX11_select_34 : decode cX11_select 34 = .ok (.aload_n 3, 1) := by decide +kernel
theorem dX11_select_35 : decode cX11_select 35 = .ok (.invokevirtual 179, 3) := by decide +kernel
theorem dX11_select_38 : decode cX11_select 38 = .ok (.istore 4, 2) := by decide +kernel
theorem dX11_select_40 : decode cX11_select 40 = .ok (.iload_n 2, 1) := by decide +kernel
theorem dX11_select_41 : decode cX11_select 41 = .ok (.ifCond .eq 23, 3) := by decide +kernel
theorem dX11_select_44 : decode cX11_select 44 = .ok (.aload_n 0, 1) := by decide +kernel
theorem dX11_select_45 : decode cX11_select 45 = .ok (.getfield 10, 3) := by decide +kernel
theorem dX11_select_48 : decode cX11_select 48 = .ok (.getfield 55, 3) := by decide +kernel
theorem dX11_select_51 : decode cX11_select 51 = .ok (.dup, 1) := by decide +kernel
theorem dX11_select_52 : decode cX11_select 52 = .ok (.getfield 108, 3) := by decide +kernel
theorem dX11_select_55 : decode cX11_select 55 = .ok (.iload 4, 2) := by decide +kernel
theorem dX11_select_57 : decode cX11_select 57 = .ok (.ior, 1) := by decide +kernel
theorem dX11_select_58 : decode cX11_select 58 = .ok (.putfield 108, 3) := by decide +kernel
theorem dX11_select_61 : decode cX11_select 61 = .ok (.goto 22, 3) := by decide +kernel
theorem dX11_select_64 : decode cX11_select 64 = .ok (.aload_n 0, 1) := by decide +kernel
theorem dX11_select_65 : decode cX11_select 65 = .ok (.getfield 10, 3) := by decide +kernel
theorem dX11_select_68 : decode cX11_select 68 = .ok (.getfield 55, 3) := by decide +kernel
theorem dX11_select_71 : decode cX11_select 71 = .ok (.dup, 1) := by decide +kernel
theorem dX11_select_72 : decode cX11_select 72 = .ok (.getfield 108, 3) := by decide +kernel
theorem dX11_select_75 : decode cX11_select 75 = .ok (.iload 4, 2) := by decide +kernel
theorem dX11_select_77 : decode cX11_select 77 = .ok (.iconst (-1), 1) := by decide +kernel
theorem dX11_select_78 : decode cX11_select 78 = .ok (.ixor, 1) := by decide +kernel
theorem dX11_select_79 : decode cX11_select 79 = .ok (.iand, 1) := by decide +kernel
theorem dX11_select_80 : decode cX11_select 80 = .ok (.putfield 108, 3) := by decide +kernel
theorem dX11_select_83 : decode cX11_select 83 = .ok (.aload_n 0, 1) := by decide +kernel
theorem dX11_select_84 : decode cX11_select 84 = .ok (.getfield 10, 3) := by decide +kernel
theorem dX11_select_87 : decode cX11_select 87 = .ok (.getfield 55, 3) := by decide +kernel
theorem dX11_select_90 : decode cX11_select 90 = .ok (.getfield 108, 3) := by decide +kernel
theorem dX11_select_93 : decode cX11_select 93 = .ok (.invokestatic 183, 3) := by decide +kernel
theorem dX11_select_96 : decode cX11_select 96 = .ok (.ireturn, 1) := by decide +kernel
theorem dX11_selected_0 : decode cX11_selected 0 = .ok (.aload_n 0, 1) := by decide +kernel
theorem dX11_selected_1 : decode cX11_selected 1 = .ok (.getfield 10, 3) := by decide +kernel
theorem dX11_selected_4 : decode cX11_selected 4 = .ok (.getfield 55, 3) := by decide +kernel
theorem dX11_selected_7 : decode cX11_selected 7 = .ok (.getfield 108, 3) := by decide +kernel
theorem dX11_selected_10 : decode cX11_selected 10 = .ok (.ireturn, 1) := by decide +kernel
set_option maxRecDepth 20000 in
theorem ggX11_group_X10_gather : GoodIn wsX11_group wsX10_gather := goodIn_r _ [11, 12, 13, 14, 15, 16, 17, 18, 19, 20, 21, 22, 23, 24, 25, 26, 27, 28, 29, 30, 31, 32, 33, 34, 35, 36, 37, 38, 39, 40, 41, 42, 43, 44, 45, 46, 47, 48, 49, 50, 51, 52, 53, 54, 55, 56, 57, 58, 59, 60, 61, 10, 62, 63, 161, 162, 163, 164, 165, 166, 167, 168, 169, 170, 171, 172, 173, 174, 175, 176, 177, 178, 179, 180] (by decide +kernel) (by decide +kernel)
set_option maxRecDepth 20000 in
theorem gX11_group_X10_gather : GoodIn wsX11_group (wsV RX11 188 RX10 yX10_gather wsX10_gather) := goodIn_app (goodIn_of _ (by decide +kernel)) ggX11_group_X10_gather
set_option maxRecDepth 20000 in
theorem ggX11_group_X3_firstFree : GoodIn wsX11_group wsX3_firstFree := goodIn_r _ [67, 48, 38, 179, 180] (by decide +kernel) (by decide +kernel)
set_option maxRecDepth 20000 in
theorem gX11_group_X3_firstFree : GoodIn wsX11_group (wsV RX11 192 RX3 yX3_firstFree wsX3_firstFree) := goodIn_app (goodIn_of _ (by decide +kernel)) ggX11_group_X3_firstFree
set_option maxRecDepth 20000 in
theorem ggX11_group_X5_keep : GoodIn wsX11_group wsX5_keep := goodIn_r _ [72, 73, 74, 75, 76, 77, 71, 78, 79, 80, 81, 28, 82, 53, 83, 30, 84, 85, 86, 87, 18, 88, 20, 89, 90, 91, 92, 93, 94, 95, 96, 97, 98, 99, 100, 101, 102, 103, 104, 105, 106, 107, 108, 109, 110, 111, 112, 113, 114, 115, 116, 117, 118, 119, 120, 121, 122, 123, 36, 124, 44, 45, 46, 47, 48, 39, 40, 41, 42, 43, 38, 125, 126, 127, 128, 129, 130, 131, 132, 133, 134, 135, 136, 137, 138, 139, 140, 141, 142, 181, 182, 164, 165, 166, 167, 168, 169, 170, 171, 172, 173, 174, 175, 176, 177, 178, 183, 184, 185, 186, 187, 188, 189, 179, 180, 190, 191, 192, 193, 194] (by decide +kernel) (by decide +kernel)
set_option maxRecDepth 20000 in
theorem gX11_group_X5_keep : GoodIn wsX11_group (wsV RX11 65 RX5 yX5_keep wsX5_keep) := goodIn_app (goodIn_of _ (by decide +kernel)) ggX11_group_X5_keep
set_option maxRecDepth 20000 in
theorem ggX11_group_X2_joinChosen : GoodIn wsX11_group wsX2_joinChosen := goodIn_r _ [146, 30, 53, 147, 31, 32, 148, 149, 150, 36, 151, 38, 125, 126, 127, 128, 48, 43, 54, 16, 17, 18, 19, 20, 21, 22, 23, 24, 33, 34, 35, 37, 39, 40, 41, 42, 44, 45, 46, 47, 152, 153, 154, 155, 164, 165, 166, 167, 168, 169, 170, 171, 172, 173, 174, 175, 176, 177, 178, 179, 180] (by decide +kernel) (by decide +kernel)
set_option maxRecDepth 20000 in
theorem gX11_group_X2_joinChosen : GoodIn wsX11_group (wsV RX11 195 RX2 yX2_joinChosen wsX2_joinChosen) := goodIn_app (goodIn_of _ (by decide +kernel)) ggX11_group_X2_joinChosen
theorem dX11_group_0 : decode cX11_group 0 = .ok (.aload_n 0, 1) := by decide +kernel
theorem dX11_group_1 : decode cX11_group 1 = .ok (.getfield 33, 3) := by decide +kernel
theorem dX11_group_4 : decode cX11_group 4 = .ok (.aload_n 0, 1) := by decide +kernel
theorem dX11_group_5 : decode cX11_group 5 = .ok (.getfield 10, 3) := by decide +kernel
theorem dX11_group_8 : decode cX11_group 8 = .ok (.invokevirtual 188, 3) := by decide +kernel
theorem dX11_group_11 : decode cX11_group 11 = .ok (.aload_n 0, 1) := by decide +kernel
theorem dX11_group_12 : decode cX11_group 12 = .ok (.getfield 33, 3) := by decide +kernel
theorem dX11_group_15 : decode cX11_group 15 = .ok (.getfield 191, 3) := by decide +kernel
theorem dX11_group_18 : decode cX11_group 18 = .ok (.iconst 2, 1) := by decide +kernel
theorem dX11_group_19 : decode cX11_group 19 = .ok (.if_icmp .ge 6, 3) := by decide +kernel
theorem dX11_group_22 : decode cX11_group 22 = .ok (.bipush (-2), 2) := by decide +kernel
theorem dX11_group_24 : decode cX11_group 24 = .ok (.ireturn, 1) := by decide +kernel
theorem dX11_group_25 : decode cX11_group 25 = .ok (.aload_n 0, 1) := by decide +kernel
theorem dX11_group_26 : decode cX11_group 26 = .ok (.getfield 10, 3) := by decide +kernel
theorem dX11_group_29 : decode cX11_group 29 = .ok (.getfield 121, 3) := by decide +kernel
theorem dX11_group_32 : decode cX11_group 32 = .ok (.invokevirtual 192, 3) := by decide +kernel
theorem dX11_group_35 : decode cX11_group 35 = .ok (.istore_n 1, 1) := by decide +kernel
theorem dX11_group_36 : decode cX11_group 36 = .ok (.iload_n 1, 1) := by decide +kernel
theorem dX11_group_37 : decode cX11_group 37 = .ok (.ldc 98, 2) := by decide +kernel
theorem dX11_group_39 : decode cX11_group 39 = .ok (.if_icmp .ne 6, 3) := by decide +kernel
theorem dX11_group_42 : decode cX11_group 42 = .ok (.bipush (-3), 2) := by decide +kernel
theorem dX11_group_44 : decode cX11_group 44 = .ok (.ireturn, 1) := by decide +kernel
theorem dX11_group_45 : decode cX11_group 45 = .ok (.aload_n 0, 1) := by decide +kernel
theorem dX11_group_46 : decode cX11_group 46 = .ok (.getfield 19, 3) := by decide +kernel
theorem dX11_group_49 : decode cX11_group 49 = .ok (.aload_n 0, 1) := by decide +kernel
theorem dX11_group_50 : decode cX11_group 50 = .ok (.getfield 10, 3) := by decide +kernel
theorem dX11_group_53 : decode cX11_group 53 = .ok (.invokevirtual 65, 3) := by decide +kernel
theorem dX11_group_56 : decode cX11_group 56 = .ok (.aload_n 0, 1) := by decide +kernel
theorem dX11_group_57 : decode cX11_group 57 = .ok (.getfield 10, 3) := by decide +kernel
theorem dX11_group_60 : decode cX11_group 60 = .ok (.iload_n 1, 1) := by decide +kernel
theorem dX11_group_61 : decode cX11_group 61 = .ok (.invokevirtual 195, 3) := by decide +kernel
theorem dX11_group_64 : decode cX11_group 64 = .ok (.iload_n 1, 1) := by decide +kernel
theorem dX11_group_65 : decode cX11_group 65 = .ok (.ireturn, 1) := by decide +kernel
set_option maxRecDepth 20000 in
theorem ggX11_ungroup_X3_has : GoodIn wsX11_ungroup wsX3_has := goodIn_r _ [8, 9, 125, 126] (by decide +kernel) (by decide +kernel)
set_option maxRecDepth 20000 in
theorem gX11_ungroup_X3_has : GoodIn wsX11_ungroup (wsV RX11 198 RX3 yX3_has wsX3_has) := goodIn_app (goodIn_of _ (by decide +kernel)) ggX11_ungroup_X3_has
set_option maxRecDepth 20000 in
theorem ggX11_ungroup_X5_keep : GoodIn wsX11_ungroup wsX5_keep := goodIn_r _ [14, 15, 16, 17, 18, 19, 13, 20, 21, 22, 23, 24, 25, 26, 27, 28, 29, 30, 31, 32, 33, 34, 35, 36, 37, 38, 39, 40, 41, 42, 43, 44, 45, 46, 47, 48, 49, 50, 51, 52, 53, 54, 55, 56, 57, 58, 59, 60, 61, 62, 63, 64, 65, 66, 67, 68, 69, 70, 7, 71, 72, 5, 6, 8, 9, 73, 74, 75, 76, 77, 78, 79, 80, 81, 82, 83, 84, 85, 86, 87, 88, 89, 90, 91, 92, 93, 94, 95, 96, 127, 128, 121, 122, 123, 124, 129, 130, 131, 132, 133, 134, 135, 136, 137, 138, 139, 140, 141, 142, 143, 144, 145, 146, 125, 126, 147, 148, 149, 150, 151] (by decide +kernel) (by decide +kernel)
set_option maxRecDepth 20000 in
theorem gX11_ungroup_X5_keep : GoodIn wsX11_ungroup (wsV RX11 65 RX5 yX5_keep wsX5_keep) := goodIn_app (goodIn_of _ (by decide +kernel)) ggX11_ungroup_X5_keep
set_option maxRecDepth 20000 in
theorem ggX11_ungroup_X2_endGroup : GoodIn wsX11_ungroup wsX2_endGroup := goodIn_r _ [100, 28, 26, 101, 102, 74, 75, 7, 76, 77, 78, 72, 5, 6, 8, 9, 103, 104, 105, 33, 106, 35, 107, 108, 109, 110, 111, 79, 80, 81, 82, 112, 113, 114, 115, 121, 122, 123, 124, 132, 133, 134, 135, 136, 137, 138, 139, 125, 126, 129, 130, 131] (by decide +kernel) (by decide +kernel)
set_option maxRecDepth 20000 in
theorem gX11_ungroup_X2_endGroup : GoodIn wsX11_ungroup (wsV RX11 201 RX2 yX2_endGroup wsX2_endGroup) := goodIn_app (goodIn_of _ (by decide +kernel)) ggX11_ungroup_X2_endGroup
theorem dX11_ungroup_0 : decode cX11_ungroup 0 = .ok (.aload_n 0, 1) := by decide +kernel
theorem dX11_ungroup_1 : decode cX11_ungroup 1 = .ok (.getfield 10, 3) := by decide +kernel
theorem dX11_ungroup_4 : decode cX11_ungroup 4 = .ok (.getfield 121, 3) := by decide +kernel
theorem dX11_ungroup_7 : decode cX11_ungroup 7 = .ok (.iload_n 1, 1) := by decide +kernel
theorem dX11_ungroup_8 : decode cX11_ungroup 8 = .ok (.invokevirtual 198, 3) := by decide +kernel
theorem dX11_ungroup_11 : decode cX11_ungroup 11 = .ok (.ifCond .ne 5, 3) := by decide +kernel
theorem dX11_ungroup_14 : decode cX11_ungroup 14 = .ok (.iconst (-1), 1) := by decide +kernel
theorem dX11_ungroup_15 : decode cX11_ungroup 15 = .ok (.ireturn, 1) := by decide +kernel
theorem dX11_ungroup_16 : decode cX11_ungroup 16 = .ok (.aload_n 0, 1) := by decide +kernel
theorem dX11_ungroup_17 : decode cX11_ungroup 17 = .ok (.getfield 19, 3) := by decide +kernel
theorem dX11_ungroup_20 : decode cX11_ungroup 20 = .ok (.aload_n 0, 1) := by decide +kernel
theorem dX11_ungroup_21 : decode cX11_ungroup 21 = .ok (.getfield 10, 3) := by decide +kernel
theorem dX11_ungroup_24 : decode cX11_ungroup 24 = .ok (.invokevirtual 65, 3) := by decide +kernel
theorem dX11_ungroup_27 : decode cX11_ungroup 27 = .ok (.aload_n 0, 1) := by decide +kernel
theorem dX11_ungroup_28 : decode cX11_ungroup 28 = .ok (.getfield 10, 3) := by decide +kernel
theorem dX11_ungroup_31 : decode cX11_ungroup 31 = .ok (.iload_n 1, 1) := by decide +kernel
theorem dX11_ungroup_32 : decode cX11_ungroup 32 = .ok (.invokevirtual 201, 3) := by decide +kernel
theorem dX11_ungroup_35 : decode cX11_ungroup 35 = .ok (.ireturn, 1) := by decide +kernel
set_option maxRecDepth 20000 in
theorem ggX11_shapesOf_X3_has : GoodIn wsX11_shapesOf wsX3_has := goodIn_r _ [7, 8, 44, 45] (by decide +kernel) (by decide +kernel)
set_option maxRecDepth 20000 in
theorem gX11_shapesOf_X3_has : GoodIn wsX11_shapesOf (wsV RX11 198 RX3 yX3_has wsX3_has) := goodIn_app (goodIn_of _ (by decide +kernel)) ggX11_shapesOf_X3_has
set_option maxRecDepth 20000 in
theorem ggX11_shapesOf_X2_shapesIn : GoodIn wsX11_shapesOf wsX2_shapesIn := goodIn_r _ [13, 14, 15, 16, 17, 18, 19, 20, 21, 22, 23, 24, 25, 26, 6, 27, 28, 29, 30, 31, 32, 33, 34, 4, 5, 7, 8, 40, 41, 42, 43, 46, 47, 48, 49, 50, 51, 52, 53, 54, 55, 56, 44, 45] (by decide +kernel) (by decide +kernel)
set_option maxRecDepth 20000 in
theorem gX11_shapesOf_X2_shapesIn : GoodIn wsX11_shapesOf (wsV RX11 204 RX2 yX2_shapesIn wsX2_shapesIn) := goodIn_app (goodIn_of _ (by decide +kernel)) ggX11_shapesOf_X2_shapesIn
theorem dX11_shapesOf_0 : decode cX11_shapesOf 0 = .ok (.aload_n 0, 1) := by decide +kernel
theorem dX11_shapesOf_1 : decode cX11_shapesOf 1 = .ok (.getfield 10, 3) := by decide +kernel
theorem dX11_shapesOf_4 : decode cX11_shapesOf 4 = .ok (.getfield 121, 3) := by decide +kernel
theorem dX11_shapesOf_7 : decode cX11_shapesOf 7 = .ok (.iload_n 1, 1) := by decide +kernel
theorem dX11_shapesOf_8 : decode cX11_shapesOf 8 = .ok (.invokevirtual 198, 3) := by decide +kernel
theorem dX11_shapesOf_11 : decode cX11_shapesOf 11 = .ok (.ifCond .eq 14, 3) := by decide +kernel
theorem dX11_shapesOf_14 : decode cX11_shapesOf 14 = .ok (.aload_n 0, 1) := by decide +kernel
theorem dX11_shapesOf_15 : decode cX11_shapesOf 15 = .ok (.getfield 10, 3) := by decide +kernel
theorem dX11_shapesOf_18 : decode cX11_shapesOf 18 = .ok (.iload_n 1, 1) := by decide +kernel
theorem dX11_shapesOf_19 : decode cX11_shapesOf 19 = .ok (.invokevirtual 204, 3) := by decide +kernel
theorem dX11_shapesOf_22 : decode cX11_shapesOf 22 = .ok (.goto 4, 3) := by decide +kernel
theorem dX11_shapesOf_25 : decode cX11_shapesOf 25 = .ok (.iconst (-1), 1) := by decide +kernel
theorem dX11_shapesOf_26 : decode cX11_shapesOf 26 = .ok (.ireturn, 1) := by decide +kernel
set_option maxRecDepth 20000 in
theorem ggX11_move_X11_isWay : GoodIn wsX11_move wsX11_isWay := goodIn_r _ [9, 10, 11, 8, 12] (by decide +kernel) (by decide +kernel)
set_option maxRecDepth 20000 in
theorem gX11_move_X11_isWay : GoodIn wsX11_move (va_wsS RX11 207 yX11_isWay wsX11_isWay) := goodIn_app (goodIn_of _ (by decide +kernel)) ggX11_move_X11_isWay
set_option maxRecDepth 20000 in
theorem ggX11_move_X11_canShiftChosen : GoodIn wsX11_move wsX11_canShiftChosen := goodIn_r _ [16, 1, 2, 3, 17, 18, 19, 20, 21, 22, 23, 24, 25, 26, 27, 28, 8, 29, 30, 31, 32, 33, 34, 35, 36, 37, 38, 10, 11, 12, 148, 149, 150, 151, 152, 153, 154, 155, 156, 157, 158, 159, 160, 161, 162, 163, 164, 165, 166, 167] (by decide +kernel) (by decide +kernel)
set_option maxRecDepth 20000 in
theorem gX11_move_X11_canShiftChosen : GoodIn wsX11_move (wsV RX11 210 RX11 yX11_canShiftChosen wsX11_canShiftChosen) := goodIn_app (goodIn_of _ (by decide +kernel)) ggX11_move_X11_canShiftChosen
set_option maxRecDepth 20000 in
theorem ggX11_move_X5_keep : GoodIn wsX11_move wsX5_keep := goodIn_r _ [43, 44, 45, 46, 47, 48, 42, 49, 50, 51, 52, 53, 54, 55, 56, 57, 58, 59, 60, 61, 20, 62, 22, 63, 64, 65, 66, 67, 33, 68, 69, 70, 35, 36, 71, 72, 73, 74, 75, 76, 77, 78, 79, 80, 81, 82, 83, 84, 85, 86, 87, 88, 89, 90, 91, 92, 93, 94, 95, 96, 97, 98, 99, 100, 101, 102, 103, 104, 105, 106, 107, 108, 109, 110, 111, 112, 113, 114, 115, 116, 117, 118, 119, 120, 121, 122, 123, 124, 125, 168, 169, 153, 154, 155, 156, 157, 158, 159, 160, 161, 162, 163, 164, 165, 166, 167, 170, 171, 172, 173, 174, 175, 176, 177, 178, 179, 180, 181, 182, 183] (by decide +kernel) (by decide +kernel)
set_option maxRecDepth 20000 in
theorem gX11_move_X5_keep : GoodIn wsX11_move (wsV RX11 65 RX5 yX5_keep wsX5_keep) := goodIn_app (goodIn_of _ (by decide +kernel)) ggX11_move_X5_keep
set_option maxRecDepth 20000 in
theorem ggX11_move_X11_shiftChosen : GoodIn wsX11_move wsX11_shiftChosen := goodIn_r _ [129, 1, 2, 3, 130, 131, 132, 20, 133, 22, 23, 24, 25, 26, 27, 28, 8, 29, 134, 135, 136, 33, 137, 35, 36, 148, 149, 150, 151, 152, 153, 154, 155, 156, 157, 158, 159, 160, 161, 162, 163, 164, 165, 166, 167] (by decide +kernel) (by decide +kernel)
set_option maxRecDepth 20000 in
theorem gX11_move_X11_shiftChosen : GoodIn wsX11_move (wsV RX11 213 RX11 yX11_shiftChosen wsX11_shiftChosen) := goodIn_app (goodIn_of _ (by decide +kernel)) ggX11_move_X11_shiftChosen
set_option maxRecDepth 20000 in
theorem ggX11_move_X1_countHalfIn : GoodIn wsX11_move wsX1_countHalfIn := goodIn_r _ [141, 80, 142, 143, 144, 145, 146, 78, 147, 81, 28, 8, 29, 170, 171, 172, 173, 174, 175, 176] (by decide +kernel) (by decide +kernel)
set_option maxRecDepth 20000 in
theorem gX11_move_X1_countHalfIn : GoodIn wsX11_move (wsV RX11 217 RX1 yX1_countHalfIn wsX1_countHalfIn) := goodIn_app (goodIn_of _ (by decide +kernel)) ggX11_move_X1_countHalfIn
theorem dX11_move_0 : decode cX11_move 0 = .ok (.iload_n 1, 1) := by decide +kernel
theorem dX11_move_1 : decode cX11_move 1 = .ok (.invokestatic 207, 3) := by decide +kernel
theorem dX11_move_4 : decode cX11_move 4 = .ok (.ifCond .eq 10, 3) := by decide +kernel
theorem dX11_move_7 : decode cX11_move 7 = .ok (.iload_n 2, 1) := by decide +kernel
theorem dX11_move_8 : decode cX11_move 8 = .ok (.invokestatic 207, 3) := by decide +kernel
theorem dX11_move_11 : decode cX11_move 11 = .ok (.ifCond .ne 5, 3) := by decide +kernel
theorem dX11_move_14 : decode cX11_move 14 = .ok (.iconst (-1), 1) := by decide +kernel
theorem dX11_move_15 : decode cX11_move 15 = .ok (.ireturn, 1) := by decide +kernel
theorem dX11_move_16 : decode cX11_move 16 = .ok (.aload_n 0, 1) := by decide +kernel
theorem dX11_move_17 : decode cX11_move 17 = .ok (.getfield 10, 3) := by decide +kernel
theorem dX11_move_20 : decode cX11_move 20 = .ok (.getfield 55, 3) := by decide +kernel
theorem dX11_move_23 : decode cX11_move 23 = .ok (.getfield 108, 3) := by decide +kernel
theorem dX11_move_26 : decode cX11_move 26 = .ok (.ifCond .ne 6, 3) := by decide +kernel
theorem dX11_move_29 : decode cX11_move 29 = .ok (.bipush (-2), 2) := by decide +kernel
theorem dX11_move_31 : decode cX11_move 31 = .ok (.ireturn, 1) := by decide +kernel
theorem dX11_move_32 : decode cX11_move 32 = .ok (.aload_n 0, 1) := by decide +kernel
theorem dX11_move_33 : decode cX11_move 33 = .ok (.iload_n 1, 1) := by decide +kernel
theorem dX11_move_34 : decode cX11_move 34 = .ok (.iload_n 2, 1) := by decide +kernel
theorem dX11_move_35 : decode cX11_move 35 = .ok (.invokevirtual 210, 3) := by decide +kernel
theorem dX11_move_38 : decode cX11_move 38 = .ok (.ifCond .ne 6, 3) := by decide +kernel
theorem dX11_move_41 : decode cX11_move 41 = .ok (.bipush (-4), 2) := by decide +kernel
theorem dX11_move_43 : decode cX11_move 43 = .ok (.ireturn, 1) := by decide +kernel
theorem dX11_move_44 : decode cX11_move 44 = .ok (.aload_n 0, 1) := by decide +kernel
theorem dX11_move_45 : decode cX11_move 45 = .ok (.getfield 19, 3) := by decide +kernel
theorem dX11_move_48 : decode cX11_move 48 = .ok (.aload_n 0, 1) := by decide +kernel
theorem dX11_move_49 : decode cX11_move 49 = .ok (.getfield 10, 3) := by decide +kernel
theorem dX11_move_52 : decode cX11_move 52 = .ok (.invokevirtual 65, 3) := by decide +kernel
theorem dX11_move_55 : decode cX11_move 55 = .ok (.aload_n 0, 1) := by decide +kernel
theorem dX11_move_56 : decode cX11_move 56 = .ok (.iload_n 1, 1) := by decide +kernel
theorem dX11_move_57 : decode cX11_move 57 = .ok (.iload_n 2, 1) := by decide +kernel
theorem dX11_move_58 : decode cX11_move 58 = .ok (.invokevirtual 213, 3) := by decide +kernel
theorem dX11_move_61 : decode cX11_move 61 = .ok (.aload_n 0, 1) := by decide +kernel
theorem dX11_move_62 : decode cX11_move 62 = .ok (.getfield 10, 3) := by decide +kernel
theorem dX11_move_65 : decode cX11_move 65 = .ok (.getfield 89, 3) := by decide +kernel
theorem dX11_move_68 : decode cX11_move 68 = .ok (.aload_n 0, 1) := by decide +kernel
theorem dX11_move_69 : decode cX11_move 69 = .ok (.getfield 10, 3) := by decide +kernel
theorem dX11_move_72 : decode cX11_move 72 = .ok (.getfield 55, 3) := by decide +kernel
theorem dX11_move_75 : decode cX11_move 75 = .ok (.getfield 108, 3) := by decide +kernel
theorem dX11_move_78 : decode cX11_move 78 = .ok (.invokevirtual 217, 3) := by decide +kernel
theorem dX11_move_81 : decode cX11_move 81 = .ok (.ireturn, 1) := by decide +kernel
set_option maxRecDepth 20000 in
theorem ggX11_drag_X11_isWay : GoodIn wsX11_drag wsX11_isWay := goodIn_r _ [11, 12, 13, 10, 14] (by decide +kernel) (by decide +kernel)
set_option maxRecDepth 20000 in
theorem gX11_drag_X11_isWay : GoodIn wsX11_drag (va_wsS RX11 207 yX11_isWay wsX11_isWay) := goodIn_app (goodIn_of _ (by decide +kernel)) ggX11_drag_X11_isWay
set_option maxRecDepth 20000 in
theorem ggX11_drag_X8_search : GoodIn wsX11_drag wsX8_search := goodIn_r _ [19, 20, 21, 22, 23, 24, 25, 26, 27, 28, 29, 30, 31, 32, 33, 34, 35, 36, 37, 38, 39, 40, 41, 42, 43, 44, 45, 46, 47, 48, 49, 10, 50, 51, 52, 53, 54, 55, 56, 57, 58, 59, 60, 61, 62, 63, 64, 65, 66, 67, 68, 69, 70, 71, 72, 73, 74, 75, 76, 77, 78, 79, 80, 81, 82, 83, 84, 85, 86, 87, 88, 89, 90, 91, 92, 93, 94, 95, 96, 18, 97, 98, 99, 100, 101, 102, 103, 104, 105, 106, 107, 108, 109, 110, 111, 112, 113, 114, 115, 116, 117, 118, 119, 120, 121, 122, 123, 232, 233, 234, 235, 236, 237, 238, 239, 240, 241, 242, 243, 244, 245, 246, 247, 248, 249, 250, 251, 252, 253, 254] (by decide +kernel) (by decide +kernel)
set_option maxRecDepth 20000 in
theorem gX11_drag_X8_search : GoodIn wsX11_drag (wsV RX11 220 RX8 yX8_search wsX8_search) := goodIn_app (goodIn_of _ (by decide +kernel)) ggX11_drag_X8_search
set_option maxRecDepth 20000 in
theorem ggX11_drag_X11_canShiftChosen : GoodIn wsX11_drag wsX11_canShiftChosen := goodIn_r _ [127, 1, 2, 3, 128, 129, 130, 32, 131, 39, 44, 45, 46, 47, 48, 49, 10, 50, 51, 52, 53, 54, 55, 56, 57, 132, 133, 12, 13, 14, 227, 228, 229, 230, 231, 232, 233, 234, 235, 236, 237, 238, 247, 248, 249, 250, 251, 252, 253, 254] (by decide +kernel) (by decide +kernel)
set_option maxRecDepth 20000 in
theorem gX11_drag_X11_canShiftChosen : GoodIn wsX11_drag (wsV RX11 210 RX11 yX11_canShiftChosen wsX11_canShiftChosen) := goodIn_app (goodIn_of _ (by decide +kernel)) ggX11_drag_X11_canShiftChosen
set_option maxRecDepth 20000 in
theorem ggX11_drag_X5_keep : GoodIn wsX11_drag wsX5_keep := goodIn_r _ [138, 139, 140, 141, 142, 143, 137, 144, 145, 146, 147, 148, 149, 150, 151, 152, 153, 154, 155, 156, 32, 157, 39, 158, 159, 160, 161, 162, 54, 163, 164, 165, 56, 57, 75, 76, 166, 167, 168, 169, 170, 171, 172, 173, 174, 175, 176, 177, 178, 179, 180, 181, 182, 183, 184, 185, 186, 187, 188, 189, 190, 191, 192, 193, 194, 195, 196, 197, 198, 199, 200, 201, 202, 203, 204, 205, 206, 207, 84, 208, 86, 87, 92, 209, 210, 211, 212, 213, 214, 255, 256, 232, 233, 234, 235, 236, 237, 238, 247, 248, 249, 250, 251, 252, 253, 254, 257, 258, 259, 260, 261, 262, 263, 264, 265, 242, 243, 244, 245, 246] (by decide +kernel) (by decide +kernel)
set_option maxRecDepth 20000 in
theorem gX11_drag_X5_keep : GoodIn wsX11_drag (wsV RX11 65 RX5 yX5_keep wsX5_keep) := goodIn_app (goodIn_of _ (by decide +kernel)) ggX11_drag_X5_keep
set_option maxRecDepth 20000 in
theorem ggX11_drag_X11_shiftChosen : GoodIn wsX11_drag wsX11_shiftChosen := goodIn_r _ [218, 1, 2, 3, 219, 220, 221, 32, 222, 39, 44, 45, 46, 47, 48, 49, 10, 50, 223, 224, 225, 54, 226, 56, 57, 227, 228, 229, 230, 231, 232, 233, 234, 235, 236, 237, 238, 247, 248, 249, 250, 251, 252, 253, 254] (by decide +kernel) (by decide +kernel)
set_option maxRecDepth 20000 in
theorem gX11_drag_X11_shiftChosen : GoodIn wsX11_drag (wsV RX11 213 RX11 yX11_shiftChosen wsX11_shiftChosen) := goodIn_app (goodIn_of _ (by decide +kernel)) ggX11_drag_X11_shiftChosen
theorem dX11_drag_0 : decode cX11_drag 0 = .ok (.iload_n 1, 1) := by decide +kernel
theorem dX11_drag_1 : decode cX11_drag 1 = .ok (.invokestatic 207, 3) := by decide +kernel
theorem dX11_drag_4 : decode cX11_drag 4 = .ok (.ifCond .eq 10, 3) := by decide +kernel
theorem dX11_drag_7 : decode cX11_drag 7 = .ok (.iload_n 2, 1) := by decide +kernel
theorem dX11_drag_8 : decode cX11_drag 8 = .ok (.invokestatic 207, 3) := by decide +kernel
theorem dX11_drag_11 : decode cX11_drag 11 = .ok (.ifCond .ne 5, 3) := by decide +kernel
theorem dX11_drag_14 : decode cX11_drag 14 = .ok (.iconst (-1), 1) := by decide +kernel
theorem dX11_drag_15 : decode cX11_drag 15 = .ok (.ireturn, 1) := by decide +kernel
theorem dX11_drag_16 : decode cX11_drag 16 = .ok (.aload_n 0, 1) := by decide +kernel
theorem dX11_drag_17 : decode cX11_drag 17 = .ok (.getfield 10, 3) := by decide +kernel
theorem dX11_drag_20 : decode cX11_drag 20 = .ok (.getfield 55, 3) := by decide +kernel
theorem dX11_drag_23 : decode cX11_drag 23 = .ok (.getfield 108, 3) := by decide +kernel
theorem dX11_drag_26 : decode cX11_drag 26 = .ok (.ifCond .ne 6, 3) := by decide +kernel
theorem dX11_drag_29 : decode cX11_drag 29 = .ok (.bipush (-2), 2) := by decide +kernel
theorem dX11_drag_31 : decode cX11_drag 31 = .ok (.ireturn, 1) := by decide +kernel
theorem dX11_drag_32 : decode cX11_drag 32 = .ok (.aload_n 0, 1) := by decide +kernel
theorem dX11_drag_33 : decode cX11_drag 33 = .ok (.getfield 40, 3) := by decide +kernel
theorem dX11_drag_36 : decode cX11_drag 36 = .ok (.aload_n 0, 1) := by decide +kernel
theorem dX11_drag_37 : decode cX11_drag 37 = .ok (.getfield 10, 3) := by decide +kernel
theorem dX11_drag_40 : decode cX11_drag 40 = .ok (.iconst 0, 1) := by decide +kernel
theorem dX11_drag_41 : decode cX11_drag 41 = .ok (.iload_n 1, 1) := by decide +kernel
theorem dX11_drag_42 : decode cX11_drag 42 = .ok (.invokevirtual 220, 3) := by decide +kernel
theorem dX11_drag_45 : decode cX11_drag 45 = .ok (.aload_n 0, 1) := by decide +kernel
theorem dX11_drag_46 : decode cX11_drag 46 = .ok (.getfield 40, 3) := by decide +kernel
theorem dX11_drag_49 : decode cX11_drag 49 = .ok (.getfield 224, 3) := by decide +kernel
theorem dX11_drag_52 : decode cX11_drag 52 = .ok (.istore_n 3, 1) := by decide +kernel
theorem dX11_drag_53 : decode cX11_drag 53 = .ok (.iload_n 1, 1) := by decide +kernel
theorem dX11_drag_54 : decode cX11_drag 54 = .ok (.aload_n 0, 1) := by decide +kernel
theorem dX11_drag_55 : decode cX11_drag 55 = .ok (.getfield 40, 3) := by decide +kernel
theorem dX11_drag_58 : decode cX11_drag 58 = .ok (.getfield 227, 3) := by decide +kernel
theorem dX11_drag_61 : decode cX11_drag 61 = .ok (.iadd, 1) := by decide +kernel
theorem dX11_drag_62 : decode cX11_drag 62 = .ok (.istore 4, 2) := by decide +kernel
theorem dX11_drag_64 : decode cX11_drag 64 = .ok (.aload_n 0, 1) := by decide +kernel
theorem dX11_drag_65 : decode cX11_drag 65 = .ok (.getfield 40, 3) := by decide +kernel
theorem dX11_drag_68 : decode cX11_drag 68 = .ok (.aload_n 0, 1) := by decide +kernel
theorem dX11_drag_69 : decode cX11_drag 69 = .ok (.getfield 10, 3) := by decide +kernel
theorem dX11_drag_72 : decode cX11_drag 72 = .ok (.iconst 1, 1) := by decide +kernel
theorem dX11_drag_73 : decode cX11_drag 73 = .ok (.iload_n 2, 1) := by decide +kernel
theorem dX11_drag_74 : decode cX11_drag 74 = .ok (.invokevirtual 220, 3) := by decide +kernel
theorem dX11_drag_77 : decode cX11_drag 77 = .ok (.aload_n 0, 1) := by decide +kernel
theorem dX11_drag_78 : decode cX11_drag 78 = .ok (.getfield 40, 3) := by decide +kernel
theorem dX11_drag_81 : decode cX11_drag 81 = .ok (.getfield 224, 3) := by decide +kernel
theorem dX11_drag_84 : decode cX11_drag 84 = .ok (.istore 5, 2) := by decide +kernel
theorem dX11_drag_86 : decode cX11_drag 86 = .ok (.iload_n 2, 1) := by decide +kernel
theorem dX11_drag_87 : decode cX11_drag 87 = .ok (.aload_n 0, 1) := by decide +kernel
theorem dX11_drag_88 : decode cX11_drag 88 = .ok (.getfield 40, 3) := by decide +kernel
theorem dX11_drag_91 : decode cX11_drag 91 = .ok (.getfield 227, 3) := by decide +kernel
theorem dX11_drag_94 : decode cX11_drag 94 = .ok (.iadd, 1) := by decide +kernel
theorem dX11_drag_95 : decode cX11_drag 95 = .ok (.istore 6, 2) := by decide +kernel
theorem dX11_drag_97 : decode cX11_drag 97 = .ok (.aload_n 0, 1) := by decide +kernel
theorem dX11_drag_98 : decode cX11_drag 98 = .ok (.iload 4, 2) := by decide +kernel
theorem dX11_drag_100 : decode cX11_drag 100 = .ok (.iload 6, 2) := by decide +kernel
theorem dX11_drag_102 : decode cX11_drag 102 = .ok (.invokevirtual 210, 3) := by decide +kernel
theorem dX11_drag_105 : decode cX11_drag 105 = .ok (.ifCond .ne 6, 3) := by decide +kernel
theorem dX11_drag_108 : decode cX11_drag 108 = .ok (.bipush (-4), 2) := by decide +kernel
theorem dX11_drag_110 : decode cX11_drag 110 = .ok (.ireturn, 1) := by decide +kernel
theorem dX11_drag_111 : decode cX11_drag 111 = .ok (.aload_n 0, 1) := by decide +kernel
theorem dX11_drag_112 : decode cX11_drag 112 = .ok (.getfield 19, 3) := by decide +kernel
theorem dX11_drag_115 : decode cX11_drag 115 = .ok (.aload_n 0, 1) := by decide +kernel
theorem dX11_drag_116 : decode cX11_drag 116 = .ok (.getfield 10, 3) := by decide +kernel
theorem dX11_drag_119 : decode cX11_drag 119 = .ok (.invokevirtual 65, 3) := by decide +kernel
theorem dX11_drag_122 : decode cX11_drag 122 = .ok (.aload_n 0, 1) := by decide +kernel
theorem dX11_drag_123 : decode cX11_drag 123 = .ok (.iload 4, 2) := by decide +kernel
theorem dX11_drag_125 : decode cX11_drag 125 = .ok (.iload 6, 2) := by decide +kernel
theorem dX11_drag_127 : decode cX11_drag 127 = .ok (.invokevirtual 213, 3) := by decide +kernel
theorem dX11_drag_130 : decode cX11_drag 130 = .ok (.iload_n 3, 1) := by decide +kernel
theorem dX11_drag_131 : decode cX11_drag 131 = .ok (.bipush 10, 2) := by decide +kernel
theorem dX11_drag_133 : decode cX11_drag 133 = .ok (.iload 5, 2) := by decide +kernel
theorem dX11_drag_135 : decode cX11_drag 135 = .ok (.imul, 1) := by decide +kernel
theorem dX11_drag_136 : decode cX11_drag 136 = .ok (.iadd, 1) := by decide +kernel
theorem dX11_drag_137 : decode cX11_drag 137 = .ok (.ireturn, 1) := by decide +kernel
set_option maxRecDepth 20000 in
theorem ggX11_correction_X11_isWay : GoodIn wsX11_correction wsX11_isWay := goodIn_r _ [10, 11, 12, 9, 13] (by decide +kernel) (by decide +kernel)
set_option maxRecDepth 20000 in
theorem gX11_correction_X11_isWay : GoodIn wsX11_correction (va_wsS RX11 207 yX11_isWay wsX11_isWay) := goodIn_app (goodIn_of _ (by decide +kernel)) ggX11_correction_X11_isWay
set_option maxRecDepth 20000 in
theorem ggX11_correction_X11_isAxis : GoodIn wsX11_correction wsX11_isAxis := goodIn_r _ [16] (by decide +kernel) (by decide +kernel)
set_option maxRecDepth 20000 in
theorem gX11_correction_X11_isAxis : GoodIn wsX11_correction (va_wsS RX11 133 yX11_isAxis wsX11_isAxis) := goodIn_app (goodIn_of _ (by decide +kernel)) ggX11_correction_X11_isAxis
set_option maxRecDepth 20000 in
theorem ggX11_correction_X8_search : GoodIn wsX11_correction wsX8_search := goodIn_r _ [21, 22, 23, 24, 25, 26, 27, 28, 29, 30, 31, 32, 33, 34, 35, 36, 37, 38, 39, 40, 41, 42, 43, 44, 45, 46, 47, 48, 49, 50, 51, 9, 52, 53, 54, 55, 56, 57, 58, 59, 60, 61, 62, 63, 64, 65, 66, 67, 68, 69, 70, 71, 72, 73, 74, 75, 76, 77, 78, 79, 80, 81, 82, 83, 84, 85, 86, 87, 88, 89, 90, 91, 92, 93, 94, 95, 96, 97, 98, 20, 99, 100, 101, 102, 103, 104, 105, 106, 107, 108, 109, 110, 111, 112, 113, 114, 115, 116, 117, 118, 119, 120, 121, 122, 123, 124, 125, 131, 132, 133, 134, 135, 136, 137, 138, 139, 140, 141, 142, 143, 144, 145, 146, 147, 148, 149, 150, 151, 152, 153] (by decide +kernel) (by decide +kernel)
set_option maxRecDepth 20000 in
theorem gX11_correction_X8_search : GoodIn wsX11_correction (wsV RX11 220 RX8 yX8_search wsX8_search) := goodIn_app (goodIn_of _ (by decide +kernel)) ggX11_correction_X8_search
theorem dX11_correction_0 : decode cX11_correction 0 = .ok (.iload_n 1, 1) := by decide +kernel
theorem dX11_correction_1 : decode cX11_correction 1 = .ok (.invokestatic 207, 3) := by decide +kernel
theorem dX11_correction_4 : decode cX11_correction 4 = .ok (.ifCond .eq 30, 3) := by decide +kernel
theorem dX11_correction_7 : decode cX11_correction 7 = .ok (.iload_n 2, 1) := by decide +kernel
theorem dX11_correction_8 : decode cX11_correction 8 = .ok (.invokestatic 207, 3) := by decide +kernel
theorem dX11_correction_11 : decode cX11_correction 11 = .ok (.ifCond .eq 23, 3) := by decide +kernel
theorem dX11_correction_14 : decode cX11_correction 14 = .ok (.iload_n 3, 1) := by decide +kernel
theorem dX11_correction_15 : decode cX11_correction 15 = .ok (.invokestatic 133, 3) := by decide +kernel
theorem dX11_correction_18 : decode cX11_correction 18 = .ok (.ifCond .eq 16, 3) := by decide +kernel
theorem dX11_correction_21 : decode cX11_correction 21 = .ok (.aload_n 0, 1) := by decide +kernel
theorem dX11_correction_22 : decode cX11_correction 22 = .ok (.getfield 10, 3) := by decide +kernel
theorem dX11_correction_25 : decode cX11_correction 25 = .ok (.getfield 55, 3) := by decide +kernel
theorem dX11_correction_28 : decode cX11_correction 28 = .ok (.getfield 108, 3) := by decide +kernel
theorem dX11_correction_31 : decode cX11_correction 31 = .ok (.ifCond .ne 6, 3) := by decide +kernel
theorem dX11_correction_34 : decode cX11_correction 34 = .ok (.ldc 98, 2) := by decide +kernel
theorem dX11_correction_36 : decode cX11_correction 36 = .ok (.ireturn, 1) := by decide +kernel
theorem dX11_correction_37 : decode cX11_correction 37 = .ok (.aload_n 0, 1) := by decide +kernel
theorem dX11_correction_38 : decode cX11_correction 38 = .ok (.getfield 40, 3) := by decide +kernel
theorem dX11_correction_41 : decode cX11_correction 41 = .ok (.aload_n 0, 1) := by decide +kernel
theorem dX11_correction_42 : decode cX11_correction 42 = .ok (.getfield 10, 3) := by decide +kernel
theorem dX11_correction_45 : decode cX11_correction 45 = .ok (.iload_n 3, 1) := by decide +kernel
theorem dX11_correction_46 : decode cX11_correction 46 = .ok (.iload_n 3, 1) := by decide +kernel
theorem dX11_correction_47 : decode cX11_correction 47 = .ok (.ifCond .ne 7, 3) := by decide +kernel
theorem dX11_correction_50 : decode cX11_correction 50 = .ok (.iload_n 1, 1) := by decide +kernel
theorem dX11_correction_51 : decode cX11_correction 51 = .ok (.goto 4, 3) := by decide +kernel
theorem dX11_correction_54 : decode cX11_correction 54 = .ok (.iload_n 2, 1) := by decide +kernel
theorem dX11_correction_55 : decode cX11_correction 55 = .ok (.invokevirtual 220, 3) := by decide +kernel
theorem dX11_correction_58 : decode cX11_correction 58 = .ok (.aload_n 0, 1) := by decide +kernel
theorem dX11_correction_59 : decode cX11_correction 59 = .ok (.getfield 40, 3) := by decide +kernel
theorem dX11_correction_62 : decode cX11_correction 62 = .ok (.getfield 227, 3) := by decide +kernel
theorem dX11_correction_65 : decode cX11_correction 65 = .ok (.ireturn, 1) := by decide +kernel
set_option maxRecDepth 20000 in
theorem ggX11_align_X11_isWithin : GoodIn wsX11_align wsX11_isWithin := goodIn_r _ [9] (by decide +kernel) (by decide +kernel)
set_option maxRecDepth 20000 in
theorem gX11_align_X11_isWithin : GoodIn wsX11_align (va_wsS RX11 44 yX11_isWithin wsX11_isWithin) := goodIn_app (goodIn_of _ (by decide +kernel)) ggX11_align_X11_isWithin
set_option maxRecDepth 20000 in
theorem ggX11_align_X10_gather : GoodIn wsX11_align wsX10_gather := goodIn_r _ [14, 15, 16, 17, 18, 19, 20, 21, 22, 23, 24, 25, 8, 26, 27, 28, 29, 30, 31, 32, 33, 34, 35, 36, 37, 38, 39, 40, 41, 42, 43, 44, 45, 46, 47, 48, 49, 50, 51, 52, 53, 54, 55, 56, 57, 58, 59, 60, 61, 62, 63, 13, 64, 65, 224, 225, 226, 227, 228, 229, 230, 231, 232, 233, 234, 235, 236, 237, 238, 239, 240, 241, 242, 243] (by decide +kernel) (by decide +kernel)
set_option maxRecDepth 20000 in
theorem gX11_align_X10_gather : GoodIn wsX11_align (wsV RX11 188 RX10 yX10_gather wsX10_gather) := goodIn_app (goodIn_of _ (by decide +kernel)) ggX11_align_X10_gather
set_option maxRecDepth 20000 in
theorem ggX11_align_X10_planAlignment : GoodIn wsX11_align wsX10_planAlignment := goodIn_r _ [69, 17, 15, 70, 71, 72, 21, 73, 74, 75, 76, 77, 78, 23, 79, 80, 81, 82, 83, 19, 20, 22, 24, 25, 8, 26, 84, 85, 86, 87, 88, 89, 90, 91, 92, 93, 94, 95, 96, 97, 98, 99, 100, 101, 102, 103, 104, 105, 106, 107, 108, 109, 110, 111, 112, 113, 114, 115, 116, 13, 117, 65, 118, 119, 120, 121, 122, 231, 232, 233, 224, 225, 226, 234, 235, 236, 237, 238, 239, 240, 241] (by decide +kernel) (by decide +kernel)
set_option maxRecDepth 20000 in
theorem gX11_align_X10_planAlignment : GoodIn wsX11_align (wsV RX11 230 RX10 yX10_planAlignment wsX10_planAlignment) := goodIn_app (goodIn_of _ (by decide +kernel)) ggX11_align_X10_planAlignment
set_option maxRecDepth 20000 in
theorem ggX11_align_X10_canShift : GoodIn wsX11_align wsX10_canShift := goodIn_r _ [126, 15, 114, 115, 116, 13, 117, 65, 127, 128, 129, 130, 122, 131, 132, 133, 21, 134, 23, 83, 19, 20, 22, 24, 25, 8, 26, 84, 85, 86, 87, 88, 89, 90, 135, 136, 6, 7, 9, 224, 225, 226, 231, 232, 233, 234, 235, 236, 237, 238, 239, 240, 241] (by decide +kernel) (by decide +kernel)
set_option maxRecDepth 20000 in
theorem gX11_align_X10_canShift : GoodIn wsX11_align (wsV RX11 234 RX10 yX10_canShift wsX10_canShift) := goodIn_app (goodIn_of _ (by decide +kernel)) ggX11_align_X10_canShift
set_option maxRecDepth 20000 in
theorem ggX11_align_X5_keep : GoodIn wsX11_align wsX5_keep := goodIn_r _ [141, 142, 143, 144, 145, 146, 140, 147, 148, 149, 150, 30, 151, 55, 152, 32, 153, 154, 155, 156, 21, 157, 23, 158, 159, 160, 161, 162, 87, 163, 164, 165, 89, 90, 108, 109, 166, 167, 168, 169, 170, 171, 172, 173, 174, 175, 176, 177, 178, 179, 180, 181, 182, 183, 184, 185, 186, 187, 38, 188, 46, 47, 48, 49, 50, 41, 42, 43, 44, 45, 40, 189, 190, 191, 192, 193, 194, 195, 196, 197, 198, 199, 200, 201, 202, 203, 204, 205, 206, 244, 245, 227, 228, 229, 230, 231, 232, 233, 234, 235, 236, 237, 238, 239, 240, 241, 246, 247, 248, 249, 250, 251, 252, 242, 243, 253, 254, 255, 256, 257] (by decide +kernel) (by decide +kernel)
set_option maxRecDepth 20000 in
theorem gX11_align_X5_keep : GoodIn wsX11_align (wsV RX11 65 RX5 yX5_keep wsX5_keep) := goodIn_app (goodIn_of _ (by decide +kernel)) ggX11_align_X5_keep
set_option maxRecDepth 20000 in
theorem ggX11_align_X10_shift : GoodIn wsX11_align wsX10_shift := goodIn_r _ [210, 15, 127, 128, 129, 13, 130, 122, 114, 115, 116, 117, 65, 211, 212, 213, 21, 214, 23, 83, 19, 20, 22, 24, 25, 8, 26, 215, 216, 217, 87, 218, 89, 90, 224, 225, 226, 231, 232, 233, 234, 235, 236, 237, 238, 239, 240, 241] (by decide +kernel) (by decide +kernel)
set_option maxRecDepth 20000 in
theorem gX11_align_X10_shift : GoodIn wsX11_align (wsV RX11 238 RX10 yX10_shift wsX10_shift) := goodIn_app (goodIn_of _ (by decide +kernel)) ggX11_align_X10_shift
theorem dX11_align_0 : decode cX11_align 0 = .ok (.iload_n 1, 1) := by decide +kernel
theorem dX11_align_1 : decode cX11_align 1 = .ok (.iconst 0, 1) := by decide +kernel
theorem dX11_align_2 : decode cX11_align 2 = .ok (.iconst 5, 1) := by decide +kernel
theorem dX11_align_3 : decode cX11_align 3 = .ok (.invokestatic 44, 3) := by decide +kernel
theorem dX11_align_6 : decode cX11_align 6 = .ok (.ifCond .ne 5, 3) := by decide +kernel
theorem dX11_align_9 : decode cX11_align 9 = .ok (.iconst (-1), 1) := by decide +kernel
theorem dX11_align_10 : decode cX11_align 10 = .ok (.ireturn, 1) := by decide +kernel
theorem dX11_align_11 : decode cX11_align 11 = .ok (.aload_n 0, 1) := by decide +kernel
theorem dX11_align_12 : decode cX11_align 12 = .ok (.getfield 33, 3) := by decide +kernel
theorem dX11_align_15 : decode cX11_align 15 = .ok (.aload_n 0, 1) := by decide +kernel
theorem dX11_align_16 : decode cX11_align 16 = .ok (.getfield 10, 3) := by decide +kernel
theorem dX11_align_19 : decode cX11_align 19 = .ok (.invokevirtual 188, 3) := by decide +kernel
theorem dX11_align_22 : decode cX11_align 22 = .ok (.aload_n 0, 1) := by decide +kernel
theorem dX11_align_23 : decode cX11_align 23 = .ok (.getfield 33, 3) := by decide +kernel
theorem dX11_align_26 : decode cX11_align 26 = .ok (.getfield 191, 3) := by decide +kernel
theorem dX11_align_29 : decode cX11_align 29 = .ok (.iconst 2, 1) := by decide +kernel
theorem dX11_align_30 : decode cX11_align 30 = .ok (.if_icmp .ge 6, 3) := by decide +kernel
theorem dX11_align_33 : decode cX11_align 33 = .ok (.bipush (-2), 2) := by decide +kernel
