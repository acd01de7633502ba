def f_X10_sortAlong_L39 (T : zT) (N : Nat) (a0 : Nat) (a1 : Nat) (x2 : Int32) (x5 : Int32) (k2 : Int32 → zS → Option zS) (x11 : Int32) (x13 : Int32) (k39 : Int32 → zS → Option zS) (x14 : Int32) (s15 : zS) : Option zS :=
  if x14 ≤ 0 then (
    (gR T s15 a0 10 0).bind fun a16 =>
    (sI T s15 a16 x14 x11).bind fun s17 =>
    zn (x5 + (1 : Int32)) fun x18 =>
    k2 x18 s17)
  else (
    (gR T s15 a0 10 0).bind fun a19 =>
    (aI T s15 a19 13 (x14 - (1 : Int32))).bind fun x20 =>
    zb2 (f_X7_low T N s15 a1 x20 x2) fun x22 s21 =>
    if x22 ≤ x13 then (
      (gR T s21 a0 10 0).bind fun a23 =>
      (sI T s21 a23 x14 x11).bind fun s24 =>
      zn (x5 + (1 : Int32)) fun x25 =>
      k2 x25 s24)
    else (
      (gR T s21 a0 10 0).bind fun a26 =>
      (gR T s21 a0 10 0).bind fun a27 =>
      (aI T s21 a27 13 (x14 - (1 : Int32))).bind fun x28 =>
      (sI T s21 a26 x14 x28).bind fun s29 =>
      zn (x14 + (-1 : Int32)) fun x30 =>
      k39 x30 s29))
def f_X10_sortAlong_L2 (T : zT) (N : Nat) (a0 : Nat) (a1 : Nat) (x2 : Int32) (k2 : Int32 → zS → Option zS) (x5 : Int32) (s6 : zS) : Option zS :=
  (gI T s6 a0 10 2).bind fun x7 =>
  if x7 ≤ x5 then (
    some s6)
  else (
    (gR T s6 a0 10 0).bind fun a8 =>
    (aL T a8 13).bind fun x9 =>
    if x9 ≤ x5 then (
      some s6)
    else (
      (gR T s6 a0 10 0).bind fun a10 =>
      (aI T s6 a10 13 x5).bind fun x11 =>
      zb2 (f_X7_low T N s6 a1 x11 x2) fun x13 s12 =>
      zl2 (f_X10_sortAlong_L39 T N a0 a1 x2 x5 k2 x11 x13) N x5 s12))
def f_X10_sortAlong (T : zT) (N : Nat) (s0 : zS) (a0 : Nat) (a1 : Nat) (x2 : Int32) : Option zS :=
  zz1 (T.1 a0 = 10) <|
  zl2 (f_X10_sortAlong_L2 T N a0 a1 x2) N (1 : Int32) s0
theorem k_X10_sortAlong (T : zT) (N : Nat) (s0 : zS) (a0 : Nat) (a1 : Nat) (x2 : Int32) : ∀ q, f_X10_sortAlong T N s0 a0 a1 x2 = some q → T.1 a0 = 10 := by
  intro q h
  unfold f_X10_sortAlong at h
  exact zz_guard h (fun h _ => h)
set_option maxHeartbeats 4000000 in
set_option maxRecDepth 100000 in
theorem c_X10_sortAlong (l : Launch) (D : va_G) (cy : Nat → ClassId) (T : zT) (hT : zok T) (ad : Nat → Nat) (N : Nat) (s0 : zS) (sz : Nat) (a0 : Nat) (a1 : Nat) (x2 : Int32) : ∀ (σ0 : zS), f_X10_sortAlong T N s0 a0 a1 x2 = some σ0 → Met l yX10_sortAlong wsX10_sortAlong ({ frames := 2, cells := 0, slots := 0, locals := 49 }) (va_Pc [.ref (ad a0), .ref (ad a1), .int x2] (zPre D cy T ad s0 sz)) (va_Qv (fun σ2 : zS => σ2 = σ0) (zAt D cy T ad (zA T ad sz)) (zA T ad sz)) 0 0 (zA T ad sz) := by
  intro σ0 hq
  refine Met.ofW (cc := cX10_sortAlong) (maxL := 7) (ret := none) (by decide) rfl ?_
  intro p e s m args below meth c s₁ B hml hv
  obtain ⟨hargs, hsz, hP, hK, hD0, hN⟩ := hv
  have hx := B.exec
  have hb := B.bytes
  have hr := B.returns
  have hts := atoms_spec (ws := wsX10_sortAlong) B.pre
  have hown : s.vm.findClass RX10 = some m.cls := findClass_of_methodNamed B.named
  have hlocks := B.notSynchronized
  have S : CallFix p m c cX10_sortAlong 7 s args wsX10_sortAlong RX10 := ⟨hx, hb, hml, hown, hts⟩
  subst hsz
  have hB : zB D cy T ad (zA T ad s.heap.size) s.heap s0 s.heap [] s := zz_entry hP hK hD0 hN
  obtain ⟨ls, hent, hl⟩ := zz_ent m hargs (n := 7) (Nat.le_of_ble_eq_true rfl)
  rw [hent]
  have hl : lv_has ls 7 [(0, .ref (ad a0)), (1, .ref (ad a1)), (2, .int x2)] := hl
  have iwX10 : ∀ w ∈ u_ws RX10 TX10 3, w ∈ wsX10_sortAlong := fun w h => wS (inWX10 w h)
  unfold f_X10_sortAlong at hq
  refine zz_guard hq (fun hk0 hq => ?_)
  refine lv_iconst (v := 1) hx hb dX10_sortAlong_0 (by decide) ?_
  refine lv_istore_n (lv' := [(3, .int (1 : Int32)), (0, .ref (ad a0)), (1, .ref (ad a1)), (2, .int x2)]) hx hb dX10_sortAlong_1 rfl hl (by decide) rfl (fun ls hl => ?_)
  have L2 : ∀ (n : Nat) (x5 : Int32) (s6 : zS) (H : Heap) (locs : List Loc) (ls : Array Slot), zl2 (f_X10_sortAlong_L2 T N a0 a1 x2) n x5 s6 = some σ0 → zB D cy T ad (zA T ad s.heap.size) s.heap s6 H locs s → lv_has ls 7 [(0, .ref (ad a0)), (1, .ref (ad a1)), (2, .int x2), (3, .int x5)] → W p l e (headSpec wsX10_sortAlong ({ frames := 2, cells := 0, slots := 0, locals := 49 } : Room)).room s m args below meth c H locs 0 0 (MQ below (va_Qv (fun σ2 : zS => σ2 = σ0) (zAt D cy T ad (zA T ad s.heap.size)) (zA T ad s.heap.size)) args s 0 0 (zA T ad s.heap.size)) (F0 m 2 ls []) := by
    intro n
    induction n with
    | zero => intro x5 s6 H locs ls hq; exact zz_none hq
    | succ n ih2 =>
      intro x5 s6 H locs ls hq hB hl
      rw [zl2] at hq
      generalize zl2 (f_X10_sortAlong_L2 T N a0 a1 x2) n = k2 at ih2 hq
      unfold f_X10_sortAlong_L2 at hq
      refine lv_iload_n hx hb dX10_sortAlong_2 rfl (lv_at hl 3 rfl) ?_
      refine lv_aload_n hx hb dX10_sortAlong_3 rfl (lv_at hl 0 rfl) ?_
      refine zz_get S hT hB (C := RX10) (ref := "DiagramDesk$Units") (F := TX10) (N := 3) (index := 18) 10 2 iwX10 rfl (by decide) (by decide) rfl rfl (wS wd_341) (fun _ h9 => h9) dX10_sortAlong_4 hq (fun x7 hq => ?_)
      refine zz_icmp_ge (tgt := 100) hx hb dX10_sortAlong_7 (by decide) hq (fun hq => ?_) (fun hq => ?_)
      · exact zz_vret S hB hr hlocks dX10_sortAlong_100 hq
      · refine lv_iload_n hx hb dX10_sortAlong_10 rfl (lv_at hl 3 rfl) ?_
        refine lv_aload_n hx hb dX10_sortAlong_11 rfl (lv_at hl 0 rfl) ?_
        refine zz_getR S hT hB (C := RX10) (ref := "DiagramDesk$Units") (F := TX10) (N := 3) (index := 9) 10 0 iwX10 rfl (by decide) (by decide) rfl rfl (wS wd_342) (fun _ h9 => h9) dX10_sortAlong_12 hq (fun a8 hq => ?_)
        refine zz_alen S hT hB 13 (by decide) (by decide) dX10_sortAlong_15 hq (fun x9 hq => ?_)
        refine zz_icmp_ge (tgt := 100) hx hb dX10_sortAlong_16 (by decide) hq (fun hq => ?_) (fun hq => ?_)
        · exact zz_vret S hB hr hlocks dX10_sortAlong_100 hq
        · refine lv_aload_n hx hb dX10_sortAlong_19 rfl (lv_at hl 0 rfl) ?_
          refine zz_getR S hT hB (C := RX10) (ref := "DiagramDesk$Units") (F := TX10) (N := 3) (index := 9) 10 0 iwX10 rfl (by decide) (by decide) rfl rfl (wS wd_342) (fun _ h9 => h9) dX10_sortAlong_20 hq (fun a10 hq => ?_)
          refine lv_iload_n hx hb dX10_sortAlong_23 rfl (lv_at hl 3 rfl) ?_
          refine zz_ald S hT hB dX10_sortAlong_24 hq (fun x11 hq => ?_)
          refine lv_istore (lv' := [(4, .int x11), (0, .ref (ad a0)), (1, .ref (ad a1)), (2, .int x2), (3, .int x5)]) hx hb dX10_sortAlong_25 hl (by decide) rfl (fun ls hl => ?_)
          refine lv_aload_n hx hb dX10_sortAlong_27 rfl (lv_at hl 2 rfl) ?_
          refine lv_iload hx hb dX10_sortAlong_28 (lv_at hl 0 rfl) ?_
          refine lv_iload_n hx hb dX10_sortAlong_30 rfl (lv_at hl 3 rfl) ?_
          refine zz_callVi S hT hB (As := [.int x11, .int x2]) (b := a1) (o := f_X7_low T N s6 a1 x11 x2) (c_X7_low l D cy T hT ad N s6 _ a1 x11 x2) (cwV 2 hts (gV wSub wd_361 wd_245 wd_246 wd_35 wd_247) rfl rfl rfl (by decide +kernel) ⟨Nat.le_of_ble_eq_true rfl, Nat.le_of_ble_eq_true rfl⟩) (F := TX7) (NF := 3) 7 rfl (by decide) (k_X7_low T N s6 a1 x11 x2) rfl hl.1 rfl (Nat.le_of_ble_eq_true rfl) dX10_sortAlong_31 hq (fun x13 s12 H locs hq hB => ?_)
          refine lv_istore (lv' := [(5, .int x13), (4, .int x11), (0, .ref (ad a0)), (1, .ref (ad a1)), (2, .int x2), (3, .int x5)]) hx hb dX10_sortAlong_34 hl (by decide) rfl (fun ls hl => ?_)
          refine lv_iload_n hx hb dX10_sortAlong_36 rfl (lv_at hl 5 rfl) ?_
          refine lv_istore (lv' := [(6, .int x5), (5, .int x13), (4, .int x11), (0, .ref (ad a0)), (1, .ref (ad a1)), (2, .int x2), (3, .int x5)]) hx hb dX10_sortAlong_37 hl (by decide) rfl (fun ls hl => ?_)
          have L39 : ∀ (n : Nat) (x14 : Int32) (s15 : zS) (H : Heap) (locs : List Loc) (ls : Array Slot), zl2 (f_X10_sortAlong_L39 T N a0 a1 x2 x5 k2 x11 x13) n x14 s15 = some σ0 → zB D cy T ad (zA T ad s.heap.size) s.heap s15 H locs s → lv_has ls 7 [(0, .ref (ad a0)), (1, .ref (ad a1)), (2, .int x2), (3, .int x5), (4, .int x11), (5, .int x13), (6, .int x14)] → W p l e (headSpec wsX10_sortAlong ({ frames := 2, cells := 0, slots := 0, locals := 49 } : Room)).room s m args below meth c H locs 0 0 (MQ below (va_Qv (fun σ2 : zS => σ2 = σ0) (zAt D cy T ad (zA T ad s.heap.size)) (zA T ad s.heap.size)) args s 0 0 (zA T ad s.heap.size)) (F0 m 39 ls []) := by
            intro n
            induction n with
            | zero => intro x14 s15 H locs ls hq; exact zz_none hq
            | succ n ih39 =>
              intro x14 s15 H locs ls hq hB hl
              rw [zl2] at hq
              generalize zl2 (f_X10_sortAlong_L39 T N a0 a1 x2 x5 k2 x11 x13) n = k39 at ih39 hq
              unfold f_X10_sortAlong_L39 at hq
              refine lv_iload hx hb dX10_sortAlong_39 (lv_at hl 6 rfl) ?_
              refine zz_if_le (tgt := 85) hx hb dX10_sortAlong_41 (by decide) hq (fun hq => ?_) (fun hq => ?_)
              · refine lv_aload_n hx hb dX10_sortAlong_85 rfl (lv_at hl 0 rfl) ?_
                refine zz_getR S hT hB (C := RX10) (ref := "DiagramDesk$Units") (F := TX10) (N := 3) (index := 9) 10 0 iwX10 rfl (by decide) (by decide) rfl rfl (wS wd_342) (fun _ h9 => h9) dX10_sortAlong_86 hq (fun a16 hq => ?_)
                refine lv_iload hx hb dX10_sortAlong_89 (lv_at hl 6 rfl) ?_
                refine lv_iload hx hb dX10_sortAlong_91 (lv_at hl 4 rfl) ?_
                refine zz_ast S hT hB dX10_sortAlong_93 hq (fun s17 H locs hq hB => ?_)
                refine zz_nmV hq (fun x18 ex18 hq => ?_)
                refine lv_iinc (v := x18) (lv' := [(3, .int x18), (0, .ref (ad a0)), (1, .ref (ad a1)), (2, .int x2), (4, .int x11), (5, .int x13), (6, .int x14)]) hx hb dX10_sortAlong_94 hl (k := 3) rfl (by rw [ex18]; rfl) (by decide) rfl (fun ls hl => ?_)
                refine lv_goto (tgt := 2) hx hb dX10_sortAlong_97 (by decide) ?_
                exact ih2 x18 s17 _ _ _ hq hB (lv_sub hl [1, 2, 3, 0] rfl)
              · refine lv_aload_n hx hb dX10_sortAlong_44 rfl (lv_at hl 1 rfl) ?_
                refine lv_aload_n hx hb dX10_sortAlong_45 rfl (lv_at hl 0 rfl) ?_
                refine zz_getR S hT hB (C := RX10) (ref := "DiagramDesk$Units") (F := TX10) (N := 3) (index := 9) 10 0 iwX10 rfl (by decide) (by decide) rfl rfl (wS wd_342) (fun _ h9 => h9) dX10_sortAlong_46 hq (fun a19 hq => ?_)
                refine lv_iload hx hb dX10_sortAlong_49 (lv_at hl 6 rfl) ?_
                refine lv_iconst (v := 1) hx hb dX10_sortAlong_51 (by decide) ?_
                refine lv_isub hx hb dX10_sortAlong_52 ?_
                refine zz_ald S hT hB dX10_sortAlong_53 hq (fun x20 hq => ?_)
                refine lv_iload_n hx hb dX10_sortAlong_54 rfl (lv_at hl 2 rfl) ?_
                refine zz_callVi S hT hB (As := [.int x20, .int x2]) (b := a1) (o := f_X7_low T N s15 a1 x20 x2) (c_X7_low l D cy T hT ad N s15 _ a1 x20 x2) (cwV 2 hts (gV wSub wd_361 wd_245 wd_246 wd_35 wd_247) rfl rfl rfl (by decide +kernel) ⟨Nat.le_of_ble_eq_true rfl, Nat.le_of_ble_eq_true rfl⟩) (F := TX7) (NF := 3) 7 rfl (by decide) (k_X7_low T N s15 a1 x20 x2) rfl hl.1 rfl (Nat.le_of_ble_eq_true rfl) dX10_sortAlong_55 hq (fun x22 s21 H locs hq hB => ?_)
                refine lv_iload hx hb dX10_sortAlong_58 (lv_at hl 5 rfl) ?_
                refine zz_icmp_le (tgt := 85) hx hb dX10_sortAlong_60 (by decide) hq (fun hq => ?_) (fun hq => ?_)
                · refine lv_aload_n hx hb dX10_sortAlong_85 rfl (lv_at hl 0 rfl) ?_
                  refine zz_getR S hT hB (C := RX10) (ref := "DiagramDesk$Units") (F := TX10) (N := 3) (index := 9) 10 0 iwX10 rfl (by decide) (by decide) rfl rfl (wS wd_342) (fun _ h9 => h9) dX10_sortAlong_86 hq (fun a23 hq => ?_)
                  refine lv_iload hx hb dX10_sortAlong_89 (lv_at hl 6 rfl) ?_
                  refine lv_iload hx hb dX10_sortAlong_91 (lv_at hl 4 rfl) ?_
                  refine zz_ast S hT hB dX10_sortAlong_93 hq (fun s24 H locs hq hB => ?_)
                  refine zz_nmV hq (fun x25 ex25 hq => ?_)
                  refine lv_iinc (v := x25) (lv' := [(3, .int x25), (0, .ref (ad a0)), (1, .ref (ad a1)), (2, .int x2), (4, .int x11), (5, .int x13), (6, .int x14)]) hx hb dX10_sortAlong_94 hl (k := 3) rfl (by rw [ex25]; rfl) (by decide) rfl (fun ls hl => ?_)
                  refine lv_goto (tgt := 2) hx hb dX10_sortAlong_97 (by decide) ?_
                  exact ih2 x25 s24 _ _ _ hq hB (lv_sub hl [1, 2, 3, 0] rfl)
                · refine lv_aload_n hx hb dX10_sortAlong_63 rfl (lv_at hl 0 rfl) ?_
                  refine zz_getR S hT hB (C := RX10) (ref := "DiagramDesk$Units") (F := TX10) (N := 3) (index := 9) 10 0 iwX10 rfl (by decide) (by decide) rfl rfl (wS wd_342) (fun _ h9 => h9) dX10_sortAlong_64 hq (fun a26 hq => ?_)
                  refine lv_iload hx hb dX10_sortAlong_67 (lv_at hl 6 rfl) ?_
                  refine lv_aload_n hx hb dX10_sortAlong_69 rfl (lv_at hl 0 rfl) ?_
                  refine zz_getR S hT hB (C := RX10) (ref := "DiagramDesk$Units") (F := TX10) (N := 3) (index := 9) 10 0 iwX10 rfl (by decide) (by decide) rfl rfl (wS wd_342) (fun _ h9 => h9) dX10_sortAlong_70 hq (fun a27 hq => ?_)
                  refine lv_iload hx hb dX10_sortAlong_73 (lv_at hl 6 rfl) ?_
                  refine lv_iconst (v := 1) hx hb dX10_sortAlong_75 (by decide) ?_
                  refine lv_isub hx hb dX10_sortAlong_76 ?_
                  refine zz_ald S hT hB dX10_sortAlong_77 hq (fun x28 hq => ?_)
                  refine zz_ast S hT hB dX10_sortAlong_78 hq (fun s29 H locs hq hB => ?_)
                  refine zz_nmV hq (fun x30 ex30 hq => ?_)
                  refine lv_iinc (v := x30) (lv' := [(6, .int x30), (0, .ref (ad a0)), (1, .ref (ad a1)), (2, .int x2), (3, .int x5), (4, .int x11), (5, .int x13)]) hx hb dX10_sortAlong_79 hl (k := 6) rfl (by rw [ex30]; rfl) (by decide) rfl (fun ls hl => ?_)
                  refine lv_goto (tgt := 39) hx hb dX10_sortAlong_82 (by decide) ?_
                  exact ih39 x30 s29 _ _ _ hq hB (lv_sub hl [1, 2, 3, 4, 5, 6, 0] rfl)
          exact L39 N x5 s12 _ _ _ hq hB (lv_sub hl [3, 4, 5, 6, 2, 1, 0] rfl)
  exact L2 N (1 : Int32) s0 _ _ _ hq hB (lv_sub hl [1, 2, 3, 0] rfl)
def f_X10_planDistribution_J147 (T : zT) (N : Nat) (a0 : Nat) (a1 : Nat) (x2 : Int32) (x30 : Int32) (x31 : Int32) (s32 : zS) (k123 : Int32 → Int32 → zS → Option (Int32 × zS)) (x33 : Int32) : Option (Int32 × zS) :=
  zn (x30 + x33) fun x34 =>
  zb2 (f_X10_setOf T N s32 a0 x31) fun x36 s35 =>
  zb2 (f_X7_low T N s35 a1 x36 x2) fun x38 s37 =>
  (f_X10_putWay T N s37 a0 x31 (x34 - x38)).bind fun s39 =>
  zb2 (f_X10_sizeOf T N s39 a0 a1 x31 x2) fun x41 s40 =>
  zn (x34 + x41) fun x42 =>
  zn (x31 + (1 : Int32)) fun x43 =>
  k123 x42 x43 s40
def f_X10_planDistribution_L123 (T : zT) (N : Nat) (a0 : Nat) (a1 : Nat) (x2 : Int32) (x7 : Int32) (x17 : Int32) (x20 : Int32) (x22 : Int32) (k123 : Int32 → Int32 → zS → Option (Int32 × zS)) (x30 : Int32) (x31 : Int32) (s32 : zS) : Option (Int32 × zS) :=
  if x7 ≤ x31 then (
    some (x17, s32))
  else (
    if x22 < x31 then (
      f_X10_planDistribution_J147 T N a0 a1 x2 x30 x31 s32 k123 x20)
    else (
      f_X10_planDistribution_J147 T N a0 a1 x2 x30 x31 s32 k123 (x20 + (1 : Int32))))
def f_X10_planDistribution_J94 (T : zT) (N : Nat) (a0 : Nat) (a1 : Nat) (x2 : Int32) (x7 : Int32) (x17 : Int32) (x20 : Int32) (x22 : Int32) (s23 : zS) : Option (Int32 × zS) :=
  zb2 (f_X10_setOf T N s23 a0 (0 : Int32)) fun x25 s24 =>
  zb2 (f_X7_high T N s24 a1 x25 x2) fun x27 s26 =>
  (f_X10_putWay T N s26 a0 (0 : Int32) (0 : Int32)).bind fun s28 =>
  (f_X10_putWay T N s28 a0 x7 (0 : Int32)).bind fun s29 =>
  zl3 (f_X10_planDistribution_L123 T N a0 a1 x2 x7 x17 x20 x22) N x27 (1 : Int32) s29
def f_X10_planDistribution_J78 (T : zT) (N : Nat) (a0 : Nat) (a1 : Nat) (x2 : Int32) (x7 : Int32) (x17 : Int32) (x20 : Int32) (s21 : zS) : Option (Int32 × zS) :=
  if x7 ≤ 0 then (
    f_X10_planDistribution_J94 T N a0 a1 x2 x7 x17 x20 (0 : Int32) s21)
  else (
    zb2 (f_J9_floorMod_7cf53 T N s21 x17 x7) fun x45 s44 =>
    f_X10_planDistribution_J94 T N a0 a1 x2 x7 x17 x20 x45 s44)
def f_X10_planDistribution_L39 (T : zT) (N : Nat) (a0 : Nat) (a1 : Nat) (x2 : Int32) (x7 : Int32) (k39 : Int32 → Int32 → zS → Option (Int32 × zS)) (x17 : Int32) (x18 : Int32) (s19 : zS) : Option (Int32 × zS) :=
  if x7 ≤ x18 then (
    if x7 ≤ 0 then (
      f_X10_planDistribution_J78 T N a0 a1 x2 x7 x17 (0 : Int32) s19)
    else (
      zb2 (f_J9_floorDiv_7cf53 T N s19 x17 x7) fun x47 s46 =>
      f_X10_planDistribution_J78 T N a0 a1 x2 x7 x17 x47 s46))
  else (
    zb2 (f_X10_sizeOf T N s19 a0 a1 x18 x2) fun x49 s48 =>
    zn (x17 - x49) fun x50 =>
    zn (x18 + (1 : Int32)) fun x51 =>
    k39 x50 x51 s48)
def f_X10_planDistribution (T : zT) (N : Nat) (s0 : zS) (a0 : Nat) (a1 : Nat) (x2 : Int32) : Option (Int32 × zS) :=
  zz1 (T.1 a0 = 10) <|
  (f_X10_sortAlong T N s0 a0 a1 x2).bind fun s5 =>
  (gI T s5 a0 10 2).bind fun x6 =>
  zn (x6 - (1 : Int32)) fun x7 =>
  zb2 (f_X10_setOf T N s5 a0 x7) fun x9 s8 =>
  zb2 (f_X7_low T N s8 a1 x9 x2) fun x11 s10 =>
  zb2 (f_X10_setOf T N s10 a0 (0 : Int32)) fun x13 s12 =>
  zb2 (f_X7_high T N s12 a1 x13 x2) fun x15 s14 =>
  zn (x11 - x15) fun x16 =>
  zl3 (f_X10_planDistribution_L39 T N a0 a1 x2 x7) N x16 (1 : Int32) s14
theorem k_X10_planDistribution (T : zT) (N : Nat) (s0 : zS) (a0 : Nat) (a1 : Nat) (x2 : Int32) : ∀ q, f_X10_planDistribution T N s0 a0 a1 x2 = some q → T.1 a0 = 10 := by
  intro q h
  unfold f_X10_planDistribution at h
  exact zz_guard h (fun h _ => h)
set_option maxHeartbeats 4000000 in
set_option maxRecDepth 100000 in
theorem c_X10_planDistribution (l : Launch) (D : va_G) (cy : Nat → ClassId) (T : zT) (hT : zok T) (ad : Nat → Nat) (N : Nat) (s0 : zS) (sz : Nat) (a0 : Nat) (a1 : Nat) (x2 : Int32) : ∀ (r0 : Int32) (σ0 : zS), f_X10_planDistribution T N s0 a0 a1 x2 = some (r0, σ0) → Met l yX10_planDistribution wsX10_planDistribution ({ frames := 4, cells := 0, slots := 0, locals := 90 }) (va_Pc [.ref (ad a0), .ref (ad a1), .int x2] (zPre D cy T ad s0 sz)) (va_Qi (fun (r2 : Int32) (σ2 : zS) => r2 = r0 ∧ σ2 = σ0) (zAt D cy T ad (zA T ad sz)) (zA T ad sz)) 0 0 (zA T ad sz) := by
  intro r0 σ0 hq
  refine Met.ofW (cc := cX10_planDistribution) (maxL := 9) (ret := (some .int)) (by decide) rfl ?_
  intro p e s m args below meth c s₁ B hml hv
  obtain ⟨hargs, hsz, hP, hK, hD0, hN⟩ := hv
  have hx := B.exec
  have hb := B.bytes
  have hr := B.returns
  have hts := atoms_spec (ws := wsX10_planDistribution) B.pre
  have hown : s.vm.findClass RX10 = some m.cls := findClass_of_methodNamed B.named
  have hlocks := B.notSynchronized
  have S : CallFix p m c cX10_planDistribution 9 s args wsX10_planDistribution RX10 := ⟨hx, hb, hml, hown, hts⟩
  subst hsz
  have hB : zB D cy T ad (zA T ad s.heap.size) s.heap s0 s.heap [] s := zz_entry hP hK hD0 hN
  obtain ⟨ls, hent, hl⟩ := zz_ent m hargs (n := 9) (Nat.le_of_ble_eq_true rfl)
  rw [hent]
  have hl : lv_has ls 9 [(0, .ref (ad a0)), (1, .ref (ad a1)), (2, .int x2)] := hl
  have iwX10 : ∀ w ∈ u_ws RX10 TX10 3, w ∈ wsX10_planDistribution := fun w h => wS (inWX10 w h)
  unfold f_X10_planDistribution at hq
  refine zz_guard hq (fun hk0 hq => ?_)
  refine lv_aload_n hx hb dX10_planDistribution_0 rfl (lv_at hl 0 rfl) ?_
  refine lv_aload_n hx hb dX10_planDistribution_1 rfl (lv_at hl 1 rfl) ?_
  refine lv_iload_n hx hb dX10_planDistribution_2 rfl (lv_at hl 2 rfl) ?_
  refine zz_callVv S hT hB (As := [.ref (ad a1), .int x2]) (b := a0) (o := f_X10_sortAlong T N s0 a0 a1 x2) (c_X10_sortAlong l D cy T hT ad N s0 _ a0 a1 x2) (cwV 2 hts (gV wSub wd_367 wd_368 wd_369 wd_353 wd_370) rfl rfl rfl (by decide +kernel) ⟨Nat.le_of_ble_eq_true rfl, Nat.le_of_ble_eq_true rfl⟩) (F := TX10) (NF := 3) 10 rfl (by decide) (k_X10_sortAlong T N s0 a0 a1 x2) rfl hl.1 rfl (Nat.le_of_ble_eq_true rfl) dX10_planDistribution_3 hq (fun s5 H locs hq hB => ?_)
  refine lv_aload_n hx hb dX10_planDistribution_6 rfl (lv_at hl 0 rfl) ?_
  refine zz_get S hT hB (C := RX10) (ref := "DiagramDesk$Units") (F := TX10) (N := 3) (index := 18) 10 2 iwX10 rfl (by decide) (by decide) rfl rfl (wS wd_341) (fun _ h9 => h9) dX10_planDistribution_7 hq (fun x6 hq => ?_)
  refine lv_iconst (v := 1) hx hb dX10_planDistribution_10 (by decide) ?_
  refine lv_isub hx hb dX10_planDistribution_11 ?_
  refine zz_nmI hq (fun x7 hq => ?_)
  refine lv_istore_n (lv' := [(3, .int x7), (0, .ref (ad a0)), (1, .ref (ad a1)), (2, .int x2)]) hx hb dX10_planDistribution_12 rfl hl (by decide) rfl (fun ls hl => ?_)
  refine lv_aload_n hx hb dX10_planDistribution_13 rfl (lv_at hl 2 rfl) ?_
  refine lv_aload_n hx hb dX10_planDistribution_14 rfl (lv_at hl 1 rfl) ?_
  refine lv_iload_n hx hb dX10_planDistribution_15 rfl (lv_at hl 0 rfl) ?_
  refine zz_callVi S hT hB (As := [.int x7]) (b := a0) (o := f_X10_setOf T N s5 a0 x7) (c_X10_setOf l D cy T hT ad N s5 _ a0 x7) (cwV 1 hts (gV wSub wd_356 wd_357 wd_358 wd_353 wd_359) rfl rfl rfl (by decide +kernel) ⟨Nat.le_of_ble_eq_true rfl, Nat.le_of_ble_eq_true rfl⟩) (F := TX10) (NF := 3) 10 rfl (by decide) (k_X10_setOf T N s5 a0 x7) rfl hl.1 rfl (Nat.le_of_ble_eq_true rfl) dX10_planDistribution_16 hq (fun x9 s8 H locs hq hB => ?_)
  refine lv_iload_n hx hb dX10_planDistribution_19 rfl (lv_at hl 3 rfl) ?_
  refine zz_callVi S hT hB (As := [.int x9, .int x2]) (b := a1) (o := f_X7_low T N s8 a1 x9 x2) (c_X7_low l D cy T hT ad N s8 _ a1 x9 x2) (cwV 2 hts (gV wSub wd_361 wd_245 wd_246 wd_35 wd_247) rfl rfl rfl (by decide +kernel) ⟨Nat.le_of_ble_eq_true rfl, Nat.le_of_ble_eq_true rfl⟩) (F := TX7) (NF := 3) 7 rfl (by decide) (k_X7_low T N s8 a1 x9 x2) rfl hl.1 rfl (Nat.le_of_ble_eq_true rfl) dX10_planDistribution_20 hq (fun x11 s10 H locs hq hB => ?_)
  refine lv_aload_n hx hb dX10_planDistribution_23 rfl (lv_at hl 2 rfl) ?_
  refine lv_aload_n hx hb dX10_planDistribution_24 rfl (lv_at hl 1 rfl) ?_
  refine lv_iconst (v := 0) hx hb dX10_planDistribution_25 (by decide) ?_
  refine zz_callVi S hT hB (As := [.int (0 : Int32)]) (b := a0) (o := f_X10_setOf T N s10 a0 (0 : Int32)) (c_X10_setOf l D cy T hT ad N s10 _ a0 (0 : Int32)) (cwV 1 hts (gV wSub wd_356 wd_357 wd_358 wd_353 wd_359) rfl rfl rfl (by decide +kernel) ⟨Nat.le_of_ble_eq_true rfl, Nat.le_of_ble_eq_true rfl⟩) (F := TX10) (NF := 3) 10 rfl (by decide) (k_X10_setOf T N s10 a0 (0 : Int32)) rfl hl.1 rfl (Nat.le_of_ble_eq_true rfl) dX10_planDistribution_26 hq (fun x13 s12 H locs hq hB => ?_)
  refine lv_iload_n hx hb dX10_planDistribution_29 rfl (lv_at hl 3 rfl) ?_
  refine zz_callVi S hT hB (As := [.int x13, .int x2]) (b := a1) (o := f_X7_high T N s12 a1 x13 x2) (c_X7_high l D cy T hT ad N s12 _ a1 x13 x2) (cwV 2 hts (gV wSub wd_360 wd_249 wd_250 wd_35 wd_251) rfl rfl rfl (by decide +kernel) ⟨Nat.le_of_ble_eq_true rfl, Nat.le_of_ble_eq_true rfl⟩) (F := TX7) (NF := 3) 7 rfl (by decide) (k_X7_high T N s12 a1 x13 x2) rfl hl.1 rfl (Nat.le_of_ble_eq_true rfl) dX10_planDistribution_30 hq (fun x15 s14 H locs hq hB => ?_)
  refine lv_isub hx hb dX10_planDistribution_33 ?_
  refine zz_nmI hq (fun x16 hq => ?_)
  refine lv_istore (lv' := [(4, .int x16), (3, .int x7), (0, .ref (ad a0)), (1, .ref (ad a1)), (2, .int x2)]) hx hb dX10_planDistribution_34 hl (by decide) rfl (fun ls hl => ?_)
  refine lv_iconst (v := 1) hx hb dX10_planDistribution_36 (by decide) ?_
  refine lv_istore (lv' := [(5, .int (1 : Int32)), (4, .int x16), (3, .int x7), (0, .ref (ad a0)), (1, .ref (ad a1)), (2, .int x2)]) hx hb dX10_planDistribution_37 hl (by decide) rfl (fun ls hl => ?_)
  have L39 : ∀ (n : Nat) (x17 : Int32) (x18 : Int32) (s19 : zS) (H : Heap) (locs : List Loc) (ls : Array Slot), zl3 (f_X10_planDistribution_L39 T N a0 a1 x2 x7) n x17 x18 s19 = some (r0, σ0) → zB D cy T ad (zA T ad s.heap.size) s.heap s19 H locs s → lv_has ls 9 [(0, .ref (ad a0)), (1, .ref (ad a1)), (2, .int x2), (3, .int x7), (4, .int x17), (5, .int x18)] → W p l e (headSpec wsX10_planDistribution ({ frames := 4, cells := 0, slots := 0, locals := 90 } : Room)).room s m args below meth c H locs 0 0 (MQ below (va_Qi (fun (r2 : Int32) (σ2 : zS) => r2 = r0 ∧ σ2 = σ0) (zAt D cy T ad (zA T ad s.heap.size)) (zA T ad s.heap.size)) args s 0 0 (zA T ad s.heap.size)) (F0 m 39 ls []) := by
    intro n
    induction n with
    | zero => intro x17 x18 s19 H locs ls hq; exact zz_none hq
    | succ n ih39 =>
      intro x17 x18 s19 H locs ls hq hB hl
      rw [zl3] at hq
      generalize zl3 (f_X10_planDistribution_L39 T N a0 a1 x2 x7) n = k39 at ih39 hq
      unfold f_X10_planDistribution_L39 at hq
      refine lv_iload hx hb dX10_planDistribution_39 (lv_at hl 5 rfl) ?_
      refine lv_iload_n hx hb dX10_planDistribution_41 rfl (lv_at hl 3 rfl) ?_
      refine zz_icmp_ge (tgt := 64) hx hb dX10_planDistribution_42 (by decide) hq (fun hq => ?_) (fun hq => ?_)
      · refine lv_iload_n hx hb dX10_planDistribution_64 rfl (lv_at hl 3 rfl) ?_
        have J78 : ∀ (x20 : Int32) (s21 : zS) (H : Heap) (locs : List Loc) (ls : Array Slot), f_X10_planDistribution_J78 T N a0 a1 x2 x7 x17 x20 s21 = some (r0, σ0) → zB D cy T ad (zA T ad s.heap.size) s.heap s21 H locs s → lv_has ls 9 [(0, .ref (ad a0)), (1, .ref (ad a1)), (2, .int x2), (3, .int x7), (4, .int x17)] → W p l e (headSpec wsX10_planDistribution ({ frames := 4, cells := 0, slots := 0, locals := 90 } : Room)).room s m args below meth c H locs 0 0 (MQ below (va_Qi (fun (r2 : Int32) (σ2 : zS) => r2 = r0 ∧ σ2 = σ0) (zAt D cy T ad (zA T ad s.heap.size)) (zA T ad s.heap.size)) args s 0 0 (zA T ad s.heap.size)) (F0 m 78 ls [.int x20]) := by
          intro x20 s21 H locs ls hq hB hl
          unfold f_X10_planDistribution_J78 at hq
          refine lv_istore (lv' := [(5, .int x20), (0, .ref (ad a0)), (1, .ref (ad a1)), (2, .int x2), (3, .int x7), (4, .int x17)]) hx hb dX10_planDistribution_78 hl (by decide) rfl (fun ls hl => ?_)
          refine lv_iload_n hx hb dX10_planDistribution_80 rfl (lv_at hl 4 rfl) ?_
          have J94 : ∀ (x22 : Int32) (s23 : zS) (H : Heap) (locs : List Loc) (ls : Array Slot), f_X10_planDistribution_J94 T N a0 a1 x2 x7 x17 x20 x22 s23 = some (r0, σ0) → zB D cy T ad (zA T ad s.heap.size) s.heap s23 H locs s → lv_has ls 9 [(0, .ref (ad a0)), (1, .ref (ad a1)), (2, .int x2), (3, .int x7), (4, .int x17), (5, .int x20)] → W p l e (headSpec wsX10_planDistribution ({ frames := 4, cells := 0, slots := 0, locals := 90 } : Room)).room s m args below meth c H locs 0 0 (MQ below (va_Qi (fun (r2 : Int32) (σ2 : zS) => r2 = r0 ∧ σ2 = σ0) (zAt D cy T ad (zA T ad s.heap.size)) (zA T ad s.heap.size)) args s 0 0 (zA T ad s.heap.size)) (F0 m 94 ls [.int x22]) := by
            intro x22 s23 H locs ls hq hB hl
            unfold f_X10_planDistribution_J94 at hq
            refine lv_istore (lv' := [(6, .int x22), (0, .ref (ad a0)), (1, .ref (ad a1)), (2, .int x2), (3, .int x7), (4, .int x17), (5, .int x20)]) hx hb dX10_planDistribution_94 hl (by decide) rfl (fun ls hl => ?_)
            refine lv_aload_n hx hb dX10_planDistribution_96 rfl (lv_at hl 2 rfl) ?_
            refine lv_aload_n hx hb dX10_planDistribution_97 rfl (lv_at hl 1 rfl) ?_
            refine lv_iconst (v := 0) hx hb dX10_planDistribution_98 (by decide) ?_
            refine zz_callVi S hT hB (As := [.int (0 : Int32)]) (b := a0) (o := f_X10_setOf T N s23 a0 (0 : Int32)) (c_X10_setOf l D cy T hT ad N s23 _ a0 (0 : Int32)) (cwV 1 hts (gV wSub wd_356 wd_357 wd_358 wd_353 wd_359) rfl rfl rfl (by decide +kernel) ⟨Nat.le_of_ble_eq_true rfl, Nat.le_of_ble_eq_true rfl⟩) (F := TX10) (NF := 3) 10 rfl (by decide) (k_X10_setOf T N s23 a0 (0 : Int32)) rfl hl.1 rfl (Nat.le_of_ble_eq_true rfl) dX10_planDistribution_99 hq (fun x25 s24 H locs hq hB => ?_)
            refine lv_iload_n hx hb dX10_planDistribution_102 rfl (lv_at hl 3 rfl) ?_
            refine zz_callVi S hT hB (As := [.int x25, .int x2]) (b := a1) (o := f_X7_high T N s24 a1 x25 x2) (c_X7_high l D cy T hT ad N s24 _ a1 x25 x2) (cwV 2 hts (gV wSub wd_360 wd_249 wd_250 wd_35 wd_251) rfl rfl rfl (by decide +kernel) ⟨Nat.le_of_ble_eq_true rfl, Nat.le_of_ble_eq_true rfl⟩) (F := TX7) (NF := 3) 7 rfl (by decide) (k_X7_high T N s24 a1 x25 x2) rfl hl.1 rfl (Nat.le_of_ble_eq_true rfl) dX10_planDistribution_103 hq (fun x27 s26 H locs hq hB => ?_)
            refine lv_istore (lv' := [(7, .int x27), (6, .int x22), (0, .ref (ad a0)), (1, .ref (ad a1)), (2, .int x2), (3, .int x7), (4, .int x17), (5, .int x20)]) hx hb dX10_planDistribution_106 hl (by decide) rfl (fun ls hl => ?_)
            refine lv_aload_n hx hb dX10_planDistribution_108 rfl (lv_at hl 2 rfl) ?_
            refine lv_iconst (v := 0) hx hb dX10_planDistribution_109 (by decide) ?_
            refine lv_iconst (v := 0) hx hb dX10_planDistribution_110 (by decide) ?_
            refine zz_callVv S hT hB (As := [.int (0 : Int32), .int (0 : Int32)]) (b := a0) (o := f_X10_putWay T N s26 a0 (0 : Int32) (0 : Int32)) (c_X10_putWay l D cy T hT ad N s26 _ a0 (0 : Int32) (0 : Int32)) (cwV 2 hts (gV wSub wd_363 wd_364 wd_365 wd_353 wd_366) rfl rfl rfl (by decide +kernel) ⟨Nat.le_of_ble_eq_true rfl, Nat.le_of_ble_eq_true rfl⟩) (F := TX10) (NF := 3) 10 rfl (by decide) (k_X10_putWay T N s26 a0 (0 : Int32) (0 : Int32)) rfl hl.1 rfl (Nat.le_of_ble_eq_true rfl) dX10_planDistribution_111 hq (fun s28 H locs hq hB => ?_)
            refine lv_aload_n hx hb dX10_planDistribution_114 rfl (lv_at hl 2 rfl) ?_
            refine lv_iload_n hx hb dX10_planDistribution_115 rfl (lv_at hl 5 rfl) ?_
            refine lv_iconst (v := 0) hx hb dX10_planDistribution_116 (by decide) ?_
            refine zz_callVv S hT hB (As := [.int x7, .int (0 : Int32)]) (b := a0) (o := f_X10_putWay T N s28 a0 x7 (0 : Int32)) (c_X10_putWay l D cy T hT ad N s28 _ a0 x7 (0 : Int32)) (cwV 2 hts (gV wSub wd_363 wd_364 wd_365 wd_353 wd_366) rfl rfl rfl (by decide +kernel) ⟨Nat.le_of_ble_eq_true rfl, Nat.le_of_ble_eq_true rfl⟩) (F := TX10) (NF := 3) 10 rfl (by decide) (k_X10_putWay T N s28 a0 x7 (0 : Int32)) rfl hl.1 rfl (Nat.le_of_ble_eq_true rfl) dX10_planDistribution_117 hq (fun s29 H locs hq hB => ?_)
            refine lv_iconst (v := 1) hx hb dX10_planDistribution_120 (by decide) ?_
            refine lv_istore (lv' := [(8, .int (1 : Int32)), (7, .int x27), (6, .int x22), (0, .ref (ad a0)), (1, .ref (ad a1)), (2, .int x2), (3, .int x7), (4, .int x17), (5, .int x20)]) hx hb dX10_planDistribution_121 hl (by decide) rfl (fun ls hl => ?_)
            have L123 : ∀ (n : Nat) (x30 : Int32) (x31 : Int32) (s32 : zS) (H : Heap) (locs : List Loc) (ls : Array Slot), zl3 (f_X10_planDistribution_L123 T N a0 a1 x2 x7 x17 x20 x22) n x30 x31 s32 = some (r0, σ0) → zB D cy T ad (zA T ad s.heap.size) s.heap s32 H locs s → lv_has ls 9 [(0, .ref (ad a0)), (1, .ref (ad a1)), (2, .int x2), (3, .int x7), (4, .int x17), (5, .int x20), (6, .int x22), (7, .int x30), (8, .int x31)] → W p l e (headSpec wsX10_planDistribution ({ frames := 4, cells := 0, slots := 0, locals := 90 } : Room)).room s m args below meth c H locs 0 0 (MQ below (va_Qi (fun (r2 : Int32) (σ2 : zS) => r2 = r0 ∧ σ2 = σ0) (zAt D cy T ad (zA T ad s.heap.size)) (zA T ad s.heap.size)) args s 0 0 (zA T ad s.heap.size)) (F0 m 123 ls []) := by
              intro n
              induction n with
              | zero => intro x30 x31 s32 H locs ls hq; exact zz_none hq
              | succ n ih123 =>
                intro x30 x31 s32 H locs ls hq hB hl
                rw [zl3] at hq
                generalize zl3 (f_X10_planDistribution_L123 T N a0 a1 x2 x7 x17 x20 x22) n = k123 at ih123 hq
                unfold f_X10_planDistribution_L123 at hq
                refine lv_iload hx hb dX10_planDistribution_123 (lv_at hl 8 rfl) ?_
                refine lv_iload_n hx hb dX10_planDistribution_125 rfl (lv_at hl 3 rfl) ?_
                refine zz_icmp_ge (tgt := 189) hx hb dX10_planDistribution_126 (by decide) hq (fun hq => ?_) (fun hq => ?_)
                · refine lv_iload hx hb dX10_planDistribution_189 (lv_at hl 4 rfl) ?_
                  exact zz_iret S hB hr hlocks dX10_planDistribution_191 hq
                · refine lv_iload hx hb dX10_planDistribution_129 (lv_at hl 7 rfl) ?_
                  refine lv_iload hx hb dX10_planDistribution_131 (lv_at hl 8 rfl) ?_
                  refine lv_iload hx hb dX10_planDistribution_133 (lv_at hl 6 rfl) ?_
                  have J147 : ∀ (x33 : Int32) (H : Heap) (locs : List Loc) (ls : Array Slot), f_X10_planDistribution_J147 T N a0 a1 x2 x30 x31 s32 k123 x33 = some (r0, σ0) → zB D cy T ad (zA T ad s.heap.size) s.heap s32 H locs s → lv_has ls 9 [(0, .ref (ad a0)), (1, .ref (ad a1)), (2, .int x2), (3, .int x7), (4, .int x17), (5, .int x20), (6, .int x22), (8, .int x31)] → W p l e (headSpec wsX10_planDistribution ({ frames := 4, cells := 0, slots := 0, locals := 90 } : Room)).room s m args below meth c H locs 0 0 (MQ below (va_Qi (fun (r2 : Int32) (σ2 : zS) => r2 = r0 ∧ σ2 = σ0) (zAt D cy T ad (zA T ad s.heap.size)) (zA T ad s.heap.size)) args s 0 0 (zA T ad s.heap.size)) (F0 m 147 ls [.int x33, .int x30]) := by
                    intro x33 H locs ls hq hB hl
                    unfold f_X10_planDistribution_J147 at hq
                    refine lv_iadd hx hb dX10_planDistribution_147 ?_
                    refine zz_nmI hq (fun x34 hq => ?_)
                    refine lv_istore (lv' := [(7, .int x34), (0, .ref (ad a0)), (1, .ref (ad a1)), (2, .int x2), (3, .int x7), (4, .int x17), (5, .int x20), (6, .int x22), (8, .int x31)]) hx hb dX10_planDistribution_148 hl (by decide) rfl (fun ls hl => ?_)
                    refine lv_aload_n hx hb dX10_planDistribution_150 rfl (lv_at hl 1 rfl) ?_
                    refine lv_iload hx hb dX10_planDistribution_151 (lv_at hl 8 rfl) ?_
                    refine lv_iload hx hb dX10_planDistribution_153 (lv_at hl 0 rfl) ?_
                    refine lv_aload_n hx hb dX10_planDistribution_155 rfl (lv_at hl 2 rfl) ?_
                    refine lv_aload_n hx hb dX10_planDistribution_156 rfl (lv_at hl 1 rfl) ?_
                    refine lv_iload hx hb dX10_planDistribution_157 (lv_at hl 8 rfl) ?_
                    refine zz_callVi S hT hB (As := [.int x31]) (b := a0) (o := f_X10_setOf T N s32 a0 x31) (c_X10_setOf l D cy T hT ad N s32 _ a0 x31) (cwV 1 hts (gV wSub wd_356 wd_357 wd_358 wd_353 wd_359) rfl rfl rfl (by decide +kernel) ⟨Nat.le_of_ble_eq_true rfl, Nat.le_of_ble_eq_true rfl⟩) (F := TX10) (NF := 3) 10 rfl (by decide) (k_X10_setOf T N s32 a0 x31) rfl hl.1 rfl (Nat.le_of_ble_eq_true rfl) dX10_planDistribution_159 hq (fun x36 s35 H locs hq hB => ?_)
                    refine lv_iload_n hx hb dX10_planDistribution_162 rfl (lv_at hl 3 rfl) ?_
                    refine zz_callVi S hT hB (As := [.int x36, .int x2]) (b := a1) (o := f_X7_low T N s35 a1 x36 x2) (c_X7_low l D cy T hT ad N s35 _ a1 x36 x2) (cwV 2 hts (gV wSub wd_361 wd_245 wd_246 wd_35 wd_247) rfl rfl rfl (by decide +kernel) ⟨Nat.le_of_ble_eq_true rfl, Nat.le_of_ble_eq_true rfl⟩) (F := TX7) (NF := 3) 7 rfl (by decide) (k_X7_low T N s35 a1 x36 x2) rfl hl.1 rfl (Nat.le_of_ble_eq_true rfl) dX10_planDistribution_163 hq (fun x38 s37 H locs hq hB => ?_)
                    refine lv_isub hx hb dX10_planDistribution_166 ?_
                    refine zz_callVv S hT hB (As := [.int x31, .int (x34 - x38)]) (b := a0) (o := f_X10_putWay T N s37 a0 x31 (x34 - x38)) (c_X10_putWay l D cy T hT ad N s37 _ a0 x31 (x34 - x38)) (cwV 2 hts (gV wSub wd_363 wd_364 wd_365 wd_353 wd_366) rfl rfl rfl (by decide +kernel) ⟨Nat.le_of_ble_eq_true rfl, Nat.le_of_ble_eq_true rfl⟩) (F := TX10) (NF := 3) 10 rfl (by decide) (k_X10_putWay T N s37 a0 x31 (x34 - x38)) rfl hl.1 rfl (Nat.le_of_ble_eq_true rfl) dX10_planDistribution_167 hq (fun s39 H locs hq hB => ?_)
                    refine lv_iload hx hb dX10_planDistribution_170 (lv_at hl 0 rfl) ?_
                    refine lv_aload_n hx hb dX10_planDistribution_172 rfl (lv_at hl 1 rfl) ?_
                    refine lv_aload_n hx hb dX10_planDistribution_173 rfl (lv_at hl 2 rfl) ?_
                    refine lv_iload hx hb dX10_planDistribution_174 (lv_at hl 8 rfl) ?_
                    refine lv_iload_n hx hb dX10_planDistribution_176 rfl (lv_at hl 3 rfl) ?_
                    refine zz_callVi S hT hB (As := [.ref (ad a1), .int x31, .int x2]) (b := a0) (o := f_X10_sizeOf T N s39 a0 a1 x31 x2) (c_X10_sizeOf l D cy T hT ad N s39 _ a0 a1 x31 x2) (cwV 3 hts (gV wSub wd_373 wd_374 wd_375 wd_353 wd_376) rfl rfl rfl (by decide +kernel) ⟨Nat.le_of_ble_eq_true rfl, Nat.le_of_ble_eq_true rfl⟩) (F := TX10) (NF := 3) 10 rfl (by decide) (k_X10_sizeOf T N s39 a0 a1 x31 x2) rfl hl.1 rfl (Nat.le_of_ble_eq_true rfl) dX10_planDistribution_177 hq (fun x41 s40 H locs hq hB => ?_)
                    refine lv_iadd hx hb dX10_planDistribution_180 ?_
                    refine zz_nmI hq (fun x42 hq => ?_)
                    refine lv_istore (lv' := [(7, .int x42), (0, .ref (ad a0)), (1, .ref (ad a1)), (2, .int x2), (3, .int x7), (4, .int x17), (5, .int x20), (6, .int x22), (8, .int x31)]) hx hb dX10_planDistribution_181 hl (by decide) rfl (fun ls hl => ?_)
                    refine zz_nmV hq (fun x43 ex43 hq => ?_)
                    refine lv_iinc (v := x43) (lv' := [(8, .int x43), (7, .int x42), (0, .ref (ad a0)), (1, .ref (ad a1)), (2, .int x2), (3, .int x7), (4, .int x17), (5, .int x20), (6, .int x22)]) hx hb dX10_planDistribution_183 hl (k := 8) rfl (by rw [ex43]; rfl) (by decide) rfl (fun ls hl => ?_)
                    refine lv_goto (tgt := 123) hx hb dX10_planDistribution_186 (by decide) ?_
                    exact ih123 x42 x43 s40 _ _ _ hq hB (lv_sub hl [2, 3, 4, 5, 6, 7, 8, 1, 0] rfl)
                  refine zz_icmp_gt (tgt := 145) hx hb dX10_planDistribution_135 (by decide) hq (fun hq => ?_) (fun hq => ?_)
                  · refine lv_iload hx hb dX10_planDistribution_145 (lv_at hl 5 rfl) ?_
                    exact J147 x20 _ _ _ hq hB (lv_sub hl [0, 1, 2, 3, 4, 5, 6, 8] rfl)
                  · refine lv_iload hx hb dX10_planDistribution_138 (lv_at hl 5 rfl) ?_
                    refine lv_iconst (v := 1) hx hb dX10_planDistribution_140 (by decide) ?_
                    refine lv_iadd hx hb dX10_planDistribution_141 ?_
                    refine lv_goto (tgt := 147) hx hb dX10_planDistribution_142 (by decide) ?_
                    exact J147 (x20 + (1 : Int32)) _ _ _ hq hB (lv_sub hl [0, 1, 2, 3, 4, 5, 6, 8] rfl)
            exact L123 N x27 (1 : Int32) s29 _ _ _ hq hB (lv_sub hl [3, 4, 5, 6, 7, 8, 2, 1, 0] rfl)
          refine zz_if_le (tgt := 93) hx hb dX10_planDistribution_81 (by decide) hq (fun hq => ?_) (fun hq => ?_)
          · refine lv_iconst (v := 0) hx hb dX10_planDistribution_93 (by decide) ?_
            exact J94 (0 : Int32) s21 _ _ _ hq hB (lv_sub hl [1, 2, 3, 4, 5, 0] rfl)
          · refine lv_iload hx hb dX10_planDistribution_84 (lv_at hl 5 rfl) ?_
            refine lv_iload_n hx hb dX10_planDistribution_86 rfl (lv_at hl 4 rfl) ?_
            refine zz_callSi S hT hB (As := [.int x17, .int x7]) (o := f_J9_floorMod_7cf53 T N s21 x17 x7) (c_J9_floorMod_7cf53 l D cy T hT ad N s21 _ x17 x7) (va_cwS 2 hts (gS wSub wd_372 wd_274 wd_22 wd_275) rfl rfl rfl (by decide +kernel) ⟨Nat.le_of_ble_eq_true rfl, Nat.le_of_ble_eq_true rfl⟩) rfl hl.1 rfl (Nat.le_of_ble_eq_true rfl) dX10_planDistribution_87 hq (fun x45 s44 H locs hq hB => ?_)
            refine lv_goto (tgt := 94) hx hb dX10_planDistribution_90 (by decide) ?_
            exact J94 x45 s44 _ _ _ hq hB (lv_sub hl [1, 2, 3, 4, 5, 0] rfl)
        refine zz_if_le (tgt := 77) hx hb dX10_planDistribution_65 (by decide) hq (fun hq => ?_) (fun hq => ?_)
        · refine lv_iconst (v := 0) hx hb dX10_planDistribution_77 (by decide) ?_
          exact J78 (0 : Int32) s19 _ _ _ hq hB (lv_sub hl [0, 1, 2, 3, 4] rfl)
        · refine lv_iload hx hb dX10_planDistribution_68 (lv_at hl 4 rfl) ?_
          refine lv_iload_n hx hb dX10_planDistribution_70 rfl (lv_at hl 3 rfl) ?_
          refine zz_callSi S hT hB (As := [.int x17, .int x7]) (o := f_J9_floorDiv_7cf53 T N s19 x17 x7) (c_J9_floorDiv_7cf53 l D cy T hT ad N s19 _ x17 x7) (va_cwS 2 hts (gS wSub wd_371 wd_21 wd_22 wd_23) rfl rfl rfl (by decide +kernel) ⟨Nat.le_of_ble_eq_true rfl, Nat.le_of_ble_eq_true rfl⟩) rfl hl.1 rfl (Nat.le_of_ble_eq_true rfl) dX10_planDistribution_71 hq (fun x47 s46 H locs hq hB => ?_)
          refine lv_goto (tgt := 78) hx hb dX10_planDistribution_74 (by decide) ?_
          exact J78 x47 s46 _ _ _ hq hB (lv_sub hl [0, 1, 2, 3, 4] rfl)
      · refine lv_iload hx hb dX10_planDistribution_45 (lv_at hl 4 rfl) ?_
        refine lv_aload_n hx hb dX10_planDistribution_47 rfl (lv_at hl 0 rfl) ?_
        refine lv_aload_n hx hb dX10_planDistribution_48 rfl (lv_at hl 1 rfl) ?_
        refine lv_iload hx hb dX10_planDistribution_49 (lv_at hl 5 rfl) ?_
        refine lv_iload_n hx hb dX10_planDistribution_51 rfl (lv_at hl 2 rfl) ?_
        refine zz_callVi S hT hB (As := [.ref (ad a1), .int x18, .int x2]) (b := a0) (o := f_X10_sizeOf T N s19 a0 a1 x18 x2) (c_X10_sizeOf l D cy T hT ad N s19 _ a0 a1 x18 x2) (cwV 3 hts (gV wSub wd_373 wd_374 wd_375 wd_353 wd_376) rfl rfl rfl (by decide +kernel) ⟨Nat.le_of_ble_eq_true rfl, Nat.le_of_ble_eq_true rfl⟩) (F := TX10) (NF := 3) 10 rfl (by decide) (k_X10_sizeOf T N s19 a0 a1 x18 x2) rfl hl.1 rfl (Nat.le_of_ble_eq_true rfl) dX10_planDistribution_52 hq (fun x49 s48 H locs hq hB => ?_)
        refine lv_isub hx hb dX10_planDistribution_55 ?_
        refine zz_nmI hq (fun x50 hq => ?_)
        refine lv_istore (lv' := [(4, .int x50), (0, .ref (ad a0)), (1, .ref (ad a1)), (2, .int x2), (3, .int x7), (5, .int x18)]) hx hb dX10_planDistribution_56 hl (by decide) rfl (fun ls hl => ?_)
        refine zz_nmV hq (fun x51 ex51 hq => ?_)
        refine lv_iinc (v := x51) (lv' := [(5, .int x51), (4, .int x50), (0, .ref (ad a0)), (1, .ref (ad a1)), (2, .int x2), (3, .int x7)]) hx hb dX10_planDistribution_58 hl (k := 5) rfl (by rw [ex51]; rfl) (by decide) rfl (fun ls hl => ?_)
        refine lv_goto (tgt := 39) hx hb dX10_planDistribution_61 (by decide) ?_
        exact ih39 x50 x51 s48 _ _ _ hq hB (lv_sub hl [2, 3, 4, 5, 1, 0] rfl)
  exact L39 N x16 (1 : Int32) s14 _ _ _ hq hB (lv_sub hl [3, 4, 5, 2, 1, 0] rfl)
def f_X10_canShift_L2 (T : zT) (N : Nat) (a0 : Nat) (a1 : Nat) (x2 : Int32) (k2 : Int32 → zS → Option (Int32 × zS)) (x5 : Int32) (s6 : zS) : Option (Int32 × zS) :=
  (gI T s6 a0 10 2).bind fun x7 =>
  if x7 ≤ x5 then (
    rZ (1 : Int32) s6)
  else (
    zb2 (f_X10_setOf T N s6 a0 x5) fun x9 s8 =>
    zb2 (f_X10_wayOf T N s8 a0 x5) fun x11 s10 =>
    zb2 (f_X7_canShift T N s10 a1 x9 x2 x11) fun x13 s12 =>
    if ¬ x13 = 0 then (
      zn (x5 + (1 : Int32)) fun x14 =>
      k2 x14 s12)
    else (
      rZ (0 : Int32) s12))
def f_X10_canShift (T : zT) (N : Nat) (s0 : zS) (a0 : Nat) (a1 : Nat) (x2 : Int32) : Option (Int32 × zS) :=
  zz1 (T.1 a0 = 10) <|
  zl2 (f_X10_canShift_L2 T N a0 a1 x2) N (0 : Int32) s0
theorem k_X10_canShift (T : zT) (N : Nat) (s0 : zS) (a0 : Nat) (a1 : Nat) (x2 : Int32) : ∀ q, f_X10_canShift T N s0 a0 a1 x2 = some q → T.1 a0 = 10 := by
  intro q h
  unfold f_X10_canShift at h
  exact zz_guard h (fun h _ => h)
set_option maxHeartbeats 4000000 in
set_option maxRecDepth 100000 in
theorem c_X10_canShift (l : Launch) (D : va_G) (cy : Nat → ClassId) (T : zT) (hT : zok T) (ad : Nat → Nat) (N : Nat) (s0 : zS) (sz : Nat) (a0 : Nat) (a1 : Nat) (x2 : Int32) : ∀ (r0 : Int32) (σ0 : zS), f_X10_canShift T N s0 a0 a1 x2 = some (r0, σ0) → Met l yX10_canShift wsX10_canShift ({ frames := 3, cells := 0, slots := 0, locals := 67 }) (va_Pc [.ref (ad a0), .ref (ad a1), .int x2] (zPre D cy T ad s0 sz)) (va_Qi (fun (r2 : Int32) (σ2 : zS) => r2 = r0 ∧ σ2 = σ0) (zAt D cy T ad (zA T ad sz)) (zA T ad sz)) 0 0 (zA T ad sz) := by
  intro r0 σ0 hq
  refine Met.ofW (cc := cX10_canShift) (maxL := 4) (ret := (some .boolean)) (by decide) rfl ?_
  intro p e s m args below meth c s₁ B hml hv
  obtain ⟨hargs, hsz, hP, hK, hD0, hN⟩ := hv
  have hx := B.exec
  have hb := B.bytes
  have hr := B.returns
  have hts := atoms_spec (ws := wsX10_canShift) B.pre
  have hown : s.vm.findClass RX10 = some m.cls := findClass_of_methodNamed B.named
  have hlocks := B.notSynchronized
  have S : CallFix p m c cX10_canShift 4 s args wsX10_canShift RX10 := ⟨hx, hb, hml, hown, hts⟩
  subst hsz
  have hB : zB D cy T ad (zA T ad s.heap.size) s.heap s0 s.heap [] s := zz_entry hP hK hD0 hN
  obtain ⟨ls, hent, hl⟩ := zz_ent m hargs (n := 4) (Nat.le_of_ble_eq_true rfl)
  rw [hent]
  have hl : lv_has ls 4 [(0, .ref (ad a0)), (1, .ref (ad a1)), (2, .int x2)] := hl
  have iwX10 : ∀ w ∈ u_ws RX10 TX10 3, w ∈ wsX10_canShift := fun w h => wS (inWX10 w h)
  unfold f_X10_canShift at hq
  refine zz_guard hq (fun hk0 hq => ?_)
  refine lv_iconst (v := 0) hx hb dX10_canShift_0 (by decide) ?_
  refine lv_istore_n (lv' := [(3, .int (0 : Int32)), (0, .ref (ad a0)), (1, .ref (ad a1)), (2, .int x2)]) hx hb dX10_canShift_1 rfl hl (by decide) rfl (fun ls hl => ?_)
  have L2 : ∀ (n : Nat) (x5 : Int32) (s6 : zS) (H : Heap) (locs : List Loc) (ls : Array Slot), zl2 (f_X10_canShift_L2 T N a0 a1 x2) n x5 s6 = some (r0, σ0) → zB D cy T ad (zA T ad s.heap.size) s.heap s6 H locs s → lv_has ls 4 [(0, .ref (ad a0)), (1, .ref (ad a1)), (2, .int x2), (3, .int x5)] → W p l e (headSpec wsX10_canShift ({ frames := 3, cells := 0, slots := 0, locals := 67 } : Room)).room s m args below meth c H locs 0 0 (MQ below (va_Qi (fun (r2 : Int32) (σ2 : zS) => r2 = r0 ∧ σ2 = σ0) (zAt D cy T ad (zA T ad s.heap.size)) (zA T ad s.heap.size)) args s 0 0 (zA T ad s.heap.size)) (F0 m 2 ls []) := by
    intro n
    induction n with
    | zero => intro x5 s6 H locs ls hq; exact zz_none hq
    | succ n ih2 =>
      intro x5 s6 H locs ls hq hB hl
      rw [zl2] at hq
      generalize zl2 (f_X10_canShift_L2 T N a0 a1 x2) n = k2 at ih2 hq
      unfold f_X10_canShift_L2 at hq
      refine lv_iload_n hx hb dX10_canShift_2 rfl (lv_at hl 3 rfl) ?_
      refine lv_aload_n hx hb dX10_canShift_3 rfl (lv_at hl 0 rfl) ?_
      refine zz_get S hT hB (C := RX10) (ref := "DiagramDesk$Units") (F := TX10) (N := 3) (index := 18) 10 2 iwX10 rfl (by decide) (by decide) rfl rfl (wS wd_341) (fun _ h9 => h9) dX10_canShift_4 hq (fun x7 hq => ?_)
      refine zz_icmp_ge (tgt := 36) hx hb dX10_canShift_7 (by decide) hq (fun hq => ?_) (fun hq => ?_)
      · refine lv_iconst (v := 1) hx hb dX10_canShift_36 (by decide) ?_
        exact zz_zret S hB hr hlocks dX10_canShift_37 hq
      · refine lv_aload_n hx hb dX10_canShift_10 rfl (lv_at hl 1 rfl) ?_
        refine lv_aload_n hx hb dX10_canShift_11 rfl (lv_at hl 0 rfl) ?_
        refine lv_iload_n hx hb dX10_canShift_12 rfl (lv_at hl 3 rfl) ?_
        refine zz_callVi S hT hB (As := [.int x5]) (b := a0) (o := f_X10_setOf T N s6 a0 x5) (c_X10_setOf l D cy T hT ad N s6 _ a0 x5) (cwV 1 hts (gV wSub wd_356 wd_357 wd_358 wd_353 wd_359) rfl rfl rfl (by decide +kernel) ⟨Nat.le_of_ble_eq_true rfl, Nat.le_of_ble_eq_true rfl⟩) (F := TX10) (NF := 3) 10 rfl (by decide) (k_X10_setOf T N s6 a0 x5) rfl hl.1 rfl (Nat.le_of_ble_eq_true rfl) dX10_canShift_13 hq (fun x9 s8 H locs hq hB => ?_)
        refine lv_iload_n hx hb dX10_canShift_16 rfl (lv_at hl 2 rfl) ?_
        refine lv_aload_n hx hb dX10_canShift_17 rfl (lv_at hl 0 rfl) ?_
        refine lv_iload_n hx hb dX10_canShift_18 rfl (lv_at hl 3 rfl) ?_
        refine zz_callVi S hT hB (As := [.int x5]) (b := a0) (o := f_X10_wayOf T N s8 a0 x5) (c_X10_wayOf l D cy T hT ad N s8 _ a0 x5) (cwV 1 hts (gV wSub wd_377 wd_378 wd_379 wd_353 wd_380) rfl rfl rfl (by decide +kernel) ⟨Nat.le_of_ble_eq_true rfl, Nat.le_of_ble_eq_true rfl⟩) (F := TX10) (NF := 3) 10 rfl (by decide) (k_X10_wayOf T N s8 a0 x5) rfl hl.1 rfl (Nat.le_of_ble_eq_true rfl) dX10_canShift_19 hq (fun x11 s10 H locs hq hB => ?_)
        refine zz_callVi S hT hB (As := [.int x9, .int x2, .int x11]) (b := a1) (o := f_X7_canShift T N s10 a1 x9 x2 x11) (c_X7_canShift l D cy T hT ad N s10 _ a1 x9 x2 x11) (cwV 3 hts (gV wSub wd_381 wd_382 wd_383 wd_35 wd_384) rfl rfl rfl (by decide +kernel) ⟨Nat.le_of_ble_eq_true rfl, Nat.le_of_ble_eq_true rfl⟩) (F := TX7) (NF := 3) 7 rfl (by decide) (k_X7_canShift T N s10 a1 x9 x2 x11) rfl hl.1 rfl (Nat.le_of_ble_eq_true rfl) dX10_canShift_22 hq (fun x13 s12 H locs hq hB => ?_)
        refine zz_if_ne (tgt := 30) hx hb dX10_canShift_25 (by decide) hq (fun hq => ?_) (fun hq => ?_)
        · refine zz_nmV hq (fun x14 ex14 hq => ?_)
          refine lv_iinc (v := x14) (lv' := [(3, .int x14), (0, .ref (ad a0)), (1, .ref (ad a1)), (2, .int x2)]) hx hb dX10_canShift_30 hl (k := 3) rfl (by rw [ex14]; rfl) (by decide) rfl (fun ls hl => ?_)
          refine lv_goto (tgt := 2) hx hb dX10_canShift_33 (by decide) ?_
          exact ih2 x14 s12 _ _ _ hq hB (lv_sub hl [1, 2, 3, 0] rfl)
        · refine lv_iconst (v := 0) hx hb dX10_canShift_28 (by decide) ?_
          exact zz_zret S hB hr hlocks dX10_canShift_29 hq
  exact L2 N (0 : Int32) s0 _ _ _ hq hB (lv_sub hl [1, 2, 3, 0] rfl)
def f_X10_shift_L5 (T : zT) (N : Nat) (a0 : Nat) (a1 : Nat) (x2 : Int32) (k5 : Int32 → Int32 → zS → Option (Int32 × zS)) (x5 : Int32) (x6 : Int32) (s7 : zS) : Option (Int32 × zS) :=
  (gI T s7 a0 10 2).bind fun x8 =>
  if x8 ≤ x6 then (
    some (x5, s7))
  else (
    zb2 (f_X10_wayOf T N s7 a0 x6) fun x10 s9 =>
    if x10 = 0 then (
      zn (x6 + (1 : Int32)) fun x11 =>
      k5 x5 x11 s9)
    else (
      zb2 (f_X10_setOf T N s9 a0 x6) fun x13 s12 =>
      zb2 (f_X10_wayOf T N s12 a0 x6) fun x15 s14 =>
      (f_X7_shift T N s14 a1 x13 x2 x15).bind fun s16 =>
      zn (x5 + (1 : Int32)) fun x17 =>
      zn (x6 + (1 : Int32)) fun x18 =>
      k5 x17 x18 s16))
def f_X10_shift (T : zT) (N : Nat) (s0 : zS) (a0 : Nat) (a1 : Nat) (x2 : Int32) : Option (Int32 × zS) :=
  zz1 (T.1 a0 = 10) <|
  zl3 (f_X10_shift_L5 T N a0 a1 x2) N (0 : Int32) (0 : Int32) s0
theorem k_X10_shift (T : zT) (N : Nat) (s0 : zS) (a0 : Nat) (a1 : Nat) (x2 : Int32) : ∀ q, f_X10_shift T N s0 a0 a1 x2 = some q → T.1 a0 = 10 := by
  intro q h
  unfold f_X10_shift at h
  exact zz_guard h (fun h _ => h)
set_option maxHeartbeats 4000000 in
set_option maxRecDepth 100000 in
theorem c_X10_shift (l : Launch) (D : va_G) (cy : Nat → ClassId) (T : zT) (hT : zok T) (ad : Nat → Nat) (N : Nat) (s0 : zS) (sz : Nat) (a0 : Nat) (a1 : Nat) (x2 : Int32) : ∀ (r0 : Int32) (σ0 : zS), f_X10_shift T N s0 a0 a1 x2 = some (r0, σ0) → Met l yX10_shift wsX10_shift ({ frames := 2, cells := 0, slots := 0, locals := 47 }) (va_Pc [.ref (ad a0), .ref (ad a1), .int x2] (zPre D cy T ad s0 sz)) (va_Qi (fun (r2 : Int32) (σ2 : zS) => r2 = r0 ∧ σ2 = σ0) (zAt D cy T ad (zA T ad sz)) (zA T ad sz)) 0 0 (zA T ad sz) := by
  intro r0 σ0 hq
  refine Met.ofW (cc := cX10_shift) (maxL := 5) (ret := (some .int)) (by decide) rfl ?_
  intro p e s m args below meth c s₁ B hml hv
  obtain ⟨hargs, hsz, hP, hK, hD0, hN⟩ := hv
  have hx := B.exec
  have hb := B.bytes
  have hr := B.returns
  have hts := atoms_spec (ws := wsX10_shift) B.pre
  have hown : s.vm.findClass RX10 = some m.cls := findClass_of_methodNamed B.named
  have hlocks := B.notSynchronized
  have S : CallFix p m c cX10_shift 5 s args wsX10_shift RX10 := ⟨hx, hb, hml, hown, hts⟩
  subst hsz
  have hB : zB D cy T ad (zA T ad s.heap.size) s.heap s0 s.heap [] s := zz_entry hP hK hD0 hN
  obtain ⟨ls, hent, hl⟩ := zz_ent m hargs (n := 5) (Nat.le_of_ble_eq_true rfl)
  rw [hent]
  have hl : lv_has ls 5 [(0, .ref (ad a0)), (1, .ref (ad a1)), (2, .int x2)] := hl
  have iwX10 : ∀ w ∈ u_ws RX10 TX10 3, w ∈ wsX10_shift := fun w h => wS (inWX10 w h)
  unfold f_X10_shift at hq
  refine zz_guard hq (fun hk0 hq => ?_)
  refine lv_iconst (v := 0) hx hb dX10_shift_0 (by decide) ?_
  refine lv_istore_n (lv' := [(3, .int (0 : Int32)), (0, .ref (ad a0)), (1, .ref (ad a1)), (2, .int x2)]) hx hb dX10_shift_1 rfl hl (by decide) rfl (fun ls hl => ?_)
  refine lv_iconst (v := 0) hx hb dX10_shift_2 (by decide) ?_
  refine lv_istore (lv' := [(4, .int (0 : Int32)), (3, .int (0 : Int32)), (0, .ref (ad a0)), (1, .ref (ad a1)), (2, .int x2)]) hx hb dX10_shift_3 hl (by decide) rfl (fun ls hl => ?_)
  have L5 : ∀ (n : Nat) (x5 : Int32) (x6 : Int32) (s7 : zS) (H : Heap) (locs : List Loc) (ls : Array Slot), zl3 (f_X10_shift_L5 T N a0 a1 x2) n x5 x6 s7 = some (r0, σ0) → zB D cy T ad (zA T ad s.heap.size) s.heap s7 H locs s → lv_has ls 5 [(0, .ref (ad a0)), (1, .ref (ad a1)), (2, .int x2), (3, .int x5), (4, .int x6)] → W p l e (headSpec wsX10_shift ({ frames := 2, cells := 0, slots := 0, locals := 47 } : Room)).room s m args below meth c H locs 0 0 (MQ below (va_Qi (fun (r2 : Int32) (σ2 : zS) => r2 = r0 ∧ σ2 = σ0) (zAt D cy T ad (zA T ad s.heap.size)) (zA T ad s.heap.size)) args s 0 0 (zA T ad s.heap.size)) (F0 m 5 ls []) := by
    intro n
    induction n with
    | zero => intro x5 x6 s7 H locs ls hq; exact zz_none hq
    | succ n ih5 =>
      intro x5 x6 s7 H locs ls hq hB hl
      rw [zl3] at hq
      generalize zl3 (f_X10_shift_L5 T N a0 a1 x2) n = k5 at ih5 hq
      unfold f_X10_shift_L5 at hq
      refine lv_iload hx hb dX10_shift_5 (lv_at hl 4 rfl) ?_
      refine lv_aload_n hx hb dX10_shift_7 rfl (lv_at hl 0 rfl) ?_
      refine zz_get S hT hB (C := RX10) (ref := "DiagramDesk$Units") (F := TX10) (N := 3) (index := 18) 10 2 iwX10 rfl (by decide) (by decide) rfl rfl (wS wd_341) (fun _ h9 => h9) dX10_shift_8 hq (fun x8 hq => ?_)
      refine zz_icmp_ge (tgt := 49) hx hb dX10_shift_11 (by decide) hq (fun hq => ?_) (fun hq => ?_)
      · refine lv_iload_n hx hb dX10_shift_49 rfl (lv_at hl 3 rfl) ?_
        exact zz_iret S hB hr hlocks dX10_shift_50 hq
      · refine lv_aload_n hx hb dX10_shift_14 rfl (lv_at hl 0 rfl) ?_
        refine lv_iload hx hb dX10_shift_15 (lv_at hl 4 rfl) ?_
        refine zz_callVi S hT hB (As := [.int x6]) (b := a0) (o := f_X10_wayOf T N s7 a0 x6) (c_X10_wayOf l D cy T hT ad N s7 _ a0 x6) (cwV 1 hts (gV wSub wd_377 wd_378 wd_379 wd_353 wd_380) rfl rfl rfl (by decide +kernel) ⟨Nat.le_of_ble_eq_true rfl, Nat.le_of_ble_eq_true rfl⟩) (F := TX10) (NF := 3) 10 rfl (by decide) (k_X10_wayOf T N s7 a0 x6) rfl hl.1 rfl (Nat.le_of_ble_eq_true rfl) dX10_shift_17 hq (fun x10 s9 H locs hq hB => ?_)
        refine zz_if_eq (tgt := 43) hx hb dX10_shift_20 (by decide) hq (fun hq => ?_) (fun hq => ?_)
        · refine zz_nmV hq (fun x11 ex11 hq => ?_)
          refine lv_iinc (v := x11) (lv' := [(4, .int x11), (0, .ref (ad a0)), (1, .ref (ad a1)), (2, .int x2), (3, .int x5)]) hx hb dX10_shift_43 hl (k := 4) rfl (by rw [ex11]; rfl) (by decide) rfl (fun ls hl => ?_)
          refine lv_goto (tgt := 5) hx hb dX10_shift_46 (by decide) ?_
          exact ih5 x5 x11 s9 _ _ _ hq hB (lv_sub hl [1, 2, 3, 4, 0] rfl)
        · refine lv_aload_n hx hb dX10_shift_23 rfl (lv_at hl 1 rfl) ?_
          refine lv_aload_n hx hb dX10_shift_24 rfl (lv_at hl 0 rfl) ?_
          refine lv_iload hx hb dX10_shift_25 (lv_at hl 4 rfl) ?_
          refine zz_callVi S hT hB (As := [.int x6]) (b := a0) (o := f_X10_setOf T N s9 a0 x6) (c_X10_setOf l D cy T hT ad N s9 _ a0 x6) (cwV 1 hts (gV wSub wd_356 wd_357 wd_358 wd_353 wd_359) rfl rfl rfl (by decide +kernel) ⟨Nat.le_of_ble_eq_true rfl, Nat.le_of_ble_eq_true rfl⟩) (F := TX10) (NF := 3) 10 rfl (by decide) (k_X10_setOf T N s9 a0 x6) rfl hl.1 rfl (Nat.le_of_ble_eq_true rfl) dX10_shift_27 hq (fun x13 s12 H locs hq hB => ?_)
          refine lv_iload_n hx hb dX10_shift_30 rfl (lv_at hl 2 rfl) ?_
          refine lv_aload_n hx hb dX10_shift_31 rfl (lv_at hl 0 rfl) ?_
          refine lv_iload hx hb dX10_shift_32 (lv_at hl 4 rfl) ?_
          refine zz_callVi S hT hB (As := [.int x6]) (b := a0) (o := f_X10_wayOf T N s12 a0 x6) (c_X10_wayOf l D cy T hT ad N s12 _ a0 x6) (cwV 1 hts (gV wSub wd_377 wd_378 wd_379 wd_353 wd_380) rfl rfl rfl (by decide +kernel) ⟨Nat.le_of_ble_eq_true rfl, Nat.le_of_ble_eq_true rfl⟩) (F := TX10) (NF := 3) 10 rfl (by decide) (k_X10_wayOf T N s12 a0 x6) rfl hl.1 rfl (Nat.le_of_ble_eq_true rfl) dX10_shift_34 hq (fun x15 s14 H locs hq hB => ?_)
          refine zz_callVv S hT hB (As := [.int x13, .int x2, .int x15]) (b := a1) (o := f_X7_shift T N s14 a1 x13 x2 x15) (c_X7_shift l D cy T hT ad N s14 _ a1 x13 x2 x15) (cwV 3 hts (gV wSub wd_385 wd_386 wd_387 wd_35 wd_388) rfl rfl rfl (by decide +kernel) ⟨Nat.le_of_ble_eq_true rfl, Nat.le_of_ble_eq_true rfl⟩) (F := TX7) (NF := 3) 7 rfl (by decide) (k_X7_shift T N s14 a1 x13 x2 x15) rfl hl.1 rfl (Nat.le_of_ble_eq_true rfl) dX10_shift_37 hq (fun s16 H locs hq hB => ?_)
          refine zz_nmV hq (fun x17 ex17 hq => ?_)
          refine lv_iinc (v := x17) (lv' := [(3, .int x17), (0, .ref (ad a0)), (1, .ref (ad a1)), (2, .int x2), (4, .int x6)]) hx hb dX10_shift_40 hl (k := 3) rfl (by rw [ex17]; rfl) (by decide) rfl (fun ls hl => ?_)
          refine zz_nmV hq (fun x18 ex18 hq => ?_)
          refine lv_iinc (v := x18) (lv' := [(4, .int x18), (3, .int x17), (0, .ref (ad a0)), (1, .ref (ad a1)), (2, .int x2)]) hx hb dX10_shift_43 hl (k := 4) rfl (by rw [ex18]; rfl) (by decide) rfl (fun ls hl => ?_)
          refine lv_goto (tgt := 5) hx hb dX10_shift_46 (by decide) ?_
          exact ih5 x17 x18 s16 _ _ _ hq hB (lv_sub hl [2, 3, 4, 1, 0] rfl)
  exact L5 N (0 : Int32) (0 : Int32) s0 _ _ _ hq hB (lv_sub hl [2, 3, 4, 1, 0] rfl)
def f_X11_addShape (T : zT) (N : Nat) (s0 : zS) (a0 : Nat) (x1 : Int32) (x2 : Int32) (x3 : Int32) (x4 : Int32) (x5 : Int32) : Option (Int32 × zS) :=
  zz1 (T.1 a0 = 11) <|
  zb2 (f_X11_isWithin T N s0 x1 (0 : Int32) (2 : Int32)) fun x9 s8 =>
  if x9 = 0 then (
    some ((-1 : Int32), s8))
  else (
    zb2 (f_X11_isCoordinate T N s8 x2) fun x11 s10 =>
    if x11 = 0 then (
      some ((-1 : Int32), s10))
    else (
      zb2 (f_X11_isCoordinate T N s10 x3) fun x13 s12 =>
      if ¬ x13 = 0 then (
        zb2 (f_X11_isSize T N s12 x4) fun x15 s14 =>
        if x15 = 0 then (
          some ((-1 : Int32), s14))
        else (
          zb2 (f_X11_isSize T N s14 x5) fun x17 s16 =>
          if ¬ x17 = 0 then (
            (gR T s16 a0 11 0).bind fun a18 =>
            (gR T s16 a18 2 0).bind fun a19 =>
            (gI T s16 a19 7 1).bind fun x20 =>
            if x20 < (20 : Int32) then (
              (gR T s16 a0 11 1).bind fun a21 =>
              (gR T s16 a0 11 0).bind fun a22 =>
              (f_X5_keep T N s16 a21 a22).bind fun s23 =>
              (gR T s23 a0 11 0).bind fun a24 =>
              (gR T s23 a24 2 0).bind fun a25 =>
              zb2 (f_X7_add T N s23 a25 x1 x2 x3 x4 x5) fun x27 s26 =>
              some (x27, s26))
            else (
              some ((-3 : Int32), s16)))
          else (
            some ((-1 : Int32), s16))))
      else (
        some ((-1 : Int32), s12))))
theorem k_X11_addShape (T : zT) (N : Nat) (s0 : zS) (a0 : Nat) (x1 : Int32) (x2 : Int32) (x3 : Int32) (x4 : Int32) (x5 : Int32) : ∀ q, f_X11_addShape T N s0 a0 x1 x2 x3 x4 x5 = some q → T.1 a0 = 11 := by
  intro q h
  unfold f_X11_addShape at h
  exact zz_guard h (fun h _ => h)
set_option maxHeartbeats 4000000 in
set_option maxRecDepth 100000 in
theorem c_X11_addShape (l : Launch) (D : va_G) (cy : Nat → ClassId) (T : zT) (hT : zok T) (ad : Nat → Nat) (N : Nat) (s0 : zS) (sz : Nat) (a0 : Nat) (x1 : Int32) (x2 : Int32) (x3 : Int32) (x4 : Int32) (x5 : Int32) : ∀ (r0 : Int32) (σ0 : zS), f_X11_addShape T N s0 a0 x1 x2 x3 x4 x5 = some (r0, σ0) → Met l yX11_addShape wsX11_addShape ({ frames := 5, cells := 0, slots := 0, locals := 106 }) (va_Pc [.ref (ad a0), .int x1, .int x2, .int x3, .int x4, .int x5] (zPre D cy T ad s0 sz)) (va_Qi (fun (r2 : Int32) (σ2 : zS) => r2 = r0 ∧ σ2 = σ0) (zAt D cy T ad (zA T ad sz)) (zA T ad sz)) 0 0 (zA T ad sz) := by
  intro r0 σ0 hq
  refine Met.ofW (cc := cX11_addShape) (maxL := 6) (ret := (some .int)) (by decide) rfl ?_
  intro p e s m args below meth c s₁ B hml hv
  obtain ⟨hargs, hsz, hP, hK, hD0, hN⟩ := hv
  have hx := B.exec
  have hb := B.bytes
  have hr := B.returns
  have hts := atoms_spec (ws := wsX11_addShape) B.pre
  have hown : s.vm.findClass RX11 = some m.cls := findClass_of_methodNamed B.named
  have hlocks := B.notSynchronized
  have S : CallFix p m c cX11_addShape 6 s args wsX11_addShape RX11 := ⟨hx, hb, hml, hown, hts⟩
  subst hsz
  have hB : zB D cy T ad (zA T ad s.heap.size) s.heap s0 s.heap [] s := zz_entry hP hK hD0 hN
  obtain ⟨ls, hent, hl⟩ := zz_ent m hargs (n := 6) (Nat.le_of_ble_eq_true rfl)
  rw [hent]
  have hl : lv_has ls 6 [(0, .ref (ad a0)), (1, .int x1), (2, .int x2), (3, .int x3), (4, .int x4), (5, .int x5)] := hl
  have iwX11 : ∀ w ∈ u_ws RX11 TX11 5, w ∈ wsX11_addShape := fun w h => wS (inWX11 w h)
  have iwX2 : ∀ w ∈ u_ws RX2 TX2 4, w ∈ wsX11_addShape := fun w h => wS (inWX2 w h)
  have iwX7 : ∀ w ∈ u_ws RX7 TX7 3, w ∈ wsX11_addShape := fun w h => wS (inWX7 w h)
  unfold f_X11_addShape at hq
  refine zz_guard hq (fun hk0 hq => ?_)
  refine lv_iload_n hx hb dX11_addShape_0 rfl (lv_at hl 1 rfl) ?_
  refine lv_iconst (v := 0) hx hb dX11_addShape_1 (by decide) ?_
  refine lv_iconst (v := 2) hx hb dX11_addShape_2 (by decide) ?_
  refine zz_callSi S hT hB (As := [.int x1, .int (0 : Int32), .int (2 : Int32)]) (o := f_X11_isWithin T N s0 x1 (0 : Int32) (2 : Int32)) (c_X11_isWithin l D cy T hT ad N s0 _ x1 (0 : Int32) (2 : Int32)) (va_cwS 3 hts (gS wSub wd_253 wd_222 wd_102 wd_221) rfl rfl rfl (by decide +kernel) ⟨Nat.le_of_ble_eq_true rfl, Nat.le_of_ble_eq_true rfl⟩) rfl hl.1 rfl (Nat.le_of_ble_eq_true rfl) dX11_addShape_3 hq (fun x9 s8 H locs hq hB => ?_)
  refine zz_if_eq (tgt := 23) hx hb dX11_addShape_6 (by decide) hq (fun hq => ?_) (fun hq => ?_)
  · refine lv_iconst (v := -1) hx hb dX11_addShape_23 (by decide) ?_
    exact zz_iret S hB hr hlocks dX11_addShape_24 hq
  · refine lv_iload_n hx hb dX11_addShape_9 rfl (lv_at hl 2 rfl) ?_
    refine zz_callSi S hT hB (As := [.int x2]) (o := f_X11_isCoordinate T N s8 x2) (c_X11_isCoordinate l D cy T hT ad N s8 _ x2) (va_cwS 1 hts (gS wSub wd_389 wd_255 wd_102 wd_254) rfl rfl rfl (by decide +kernel) ⟨Nat.le_of_ble_eq_true rfl, Nat.le_of_ble_eq_true rfl⟩) rfl hl.1 rfl (Nat.le_of_ble_eq_true rfl) dX11_addShape_10 hq (fun x11 s10 H locs hq hB => ?_)
    refine zz_if_eq (tgt := 23) hx hb dX11_addShape_13 (by decide) hq (fun hq => ?_) (fun hq => ?_)
    · refine lv_iconst (v := -1) hx hb dX11_addShape_23 (by decide) ?_
      exact zz_iret S hB hr hlocks dX11_addShape_24 hq
    · refine lv_iload_n hx hb dX11_addShape_16 rfl (lv_at hl 3 rfl) ?_
      refine zz_callSi S hT hB (As := [.int x3]) (o := f_X11_isCoordinate T N s10 x3) (c_X11_isCoordinate l D cy T hT ad N s10 _ x3) (va_cwS 1 hts (gS wSub wd_389 wd_255 wd_102 wd_254) rfl rfl rfl (by decide +kernel) ⟨Nat.le_of_ble_eq_true rfl, Nat.le_of_ble_eq_true rfl⟩) rfl hl.1 rfl (Nat.le_of_ble_eq_true rfl) dX11_addShape_17 hq (fun x13 s12 H locs hq hB => ?_)
      refine zz_if_ne (tgt := 25) hx hb dX11_addShape_20 (by decide) hq (fun hq => ?_) (fun hq => ?_)
      · refine lv_iload hx hb dX11_addShape_25 (lv_at hl 4 rfl) ?_
        refine zz_callSi S hT hB (As := [.int x4]) (o := f_X11_isSize T N s12 x4) (c_X11_isSize l D cy T hT ad N s12 _ x4) (va_cwS 1 hts (gS wSub wd_390 wd_318 wd_102 wd_317) rfl rfl rfl (by decide +kernel) ⟨Nat.le_of_ble_eq_true rfl, Nat.le_of_ble_eq_true rfl⟩) rfl hl.1 rfl (Nat.le_of_ble_eq_true rfl) dX11_addShape_27 hq (fun x15 s14 H locs hq hB => ?_)
        refine zz_if_eq (tgt := 41) hx hb dX11_addShape_30 (by decide) hq (fun hq => ?_) (fun hq => ?_)
        · refine lv_iconst (v := -1) hx hb dX11_addShape_41 (by decide) ?_
          exact zz_iret S hB hr hlocks dX11_addShape_42 hq
        · refine lv_iload hx hb dX11_addShape_33 (lv_at hl 5 rfl) ?_
          refine zz_callSi S hT hB (As := [.int x5]) (o := f_X11_isSize T N s14 x5) (c_X11_isSize l D cy T hT ad N s14 _ x5) (va_cwS 1 hts (gS wSub wd_390 wd_318 wd_102 wd_317) rfl rfl rfl (by decide +kernel) ⟨Nat.le_of_ble_eq_true rfl, Nat.le_of_ble_eq_true rfl⟩) rfl hl.1 rfl (Nat.le_of_ble_eq_true rfl) dX11_addShape_35 hq (fun x17 s16 H locs hq hB => ?_)
          refine zz_if_ne (tgt := 43) hx hb dX11_addShape_38 (by decide) hq (fun hq => ?_) (fun hq => ?_)
          · refine lv_aload_n hx hb dX11_addShape_43 rfl (lv_at hl 0 rfl) ?_
            refine zz_getR S hT hB (C := RX11) (ref := "DiagramDesk") (F := TX11) (N := 5) (index := 10) 11 0 iwX11 rfl (by decide) (by decide) rfl rfl (wS wd_391) (fun _ h9 => h9) dX11_addShape_44 hq (fun a18 hq => ?_)
            refine zz_getR S hT hB (C := RX2) (ref := "DiagramDesk$Diagram") (F := TX2) (N := 4) (index := 55) 2 0 iwX2 rfl (by decide) (by decide) rfl rfl (wS wd_392) (fun _ h9 => h9) dX11_addShape_47 hq (fun a19 hq => ?_)
            refine zz_get S hT hB (C := RX7) (ref := "DiagramDesk$Shapes") (F := TX7) (N := 3) (index := 59) 7 1 iwX7 rfl (by decide) (by decide) rfl rfl (wS wd_393) (fun _ h9 => h9) dX11_addShape_50 hq (fun x20 hq => ?_)
            refine lv_bipush (v := 20) hx hb dX11_addShape_53 (by decide) ?_
            refine zz_icmp_lt (tgt := 61) hx hb dX11_addShape_55 (by decide) hq (fun hq => ?_) (fun hq => ?_)
            · refine lv_aload_n hx hb dX11_addShape_61 rfl (lv_at hl 0 rfl) ?_
              refine zz_getR S hT hB (C := RX11) (ref := "DiagramDesk") (F := TX11) (N := 5) (index := 19) 11 1 iwX11 rfl (by decide) (by decide) rfl rfl (wS wd_394) (fun _ h9 => h9) dX11_addShape_62 hq (fun a21 hq => ?_)
              refine lv_aload_n hx hb dX11_addShape_65 rfl (lv_at hl 0 rfl) ?_
              refine zz_getR S hT hB (C := RX11) (ref := "DiagramDesk") (F := TX11) (N := 5) (index := 10) 11 0 iwX11 rfl (by decide) (by decide) rfl rfl (wS wd_391) (fun _ h9 => h9) dX11_addShape_66 hq (fun a22 hq => ?_)
              refine zz_callVv S hT hB (As := [.ref (ad a22)]) (b := a21) (o := f_X5_keep T N s16 a21 a22) (c_X5_keep l D cy T hT ad N s16 _ a21 a22) (cwV 1 hts (gV wSub wd_395 wd_396 wd_397 wd_215 wd_398) rfl rfl rfl (by decide +kernel) ⟨Nat.le_of_ble_eq_true rfl, Nat.le_of_ble_eq_true rfl⟩) (F := TX5) (NF := 2) 5 rfl (by decide) (k_X5_keep T N s16 a21 a22) rfl hl.1 rfl (Nat.le_of_ble_eq_true rfl) dX11_addShape_69 hq (fun s23 H locs hq hB => ?_)
              refine lv_aload_n hx hb dX11_addShape_72 rfl (lv_at hl 0 rfl) ?_
              refine zz_getR S hT hB (C := RX11) (ref := "DiagramDesk") (F := TX11) (N := 5) (index := 10) 11 0 iwX11 rfl (by decide) (by decide) rfl rfl (wS wd_391) (fun _ h9 => h9) dX11_addShape_73 hq (fun a24 hq => ?_)
              refine zz_getR S hT hB (C := RX2) (ref := "DiagramDesk$Diagram") (F := TX2) (N := 4) (index := 55) 2 0 iwX2 rfl (by decide) (by decide) rfl rfl (wS wd_392) (fun _ h9 => h9) dX11_addShape_76 hq (fun a25 hq => ?_)
              refine lv_iload_n hx hb dX11_addShape_79 rfl (lv_at hl 1 rfl) ?_
              refine lv_iload_n hx hb dX11_addShape_80 rfl (lv_at hl 2 rfl) ?_
              refine lv_iload_n hx hb dX11_addShape_81 rfl (lv_at hl 3 rfl) ?_
              refine lv_iload hx hb dX11_addShape_82 (lv_at hl 4 rfl) ?_
              refine lv_iload hx hb dX11_addShape_84 (lv_at hl 5 rfl) ?_
              refine zz_callVi S hT hB (As := [.int x1, .int x2, .int x3, .int x4, .int x5]) (b := a25) (o := f_X7_add T N s23 a25 x1 x2 x3 x4 x5) (c_X7_add l D cy T hT ad N s23 _ a25 x1 x2 x3 x4 x5) (cwV 5 hts (gV wSub wd_399 wd_400 wd_401 wd_35 wd_402) rfl rfl rfl (by decide +kernel) ⟨Nat.le_of_ble_eq_true rfl, Nat.le_of_ble_eq_true rfl⟩) (F := TX7) (NF := 3) 7 rfl (by decide) (k_X7_add T N s23 a25 x1 x2 x3 x4 x5) rfl hl.1 rfl (Nat.le_of_ble_eq_true rfl) dX11_addShape_86 hq (fun x27 s26 H locs hq hB => ?_)
              exact zz_iret S hB hr hlocks dX11_addShape_89 hq
            · refine lv_bipush (v := -3) hx hb dX11_addShape_58 (by decide) ?_
              exact zz_iret S hB hr hlocks dX11_addShape_60 hq
          · refine lv_iconst (v := -1) hx hb dX11_addShape_41 (by decide) ?_
            exact zz_iret S hB hr hlocks dX11_addShape_42 hq
      · refine lv_iconst (v := -1) hx hb dX11_addShape_23 (by decide) ?_
        exact zz_iret S hB hr hlocks dX11_addShape_24 hq
def f_X11_removeShape (T : zT) (N : Nat) (s0 : zS) (a0 : Nat) (x1 : Int32) : Option (Int32 × zS) :=
  zz1 (T.1 a0 = 11) <|
  (gR T s0 a0 11 0).bind fun a4 =>
  (gR T s0 a4 2 0).bind fun a5 =>
  zb2 (f_X7_find T N s0 a5 x1) fun o7 s6 => zo o7 (
    some ((-1 : Int32), s6))
  fun a8 => (
    (gR T s6 a0 11 1).bind fun a9 =>
    (gR T s6 a0 11 0).bind fun a10 =>
    (f_X5_keep T N s6 a9 a10).bind fun s11 =>
    (gR T s11 a0 11 0).bind fun a12 =>
    zb2 (f_X2_dropShape T N s11 a12 x1) fun x14 s13 =>
    some (x14, s13))
theorem k_X11_removeShape (T : zT) (N : Nat) (s0 : zS) (a0 : Nat) (x1 : Int32) : ∀ q, f_X11_removeShape T N s0 a0 x1 = some q → T.1 a0 = 11 := by
  intro q h
  unfold f_X11_removeShape at h
  exact zz_guard h (fun h _ => h)
set_option maxHeartbeats 4000000 in
set_option maxRecDepth 100000 in
theorem c_X11_removeShape (l : Launch) (D : va_G) (cy : Nat → ClassId) (T : zT) (hT : zok T) (ad : Nat → Nat) (N : Nat) (s0 : zS) (sz : Nat) (a0 : Nat) (x1 : Int32) : ∀ (r0 : Int32) (σ0 : zS), f_X11_removeShape T N s0 a0 x1 = some (r0, σ0) → Met l yX11_removeShape wsX11_removeShape ({ frames := 5, cells := 0, slots := 0, locals := 112 }) (va_Pc [.ref (ad a0), .int x1] (zPre D cy T ad s0 sz)) (va_Qi (fun (r2 : Int32) (σ2 : zS) => r2 = r0 ∧ σ2 = σ0) (zAt D cy T ad (zA T ad sz)) (zA T ad sz)) 0 0 (zA T ad sz) := by
  intro r0 σ0 hq
  refine Met.ofW (cc := cX11_removeShape) (maxL := 2) (ret := (some .int)) (by decide) rfl ?_
  intro p e s m args below meth c s₁ B hml hv
  obtain ⟨hargs, hsz, hP, hK, hD0, hN⟩ := hv
  have hx := B.exec
  have hb := B.bytes
  have hr := B.returns
  have hts := atoms_spec (ws := wsX11_removeShape) B.pre
  have hown : s.vm.findClass RX11 = some m.cls := findClass_of_methodNamed B.named
  have hlocks := B.notSynchronized
  have S : CallFix p m c cX11_removeShape 2 s args wsX11_removeShape RX11 := ⟨hx, hb, hml, hown, hts⟩
  subst hsz
  have hB : zB D cy T ad (zA T ad s.heap.size) s.heap s0 s.heap [] s := zz_entry hP hK hD0 hN
  obtain ⟨ls, hent, hl⟩ := zz_ent m hargs (n := 2) (Nat.le_of_ble_eq_true rfl)
  rw [hent]
  have hl : lv_has ls 2 [(0, .ref (ad a0)), (1, .int x1)] := hl
  have iwX11 : ∀ w ∈ u_ws RX11 TX11 5, w ∈ wsX11_removeShape := fun w h => wS (inWX11 w h)
  have iwX2 : ∀ w ∈ u_ws RX2 TX2 4, w ∈ wsX11_removeShape := fun w h => wS (inWX2 w h)
  unfold f_X11_removeShape at hq
  refine zz_guard hq (fun hk0 hq => ?_)
  refine lv_aload_n hx hb dX11_removeShape_0 rfl (lv_at hl 0 rfl) ?_
  refine zz_getR S hT hB (C := RX11) (ref := "DiagramDesk") (F := TX11) (N := 5) (index := 10) 11 0 iwX11 rfl (by decide) (by decide) rfl rfl (wS wd_391) (fun _ h9 => h9) dX11_removeShape_1 hq (fun a4 hq => ?_)
  refine zz_getR S hT hB (C := RX2) (ref := "DiagramDesk$Diagram") (F := TX2) (N := 4) (index := 55) 2 0 iwX2 rfl (by decide) (by decide) rfl rfl (wS wd_392) (fun _ h9 => h9) dX11_removeShape_4 hq (fun a5 hq => ?_)
  refine lv_iload_n hx hb dX11_removeShape_7 rfl (lv_at hl 1 rfl) ?_
  refine zz_callVq S hT hB (As := [.int x1]) (b := a5) (o := f_X7_find T N s0 a5 x1) (c_X7_find l D cy T hT ad N s0 _ a5 x1) (cwV 1 hts (gV wSub wd_403 wd_33 wd_34 wd_35 wd_36) rfl rfl rfl (by decide +kernel) ⟨Nat.le_of_ble_eq_true rfl, Nat.le_of_ble_eq_true rfl⟩) (F := TX7) (NF := 3) 7 rfl (by decide) (k_X7_find T N s0 a5 x1) rfl hl.1 rfl (Nat.le_of_ble_eq_true rfl) dX11_removeShape_8 hq (fun s6 H locs hq hB => ?_) (fun a8 s6 H locs hq hB => ?_)
  · refine lv_ifnonnullN hx hb dX11_removeShape_11 ?_
    refine lv_iconst (v := -1) hx hb dX11_removeShape_14 (by decide) ?_
    exact zz_iret S hB hr hlocks dX11_removeShape_15 hq
  · refine lv_ifnonnull (tgt := 16) hx hb dX11_removeShape_11 (by decide) ?_
    refine lv_aload_n hx hb dX11_removeShape_16 rfl (lv_at hl 0 rfl) ?_
    refine zz_getR S hT hB (C := RX11) (ref := "DiagramDesk") (F := TX11) (N := 5) (index := 19) 11 1 iwX11 rfl (by decide) (by decide) rfl rfl (wS wd_394) (fun _ h9 => h9) dX11_removeShape_17 hq (fun a9 hq => ?_)
    refine lv_aload_n hx hb dX11_removeShape_20 rfl (lv_at hl 0 rfl) ?_
    refine zz_getR S hT hB (C := RX11) (ref := "DiagramDesk") (F := TX11) (N := 5) (index := 10) 11 0 iwX11 rfl (by decide) (by decide) rfl rfl (wS wd_391) (fun _ h9 => h9) dX11_removeShape_21 hq (fun a10 hq => ?_)
    refine zz_callVv S hT hB (As := [.ref (ad a10)]) (b := a9) (o := f_X5_keep T N s6 a9 a10) (c_X5_keep l D cy T hT ad N s6 _ a9 a10) (cwV 1 hts (gV wSub wd_395 wd_396 wd_397 wd_215 wd_398) rfl rfl rfl (by decide +kernel) ⟨Nat.le_of_ble_eq_true rfl, Nat.le_of_ble_eq_true rfl⟩) (F := TX5) (NF := 2) 5 rfl (by decide) (k_X5_keep T N s6 a9 a10) rfl hl.1 rfl (Nat.le_of_ble_eq_true rfl) dX11_removeShape_24 hq (fun s11 H locs hq hB => ?_)
    refine lv_aload_n hx hb dX11_removeShape_27 rfl (lv_at hl 0 rfl) ?_
    refine zz_getR S hT hB (C := RX11) (ref := "DiagramDesk") (F := TX11) (N := 5) (index := 10) 11 0 iwX11 rfl (by decide) (by decide) rfl rfl (wS wd_391) (fun _ h9 => h9) dX11_removeShape_28 hq (fun a12 hq => ?_)
    refine lv_iload_n hx hb dX11_removeShape_31 rfl (lv_at hl 1 rfl) ?_
    refine zz_callVi S hT hB (As := [.int x1]) (b := a12) (o := f_X2_dropShape T N s11 a12 x1) (c_X2_dropShape l D cy T hT ad N s11 _ a12 x1) (cwV 1 hts (gV wSub wd_404 wd_405 wd_406 wd_174 wd_407) rfl rfl rfl (by decide +kernel) ⟨Nat.le_of_ble_eq_true rfl, Nat.le_of_ble_eq_true rfl⟩) (F := TX2) (NF := 4) 2 rfl (by decide) (k_X2_dropShape T N s11 a12 x1) rfl hl.1 rfl (Nat.le_of_ble_eq_true rfl) dX11_removeShape_32 hq (fun x14 s13 H locs hq hB => ?_)
    exact zz_iret S hB hr hlocks dX11_removeShape_35 hq
def f_X11_resize (T : zT) (N : Nat) (s0 : zS) (a0 : Nat) (x1 : Int32) (x2 : Int32) (x3 : Int32) : Option (Int32 × zS) :=
  zz1 (T.1 a0 = 11) <|
  (gR T s0 a0 11 0).bind fun a6 =>
  (gR T s0 a6 2 0).bind fun a7 =>
  zb2 (f_X7_find T N s0 a7 x1) fun o9 s8 => zo o9 (
    some ((-1 : Int32), s8))
  fun a10 => (
    zb2 (f_X11_isSize T N s8 x2) fun x12 s11 =>
    if x12 = 0 then (
      some ((-1 : Int32), s11))
    else (
      zb2 (f_X11_isSize T N s11 x3) fun x14 s13 =>
      if ¬ x14 = 0 then (
        (gR T s13 a0 11 1).bind fun a15 =>
        (gR T s13 a0 11 0).bind fun a16 =>
        (f_X5_keep T N s13 a15 a16).bind fun s17 =>
        (pI T s17 a10 6 4 x2).bind fun s18 =>
        (pI T s18 a10 6 5 x3).bind fun s19 =>
        (gR T s19 a0 11 0).bind fun a20 =>
        (gR T s19 a20 2 1).bind fun a21 =>
        zb2 (f_X1_countAt T N s19 a21 x1) fun x23 s22 =>
        some (x23, s22))
      else (
        some ((-1 : Int32), s13))))
theorem k_X11_resize (T : zT) (N : Nat) (s0 : zS) (a0 : Nat) (x1 : Int32) (x2 : Int32) (x3 : Int32) : ∀ q, f_X11_resize T N s0 a0 x1 x2 x3 = some q → T.1 a0 = 11 := by
  intro q h
  unfold f_X11_resize at h
  exact zz_guard h (fun h _ => h)
set_option maxHeartbeats 4000000 in
set_option maxRecDepth 100000 in
theorem c_X11_resize (l : Launch) (D : va_G) (cy : Nat → ClassId) (T : zT) (hT : zok T) (ad : Nat → Nat) (N : Nat) (s0 : zS) (sz : Nat) (a0 : Nat) (x1 : Int32) (x2 : Int32) (x3 : Int32) : ∀ (r0 : Int32) (σ0 : zS), f_X11_resize T N s0 a0 x1 x2 x3 = some (r0, σ0) → Met l yX11_resize wsX11_resize ({ frames := 5, cells := 0, slots := 0, locals := 106 }) (va_Pc [.ref (ad a0), .int x1, .int x2, .int x3] (zPre D cy T ad s0 sz)) (va_Qi (fun (r2 : Int32) (σ2 : zS) => r2 = r0 ∧ σ2 = σ0) (zAt D cy T ad (zA T ad sz)) (zA T ad sz)) 0 0 (zA T ad sz) := by
  intro r0 σ0 hq
  refine Met.ofW (cc := cX11_resize) (maxL := 5) (ret := (some .int)) (by decide) rfl ?_
  intro p e s m args below meth c s₁ B hml hv
  obtain ⟨hargs, hsz, hP, hK, hD0, hN⟩ := hv
  have hx := B.exec
  have hb := B.bytes
  have hr := B.returns
  have hts := atoms_spec (ws := wsX11_resize) B.pre
  have hown : s.vm.findClass RX11 = some m.cls := findClass_of_methodNamed B.named
  have hlocks := B.notSynchronized
  have S : CallFix p m c cX11_resize 5 s args wsX11_resize RX11 := ⟨hx, hb, hml, hown, hts⟩
  subst hsz
  have hB : zB D cy T ad (zA T ad s.heap.size) s.heap s0 s.heap [] s := zz_entry hP hK hD0 hN
  obtain ⟨ls, hent, hl⟩ := zz_ent m hargs (n := 5) (Nat.le_of_ble_eq_true rfl)
  rw [hent]
  have hl : lv_has ls 5 [(0, .ref (ad a0)), (1, .int x1), (2, .int x2), (3, .int x3)] := hl
  have iwX11 : ∀ w ∈ u_ws RX11 TX11 5, w ∈ wsX11_resize := fun w h => wS (inWX11 w h)
  have iwX2 : ∀ w ∈ u_ws RX2 TX2 4, w ∈ wsX11_resize := fun w h => wS (inWX2 w h)
  have iwX6 : ∀ w ∈ u_ws RX6 TX6 8, w ∈ wsX11_resize := fun w h => wS (inWX6 w h)
  unfold f_X11_resize at hq
  refine zz_guard hq (fun hk0 hq => ?_)
  refine lv_aload_n hx hb dX11_resize_0 rfl (lv_at hl 0 rfl) ?_
  refine zz_getR S hT hB (C := RX11) (ref := "DiagramDesk") (F := TX11) (N := 5) (index := 10) 11 0 iwX11 rfl (by decide) (by decide) rfl rfl (wS wd_391) (fun _ h9 => h9) dX11_resize_1 hq (fun a6 hq => ?_)
  refine zz_getR S hT hB (C := RX2) (ref := "DiagramDesk$Diagram") (F := TX2) (N := 4) (index := 55) 2 0 iwX2 rfl (by decide) (by decide) rfl rfl (wS wd_392) (fun _ h9 => h9) dX11_resize_4 hq (fun a7 hq => ?_)
  refine lv_iload_n hx hb dX11_resize_7 rfl (lv_at hl 1 rfl) ?_
  refine zz_callVq S hT hB (As := [.int x1]) (b := a7) (o := f_X7_find T N s0 a7 x1) (c_X7_find l D cy T hT ad N s0 _ a7 x1) (cwV 1 hts (gV wSub wd_403 wd_33 wd_34 wd_35 wd_36) rfl rfl rfl (by decide +kernel) ⟨Nat.le_of_ble_eq_true rfl, Nat.le_of_ble_eq_true rfl⟩) (F := TX7) (NF := 3) 7 rfl (by decide) (k_X7_find T N s0 a7 x1) rfl hl.1 rfl (Nat.le_of_ble_eq_true rfl) dX11_resize_8 hq (fun s8 H locs hq hB => ?_) (fun a10 s8 H locs hq hB => ?_)
  · refine lv_astoreN (lv' := [(4, .null), (0, .ref (ad a0)), (1, .int x1), (2, .int x2), (3, .int x3)]) hx hb dX11_resize_11 hl (by decide) rfl (fun ls hl => ?_)
    refine lv_aloadN hx hb dX11_resize_13 (lv_at hl 0 rfl) ?_
    refine lv_ifnullN (tgt := 32) hx hb dX11_resize_15 (by decide) ?_
    refine lv_iconst (v := -1) hx hb dX11_resize_32 (by decide) ?_
    exact zz_iret S hB hr hlocks dX11_resize_33 hq
  · refine lv_astore (lv' := [(4, .ref (ad a10)), (0, .ref (ad a0)), (1, .int x1), (2, .int x2), (3, .int x3)]) hx hb dX11_resize_11 hl (by decide) rfl (fun ls hl => ?_)
    refine lv_aload hx hb dX11_resize_13 (lv_at hl 0 rfl) ?_
    refine lv_ifnull hx hb dX11_resize_15 ?_
    refine lv_iload_n hx hb dX11_resize_18 rfl (lv_at hl 3 rfl) ?_
    refine zz_callSi S hT hB (As := [.int x2]) (o := f_X11_isSize T N s8 x2) (c_X11_isSize l D cy T hT ad N s8 _ x2) (va_cwS 1 hts (gS wSub wd_390 wd_318 wd_102 wd_317) rfl rfl rfl (by decide +kernel) ⟨Nat.le_of_ble_eq_true rfl, Nat.le_of_ble_eq_true rfl⟩) rfl hl.1 rfl (Nat.le_of_ble_eq_true rfl) dX11_resize_19 hq (fun x12 s11 H locs hq hB => ?_)
    refine zz_if_eq (tgt := 32) hx hb dX11_resize_22 (by decide) hq (fun hq => ?_) (fun hq => ?_)
    · refine lv_iconst (v := -1) hx hb dX11_resize_32 (by decide) ?_
      exact zz_iret S hB hr hlocks dX11_resize_33 hq
    · refine lv_iload_n hx hb dX11_resize_25 rfl (lv_at hl 4 rfl) ?_
      refine zz_callSi S hT hB (As := [.int x3]) (o := f_X11_isSize T N s11 x3) (c_X11_isSize l D cy T hT ad N s11 _ x3) (va_cwS 1 hts (gS wSub wd_390 wd_318 wd_102 wd_317) rfl rfl rfl (by decide +kernel) ⟨Nat.le_of_ble_eq_true rfl, Nat.le_of_ble_eq_true rfl⟩) rfl hl.1 rfl (Nat.le_of_ble_eq_true rfl) dX11_resize_26 hq (fun x14 s13 H locs hq hB => ?_)
      refine zz_if_ne (tgt := 34) hx hb dX11_resize_29 (by decide) hq (fun hq => ?_) (fun hq => ?_)
      · refine lv_aload_n hx hb dX11_resize_34 rfl (lv_at hl 1 rfl) ?_
        refine zz_getR S hT hB (C := RX11) (ref := "DiagramDesk") (F := TX11) (N := 5) (index := 19) 11 1 iwX11 rfl (by decide) (by decide) rfl rfl (wS wd_394) (fun _ h9 => h9) dX11_resize_35 hq (fun a15 hq => ?_)
        refine lv_aload_n hx hb dX11_resize_38 rfl (lv_at hl 1 rfl) ?_
        refine zz_getR S hT hB (C := RX11) (ref := "DiagramDesk") (F := TX11) (N := 5) (index := 10) 11 0 iwX11 rfl (by decide) (by decide) rfl rfl (wS wd_391) (fun _ h9 => h9) dX11_resize_39 hq (fun a16 hq => ?_)
        refine zz_callVv S hT hB (As := [.ref (ad a16)]) (b := a15) (o := f_X5_keep T N s13 a15 a16) (c_X5_keep l D cy T hT ad N s13 _ a15 a16) (cwV 1 hts (gV wSub wd_395 wd_396 wd_397 wd_215 wd_398) rfl rfl rfl (by decide +kernel) ⟨Nat.le_of_ble_eq_true rfl, Nat.le_of_ble_eq_true rfl⟩) (F := TX5) (NF := 2) 5 rfl (by decide) (k_X5_keep T N s13 a15 a16) rfl hl.1 rfl (Nat.le_of_ble_eq_true rfl) dX11_resize_42 hq (fun s17 H locs hq hB => ?_)
        refine lv_aload hx hb dX11_resize_45 (lv_at hl 0 rfl) ?_
        refine lv_iload_n hx hb dX11_resize_47 rfl (lv_at hl 3 rfl) ?_
        refine zz_put S hT hB (C := RX6) (ref := "DiagramDesk$Shape") (F := TX6) (N := 8) (index := 81) 6 4 iwX6 tyX6 tyX6_ok nmX6 rfl (by decide) (by decide) rfl rfl (wS wd_408) (fun _ h9 => h9) rfl (by decide +kernel) dX11_resize_48 hq (fun s18 H locs hq hB => ?_)
        refine lv_aload hx hb dX11_resize_51 (lv_at hl 0 rfl) ?_
        refine lv_iload_n hx hb dX11_resize_53 rfl (lv_at hl 4 rfl) ?_
        refine zz_put S hT hB (C := RX6) (ref := "DiagramDesk$Shape") (F := TX6) (N := 8) (index := 86) 6 5 iwX6 tyX6 tyX6_ok nmX6 rfl (by decide) (by decide) rfl rfl (wS wd_409) (fun _ h9 => h9) rfl (by decide +kernel) dX11_resize_54 hq (fun s19 H locs hq hB => ?_)
        refine lv_aload_n hx hb dX11_resize_57 rfl (lv_at hl 1 rfl) ?_
        refine zz_getR S hT hB (C := RX11) (ref := "DiagramDesk") (F := TX11) (N := 5) (index := 10) 11 0 iwX11 rfl (by decide) (by decide) rfl rfl (wS wd_391) (fun _ h9 => h9) dX11_resize_58 hq (fun a20 hq => ?_)
        refine zz_getR S hT hB (C := RX2) (ref := "DiagramDesk$Diagram") (F := TX2) (N := 4) (index := 89) 2 1 iwX2 rfl (by decide) (by decide) rfl rfl (wS wd_410) (fun _ h9 => h9) dX11_resize_61 hq (fun a21 hq => ?_)
        refine lv_iload_n hx hb dX11_resize_64 rfl (lv_at hl 2 rfl) ?_
        refine zz_callVi S hT hB (As := [.int x1]) (b := a21) (o := f_X1_countAt T N s19 a21 x1) (c_X1_countAt l D cy T hT ad N s19 _ a21 x1) (cwV 1 hts (gV wSub wd_411 wd_412 wd_413 wd_94 wd_414) rfl rfl rfl (by decide +kernel) ⟨Nat.le_of_ble_eq_true rfl, Nat.le_of_ble_eq_true rfl⟩) (F := TX1) (NF := 2) 1 rfl (by decide) (k_X1_countAt T N s19 a21 x1) rfl hl.1 rfl (Nat.le_of_ble_eq_true rfl) dX11_resize_65 hq (fun x23 s22 H locs hq hB => ?_)
        exact zz_iret S hB hr hlocks dX11_resize_68 hq
      · refine lv_iconst (v := -1) hx hb dX11_resize_32 (by decide) ?_
        exact zz_iret S hB hr hlocks dX11_resize_33 hq
def f_X11_shape (T : zT) (N : Nat) (s0 : zS) (a0 : Nat) (x1 : Int32) (x2 : Int32) : Option (Int32 × zS) :=
  zz1 (T.1 a0 = 11) <|
  (gR T s0 a0 11 0).bind fun a5 =>
  (gR T s0 a5 2 0).bind fun a6 =>
  zb2 (f_X7_find T N s0 a6 x1) fun o8 s7 => zo o8 (
    some ((-1000000 : Int32), s7))
  fun a9 => (
    if x2 < (0 : Int32) ∨ (8 : Int32) < x2 then (
      some ((-1000000 : Int32), s7))
    else if x2 = (0 : Int32) then (
      (gI T s7 a9 6 1).bind fun x10 =>
      some (x10, s7))
    else if x2 = (1 : Int32) then (
      (gI T s7 a9 6 2).bind fun x11 =>
      some (x11, s7))
    else if x2 = (2 : Int32) then (
      (gI T s7 a9 6 3).bind fun x12 =>
      some (x12, s7))
    else if x2 = (3 : Int32) then (
      (gI T s7 a9 6 4).bind fun x13 =>
      some (x13, s7))
    else if x2 = (4 : Int32) then (
      (gI T s7 a9 6 5).bind fun x14 =>
      some (x14, s7))
    else if x2 = (5 : Int32) then (
      (gR T s7 a0 11 0).bind fun a15 =>
      (gR T s7 a15 2 0).bind fun a16 =>
      (gI T s7 a16 7 2).bind fun x17 =>
      zb2 (f_X11_hasBit T N s7 x17 x1) fun x19 s18 =>
      if x19 = 0 then (
        some ((0 : Int32), s18))
      else (
        some ((1 : Int32), s18)))
    else if x2 = (6 : Int32) then (
      (gI T s7 a9 6 6).bind fun x20 =>
      some (x20, s7))
    else if x2 = (7 : Int32) then (
      (gI T s7 a9 6 7).bind fun x21 =>
      some (x21, s7))
    else if x2 = (8 : Int32) then (
      (gR T s7 a0 11 0).bind fun a22 =>
      (gR T s7 a22 2 2).bind fun a23 =>
      (gI T s7 a9 6 7).bind fun x24 =>
      zb2 (f_X3_outermost T N s7 a23 x24) fun x26 s25 =>
      some (x26, s25))
    else none)
theorem k_X11_shape (T : zT) (N : Nat) (s0 : zS) (a0 : Nat) (x1 : Int32) (x2 : Int32) : ∀ q, f_X11_shape T N s0 a0 x1 x2 = some q → T.1 a0 = 11 := by
  intro q h
  unfold f_X11_shape at h
  exact zz_guard h (fun h _ => h)
set_option maxHeartbeats 4000000 in
set_option maxRecDepth 100000 in
theorem c_X11_shape (l : Launch) (D : va_G) (cy : Nat → ClassId) (T : zT) (hT : zok T) (ad : Nat → Nat) (N : Nat) (s0 : zS) (sz : Nat) (a0 : Nat) (x1 : Int32) (x2 : Int32) : ∀ (r0 : Int32) (σ0 : zS), f_X11_shape T N s0 a0 x1 x2 = some (r0, σ0) → Met l yX11_shape wsX11_shape ({ frames := 3, cells := 0, slots := 0, locals := 65 }) (va_Pc [.ref (ad a0), .int x1, .int x2] (zPre D cy T ad s0 sz)) (va_Qi (fun (r2 : Int32) (σ2 : zS) => r2 = r0 ∧ σ2 = σ0) (zAt D cy T ad (zA T ad sz)) (zA T ad sz)) 0 0 (zA T ad sz) := by
  intro r0 σ0 hq
  refine Met.ofW (cc := cX11_shape) (maxL := 4) (ret := (some .int)) (by decide) rfl ?_
  intro p e s m args below meth c s₁ B hml hv
  obtain ⟨hargs, hsz, hP, hK, hD0, hN⟩ := hv
  have hx := B.exec
  have hb := B.bytes
  have hr := B.returns
  have hts := atoms_spec (ws := wsX11_shape) B.pre
  have hown : s.vm.findClass RX11 = some m.cls := findClass_of_methodNamed B.named
  have hlocks := B.notSynchronized
  have S : CallFix p m c cX11_shape 4 s args wsX11_shape RX11 := ⟨hx, hb, hml, hown, hts⟩
  subst hsz
  have hB : zB D cy T ad (zA T ad s.heap.size) s.heap s0 s.heap [] s := zz_entry hP hK hD0 hN
  obtain ⟨ls, hent, hl⟩ := zz_ent m hargs (n := 4) (Nat.le_of_ble_eq_true rfl)
  rw [hent]
  have hl : lv_has ls 4 [(0, .ref (ad a0)), (1, .int x1), (2, .int x2)] := hl
  have iwX11 : ∀ w ∈ u_ws RX11 TX11 5, w ∈ wsX11_shape := fun w h => wS (inWX11 w h)
  have iwX2 : ∀ w ∈ u_ws RX2 TX2 4, w ∈ wsX11_shape := fun w h => wS (inWX2 w h)
  have iwX6 : ∀ w ∈ u_ws RX6 TX6 8, w ∈ wsX11_shape := fun w h => wS (inWX6 w h)
  have iwX7 : ∀ w ∈ u_ws RX7 TX7 3, w ∈ wsX11_shape := fun w h => wS (inWX7 w h)
  unfold f_X11_shape at hq
  refine zz_guard hq (fun hk0 hq => ?_)
  refine lv_aload_n hx hb dX11_shape_0 rfl (lv_at hl 0 rfl) ?_
  refine zz_getR S hT hB (C := RX11) (ref := "DiagramDesk") (F := TX11) (N := 5) (index := 10) 11 0 iwX11 rfl (by decide) (by decide) rfl rfl (wS wd_391) (fun _ h9 => h9) dX11_shape_1 hq (fun a5 hq => ?_)
  refine zz_getR S hT hB (C := RX2) (ref := "DiagramDesk$Diagram") (F := TX2) (N := 4) (index := 55) 2 0 iwX2 rfl (by decide) (by decide) rfl rfl (wS wd_392) (fun _ h9 => h9) dX11_shape_4 hq (fun a6 hq => ?_)
  refine lv_iload_n hx hb dX11_shape_7 rfl (lv_at hl 1 rfl) ?_
  refine zz_callVq S hT hB (As := [.int x1]) (b := a6) (o := f_X7_find T N s0 a6 x1) (c_X7_find l D cy T hT ad N s0 _ a6 x1) (cwV 1 hts (gV wSub wd_403 wd_33 wd_34 wd_35 wd_36) rfl rfl rfl (by decide +kernel) ⟨Nat.le_of_ble_eq_true rfl, Nat.le_of_ble_eq_true rfl⟩) (F := TX7) (NF := 3) 7 rfl (by decide) (k_X7_find T N s0 a6 x1) rfl hl.1 rfl (Nat.le_of_ble_eq_true rfl) dX11_shape_8 hq (fun s7 H locs hq hB => ?_) (fun a9 s7 H locs hq hB => ?_)
  · refine lv_astore_nN (lv' := [(3, .null), (0, .ref (ad a0)), (1, .int x1), (2, .int x2)]) hx hb dX11_shape_11 rfl hl (by decide) rfl (fun ls hl => ?_)
    refine lv_aload_nN hx hb dX11_shape_12 rfl (lv_at hl 0 rfl) ?_
    refine lv_ifnonnullN hx hb dX11_shape_13 ?_
    refine lv_ldc (v := -1000000) hx hb hown (hts _ (wS wd_415)) dX11_shape_16 ?_
    exact zz_iret S hB hr hlocks dX11_shape_18 hq
  · refine lv_astore_n (lv' := [(3, .ref (ad a9)), (0, .ref (ad a0)), (1, .int x1), (2, .int x2)]) hx hb dX11_shape_11 rfl hl (by decide) rfl (fun ls hl => ?_)
    refine lv_aload_n hx hb dX11_shape_12 rfl (lv_at hl 0 rfl) ?_
    refine lv_ifnonnull (tgt := 19) hx hb dX11_shape_13 (by decide) ?_
    refine lv_iload_n hx hb dX11_shape_19 rfl (lv_at hl 3 rfl) ?_
    refine zz_cases hq (fun hc hq => ?_) (fun hc hq => ?_)
    · refine lv_tableOut (tgt := 145) hx hb dX11_shape_20 (zz_tabO hc (by decide) (by decide)) (by decide) ?_
      refine lv_ldc (v := -1000000) hx hb hown (hts _ (wS wd_415)) dX11_shape_145 ?_
      exact zz_iret S hB hr hlocks dX11_shape_147 hq
    refine zz_cases hq (fun hc1 hq => ?_) (fun hc1 hq => ?_)
    · refine lv_tableIn (off := 52) (tgt := 72) hx hb dX11_shape_20 (by rw [hc1]; decide) (by rw [hc1]; decide) (by rw [hc1]; rfl) (by decide) ?_
      refine lv_aload_n hx hb dX11_shape_72 rfl (lv_at hl 0 rfl) ?_
      refine zz_get S hT hB (C := RX6) (ref := "DiagramDesk$Shape") (F := TX6) (N := 8) (index := 99) 6 1 iwX6 rfl (by decide) (by decide) rfl rfl (wS wd_416) (fun _ h9 => h9) dX11_shape_73 hq (fun x10 hq => ?_)
      exact zz_iret S hB hr hlocks dX11_shape_76 hq
    refine zz_cases hq (fun hc1 hq => ?_) (fun hc1 hq => ?_)
    · refine lv_tableIn (off := 57) (tgt := 77) hx hb dX11_shape_20 (by rw [hc1]; decide) (by rw [hc1]; decide) (by rw [hc1]; rfl) (by decide) ?_
      refine lv_aload_n hx hb dX11_shape_77 rfl (lv_at hl 0 rfl) ?_
      refine zz_get S hT hB (C := RX6) (ref := "DiagramDesk$Shape") (F := TX6) (N := 8) (index := 102) 6 2 iwX6 rfl (by decide) (by decide) rfl rfl (wS wd_417) (fun _ h9 => h9) dX11_shape_78 hq (fun x11 hq => ?_)
      exact zz_iret S hB hr hlocks dX11_shape_81 hq
    refine zz_cases hq (fun hc1 hq => ?_) (fun hc1 hq => ?_)
    · refine lv_tableIn (off := 62) (tgt := 82) hx hb dX11_shape_20 (by rw [hc1]; decide) (by rw [hc1]; decide) (by rw [hc1]; rfl) (by decide) ?_
      refine lv_aload_n hx hb dX11_shape_82 rfl (lv_at hl 0 rfl) ?_
      refine zz_get S hT hB (C := RX6) (ref := "DiagramDesk$Shape") (F := TX6) (N := 8) (index := 105) 6 3 iwX6 rfl (by decide) (by decide) rfl rfl (wS wd_418) (fun _ h9 => h9) dX11_shape_83 hq (fun x12 hq => ?_)
      exact zz_iret S hB hr hlocks dX11_shape_86 hq
    refine zz_cases hq (fun hc1 hq => ?_) (fun hc1 hq => ?_)
    · refine lv_tableIn (off := 67) (tgt := 87) hx hb dX11_shape_20 (by rw [hc1]; decide) (by rw [hc1]; decide) (by rw [hc1]; rfl) (by decide) ?_
      refine lv_aload_n hx hb dX11_shape_87 rfl (lv_at hl 0 rfl) ?_
      refine zz_get S hT hB (C := RX6) (ref := "DiagramDesk$Shape") (F := TX6) (N := 8) (index := 81) 6 4 iwX6 rfl (by decide) (by decide) rfl rfl (wS wd_408) (fun _ h9 => h9) dX11_shape_88 hq (fun x13 hq => ?_)
      exact zz_iret S hB hr hlocks dX11_shape_91 hq
    refine zz_cases hq (fun hc1 hq => ?_) (fun hc1 hq => ?_)
    · refine lv_tableIn (off := 72) (tgt := 92) hx hb dX11_shape_20 (by rw [hc1]; decide) (by rw [hc1]; decide) (by rw [hc1]; rfl) (by decide) ?_
      refine lv_aload_n hx hb dX11_shape_92 rfl (lv_at hl 0 rfl) ?_
      refine zz_get S hT hB (C := RX6) (ref := "DiagramDesk$Shape") (F := TX6) (N := 8) (index := 86) 6 5 iwX6 rfl (by decide) (by decide) rfl rfl (wS wd_409) (fun _ h9 => h9) dX11_shape_93 hq (fun x14 hq => ?_)
      exact zz_iret S hB hr hlocks dX11_shape_96 hq
    refine zz_cases hq (fun hc1 hq => ?_) (fun hc1 hq => ?_)
    · refine lv_tableIn (off := 77) (tgt := 97) hx hb dX11_shape_20 (by rw [hc1]; decide) (by rw [hc1]; decide) (by rw [hc1]; rfl) (by decide) ?_
      refine lv_aload_n hx hb dX11_shape_97 rfl (lv_at hl 1 rfl) ?_
      refine zz_getR S hT hB (C := RX11) (ref := "DiagramDesk") (F := TX11) (N := 5) (index := 10) 11 0 iwX11 rfl (by decide) (by decide) rfl rfl (wS wd_391) (fun _ h9 => h9) dX11_shape_98 hq (fun a15 hq => ?_)
      refine zz_getR S hT hB (C := RX2) (ref := "DiagramDesk$Diagram") (F := TX2) (N := 4) (index := 55) 2 0 iwX2 rfl (by decide) (by decide) rfl rfl (wS wd_392) (fun _ h9 => h9) dX11_shape_101 hq (fun a16 hq => ?_)
      refine zz_get S hT hB (C := RX7) (ref := "DiagramDesk$Shapes") (F := TX7) (N := 3) (index := 108) 7 2 iwX7 rfl (by decide) (by decide) rfl rfl (wS wd_419) (fun _ h9 => h9) dX11_shape_104 hq (fun x17 hq => ?_)
      refine lv_iload_n hx hb dX11_shape_107 rfl (lv_at hl 2 rfl) ?_
      refine zz_callSi S hT hB (As := [.int x17, .int x1]) (o := f_X11_hasBit T N s7 x17 x1) (c_X11_hasBit l D cy T hT ad N s7 _ x17 x1) (va_cwS 2 hts (gS wSub wd_420 wd_103 wd_102 wd_101) rfl rfl rfl (by decide +kernel) ⟨Nat.le_of_ble_eq_true rfl, Nat.le_of_ble_eq_true rfl⟩) rfl hl.1 rfl (Nat.le_of_ble_eq_true rfl) dX11_shape_108 hq (fun x19 s18 H locs hq hB => ?_)
      refine zz_if_eq (tgt := 118) hx hb dX11_shape_111 (by decide) hq (fun hq => ?_) (fun hq => ?_)
      · refine lv_iconst (v := 0) hx hb dX11_shape_118 (by decide) ?_
        exact zz_iret S hB hr hlocks dX11_shape_119 hq
      · refine lv_iconst (v := 1) hx hb dX11_shape_114 (by decide) ?_
        refine lv_goto (tgt := 119) hx hb dX11_shape_115 (by decide) ?_
        exact zz_iret S hB hr hlocks dX11_shape_119 hq
    refine zz_cases hq (fun hc1 hq => ?_) (fun hc1 hq => ?_)
    · refine lv_tableIn (off := 100) (tgt := 120) hx hb dX11_shape_20 (by rw [hc1]; decide) (by rw [hc1]; decide) (by rw [hc1]; rfl) (by decide) ?_
      refine lv_aload_n hx hb dX11_shape_120 rfl (lv_at hl 0 rfl) ?_
      refine zz_get S hT hB (C := RX6) (ref := "DiagramDesk$Shape") (F := TX6) (N := 8) (index := 115) 6 6 iwX6 rfl (by decide) (by decide) rfl rfl (wS wd_421) (fun _ h9 => h9) dX11_shape_121 hq (fun x20 hq => ?_)
      exact zz_iret S hB hr hlocks dX11_shape_124 hq
    refine zz_cases hq (fun hc1 hq => ?_) (fun hc1 hq => ?_)
    · refine lv_tableIn (off := 105) (tgt := 125) hx hb dX11_shape_20 (by rw [hc1]; decide) (by rw [hc1]; decide) (by rw [hc1]; rfl) (by decide) ?_
      refine lv_aload_n hx hb dX11_shape_125 rfl (lv_at hl 0 rfl) ?_
      refine zz_get S hT hB (C := RX6) (ref := "DiagramDesk$Shape") (F := TX6) (N := 8) (index := 118) 6 7 iwX6 rfl (by decide) (by decide) rfl rfl (wS wd_422) (fun _ h9 => h9) dX11_shape_126 hq (fun x21 hq => ?_)
      exact zz_iret S hB hr hlocks dX11_shape_129 hq
    refine zz_cases hq (fun hc1 hq => ?_) (fun hc1 hq => ?_)
    · refine lv_tableIn (off := 110) (tgt := 130) hx hb dX11_shape_20 (by rw [hc1]; decide) (by rw [hc1]; decide) (by rw [hc1]; rfl) (by decide) ?_
      refine lv_aload_n hx hb dX11_shape_130 rfl (lv_at hl 1 rfl) ?_
      refine zz_getR S hT hB (C := RX11) (ref := "DiagramDesk") (F := TX11) (N := 5) (index := 10) 11 0 iwX11 rfl (by decide) (by decide) rfl rfl (wS wd_391) (fun _ h9 => h9) dX11_shape_131 hq (fun a22 hq => ?_)
      refine zz_getR S hT hB (C := RX2) (ref := "DiagramDesk$Diagram") (F := TX2) (N := 4) (index := 121) 2 2 iwX2 rfl (by decide) (by decide) rfl rfl (wS wd_423) (fun _ h9 => h9) dX11_shape_134 hq (fun a23 hq => ?_)
      refine lv_aload_n hx hb dX11_shape_137 rfl (lv_at hl 0 rfl) ?_
      refine zz_get S hT hB (C := RX6) (ref := "DiagramDesk$Shape") (F := TX6) (N := 8) (index := 118) 6 7 iwX6 rfl (by decide) (by decide) rfl rfl (wS wd_422) (fun _ h9 => h9) dX11_shape_138 hq (fun x24 hq => ?_)
      refine zz_callVi S hT hB (As := [.int x24]) (b := a23) (o := f_X3_outermost T N s7 a23 x24) (c_X3_outermost l D cy T hT ad N s7 _ a23 x24) (cwV 1 hts (gV wSub wd_424 wd_167 wd_168 wd_118 wd_169) rfl rfl rfl (by decide +kernel) ⟨Nat.le_of_ble_eq_true rfl, Nat.le_of_ble_eq_true rfl⟩) (F := TX3) (NF := 2) 3 rfl (by decide) (k_X3_outermost T N s7 a23 x24) rfl hl.1 rfl (Nat.le_of_ble_eq_true rfl) dX11_shape_141 hq (fun x26 s25 H locs hq hB => ?_)
      exact zz_iret S hB hr hlocks dX11_shape_144 hq
    exact zz_none hq
def f_X11_isPort (T : zT) (N : Nat) (s0 : zS) (x0 : Int32) : Option (Int32 × zS) :=
  zb2 (f_X11_isWithin T N s0 x0 (0 : Int32) (3 : Int32)) fun x4 s3 =>
  rZ x4 s3
set_option maxHeartbeats 4000000 in
set_option maxRecDepth 100000 in
theorem c_X11_isPort (l : Launch) (D : va_G) (cy : Nat → ClassId) (T : zT) (hT : zok T) (ad : Nat → Nat) (N : Nat) (s0 : zS) (sz : Nat) (x0 : Int32) : ∀ (r0 : Int32) (σ0 : zS), f_X11_isPort T N s0 x0 = some (r0, σ0) → Met l yX11_isPort wsX11_isPort ({ frames := 1, cells := 0, slots := 0, locals := 22 }) (va_Pc [.int x0] (zPre D cy T ad s0 sz)) (va_Qi (fun (r2 : Int32) (σ2 : zS) => r2 = r0 ∧ σ2 = σ0) (zAt D cy T ad (zA T ad sz)) (zA T ad sz)) 0 0 (zA T ad sz) := by
  intro r0 σ0 hq
  refine Met.ofW (cc := cX11_isPort) (maxL := 1) (ret := (some .boolean)) (by decide) rfl ?_
  intro p e s m args below meth c s₁ B hml hv
  obtain ⟨hargs, hsz, hP, hK, hD0, hN⟩ := hv
  have hx := B.exec
  have hb := B.bytes
  have hr := B.returns
  have hts := atoms_spec (ws := wsX11_isPort) B.pre
  have hown : s.vm.findClass RX11 = some m.cls := findClass_of_methodNamed B.named
  have hlocks := B.notSynchronized
  have S : CallFix p m c cX11_isPort 1 s args wsX11_isPort RX11 := ⟨hx, hb, hml, hown, hts⟩
  subst hsz
  have hB : zB D cy T ad (zA T ad s.heap.size) s.heap s0 s.heap [] s := zz_entry hP hK hD0 hN
  obtain ⟨ls, hent, hl⟩ := zz_ent m hargs (n := 1) (Nat.le_of_ble_eq_true rfl)
  rw [hent]
  have hl : lv_has ls 1 [(0, .int x0)] := hl
  unfold f_X11_isPort at hq
  refine lv_iload_n hx hb dX11_isPort_0 rfl (lv_at hl 0 rfl) ?_
  refine lv_iconst (v := 0) hx hb dX11_isPort_1 (by decide) ?_
  refine lv_iconst (v := 3) hx hb dX11_isPort_2 (by decide) ?_
  refine zz_callSi S hT hB (As := [.int x0, .int (0 : Int32), .int (3 : Int32)]) (o := f_X11_isWithin T N s0 x0 (0 : Int32) (3 : Int32)) (c_X11_isWithin l D cy T hT ad N s0 _ x0 (0 : Int32) (3 : Int32)) (va_cwS 3 hts (gS wSub wd_253 wd_222 wd_102 wd_221) rfl rfl rfl (by decide +kernel) ⟨Nat.le_of_ble_eq_true rfl, Nat.le_of_ble_eq_true rfl⟩) rfl hl.1 rfl (Nat.le_of_ble_eq_true rfl) dX11_isPort_3 hq (fun x4 s3 H locs hq hB => ?_)
  exact zz_zret S hB hr hlocks dX11_isPort_6 hq
def f_X11_isAxis (T : zT) (N : Nat) (s0 : zS) (x0 : Int32) : Option (Int32 × zS) :=
  if x0 = 0 then (
    rZ (1 : Int32) s0)
  else (
    if ¬ x0 = (1 : Int32) then (
      rZ (0 : Int32) s0)
    else (
      rZ (1 : Int32) s0))
set_option maxHeartbeats 4000000 in
set_option maxRecDepth 100000 in
theorem c_X11_isAxis (l : Launch) (D : va_G) (cy : Nat → ClassId) (T : zT) (hT : zok T) (ad : Nat → Nat) (N : Nat) (s0 : zS) (sz : Nat) (x0 : Int32) : ∀ (r0 : Int32) (σ0 : zS), f_X11_isAxis T N s0 x0 = some (r0, σ0) → Met l yX11_isAxis wsX11_isAxis ({ frames := 0, cells := 0, slots := 0, locals := 0 }) (va_Pc [.int x0] (zPre D cy T ad s0 sz)) (va_Qi (fun (r2 : Int32) (σ2 : zS) => r2 = r0 ∧ σ2 = σ0) (zAt D cy T ad (zA T ad sz)) (zA T ad sz)) 0 0 (zA T ad sz) := by
  intro r0 σ0 hq
  refine Met.ofW (cc := cX11_isAxis) (maxL := 1) (ret := (some .boolean)) (by decide) rfl ?_
  intro p e s m args below meth c s₁ B hml hv
  obtain ⟨hargs, hsz, hP, hK, hD0, hN⟩ := hv
  have hx := B.exec
  have hb := B.bytes
  have hr := B.returns
  have hts := atoms_spec (ws := wsX11_isAxis) B.pre
  have hown : s.vm.findClass RX11 = some m.cls := findClass_of_methodNamed B.named
  have hlocks := B.notSynchronized
  have S : CallFix p m c cX11_isAxis 1 s args wsX11_isAxis RX11 := ⟨hx, hb, hml, hown, hts⟩
  subst hsz
  have hB : zB D cy T ad (zA T ad s.heap.size) s.heap s0 s.heap [] s := zz_entry hP hK hD0 hN
  obtain ⟨ls, hent, hl⟩ := zz_ent m hargs (n := 1) (Nat.le_of_ble_eq_true rfl)
  rw [hent]
  have hl : lv_has ls 1 [(0, .int x0)] := hl
  unfold f_X11_isAxis at hq
  refine lv_iload_n hx hb dX11_isAxis_0 rfl (lv_at hl 0 rfl) ?_
  refine zz_if_eq (tgt := 9) hx hb dX11_isAxis_1 (by decide) hq (fun hq => ?_) (fun hq => ?_)
  · refine lv_iconst (v := 1) hx hb dX11_isAxis_9 (by decide) ?_
    refine lv_goto (tgt := 14) hx hb dX11_isAxis_10 (by decide) ?_
    exact zz_zret S hB hr hlocks dX11_isAxis_14 hq
  · refine lv_iload_n hx hb dX11_isAxis_4 rfl (lv_at hl 0 rfl) ?_
    refine lv_iconst (v := 1) hx hb dX11_isAxis_5 (by decide) ?_
    refine zz_icmp_ne (tgt := 13) hx hb dX11_isAxis_6 (by decide) hq (fun hq => ?_) (fun hq => ?_)
    · refine lv_iconst (v := 0) hx hb dX11_isAxis_13 (by decide) ?_
      exact zz_zret S hB hr hlocks dX11_isAxis_14 hq
    · refine lv_iconst (v := 1) hx hb dX11_isAxis_9 (by decide) ?_
      refine lv_goto (tgt := 14) hx hb dX11_isAxis_10 (by decide) ?_
      exact zz_zret S hB hr hlocks dX11_isAxis_14 hq
def f_X11_port (T : zT) (N : Nat) (s0 : zS) (a0 : Nat) (x1 : Int32) (x2 : Int32) (x3 : Int32) : Option (Int32 × zS) :=
  zz1 (T.1 a0 = 11) <|
  (gR T s0 a0 11 0).bind fun a6 =>
  (gR T s0 a6 2 0).bind fun a7 =>
  zb2 (f_X7_find T N s0 a7 x1) fun o9 s8 => zo o9 (
    some ((-1000000 : Int32), s8))
  fun a10 => (
    zb2 (f_X11_isPort T N s8 x2) fun x12 s11 =>
    if x12 = 0 then (
      some ((-1000000 : Int32), s11))
    else (
      zb2 (f_X11_isAxis T N s11 x3) fun x14 s13 =>
      if ¬ x14 = 0 then (
        zb2 (f_X6_portPlace T N s13 a10 x2 x3) fun x16 s15 =>
        some (x16, s15))
      else (
        some ((-1000000 : Int32), s13))))
theorem k_X11_port (T : zT) (N : Nat) (s0 : zS) (a0 : Nat) (x1 : Int32) (x2 : Int32) (x3 : Int32) : ∀ q, f_X11_port T N s0 a0 x1 x2 x3 = some q → T.1 a0 = 11 := by
  intro q h
  unfold f_X11_port at h
  exact zz_guard h (fun h _ => h)
set_option maxHeartbeats 4000000 in
set_option maxRecDepth 100000 in
theorem c_X11_port (l : Launch) (D : va_G) (cy : Nat → ClassId) (T : zT) (hT : zok T) (ad : Nat → Nat) (N : Nat) (s0 : zS) (sz : Nat) (a0 : Nat) (x1 : Int32) (x2 : Int32) (x3 : Int32) : ∀ (r0 : Int32) (σ0 : zS), f_X11_port T N s0 a0 x1 x2 x3 = some (r0, σ0) → Met l yX11_port wsX11_port ({ frames := 3, cells := 0, slots := 0, locals := 66 }) (va_Pc [.ref (ad a0), .int x1, .int x2, .int x3] (zPre D cy T ad s0 sz)) (va_Qi (fun (r2 : Int32) (σ2 : zS) => r2 = r0 ∧ σ2 = σ0) (zAt D cy T ad (zA T ad sz)) (zA T ad sz)) 0 0 (zA T ad sz) := by
  intro r0 σ0 hq
  refine Met.ofW (cc := cX11_port) (maxL := 5) (ret := (some .int)) (by decide) rfl ?_
  intro p e s m args below meth c s₁ B hml hv
  obtain ⟨hargs, hsz, hP, hK, hD0, hN⟩ := hv
  have hx := B.exec
  have hb := B.bytes
  have hr := B.returns
  have hts := atoms_spec (ws := wsX11_port) B.pre
  have hown : s.vm.findClass RX11 = some m.cls := findClass_of_methodNamed B.named
  have hlocks := B.notSynchronized
  have S : CallFix p m c cX11_port 5 s args wsX11_port RX11 := ⟨hx, hb, hml, hown, hts⟩
  subst hsz
  have hB : zB D cy T ad (zA T ad s.heap.size) s.heap s0 s.heap [] s := zz_entry hP hK hD0 hN
  obtain ⟨ls, hent, hl⟩ := zz_ent m hargs (n := 5) (Nat.le_of_ble_eq_true rfl)
  rw [hent]
  have hl : lv_has ls 5 [(0, .ref (ad a0)), (1, .int x1), (2, .int x2), (3, .int x3)] := hl
  have iwX11 : ∀ w ∈ u_ws RX11 TX11 5, w ∈ wsX11_port := fun w h => wS (inWX11 w h)
  have iwX2 : ∀ w ∈ u_ws RX2 TX2 4, w ∈ wsX11_port := fun w h => wS (inWX2 w h)
  unfold f_X11_port at hq
  refine zz_guard hq (fun hk0 hq => ?_)
  refine lv_aload_n hx hb dX11_port_0 rfl (lv_at hl 0 rfl) ?_
  refine zz_getR S hT hB (C := RX11) (ref := "DiagramDesk") (F := TX11) (N := 5) (index := 10) 11 0 iwX11 rfl (by decide) (by decide) rfl rfl (wS wd_391) (fun _ h9 => h9) dX11_port_1 hq (fun a6 hq => ?_)
  refine zz_getR S hT hB (C := RX2) (ref := "DiagramDesk$Diagram") (F := TX2) (N := 4) (index := 55) 2 0 iwX2 rfl (by decide) (by decide) rfl rfl (wS wd_392) (fun _ h9 => h9) dX11_port_4 hq (fun a7 hq => ?_)
  refine lv_iload_n hx hb dX11_port_7 rfl (lv_at hl 1 rfl) ?_
  refine zz_callVq S hT hB (As := [.int x1]) (b := a7) (o := f_X7_find T N s0 a7 x1) (c_X7_find l D cy T hT ad N s0 _ a7 x1) (cwV 1 hts (gV wSub wd_403 wd_33 wd_34 wd_35 wd_36) rfl rfl rfl (by decide +kernel) ⟨Nat.le_of_ble_eq_true rfl, Nat.le_of_ble_eq_true rfl⟩) (F := TX7) (NF := 3) 7 rfl (by decide) (k_X7_find T N s0 a7 x1) rfl hl.1 rfl (Nat.le_of_ble_eq_true rfl) dX11_port_8 hq (fun s8 H locs hq hB => ?_) (fun a10 s8 H locs hq hB => ?_)
  · refine lv_astoreN (lv' := [(4, .null), (0, .ref (ad a0)), (1, .int x1), (2, .int x2), (3, .int x3)]) hx hb dX11_port_11 hl (by decide) rfl (fun ls hl => ?_)
    refine lv_aloadN hx hb dX11_port_13 (lv_at hl 0 rfl) ?_
    refine lv_ifnullN (tgt := 32) hx hb dX11_port_15 (by decide) ?_
    refine lv_ldc (v := -1000000) hx hb hown (hts _ (wS wd_415)) dX11_port_32 ?_
    exact zz_iret S hB hr hlocks dX11_port_34 hq
  · refine lv_astore (lv' := [(4, .ref (ad a10)), (0, .ref (ad a0)), (1, .int x1), (2, .int x2), (3, .int x3)]) hx hb dX11_port_11 hl (by decide) rfl (fun ls hl => ?_)
    refine lv_aload hx hb dX11_port_13 (lv_at hl 0 rfl) ?_
    refine lv_ifnull hx hb dX11_port_15 ?_
    refine lv_iload_n hx hb dX11_port_18 rfl (lv_at hl 3 rfl) ?_
    refine zz_callSi S hT hB (As := [.int x2]) (o := f_X11_isPort T N s8 x2) (c_X11_isPort l D cy T hT ad N s8 _ x2) (va_cwS 1 hts (gS wSub wd_425 wd_426 wd_102 wd_427) rfl rfl rfl (by decide +kernel) ⟨Nat.le_of_ble_eq_true rfl, Nat.le_of_ble_eq_true rfl⟩) rfl hl.1 rfl (Nat.le_of_ble_eq_true rfl) dX11_port_19 hq (fun x12 s11 H locs hq hB => ?_)
    refine zz_if_eq (tgt := 32) hx hb dX11_port_22 (by decide) hq (fun hq => ?_) (fun hq => ?_)
    · refine lv_ldc (v := -1000000) hx hb hown (hts _ (wS wd_415)) dX11_port_32 ?_
      exact zz_iret S hB hr hlocks dX11_port_34 hq
    · refine lv_iload_n hx hb dX11_port_25 rfl (lv_at hl 4 rfl) ?_
      refine zz_callSi S hT hB (As := [.int x3]) (o := f_X11_isAxis T N s11 x3) (c_X11_isAxis l D cy T hT ad N s11 _ x3) (va_cwS 1 hts (gS wSub wd_428 wd_429 wd_102 wd_430) rfl rfl rfl (by decide +kernel) ⟨Nat.le_of_ble_eq_true rfl, Nat.le_of_ble_eq_true rfl⟩) rfl hl.1 rfl (Nat.le_of_ble_eq_true rfl) dX11_port_26 hq (fun x14 s13 H locs hq hB => ?_)
      refine zz_if_ne (tgt := 35) hx hb dX11_port_29 (by decide) hq (fun hq => ?_) (fun hq => ?_)
      · refine lv_aload hx hb dX11_port_35 (lv_at hl 0 rfl) ?_
        refine lv_iload_n hx hb dX11_port_37 rfl (lv_at hl 3 rfl) ?_
        refine lv_iload_n hx hb dX11_port_38 rfl (lv_at hl 4 rfl) ?_
        refine zz_callVi S hT hB (As := [.int x2, .int x3]) (b := a10) (o := f_X6_portPlace T N s13 a10 x2 x3) (c_X6_portPlace l D cy T hT ad N s13 _ a10 x2 x3) (cwV 2 hts (gV wSub wd_431 wd_39 wd_40 wd_14 wd_41) rfl rfl rfl (by decide +kernel) ⟨Nat.le_of_ble_eq_true rfl, Nat.le_of_ble_eq_true rfl⟩) (F := TX6) (NF := 8) 6 rfl (by decide) (k_X6_portPlace T N s13 a10 x2 x3) rfl hl.1 rfl (Nat.le_of_ble_eq_true rfl) dX11_port_39 hq (fun x16 s15 H locs hq hB => ?_)
        exact zz_iret S hB hr hlocks dX11_port_42 hq
      · refine lv_ldc (v := -1000000) hx hb hown (hts _ (wS wd_415)) dX11_port_32 ?_
        exact zz_iret S hB hr hlocks dX11_port_34 hq
def f_X11_bring (T : zT) (N : Nat) (s0 : zS) (a0 : Nat) (x1 : Int32) (x2 : Int32) : Option (Int32 × zS) :=
  zz1 (T.1 a0 = 11) <|
  (gR T s0 a0 11 0).bind fun a5 =>
  (gR T s0 a5 2 0).bind fun a6 =>
  zb2 (f_X7_find T N s0 a6 x1) fun o8 s7 => zo o8 (
    some ((-1 : Int32), s7))
  fun a9 => (
    (gR T s7 a0 11 1).bind fun a10 =>
    (gR T s7 a0 11 0).bind fun a11 =>
    (f_X5_keep T N s7 a10 a11).bind fun s12 =>
    (gI T s12 a9 6 6).bind fun x13 =>
    (gR T s12 a0 11 0).bind fun a14 =>
    (gR T s12 a14 2 0).bind fun a15 =>
    if x2 = 0 then (
      (gR T s12 a0 11 0).bind fun a16 =>
      (gR T s12 a16 2 0).bind fun a17 =>
      zb2 (f_X7_count T N s12 a17) fun x19 s18 =>
      (f_X7_putAtDepth T N s18 a15 a9 (x19 - (1 : Int32))).bind fun s20 =>
      some (x13, s20))
    else (
      (f_X7_putAtDepth T N s12 a15 a9 (0 : Int32)).bind fun s21 =>
      some (x13, s21)))
theorem k_X11_bring (T : zT) (N : Nat) (s0 : zS) (a0 : Nat) (x1 : Int32) (x2 : Int32) : ∀ q, f_X11_bring T N s0 a0 x1 x2 = some q → T.1 a0 = 11 := by
  intro q h
  unfold f_X11_bring at h
  exact zz_guard h (fun h _ => h)
set_option maxHeartbeats 4000000 in
set_option maxRecDepth 100000 in
theorem c_X11_bring (l : Launch) (D : va_G) (cy : Nat → ClassId) (T : zT) (hT : zok T) (ad : Nat → Nat) (N : Nat) (s0 : zS) (sz : Nat) (a0 : Nat) (x1 : Int32) (x2 : Int32) : ∀ (r0 : Int32) (σ0 : zS), f_X11_bring T N s0 a0 x1 x2 = some (r0, σ0) → Met l yX11_bring wsX11_bring ({ frames := 5, cells := 0, slots := 0, locals := 106 }) (va_Pc [.ref (ad a0), .int x1, .int x2] (zPre D cy T ad s0 sz)) (va_Qi (fun (r2 : Int32) (σ2 : zS) => r2 = r0 ∧ σ2 = σ0) (zAt D cy T ad (zA T ad sz)) (zA T ad sz)) 0 0 (zA T ad sz) := by
  intro r0 σ0 hq
  refine Met.ofW (cc := cX11_bring) (maxL := 5) (ret := (some .int)) (by decide) rfl ?_
  intro p e s m args below meth c s₁ B hml hv
  obtain ⟨hargs, hsz, hP, hK, hD0, hN⟩ := hv
  have hx := B.exec
  have hb := B.bytes
  have hr := B.returns
  have hts := atoms_spec (ws := wsX11_bring) B.pre
  have hown : s.vm.findClass RX11 = some m.cls := findClass_of_methodNamed B.named
  have hlocks := B.notSynchronized
  have S : CallFix p m c cX11_bring 5 s args wsX11_bring RX11 := ⟨hx, hb, hml, hown, hts⟩
  subst hsz
  have hB : zB D cy T ad (zA T ad s.heap.size) s.heap s0 s.heap [] s := zz_entry hP hK hD0 hN
  obtain ⟨ls, hent, hl⟩ := zz_ent m hargs (n := 5) (Nat.le_of_ble_eq_true rfl)
  rw [hent]
  have hl : lv_has ls 5 [(0, .ref (ad a0)), (1, .int x1), (2, .int x2)] := hl
  have iwX11 : ∀ w ∈ u_ws RX11 TX11 5, w ∈ wsX11_bring := fun w h => wS (inWX11 w h)
  have iwX2 : ∀ w ∈ u_ws RX2 TX2 4, w ∈ wsX11_bring := fun w h => wS (inWX2 w h)
  have iwX6 : ∀ w ∈ u_ws RX6 TX6 8, w ∈ wsX11_bring := fun w h => wS (inWX6 w h)
  unfold f_X11_bring at hq
  refine zz_guard hq (fun hk0 hq => ?_)
  refine lv_aload_n hx hb dX11_bring_0 rfl (lv_at hl 0 rfl) ?_
  refine zz_getR S hT hB (C := RX11) (ref := "DiagramDesk") (F := TX11) (N := 5) (index := 10) 11 0 iwX11 rfl (by decide) (by decide) rfl rfl (wS wd_391) (fun _ h9 => h9) dX11_bring_1 hq (fun a5 hq => ?_)
  refine zz_getR S hT hB (C := RX2) (ref := "DiagramDesk$Diagram") (F := TX2) (N := 4) (index := 55) 2 0 iwX2 rfl (by decide) (by decide) rfl rfl (wS wd_392) (fun _ h9 => h9) dX11_bring_4 hq (fun a6 hq => ?_)
  refine lv_iload_n hx hb dX11_bring_7 rfl (lv_at hl 1 rfl) ?_
  refine zz_callVq S hT hB (As := [.int x1]) (b := a6) (o := f_X7_find T N s0 a6 x1) (c_X7_find l D cy T hT ad N s0 _ a6 x1) (cwV 1 hts (gV wSub wd_403 wd_33 wd_34 wd_35 wd_36) rfl rfl rfl (by decide +kernel) ⟨Nat.le_of_ble_eq_true rfl, Nat.le_of_ble_eq_true rfl⟩) (F := TX7) (NF := 3) 7 rfl (by decide) (k_X7_find T N s0 a6 x1) rfl hl.1 rfl (Nat.le_of_ble_eq_true rfl) dX11_bring_8 hq (fun s7 H locs hq hB => ?_) (fun a9 s7 H locs hq hB => ?_)
  · refine lv_astore_nN (lv' := [(3, .null), (0, .ref (ad a0)), (1, .int x1), (2, .int x2)]) hx hb dX11_bring_11 rfl hl (by decide) rfl (fun ls hl => ?_)
    refine lv_aload_nN hx hb dX11_bring_12 rfl (lv_at hl 0 rfl) ?_
    refine lv_ifnonnullN hx hb dX11_bring_13 ?_
    refine lv_iconst (v := -1) hx hb dX11_bring_16 (by decide) ?_
    exact zz_iret S hB hr hlocks dX11_bring_17 hq
  · refine lv_astore_n (lv' := [(3, .ref (ad a9)), (0, .ref (ad a0)), (1, .int x1), (2, .int x2)]) hx hb dX11_bring_11 rfl hl (by decide) rfl (fun ls hl => ?_)
    refine lv_aload_n hx hb dX11_bring_12 rfl (lv_at hl 0 rfl) ?_
    refine lv_ifnonnull (tgt := 18) hx hb dX11_bring_13 (by decide) ?_
    refine lv_aload_n hx hb dX11_bring_18 rfl (lv_at hl 1 rfl) ?_
    refine zz_getR S hT hB (C := RX11) (ref := "DiagramDesk") (F := TX11) (N := 5) (index := 19) 11 1 iwX11 rfl (by decide) (by decide) rfl rfl (wS wd_394) (fun _ h9 => h9) dX11_bring_19 hq (fun a10 hq => ?_)
    refine lv_aload_n hx hb dX11_bring_22 rfl (lv_at hl 1 rfl) ?_
    refine zz_getR S hT hB (C := RX11) (ref := "DiagramDesk") (F := TX11) (N := 5) (index := 10) 11 0 iwX11 rfl (by decide) (by decide) rfl rfl (wS wd_391) (fun _ h9 => h9) dX11_bring_23 hq (fun a11 hq => ?_)
    refine zz_callVv S hT hB (As := [.ref (ad a11)]) (b := a10) (o := f_X5_keep T N s7 a10 a11) (c_X5_keep l D cy T hT ad N s7 _ a10 a11) (cwV 1 hts (gV wSub wd_395 wd_396 wd_397 wd_215 wd_398) rfl rfl rfl (by decide +kernel) ⟨Nat.le_of_ble_eq_true rfl, Nat.le_of_ble_eq_true rfl⟩) (F := TX5) (NF := 2) 5 rfl (by decide) (k_X5_keep T N s7 a10 a11) rfl hl.1 rfl (Nat.le_of_ble_eq_true rfl) dX11_bring_26 hq (fun s12 H locs hq hB => ?_)
    refine lv_aload_n hx hb dX11_bring_29 rfl (lv_at hl 0 rfl) ?_
    refine zz_get S hT hB (C := RX6) (ref := "DiagramDesk$Shape") (F := TX6) (N := 8) (index := 115) 6 6 iwX6 rfl (by decide) (by decide) rfl rfl (wS wd_421) (fun _ h9 => h9) dX11_bring_30 hq (fun x13 hq => ?_)
    refine lv_istore (lv' := [(4, .int x13), (3, .ref (ad a9)), (0, .ref (ad a0)), (1, .int x1), (2, .int x2)]) hx hb dX11_bring_33 hl (by decide) rfl (fun ls hl => ?_)
    refine lv_aload_n hx hb dX11_bring_35 rfl (lv_at hl 2 rfl) ?_
    refine zz_getR S hT hB (C := RX11) (ref := "DiagramDesk") (F := TX11) (N := 5) (index := 10) 11 0 iwX11 rfl (by decide) (by decide) rfl rfl (wS wd_391) (fun _ h9 => h9) dX11_bring_36 hq (fun a14 hq => ?_)
    refine zz_getR S hT hB (C := RX2) (ref := "DiagramDesk$Diagram") (F := TX2) (N := 4) (index := 55) 2 0 iwX2 rfl (by decide) (by decide) rfl rfl (wS wd_392) (fun _ h9 => h9) dX11_bring_39 hq (fun a15 hq => ?_)
    refine lv_aload_n hx hb dX11_bring_42 rfl (lv_at hl 1 rfl) ?_
    refine lv_iload_n hx hb dX11_bring_43 rfl (lv_at hl 4 rfl) ?_
    refine zz_if_eq (tgt := 51) hx hb dX11_bring_44 (by decide) hq (fun hq => ?_) (fun hq => ?_)
    · refine lv_aload_n hx hb dX11_bring_51 rfl (lv_at hl 2 rfl) ?_
      refine zz_getR S hT hB (C := RX11) (ref := "DiagramDesk") (F := TX11) (N := 5) (index := 10) 11 0 iwX11 rfl (by decide) (by decide) rfl rfl (wS wd_391) (fun _ h9 => h9) dX11_bring_52 hq (fun a16 hq => ?_)
      refine zz_getR S hT hB (C := RX2) (ref := "DiagramDesk$Diagram") (F := TX2) (N := 4) (index := 55) 2 0 iwX2 rfl (by decide) (by decide) rfl rfl (wS wd_392) (fun _ h9 => h9) dX11_bring_55 hq (fun a17 hq => ?_)
      refine zz_callVi S hT hB (As := []) (b := a17) (o := f_X7_count T N s12 a17) (c_X7_count l D cy T hT ad N s12 _ a17) (cwV 0 hts (gV wSub wd_432 wd_179 wd_180 wd_35 wd_181) rfl rfl rfl (by decide +kernel) ⟨Nat.le_of_ble_eq_true rfl, Nat.le_of_ble_eq_true rfl⟩) (F := TX7) (NF := 3) 7 rfl (by decide) (k_X7_count T N s12 a17) rfl hl.1 rfl (Nat.le_of_ble_eq_true rfl) dX11_bring_58 hq (fun x19 s18 H locs hq hB => ?_)
      refine lv_iconst (v := 1) hx hb dX11_bring_61 (by decide) ?_
      refine lv_isub hx hb dX11_bring_62 ?_
      refine zz_callVv S hT hB (As := [.ref (ad a9), .int (x19 - (1 : Int32))]) (b := a15) (o := f_X7_putAtDepth T N s18 a15 a9 (x19 - (1 : Int32))) (c_X7_putAtDepth l D cy T hT ad N s18 _ a15 a9 (x19 - (1 : Int32))) (cwV 2 hts (gV wSub wd_433 wd_183 wd_184 wd_35 wd_185) rfl rfl rfl (by decide +kernel) ⟨Nat.le_of_ble_eq_true rfl, Nat.le_of_ble_eq_true rfl⟩) (F := TX7) (NF := 3) 7 rfl (by decide) (k_X7_putAtDepth T N s18 a15 a9 (x19 - (1 : Int32))) rfl hl.1 rfl (Nat.le_of_ble_eq_true rfl) dX11_bring_63 hq (fun s20 H locs hq hB => ?_)
      refine lv_iload hx hb dX11_bring_66 (lv_at hl 0 rfl) ?_
      exact zz_iret S hB hr hlocks dX11_bring_68 hq
    · refine lv_iconst (v := 0) hx hb dX11_bring_47 (by decide) ?_
      refine lv_goto (tgt := 63) hx hb dX11_bring_48 (by decide) ?_
      refine zz_callVv S hT hB (As := [.ref (ad a9), .int (0 : Int32)]) (b := a15) (o := f_X7_putAtDepth T N s12 a15 a9 (0 : Int32)) (c_X7_putAtDepth l D cy T hT ad N s12 _ a15 a9 (0 : Int32)) (cwV 2 hts (gV wSub wd_433 wd_183 wd_184 wd_35 wd_185) rfl rfl rfl (by decide +kernel) ⟨Nat.le_of_ble_eq_true rfl, Nat.le_of_ble_eq_true rfl⟩) (F := TX7) (NF := 3) 7 rfl (by decide) (k_X7_putAtDepth T N s12 a15 a9 (0 : Int32)) rfl hl.1 rfl (Nat.le_of_ble_eq_true rfl) dX11_bring_63 hq (fun s21 H locs hq hB => ?_)
      refine lv_iload hx hb dX11_bring_66 (lv_at hl 0 rfl) ?_
      exact zz_iret S hB hr hlocks dX11_bring_68 hq
def f_X11_at (T : zT) (N : Nat) (s0 : zS) (a0 : Nat) (x1 : Int32) (x2 : Int32) : Option (Int32 × zS) :=
  zz1 (T.1 a0 = 11) <|
  zb2 (f_X11_isWithin T N s0 x1 (-100000 : Int32) (100000 : Int32)) fun x6 s5 =>
  if x6 = 0 then (
    some ((-1 : Int32), s5))
  else (
    zb2 (f_X11_isWithin T N s5 x2 (-100000 : Int32) (100000 : Int32)) fun x8 s7 =>
    if ¬ x8 = 0 then (
      (gR T s7 a0 11 0).bind fun a9 =>
      (gR T s7 a9 2 0).bind fun a10 =>
      zb2 (f_X7_frontmostOn T N s7 a10 x1 x2) fun x12 s11 =>
      some (x12, s11))
    else (
      some ((-1 : Int32), s7)))
theorem k_X11_at (T : zT) (N : Nat) (s0 : zS) (a0 : Nat) (x1 : Int32) (x2 : Int32) : ∀ q, f_X11_at T N s0 a0 x1 x2 = some q → T.1 a0 = 11 := by
  intro q h
  unfold f_X11_at at h
  exact zz_guard h (fun h _ => h)
set_option maxHeartbeats 4000000 in
set_option maxRecDepth 100000 in
theorem c_X11_at (l : Launch) (D : va_G) (cy : Nat → ClassId) (T : zT) (hT : zok T) (ad : Nat → Nat) (N : Nat) (s0 : zS) (sz : Nat) (a0 : Nat) (x1 : Int32) (x2 : Int32) : ∀ (r0 : Int32) (σ0 : zS), f_X11_at T N s0 a0 x1 x2 = some (r0, σ0) → Met l yX11_at wsX11_at ({ frames := 4, cells := 0, slots := 0, locals := 98 }) (va_Pc [.ref (ad a0), .int x1, .int x2] (zPre D cy T ad s0 sz)) (va_Qi (fun (r2 : Int32) (σ2 : zS) => r2 = r0 ∧ σ2 = σ0) (zAt D cy T ad (zA T ad sz)) (zA T ad sz)) 0 0 (zA T ad sz) := by
  intro r0 σ0 hq
  refine Met.ofW (cc := cX11_at) (maxL := 3) (ret := (some .int)) (by decide) rfl ?_
  intro p e s m args below meth c s₁ B hml hv
  obtain ⟨hargs, hsz, hP, hK, hD0, hN⟩ := hv
  have hx := B.exec
  have hb := B.bytes
  have hr := B.returns
  have hts := atoms_spec (ws := wsX11_at) B.pre
  have hown : s.vm.findClass RX11 = some m.cls := findClass_of_methodNamed B.named
  have hlocks := B.notSynchronized
  have S : CallFix p m c cX11_at 3 s args wsX11_at RX11 := ⟨hx, hb, hml, hown, hts⟩
  subst hsz
  have hB : zB D cy T ad (zA T ad s.heap.size) s.heap s0 s.heap [] s := zz_entry hP hK hD0 hN
  obtain ⟨ls, hent, hl⟩ := zz_ent m hargs (n := 3) (Nat.le_of_ble_eq_true rfl)
  rw [hent]
  have hl : lv_has ls 3 [(0, .ref (ad a0)), (1, .int x1), (2, .int x2)] := hl
  have iwX11 : ∀ w ∈ u_ws RX11 TX11 5, w ∈ wsX11_at := fun w h => wS (inWX11 w h)
  have iwX2 : ∀ w ∈ u_ws RX2 TX2 4, w ∈ wsX11_at := fun w h => wS (inWX2 w h)
  unfold f_X11_at at hq
  refine zz_guard hq (fun hk0 hq => ?_)
  refine lv_iload_n hx hb dX11_at_0 rfl (lv_at hl 1 rfl) ?_
  refine lv_ldc (v := -100000) hx hb hown (hts _ (wS wd_434)) dX11_at_1 ?_
  refine lv_ldc (v := 100000) hx hb hown (hts _ (wS wd_435)) dX11_at_3 ?_
  refine zz_callSi S hT hB (As := [.int x1, .int (-100000 : Int32), .int (100000 : Int32)]) (o := f_X11_isWithin T N s0 x1 (-100000 : Int32) (100000 : Int32)) (c_X11_isWithin l D cy T hT ad N s0 _ x1 (-100000 : Int32) (100000 : Int32)) (va_cwS 3 hts (gS wSub wd_253 wd_222 wd_102 wd_221) rfl rfl rfl (by decide +kernel) ⟨Nat.le_of_ble_eq_true rfl, Nat.le_of_ble_eq_true rfl⟩) rfl hl.1 rfl (Nat.le_of_ble_eq_true rfl) dX11_at_5 hq (fun x6 s5 H locs hq hB => ?_)
  refine zz_if_eq (tgt := 22) hx hb dX11_at_8 (by decide) hq (fun hq => ?_) (fun hq => ?_)
  · refine lv_iconst (v := -1) hx hb dX11_at_22 (by decide) ?_
    exact zz_iret S hB hr hlocks dX11_at_23 hq
  · refine lv_iload_n hx hb dX11_at_11 rfl (lv_at hl 2 rfl) ?_
    refine lv_ldc (v := -100000) hx hb hown (hts _ (wS wd_434)) dX11_at_12 ?_
    refine lv_ldc (v := 100000) hx hb hown (hts _ (wS wd_435)) dX11_at_14 ?_
    refine zz_callSi S hT hB (As := [.int x2, .int (-100000 : Int32), .int (100000 : Int32)]) (o := f_X11_isWithin T N s5 x2 (-100000 : Int32) (100000 : Int32)) (c_X11_isWithin l D cy T hT ad N s5 _ x2 (-100000 : Int32) (100000 : Int32)) (va_cwS 3 hts (gS wSub wd_253 wd_222 wd_102 wd_221) rfl rfl rfl (by decide +kernel) ⟨Nat.le_of_ble_eq_true rfl, Nat.le_of_ble_eq_true rfl⟩) rfl hl.1 rfl (Nat.le_of_ble_eq_true rfl) dX11_at_16 hq (fun x8 s7 H locs hq hB => ?_)
    refine zz_if_ne (tgt := 24) hx hb dX11_at_19 (by decide) hq (fun hq => ?_) (fun hq => ?_)
    · refine lv_aload_n hx hb dX11_at_24 rfl (lv_at hl 0 rfl) ?_
      refine zz_getR S hT hB (C := RX11) (ref := "DiagramDesk") (F := TX11) (N := 5) (index := 10) 11 0 iwX11 rfl (by decide) (by decide) rfl rfl (wS wd_391) (fun _ h9 => h9) dX11_at_25 hq (fun a9 hq => ?_)
      refine zz_getR S hT hB (C := RX2) (ref := "DiagramDesk$Diagram") (F := TX2) (N := 4) (index := 55) 2 0 iwX2 rfl (by decide) (by decide) rfl rfl (wS wd_392) (fun _ h9 => h9) dX11_at_28 hq (fun a10 hq => ?_)
      refine lv_iload_n hx hb dX11_at_31 rfl (lv_at hl 1 rfl) ?_
      refine lv_iload_n hx hb dX11_at_32 rfl (lv_at hl 2 rfl) ?_
      refine zz_callVi S hT hB (As := [.int x1, .int x2]) (b := a10) (o := f_X7_frontmostOn T N s7 a10 x1 x2) (c_X7_frontmostOn l D cy T hT ad N s7 _ a10 x1 x2) (cwV 2 hts (gV wSub wd_436 wd_437 wd_438 wd_35 wd_439) rfl rfl rfl (by decide +kernel) ⟨Nat.le_of_ble_eq_true rfl, Nat.le_of_ble_eq_true rfl⟩) (F := TX7) (NF := 3) 7 rfl (by decide) (k_X7_frontmostOn T N s7 a10 x1 x2) rfl hl.1 rfl (Nat.le_of_ble_eq_true rfl) dX11_at_33 hq (fun x12 s11 H locs hq hB => ?_)
      exact zz_iret S hB hr hlocks dX11_at_36 hq
    · refine lv_iconst (v := -1) hx hb dX11_at_22 (by decide) ?_
      exact zz_iret S hB hr hlocks dX11_at_23 hq
def f_X11_connect (T : zT) (N : Nat) (s0 : zS) (a0 : Nat) (x1 : Int32) (x2 : Int32) (x3 : Int32) (x4 : Int32) (x5 : Int32) : Option (Int32 × zS) :=
  zz1 (T.1 a0 = 11) <|
  (gR T s0 a0 11 0).bind fun a8 =>
  (gR T s0 a8 2 0).bind fun a9 =>
  zb2 (f_X7_find T N s0 a9 x1) fun o11 s10 => zo o11 (
    some ((-1 : Int32), s10))
  fun a12 => (
    (gR T s10 a0 11 0).bind fun a13 =>
    (gR T s10 a13 2 0).bind fun a14 =>
    zb2 (f_X7_find T N s10 a14 x3) fun o16 s15 => zo o16 (
      some ((-1 : Int32), s15))
    fun a17 => (
      if ¬ x1 = x3 then (
        zb2 (f_X11_isPort T N s15 x2) fun x19 s18 =>
        if x19 = 0 then (
          some ((-1 : Int32), s18))
        else (
          zb2 (f_X11_isPort T N s18 x4) fun x21 s20 =>
          if x21 = 0 then (
            some ((-1 : Int32), s20))
          else (
            zb2 (f_X11_isWithin T N s20 x5 (0 : Int32) (2 : Int32)) fun x23 s22 =>
            if ¬ x23 = 0 then (
              (gR T s22 a0 11 0).bind fun a24 =>
              (gR T s22 a24 2 1).bind fun a25 =>
              (gI T s22 a25 1 1).bind fun x26 =>
              if x26 < (20 : Int32) then (
                (gR T s22 a0 11 1).bind fun a27 =>
                (gR T s22 a0 11 0).bind fun a28 =>
                (f_X5_keep T N s22 a27 a28).bind fun s29 =>
                (gR T s29 a0 11 0).bind fun a30 =>
                (gR T s29 a30 2 1).bind fun a31 =>
                zb2 (f_X1_add T N s29 a31 x1 x2 x3 x4 x5) fun x33 s32 =>
                some (x33, s32))
              else (
                some ((-3 : Int32), s22)))
            else (
              some ((-1 : Int32), s22)))))
      else (
        some ((-1 : Int32), s15))))
theorem k_X11_connect (T : zT) (N : Nat) (s0 : zS) (a0 : Nat) (x1 : Int32) (x2 : Int32) (x3 : Int32) (x4 : Int32) (x5 : Int32) : ∀ q, f_X11_connect T N s0 a0 x1 x2 x3 x4 x5 = some q → T.1 a0 = 11 := by
  intro q h
  unfold f_X11_connect at h
  exact zz_guard h (fun h _ => h)
set_option maxHeartbeats 4000000 in
set_option maxRecDepth 100000 in
theorem c_X11_connect (l : Launch) (D : va_G) (cy : Nat → ClassId) (T : zT) (hT : zok T) (ad : Nat → Nat) (N : Nat) (s0 : zS) (sz : Nat) (a0 : Nat) (x1 : Int32) (x2 : Int32) (x3 : Int32) (x4 : Int32) (x5 : Int32) : ∀ (r0 : Int32) (σ0 : zS), f_X11_connect T N s0 a0 x1 x2 x3 x4 x5 = some (r0, σ0) → Met l yX11_connect wsX11_connect ({ frames := 5, cells := 0, slots := 0, locals := 106 }) (va_Pc [.ref (ad a0), .int x1, .int x2, .int x3, .int x4, .int x5] (zPre D cy T ad s0 sz)) (va_Qi (fun (r2 : Int32) (σ2 : zS) => r2 = r0 ∧ σ2 = σ0) (zAt D cy T ad (zA T ad sz)) (zA T ad sz)) 0 0 (zA T ad sz) := by
  intro r0 σ0 hq
  refine Met.ofW (cc := cX11_connect) (maxL := 6) (ret := (some .int)) (by decide) rfl ?_
  intro p e s m args below meth c s₁ B hml hv
  obtain ⟨hargs, hsz, hP, hK, hD0, hN⟩ := hv
  have hx := B.exec
  have hb := B.bytes
  have hr := B.returns
  have hts := atoms_spec (ws := wsX11_connect) B.pre
  have hown : s.vm.findClass RX11 = some m.cls := findClass_of_methodNamed B.named
  have hlocks := B.notSynchronized
  have S : CallFix p m c cX11_connect 6 s args wsX11_connect RX11 := ⟨hx, hb, hml, hown, hts⟩
  subst hsz
  have hB : zB D cy T ad (zA T ad s.heap.size) s.heap s0 s.heap [] s := zz_entry hP hK hD0 hN
  obtain ⟨ls, hent, hl⟩ := zz_ent m hargs (n := 6) (Nat.le_of_ble_eq_true rfl)
  rw [hent]
  have hl : lv_has ls 6 [(0, .ref (ad a0)), (1, .int x1), (2, .int x2), (3, .int x3), (4, .int x4), (5, .int x5)] := hl
  have iwX11 : ∀ w ∈ u_ws RX11 TX11 5, w ∈ wsX11_connect := fun w h => wS (inWX11 w h)
  have iwX2 : ∀ w ∈ u_ws RX2 TX2 4, w ∈ wsX11_connect := fun w h => wS (inWX2 w h)
  have iwX1 : ∀ w ∈ u_ws RX1 TX1 2, w ∈ wsX11_connect := fun w h => wS (inWX1 w h)
  unfold f_X11_connect at hq
  refine zz_guard hq (fun hk0 hq => ?_)
  refine lv_aload_n hx hb dX11_connect_0 rfl (lv_at hl 0 rfl) ?_
  refine zz_getR S hT hB (C := RX11) (ref := "DiagramDesk") (F := TX11) (N := 5) (index := 10) 11 0 iwX11 rfl (by decide) (by decide) rfl rfl (wS wd_391) (fun _ h9 => h9) dX11_connect_1 hq (fun a8 hq => ?_)
  refine zz_getR S hT hB (C := RX2) (ref := "DiagramDesk$Diagram") (F := TX2) (N := 4) (index := 55) 2 0 iwX2 rfl (by decide) (by decide) rfl rfl (wS wd_392) (fun _ h9 => h9) dX11_connect_4 hq (fun a9 hq => ?_)
  refine lv_iload_n hx hb dX11_connect_7 rfl (lv_at hl 1 rfl) ?_
  refine zz_callVq S hT hB (As := [.int x1]) (b := a9) (o := f_X7_find T N s0 a9 x1) (c_X7_find l D cy T hT ad N s0 _ a9 x1) (cwV 1 hts (gV wSub wd_403 wd_33 wd_34 wd_35 wd_36) rfl rfl rfl (by decide +kernel) ⟨Nat.le_of_ble_eq_true rfl, Nat.le_of_ble_eq_true rfl⟩) (F := TX7) (NF := 3) 7 rfl (by decide) (k_X7_find T N s0 a9 x1) rfl hl.1 rfl (Nat.le_of_ble_eq_true rfl) dX11_connect_8 hq (fun s10 H locs hq hB => ?_) (fun a12 s10 H locs hq hB => ?_)
  · refine lv_ifnullN (tgt := 33) hx hb dX11_connect_11 (by decide) ?_
    refine lv_iconst (v := -1) hx hb dX11_connect_33 (by decide) ?_
    exact zz_iret S hB hr hlocks dX11_connect_34 hq
  · refine lv_ifnull hx hb dX11_connect_11 ?_
    refine lv_aload_n hx hb dX11_connect_14 rfl (lv_at hl 0 rfl) ?_
    refine zz_getR S hT hB (C := RX11) (ref := "DiagramDesk") (F := TX11) (N := 5) (index := 10) 11 0 iwX11 rfl (by decide) (by decide) rfl rfl (wS wd_391) (fun _ h9 => h9) dX11_connect_15 hq (fun a13 hq => ?_)
    refine zz_getR S hT hB (C := RX2) (ref := "DiagramDesk$Diagram") (F := TX2) (N := 4) (index := 55) 2 0 iwX2 rfl (by decide) (by decide) rfl rfl (wS wd_392) (fun _ h9 => h9) dX11_connect_18 hq (fun a14 hq => ?_)
    refine lv_iload_n hx hb dX11_connect_21 rfl (lv_at hl 3 rfl) ?_
    refine zz_callVq S hT hB (As := [.int x3]) (b := a14) (o := f_X7_find T N s10 a14 x3) (c_X7_find l D cy T hT ad N s10 _ a14 x3) (cwV 1 hts (gV wSub wd_403 wd_33 wd_34 wd_35 wd_36) rfl rfl rfl (by decide +kernel) ⟨Nat.le_of_ble_eq_true rfl, Nat.le_of_ble_eq_true rfl⟩) (F := TX7) (NF := 3) 7 rfl (by decide) (k_X7_find T N s10 a14 x3) rfl hl.1 rfl (Nat.le_of_ble_eq_true rfl) dX11_connect_22 hq (fun s15 H locs hq hB => ?_) (fun a17 s15 H locs hq hB => ?_)
    · refine lv_ifnullN (tgt := 33) hx hb dX11_connect_25 (by decide) ?_
      refine lv_iconst (v := -1) hx hb dX11_connect_33 (by decide) ?_
      exact zz_iret S hB hr hlocks dX11_connect_34 hq
    · refine lv_ifnull hx hb dX11_connect_25 ?_
      refine lv_iload_n hx hb dX11_connect_28 rfl (lv_at hl 1 rfl) ?_
      refine lv_iload_n hx hb dX11_connect_29 rfl (lv_at hl 3 rfl) ?_
      refine zz_icmp_ne (tgt := 35) hx hb dX11_connect_30 (by decide) hq (fun hq => ?_) (fun hq => ?_)
      · refine lv_iload_n hx hb dX11_connect_35 rfl (lv_at hl 2 rfl) ?_
        refine zz_callSi S hT hB (As := [.int x2]) (o := f_X11_isPort T N s15 x2) (c_X11_isPort l D cy T hT ad N s15 _ x2) (va_cwS 1 hts (gS wSub wd_425 wd_426 wd_102 wd_427) rfl rfl rfl (by decide +kernel) ⟨Nat.le_of_ble_eq_true rfl, Nat.le_of_ble_eq_true rfl⟩) rfl hl.1 rfl (Nat.le_of_ble_eq_true rfl) dX11_connect_36 hq (fun x19 s18 H locs hq hB => ?_)
        refine zz_if_eq (tgt := 60) hx hb dX11_connect_39 (by decide) hq (fun hq => ?_) (fun hq => ?_)
        · refine lv_iconst (v := -1) hx hb dX11_connect_60 (by decide) ?_
          exact zz_iret S hB hr hlocks dX11_connect_61 hq
        · refine lv_iload hx hb dX11_connect_42 (lv_at hl 4 rfl) ?_
          refine zz_callSi S hT hB (As := [.int x4]) (o := f_X11_isPort T N s18 x4) (c_X11_isPort l D cy T hT ad N s18 _ x4) (va_cwS 1 hts (gS wSub wd_425 wd_426 wd_102 wd_427) rfl rfl rfl (by decide +kernel) ⟨Nat.le_of_ble_eq_true rfl, Nat.le_of_ble_eq_true rfl⟩) rfl hl.1 rfl (Nat.le_of_ble_eq_true rfl) dX11_connect_44 hq (fun x21 s20 H locs hq hB => ?_)
          refine zz_if_eq (tgt := 60) hx hb dX11_connect_47 (by decide) hq (fun hq => ?_) (fun hq => ?_)
          · refine lv_iconst (v := -1) hx hb dX11_connect_60 (by decide) ?_
            exact zz_iret S hB hr hlocks dX11_connect_61 hq
          · refine lv_iload hx hb dX11_connect_50 (lv_at hl 5 rfl) ?_
            refine lv_iconst (v := 0) hx hb dX11_connect_52 (by decide) ?_
            refine lv_iconst (v := 2) hx hb dX11_connect_53 (by decide) ?_
            refine zz_callSi S hT hB (As := [.int x5, .int (0 : Int32), .int (2 : Int32)]) (o := f_X11_isWithin T N s20 x5 (0 : Int32) (2 : Int32)) (c_X11_isWithin l D cy T hT ad N s20 _ x5 (0 : Int32) (2 : Int32)) (va_cwS 3 hts (gS wSub wd_253 wd_222 wd_102 wd_221) rfl rfl rfl (by decide +kernel) ⟨Nat.le_of_ble_eq_true rfl, Nat.le_of_ble_eq_true rfl⟩) rfl hl.1 rfl (Nat.le_of_ble_eq_true rfl) dX11_connect_54 hq (fun x23 s22 H locs hq hB => ?_)
            refine zz_if_ne (tgt := 62) hx hb dX11_connect_57 (by decide) hq (fun hq => ?_) (fun hq => ?_)
            · refine lv_aload_n hx hb dX11_connect_62 rfl (lv_at hl 0 rfl) ?_
              refine zz_getR S hT hB (C := RX11) (ref := "DiagramDesk") (F := TX11) (N := 5) (index := 10) 11 0 iwX11 rfl (by decide) (by decide) rfl rfl (wS wd_391) (fun _ h9 => h9) dX11_connect_63 hq (fun a24 hq => ?_)
              refine zz_getR S hT hB (C := RX2) (ref := "DiagramDesk$Diagram") (F := TX2) (N := 4) (index := 89) 2 1 iwX2 rfl (by decide) (by decide) rfl rfl (wS wd_410) (fun _ h9 => h9) dX11_connect_66 hq (fun a25 hq => ?_)
              refine zz_get S hT hB (C := RX1) (ref := "DiagramDesk$Connectors") (F := TX1) (N := 2) (index := 153) 1 1 iwX1 rfl (by decide) (by decide) rfl rfl (wS wd_440) (fun _ h9 => h9) dX11_connect_69 hq (fun x26 hq => ?_)
              refine lv_bipush (v := 20) hx hb dX11_connect_72 (by decide) ?_
              refine zz_icmp_lt (tgt := 80) hx hb dX11_connect_74 (by decide) hq (fun hq => ?_) (fun hq => ?_)
              · refine lv_aload_n hx hb dX11_connect_80 rfl (lv_at hl 0 rfl) ?_
                refine zz_getR S hT hB (C := RX11) (ref := "DiagramDesk") (F := TX11) (N := 5) (index := 19) 11 1 iwX11 rfl (by decide) (by decide) rfl rfl (wS wd_394) (fun _ h9 => h9) dX11_connect_81 hq (fun a27 hq => ?_)
                refine lv_aload_n hx hb dX11_connect_84 rfl (lv_at hl 0 rfl) ?_
                refine zz_getR S hT hB (C := RX11) (ref := "DiagramDesk") (F := TX11) (N := 5) (index := 10) 11 0 iwX11 rfl (by decide) (by decide) rfl rfl (wS wd_391) (fun _ h9 => h9) dX11_connect_85 hq (fun a28 hq => ?_)
                refine zz_callVv S hT hB (As := [.ref (ad a28)]) (b := a27) (o := f_X5_keep T N s22 a27 a28) (c_X5_keep l D cy T hT ad N s22 _ a27 a28) (cwV 1 hts (gV wSub wd_395 wd_396 wd_397 wd_215 wd_398) rfl rfl rfl (by decide +kernel) ⟨Nat.le_of_ble_eq_true rfl, Nat.le_of_ble_eq_true rfl⟩) (F := TX5) (NF := 2) 5 rfl (by decide) (k_X5_keep T N s22 a27 a28) rfl hl.1 rfl (Nat.le_of_ble_eq_true rfl) dX11_connect_88 hq (fun s29 H locs hq hB => ?_)
                refine lv_aload_n hx hb dX11_connect_91 rfl (lv_at hl 0 rfl) ?_
                refine zz_getR S hT hB (C := RX11) (ref := "DiagramDesk") (F := TX11) (N := 5) (index := 10) 11 0 iwX11 rfl (by decide) (by decide) rfl rfl (wS wd_391) (fun _ h9 => h9) dX11_connect_92 hq (fun a30 hq => ?_)
                refine zz_getR S hT hB (C := RX2) (ref := "DiagramDesk$Diagram") (F := TX2) (N := 4) (index := 89) 2 1 iwX2 rfl (by decide) (by decide) rfl rfl (wS wd_410) (fun _ h9 => h9) dX11_connect_95 hq (fun a31 hq => ?_)
                refine lv_iload_n hx hb dX11_connect_98 rfl (lv_at hl 1 rfl) ?_
                refine lv_iload_n hx hb dX11_connect_99 rfl (lv_at hl 2 rfl) ?_
                refine lv_iload_n hx hb dX11_connect_100 rfl (lv_at hl 3 rfl) ?_
                refine lv_iload hx hb dX11_connect_101 (lv_at hl 4 rfl) ?_
                refine lv_iload hx hb dX11_connect_103 (lv_at hl 5 rfl) ?_
                refine zz_callVi S hT hB (As := [.int x1, .int x2, .int x3, .int x4, .int x5]) (b := a31) (o := f_X1_add T N s29 a31 x1 x2 x3 x4 x5) (c_X1_add l D cy T hT ad N s29 _ a31 x1 x2 x3 x4 x5) (cwV 5 hts (gV wSub wd_441 wd_442 wd_443 wd_94 wd_444) rfl rfl rfl (by decide +kernel) ⟨Nat.le_of_ble_eq_true rfl, Nat.le_of_ble_eq_true rfl⟩) (F := TX1) (NF := 2) 1 rfl (by decide) (k_X1_add T N s29 a31 x1 x2 x3 x4 x5) rfl hl.1 rfl (Nat.le_of_ble_eq_true rfl) dX11_connect_105 hq (fun x33 s32 H locs hq hB => ?_)
                exact zz_iret S hB hr hlocks dX11_connect_108 hq
              · refine lv_bipush (v := -3) hx hb dX11_connect_77 (by decide) ?_
                exact zz_iret S hB hr hlocks dX11_connect_79 hq
            · refine lv_iconst (v := -1) hx hb dX11_connect_60 (by decide) ?_
              exact zz_iret S hB hr hlocks dX11_connect_61 hq
      · refine lv_iconst (v := -1) hx hb dX11_connect_33 (by decide) ?_
        exact zz_iret S hB hr hlocks dX11_connect_34 hq
def f_X11_disconnect (T : zT) (N : Nat) (s0 : zS) (a0 : Nat) (x1 : Int32) : Option (Int32 × zS) :=
  zz1 (T.1 a0 = 11) <|
  (gR T s0 a0 11 0).bind fun a4 =>
  (gR T s0 a4 2 1).bind fun a5 =>
  zb2 (f_X1_find T N s0 a5 x1) fun o7 s6 => zo o7 (
    some ((-1 : Int32), s6))
  fun a8 => (
    (gR T s6 a0 11 1).bind fun a9 =>
    (gR T s6 a0 11 0).bind fun a10 =>
    (f_X5_keep T N s6 a9 a10).bind fun s11 =>
    (gR T s11 a0 11 0).bind fun a12 =>
    (gR T s11 a12 2 1).bind fun a13 =>
    (f_X1_drop T N s11 a13 x1).bind fun s14 =>
    (gR T s14 a0 11 0).bind fun a15 =>
    (gR T s14 a15 2 1).bind fun a16 =>
    (gI T s14 a16 1 1).bind fun x17 =>
    some (x17, s14))
theorem k_X11_disconnect (T : zT) (N : Nat) (s0 : zS) (a0 : Nat) (x1 : Int32) : ∀ q, f_X11_disconnect T N s0 a0 x1 = some q → T.1 a0 = 11 := by
  intro q h
  unfold f_X11_disconnect at h
  exact zz_guard h (fun h _ => h)
set_option maxHeartbeats 4000000 in
set_option maxRecDepth 100000 in
theorem c_X11_disconnect (l : Launch) (D : va_G) (cy : Nat → ClassId) (T : zT) (hT : zok T) (ad : Nat → Nat) (N : Nat) (s0 : zS) (sz : Nat) (a0 : Nat) (x1 : Int32) : ∀ (r0 : Int32) (σ0 : zS), f_X11_disconnect T N s0 a0 x1 = some (r0, σ0) → Met l yX11_disconnect wsX11_disconnect ({ frames := 5, cells := 0, slots := 0, locals := 106 }) (va_Pc [.ref (ad a0), .int x1] (zPre D cy T ad s0 sz)) (va_Qi (fun (r2 : Int32) (σ2 : zS) => r2 = r0 ∧ σ2 = σ0) (zAt D cy T ad (zA T ad sz)) (zA T ad sz)) 0 0 (zA T ad sz) := by
  intro r0 σ0 hq
  refine Met.ofW (cc := cX11_disconnect) (maxL := 2) (ret := (some .int)) (by decide) rfl ?_
  intro p e s m args below meth c s₁ B hml hv
  obtain ⟨hargs, hsz, hP, hK, hD0, hN⟩ := hv
  have hx := B.exec
  have hb := B.bytes
  have hr := B.returns
  have hts := atoms_spec (ws := wsX11_disconnect) B.pre
  have hown : s.vm.findClass RX11 = some m.cls := findClass_of_methodNamed B.named
  have hlocks := B.notSynchronized
  have S : CallFix p m c cX11_disconnect 2 s args wsX11_disconnect RX11 := ⟨hx, hb, hml, hown, hts⟩
  subst hsz
  have hB : zB D cy T ad (zA T ad s.heap.size) s.heap s0 s.heap [] s := zz_entry hP hK hD0 hN
  obtain ⟨ls, hent, hl⟩ := zz_ent m hargs (n := 2) (Nat.le_of_ble_eq_true rfl)
  rw [hent]
  have hl : lv_has ls 2 [(0, .ref (ad a0)), (1, .int x1)] := hl
  have iwX11 : ∀ w ∈ u_ws RX11 TX11 5, w ∈ wsX11_disconnect := fun w h => wS (inWX11 w h)
  have iwX2 : ∀ w ∈ u_ws RX2 TX2 4, w ∈ wsX11_disconnect := fun w h => wS (inWX2 w h)
  have iwX1 : ∀ w ∈ u_ws RX1 TX1 2, w ∈ wsX11_disconnect := fun w h => wS (inWX1 w h)
  unfold f_X11_disconnect at hq
  refine zz_guard hq (fun hk0 hq => ?_)
  refine lv_aload_n hx hb dX11_disconnect_0 rfl (lv_at hl 0 rfl) ?_
  refine zz_getR S hT hB (C := RX11) (ref := "DiagramDesk") (F := TX11) (N := 5) (index := 10) 11 0 iwX11 rfl (by decide) (by decide) rfl rfl (wS wd_391) (fun _ h9 => h9) dX11_disconnect_1 hq (fun a4 hq => ?_)
  refine zz_getR S hT hB (C := RX2) (ref := "DiagramDesk$Diagram") (F := TX2) (N := 4) (index := 89) 2 1 iwX2 rfl (by decide) (by decide) rfl rfl (wS wd_410) (fun _ h9 => h9) dX11_disconnect_4 hq (fun a5 hq => ?_)
  refine lv_iload_n hx hb dX11_disconnect_7 rfl (lv_at hl 1 rfl) ?_
  refine zz_callVq S hT hB (As := [.int x1]) (b := a5) (o := f_X1_find T N s0 a5 x1) (c_X1_find l D cy T hT ad N s0 _ a5 x1) (cwV 1 hts (gV wSub wd_445 wd_92 wd_93 wd_94 wd_95) rfl rfl rfl (by decide +kernel) ⟨Nat.le_of_ble_eq_true rfl, Nat.le_of_ble_eq_true rfl⟩) (F := TX1) (NF := 2) 1 rfl (by decide) (k_X1_find T N s0 a5 x1) rfl hl.1 rfl (Nat.le_of_ble_eq_true rfl) dX11_disconnect_8 hq (fun s6 H locs hq hB => ?_) (fun a8 s6 H locs hq hB => ?_)
  · refine lv_ifnonnullN hx hb dX11_disconnect_11 ?_
    refine lv_iconst (v := -1) hx hb dX11_disconnect_14 (by decide) ?_
    exact zz_iret S hB hr hlocks dX11_disconnect_15 hq
  · refine lv_ifnonnull (tgt := 16) hx hb dX11_disconnect_11 (by decide) ?_
    refine lv_aload_n hx hb dX11_disconnect_16 rfl (lv_at hl 0 rfl) ?_
    refine zz_getR S hT hB (C := RX11) (ref := "DiagramDesk") (F := TX11) (N := 5) (index := 19) 11 1 iwX11 rfl (by decide) (by decide) rfl rfl (wS wd_394) (fun _ h9 => h9) dX11_disconnect_17 hq (fun a9 hq => ?_)
    refine lv_aload_n hx hb dX11_disconnect_20 rfl (lv_at hl 0 rfl) ?_
    refine zz_getR S hT hB (C := RX11) (ref := "DiagramDesk") (F := TX11) (N := 5) (index := 10) 11 0 iwX11 rfl (by decide) (by decide) rfl rfl (wS wd_391) (fun _ h9 => h9) dX11_disconnect_21 hq (fun a10 hq => ?_)
    refine zz_callVv S hT hB (As := [.ref (ad a10)]) (b := a9) (o := f_X5_keep T N s6 a9 a10) (c_X5_keep l D cy T hT ad N s6 _ a9 a10) (cwV 1 hts (gV wSub wd_395 wd_396 wd_397 wd_215 wd_398) rfl rfl rfl (by decide +kernel) ⟨Nat.le_of_ble_eq_true rfl, Nat.le_of_ble_eq_true rfl⟩) (F := TX5) (NF := 2) 5 rfl (by decide) (k_X5_keep T N s6 a9 a10) rfl hl.1 rfl (Nat.le_of_ble_eq_true rfl) dX11_disconnect_24 hq (fun s11 H locs hq hB => ?_)
    refine lv_aload_n hx hb dX11_disconnect_27 rfl (lv_at hl 0 rfl) ?_
    refine zz_getR S hT hB (C := RX11) (ref := "DiagramDesk") (F := TX11) (N := 5) (index := 10) 11 0 iwX11 rfl (by decide) (by decide) rfl rfl (wS wd_391) (fun _ h9 => h9) dX11_disconnect_28 hq (fun a12 hq => ?_)
    refine zz_getR S hT hB (C := RX2) (ref := "DiagramDesk$Diagram") (F := TX2) (N := 4) (index := 89) 2 1 iwX2 rfl (by decide) (by decide) rfl rfl (wS wd_410) (fun _ h9 => h9) dX11_disconnect_31 hq (fun a13 hq => ?_)
    refine lv_iload_n hx hb dX11_disconnect_34 rfl (lv_at hl 1 rfl) ?_
    refine zz_callVv S hT hB (As := [.int x1]) (b := a13) (o := f_X1_drop T N s11 a13 x1) (c_X1_drop l D cy T hT ad N s11 _ a13 x1) (cwV 1 hts (gV wSub wd_446 wd_98 wd_99 wd_94 wd_100) rfl rfl rfl (by decide +kernel) ⟨Nat.le_of_ble_eq_true rfl, Nat.le_of_ble_eq_true rfl⟩) (F := TX1) (NF := 2) 1 rfl (by decide) (k_X1_drop T N s11 a13 x1) rfl hl.1 rfl (Nat.le_of_ble_eq_true rfl) dX11_disconnect_35 hq (fun s14 H locs hq hB => ?_)
    refine lv_aload_n hx hb dX11_disconnect_38 rfl (lv_at hl 0 rfl) ?_
    refine zz_getR S hT hB (C := RX11) (ref := "DiagramDesk") (F := TX11) (N := 5) (index := 10) 11 0 iwX11 rfl (by decide) (by decide) rfl rfl (wS wd_391) (fun _ h9 => h9) dX11_disconnect_39 hq (fun a15 hq => ?_)
    refine zz_getR S hT hB (C := RX2) (ref := "DiagramDesk$Diagram") (F := TX2) (N := 4) (index := 89) 2 1 iwX2 rfl (by decide) (by decide) rfl rfl (wS wd_410) (fun _ h9 => h9) dX11_disconnect_42 hq (fun a16 hq => ?_)
    refine zz_get S hT hB (C := RX1) (ref := "DiagramDesk$Connectors") (F := TX1) (N := 2) (index := 153) 1 1 iwX1 rfl (by decide) (by decide) rfl rfl (wS wd_440) (fun _ h9 => h9) dX11_disconnect_45 hq (fun x17 hq => ?_)
    exact zz_iret S hB hr hlocks dX11_disconnect_48 hq
def f_X11_connectors (T : zT) (N : Nat) (s0 : zS) (a0 : Nat) : Option (Int32 × zS) :=
  zz1 (T.1 a0 = 11) <|
  (gR T s0 a0 11 0).bind fun a3 =>
  (gR T s0 a3 2 1).bind fun a4 =>
  (gI T s0 a4 1 1).bind fun x5 =>
  some (x5, s0)
theorem k_X11_connectors (T : zT) (N : Nat) (s0 : zS) (a0 : Nat) : ∀ q, f_X11_connectors T N s0 a0 = some q → T.1 a0 = 11 := by
  intro q h
  unfold f_X11_connectors at h
  exact zz_guard h (fun h _ => h)
set_option maxHeartbeats 4000000 in
set_option maxRecDepth 100000 in
theorem c_X11_connectors (l : Launch) (D : va_G) (cy : Nat → ClassId) (T : zT) (hT : zok T) (ad : Nat → Nat) (N : Nat) (s0 : zS) (sz : Nat) (a0 : Nat) : ∀ (r0 : Int32) (σ0 : zS), f_X11_connectors T N s0 a0 = some (r0, σ0) → Met l yX11_connectors wsX11_connectors ({ frames := 0, cells := 0, slots := 0, locals := 0 }) (va_Pc [.ref (ad a0)] (zPre D cy T ad s0 sz)) (va_Qi (fun (r2 : Int32) (σ2 : zS) => r2 = r0 ∧ σ2 = σ0) (zAt D cy T ad (zA T ad sz)) (zA T ad sz)) 0 0 (zA T ad sz) := by
  intro r0 σ0 hq
  refine Met.ofW (cc := cX11_connectors) (maxL := 1) (ret := (some .int)) (by decide) rfl ?_
  intro p e s m args below meth c s₁ B hml hv
  obtain ⟨hargs, hsz, hP, hK, hD0, hN⟩ := hv
  have hx := B.exec
  have hb := B.bytes
  have hr := B.returns
  have hts := atoms_spec (ws := wsX11_connectors) B.pre
  have hown : s.vm.findClass RX11 = some m.cls := findClass_of_methodNamed B.named
  have hlocks := B.notSynchronized
  have S : CallFix p m c cX11_connectors 1 s args wsX11_connectors RX11 := ⟨hx, hb, hml, hown, hts⟩
  subst hsz
  have hB : zB D cy T ad (zA T ad s.heap.size) s.heap s0 s.heap [] s := zz_entry hP hK hD0 hN
  obtain ⟨ls, hent, hl⟩ := zz_ent m hargs (n := 1) (Nat.le_of_ble_eq_true rfl)
  rw [hent]
  have hl : lv_has ls 1 [(0, .ref (ad a0))] := hl
  have iwX11 : ∀ w ∈ u_ws RX11 TX11 5, w ∈ wsX11_connectors := fun w h => wS (inWX11 w h)
  have iwX2 : ∀ w ∈ u_ws RX2 TX2 4, w ∈ wsX11_connectors := fun w h => wS (inWX2 w h)
  have iwX1 : ∀ w ∈ u_ws RX1 TX1 2, w ∈ wsX11_connectors := fun w h => wS (inWX1 w h)
  unfold f_X11_connectors at hq
  refine zz_guard hq (fun hk0 hq => ?_)
  refine lv_aload_n hx hb dX11_connectors_0 rfl (lv_at hl 0 rfl) ?_
  refine zz_getR S hT hB (C := RX11) (ref := "DiagramDesk") (F := TX11) (N := 5) (index := 10) 11 0 iwX11 rfl (by decide) (by decide) rfl rfl (wS wd_391) (fun _ h9 => h9) dX11_connectors_1 hq (fun a3 hq => ?_)
  refine zz_getR S hT hB (C := RX2) (ref := "DiagramDesk$Diagram") (F := TX2) (N := 4) (index := 89) 2 1 iwX2 rfl (by decide) (by decide) rfl rfl (wS wd_410) (fun _ h9 => h9) dX11_connectors_4 hq (fun a4 hq => ?_)
  refine zz_get S hT hB (C := RX1) (ref := "DiagramDesk$Connectors") (F := TX1) (N := 2) (index := 153) 1 1 iwX1 rfl (by decide) (by decide) rfl rfl (wS wd_440) (fun _ h9 => h9) dX11_connectors_7 hq (fun x5 hq => ?_)
  exact zz_iret S hB hr hlocks dX11_connectors_10 hq
def f_X11_point (T : zT) (N : Nat) (s0 : zS) (a0 : Nat) (x1 : Int32) (x2 : Int32) (x3 : Int32) : Option (Int32 × zS) :=
  zz1 (T.1 a0 = 11) <|
  (gR T s0 a0 11 0).bind fun a6 =>
  (gR T s0 a6 2 1).bind fun a7 =>
  zb2 (f_X1_find T N s0 a7 x1) fun o9 s8 => zo o9 (
    some ((-1000000 : Int32), s8))
  fun a10 => (
    zb2 (f_X0_lastPoint T N s8 a10) fun x12 s11 =>
    zb2 (f_X11_isWithin T N s11 x2 (0 : Int32) x12) fun x14 s13 =>
    if x14 = 0 then (
      some ((-1000000 : Int32), s13))
    else (
      zb2 (f_X11_isAxis T N s13 x3) fun x16 s15 =>
      if ¬ x16 = 0 then (
        (gR T s15 a0 11 0).bind fun a17 =>
        (gR T s15 a17 2 0).bind fun a18 =>
        zb2 (f_X0_place T N s15 a10 a18 x2 x3) fun x20 s19 =>
        some (x20, s19))
      else (
        some ((-1000000 : Int32), s15))))
theorem k_X11_point (T : zT) (N : Nat) (s0 : zS) (a0 : Nat) (x1 : Int32) (x2 : Int32) (x3 : Int32) : ∀ q, f_X11_point T N s0 a0 x1 x2 x3 = some q → T.1 a0 = 11 := by
  intro q h
  unfold f_X11_point at h
  exact zz_guard h (fun h _ => h)
set_option maxHeartbeats 4000000 in
set_option maxRecDepth 100000 in
theorem c_X11_point (l : Launch) (D : va_G) (cy : Nat → ClassId) (T : zT) (hT : zok T) (ad : Nat → Nat) (N : Nat) (s0 : zS) (sz : Nat) (a0 : Nat) (x1 : Int32) (x2 : Int32) (x3 : Int32) : ∀ (r0 : Int32) (σ0 : zS), f_X11_point T N s0 a0 x1 x2 x3 = some (r0, σ0) → Met l yX11_point wsX11_point ({ frames := 4, cells := 0, slots := 0, locals := 94 }) (va_Pc [.ref (ad a0), .int x1, .int x2, .int x3] (zPre D cy T ad s0 sz)) (va_Qi (fun (r2 : Int32) (σ2 : zS) => r2 = r0 ∧ σ2 = σ0) (zAt D cy T ad (zA T ad sz)) (zA T ad sz)) 0 0 (zA T ad sz) := by
  intro r0 σ0 hq
  refine Met.ofW (cc := cX11_point) (maxL := 5) (ret := (some .int)) (by decide) rfl ?_
  intro p e s m args below meth c s₁ B hml hv
  obtain ⟨hargs, hsz, hP, hK, hD0, hN⟩ := hv
  have hx := B.exec
  have hb := B.bytes
  have hr := B.returns
  have hts := atoms_spec (ws := wsX11_point) B.pre
  have hown : s.vm.findClass RX11 = some m.cls := findClass_of_methodNamed B.named
  have hlocks := B.notSynchronized
  have S : CallFix p m c cX11_point 5 s args wsX11_point RX11 := ⟨hx, hb, hml, hown, hts⟩
  subst hsz
  have hB : zB D cy T ad (zA T ad s.heap.size) s.heap s0 s.heap [] s := zz_entry hP hK hD0 hN
  obtain ⟨ls, hent, hl⟩ := zz_ent m hargs (n := 5) (Nat.le_of_ble_eq_true rfl)
  rw [hent]
  have hl : lv_has ls 5 [(0, .ref (ad a0)), (1, .int x1), (2, .int x2), (3, .int x3)] := hl
  have iwX11 : ∀ w ∈ u_ws RX11 TX11 5, w ∈ wsX11_point := fun w h => wS (inWX11 w h)
  have iwX2 : ∀ w ∈ u_ws RX2 TX2 4, w ∈ wsX11_point := fun w h => wS (inWX2 w h)
  unfold f_X11_point at hq
  refine zz_guard hq (fun hk0 hq => ?_)
  refine lv_aload_n hx hb dX11_point_0 rfl (lv_at hl 0 rfl) ?_
  refine zz_getR S hT hB (C := RX11) (ref := "DiagramDesk") (F := TX11) (N := 5) (index := 10) 11 0 iwX11 rfl (by decide) (by decide) rfl rfl (wS wd_391) (fun _ h9 => h9) dX11_point_1 hq (fun a6 hq => ?_)
  refine zz_getR S hT hB (C := RX2) (ref := "DiagramDesk$Diagram") (F := TX2) (N := 4) (index := 89) 2 1 iwX2 rfl (by decide) (by decide) rfl rfl (wS wd_410) (fun _ h9 => h9) dX11_point_4 hq (fun a7 hq => ?_)
  refine lv_iload_n hx hb dX11_point_7 rfl (lv_at hl 1 rfl) ?_
  refine zz_callVq S hT hB (As := [.int x1]) (b := a7) (o := f_X1_find T N s0 a7 x1) (c_X1_find l D cy T hT ad N s0 _ a7 x1) (cwV 1 hts (gV wSub wd_445 wd_92 wd_93 wd_94 wd_95) rfl rfl rfl (by decide +kernel) ⟨Nat.le_of_ble_eq_true rfl, Nat.le_of_ble_eq_true rfl⟩) (F := TX1) (NF := 2) 1 rfl (by decide) (k_X1_find T N s0 a7 x1) rfl hl.1 rfl (Nat.le_of_ble_eq_true rfl) dX11_point_8 hq (fun s8 H locs hq hB => ?_) (fun a10 s8 H locs hq hB => ?_)
  · refine lv_astoreN (lv' := [(4, .null), (0, .ref (ad a0)), (1, .int x1), (2, .int x2), (3, .int x3)]) hx hb dX11_point_11 hl (by decide) rfl (fun ls hl => ?_)
    refine lv_aloadN hx hb dX11_point_13 (lv_at hl 0 rfl) ?_
    refine lv_ifnullN (tgt := 38) hx hb dX11_point_15 (by decide) ?_
    refine lv_ldc (v := -1000000) hx hb hown (hts _ (wS wd_415)) dX11_point_38 ?_
    exact zz_iret S hB hr hlocks dX11_point_40 hq
  · refine lv_astore (lv' := [(4, .ref (ad a10)), (0, .ref (ad a0)), (1, .int x1), (2, .int x2), (3, .int x3)]) hx hb dX11_point_11 hl (by decide) rfl (fun ls hl => ?_)
    refine lv_aload hx hb dX11_point_13 (lv_at hl 0 rfl) ?_
    refine lv_ifnull hx hb dX11_point_15 ?_
    refine lv_iload_n hx hb dX11_point_18 rfl (lv_at hl 3 rfl) ?_
    refine lv_iconst (v := 0) hx hb dX11_point_19 (by decide) ?_
    refine lv_aload hx hb dX11_point_20 (lv_at hl 0 rfl) ?_
    refine zz_callVi S hT hB (As := []) (b := a10) (o := f_X0_lastPoint T N s8 a10) (c_X0_lastPoint l D cy T hT ad N s8 _ a10) (cwV 0 hts (gV wSub wd_447 wd_43 wd_44 wd_45 wd_46) rfl rfl rfl (by decide +kernel) ⟨Nat.le_of_ble_eq_true rfl, Nat.le_of_ble_eq_true rfl⟩) (F := TX0) (NF := 5) 0 rfl (by decide) (k_X0_lastPoint T N s8 a10) rfl hl.1 rfl (Nat.le_of_ble_eq_true rfl) dX11_point_22 hq (fun x12 s11 H locs hq hB => ?_)
    refine zz_callSi S hT hB (As := [.int x2, .int (0 : Int32), .int x12]) (o := f_X11_isWithin T N s11 x2 (0 : Int32) x12) (c_X11_isWithin l D cy T hT ad N s11 _ x2 (0 : Int32) x12) (va_cwS 3 hts (gS wSub wd_253 wd_222 wd_102 wd_221) rfl rfl rfl (by decide +kernel) ⟨Nat.le_of_ble_eq_true rfl, Nat.le_of_ble_eq_true rfl⟩) rfl hl.1 rfl (Nat.le_of_ble_eq_true rfl) dX11_point_25 hq (fun x14 s13 H locs hq hB => ?_)
    refine zz_if_eq (tgt := 38) hx hb dX11_point_28 (by decide) hq (fun hq => ?_) (fun hq => ?_)
    · refine lv_ldc (v := -1000000) hx hb hown (hts _ (wS wd_415)) dX11_point_38 ?_
      exact zz_iret S hB hr hlocks dX11_point_40 hq
    · refine lv_iload_n hx hb dX11_point_31 rfl (lv_at hl 4 rfl) ?_
      refine zz_callSi S hT hB (As := [.int x3]) (o := f_X11_isAxis T N s13 x3) (c_X11_isAxis l D cy T hT ad N s13 _ x3) (va_cwS 1 hts (gS wSub wd_428 wd_429 wd_102 wd_430) rfl rfl rfl (by decide +kernel) ⟨Nat.le_of_ble_eq_true rfl, Nat.le_of_ble_eq_true rfl⟩) rfl hl.1 rfl (Nat.le_of_ble_eq_true rfl) dX11_point_32 hq (fun x16 s15 H locs hq hB => ?_)
      refine zz_if_ne (tgt := 41) hx hb dX11_point_35 (by decide) hq (fun hq => ?_) (fun hq => ?_)
      · refine lv_aload hx hb dX11_point_41 (lv_at hl 0 rfl) ?_
        refine lv_aload_n hx hb dX11_point_43 rfl (lv_at hl 1 rfl) ?_
        refine zz_getR S hT hB (C := RX11) (ref := "DiagramDesk") (F := TX11) (N := 5) (index := 10) 11 0 iwX11 rfl (by decide) (by decide) rfl rfl (wS wd_391) (fun _ h9 => h9) dX11_point_44 hq (fun a17 hq => ?_)
        refine zz_getR S hT hB (C := RX2) (ref := "DiagramDesk$Diagram") (F := TX2) (N := 4) (index := 55) 2 0 iwX2 rfl (by decide) (by decide) rfl rfl (wS wd_392) (fun _ h9 => h9) dX11_point_47 hq (fun a18 hq => ?_)
        refine lv_iload_n hx hb dX11_point_50 rfl (lv_at hl 3 rfl) ?_
        refine lv_iload_n hx hb dX11_point_51 rfl (lv_at hl 4 rfl) ?_
        refine zz_callVi S hT hB (As := [.ref (ad a18), .int x2, .int x3]) (b := a10) (o := f_X0_place T N s15 a10 a18 x2 x3) (c_X0_place l D cy T hT ad N s15 _ a10 a18 x2 x3) (cwV 3 hts (gV wSub wd_448 wd_49 wd_50 wd_45 wd_51) rfl rfl rfl (by decide +kernel) ⟨Nat.le_of_ble_eq_true rfl, Nat.le_of_ble_eq_true rfl⟩) (F := TX0) (NF := 5) 0 rfl (by decide) (k_X0_place T N s15 a10 a18 x2 x3) rfl hl.1 rfl (Nat.le_of_ble_eq_true rfl) dX11_point_52 hq (fun x20 s19 H locs hq hB => ?_)
        exact zz_iret S hB hr hlocks dX11_point_55 hq
      · refine lv_ldc (v := -1000000) hx hb hown (hts _ (wS wd_415)) dX11_point_38 ?_
        exact zz_iret S hB hr hlocks dX11_point_40 hq
def f_X11_length (T : zT) (N : Nat) (s0 : zS) (a0 : Nat) (x1 : Int32) : Option (Int32 × zS) :=
  zz1 (T.1 a0 = 11) <|
  (gR T s0 a0 11 0).bind fun a4 =>
  (gR T s0 a4 2 1).bind fun a5 =>
  zb2 (f_X1_find T N s0 a5 x1) fun o7 s6 => zo o7 (
    some ((-1 : Int32), s6))
  fun a8 => (
    (gR T s6 a0 11 0).bind fun a9 =>
    (gR T s6 a9 2 0).bind fun a10 =>
    zb2 (f_X0_extent T N s6 a8 a10) fun x12 s11 =>
    some (x12, s11))
theorem k_X11_length (T : zT) (N : Nat) (s0 : zS) (a0 : Nat) (x1 : Int32) : ∀ q, f_X11_length T N s0 a0 x1 = some q → T.1 a0 = 11 := by
  intro q h
  unfold f_X11_length at h
  exact zz_guard h (fun h _ => h)
set_option maxHeartbeats 4000000 in
set_option maxRecDepth 100000 in
theorem c_X11_length (l : Launch) (D : va_G) (cy : Nat → ClassId) (T : zT) (hT : zok T) (ad : Nat → Nat) (N : Nat) (s0 : zS) (sz : Nat) (a0 : Nat) (x1 : Int32) : ∀ (r0 : Int32) (σ0 : zS), f_X11_length T N s0 a0 x1 = some (r0, σ0) → Met l yX11_length wsX11_length ({ frames := 5, cells := 0, slots := 0, locals := 117 }) (va_Pc [.ref (ad a0), .int x1] (zPre D cy T ad s0 sz)) (va_Qi (fun (r2 : Int32) (σ2 : zS) => r2 = r0 ∧ σ2 = σ0) (zAt D cy T ad (zA T ad sz)) (zA T ad sz)) 0 0 (zA T ad sz) := by
  intro r0 σ0 hq
  refine Met.ofW (cc := cX11_length) (maxL := 3) (ret := (some .int)) (by decide) rfl ?_
  intro p e s m args below meth c s₁ B hml hv
  obtain ⟨hargs, hsz, hP, hK, hD0, hN⟩ := hv
  have hx := B.exec
  have hb := B.bytes
  have hr := B.returns
  have hts := atoms_spec (ws := wsX11_length) B.pre
  have hown : s.vm.findClass RX11 = some m.cls := findClass_of_methodNamed B.named
  have hlocks := B.notSynchronized
  have S : CallFix p m c cX11_length 3 s args wsX11_length RX11 := ⟨hx, hb, hml, hown, hts⟩
  subst hsz
  have hB : zB D cy T ad (zA T ad s.heap.size) s.heap s0 s.heap [] s := zz_entry hP hK hD0 hN
  obtain ⟨ls, hent, hl⟩ := zz_ent m hargs (n := 3) (Nat.le_of_ble_eq_true rfl)
  rw [hent]
  have hl : lv_has ls 3 [(0, .ref (ad a0)), (1, .int x1)] := hl
  have iwX11 : ∀ w ∈ u_ws RX11 TX11 5, w ∈ wsX11_length := fun w h => wS (inWX11 w h)
  have iwX2 : ∀ w ∈ u_ws RX2 TX2 4, w ∈ wsX11_length := fun w h => wS (inWX2 w h)
  unfold f_X11_length at hq
  refine zz_guard hq (fun hk0 hq => ?_)
  refine lv_aload_n hx hb dX11_length_0 rfl (lv_at hl 0 rfl) ?_
  refine zz_getR S hT hB (C := RX11) (ref := "DiagramDesk") (F := TX11) (N := 5) (index := 10) 11 0 iwX11 rfl (by decide) (by decide) rfl rfl (wS wd_391) (fun _ h9 => h9) dX11_length_1 hq (fun a4 hq => ?_)
  refine zz_getR S hT hB (C := RX2) (ref := "DiagramDesk$Diagram") (F := TX2) (N := 4) (index := 89) 2 1 iwX2 rfl (by decide) (by decide) rfl rfl (wS wd_410) (fun _ h9 => h9) dX11_length_4 hq (fun a5 hq => ?_)
  refine lv_iload_n hx hb dX11_length_7 rfl (lv_at hl 1 rfl) ?_
  refine zz_callVq S hT hB (As := [.int x1]) (b := a5) (o := f_X1_find T N s0 a5 x1) (c_X1_find l D cy T hT ad N s0 _ a5 x1) (cwV 1 hts (gV wSub wd_445 wd_92 wd_93 wd_94 wd_95) rfl rfl rfl (by decide +kernel) ⟨Nat.le_of_ble_eq_true rfl, Nat.le_of_ble_eq_true rfl⟩) (F := TX1) (NF := 2) 1 rfl (by decide) (k_X1_find T N s0 a5 x1) rfl hl.1 rfl (Nat.le_of_ble_eq_true rfl) dX11_length_8 hq (fun s6 H locs hq hB => ?_) (fun a8 s6 H locs hq hB => ?_)
  · refine lv_astore_nN (lv' := [(2, .null), (0, .ref (ad a0)), (1, .int x1)]) hx hb dX11_length_11 rfl hl (by decide) rfl (fun ls hl => ?_)
    refine lv_aload_nN hx hb dX11_length_12 rfl (lv_at hl 0 rfl) ?_
    refine lv_ifnonnullN hx hb dX11_length_13 ?_
    refine lv_iconst (v := -1) hx hb dX11_length_16 (by decide) ?_
    refine lv_goto (tgt := 31) hx hb dX11_length_17 (by decide) ?_
    exact zz_iret S hB hr hlocks dX11_length_31 hq
  · refine lv_astore_n (lv' := [(2, .ref (ad a8)), (0, .ref (ad a0)), (1, .int x1)]) hx hb dX11_length_11 rfl hl (by decide) rfl (fun ls hl => ?_)
    refine lv_aload_n hx hb dX11_length_12 rfl (lv_at hl 0 rfl) ?_
    refine lv_ifnonnull (tgt := 20) hx hb dX11_length_13 (by decide) ?_
    refine lv_aload_n hx hb dX11_length_20 rfl (lv_at hl 0 rfl) ?_
    refine lv_aload_n hx hb dX11_length_21 rfl (lv_at hl 1 rfl) ?_
    refine zz_getR S hT hB (C := RX11) (ref := "DiagramDesk") (F := TX11) (N := 5) (index := 10) 11 0 iwX11 rfl (by decide) (by decide) rfl rfl (wS wd_391) (fun _ h9 => h9) dX11_length_22 hq (fun a9 hq => ?_)
    refine zz_getR S hT hB (C := RX2) (ref := "DiagramDesk$Diagram") (F := TX2) (N := 4) (index := 55) 2 0 iwX2 rfl (by decide) (by decide) rfl rfl (wS wd_392) (fun _ h9 => h9) dX11_length_25 hq (fun a10 hq => ?_)
    refine zz_callVi S hT hB (As := [.ref (ad a10)]) (b := a8) (o := f_X0_extent T N s6 a8 a10) (c_X0_extent l D cy T hT ad N s6 _ a8 a10) (cwV 1 hts (gV wSub wd_449 wd_450 wd_451 wd_45 wd_452) rfl rfl rfl (by decide +kernel) ⟨Nat.le_of_ble_eq_true rfl, Nat.le_of_ble_eq_true rfl⟩) (F := TX0) (NF := 5) 0 rfl (by decide) (k_X0_extent T N s6 a8 a10) rfl hl.1 rfl (Nat.le_of_ble_eq_true rfl) dX11_length_28 hq (fun x12 s11 H locs hq hB => ?_)
    exact zz_iret S hB hr hlocks dX11_length_31 hq
def f_X11_through (T : zT) (N : Nat) (s0 : zS) (a0 : Nat) (x1 : Int32) : Option (Int32 × zS) :=
  zz1 (T.1 a0 = 11) <|
  (gR T s0 a0 11 0).bind fun a4 =>
  (gR T s0 a4 2 1).bind fun a5 =>
  zb2 (f_X1_find T N s0 a5 x1) fun o7 s6 => zo o7 (
    some ((-1 : Int32), s6))
  fun a8 => (
    (gR T s6 a0 11 0).bind fun a9 =>
    (gR T s6 a9 2 0).bind fun a10 =>
    zb2 (f_X0_crossed T N s6 a8 a10) fun x12 s11 =>
    some (x12, s11))
theorem k_X11_through (T : zT) (N : Nat) (s0 : zS) (a0 : Nat) (x1 : Int32) : ∀ q, f_X11_through T N s0 a0 x1 = some q → T.1 a0 = 11 := by
  intro q h
  unfold f_X11_through at h
  exact zz_guard h (fun h _ => h)
set_option maxHeartbeats 4000000 in
set_option maxRecDepth 100000 in
theorem c_X11_through (l : Launch) (D : va_G) (cy : Nat → ClassId) (T : zT) (hT : zok T) (ad : Nat → Nat) (N : Nat) (s0 : zS) (sz : Nat) (a0 : Nat) (x1 : Int32) : ∀ (r0 : Int32) (σ0 : zS), f_X11_through T N s0 a0 x1 = some (r0, σ0) → Met l yX11_through wsX11_through ({ frames := 5, cells := 0, slots := 0, locals := 135 }) (va_Pc [.ref (ad a0), .int x1] (zPre D cy T ad s0 sz)) (va_Qi (fun (r2 : Int32) (σ2 : zS) => r2 = r0 ∧ σ2 = σ0) (zAt D cy T ad (zA T ad sz)) (zA T ad sz)) 0 0 (zA T ad sz) := by
  intro r0 σ0 hq
  refine Met.ofW (cc := cX11_through) (maxL := 3) (ret := (some .int)) (by decide) rfl ?_
  intro p e s m args below meth c s₁ B hml hv
  obtain ⟨hargs, hsz, hP, hK, hD0, hN⟩ := hv
  have hx := B.exec
  have hb := B.bytes
  have hr := B.returns
  have hts := atoms_spec (ws := wsX11_through) B.pre
  have hown : s.vm.findClass RX11 = some m.cls := findClass_of_methodNamed B.named
  have hlocks := B.notSynchronized
  have S : CallFix p m c cX11_through 3 s args wsX11_through RX11 := ⟨hx, hb, hml, hown, hts⟩
  subst hsz
  have hB : zB D cy T ad (zA T ad s.heap.size) s.heap s0 s.heap [] s := zz_entry hP hK hD0 hN
  obtain ⟨ls, hent, hl⟩ := zz_ent m hargs (n := 3) (Nat.le_of_ble_eq_true rfl)
  rw [hent]
  have hl : lv_has ls 3 [(0, .ref (ad a0)), (1, .int x1)] := hl
  have iwX11 : ∀ w ∈ u_ws RX11 TX11 5, w ∈ wsX11_through := fun w h => wS (inWX11 w h)
  have iwX2 : ∀ w ∈ u_ws RX2 TX2 4, w ∈ wsX11_through := fun w h => wS (inWX2 w h)
  unfold f_X11_through at hq
  refine zz_guard hq (fun hk0 hq => ?_)
  refine lv_aload_n hx hb dX11_through_0 rfl (lv_at hl 0 rfl) ?_
  refine zz_getR S hT hB (C := RX11) (ref := "DiagramDesk") (F := TX11) (N := 5) (index := 10) 11 0 iwX11 rfl (by decide) (by decide) rfl rfl (wS wd_391) (fun _ h9 => h9) dX11_through_1 hq (fun a4 hq => ?_)
  refine zz_getR S hT hB (C := RX2) (ref := "DiagramDesk$Diagram") (F := TX2) (N := 4) (index := 89) 2 1 iwX2 rfl (by decide) (by decide) rfl rfl (wS wd_410) (fun _ h9 => h9) dX11_through_4 hq (fun a5 hq => ?_)
  refine lv_iload_n hx hb dX11_through_7 rfl (lv_at hl 1 rfl) ?_
  refine zz_callVq S hT hB (As := [.int x1]) (b := a5) (o := f_X1_find T N s0 a5 x1) (c_X1_find l D cy T hT ad N s0 _ a5 x1) (cwV 1 hts (gV wSub wd_445 wd_92 wd_93 wd_94 wd_95) rfl rfl rfl (by decide +kernel) ⟨Nat.le_of_ble_eq_true rfl, Nat.le_of_ble_eq_true rfl⟩) (F := TX1) (NF := 2) 1 rfl (by decide) (k_X1_find T N s0 a5 x1) rfl hl.1 rfl (Nat.le_of_ble_eq_true rfl) dX11_through_8 hq (fun s6 H locs hq hB => ?_) (fun a8 s6 H locs hq hB => ?_)
  · refine lv_astore_nN (lv' := [(2, .null), (0, .ref (ad a0)), (1, .int x1)]) hx hb dX11_through_11 rfl hl (by decide) rfl (fun ls hl => ?_)
    refine lv_aload_nN hx hb dX11_through_12 rfl (lv_at hl 0 rfl) ?_
    refine lv_ifnonnullN hx hb dX11_through_13 ?_
    refine lv_iconst (v := -1) hx hb dX11_through_16 (by decide) ?_
    refine lv_goto (tgt := 31) hx hb dX11_through_17 (by decide) ?_
    exact zz_iret S hB hr hlocks dX11_through_31 hq
  · refine lv_astore_n (lv' := [(2, .ref (ad a8)), (0, .ref (ad a0)), (1, .int x1)]) hx hb dX11_through_11 rfl hl (by decide) rfl (fun ls hl => ?_)
    refine lv_aload_n hx hb dX11_through_12 rfl (lv_at hl 0 rfl) ?_
    refine lv_ifnonnull (tgt := 20) hx hb dX11_through_13 (by decide) ?_
    refine lv_aload_n hx hb dX11_through_20 rfl (lv_at hl 0 rfl) ?_
    refine lv_aload_n hx hb dX11_through_21 rfl (lv_at hl 1 rfl) ?_
    refine zz_getR S hT hB (C := RX11) (ref := "DiagramDesk") (F := TX11) (N := 5) (index := 10) 11 0 iwX11 rfl (by decide) (by decide) rfl rfl (wS wd_391) (fun _ h9 => h9) dX11_through_22 hq (fun a9 hq => ?_)
    refine zz_getR S hT hB (C := RX2) (ref := "DiagramDesk$Diagram") (F := TX2) (N := 4) (index := 55) 2 0 iwX2 rfl (by decide) (by decide) rfl rfl (wS wd_392) (fun _ h9 => h9) dX11_through_25 hq (fun a10 hq => ?_)
    refine zz_callVi S hT hB (As := [.ref (ad a10)]) (b := a8) (o := f_X0_crossed T N s6 a8 a10) (c_X0_crossed l D cy T hT ad N s6 _ a8 a10) (cwV 1 hts (gV wSub wd_453 wd_454 wd_455 wd_45 wd_456) rfl rfl rfl (by decide +kernel) ⟨Nat.le_of_ble_eq_true rfl, Nat.le_of_ble_eq_true rfl⟩) (F := TX0) (NF := 5) 0 rfl (by decide) (k_X0_crossed T N s6 a8 a10) rfl hl.1 rfl (Nat.le_of_ble_eq_true rfl) dX11_through_28 hq (fun x12 s11 H locs hq hB => ?_)
    exact zz_iret S hB hr hlocks dX11_through_31 hq
def f_J6_bitCount_0f7a4 (T : zT) (N : Nat) (s0 : zS) (x0 : Int32) : Option (Int32 × zS) :=
  zn (x0 - ((((x0).toUInt32 >>> (((1 : Int32)).toUInt32 &&& Int32.toUInt32 31)).toInt32) &&& (1431655765 : Int32))) fun x3 =>
  zn ((x3 &&& (858993459 : Int32)) + ((((x3).toUInt32 >>> (((2 : Int32)).toUInt32 &&& Int32.toUInt32 31)).toInt32) &&& (858993459 : Int32))) fun x4 =>
  zn ((x4 + (((x4).toUInt32 >>> (((4 : Int32)).toUInt32 &&& Int32.toUInt32 31)).toInt32)) &&& (252645135 : Int32)) fun x5 =>
  zn (x5 + (((x5).toUInt32 >>> (((8 : Int32)).toUInt32 &&& Int32.toUInt32 31)).toInt32)) fun x6 =>
  zn (x6 + (((x6).toUInt32 >>> (((16 : Int32)).toUInt32 &&& Int32.toUInt32 31)).toInt32)) fun x7 =>
  some (x7 &&& (63 : Int32), s0)
set_option maxHeartbeats 4000000 in
set_option maxRecDepth 100000 in
theorem c_J6_bitCount_0f7a4 (l : Launch) (D : va_G) (cy : Nat → ClassId) (T : zT) (hT : zok T) (ad : Nat → Nat) (N : Nat) (s0 : zS) (sz : Nat) (x0 : Int32) : ∀ (r0 : Int32) (σ0 : zS), f_J6_bitCount_0f7a4 T N s0 x0 = some (r0, σ0) → Met l yJ6_bitCount_0f7a4 wsJ6_bitCount_0f7a4 ({ frames := 0, cells := 0, slots := 0, locals := 0 }) (va_Pc [.int x0] (zPre D cy T ad s0 sz)) (va_Qi (fun (r2 : Int32) (σ2 : zS) => r2 = r0 ∧ σ2 = σ0) (zAt D cy T ad (zA T ad sz)) (zA T ad sz)) 0 0 (zA T ad sz) := by
  intro r0 σ0 hq
  refine zz_ofWF (cc := cJ6_bitCount_0f7a4) (maxL := 1) (ret := (some .int)) (by decide +kernel) rfl ?_
  intro p e s m args below meth c s₁ B hml hv
  obtain ⟨hargs, hsz, hP, hK, hD0, hN⟩ := hv
  have hx := B.exec
  have hb := B.bytes
  have hr := B.returns
  have hts := atoms_spec (ws := wsJ6_bitCount_0f7a4) B.pre
  have hown : s.vm.findClass RJ6 = some m.cls := findClass_of_methodNamed B.named
  have hlocks := B.notSynchronized
  have S : CallFix p m c cJ6_bitCount_0f7a4 1 s args wsJ6_bitCount_0f7a4 RJ6 := ⟨hx, hb, hml, hown, hts⟩
  subst hsz
  have hB : zB D cy T ad (zA T ad s.heap.size) s.heap s0 s.heap [] s := zz_entry hP hK hD0 hN
  obtain ⟨ls, hent, hl⟩ := zz_ent m hargs (n := 1) (Nat.le_of_ble_eq_true rfl)
  rw [hent]
  have hl : lv_has ls 1 [(0, .int x0)] := hl
  unfold f_J6_bitCount_0f7a4 at hq
  refine lv_iload_n hx hb dJ6_bitCount_0f7a4_0 rfl (lv_at hl 0 rfl) ?_
  refine lv_iload_n hx hb dJ6_bitCount_0f7a4_1 rfl (lv_at hl 0 rfl) ?_
  refine lv_iconst (v := 1) hx hb dJ6_bitCount_0f7a4_2 (by decide) ?_
  refine lv_iushr (v := ((x0).toUInt32 >>> (((1 : Int32)).toUInt32 &&& Int32.toUInt32 31)).toInt32) hx hb dJ6_bitCount_0f7a4_3 rfl ?_
  refine lv_ldcw (v := 1431655765) hx hb hown (hts _ (wS wd_457)) dJ6_bitCount_0f7a4_4 ?_
  refine lv_iand hx hb dJ6_bitCount_0f7a4_7 ?_
  refine lv_isub hx hb dJ6_bitCount_0f7a4_8 ?_
  refine zz_nmI hq (fun x3 hq => ?_)
  refine lv_istore_n (lv' := [(0, .int x3)]) hx hb dJ6_bitCount_0f7a4_9 rfl hl (by decide) rfl (fun ls hl => ?_)
  refine lv_iload_n hx hb dJ6_bitCount_0f7a4_10 rfl (lv_at hl 0 rfl) ?_
  refine lv_ldcw (v := 858993459) hx hb hown (hts _ (wS wd_458)) dJ6_bitCount_0f7a4_11 ?_
  refine lv_iand hx hb dJ6_bitCount_0f7a4_14 ?_
  refine lv_iload_n hx hb dJ6_bitCount_0f7a4_15 rfl (lv_at hl 0 rfl) ?_
  refine lv_iconst (v := 2) hx hb dJ6_bitCount_0f7a4_16 (by decide) ?_
  refine lv_iushr (v := ((x3).toUInt32 >>> (((2 : Int32)).toUInt32 &&& Int32.toUInt32 31)).toInt32) hx hb dJ6_bitCount_0f7a4_17 rfl ?_
  refine lv_ldcw (v := 858993459) hx hb hown (hts _ (wS wd_458)) dJ6_bitCount_0f7a4_18 ?_
  refine lv_iand hx hb dJ6_bitCount_0f7a4_21 ?_
  refine lv_iadd hx hb dJ6_bitCount_0f7a4_22 ?_
  refine zz_nmI hq (fun x4 hq => ?_)
  refine lv_istore_n (lv' := [(0, .int x4)]) hx hb dJ6_bitCount_0f7a4_23 rfl hl (by decide) rfl (fun ls hl => ?_)
  refine lv_iload_n hx hb dJ6_bitCount_0f7a4_24 rfl (lv_at hl 0 rfl) ?_
  refine lv_iload_n hx hb dJ6_bitCount_0f7a4_25 rfl (lv_at hl 0 rfl) ?_
  refine lv_iconst (v := 4) hx hb dJ6_bitCount_0f7a4_26 (by decide) ?_
  refine lv_iushr (v := ((x4).toUInt32 >>> (((4 : Int32)).toUInt32 &&& Int32.toUInt32 31)).toInt32) hx hb dJ6_bitCount_0f7a4_27 rfl ?_
  refine lv_iadd hx hb dJ6_bitCount_0f7a4_28 ?_
  refine lv_ldcw (v := 252645135) hx hb hown (hts _ (wS wd_459)) dJ6_bitCount_0f7a4_29 ?_
  refine lv_iand hx hb dJ6_bitCount_0f7a4_32 ?_
  refine zz_nmI hq (fun x5 hq => ?_)
  refine lv_istore_n (lv' := [(0, .int x5)]) hx hb dJ6_bitCount_0f7a4_33 rfl hl (by decide) rfl (fun ls hl => ?_)
  refine lv_iload_n hx hb dJ6_bitCount_0f7a4_34 rfl (lv_at hl 0 rfl) ?_
  refine lv_iload_n hx hb dJ6_bitCount_0f7a4_35 rfl (lv_at hl 0 rfl) ?_
  refine lv_bipush (v := 8) hx hb dJ6_bitCount_0f7a4_36 (by decide) ?_
  refine lv_iushr (v := ((x5).toUInt32 >>> (((8 : Int32)).toUInt32 &&& Int32.toUInt32 31)).toInt32) hx hb dJ6_bitCount_0f7a4_38 rfl ?_
  refine lv_iadd hx hb dJ6_bitCount_0f7a4_39 ?_
  refine zz_nmI hq (fun x6 hq => ?_)
  refine lv_istore_n (lv' := [(0, .int x6)]) hx hb dJ6_bitCount_0f7a4_40 rfl hl (by decide) rfl (fun ls hl => ?_)
  refine lv_iload_n hx hb dJ6_bitCount_0f7a4_41 rfl (lv_at hl 0 rfl) ?_
  refine lv_iload_n hx hb dJ6_bitCount_0f7a4_42 rfl (lv_at hl 0 rfl) ?_
  refine lv_bipush (v := 16) hx hb dJ6_bitCount_0f7a4_43 (by decide) ?_
  refine lv_iushr (v := ((x6).toUInt32 >>> (((16 : Int32)).toUInt32 &&& Int32.toUInt32 31)).toInt32) hx hb dJ6_bitCount_0f7a4_45 rfl ?_
  refine lv_iadd hx hb dJ6_bitCount_0f7a4_46 ?_
  refine zz_nmI hq (fun x7 hq => ?_)
  refine lv_istore_n (lv' := [(0, .int x7)]) hx hb dJ6_bitCount_0f7a4_47 rfl hl (by decide) rfl (fun ls hl => ?_)
  refine lv_iload_n hx hb dJ6_bitCount_0f7a4_48 rfl (lv_at hl 0 rfl) ?_
  refine lv_bipush (v := 63) hx hb dJ6_bitCount_0f7a4_49 (by decide) ?_
  refine lv_iand hx hb dJ6_bitCount_0f7a4_51 ?_
  exact zz_iret S hB hr hlocks dJ6_bitCount_0f7a4_52 hq
def f_X11_select_J83 (T : zT) (N : Nat) (a0 : Nat) (s16 : zS) : Option (Int32 × zS) :=
  (gR T s16 a0 11 0).bind fun a17 =>
  (gR T s16 a17 2 0).bind fun a18 =>
  (gI T s16 a18 7 2).bind fun x19 =>
  zb2 (f_J6_bitCount_0f7a4 T N s16 x19) fun x21 s20 =>
  some (x21, s20)
def f_X11_select (T : zT) (N : Nat) (s0 : zS) (a0 : Nat) (x1 : Int32) (x2 : Int32) : Option (Int32 × zS) :=
  zz1 (T.1 a0 = 11) <|
  (gR T s0 a0 11 0).bind fun a5 =>
  (gR T s0 a5 2 0).bind fun a6 =>
  zb2 (f_X7_find T N s0 a6 x1) fun o8 s7 => zo o8 (
    some ((-1 : Int32), s7))
  fun a9 => (
    (gR T s7 a0 11 1).bind fun a10 =>
    (gR T s7 a0 11 0).bind fun a11 =>
    (f_X5_keep T N s7 a10 a11).bind fun s12 =>
    (gR T s12 a0 11 0).bind fun a13 =>
    zb2 (f_X2_unitOf T N s12 a13 x1 a9) fun x15 s14 =>
    if x2 = 0 then (
      (gR T s14 a0 11 0).bind fun a22 =>
      (gR T s14 a22 2 0).bind fun a23 =>
      (gI T s14 a23 7 2).bind fun x24 =>
      (pI T s14 a23 7 2 (x24 &&& (x15 ^^^ (-1 : Int32)))).bind fun s25 =>
      f_X11_select_J83 T N a0 s25)
    else (
      (gR T s14 a0 11 0).bind fun a26 =>
      (gR T s14 a26 2 0).bind fun a27 =>
      (gI T s14 a27 7 2).bind fun x28 =>
      (pI T s14 a27 7 2 (x28 ||| x15)).bind fun s29 =>
      f_X11_select_J83 T N a0 s29))
theorem k_X11_select (T : zT) (N : Nat) (s0 : zS) (a0 : Nat) (x1 : Int32) (x2 : Int32) : ∀ q, f_X11_select T N s0 a0 x1 x2 = some q → T.1 a0 = 11 := by
  intro q h
  unfold f_X11_select at h
  exact zz_guard h (fun h _ => h)
set_option maxHeartbeats 4000000 in
set_option maxRecDepth 100000 in
theorem c_X11_select (l : Launch) (D : va_G) (cy : Nat → ClassId) (T : zT) (hT : zok T) (ad : Nat → Nat) (N : Nat) (s0 : zS) (sz : Nat) (a0 : Nat) (x1 : Int32) (x2 : Int32) : ∀ (r0 : Int32) (σ0 : zS), f_X11_select T N s0 a0 x1 x2 = some (r0, σ0) → Met l yX11_select wsX11_select ({ frames := 5, cells := 0, slots := 0, locals := 113 }) (va_Pc [.ref (ad a0), .int x1, .int x2] (zPre D cy T ad s0 sz)) (va_Qi (fun (r2 : Int32) (σ2 : zS) => r2 = r0 ∧ σ2 = σ0) (zAt D cy T ad (zA T ad sz)) (zA T ad sz)) 0 0 (zA T ad sz) := by
  intro r0 σ0 hq
  refine Met.ofW (cc := cX11_select) (maxL := 5) (ret := (some .int)) (by decide) rfl ?_
  intro p e s m args below meth c s₁ B hml hv
  obtain ⟨hargs, hsz, hP, hK, hD0, hN⟩ := hv
  have hx := B.exec
  have hb := B.bytes
  have hr := B.returns
  have hts := atoms_spec (ws := wsX11_select) B.pre
  have hown : s.vm.findClass RX11 = some m.cls := findClass_of_methodNamed B.named
  have hlocks := B.notSynchronized
  have S : CallFix p m c cX11_select 5 s args wsX11_select RX11 := ⟨hx, hb, hml, hown, hts⟩
  subst hsz
  have hB : zB D cy T ad (zA T ad s.heap.size) s.heap s0 s.heap [] s := zz_entry hP hK hD0 hN
  obtain ⟨ls, hent, hl⟩ := zz_ent m hargs (n := 5) (Nat.le_of_ble_eq_true rfl)
  rw [hent]
  have hl : lv_has ls 5 [(0, .ref (ad a0)), (1, .int x1), (2, .int x2)] := hl
  have iwX11 : ∀ w ∈ u_ws RX11 TX11 5, w ∈ wsX11_select := fun w h => wS (inWX11 w h)
  have iwX2 : ∀ w ∈ u_ws RX2 TX2 4, w ∈ wsX11_select := fun w h => wS (inWX2 w h)
  have iwX7 : ∀ w ∈ u_ws RX7 TX7 3, w ∈ wsX11_select := fun w h => wS (inWX7 w h)
  unfold f_X11_select at hq
  refine zz_guard hq (fun hk0 hq => ?_)
  refine lv_aload_n hx hb dX11_select_0 rfl (lv_at hl 0 rfl) ?_
  refine zz_getR S hT hB (C := RX11) (ref := "DiagramDesk") (F := TX11) (N := 5) (index := 10) 11 0 iwX11 rfl (by decide) (by decide) rfl rfl (wS wd_391) (fun _ h9 => h9) dX11_select_1 hq (fun a5 hq => ?_)
  refine zz_getR S hT hB (C := RX2) (ref := "DiagramDesk$Diagram") (F := TX2) (N := 4) (index := 55) 2 0 iwX2 rfl (by decide) (by decide) rfl rfl (wS wd_392) (fun _ h9 => h9) dX11_select_4 hq (fun a6 hq => ?_)
  refine lv_iload_n hx hb dX11_select_7 rfl (lv_at hl 1 rfl) ?_
  refine zz_callVq S hT hB (As := [.int x1]) (b := a6) (o := f_X7_find T N s0 a6 x1) (c_X7_find l D cy T hT ad N s0 _ a6 x1) (cwV 1 hts (gV wSub wd_403 wd_33 wd_34 wd_35 wd_36) rfl rfl rfl (by decide +kernel) ⟨Nat.le_of_ble_eq_true rfl, Nat.le_of_ble_eq_true rfl⟩) (F := TX7) (NF := 3) 7 rfl (by decide) (k_X7_find T N s0 a6 x1) rfl hl.1 rfl (Nat.le_of_ble_eq_true rfl) dX11_select_8 hq (fun s7 H locs hq hB => ?_) (fun a9 s7 H locs hq hB => ?_)
  · refine lv_astore_nN (lv' := [(3, .null), (0, .ref (ad a0)), (1, .int x1), (2, .int x2)]) hx hb dX11_select_11 rfl hl (by decide) rfl (fun ls hl => ?_)
    refine lv_aload_nN hx hb dX11_select_12 rfl (lv_at hl 0 rfl) ?_
    refine lv_ifnonnullN hx hb dX11_select_13 ?_
    refine lv_iconst (v := -1) hx hb dX11_select_16 (by decide) ?_
    exact zz_iret S hB hr hlocks dX11_select_17 hq
  · refine lv_astore_n (lv' := [(3, .ref (ad a9)), (0, .ref (ad a0)), (1, .int x1), (2, .int x2)]) hx hb dX11_select_11 rfl hl (by decide) rfl (fun ls hl => ?_)
    refine lv_aload_n hx hb dX11_select_12 rfl (lv_at hl 0 rfl) ?_
    refine lv_ifnonnull (tgt := 18) hx hb dX11_select_13 (by decide) ?_
    refine lv_aload_n hx hb dX11_select_18 rfl (lv_at hl 1 rfl) ?_
    refine zz_getR S hT hB (C := RX11) (ref := "DiagramDesk") (F := TX11) (N := 5) (index := 19) 11 1 iwX11 rfl (by decide) (by decide) rfl rfl (wS wd_394) (fun _ h9 => h9) dX11_select_19 hq (fun a10 hq => ?_)
    refine lv_aload_n hx hb dX11_select_22 rfl (lv_at hl 1 rfl) ?_
    refine zz_getR S hT hB (C := RX11) (ref := "DiagramDesk") (F := TX11) (N := 5) (index := 10) 11 0 iwX11 rfl (by decide) (by decide) rfl rfl (wS wd_391) (fun _ h9 => h9) dX11_select_23 hq (fun a11 hq => ?_)
    refine zz_callVv S hT hB (As := [.ref (ad a11)]) (b := a10) (o := f_X5_keep T N s7 a10 a11) (c_X5_keep l D cy T hT ad N s7 _ a10 a11) (cwV 1 hts (gV wSub wd_395 wd_396 wd_397 wd_215 wd_398) rfl rfl rfl (by decide +kernel) ⟨Nat.le_of_ble_eq_true rfl, Nat.le_of_ble_eq_true rfl⟩) (F := TX5) (NF := 2) 5 rfl (by decide) (k_X5_keep T N s7 a10 a11) rfl hl.1 rfl (Nat.le_of_ble_eq_true rfl) dX11_select_26 hq (fun s12 H locs hq hB => ?_)
    refine lv_aload_n hx hb dX11_select_29 rfl (lv_at hl 1 rfl) ?_
    refine zz_getR S hT hB (C := RX11) (ref := "DiagramDesk") (F := TX11) (N := 5) (index := 10) 11 0 iwX11 rfl (by decide) (by decide) rfl rfl (wS wd_391) (fun _ h9 => h9) dX11_select_30 hq (fun a13 hq => ?_)
    refine lv_iload_n hx hb dX11_select_33 rfl (lv_at hl 2 rfl) ?_
    refine lv_aload_n hx hb dX11_select_34 rfl (lv_at hl 0 rfl) ?_
    refine zz_callVi S hT hB (As := [.int x1, .ref (ad a9)]) (b := a13) (o := f_X2_unitOf T N s12 a13 x1 a9) (c_X2_unitOf l D cy T hT ad N s12 _ a13 x1 a9) (cwV 2 hts (gV wSub wd_460 wd_347 wd_348 wd_174 wd_349) rfl rfl rfl (by decide +kernel) ⟨Nat.le_of_ble_eq_true rfl, Nat.le_of_ble_eq_true rfl⟩) (F := TX2) (NF := 4) 2 rfl (by decide) (k_X2_unitOf T N s12 a13 x1 a9) rfl hl.1 rfl (Nat.le_of_ble_eq_true rfl) dX11_select_35 hq (fun x15 s14 H locs hq hB => ?_)
    refine lv_istore (lv' := [(4, .int x15), (3, .ref (ad a9)), (0, .ref (ad a0)), (1, .int x1), (2, .int x2)]) hx hb dX11_select_38 hl (by decide) rfl (fun ls hl => ?_)
    refine lv_iload_n hx hb dX11_select_40 rfl (lv_at hl 4 rfl) ?_
    have J83 : ∀ (s16 : zS) (H : Heap) (locs : List Loc) (ls : Array Slot), f_X11_select_J83 T N a0 s16 = some (r0, σ0) → zB D cy T ad (zA T ad s.heap.size) s.heap s16 H locs s → lv_has ls 5 [(0, .ref (ad a0))] → W p l e (headSpec wsX11_select ({ frames := 5, cells := 0, slots := 0, locals := 113 } : Room)).room s m args below meth c H locs 0 0 (MQ below (va_Qi (fun (r2 : Int32) (σ2 : zS) => r2 = r0 ∧ σ2 = σ0) (zAt D cy T ad (zA T ad s.heap.size)) (zA T ad s.heap.size)) args s 0 0 (zA T ad s.heap.size)) (F0 m 83 ls []) := by
      intro s16 H locs ls hq hB hl
      unfold f_X11_select_J83 at hq
      refine lv_aload_n hx hb dX11_select_83 rfl (lv_at hl 0 rfl) ?_
      refine zz_getR S hT hB (C := RX11) (ref := "DiagramDesk") (F := TX11) (N := 5) (index := 10) 11 0 iwX11 rfl (by decide) (by decide) rfl rfl (wS wd_391) (fun _ h9 => h9) dX11_select_84 hq (fun a17 hq => ?_)
      refine zz_getR S hT hB (C := RX2) (ref := "DiagramDesk$Diagram") (F := TX2) (N := 4) (index := 55) 2 0 iwX2 rfl (by decide) (by decide) rfl rfl (wS wd_392) (fun _ h9 => h9) dX11_select_87 hq (fun a18 hq => ?_)
      refine zz_get S hT hB (C := RX7) (ref := "DiagramDesk$Shapes") (F := TX7) (N := 3) (index := 108) 7 2 iwX7 rfl (by decide) (by decide) rfl rfl (wS wd_419) (fun _ h9 => h9) dX11_select_90 hq (fun x19 hq => ?_)
      refine zz_callSi S hT hB (As := [.int x19]) (o := f_J6_bitCount_0f7a4 T N s16 x19) (c_J6_bitCount_0f7a4 l D cy T hT ad N s16 _ x19) (va_cwS 1 hts (gS wSub wd_461 wd_462 wd_463 wd_464) rfl rfl rfl (by decide +kernel) ⟨Nat.le_of_ble_eq_true rfl, Nat.le_of_ble_eq_true rfl⟩) rfl hl.1 rfl (Nat.le_of_ble_eq_true rfl) dX11_select_93 hq (fun x21 s20 H locs hq hB => ?_)
      exact zz_iret S hB hr hlocks dX11_select_96 hq
    refine zz_if_eq (tgt := 64) hx hb dX11_select_41 (by decide) hq (fun hq => ?_) (fun hq => ?_)
    · refine lv_aload_n hx hb dX11_select_64 rfl (lv_at hl 2 rfl) ?_
      refine zz_getR S hT hB (C := RX11) (ref := "DiagramDesk") (F := TX11) (N := 5) (index := 10) 11 0 iwX11 rfl (by decide) (by decide) rfl rfl (wS wd_391) (fun _ h9 => h9) dX11_select_65 hq (fun a22 hq => ?_)
      refine zz_getR S hT hB (C := RX2) (ref := "DiagramDesk$Diagram") (F := TX2) (N := 4) (index := 55) 2 0 iwX2 rfl (by decide) (by decide) rfl rfl (wS wd_392) (fun _ h9 => h9) dX11_select_68 hq (fun a23 hq => ?_)
      refine lv_dup hx hb dX11_select_71 rfl ?_
      refine zz_get S hT hB (C := RX7) (ref := "DiagramDesk$Shapes") (F := TX7) (N := 3) (index := 108) 7 2 iwX7 rfl (by decide) (by decide) rfl rfl (wS wd_419) (fun _ h9 => h9) dX11_select_72 hq (fun x24 hq => ?_)
      refine lv_iload hx hb dX11_select_75 (lv_at hl 0 rfl) ?_
      refine lv_iconst (v := -1) hx hb dX11_select_77 (by decide) ?_
      refine lv_ixor hx hb dX11_select_78 ?_
      refine lv_iand hx hb dX11_select_79 ?_
      refine zz_put S hT hB (C := RX7) (ref := "DiagramDesk$Shapes") (F := TX7) (N := 3) (index := 108) 7 2 iwX7 tyX7 tyX7_ok nmX7 rfl (by decide) (by decide) rfl rfl (wS wd_419) (fun _ h9 => h9) rfl (by decide +kernel) dX11_select_80 hq (fun s25 H locs hq hB => ?_)
      exact J83 s25 _ _ _ hq hB (lv_sub hl [2] rfl)
    · refine lv_aload_n hx hb dX11_select_44 rfl (lv_at hl 2 rfl) ?_
      refine zz_getR S hT hB (C := RX11) (ref := "DiagramDesk") (F := TX11) (N := 5) (index := 10) 11 0 iwX11 rfl (by decide) (by decide) rfl rfl (wS wd_391) (fun _ h9 => h9) dX11_select_45 hq (fun a26 hq => ?_)
      refine zz_getR S hT hB (C := RX2) (ref := "DiagramDesk$Diagram") (F := TX2) (N := 4) (index := 55) 2 0 iwX2 rfl (by decide) (by decide) rfl rfl (wS wd_392) (fun _ h9 => h9) dX11_select_48 hq (fun a27 hq => ?_)
      refine lv_dup hx hb dX11_select_51 rfl ?_
      refine zz_get S hT hB (C := RX7) (ref := "DiagramDesk$Shapes") (F := TX7) (N := 3) (index := 108) 7 2 iwX7 rfl (by decide) (by decide) rfl rfl (wS wd_419) (fun _ h9 => h9) dX11_select_52 hq (fun x28 hq => ?_)
      refine lv_iload hx hb dX11_select_55 (lv_at hl 0 rfl) ?_
      refine lv_ior hx hb dX11_select_57 ?_
      refine zz_put S hT hB (C := RX7) (ref := "DiagramDesk$Shapes") (F := TX7) (N := 3) (index := 108) 7 2 iwX7 tyX7 tyX7_ok nmX7 rfl (by decide) (by decide) rfl rfl (wS wd_419) (fun _ h9 => h9) rfl (by decide +kernel) dX11_select_58 hq (fun s29 H locs hq hB => ?_)
      refine lv_goto (tgt := 83) hx hb dX11_select_61 (by decide) ?_
      exact J83 s29 _ _ _ hq hB (lv_sub hl [2] rfl)
