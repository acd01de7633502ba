def f_X11_fingerprint_L86 (T : zT) (N : Nat) (a0 : Nat) (k86 : Int64 → Int32 → zS → Option (Int64 × zS)) (y17 : Int64) (x18 : Int32) (s19 : zS) : Option (Int64 × zS) :=
  if (8 : Int32) ≤ x18 then (
    some (y17, s19))
  else (
    (gR T s19 a0 11 0).bind fun a20 =>
    (gR T s19 a20 2 2).bind fun a21 =>
    zb2 (f_X3_has T N s19 a21 x18) fun x23 s22 =>
    if x23 = 0 then (
      zn (x18 + (1 : Int32)) fun x24 =>
      k86 y17 x24 s22)
    else (
      zb2 (f_X11_mixed T N s22 y17 ((x18).toInt64)) fun y26 s25 =>
      (gR T s25 a0 11 0).bind fun a27 =>
      zb2 (f_X2_shapesIn T N s25 a27 x18) fun x29 s28 =>
      zb2 (f_X11_mixed T N s28 y26 ((x29).toInt64)) fun y31 s30 =>
      zn (x18 + (1 : Int32)) fun x32 =>
      k86 y31 x32 s30))
def f_X11_fingerprint_L57 (T : zT) (N : Nat) (a0 : Nat) (k57 : Int64 → Int32 → zS → Option (Int64 × zS)) (y11 : Int64) (x12 : Int32) (s13 : zS) : Option (Int64 × zS) :=
  (gR T s13 a0 11 0).bind fun a14 =>
  (gR T s13 a14 2 1).bind fun a15 =>
  (gI T s13 a15 1 1).bind fun x16 =>
  if x16 ≤ x12 then (
    zl3 (f_X11_fingerprint_L86 T N a0) N y11 (0 : Int32) s13)
  else (
    zb2 (f_X11_connectorMixed T N s13 a0 y11 x12) fun y34 s33 =>
    zn (x12 + (1 : Int32)) fun x35 =>
    k57 y34 x35 s33)
def f_X11_fingerprint_L6 (T : zT) (N : Nat) (a0 : Nat) (k6 : Int64 → Int32 → zS → Option (Int64 × zS)) (y3 : Int64) (x4 : Int32) (s5 : zS) : Option (Int64 × zS) :=
  if (20 : Int32) ≤ x4 then (
    (gR T s5 a0 11 0).bind fun a6 =>
    (gR T s5 a6 2 1).bind fun a7 =>
    (gI T s5 a7 1 1).bind fun x8 =>
    zb2 (f_X11_mixed T N s5 y3 ((x8).toInt64)) fun y10 s9 =>
    zl3 (f_X11_fingerprint_L57 T N a0) N y10 (0 : Int32) s9)
  else (
    (gR T s5 a0 11 0).bind fun a36 =>
    (gR T s5 a36 2 0).bind fun a37 =>
    zb2 (f_X7_find T N s5 a37 x4) fun o39 s38 => zo o39 (
      zn (x4 + (1 : Int32)) fun x41 =>
      k6 y3 x41 s38)
    fun a40 => (
      zb2 (f_X11_shapeMixed T N s38 a0 y3 x4) fun y43 s42 =>
      zn (x4 + (1 : Int32)) fun x44 =>
      k6 y43 x44 s42))
def f_X11_fingerprint (T : zT) (N : Nat) (s0 : zS) (a0 : Nat) : Option (Int64 × zS) :=
  zz1 (T.1 a0 = 11) <|
  zl3 (f_X11_fingerprint_L6 T N a0) N (89 : Int64) (0 : Int32) s0
theorem k_X11_fingerprint (T : zT) (N : Nat) (s0 : zS) (a0 : Nat) : ∀ q, f_X11_fingerprint T N s0 a0 = some q → T.1 a0 = 11 := by
  intro q h
  unfold f_X11_fingerprint at h
  exact zz_guard h (fun h _ => h)
set_option maxHeartbeats 4000000 in
set_option maxRecDepth 100000 in
theorem c_X11_fingerprint (l : Launch) (D : va_G) (cy : Nat → ClassId) (T : zT) (hT : zok T) (ad : Nat → Nat) (N : Nat) (s0 : zS) (sz : Nat) (a0 : Nat) : ∀ (r0 : Int64) (σ0 : zS), f_X11_fingerprint T N s0 a0 = some (r0, σ0) → Met l yX11_fingerprint wsX11_fingerprint ({ frames := 6, cells := 0, slots := 0, locals := 162 }) (va_Pc [.ref (ad a0)] (zPre D cy T ad s0 sz)) (va_Ql (fun (r2 : Int64) (σ2 : zS) => r2 = r0 ∧ σ2 = σ0) (zAt D cy T ad (zA T ad sz)) (zA T ad sz)) 0 0 (zA T ad sz) := by
  intro r0 σ0 hq
  refine Met.ofW (cc := cX11_fingerprint) (maxL := 4) (ret := (some .long)) (by decide) rfl ?_
  intro p e s m args below meth c s₁ B hml hv
  obtain ⟨hargs, hsz, hP, hK, hD0, hN⟩ := hv
  have hx := B.exec
  have hb := B.bytes
  have hr := B.returns
  have hts := atoms_spec (ws := wsX11_fingerprint) B.pre
  have hown : s.vm.findClass RX11 = some m.cls := findClass_of_methodNamed B.named
  have hlocks := B.notSynchronized
  have S : CallFix p m c cX11_fingerprint 4 s args wsX11_fingerprint RX11 := ⟨hx, hb, hml, hown, hts⟩
  subst hsz
  have hB : zB D cy T ad (zA T ad s.heap.size) s.heap s0 s.heap [] s := zz_entry hP hK hD0 hN
  obtain ⟨ls, hent, hl⟩ := zz_ent m hargs (n := 4) (Nat.le_of_ble_eq_true rfl)
  rw [hent]
  have hl : lv_has ls 4 [(0, .ref (ad a0))] := hl
  have iwX11 : ∀ w ∈ u_ws RX11 TX11 5, w ∈ wsX11_fingerprint := fun w h => wS (inWX11 w h)
  have iwX2 : ∀ w ∈ u_ws RX2 TX2 4, w ∈ wsX11_fingerprint := fun w h => wS (inWX2 w h)
  have iwX1 : ∀ w ∈ u_ws RX1 TX1 2, w ∈ wsX11_fingerprint := fun w h => wS (inWX1 w h)
  unfold f_X11_fingerprint at hq
  refine zz_guard hq (fun hk0 hq => ?_)
  refine lv_ldc2 (v := 89) hx hb hown (hts _ (wS wd_558)) dX11_fingerprint_0 ?_
  refine lv_lstore_n (lv' := [(1, .long (89 : Int64)), (0, .ref (ad a0))]) hx hb dX11_fingerprint_3 rfl hl (by decide) rfl (fun ls hl => ?_)
  refine lv_iconst (v := 0) hx hb dX11_fingerprint_4 (by decide) ?_
  refine lv_istore_n (lv' := [(3, .int (0 : Int32)), (1, .long (89 : Int64)), (0, .ref (ad a0))]) hx hb dX11_fingerprint_5 rfl hl (by decide) rfl (fun ls hl => ?_)
  have L6 : ∀ (n : Nat) (y3 : Int64) (x4 : Int32) (s5 : zS) (H : Heap) (locs : List Loc) (ls : Array Slot), zl3 (f_X11_fingerprint_L6 T N a0) n y3 x4 s5 = some (r0, σ0) → zB D cy T ad (zA T ad s.heap.size) s.heap s5 H locs s → lv_has ls 4 [(0, .ref (ad a0)), (1, .long y3), (3, .int x4)] → W p l e (headSpec wsX11_fingerprint ({ frames := 6, cells := 0, slots := 0, locals := 162 } : Room)).room s m args below meth c H locs 0 0 (MQ below (va_Ql (fun (r2 : Int64) (σ2 : zS) => r2 = r0 ∧ σ2 = σ0) (zAt D cy T ad (zA T ad s.heap.size)) (zA T ad s.heap.size)) args s 0 0 (zA T ad s.heap.size)) (F0 m 6 ls []) := by
    intro n
    induction n with
    | zero => intro y3 x4 s5 H locs ls hq; exact zz_none hq
    | succ n ih6 =>
      intro y3 x4 s5 H locs ls hq hB hl
      rw [zl3] at hq
      generalize zl3 (f_X11_fingerprint_L6 T N a0) n = k6 at ih6 hq
      unfold f_X11_fingerprint_L6 at hq
      refine lv_iload_n hx hb dX11_fingerprint_6 rfl (lv_at hl 2 rfl) ?_
      refine lv_bipush (v := 20) hx hb dX11_fingerprint_7 (by decide) ?_
      refine zz_icmp_ge (tgt := 39) hx hb dX11_fingerprint_9 (by decide) hq (fun hq => ?_) (fun hq => ?_)
      · refine lv_lload_n hx hb dX11_fingerprint_39 rfl (lv_at hl 1 rfl) ?_
        refine lv_aload_n hx hb dX11_fingerprint_40 rfl (lv_at hl 0 rfl) ?_
        refine zz_getR S hT hB (C := RX11) (ref := "DiagramDesk") (F := TX11) (N := 5) (index := 10) 11 0 iwX11 rfl (by decide) (by decide) rfl rfl (wS wd_391) (fun _ h9 => h9) dX11_fingerprint_41 hq (fun a6 hq => ?_)
        refine zz_getR S hT hB (C := RX2) (ref := "DiagramDesk$Diagram") (F := TX2) (N := 4) (index := 89) 2 1 iwX2 rfl (by decide) (by decide) rfl rfl (wS wd_410) (fun _ h9 => h9) dX11_fingerprint_44 hq (fun a7 hq => ?_)
        refine zz_get S hT hB (C := RX1) (ref := "DiagramDesk$Connectors") (F := TX1) (N := 2) (index := 153) 1 1 iwX1 rfl (by decide) (by decide) rfl rfl (wS wd_440) (fun _ h9 => h9) dX11_fingerprint_47 hq (fun x8 hq => ?_)
        refine lv_i2l (v := (x8).toInt64) hx hb dX11_fingerprint_50 rfl ?_
        refine zz_callSl S hT hB (As := [.long y3, .long ((x8).toInt64)]) (o := f_X11_mixed T N s5 y3 ((x8).toInt64)) (c_X11_mixed l D cy T hT ad N s5 _ y3 ((x8).toInt64)) (va_cwS 2 hts (gS wSub wd_551 wd_552 wd_102 wd_553) rfl rfl rfl (by decide +kernel) ⟨Nat.le_of_ble_eq_true rfl, Nat.le_of_ble_eq_true rfl⟩) rfl hl.1 rfl (Nat.le_of_ble_eq_true rfl) dX11_fingerprint_51 hq (fun y10 s9 H locs hq hB => ?_)
        refine lv_lstore_n (lv' := [(1, .long y10), (0, .ref (ad a0)), (3, .int x4)]) hx hb dX11_fingerprint_54 rfl hl (by decide) rfl (fun ls hl => ?_)
        refine lv_iconst (v := 0) hx hb dX11_fingerprint_55 (by decide) ?_
        refine lv_istore_n (lv' := [(3, .int (0 : Int32)), (1, .long y10), (0, .ref (ad a0))]) hx hb dX11_fingerprint_56 rfl hl (by decide) rfl (fun ls hl => ?_)
        have L57 : ∀ (n : Nat) (y11 : Int64) (x12 : Int32) (s13 : zS) (H : Heap) (locs : List Loc) (ls : Array Slot), zl3 (f_X11_fingerprint_L57 T N a0) n y11 x12 s13 = some (r0, σ0) → zB D cy T ad (zA T ad s.heap.size) s.heap s13 H locs s → lv_has ls 4 [(0, .ref (ad a0)), (1, .long y11), (3, .int x12)] → W p l e (headSpec wsX11_fingerprint ({ frames := 6, cells := 0, slots := 0, locals := 162 } : Room)).room s m args below meth c H locs 0 0 (MQ below (va_Ql (fun (r2 : Int64) (σ2 : zS) => r2 = r0 ∧ σ2 = σ0) (zAt D cy T ad (zA T ad s.heap.size)) (zA T ad s.heap.size)) args s 0 0 (zA T ad s.heap.size)) (F0 m 57 ls []) := by
          intro n
          induction n with
          | zero => intro y11 x12 s13 H locs ls hq; exact zz_none hq
          | succ n ih57 =>
            intro y11 x12 s13 H locs ls hq hB hl
            rw [zl3] at hq
            generalize zl3 (f_X11_fingerprint_L57 T N a0) n = k57 at ih57 hq
            unfold f_X11_fingerprint_L57 at hq
            refine lv_iload_n hx hb dX11_fingerprint_57 rfl (lv_at hl 2 rfl) ?_
            refine lv_aload_n hx hb dX11_fingerprint_58 rfl (lv_at hl 0 rfl) ?_
            refine zz_getR S hT hB (C := RX11) (ref := "DiagramDesk") (F := TX11) (N := 5) (index := 10) 11 0 iwX11 rfl (by decide) (by decide) rfl rfl (wS wd_391) (fun _ h9 => h9) dX11_fingerprint_59 hq (fun a14 hq => ?_)
            refine zz_getR S hT hB (C := RX2) (ref := "DiagramDesk$Diagram") (F := TX2) (N := 4) (index := 89) 2 1 iwX2 rfl (by decide) (by decide) rfl rfl (wS wd_410) (fun _ h9 => h9) dX11_fingerprint_62 hq (fun a15 hq => ?_)
            refine zz_get S hT hB (C := RX1) (ref := "DiagramDesk$Connectors") (F := TX1) (N := 2) (index := 153) 1 1 iwX1 rfl (by decide) (by decide) rfl rfl (wS wd_440) (fun _ h9 => h9) dX11_fingerprint_65 hq (fun x16 hq => ?_)
            refine zz_icmp_ge (tgt := 84) hx hb dX11_fingerprint_68 (by decide) hq (fun hq => ?_) (fun hq => ?_)
            · refine lv_iconst (v := 0) hx hb dX11_fingerprint_84 (by decide) ?_
              refine lv_istore_n (lv' := [(3, .int (0 : Int32)), (0, .ref (ad a0)), (1, .long y11)]) hx hb dX11_fingerprint_85 rfl hl (by decide) rfl (fun ls hl => ?_)
              have L86 : ∀ (n : Nat) (y17 : Int64) (x18 : Int32) (s19 : zS) (H : Heap) (locs : List Loc) (ls : Array Slot), zl3 (f_X11_fingerprint_L86 T N a0) n y17 x18 s19 = some (r0, σ0) → zB D cy T ad (zA T ad s.heap.size) s.heap s19 H locs s → lv_has ls 4 [(0, .ref (ad a0)), (1, .long y17), (3, .int x18)] → W p l e (headSpec wsX11_fingerprint ({ frames := 6, cells := 0, slots := 0, locals := 162 } : Room)).room s m args below meth c H locs 0 0 (MQ below (va_Ql (fun (r2 : Int64) (σ2 : zS) => r2 = r0 ∧ σ2 = σ0) (zAt D cy T ad (zA T ad s.heap.size)) (zA T ad s.heap.size)) args s 0 0 (zA T ad s.heap.size)) (F0 m 86 ls []) := by
                intro n
                induction n with
                | zero => intro y17 x18 s19 H locs ls hq; exact zz_none hq
                | succ n ih86 =>
                  intro y17 x18 s19 H locs ls hq hB hl
                  rw [zl3] at hq
                  generalize zl3 (f_X11_fingerprint_L86 T N a0) n = k86 at ih86 hq
                  unfold f_X11_fingerprint_L86 at hq
                  refine lv_iload_n hx hb dX11_fingerprint_86 rfl (lv_at hl 2 rfl) ?_
                  refine lv_bipush (v := 8) hx hb dX11_fingerprint_87 (by decide) ?_
                  refine zz_icmp_ge (tgt := 131) hx hb dX11_fingerprint_89 (by decide) hq (fun hq => ?_) (fun hq => ?_)
                  · refine lv_lload_n hx hb dX11_fingerprint_131 rfl (lv_at hl 1 rfl) ?_
                    exact zz_lret S hB hr hlocks dX11_fingerprint_132 hq
                  · refine lv_aload_n hx hb dX11_fingerprint_92 rfl (lv_at hl 0 rfl) ?_
                    refine zz_getR S hT hB (C := RX11) (ref := "DiagramDesk") (F := TX11) (N := 5) (index := 10) 11 0 iwX11 rfl (by decide) (by decide) rfl rfl (wS wd_391) (fun _ h9 => h9) dX11_fingerprint_93 hq (fun a20 hq => ?_)
                    refine zz_getR S hT hB (C := RX2) (ref := "DiagramDesk$Diagram") (F := TX2) (N := 4) (index := 121) 2 2 iwX2 rfl (by decide) (by decide) rfl rfl (wS wd_423) (fun _ h9 => h9) dX11_fingerprint_96 hq (fun a21 hq => ?_)
                    refine lv_iload_n hx hb dX11_fingerprint_99 rfl (lv_at hl 2 rfl) ?_
                    refine zz_callVi S hT hB (As := [.int x18]) (b := a21) (o := f_X3_has T N s19 a21 x18) (c_X3_has l D cy T hT ad N s19 _ a21 x18) (cwV 1 hts (gV wSub wd_479 wd_116 wd_117 wd_118 wd_119) rfl rfl rfl (by decide +kernel) ⟨Nat.le_of_ble_eq_true rfl, Nat.le_of_ble_eq_true rfl⟩) (F := TX3) (NF := 2) 3 rfl (by decide) (k_X3_has T N s19 a21 x18) rfl hl.1 rfl (Nat.le_of_ble_eq_true rfl) dX11_fingerprint_100 hq (fun x23 s22 H locs hq hB => ?_)
                    refine zz_if_eq (tgt := 125) hx hb dX11_fingerprint_103 (by decide) hq (fun hq => ?_) (fun hq => ?_)
                    · refine zz_nmV hq (fun x24 ex24 hq => ?_)
                      refine lv_iinc (v := x24) (lv' := [(3, .int x24), (0, .ref (ad a0)), (1, .long y17)]) hx hb dX11_fingerprint_125 hl (k := 2) rfl (by rw [ex24]; rfl) (by decide) rfl (fun ls hl => ?_)
                      refine lv_goto (tgt := 86) hx hb dX11_fingerprint_128 (by decide) ?_
                      exact ih86 y17 x24 s22 _ _ _ hq hB (lv_sub hl [1, 2, 0] rfl)
                    · refine lv_lload_n hx hb dX11_fingerprint_106 rfl (lv_at hl 1 rfl) ?_
                      refine lv_iload_n hx hb dX11_fingerprint_107 rfl (lv_at hl 2 rfl) ?_
                      refine lv_i2l (v := (x18).toInt64) hx hb dX11_fingerprint_108 rfl ?_
                      refine zz_callSl S hT hB (As := [.long y17, .long ((x18).toInt64)]) (o := f_X11_mixed T N s22 y17 ((x18).toInt64)) (c_X11_mixed l D cy T hT ad N s22 _ y17 ((x18).toInt64)) (va_cwS 2 hts (gS wSub wd_551 wd_552 wd_102 wd_553) rfl rfl rfl (by decide +kernel) ⟨Nat.le_of_ble_eq_true rfl, Nat.le_of_ble_eq_true rfl⟩) rfl hl.1 rfl (Nat.le_of_ble_eq_true rfl) dX11_fingerprint_109 hq (fun y26 s25 H locs hq hB => ?_)
                      refine lv_aload_n hx hb dX11_fingerprint_112 rfl (lv_at hl 0 rfl) ?_
                      refine zz_getR S hT hB (C := RX11) (ref := "DiagramDesk") (F := TX11) (N := 5) (index := 10) 11 0 iwX11 rfl (by decide) (by decide) rfl rfl (wS wd_391) (fun _ h9 => h9) dX11_fingerprint_113 hq (fun a27 hq => ?_)
                      refine lv_iload_n hx hb dX11_fingerprint_116 rfl (lv_at hl 2 rfl) ?_
                      refine zz_callVi S hT hB (As := [.int x18]) (b := a27) (o := f_X2_shapesIn T N s25 a27 x18) (c_X2_shapesIn l D cy T hT ad N s25 _ a27 x18) (cwV 1 hts (gV wSub wd_484 wd_172 wd_173 wd_174 wd_175) rfl rfl rfl (by decide +kernel) ⟨Nat.le_of_ble_eq_true rfl, Nat.le_of_ble_eq_true rfl⟩) (F := TX2) (NF := 4) 2 rfl (by decide) (k_X2_shapesIn T N s25 a27 x18) rfl hl.1 rfl (Nat.le_of_ble_eq_true rfl) dX11_fingerprint_117 hq (fun x29 s28 H locs hq hB => ?_)
                      refine lv_i2l (v := (x29).toInt64) hx hb dX11_fingerprint_120 rfl ?_
                      refine zz_callSl S hT hB (As := [.long y26, .long ((x29).toInt64)]) (o := f_X11_mixed T N s28 y26 ((x29).toInt64)) (c_X11_mixed l D cy T hT ad N s28 _ y26 ((x29).toInt64)) (va_cwS 2 hts (gS wSub wd_551 wd_552 wd_102 wd_553) rfl rfl rfl (by decide +kernel) ⟨Nat.le_of_ble_eq_true rfl, Nat.le_of_ble_eq_true rfl⟩) rfl hl.1 rfl (Nat.le_of_ble_eq_true rfl) dX11_fingerprint_121 hq (fun y31 s30 H locs hq hB => ?_)
                      refine lv_lstore_n (lv' := [(1, .long y31), (0, .ref (ad a0)), (3, .int x18)]) hx hb dX11_fingerprint_124 rfl hl (by decide) rfl (fun ls hl => ?_)
                      refine zz_nmV hq (fun x32 ex32 hq => ?_)
                      refine lv_iinc (v := x32) (lv' := [(3, .int x32), (1, .long y31), (0, .ref (ad a0))]) hx hb dX11_fingerprint_125 hl (k := 2) rfl (by rw [ex32]; rfl) (by decide) rfl (fun ls hl => ?_)
                      refine lv_goto (tgt := 86) hx hb dX11_fingerprint_128 (by decide) ?_
                      exact ih86 y31 x32 s30 _ _ _ hq hB (lv_sub hl [2, 1, 0] rfl)
              exact L86 N y11 (0 : Int32) s13 _ _ _ hq hB (lv_sub hl [1, 2, 0] rfl)
            · refine lv_aload_n hx hb dX11_fingerprint_71 rfl (lv_at hl 0 rfl) ?_
              refine lv_lload_n hx hb dX11_fingerprint_72 rfl (lv_at hl 1 rfl) ?_
              refine lv_iload_n hx hb dX11_fingerprint_73 rfl (lv_at hl 2 rfl) ?_
              refine zz_callVl S hT hB (As := [.long y11, .int x12]) (b := a0) (o := f_X11_connectorMixed T N s13 a0 y11 x12) (c_X11_connectorMixed l D cy T hT ad N s13 _ a0 y11 x12) (cwV 2 hts (gV wSub wd_559 wd_560 wd_561 wd_102 wd_562) rfl rfl rfl (by decide +kernel) ⟨Nat.le_of_ble_eq_true rfl, Nat.le_of_ble_eq_true rfl⟩) (F := TX11) (NF := 5) 11 rfl (by decide) (k_X11_connectorMixed T N s13 a0 y11 x12) rfl hl.1 rfl (Nat.le_of_ble_eq_true rfl) dX11_fingerprint_74 hq (fun y34 s33 H locs hq hB => ?_)
              refine lv_lstore_n (lv' := [(1, .long y34), (0, .ref (ad a0)), (3, .int x12)]) hx hb dX11_fingerprint_77 rfl hl (by decide) rfl (fun ls hl => ?_)
              refine zz_nmV hq (fun x35 ex35 hq => ?_)
              refine lv_iinc (v := x35) (lv' := [(3, .int x35), (1, .long y34), (0, .ref (ad a0))]) hx hb dX11_fingerprint_78 hl (k := 2) rfl (by rw [ex35]; rfl) (by decide) rfl (fun ls hl => ?_)
              refine lv_goto (tgt := 57) hx hb dX11_fingerprint_81 (by decide) ?_
              exact ih57 y34 x35 s33 _ _ _ hq hB (lv_sub hl [2, 1, 0] rfl)
        exact L57 N y10 (0 : Int32) s9 _ _ _ hq hB (lv_sub hl [2, 1, 0] rfl)
      · refine lv_aload_n hx hb dX11_fingerprint_12 rfl (lv_at hl 0 rfl) ?_
        refine zz_getR S hT hB (C := RX11) (ref := "DiagramDesk") (F := TX11) (N := 5) (index := 10) 11 0 iwX11 rfl (by decide) (by decide) rfl rfl (wS wd_391) (fun _ h9 => h9) dX11_fingerprint_13 hq (fun a36 hq => ?_)
        refine zz_getR S hT hB (C := RX2) (ref := "DiagramDesk$Diagram") (F := TX2) (N := 4) (index := 55) 2 0 iwX2 rfl (by decide) (by decide) rfl rfl (wS wd_392) (fun _ h9 => h9) dX11_fingerprint_16 hq (fun a37 hq => ?_)
        refine lv_iload_n hx hb dX11_fingerprint_19 rfl (lv_at hl 2 rfl) ?_
        refine zz_callVq S hT hB (As := [.int x4]) (b := a37) (o := f_X7_find T N s5 a37 x4) (c_X7_find l D cy T hT ad N s5 _ a37 x4) (cwV 1 hts (gV wSub wd_403 wd_33 wd_34 wd_35 wd_36) rfl rfl rfl (by decide +kernel) ⟨Nat.le_of_ble_eq_true rfl, Nat.le_of_ble_eq_true rfl⟩) (F := TX7) (NF := 3) 7 rfl (by decide) (k_X7_find T N s5 a37 x4) rfl hl.1 rfl (Nat.le_of_ble_eq_true rfl) dX11_fingerprint_20 hq (fun s38 H locs hq hB => ?_) (fun a40 s38 H locs hq hB => ?_)
        · refine lv_ifnullN (tgt := 33) hx hb dX11_fingerprint_23 (by decide) ?_
          refine zz_nmV hq (fun x41 ex41 hq => ?_)
          refine lv_iinc (v := x41) (lv' := [(3, .int x41), (0, .ref (ad a0)), (1, .long y3)]) hx hb dX11_fingerprint_33 hl (k := 2) rfl (by rw [ex41]; rfl) (by decide) rfl (fun ls hl => ?_)
          refine lv_goto (tgt := 6) hx hb dX11_fingerprint_36 (by decide) ?_
          exact ih6 y3 x41 s38 _ _ _ hq hB (lv_sub hl [1, 2, 0] rfl)
        · refine lv_ifnull hx hb dX11_fingerprint_23 ?_
          refine lv_aload_n hx hb dX11_fingerprint_26 rfl (lv_at hl 0 rfl) ?_
          refine lv_lload_n hx hb dX11_fingerprint_27 rfl (lv_at hl 1 rfl) ?_
          refine lv_iload_n hx hb dX11_fingerprint_28 rfl (lv_at hl 2 rfl) ?_
          refine zz_callVl S hT hB (As := [.long y3, .int x4]) (b := a0) (o := f_X11_shapeMixed T N s38 a0 y3 x4) (c_X11_shapeMixed l D cy T hT ad N s38 _ a0 y3 x4) (cwV 2 hts (gV wSub wd_563 wd_564 wd_565 wd_102 wd_566) rfl rfl rfl (by decide +kernel) ⟨Nat.le_of_ble_eq_true rfl, Nat.le_of_ble_eq_true rfl⟩) (F := TX11) (NF := 5) 11 rfl (by decide) (k_X11_shapeMixed T N s38 a0 y3 x4) rfl hl.1 rfl (Nat.le_of_ble_eq_true rfl) dX11_fingerprint_29 hq (fun y43 s42 H locs hq hB => ?_)
          refine lv_lstore_n (lv' := [(1, .long y43), (0, .ref (ad a0)), (3, .int x4)]) hx hb dX11_fingerprint_32 rfl hl (by decide) rfl (fun ls hl => ?_)
          refine zz_nmV hq (fun x44 ex44 hq => ?_)
          refine lv_iinc (v := x44) (lv' := [(3, .int x44), (1, .long y43), (0, .ref (ad a0))]) hx hb dX11_fingerprint_33 hl (k := 2) rfl (by rw [ex44]; rfl) (by decide) rfl (fun ls hl => ?_)
          refine lv_goto (tgt := 6) hx hb dX11_fingerprint_36 (by decide) ?_
          exact ih6 y43 x44 s42 _ _ _ hq hB (lv_sub hl [2, 1, 0] rfl)
  exact L6 N (89 : Int64) (0 : Int32) s0 _ _ _ hq hB (lv_sub hl [2, 1, 0] rfl)
