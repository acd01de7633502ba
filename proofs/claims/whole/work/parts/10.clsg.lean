def f_X11_clear (T : zT) (N : Nat) (s0 : zS) (a0 : Nat) : Option (Int32 × zS) :=
  zz1 (T.1 a0 = 11) <|
  (gR T s0 a0 11 2).bind fun a3 =>
  (gI T s0 a3 9 2).bind fun x4 =>
  (gR T s0 a0 11 2).bind fun a5 =>
  (pI T s0 a5 9 2 (0 : Int32)).bind fun s6 =>
  some (x4, s6)
theorem k_X11_clear (T : zT) (N : Nat) (s0 : zS) (a0 : Nat) : ∀ q, f_X11_clear T N s0 a0 = some q → T.1 a0 = 11 := by
  intro q h
  unfold f_X11_clear at h
  exact zz_guard h (fun h _ => h)
set_option maxHeartbeats 4000000 in
set_option maxRecDepth 100000 in
theorem c_X11_clear (l : Launch) (D : va_G) (cy : Nat → ClassId) (T : zT) (hT : zok T) (ad : Nat → Nat) (N : Nat) (s0 : zS) (sz : Nat) (a0 : Nat) : ∀ (r0 : Int32) (σ0 : zS), f_X11_clear T N s0 a0 = some (r0, σ0) → Met l yX11_clear wsX11_clear ({ frames := 0, cells := 0, slots := 0, locals := 0 }) (va_Pc [.ref (ad a0)] (zPre D cy T ad s0 sz)) (va_Qi (fun (r2 : Int32) (σ2 : zS) => r2 = r0 ∧ σ2 = σ0) (zAt D cy T ad (zA T ad sz)) (zA T ad sz)) 0 0 (zA T ad sz) := by
  intro r0 σ0 hq
  refine Met.ofW (cc := cX11_clear) (maxL := 2) (ret := (some .int)) (by decide) rfl ?_
  intro p e s m args below meth c s₁ B hml hv
  obtain ⟨hargs, hsz, hP, hK, hD0, hN⟩ := hv
  have hx := B.exec
  have hb := B.bytes
  have hr := B.returns
  have hts := atoms_spec (ws := wsX11_clear) B.pre
  have hown : s.vm.findClass RX11 = some m.cls := findClass_of_methodNamed B.named
  have hlocks := B.notSynchronized
  have S : CallFix p m c cX11_clear 2 s args wsX11_clear RX11 := ⟨hx, hb, hml, hown, hts⟩
  subst hsz
  have hB : zB D cy T ad (zA T ad s.heap.size) s.heap s0 s.heap [] s := zz_entry hP hK hD0 hN
  obtain ⟨ls, hent, hl⟩ := zz_ent m hargs (n := 2) (Nat.le_of_ble_eq_true rfl)
  rw [hent]
  have hl : lv_has ls 2 [(0, .ref (ad a0))] := hl
  have iwX11 : ∀ w ∈ u_ws RX11 TX11 5, w ∈ wsX11_clear := by decide +kernel
  have iwX9 : ∀ w ∈ u_ws RX9 TX9 7, w ∈ wsX11_clear := by decide +kernel
  have lk0 : Cond.fieldLink RX11 26 "DiagramDesk" "text" "LDiagramDesk$Text;" ∈ wsX11_clear := by decide +kernel
  have lk1 : Cond.fieldLink RX11 268 "DiagramDesk$Text" "count" "I" ∈ wsX11_clear := by decide +kernel
  unfold f_X11_clear at hq
  refine zz_guard hq (fun hk0 hq => ?_)
  refine lv_aload_n hx hb dX11_clear_0 rfl (lv_at hl 0 rfl) ?_
  refine zz_getR S hT hB (C := RX11) (ref := "DiagramDesk") (F := TX11) (N := 5) (index := 26) 11 2 iwX11 rfl (by decide) (by decide) rfl rfl lk0 (fun _ h9 => h9) dX11_clear_1 hq (fun a3 hq => ?_)
  refine zz_get S hT hB (C := RX9) (ref := "DiagramDesk$Text") (F := TX9) (N := 7) (index := 268) 9 2 iwX9 rfl (by decide) (by decide) rfl rfl lk1 (fun _ h9 => h9) dX11_clear_4 hq (fun x4 hq => ?_)
  refine lv_istore_n (lv' := [(1, .int x4), (0, .ref (ad a0))]) hx hb dX11_clear_7 rfl hl (by decide) rfl (fun ls hl => ?_)
  refine lv_aload_n hx hb dX11_clear_8 rfl (lv_at hl 1 rfl) ?_
  refine zz_getR S hT hB (C := RX11) (ref := "DiagramDesk") (F := TX11) (N := 5) (index := 26) 11 2 iwX11 rfl (by decide) (by decide) rfl rfl lk0 (fun _ h9 => h9) dX11_clear_9 hq (fun a5 hq => ?_)
  refine lv_iconst (v := 0) hx hb dX11_clear_12 (by decide) ?_
  refine zz_put S hT hB (C := RX9) (ref := "DiagramDesk$Text") (F := TX9) (N := 7) (index := 268) 9 2 iwX9 tyX9 tyX9_ok nmX9 rfl (by decide) (by decide) rfl rfl lk1 (fun _ h9 => h9) rfl (by decide +kernel) dX11_clear_13 hq (fun s6 H locs hq hB => ?_)
  refine lv_iload_n hx hb dX11_clear_16 rfl (lv_at hl 0 rfl) ?_
  exact zz_iret S hB hr hlocks dX11_clear_17 hq
def f_X11_read_L58 (T : zT) (N : Nat) (a0 : Nat) (k58 : Int32 → zS → Option (Int32 × zS)) (x14 : Int32) (s15 : zS) : Option (Int32 × zS) :=
  (gR T s15 a0 11 2).bind fun a16 =>
  (gI T s15 a16 9 3).bind fun x17 =>
  if x17 ≤ x14 then (
    (gR T s15 a0 11 2).bind fun a18 =>
    (pI T s15 a18 9 2 (0 : Int32)).bind fun s19 =>
    (gR T s19 a0 11 2).bind fun a20 =>
    (gI T s19 a20 9 3).bind fun x21 =>
    some (x21, s19))
  else (
    (gR T s15 a0 11 2).bind fun a22 =>
    zb2 (f_X9_draft T N s15 a22 x14) fun o24 s23 => zo o24 (
      zn (x14 + (1 : Int32)) fun x26 =>
      k58 x26 s23)
    fun a25 => (
      (gR T s23 a0 11 0).bind fun a27 =>
      (gR T s23 a27 2 0).bind fun a28 =>
      (gI T s23 a25 6 1).bind fun x29 =>
      (gI T s23 a25 6 2).bind fun x30 =>
      (gI T s23 a25 6 3).bind fun x31 =>
      (gI T s23 a25 6 4).bind fun x32 =>
      (gI T s23 a25 6 5).bind fun x33 =>
      zb2 (f_X7_add T N s23 a28 x29 x30 x31 x32 x33) fun x35 s34 =>
      zn (x14 + (1 : Int32)) fun x36 =>
      k58 x36 s34))
def f_X11_read (T : zT) (N : Nat) (s0 : zS) (a0 : Nat) : Option (Int32 × zS) :=
  zz1 (T.1 a0 = 11) <|
  (gR T s0 a0 11 2).bind fun a3 =>
  zb2 (f_X9_parse T N s0 a3) fun x5 s4 =>
  if x5 = (-1000000 : Int32) then (
    (gR T s4 a0 11 0).bind fun a6 =>
    (gR T s4 a6 2 0).bind fun a7 =>
    (gI T s4 a7 7 1).bind fun x8 =>
    (gR T s4 a0 11 2).bind fun a9 =>
    (gI T s4 a9 9 3).bind fun x10 =>
    if (x8 + x10) ≤ (20 : Int32) then (
      (gR T s4 a0 11 1).bind fun a11 =>
      (gR T s4 a0 11 0).bind fun a12 =>
      (f_X5_keep T N s4 a11 a12).bind fun s13 =>
      zl2 (f_X11_read_L58 T N a0) N (0 : Int32) s13)
    else (
      some ((-3 : Int32), s4)))
  else (
    some ((-100 : Int32) - x5, s4))
theorem k_X11_read (T : zT) (N : Nat) (s0 : zS) (a0 : Nat) : ∀ q, f_X11_read T N s0 a0 = some q → T.1 a0 = 11 := by
  intro q h
  unfold f_X11_read at h
  exact zz_guard h (fun h _ => h)
set_option maxHeartbeats 4000000 in
set_option maxRecDepth 100000 in
theorem c_X11_read (l : Launch) (D : va_G) (cy : Nat → ClassId) (T : zT) (hT : zok T) (ad : Nat → Nat) (N : Nat) (s0 : zS) (sz : Nat) (a0 : Nat) : ∀ (r0 : Int32) (σ0 : zS), f_X11_read T N s0 a0 = some (r0, σ0) → Met l yX11_read wsX11_read ({ frames := 5, cells := 0, slots := 0, locals := 111 }) (va_Pc [.ref (ad a0)] (zPre D cy T ad s0 sz)) (va_Qi (fun (r2 : Int32) (σ2 : zS) => r2 = r0 ∧ σ2 = σ0) (zAt D cy T ad (zA T ad sz)) (zA T ad sz)) 0 0 (zA T ad sz) := by
  intro r0 σ0 hq
  refine Met.ofW (cc := cX11_read) (maxL := 4) (ret := (some .int)) (by decide) rfl ?_
  intro p e s m args below meth c s₁ B hml hv
  obtain ⟨hargs, hsz, hP, hK, hD0, hN⟩ := hv
  have hx := B.exec
  have hb := B.bytes
  have hr := B.returns
  have hts := atoms_spec (ws := wsX11_read) B.pre
  have hown : s.vm.findClass RX11 = some m.cls := findClass_of_methodNamed B.named
  have hlocks := B.notSynchronized
  have S : CallFix p m c cX11_read 4 s args wsX11_read RX11 := ⟨hx, hb, hml, hown, hts⟩
  subst hsz
  have hB : zB D cy T ad (zA T ad s.heap.size) s.heap s0 s.heap [] s := zz_entry hP hK hD0 hN
  obtain ⟨ls, hent, hl⟩ := zz_ent m hargs (n := 4) (Nat.le_of_ble_eq_true rfl)
  rw [hent]
  have hl : lv_has ls 4 [(0, .ref (ad a0))] := hl
  have iwX11 : ∀ w ∈ u_ws RX11 TX11 5, w ∈ wsX11_read := by decide +kernel
  have iwX2 : ∀ w ∈ u_ws RX2 TX2 4, w ∈ wsX11_read := by decide +kernel
  have iwX7 : ∀ w ∈ u_ws RX7 TX7 3, w ∈ wsX11_read := by decide +kernel
  have iwX9 : ∀ w ∈ u_ws RX9 TX9 7, w ∈ wsX11_read := by decide +kernel
  have iwX6 : ∀ w ∈ u_ws RX6 TX6 8, w ∈ wsX11_read := by decide +kernel
  have lk0 : Cond.fieldLink RX11 26 "DiagramDesk" "text" "LDiagramDesk$Text;" ∈ wsX11_read := by decide +kernel
  have lk1 : Cond.constant RX11 98 (-1000000) ∈ wsX11_read := by decide +kernel
  have lk2 : Cond.fieldLink RX11 10 "DiagramDesk" "now" "LDiagramDesk$Diagram;" ∈ wsX11_read := by decide +kernel
  have lk3 : Cond.fieldLink RX11 55 "DiagramDesk$Diagram" "shapes" "LDiagramDesk$Shapes;" ∈ wsX11_read := by decide +kernel
  have lk4 : Cond.fieldLink RX11 59 "DiagramDesk$Shapes" "added" "I" ∈ wsX11_read := by decide +kernel
  have lk5 : Cond.fieldLink RX11 272 "DiagramDesk$Text" "shapeCount" "I" ∈ wsX11_read := by decide +kernel
  have lk6 : Cond.fieldLink RX11 19 "DiagramDesk" "history" "LDiagramDesk$History;" ∈ wsX11_read := by decide +kernel
  have lk7 : Cond.fieldLink RX11 268 "DiagramDesk$Text" "count" "I" ∈ wsX11_read := by decide +kernel
  have lk8 : Cond.fieldLink RX11 99 "DiagramDesk$Shape" "kind" "I" ∈ wsX11_read := by decide +kernel
  have lk9 : Cond.fieldLink RX11 102 "DiagramDesk$Shape" "left" "I" ∈ wsX11_read := by decide +kernel
  have lk10 : Cond.fieldLink RX11 105 "DiagramDesk$Shape" "top" "I" ∈ wsX11_read := by decide +kernel
  have lk11 : Cond.fieldLink RX11 81 "DiagramDesk$Shape" "width" "I" ∈ wsX11_read := by decide +kernel
  have lk12 : Cond.fieldLink RX11 86 "DiagramDesk$Shape" "height" "I" ∈ wsX11_read := by decide +kernel
  unfold f_X11_read at hq
  refine zz_guard hq (fun hk0 hq => ?_)
  refine lv_aload_n hx hb dX11_read_0 rfl (lv_at hl 0 rfl) ?_
  refine zz_getR S hT hB (C := RX11) (ref := "DiagramDesk") (F := TX11) (N := 5) (index := 26) 11 2 iwX11 rfl (by decide) (by decide) rfl rfl lk0 (fun _ h9 => h9) dX11_read_1 hq (fun a3 hq => ?_)
  refine zz_callVi S hT hB (As := []) (b := a3) (o := f_X9_parse T N s0 a3) (c_X9_parse l D cy T hT ad N s0 _ a3) (cwV 0 hts gX11_read_X9_parse rfl rfl rfl (by decide +kernel) ⟨Nat.le_of_ble_eq_true rfl, Nat.le_of_ble_eq_true rfl⟩) (F := TX9) (NF := 7) 9 rfl (by decide) (k_X9_parse T N s0 a3) rfl hl.1 rfl (Nat.le_of_ble_eq_true rfl) dX11_read_4 hq (fun x5 s4 H locs hq hB => ?_)
  refine lv_istore_n (lv' := [(1, .int x5), (0, .ref (ad a0))]) hx hb dX11_read_7 rfl hl (by decide) rfl (fun ls hl => ?_)
  refine lv_iload_n hx hb dX11_read_8 rfl (lv_at hl 0 rfl) ?_
  refine lv_ldc (v := -1000000) hx hb hown (hts _ lk1) dX11_read_9 ?_
  refine zz_icmp_eq (tgt := 19) hx hb dX11_read_11 (by decide) hq (fun hq => ?_) (fun hq => ?_)
  · refine lv_aload_n hx hb dX11_read_19 rfl (lv_at hl 1 rfl) ?_
    refine zz_getR S hT hB (C := RX11) (ref := "DiagramDesk") (F := TX11) (N := 5) (index := 10) 11 0 iwX11 rfl (by decide) (by decide) rfl rfl lk2 (fun _ h9 => h9) dX11_read_20 hq (fun a6 hq => ?_)
    refine zz_getR S hT hB (C := RX2) (ref := "DiagramDesk$Diagram") (F := TX2) (N := 4) (index := 55) 2 0 iwX2 rfl (by decide) (by decide) rfl rfl lk3 (fun _ h9 => h9) dX11_read_23 hq (fun a7 hq => ?_)
    refine zz_get S hT hB (C := RX7) (ref := "DiagramDesk$Shapes") (F := TX7) (N := 3) (index := 59) 7 1 iwX7 rfl (by decide) (by decide) rfl rfl lk4 (fun _ h9 => h9) dX11_read_26 hq (fun x8 hq => ?_)
    refine lv_aload_n hx hb dX11_read_29 rfl (lv_at hl 1 rfl) ?_
    refine zz_getR S hT hB (C := RX11) (ref := "DiagramDesk") (F := TX11) (N := 5) (index := 26) 11 2 iwX11 rfl (by decide) (by decide) rfl rfl lk0 (fun _ h9 => h9) dX11_read_30 hq (fun a9 hq => ?_)
    refine zz_get S hT hB (C := RX9) (ref := "DiagramDesk$Text") (F := TX9) (N := 7) (index := 272) 9 3 iwX9 rfl (by decide) (by decide) rfl rfl lk5 (fun _ h9 => h9) dX11_read_33 hq (fun x10 hq => ?_)
    refine lv_iadd hx hb dX11_read_36 ?_
    refine lv_bipush (v := 20) hx hb dX11_read_37 (by decide) ?_
    refine zz_icmp_le (tgt := 45) hx hb dX11_read_39 (by decide) hq (fun hq => ?_) (fun hq => ?_)
    · refine lv_aload_n hx hb dX11_read_45 rfl (lv_at hl 1 rfl) ?_
      refine zz_getR S hT hB (C := RX11) (ref := "DiagramDesk") (F := TX11) (N := 5) (index := 19) 11 1 iwX11 rfl (by decide) (by decide) rfl rfl lk6 (fun _ h9 => h9) dX11_read_46 hq (fun a11 hq => ?_)
      refine lv_aload_n hx hb dX11_read_49 rfl (lv_at hl 1 rfl) ?_
      refine zz_getR S hT hB (C := RX11) (ref := "DiagramDesk") (F := TX11) (N := 5) (index := 10) 11 0 iwX11 rfl (by decide) (by decide) rfl rfl lk2 (fun _ h9 => h9) dX11_read_50 hq (fun a12 hq => ?_)
      refine zz_callVv S hT hB (As := [.ref (ad a12)]) (b := a11) (o := f_X5_keep T N s4 a11 a12) (c_X5_keep l D cy T hT ad N s4 _ a11 a12) (cwV 1 hts gX11_read_X5_keep rfl rfl rfl (by decide +kernel) ⟨Nat.le_of_ble_eq_true rfl, Nat.le_of_ble_eq_true rfl⟩) (F := TX5) (NF := 2) 5 rfl (by decide) (k_X5_keep T N s4 a11 a12) rfl hl.1 rfl (Nat.le_of_ble_eq_true rfl) dX11_read_53 hq (fun s13 H locs hq hB => ?_)
      refine lv_iconst (v := 0) hx hb dX11_read_56 (by decide) ?_
      refine lv_istore_n (lv' := [(2, .int (0 : Int32)), (1, .int x5), (0, .ref (ad a0))]) hx hb dX11_read_57 rfl hl (by decide) rfl (fun ls hl => ?_)
      have L58 : ∀ (n : Nat) (x14 : Int32) (s15 : zS) (H : Heap) (locs : List Loc) (ls : Array Slot), zl2 (f_X11_read_L58 T N a0) n x14 s15 = some (r0, σ0) → zB D cy T ad (zA T ad s.heap.size) s.heap s15 H locs s → lv_has ls 4 [(0, .ref (ad a0)), (2, .int x14)] → W p l e (headSpec wsX11_read ({ frames := 5, cells := 0, slots := 0, locals := 111 } : Room)).room s m args below meth c H locs 0 0 (MQ below (va_Qi (fun (r2 : Int32) (σ2 : zS) => r2 = r0 ∧ σ2 = σ0) (zAt D cy T ad (zA T ad s.heap.size)) (zA T ad s.heap.size)) args s 0 0 (zA T ad s.heap.size)) (F0 m 58 ls []) := by
        intro n
        induction n with
        | zero => intro x14 s15 H locs ls hq; exact zz_none hq
        | succ n ih58 =>
          intro x14 s15 H locs ls hq hB hl
          rw [zl2] at hq
          generalize zl2 (f_X11_read_L58 T N a0) n = k58 at ih58 hq
          unfold f_X11_read_L58 at hq
          refine lv_iload_n hx hb dX11_read_58 rfl (lv_at hl 1 rfl) ?_
          refine lv_aload_n hx hb dX11_read_59 rfl (lv_at hl 0 rfl) ?_
          refine zz_getR S hT hB (C := RX11) (ref := "DiagramDesk") (F := TX11) (N := 5) (index := 26) 11 2 iwX11 rfl (by decide) (by decide) rfl rfl lk0 (fun _ h9 => h9) dX11_read_60 hq (fun a16 hq => ?_)
          refine zz_get S hT hB (C := RX9) (ref := "DiagramDesk$Text") (F := TX9) (N := 7) (index := 272) 9 3 iwX9 rfl (by decide) (by decide) rfl rfl lk5 (fun _ h9 => h9) dX11_read_63 hq (fun x17 hq => ?_)
          refine zz_icmp_ge (tgt := 119) hx hb dX11_read_66 (by decide) hq (fun hq => ?_) (fun hq => ?_)
          · refine lv_aload_n hx hb dX11_read_119 rfl (lv_at hl 0 rfl) ?_
            refine zz_getR S hT hB (C := RX11) (ref := "DiagramDesk") (F := TX11) (N := 5) (index := 26) 11 2 iwX11 rfl (by decide) (by decide) rfl rfl lk0 (fun _ h9 => h9) dX11_read_120 hq (fun a18 hq => ?_)
            refine lv_iconst (v := 0) hx hb dX11_read_123 (by decide) ?_
            refine zz_put S hT hB (C := RX9) (ref := "DiagramDesk$Text") (F := TX9) (N := 7) (index := 268) 9 2 iwX9 tyX9 tyX9_ok nmX9 rfl (by decide) (by decide) rfl rfl lk7 (fun _ h9 => h9) rfl (by decide +kernel) dX11_read_124 hq (fun s19 H locs hq hB => ?_)
            refine lv_aload_n hx hb dX11_read_127 rfl (lv_at hl 0 rfl) ?_
            refine zz_getR S hT hB (C := RX11) (ref := "DiagramDesk") (F := TX11) (N := 5) (index := 26) 11 2 iwX11 rfl (by decide) (by decide) rfl rfl lk0 (fun _ h9 => h9) dX11_read_128 hq (fun a20 hq => ?_)
            refine zz_get S hT hB (C := RX9) (ref := "DiagramDesk$Text") (F := TX9) (N := 7) (index := 272) 9 3 iwX9 rfl (by decide) (by decide) rfl rfl lk5 (fun _ h9 => h9) dX11_read_131 hq (fun x21 hq => ?_)
            exact zz_iret S hB hr hlocks dX11_read_134 hq
          · refine lv_aload_n hx hb dX11_read_69 rfl (lv_at hl 0 rfl) ?_
            refine zz_getR S hT hB (C := RX11) (ref := "DiagramDesk") (F := TX11) (N := 5) (index := 26) 11 2 iwX11 rfl (by decide) (by decide) rfl rfl lk0 (fun _ h9 => h9) dX11_read_70 hq (fun a22 hq => ?_)
            refine lv_iload_n hx hb dX11_read_73 rfl (lv_at hl 1 rfl) ?_
            refine zz_callVq S hT hB (As := [.int x14]) (b := a22) (o := f_X9_draft T N s15 a22 x14) (c_X9_draft l D cy T hT ad N s15 _ a22 x14) (cwV 1 hts gX11_read_X9_draft rfl rfl rfl (by decide +kernel) ⟨Nat.le_of_ble_eq_true rfl, Nat.le_of_ble_eq_true rfl⟩) (F := TX9) (NF := 7) 9 rfl (by decide) (k_X9_draft T N s15 a22 x14) rfl hl.1 rfl (Nat.le_of_ble_eq_true rfl) dX11_read_74 hq (fun s23 H locs hq hB => ?_) (fun a25 s23 H locs hq hB => ?_)
            · refine lv_astore_nN (lv' := [(3, .null), (0, .ref (ad a0)), (2, .int x14)]) hx hb dX11_read_77 rfl hl (by decide) rfl (fun ls hl => ?_)
              refine lv_aload_nN hx hb dX11_read_78 rfl (lv_at hl 0 rfl) ?_
              refine lv_ifnullN (tgt := 113) hx hb dX11_read_79 (by decide) ?_
              refine zz_nmV hq (fun x26 ex26 hq => ?_)
              refine lv_iinc (v := x26) (lv' := [(2, .int x26), (3, .null), (0, .ref (ad a0))]) hx hb dX11_read_113 hl (k := 2) rfl (by rw [ex26]; rfl) (by decide) rfl (fun ls hl => ?_)
              refine lv_goto (tgt := 58) hx hb dX11_read_116 (by decide) ?_
              exact ih58 x26 s23 _ _ _ hq hB (lv_sub hl [2, 0] rfl)
            · refine lv_astore_n (lv' := [(3, .ref (ad a25)), (0, .ref (ad a0)), (2, .int x14)]) hx hb dX11_read_77 rfl hl (by decide) rfl (fun ls hl => ?_)
              refine lv_aload_n hx hb dX11_read_78 rfl (lv_at hl 0 rfl) ?_
              refine lv_ifnull hx hb dX11_read_79 ?_
              refine lv_aload_n hx hb dX11_read_82 rfl (lv_at hl 1 rfl) ?_
              refine zz_getR S hT hB (C := RX11) (ref := "DiagramDesk") (F := TX11) (N := 5) (index := 10) 11 0 iwX11 rfl (by decide) (by decide) rfl rfl lk2 (fun _ h9 => h9) dX11_read_83 hq (fun a27 hq => ?_)
              refine zz_getR S hT hB (C := RX2) (ref := "DiagramDesk$Diagram") (F := TX2) (N := 4) (index := 55) 2 0 iwX2 rfl (by decide) (by decide) rfl rfl lk3 (fun _ h9 => h9) dX11_read_86 hq (fun a28 hq => ?_)
              refine lv_aload_n hx hb dX11_read_89 rfl (lv_at hl 0 rfl) ?_
              refine zz_get S hT hB (C := RX6) (ref := "DiagramDesk$Shape") (F := TX6) (N := 8) (index := 99) 6 1 iwX6 rfl (by decide) (by decide) rfl rfl lk8 (fun _ h9 => h9) dX11_read_90 hq (fun x29 hq => ?_)
              refine lv_aload_n hx hb dX11_read_93 rfl (lv_at hl 0 rfl) ?_
              refine zz_get S hT hB (C := RX6) (ref := "DiagramDesk$Shape") (F := TX6) (N := 8) (index := 102) 6 2 iwX6 rfl (by decide) (by decide) rfl rfl lk9 (fun _ h9 => h9) dX11_read_94 hq (fun x30 hq => ?_)
              refine lv_aload_n hx hb dX11_read_97 rfl (lv_at hl 0 rfl) ?_
              refine zz_get S hT hB (C := RX6) (ref := "DiagramDesk$Shape") (F := TX6) (N := 8) (index := 105) 6 3 iwX6 rfl (by decide) (by decide) rfl rfl lk10 (fun _ h9 => h9) dX11_read_98 hq (fun x31 hq => ?_)
              refine lv_aload_n hx hb dX11_read_101 rfl (lv_at hl 0 rfl) ?_
              refine zz_get S hT hB (C := RX6) (ref := "DiagramDesk$Shape") (F := TX6) (N := 8) (index := 81) 6 4 iwX6 rfl (by decide) (by decide) rfl rfl lk11 (fun _ h9 => h9) dX11_read_102 hq (fun x32 hq => ?_)
              refine lv_aload_n hx hb dX11_read_105 rfl (lv_at hl 0 rfl) ?_
              refine zz_get S hT hB (C := RX6) (ref := "DiagramDesk$Shape") (F := TX6) (N := 8) (index := 86) 6 5 iwX6 rfl (by decide) (by decide) rfl rfl lk12 (fun _ h9 => h9) dX11_read_106 hq (fun x33 hq => ?_)
              refine zz_callVi S hT hB (As := [.int x29, .int x30, .int x31, .int x32, .int x33]) (b := a28) (o := f_X7_add T N s23 a28 x29 x30 x31 x32 x33) (c_X7_add l D cy T hT ad N s23 _ a28 x29 x30 x31 x32 x33) (cwV 5 hts gX11_read_X7_add rfl rfl rfl (by decide +kernel) ⟨Nat.le_of_ble_eq_true rfl, Nat.le_of_ble_eq_true rfl⟩) (F := TX7) (NF := 3) 7 rfl (by decide) (k_X7_add T N s23 a28 x29 x30 x31 x32 x33) rfl hl.1 rfl (Nat.le_of_ble_eq_true rfl) dX11_read_109 hq (fun x35 s34 H locs hq hB => ?_)
              refine lv_pop hx hb dX11_read_112 rfl ?_
              refine zz_nmV hq (fun x36 ex36 hq => ?_)
              refine lv_iinc (v := x36) (lv' := [(2, .int x36), (3, .ref (ad a25)), (0, .ref (ad a0))]) hx hb dX11_read_113 hl (k := 2) rfl (by rw [ex36]; rfl) (by decide) rfl (fun ls hl => ?_)
              refine lv_goto (tgt := 58) hx hb dX11_read_116 (by decide) ?_
              exact ih58 x36 s34 _ _ _ hq hB (lv_sub hl [2, 0] rfl)
      exact L58 N (0 : Int32) s13 _ _ _ hq hB (lv_sub hl [2, 0] rfl)
    · refine lv_bipush (v := -3) hx hb dX11_read_42 (by decide) ?_
      exact zz_iret S hB hr hlocks dX11_read_44 hq
  · refine lv_bipush (v := -100) hx hb dX11_read_14 (by decide) ?_
    refine lv_iload_n hx hb dX11_read_16 rfl (lv_at hl 0 rfl) ?_
    refine lv_isub hx hb dX11_read_17 ?_
    exact zz_iret S hB hr hlocks dX11_read_18 hq
def f_X11_undo (T : zT) (N : Nat) (s0 : zS) (a0 : Nat) : Option (Int32 × zS) :=
  zz1 (T.1 a0 = 11) <|
  (gR T s0 a0 11 1).bind fun a3 =>
  (gR T s0 a0 11 0).bind fun a4 =>
  zb2 (f_X5_back T N s0 a3 a4) fun x6 s5 =>
  if x6 = 0 then (
    some ((-1000000 : Int32), s5))
  else (
    (gR T s5 a0 11 1).bind fun a7 =>
    (gI T s5 a7 5 1).bind fun x8 =>
    some (x8, s5))
theorem k_X11_undo (T : zT) (N : Nat) (s0 : zS) (a0 : Nat) : ∀ q, f_X11_undo T N s0 a0 = some q → T.1 a0 = 11 := by
  intro q h
  unfold f_X11_undo at h
  exact zz_guard h (fun h _ => h)
set_option maxHeartbeats 4000000 in
set_option maxRecDepth 100000 in
theorem c_X11_undo (l : Launch) (D : va_G) (cy : Nat → ClassId) (T : zT) (hT : zok T) (ad : Nat → Nat) (N : Nat) (s0 : zS) (sz : Nat) (a0 : Nat) : ∀ (r0 : Int32) (σ0 : zS), f_X11_undo T N s0 a0 = some (r0, σ0) → Met l yX11_undo wsX11_undo ({ frames := 5, cells := 0, slots := 0, locals := 107 }) (va_Pc [.ref (ad a0)] (zPre D cy T ad s0 sz)) (va_Qi (fun (r2 : Int32) (σ2 : zS) => r2 = r0 ∧ σ2 = σ0) (zAt D cy T ad (zA T ad sz)) (zA T ad sz)) 0 0 (zA T ad sz) := by
  intro r0 σ0 hq
  refine Met.ofW (cc := cX11_undo) (maxL := 1) (ret := (some .int)) (by decide) rfl ?_
  intro p e s m args below meth c s₁ B hml hv
  obtain ⟨hargs, hsz, hP, hK, hD0, hN⟩ := hv
  have hx := B.exec
  have hb := B.bytes
  have hr := B.returns
  have hts := atoms_spec (ws := wsX11_undo) B.pre
  have hown : s.vm.findClass RX11 = some m.cls := findClass_of_methodNamed B.named
  have hlocks := B.notSynchronized
  have S : CallFix p m c cX11_undo 1 s args wsX11_undo RX11 := ⟨hx, hb, hml, hown, hts⟩
  subst hsz
  have hB : zB D cy T ad (zA T ad s.heap.size) s.heap s0 s.heap [] s := zz_entry hP hK hD0 hN
  obtain ⟨ls, hent, hl⟩ := zz_ent m hargs (n := 1) (Nat.le_of_ble_eq_true rfl)
  rw [hent]
  have hl : lv_has ls 1 [(0, .ref (ad a0))] := hl
  have iwX11 : ∀ w ∈ u_ws RX11 TX11 5, w ∈ wsX11_undo := by decide +kernel
  have iwX5 : ∀ w ∈ u_ws RX5 TX5 2, w ∈ wsX11_undo := by decide +kernel
  have lk0 : Cond.fieldLink RX11 19 "DiagramDesk" "history" "LDiagramDesk$History;" ∈ wsX11_undo := by decide +kernel
  have lk1 : Cond.fieldLink RX11 10 "DiagramDesk" "now" "LDiagramDesk$Diagram;" ∈ wsX11_undo := by decide +kernel
  have lk2 : Cond.constant RX11 98 (-1000000) ∈ wsX11_undo := by decide +kernel
  have lk3 : Cond.fieldLink RX11 282 "DiagramDesk$History" "count" "I" ∈ wsX11_undo := by decide +kernel
  unfold f_X11_undo at hq
  refine zz_guard hq (fun hk0 hq => ?_)
  refine lv_aload_n hx hb dX11_undo_0 rfl (lv_at hl 0 rfl) ?_
  refine zz_getR S hT hB (C := RX11) (ref := "DiagramDesk") (F := TX11) (N := 5) (index := 19) 11 1 iwX11 rfl (by decide) (by decide) rfl rfl lk0 (fun _ h9 => h9) dX11_undo_1 hq (fun a3 hq => ?_)
  refine lv_aload_n hx hb dX11_undo_4 rfl (lv_at hl 0 rfl) ?_
  refine zz_getR S hT hB (C := RX11) (ref := "DiagramDesk") (F := TX11) (N := 5) (index := 10) 11 0 iwX11 rfl (by decide) (by decide) rfl rfl lk1 (fun _ h9 => h9) dX11_undo_5 hq (fun a4 hq => ?_)
  refine zz_callVi S hT hB (As := [.ref (ad a4)]) (b := a3) (o := f_X5_back T N s0 a3 a4) (c_X5_back l D cy T hT ad N s0 _ a3 a4) (cwV 1 hts gX11_undo_X5_back rfl rfl rfl (by decide +kernel) ⟨Nat.le_of_ble_eq_true rfl, Nat.le_of_ble_eq_true rfl⟩) (F := TX5) (NF := 2) 5 rfl (by decide) (k_X5_back T N s0 a3 a4) rfl hl.1 rfl (Nat.le_of_ble_eq_true rfl) dX11_undo_8 hq (fun x6 s5 H locs hq hB => ?_)
  refine zz_if_eq (tgt := 24) hx hb dX11_undo_11 (by decide) hq (fun hq => ?_) (fun hq => ?_)
  · refine lv_ldc (v := -1000000) hx hb hown (hts _ lk2) dX11_undo_24 ?_
    exact zz_iret S hB hr hlocks dX11_undo_26 hq
  · refine lv_aload_n hx hb dX11_undo_14 rfl (lv_at hl 0 rfl) ?_
    refine zz_getR S hT hB (C := RX11) (ref := "DiagramDesk") (F := TX11) (N := 5) (index := 19) 11 1 iwX11 rfl (by decide) (by decide) rfl rfl lk0 (fun _ h9 => h9) dX11_undo_15 hq (fun a7 hq => ?_)
    refine zz_get S hT hB (C := RX5) (ref := "DiagramDesk$History") (F := TX5) (N := 2) (index := 282) 5 1 iwX5 rfl (by decide) (by decide) rfl rfl lk3 (fun _ h9 => h9) dX11_undo_18 hq (fun x8 hq => ?_)
    refine lv_goto (tgt := 26) hx hb dX11_undo_21 (by decide) ?_
    exact zz_iret S hB hr hlocks dX11_undo_26 hq
def f_X11_mixed (T : zT) (N : Nat) (s0 : zS) (y0 : Int64) (y2 : Int64) : Option (Int64 × zS) :=
  some (((31 : Int64) * y0) + y2, s0)
set_option maxHeartbeats 4000000 in
set_option maxRecDepth 100000 in
theorem c_X11_mixed (l : Launch) (D : va_G) (cy : Nat → ClassId) (T : zT) (hT : zok T) (ad : Nat → Nat) (N : Nat) (s0 : zS) (sz : Nat) (y0 : Int64) (y2 : Int64) : ∀ (r0 : Int64) (σ0 : zS), f_X11_mixed T N s0 y0 y2 = some (r0, σ0) → Met l yX11_mixed wsX11_mixed ({ frames := 0, cells := 0, slots := 0, locals := 0 }) (va_Pc [.long y0, .long y2] (zPre D cy T ad s0 sz)) (va_Ql (fun (r2 : Int64) (σ2 : zS) => r2 = r0 ∧ σ2 = σ0) (zAt D cy T ad (zA T ad sz)) (zA T ad sz)) 0 0 (zA T ad sz) := by
  intro r0 σ0 hq
  refine Met.ofW (cc := cX11_mixed) (maxL := 4) (ret := (some .long)) (by decide) rfl ?_
  intro p e s m args below meth c s₁ B hml hv
  obtain ⟨hargs, hsz, hP, hK, hD0, hN⟩ := hv
  have hx := B.exec
  have hb := B.bytes
  have hr := B.returns
  have hts := atoms_spec (ws := wsX11_mixed) B.pre
  have hown : s.vm.findClass RX11 = some m.cls := findClass_of_methodNamed B.named
  have hlocks := B.notSynchronized
  have S : CallFix p m c cX11_mixed 4 s args wsX11_mixed RX11 := ⟨hx, hb, hml, hown, hts⟩
  subst hsz
  have hB : zB D cy T ad (zA T ad s.heap.size) s.heap s0 s.heap [] s := zz_entry hP hK hD0 hN
  obtain ⟨ls, hent, hl⟩ := zz_ent m hargs (n := 4) (Nat.le_of_ble_eq_true rfl)
  rw [hent]
  have hl : lv_has ls 4 [(0, .long y0), (2, .long y2)] := hl
  have lk0 : Cond.constantLong RX11 299 (31) ∈ wsX11_mixed := by decide +kernel
  unfold f_X11_mixed at hq
  refine lv_ldc2 (v := 31) hx hb hown (hts _ lk0) dX11_mixed_0 ?_
  refine lv_lload_n hx hb dX11_mixed_3 rfl (lv_at hl 0 rfl) ?_
  refine lv_lmul hx hb dX11_mixed_4 ?_
  refine lv_lload_n hx hb dX11_mixed_5 rfl (lv_at hl 1 rfl) ?_
  refine lv_ladd hx hb dX11_mixed_6 ?_
  exact zz_lret S hB hr hlocks dX11_mixed_7 hq
def f_X11_shapeMixed_L11 (T : zT) (N : Nat) (a0 : Nat) (x3 : Int32) (k11 : Int64 → Int32 → zS → Option (Int64 × zS)) (y8 : Int64) (x9 : Int32) (s10 : zS) : Option (Int64 × zS) :=
  if (8 : Int32) < x9 then (
    some (y8, s10))
  else (
    zb2 (f_X11_shape T N s10 a0 x3 x9) fun x12 s11 =>
    zb2 (f_X11_mixed T N s11 y8 ((x12).toInt64)) fun y14 s13 =>
    zn (x9 + (1 : Int32)) fun x15 =>
    k11 y14 x15 s13)
def f_X11_shapeMixed (T : zT) (N : Nat) (s0 : zS) (a0 : Nat) (y1 : Int64) (x3 : Int32) : Option (Int64 × zS) :=
  zz1 (T.1 a0 = 11) <|
  zb2 (f_X11_mixed T N s0 y1 ((x3).toInt64)) fun y7 s6 =>
  zl3 (f_X11_shapeMixed_L11 T N a0 x3) N y7 (0 : Int32) s6
theorem k_X11_shapeMixed (T : zT) (N : Nat) (s0 : zS) (a0 : Nat) (y1 : Int64) (x3 : Int32) : ∀ q, f_X11_shapeMixed T N s0 a0 y1 x3 = some q → T.1 a0 = 11 := by
  intro q h
  unfold f_X11_shapeMixed at h
  exact zz_guard h (fun h _ => h)
set_option maxHeartbeats 4000000 in
set_option maxRecDepth 100000 in
theorem c_X11_shapeMixed (l : Launch) (D : va_G) (cy : Nat → ClassId) (T : zT) (hT : zok T) (ad : Nat → Nat) (N : Nat) (s0 : zS) (sz : Nat) (a0 : Nat) (y1 : Int64) (x3 : Int32) : ∀ (r0 : Int64) (σ0 : zS), f_X11_shapeMixed T N s0 a0 y1 x3 = some (r0, σ0) → Met l yX11_shapeMixed wsX11_shapeMixed ({ frames := 4, cells := 0, slots := 0, locals := 88 }) (va_Pc [.ref (ad a0), .long y1, .int x3] (zPre D cy T ad s0 sz)) (va_Ql (fun (r2 : Int64) (σ2 : zS) => r2 = r0 ∧ σ2 = σ0) (zAt D cy T ad (zA T ad sz)) (zA T ad sz)) 0 0 (zA T ad sz) := by
  intro r0 σ0 hq
  refine Met.ofW (cc := cX11_shapeMixed) (maxL := 7) (ret := (some .long)) (by decide) rfl ?_
  intro p e s m args below meth c s₁ B hml hv
  obtain ⟨hargs, hsz, hP, hK, hD0, hN⟩ := hv
  have hx := B.exec
  have hb := B.bytes
  have hr := B.returns
  have hts := atoms_spec (ws := wsX11_shapeMixed) B.pre
  have hown : s.vm.findClass RX11 = some m.cls := findClass_of_methodNamed B.named
  have hlocks := B.notSynchronized
  have S : CallFix p m c cX11_shapeMixed 7 s args wsX11_shapeMixed RX11 := ⟨hx, hb, hml, hown, hts⟩
  subst hsz
  have hB : zB D cy T ad (zA T ad s.heap.size) s.heap s0 s.heap [] s := zz_entry hP hK hD0 hN
  obtain ⟨ls, hent, hl⟩ := zz_ent m hargs (n := 7) (Nat.le_of_ble_eq_true rfl)
  rw [hent]
  have hl : lv_has ls 7 [(0, .ref (ad a0)), (1, .long y1), (3, .int x3)] := hl
  unfold f_X11_shapeMixed at hq
  refine zz_guard hq (fun hk0 hq => ?_)
  refine lv_lload_n hx hb dX11_shapeMixed_0 rfl (lv_at hl 1 rfl) ?_
  refine lv_iload_n hx hb dX11_shapeMixed_1 rfl (lv_at hl 2 rfl) ?_
  refine lv_i2l (v := (x3).toInt64) hx hb dX11_shapeMixed_2 rfl ?_
  refine zz_callSl S hT hB (As := [.long y1, .long ((x3).toInt64)]) (o := f_X11_mixed T N s0 y1 ((x3).toInt64)) (c_X11_mixed l D cy T hT ad N s0 _ y1 ((x3).toInt64)) (va_cwS 2 hts gX11_shapeMixed_X11_mixed rfl rfl rfl (by decide +kernel) ⟨Nat.le_of_ble_eq_true rfl, Nat.le_of_ble_eq_true rfl⟩) rfl hl.1 rfl (Nat.le_of_ble_eq_true rfl) dX11_shapeMixed_3 hq (fun y7 s6 H locs hq hB => ?_)
  refine lv_lstore (lv' := [(4, .long y7), (0, .ref (ad a0)), (1, .long y1), (3, .int x3)]) hx hb dX11_shapeMixed_6 hl (by decide) rfl (fun ls hl => ?_)
  refine lv_iconst (v := 0) hx hb dX11_shapeMixed_8 (by decide) ?_
  refine lv_istore (lv' := [(6, .int (0 : Int32)), (4, .long y7), (0, .ref (ad a0)), (1, .long y1), (3, .int x3)]) hx hb dX11_shapeMixed_9 hl (by decide) rfl (fun ls hl => ?_)
  have L11 : ∀ (n : Nat) (y8 : Int64) (x9 : Int32) (s10 : zS) (H : Heap) (locs : List Loc) (ls : Array Slot), zl3 (f_X11_shapeMixed_L11 T N a0 x3) n y8 x9 s10 = some (r0, σ0) → zB D cy T ad (zA T ad s.heap.size) s.heap s10 H locs s → lv_has ls 7 [(0, .ref (ad a0)), (3, .int x3), (4, .long y8), (6, .int x9)] → W p l e (headSpec wsX11_shapeMixed ({ frames := 4, cells := 0, slots := 0, locals := 88 } : Room)).room s m args below meth c H locs 0 0 (MQ below (va_Ql (fun (r2 : Int64) (σ2 : zS) => r2 = r0 ∧ σ2 = σ0) (zAt D cy T ad (zA T ad s.heap.size)) (zA T ad s.heap.size)) args s 0 0 (zA T ad s.heap.size)) (F0 m 11 ls []) := by
    intro n
    induction n with
    | zero => intro y8 x9 s10 H locs ls hq; exact zz_none hq
    | succ n ih11 =>
      intro y8 x9 s10 H locs ls hq hB hl
      rw [zl3] at hq
      generalize zl3 (f_X11_shapeMixed_L11 T N a0 x3) n = k11 at ih11 hq
      unfold f_X11_shapeMixed_L11 at hq
      refine lv_iload hx hb dX11_shapeMixed_11 (lv_at hl 3 rfl) ?_
      refine lv_bipush (v := 8) hx hb dX11_shapeMixed_13 (by decide) ?_
      refine zz_icmp_gt (tgt := 39) hx hb dX11_shapeMixed_15 (by decide) hq (fun hq => ?_) (fun hq => ?_)
      · refine lv_lload hx hb dX11_shapeMixed_39 (lv_at hl 2 rfl) ?_
        exact zz_lret S hB hr hlocks dX11_shapeMixed_41 hq
      · refine lv_lload hx hb dX11_shapeMixed_18 (lv_at hl 2 rfl) ?_
        refine lv_aload_n hx hb dX11_shapeMixed_20 rfl (lv_at hl 0 rfl) ?_
        refine lv_iload_n hx hb dX11_shapeMixed_21 rfl (lv_at hl 1 rfl) ?_
        refine lv_iload hx hb dX11_shapeMixed_22 (lv_at hl 3 rfl) ?_
        refine zz_callVi S hT hB (As := [.int x3, .int x9]) (b := a0) (o := f_X11_shape T N s10 a0 x3 x9) (c_X11_shape l D cy T hT ad N s10 _ a0 x3 x9) (cwV 2 hts gX11_shapeMixed_X11_shape rfl rfl rfl (by decide +kernel) ⟨Nat.le_of_ble_eq_true rfl, Nat.le_of_ble_eq_true rfl⟩) (F := TX11) (NF := 5) 11 rfl (by decide) (k_X11_shape T N s10 a0 x3 x9) rfl hl.1 rfl (Nat.le_of_ble_eq_true rfl) dX11_shapeMixed_24 hq (fun x12 s11 H locs hq hB => ?_)
        refine lv_i2l (v := (x12).toInt64) hx hb dX11_shapeMixed_27 rfl ?_
        refine zz_callSl S hT hB (As := [.long y8, .long ((x12).toInt64)]) (o := f_X11_mixed T N s11 y8 ((x12).toInt64)) (c_X11_mixed l D cy T hT ad N s11 _ y8 ((x12).toInt64)) (va_cwS 2 hts gX11_shapeMixed_X11_mixed rfl rfl rfl (by decide +kernel) ⟨Nat.le_of_ble_eq_true rfl, Nat.le_of_ble_eq_true rfl⟩) rfl hl.1 rfl (Nat.le_of_ble_eq_true rfl) dX11_shapeMixed_28 hq (fun y14 s13 H locs hq hB => ?_)
        refine lv_lstore (lv' := [(4, .long y14), (0, .ref (ad a0)), (3, .int x3), (6, .int x9)]) hx hb dX11_shapeMixed_31 hl (by decide) rfl (fun ls hl => ?_)
        refine zz_nmV hq (fun x15 ex15 hq => ?_)
        refine lv_iinc (v := x15) (lv' := [(6, .int x15), (4, .long y14), (0, .ref (ad a0)), (3, .int x3)]) hx hb dX11_shapeMixed_33 hl (k := 3) rfl (by rw [ex15]; rfl) (by decide) rfl (fun ls hl => ?_)
        refine lv_goto (tgt := 11) hx hb dX11_shapeMixed_36 (by decide) ?_
        exact ih11 y14 x15 s13 _ _ _ hq hB (lv_sub hl [2, 3, 1, 0] rfl)
  exact L11 N y7 (0 : Int32) s6 _ _ _ hq hB (lv_sub hl [2, 4, 1, 0] rfl)
def f_X11_connectorMixed_L62 (T : zT) (N : Nat) (a0 : Nat) (a10 : Nat) (k62 : Int64 → Int32 → zS → Option (Int64 × zS)) (y23 : Int64) (x24 : Int32) (s25 : zS) : Option (Int64 × zS) :=
  zb2 (f_X0_lastPoint T N s25 a10) fun x27 s26 =>
  if x27 < x24 then (
    some (y23, s26))
  else (
    (gR T s26 a0 11 0).bind fun a28 =>
    (gR T s26 a28 2 0).bind fun a29 =>
    zb2 (f_X0_place T N s26 a10 a29 x24 (0 : Int32)) fun x31 s30 =>
    zb2 (f_X11_mixed T N s30 y23 ((x31).toInt64)) fun y33 s32 =>
    (gR T s32 a0 11 0).bind fun a34 =>
    (gR T s32 a34 2 0).bind fun a35 =>
    zb2 (f_X0_place T N s32 a10 a35 x24 (1 : Int32)) fun x37 s36 =>
    zb2 (f_X11_mixed T N s36 y33 ((x37).toInt64)) fun y39 s38 =>
    zn (x24 + (1 : Int32)) fun x40 =>
    k62 y39 x40 s38)
def f_X11_connectorMixed (T : zT) (N : Nat) (s0 : zS) (a0 : Nat) (y1 : Int64) (x3 : Int32) : Option (Int64 × zS) :=
  zz1 (T.1 a0 = 11) <|
  (gR T s0 a0 11 0).bind fun a6 =>
  (gR T s0 a6 2 1).bind fun a7 =>
  zb2 (f_X1_find T N s0 a7 x3) fun o9 s8 => zo o9 (
    some (y1, s8))
  fun a10 => (
    (gR T s8 a0 11 0).bind fun a11 =>
    (gR T s8 a11 2 0).bind fun a12 =>
    zb2 (f_X0_extent T N s8 a10 a12) fun x14 s13 =>
    zb2 (f_X11_mixed T N s13 y1 ((x14).toInt64)) fun y16 s15 =>
    (gR T s15 a0 11 0).bind fun a17 =>
    (gR T s15 a17 2 0).bind fun a18 =>
    zb2 (f_X0_crossed T N s15 a10 a18) fun x20 s19 =>
    zb2 (f_X11_mixed T N s19 y16 ((x20).toInt64)) fun y22 s21 =>
    zl3 (f_X11_connectorMixed_L62 T N a0 a10) N y22 (0 : Int32) s21)
theorem k_X11_connectorMixed (T : zT) (N : Nat) (s0 : zS) (a0 : Nat) (y1 : Int64) (x3 : Int32) : ∀ q, f_X11_connectorMixed T N s0 a0 y1 x3 = some q → T.1 a0 = 11 := by
  intro q h
  unfold f_X11_connectorMixed at h
  exact zz_guard h (fun h _ => h)
set_option maxHeartbeats 4000000 in
set_option maxRecDepth 100000 in
theorem c_X11_connectorMixed (l : Launch) (D : va_G) (cy : Nat → ClassId) (T : zT) (hT : zok T) (ad : Nat → Nat) (N : Nat) (s0 : zS) (sz : Nat) (a0 : Nat) (y1 : Int64) (x3 : Int32) : ∀ (r0 : Int64) (σ0 : zS), f_X11_connectorMixed T N s0 a0 y1 x3 = some (r0, σ0) → Met l yX11_connectorMixed wsX11_connectorMixed ({ frames := 5, cells := 0, slots := 0, locals := 135 }) (va_Pc [.ref (ad a0), .long y1, .int x3] (zPre D cy T ad s0 sz)) (va_Ql (fun (r2 : Int64) (σ2 : zS) => r2 = r0 ∧ σ2 = σ0) (zAt D cy T ad (zA T ad sz)) (zA T ad sz)) 0 0 (zA T ad sz) := by
  intro r0 σ0 hq
  refine Met.ofW (cc := cX11_connectorMixed) (maxL := 8) (ret := (some .long)) (by decide) rfl ?_
  intro p e s m args below meth c s₁ B hml hv
  obtain ⟨hargs, hsz, hP, hK, hD0, hN⟩ := hv
  have hx := B.exec
  have hb := B.bytes
  have hr := B.returns
  have hts := atoms_spec (ws := wsX11_connectorMixed) B.pre
  have hown : s.vm.findClass RX11 = some m.cls := findClass_of_methodNamed B.named
  have hlocks := B.notSynchronized
  have S : CallFix p m c cX11_connectorMixed 8 s args wsX11_connectorMixed RX11 := ⟨hx, hb, hml, hown, hts⟩
  subst hsz
  have hB : zB D cy T ad (zA T ad s.heap.size) s.heap s0 s.heap [] s := zz_entry hP hK hD0 hN
  obtain ⟨ls, hent, hl⟩ := zz_ent m hargs (n := 8) (Nat.le_of_ble_eq_true rfl)
  rw [hent]
  have hl : lv_has ls 8 [(0, .ref (ad a0)), (1, .long y1), (3, .int x3)] := hl
  have iwX11 : ∀ w ∈ u_ws RX11 TX11 5, w ∈ wsX11_connectorMixed := by decide +kernel
  have iwX2 : ∀ w ∈ u_ws RX2 TX2 4, w ∈ wsX11_connectorMixed := by decide +kernel
  have lk0 : Cond.fieldLink RX11 10 "DiagramDesk" "now" "LDiagramDesk$Diagram;" ∈ wsX11_connectorMixed := by decide +kernel
  have lk1 : Cond.fieldLink RX11 89 "DiagramDesk$Diagram" "connectors" "LDiagramDesk$Connectors;" ∈ wsX11_connectorMixed := by decide +kernel
  have lk2 : Cond.fieldLink RX11 55 "DiagramDesk$Diagram" "shapes" "LDiagramDesk$Shapes;" ∈ wsX11_connectorMixed := by decide +kernel
  unfold f_X11_connectorMixed at hq
  refine zz_guard hq (fun hk0 hq => ?_)
  refine lv_aload_n hx hb dX11_connectorMixed_0 rfl (lv_at hl 0 rfl) ?_
  refine zz_getR S hT hB (C := RX11) (ref := "DiagramDesk") (F := TX11) (N := 5) (index := 10) 11 0 iwX11 rfl (by decide) (by decide) rfl rfl lk0 (fun _ h9 => h9) dX11_connectorMixed_1 hq (fun a6 hq => ?_)
  refine zz_getR S hT hB (C := RX2) (ref := "DiagramDesk$Diagram") (F := TX2) (N := 4) (index := 89) 2 1 iwX2 rfl (by decide) (by decide) rfl rfl lk1 (fun _ h9 => h9) dX11_connectorMixed_4 hq (fun a7 hq => ?_)
  refine lv_iload_n hx hb dX11_connectorMixed_7 rfl (lv_at hl 2 rfl) ?_
  refine zz_callVq S hT hB (As := [.int x3]) (b := a7) (o := f_X1_find T N s0 a7 x3) (c_X1_find l D cy T hT ad N s0 _ a7 x3) (cwV 1 hts gX11_connectorMixed_X1_find rfl rfl rfl (by decide +kernel) ⟨Nat.le_of_ble_eq_true rfl, Nat.le_of_ble_eq_true rfl⟩) (F := TX1) (NF := 2) 1 rfl (by decide) (k_X1_find T N s0 a7 x3) rfl hl.1 rfl (Nat.le_of_ble_eq_true rfl) dX11_connectorMixed_8 hq (fun s8 H locs hq hB => ?_) (fun a10 s8 H locs hq hB => ?_)
  · refine lv_astoreN (lv' := [(4, .null), (0, .ref (ad a0)), (1, .long y1), (3, .int x3)]) hx hb dX11_connectorMixed_11 hl (by decide) rfl (fun ls hl => ?_)
    refine lv_aloadN hx hb dX11_connectorMixed_13 (lv_at hl 0 rfl) ?_
    refine lv_ifnonnullN hx hb dX11_connectorMixed_15 ?_
    refine lv_lload_n hx hb dX11_connectorMixed_18 rfl (lv_at hl 2 rfl) ?_
    exact zz_lret S hB hr hlocks dX11_connectorMixed_19 hq
  · refine lv_astore (lv' := [(4, .ref (ad a10)), (0, .ref (ad a0)), (1, .long y1), (3, .int x3)]) hx hb dX11_connectorMixed_11 hl (by decide) rfl (fun ls hl => ?_)
    refine lv_aload hx hb dX11_connectorMixed_13 (lv_at hl 0 rfl) ?_
    refine lv_ifnonnull (tgt := 20) hx hb dX11_connectorMixed_15 (by decide) ?_
    refine lv_lload_n hx hb dX11_connectorMixed_20 rfl (lv_at hl 2 rfl) ?_
    refine lv_aload hx hb dX11_connectorMixed_21 (lv_at hl 0 rfl) ?_
    refine lv_aload_n hx hb dX11_connectorMixed_23 rfl (lv_at hl 1 rfl) ?_
    refine zz_getR S hT hB (C := RX11) (ref := "DiagramDesk") (F := TX11) (N := 5) (index := 10) 11 0 iwX11 rfl (by decide) (by decide) rfl rfl lk0 (fun _ h9 => h9) dX11_connectorMixed_24 hq (fun a11 hq => ?_)
    refine zz_getR S hT hB (C := RX2) (ref := "DiagramDesk$Diagram") (F := TX2) (N := 4) (index := 55) 2 0 iwX2 rfl (by decide) (by decide) rfl rfl lk2 (fun _ h9 => h9) dX11_connectorMixed_27 hq (fun a12 hq => ?_)
    refine zz_callVi S hT hB (As := [.ref (ad a12)]) (b := a10) (o := f_X0_extent T N s8 a10 a12) (c_X0_extent l D cy T hT ad N s8 _ a10 a12) (cwV 1 hts gX11_connectorMixed_X0_extent rfl rfl rfl (by decide +kernel) ⟨Nat.le_of_ble_eq_true rfl, Nat.le_of_ble_eq_true rfl⟩) (F := TX0) (NF := 5) 0 rfl (by decide) (k_X0_extent T N s8 a10 a12) rfl hl.1 rfl (Nat.le_of_ble_eq_true rfl) dX11_connectorMixed_30 hq (fun x14 s13 H locs hq hB => ?_)
    refine lv_i2l (v := (x14).toInt64) hx hb dX11_connectorMixed_33 rfl ?_
    refine zz_callSl S hT hB (As := [.long y1, .long ((x14).toInt64)]) (o := f_X11_mixed T N s13 y1 ((x14).toInt64)) (c_X11_mixed l D cy T hT ad N s13 _ y1 ((x14).toInt64)) (va_cwS 2 hts gX11_connectorMixed_X11_mixed rfl rfl rfl (by decide +kernel) ⟨Nat.le_of_ble_eq_true rfl, Nat.le_of_ble_eq_true rfl⟩) rfl hl.1 rfl (Nat.le_of_ble_eq_true rfl) dX11_connectorMixed_34 hq (fun y16 s15 H locs hq hB => ?_)
    refine lv_lstore (lv' := [(5, .long y16), (4, .ref (ad a10)), (0, .ref (ad a0)), (1, .long y1), (3, .int x3)]) hx hb dX11_connectorMixed_37 hl (by decide) rfl (fun ls hl => ?_)
    refine lv_lload hx hb dX11_connectorMixed_39 (lv_at hl 0 rfl) ?_
    refine lv_aload hx hb dX11_connectorMixed_41 (lv_at hl 1 rfl) ?_
    refine lv_aload_n hx hb dX11_connectorMixed_43 rfl (lv_at hl 2 rfl) ?_
    refine zz_getR S hT hB (C := RX11) (ref := "DiagramDesk") (F := TX11) (N := 5) (index := 10) 11 0 iwX11 rfl (by decide) (by decide) rfl rfl lk0 (fun _ h9 => h9) dX11_connectorMixed_44 hq (fun a17 hq => ?_)
    refine zz_getR S hT hB (C := RX2) (ref := "DiagramDesk$Diagram") (F := TX2) (N := 4) (index := 55) 2 0 iwX2 rfl (by decide) (by decide) rfl rfl lk2 (fun _ h9 => h9) dX11_connectorMixed_47 hq (fun a18 hq => ?_)
    refine zz_callVi S hT hB (As := [.ref (ad a18)]) (b := a10) (o := f_X0_crossed T N s15 a10 a18) (c_X0_crossed l D cy T hT ad N s15 _ a10 a18) (cwV 1 hts gX11_connectorMixed_X0_crossed rfl rfl rfl (by decide +kernel) ⟨Nat.le_of_ble_eq_true rfl, Nat.le_of_ble_eq_true rfl⟩) (F := TX0) (NF := 5) 0 rfl (by decide) (k_X0_crossed T N s15 a10 a18) rfl hl.1 rfl (Nat.le_of_ble_eq_true rfl) dX11_connectorMixed_50 hq (fun x20 s19 H locs hq hB => ?_)
    refine lv_i2l (v := (x20).toInt64) hx hb dX11_connectorMixed_53 rfl ?_
    refine zz_callSl S hT hB (As := [.long y16, .long ((x20).toInt64)]) (o := f_X11_mixed T N s19 y16 ((x20).toInt64)) (c_X11_mixed l D cy T hT ad N s19 _ y16 ((x20).toInt64)) (va_cwS 2 hts gX11_connectorMixed_X11_mixed rfl rfl rfl (by decide +kernel) ⟨Nat.le_of_ble_eq_true rfl, Nat.le_of_ble_eq_true rfl⟩) rfl hl.1 rfl (Nat.le_of_ble_eq_true rfl) dX11_connectorMixed_54 hq (fun y22 s21 H locs hq hB => ?_)
    refine lv_lstore (lv' := [(5, .long y22), (4, .ref (ad a10)), (0, .ref (ad a0)), (1, .long y1), (3, .int x3)]) hx hb dX11_connectorMixed_57 hl (by decide) rfl (fun ls hl => ?_)
    refine lv_iconst (v := 0) hx hb dX11_connectorMixed_59 (by decide) ?_
    refine lv_istore (lv' := [(7, .int (0 : Int32)), (5, .long y22), (4, .ref (ad a10)), (0, .ref (ad a0)), (1, .long y1), (3, .int x3)]) hx hb dX11_connectorMixed_60 hl (by decide) rfl (fun ls hl => ?_)
    have L62 : ∀ (n : Nat) (y23 : Int64) (x24 : Int32) (s25 : zS) (H : Heap) (locs : List Loc) (ls : Array Slot), zl3 (f_X11_connectorMixed_L62 T N a0 a10) n y23 x24 s25 = some (r0, σ0) → zB D cy T ad (zA T ad s.heap.size) s.heap s25 H locs s → lv_has ls 8 [(0, .ref (ad a0)), (4, .ref (ad a10)), (5, .long y23), (7, .int x24)] → W p l e (headSpec wsX11_connectorMixed ({ frames := 5, cells := 0, slots := 0, locals := 135 } : Room)).room s m args below meth c H locs 0 0 (MQ below (va_Ql (fun (r2 : Int64) (σ2 : zS) => r2 = r0 ∧ σ2 = σ0) (zAt D cy T ad (zA T ad s.heap.size)) (zA T ad s.heap.size)) args s 0 0 (zA T ad s.heap.size)) (F0 m 62 ls []) := by
      intro n
      induction n with
      | zero => intro y23 x24 s25 H locs ls hq; exact zz_none hq
      | succ n ih62 =>
        intro y23 x24 s25 H locs ls hq hB hl
        rw [zl3] at hq
        generalize zl3 (f_X11_connectorMixed_L62 T N a0 a10) n = k62 at ih62 hq
        unfold f_X11_connectorMixed_L62 at hq
        refine lv_iload hx hb dX11_connectorMixed_62 (lv_at hl 3 rfl) ?_
        refine lv_aload hx hb dX11_connectorMixed_64 (lv_at hl 1 rfl) ?_
        refine zz_callVi S hT hB (As := []) (b := a10) (o := f_X0_lastPoint T N s25 a10) (c_X0_lastPoint l D cy T hT ad N s25 _ a10) (cwV 0 hts gX11_connectorMixed_X0_lastPoint rfl rfl rfl (by decide +kernel) ⟨Nat.le_of_ble_eq_true rfl, Nat.le_of_ble_eq_true rfl⟩) (F := TX0) (NF := 5) 0 rfl (by decide) (k_X0_lastPoint T N s25 a10) rfl hl.1 rfl (Nat.le_of_ble_eq_true rfl) dX11_connectorMixed_66 hq (fun x27 s26 H locs hq hB => ?_)
        refine zz_icmp_gt (tgt := 124) hx hb dX11_connectorMixed_69 (by decide) hq (fun hq => ?_) (fun hq => ?_)
        · refine lv_lload hx hb dX11_connectorMixed_124 (lv_at hl 2 rfl) ?_
          exact zz_lret S hB hr hlocks dX11_connectorMixed_126 hq
        · refine lv_lload hx hb dX11_connectorMixed_72 (lv_at hl 2 rfl) ?_
          refine lv_aload hx hb dX11_connectorMixed_74 (lv_at hl 1 rfl) ?_
          refine lv_aload_n hx hb dX11_connectorMixed_76 rfl (lv_at hl 0 rfl) ?_
          refine zz_getR S hT hB (C := RX11) (ref := "DiagramDesk") (F := TX11) (N := 5) (index := 10) 11 0 iwX11 rfl (by decide) (by decide) rfl rfl lk0 (fun _ h9 => h9) dX11_connectorMixed_77 hq (fun a28 hq => ?_)
          refine zz_getR S hT hB (C := RX2) (ref := "DiagramDesk$Diagram") (F := TX2) (N := 4) (index := 55) 2 0 iwX2 rfl (by decide) (by decide) rfl rfl lk2 (fun _ h9 => h9) dX11_connectorMixed_80 hq (fun a29 hq => ?_)
          refine lv_iload hx hb dX11_connectorMixed_83 (lv_at hl 3 rfl) ?_
          refine lv_iconst (v := 0) hx hb dX11_connectorMixed_85 (by decide) ?_
          refine zz_callVi S hT hB (As := [.ref (ad a29), .int x24, .int (0 : Int32)]) (b := a10) (o := f_X0_place T N s26 a10 a29 x24 (0 : Int32)) (c_X0_place l D cy T hT ad N s26 _ a10 a29 x24 (0 : Int32)) (cwV 3 hts gX11_connectorMixed_X0_place rfl rfl rfl (by decide +kernel) ⟨Nat.le_of_ble_eq_true rfl, Nat.le_of_ble_eq_true rfl⟩) (F := TX0) (NF := 5) 0 rfl (by decide) (k_X0_place T N s26 a10 a29 x24 (0 : Int32)) rfl hl.1 rfl (Nat.le_of_ble_eq_true rfl) dX11_connectorMixed_86 hq (fun x31 s30 H locs hq hB => ?_)
          refine lv_i2l (v := (x31).toInt64) hx hb dX11_connectorMixed_89 rfl ?_
          refine zz_callSl S hT hB (As := [.long y23, .long ((x31).toInt64)]) (o := f_X11_mixed T N s30 y23 ((x31).toInt64)) (c_X11_mixed l D cy T hT ad N s30 _ y23 ((x31).toInt64)) (va_cwS 2 hts gX11_connectorMixed_X11_mixed rfl rfl rfl (by decide +kernel) ⟨Nat.le_of_ble_eq_true rfl, Nat.le_of_ble_eq_true rfl⟩) rfl hl.1 rfl (Nat.le_of_ble_eq_true rfl) dX11_connectorMixed_90 hq (fun y33 s32 H locs hq hB => ?_)
          refine lv_lstore (lv' := [(5, .long y33), (0, .ref (ad a0)), (4, .ref (ad a10)), (7, .int x24)]) hx hb dX11_connectorMixed_93 hl (by decide) rfl (fun ls hl => ?_)
          refine lv_lload hx hb dX11_connectorMixed_95 (lv_at hl 0 rfl) ?_
          refine lv_aload hx hb dX11_connectorMixed_97 (lv_at hl 2 rfl) ?_
          refine lv_aload_n hx hb dX11_connectorMixed_99 rfl (lv_at hl 1 rfl) ?_
          refine zz_getR S hT hB (C := RX11) (ref := "DiagramDesk") (F := TX11) (N := 5) (index := 10) 11 0 iwX11 rfl (by decide) (by decide) rfl rfl lk0 (fun _ h9 => h9) dX11_connectorMixed_100 hq (fun a34 hq => ?_)
          refine zz_getR S hT hB (C := RX2) (ref := "DiagramDesk$Diagram") (F := TX2) (N := 4) (index := 55) 2 0 iwX2 rfl (by decide) (by decide) rfl rfl lk2 (fun _ h9 => h9) dX11_connectorMixed_103 hq (fun a35 hq => ?_)
          refine lv_iload hx hb dX11_connectorMixed_106 (lv_at hl 3 rfl) ?_
          refine lv_iconst (v := 1) hx hb dX11_connectorMixed_108 (by decide) ?_
          refine zz_callVi S hT hB (As := [.ref (ad a35), .int x24, .int (1 : Int32)]) (b := a10) (o := f_X0_place T N s32 a10 a35 x24 (1 : Int32)) (c_X0_place l D cy T hT ad N s32 _ a10 a35 x24 (1 : Int32)) (cwV 3 hts gX11_connectorMixed_X0_place rfl rfl rfl (by decide +kernel) ⟨Nat.le_of_ble_eq_true rfl, Nat.le_of_ble_eq_true rfl⟩) (F := TX0) (NF := 5) 0 rfl (by decide) (k_X0_place T N s32 a10 a35 x24 (1 : Int32)) rfl hl.1 rfl (Nat.le_of_ble_eq_true rfl) dX11_connectorMixed_109 hq (fun x37 s36 H locs hq hB => ?_)
          refine lv_i2l (v := (x37).toInt64) hx hb dX11_connectorMixed_112 rfl ?_
          refine zz_callSl S hT hB (As := [.long y33, .long ((x37).toInt64)]) (o := f_X11_mixed T N s36 y33 ((x37).toInt64)) (c_X11_mixed l D cy T hT ad N s36 _ y33 ((x37).toInt64)) (va_cwS 2 hts gX11_connectorMixed_X11_mixed rfl rfl rfl (by decide +kernel) ⟨Nat.le_of_ble_eq_true rfl, Nat.le_of_ble_eq_true rfl⟩) rfl hl.1 rfl (Nat.le_of_ble_eq_true rfl) dX11_connectorMixed_113 hq (fun y39 s38 H locs hq hB => ?_)
          refine lv_lstore (lv' := [(5, .long y39), (0, .ref (ad a0)), (4, .ref (ad a10)), (7, .int x24)]) hx hb dX11_connectorMixed_116 hl (by decide) rfl (fun ls hl => ?_)
          refine zz_nmV hq (fun x40 ex40 hq => ?_)
          refine lv_iinc (v := x40) (lv' := [(7, .int x40), (5, .long y39), (0, .ref (ad a0)), (4, .ref (ad a10))]) hx hb dX11_connectorMixed_118 hl (k := 3) rfl (by rw [ex40]; rfl) (by decide) rfl (fun ls hl => ?_)
          refine lv_goto (tgt := 62) hx hb dX11_connectorMixed_121 (by decide) ?_
          exact ih62 y39 x40 s38 _ _ _ hq hB (lv_sub hl [2, 3, 1, 0] rfl)
    exact L62 N y22 (0 : Int32) s21 _ _ _ hq hB (lv_sub hl [3, 2, 1, 0] rfl)
def f_X11_fingerprint_L86 (T : zT) (N : Nat) (a0 : Nat) (k86 : Int64 → Int32 → zS → Option (Int64 × zS)) (y17 : Int64) (x18 : Int32) (s19 : zS) : Option (Int64 × zS) :=
  if (8 : Int32) ≤ x18 then (
    some (y17, s19))
  else (
    (gR T s19 a0 11 0).bind fun a20 =>
    (gR T s19 a20 2 2).bind fun a21 =>
    zb2 (f_X3_has T N s19 a21 x18) fun x23 s22 =>
    if x23 = 0 then (
      zn (x18 + (1 : Int32)) fun x24 =>
      k86 y17 x24 s22)
    else (
      zb2 (f_X11_mixed T N s22 y17 ((x18).toInt64)) fun y26 s25 =>
      (gR T s25 a0 11 0).bind fun a27 =>
      zb2 (f_X2_shapesIn T N s25 a27 x18) fun x29 s28 =>
      zb2 (f_X11_mixed T N s28 y26 ((x29).toInt64)) fun y31 s30 =>
      zn (x18 + (1 : Int32)) fun x32 =>
      k86 y31 x32 s30))
def f_X11_fingerprint_L57 (T : zT) (N : Nat) (a0 : Nat) (k57 : Int64 → Int32 → zS → Option (Int64 × zS)) (y11 : Int64) (x12 : Int32) (s13 : zS) : Option (Int64 × zS) :=
  (gR T s13 a0 11 0).bind fun a14 =>
  (gR T s13 a14 2 1).bind fun a15 =>
  (gI T s13 a15 1 1).bind fun x16 =>
  if x16 ≤ x12 then (
    zl3 (f_X11_fingerprint_L86 T N a0) N y11 (0 : Int32) s13)
  else (
    zb2 (f_X11_connectorMixed T N s13 a0 y11 x12) fun y34 s33 =>
    zn (x12 + (1 : Int32)) fun x35 =>
    k57 y34 x35 s33)
def f_X11_fingerprint_L6 (T : zT) (N : Nat) (a0 : Nat) (k6 : Int64 → Int32 → zS → Option (Int64 × zS)) (y3 : Int64) (x4 : Int32) (s5 : zS) : Option (Int64 × zS) :=
  if (20 : Int32) ≤ x4 then (
    (gR T s5 a0 11 0).bind fun a6 =>
    (gR T s5 a6 2 1).bind fun a7 =>
    (gI T s5 a7 1 1).bind fun x8 =>
    zb2 (f_X11_mixed T N s5 y3 ((x8).toInt64)) fun y10 s9 =>
    zl3 (f_X11_fingerprint_L57 T N a0) N y10 (0 : Int32) s9)
  else (
    (gR T s5 a0 11 0).bind fun a36 =>
    (gR T s5 a36 2 0).bind fun a37 =>
    zb2 (f_X7_find T N s5 a37 x4) fun o39 s38 => zo o39 (
      zn (x4 + (1 : Int32)) fun x41 =>
      k6 y3 x41 s38)
    fun a40 => (
      zb2 (f_X11_shapeMixed T N s38 a0 y3 x4) fun y43 s42 =>
      zn (x4 + (1 : Int32)) fun x44 =>
      k6 y43 x44 s42))
def f_X11_fingerprint (T : zT) (N : Nat) (s0 : zS) (a0 : Nat) : Option (Int64 × zS) :=
  zz1 (T.1 a0 = 11) <|
  zl3 (f_X11_fingerprint_L6 T N a0) N (89 : Int64) (0 : Int32) s0
theorem k_X11_fingerprint (T : zT) (N : Nat) (s0 : zS) (a0 : Nat) : ∀ q, f_X11_fingerprint T N s0 a0 = some q → T.1 a0 = 11 := by
  intro q h
  unfold f_X11_fingerprint at h
  exact zz_guard h (fun h _ => h)
set_option maxHeartbeats 4000000 in
set_option maxRecDepth 100000 in
theorem c_X11_fingerprint (l : Launch) (D : va_G) (cy : Nat → ClassId) (T : zT) (hT : zok T) (ad : Nat → Nat) (N : Nat) (s0 : zS) (sz : Nat) (a0 : Nat) : ∀ (r0 : Int64) (σ0 : zS), f_X11_fingerprint T N s0 a0 = some (r0, σ0) → Met l yX11_fingerprint wsX11_fingerprint ({ frames := 6, cells := 0, slots := 0, locals := 162 }) (va_Pc [.ref (ad a0)] (zPre D cy T ad s0 sz)) (va_Ql (fun (r2 : Int64) (σ2 : zS) => r2 = r0 ∧ σ2 = σ0) (zAt D cy T ad (zA T ad sz)) (zA T ad sz)) 0 0 (zA T ad sz) := by
  intro r0 σ0 hq
  refine Met.ofW (cc := cX11_fingerprint) (maxL := 4) (ret := (some .long)) (by decide) rfl ?_
  intro p e s m args below meth c s₁ B hml hv
  obtain ⟨hargs, hsz, hP, hK, hD0, hN⟩ := hv
  have hx := B.exec
  have hb := B.bytes
  have hr := B.returns
  have hts := atoms_spec (ws := wsX11_fingerprint) B.pre
  have hown : s.vm.findClass RX11 = some m.cls := findClass_of_methodNamed B.named
  have hlocks := B.notSynchronized
  have S : CallFix p m c cX11_fingerprint 4 s args wsX11_fingerprint RX11 := ⟨hx, hb, hml, hown, hts⟩
  subst hsz
  have hB : zB D cy T ad (zA T ad s.heap.size) s.heap s0 s.heap [] s := zz_entry hP hK hD0 hN
  obtain ⟨ls, hent, hl⟩ := zz_ent m hargs (n := 4) (Nat.le_of_ble_eq_true rfl)
  rw [hent]
  have hl : lv_has ls 4 [(0, .ref (ad a0))] := hl
  have iwX11 : ∀ w ∈ u_ws RX11 TX11 5, w ∈ wsX11_fingerprint := by decide +kernel
  have iwX2 : ∀ w ∈ u_ws RX2 TX2 4, w ∈ wsX11_fingerprint := by decide +kernel
  have iwX1 : ∀ w ∈ u_ws RX1 TX1 2, w ∈ wsX11_fingerprint := by decide +kernel
  have lk0 : Cond.constantLong RX11 283 (89) ∈ wsX11_fingerprint := by decide +kernel
  have lk1 : Cond.fieldLink RX11 10 "DiagramDesk" "now" "LDiagramDesk$Diagram;" ∈ wsX11_fingerprint := by decide +kernel
  have lk2 : Cond.fieldLink RX11 89 "DiagramDesk$Diagram" "connectors" "LDiagramDesk$Connectors;" ∈ wsX11_fingerprint := by decide +kernel
  have lk3 : Cond.fieldLink RX11 153 "DiagramDesk$Connectors" "count" "I" ∈ wsX11_fingerprint := by decide +kernel
  have lk4 : Cond.fieldLink RX11 121 "DiagramDesk$Diagram" "groups" "LDiagramDesk$Groups;" ∈ wsX11_fingerprint := by decide +kernel
  have lk5 : Cond.fieldLink RX11 55 "DiagramDesk$Diagram" "shapes" "LDiagramDesk$Shapes;" ∈ wsX11_fingerprint := by decide +kernel
  unfold f_X11_fingerprint at hq
  refine zz_guard hq (fun hk0 hq => ?_)
  refine lv_ldc2 (v := 89) hx hb hown (hts _ lk0) dX11_fingerprint_0 ?_
  refine lv_lstore_n (lv' := [(1, .long (89 : Int64)), (0, .ref (ad a0))]) hx hb dX11_fingerprint_3 rfl hl (by decide) rfl (fun ls hl => ?_)
  refine lv_iconst (v := 0) hx hb dX11_fingerprint_4 (by decide) ?_
  refine lv_istore_n (lv' := [(3, .int (0 : Int32)), (1, .long (89 : Int64)), (0, .ref (ad a0))]) hx hb dX11_fingerprint_5 rfl hl (by decide) rfl (fun ls hl => ?_)
  have L6 : ∀ (n : Nat) (y3 : Int64) (x4 : Int32) (s5 : zS) (H : Heap) (locs : List Loc) (ls : Array Slot), zl3 (f_X11_fingerprint_L6 T N a0) n y3 x4 s5 = some (r0, σ0) → zB D cy T ad (zA T ad s.heap.size) s.heap s5 H locs s → lv_has ls 4 [(0, .ref (ad a0)), (1, .long y3), (3, .int x4)] → W p l e (headSpec wsX11_fingerprint ({ frames := 6, cells := 0, slots := 0, locals := 162 } : Room)).room s m args below meth c H locs 0 0 (MQ below (va_Ql (fun (r2 : Int64) (σ2 : zS) => r2 = r0 ∧ σ2 = σ0) (zAt D cy T ad (zA T ad s.heap.size)) (zA T ad s.heap.size)) args s 0 0 (zA T ad s.heap.size)) (F0 m 6 ls []) := by
    intro n
    induction n with
    | zero => intro y3 x4 s5 H locs ls hq; exact zz_none hq
    | succ n ih6 =>
      intro y3 x4 s5 H locs ls hq hB hl
      rw [zl3] at hq
      generalize zl3 (f_X11_fingerprint_L6 T N a0) n = k6 at ih6 hq
      unfold f_X11_fingerprint_L6 at hq
      refine lv_iload_n hx hb dX11_fingerprint_6 rfl (lv_at hl 2 rfl) ?_
      refine lv_bipush (v := 20) hx hb dX11_fingerprint_7 (by decide) ?_
      refine zz_icmp_ge (tgt := 39) hx hb dX11_fingerprint_9 (by decide) hq (fun hq => ?_) (fun hq => ?_)
      · refine lv_lload_n hx hb dX11_fingerprint_39 rfl (lv_at hl 1 rfl) ?_
        refine lv_aload_n hx hb dX11_fingerprint_40 rfl (lv_at hl 0 rfl) ?_
        refine zz_getR S hT hB (C := RX11) (ref := "DiagramDesk") (F := TX11) (N := 5) (index := 10) 11 0 iwX11 rfl (by decide) (by decide) rfl rfl lk1 (fun _ h9 => h9) dX11_fingerprint_41 hq (fun a6 hq => ?_)
        refine zz_getR S hT hB (C := RX2) (ref := "DiagramDesk$Diagram") (F := TX2) (N := 4) (index := 89) 2 1 iwX2 rfl (by decide) (by decide) rfl rfl lk2 (fun _ h9 => h9) dX11_fingerprint_44 hq (fun a7 hq => ?_)
        refine zz_get S hT hB (C := RX1) (ref := "DiagramDesk$Connectors") (F := TX1) (N := 2) (index := 153) 1 1 iwX1 rfl (by decide) (by decide) rfl rfl lk3 (fun _ h9 => h9) dX11_fingerprint_47 hq (fun x8 hq => ?_)
        refine lv_i2l (v := (x8).toInt64) hx hb dX11_fingerprint_50 rfl ?_
        refine zz_callSl S hT hB (As := [.long y3, .long ((x8).toInt64)]) (o := f_X11_mixed T N s5 y3 ((x8).toInt64)) (c_X11_mixed l D cy T hT ad N s5 _ y3 ((x8).toInt64)) (va_cwS 2 hts gX11_fingerprint_X11_mixed rfl rfl rfl (by decide +kernel) ⟨Nat.le_of_ble_eq_true rfl, Nat.le_of_ble_eq_true rfl⟩) rfl hl.1 rfl (Nat.le_of_ble_eq_true rfl) dX11_fingerprint_51 hq (fun y10 s9 H locs hq hB => ?_)
        refine lv_lstore_n (lv' := [(1, .long y10), (0, .ref (ad a0)), (3, .int x4)]) hx hb dX11_fingerprint_54 rfl hl (by decide) rfl (fun ls hl => ?_)
        refine lv_iconst (v := 0) hx hb dX11_fingerprint_55 (by decide) ?_
        refine lv_istore_n (lv' := [(3, .int (0 : Int32)), (1, .long y10), (0, .ref (ad a0))]) hx hb dX11_fingerprint_56 rfl hl (by decide) rfl (fun ls hl => ?_)
        have L57 : ∀ (n : Nat) (y11 : Int64) (x12 : Int32) (s13 : zS) (H : Heap) (locs : List Loc) (ls : Array Slot), zl3 (f_X11_fingerprint_L57 T N a0) n y11 x12 s13 = some (r0, σ0) → zB D cy T ad (zA T ad s.heap.size) s.heap s13 H locs s → lv_has ls 4 [(0, .ref (ad a0)), (1, .long y11), (3, .int x12)] → W p l e (headSpec wsX11_fingerprint ({ frames := 6, cells := 0, slots := 0, locals := 162 } : Room)).room s m args below meth c H locs 0 0 (MQ below (va_Ql (fun (r2 : Int64) (σ2 : zS) => r2 = r0 ∧ σ2 = σ0) (zAt D cy T ad (zA T ad s.heap.size)) (zA T ad s.heap.size)) args s 0 0 (zA T ad s.heap.size)) (F0 m 57 ls []) := by
          intro n
          induction n with
          | zero => intro y11 x12 s13 H locs ls hq; exact zz_none hq
          | succ n ih57 =>
            intro y11 x12 s13 H locs ls hq hB hl
            rw [zl3] at hq
            generalize zl3 (f_X11_fingerprint_L57 T N a0) n = k57 at ih57 hq
            unfold f_X11_fingerprint_L57 at hq
            refine lv_iload_n hx hb dX11_fingerprint_57 rfl (lv_at hl 2 rfl) ?_
            refine lv_aload_n hx hb dX11_fingerprint_58 rfl (lv_at hl 0 rfl) ?_
            refine zz_getR S hT hB (C := RX11) (ref := "DiagramDesk") (F := TX11) (N := 5) (index := 10) 11 0 iwX11 rfl (by decide) (by decide) rfl rfl lk1 (fun _ h9 => h9) dX11_fingerprint_59 hq (fun a14 hq => ?_)
            refine zz_getR S hT hB (C := RX2) (ref := "DiagramDesk$Diagram") (F := TX2) (N := 4) (index := 89) 2 1 iwX2 rfl (by decide) (by decide) rfl rfl lk2 (fun _ h9 => h9) dX11_fingerprint_62 hq (fun a15 hq => ?_)
            refine zz_get S hT hB (C := RX1) (ref := "DiagramDesk$Connectors") (F := TX1) (N := 2) (index := 153) 1 1 iwX1 rfl (by decide) (by decide) rfl rfl lk3 (fun _ h9 => h9) dX11_fingerprint_65 hq (fun x16 hq => ?_)
            refine zz_icmp_ge (tgt := 84) hx hb dX11_fingerprint_68 (by decide) hq (fun hq => ?_) (fun hq => ?_)
            · refine lv_iconst (v := 0) hx hb dX11_fingerprint_84 (by decide) ?_
              refine lv_istore_n (lv' := [(3, .int (0 : Int32)), (0, .ref (ad a0)), (1, .long y11)]) hx hb dX11_fingerprint_85 rfl hl (by decide) rfl (fun ls hl => ?_)
              have L86 : ∀ (n : Nat) (y17 : Int64) (x18 : Int32) (s19 : zS) (H : Heap) (locs : List Loc) (ls : Array Slot), zl3 (f_X11_fingerprint_L86 T N a0) n y17 x18 s19 = some (r0, σ0) → zB D cy T ad (zA T ad s.heap.size) s.heap s19 H locs s → lv_has ls 4 [(0, .ref (ad a0)), (1, .long y17), (3, .int x18)] → W p l e (headSpec wsX11_fingerprint ({ frames := 6, cells := 0, slots := 0, locals := 162 } : Room)).room s m args below meth c H locs 0 0 (MQ below (va_Ql (fun (r2 : Int64) (σ2 : zS) => r2 = r0 ∧ σ2 = σ0) (zAt D cy T ad (zA T ad s.heap.size)) (zA T ad s.heap.size)) args s 0 0 (zA T ad s.heap.size)) (F0 m 86 ls []) := by
                intro n
                induction n with
                | zero => intro y17 x18 s19 H locs ls hq; exact zz_none hq
                | succ n ih86 =>
                  intro y17 x18 s19 H locs ls hq hB hl
                  rw [zl3] at hq
                  generalize zl3 (f_X11_fingerprint_L86 T N a0) n = k86 at ih86 hq
                  unfold f_X11_fingerprint_L86 at hq
                  refine lv_iload_n hx hb dX11_fingerprint_86 rfl (lv_at hl 2 rfl) ?_
                  refine lv_bipush (v := 8) hx hb dX11_fingerprint_87 (by decide) ?_
                  refine zz_icmp_ge (tgt := 131) hx hb dX11_fingerprint_89 (by decide) hq (fun hq => ?_) (fun hq => ?_)
                  · refine lv_lload_n hx hb dX11_fingerprint_131 rfl (lv_at hl 1 rfl) ?_
                    exact zz_lret S hB hr hlocks dX11_fingerprint_132 hq
                  · refine lv_aload_n hx hb dX11_fingerprint_92 rfl (lv_at hl 0 rfl) ?_
                    refine zz_getR S hT hB (C := RX11) (ref := "DiagramDesk") (F := TX11) (N := 5) (index := 10) 11 0 iwX11 rfl (by decide) (by decide) rfl rfl lk1 (fun _ h9 => h9) dX11_fingerprint_93 hq (fun a20 hq => ?_)
                    refine zz_getR S hT hB (C := RX2) (ref := "DiagramDesk$Diagram") (F := TX2) (N := 4) (index := 121) 2 2 iwX2 rfl (by decide) (by decide) rfl rfl lk4 (fun _ h9 => h9) dX11_fingerprint_96 hq (fun a21 hq => ?_)
                    refine lv_iload_n hx hb dX11_fingerprint_99 rfl (lv_at hl 2 rfl) ?_
                    refine zz_callVi S hT hB (As := [.int x18]) (b := a21) (o := f_X3_has T N s19 a21 x18) (c_X3_has l D cy T hT ad N s19 _ a21 x18) (cwV 1 hts gX11_fingerprint_X3_has rfl rfl rfl (by decide +kernel) ⟨Nat.le_of_ble_eq_true rfl, Nat.le_of_ble_eq_true rfl⟩) (F := TX3) (NF := 2) 3 rfl (by decide) (k_X3_has T N s19 a21 x18) rfl hl.1 rfl (Nat.le_of_ble_eq_true rfl) dX11_fingerprint_100 hq (fun x23 s22 H locs hq hB => ?_)
                    refine zz_if_eq (tgt := 125) hx hb dX11_fingerprint_103 (by decide) hq (fun hq => ?_) (fun hq => ?_)
                    · refine zz_nmV hq (fun x24 ex24 hq => ?_)
                      refine lv_iinc (v := x24) (lv' := [(3, .int x24), (0, .ref (ad a0)), (1, .long y17)]) hx hb dX11_fingerprint_125 hl (k := 2) rfl (by rw [ex24]; rfl) (by decide) rfl (fun ls hl => ?_)
                      refine lv_goto (tgt := 86) hx hb dX11_fingerprint_128 (by decide) ?_
                      exact ih86 y17 x24 s22 _ _ _ hq hB (lv_sub hl [1, 2, 0] rfl)
                    · refine lv_lload_n hx hb dX11_fingerprint_106 rfl (lv_at hl 1 rfl) ?_
                      refine lv_iload_n hx hb dX11_fingerprint_107 rfl (lv_at hl 2 rfl) ?_
                      refine lv_i2l (v := (x18).toInt64) hx hb dX11_fingerprint_108 rfl ?_
                      refine zz_callSl S hT hB (As := [.long y17, .long ((x18).toInt64)]) (o := f_X11_mixed T N s22 y17 ((x18).toInt64)) (c_X11_mixed l D cy T hT ad N s22 _ y17 ((x18).toInt64)) (va_cwS 2 hts gX11_fingerprint_X11_mixed rfl rfl rfl (by decide +kernel) ⟨Nat.le_of_ble_eq_true rfl, Nat.le_of_ble_eq_true rfl⟩) rfl hl.1 rfl (Nat.le_of_ble_eq_true rfl) dX11_fingerprint_109 hq (fun y26 s25 H locs hq hB => ?_)
                      refine lv_aload_n hx hb dX11_fingerprint_112 rfl (lv_at hl 0 rfl) ?_
                      refine zz_getR S hT hB (C := RX11) (ref := "DiagramDesk") (F := TX11) (N := 5) (index := 10) 11 0 iwX11 rfl (by decide) (by decide) rfl rfl lk1 (fun _ h9 => h9) dX11_fingerprint_113 hq (fun a27 hq => ?_)
                      refine lv_iload_n hx hb dX11_fingerprint_116 rfl (lv_at hl 2 rfl) ?_
                      refine zz_callVi S hT hB (As := [.int x18]) (b := a27) (o := f_X2_shapesIn T N s25 a27 x18) (c_X2_shapesIn l D cy T hT ad N s25 _ a27 x18) (cwV 1 hts gX11_fingerprint_X2_shapesIn rfl rfl rfl (by decide +kernel) ⟨Nat.le_of_ble_eq_true rfl, Nat.le_of_ble_eq_true rfl⟩) (F := TX2) (NF := 4) 2 rfl (by decide) (k_X2_shapesIn T N s25 a27 x18) rfl hl.1 rfl (Nat.le_of_ble_eq_true rfl) dX11_fingerprint_117 hq (fun x29 s28 H locs hq hB => ?_)
                      refine lv_i2l (v := (x29).toInt64) hx hb dX11_fingerprint_120 rfl ?_
                      refine zz_callSl S hT hB (As := [.long y26, .long ((x29).toInt64)]) (o := f_X11_mixed T N s28 y26 ((x29).toInt64)) (c_X11_mixed l D cy T hT ad N s28 _ y26 ((x29).toInt64)) (va_cwS 2 hts gX11_fingerprint_X11_mixed rfl rfl rfl (by decide +kernel) ⟨Nat.le_of_ble_eq_true rfl, Nat.le_of_ble_eq_true rfl⟩) rfl hl.1 rfl (Nat.le_of_ble_eq_true rfl) dX11_fingerprint_121 hq (fun y31 s30 H locs hq hB => ?_)
                      refine lv_lstore_n (lv' := [(1, .long y31), (0, .ref (ad a0)), (3, .int x18)]) hx hb dX11_fingerprint_124 rfl hl (by decide) rfl (fun ls hl => ?_)
                      refine zz_nmV hq (fun x32 ex32 hq => ?_)
                      refine lv_iinc (v := x32) (lv' := [(3, .int x32), (1, .long y31), (0, .ref (ad a0))]) hx hb dX11_fingerprint_125 hl (k := 2) rfl (by rw [ex32]; rfl) (by decide) rfl (fun ls hl => ?_)
                      refine lv_goto (tgt := 86) hx hb dX11_fingerprint_128 (by decide) ?_
                      exact ih86 y31 x32 s30 _ _ _ hq hB (lv_sub hl [2, 1, 0] rfl)
              exact L86 N y11 (0 : Int32) s13 _ _ _ hq hB (lv_sub hl [1, 2, 0] rfl)
            · refine lv_aload_n hx hb dX11_fingerprint_71 rfl (lv_at hl 0 rfl) ?_
              refine lv_lload_n hx hb dX11_fingerprint_72 rfl (lv_at hl 1 rfl) ?_
              refine lv_iload_n hx hb dX11_fingerprint_73 rfl (lv_at hl 2 rfl) ?_
              refine zz_callVl S hT hB (As := [.long y11, .int x12]) (b := a0) (o := f_X11_connectorMixed T N s13 a0 y11 x12) (c_X11_connectorMixed l D cy T hT ad N s13 _ a0 y11 x12) (cwV 2 hts gX11_fingerprint_X11_connectorMixed rfl rfl rfl (by decide +kernel) ⟨Nat.le_of_ble_eq_true rfl, Nat.le_of_ble_eq_true rfl⟩) (F := TX11) (NF := 5) 11 rfl (by decide) (k_X11_connectorMixed T N s13 a0 y11 x12) rfl hl.1 rfl (Nat.le_of_ble_eq_true rfl) dX11_fingerprint_74 hq (fun y34 s33 H locs hq hB => ?_)
              refine lv_lstore_n (lv' := [(1, .long y34), (0, .ref (ad a0)), (3, .int x12)]) hx hb dX11_fingerprint_77 rfl hl (by decide) rfl (fun ls hl => ?_)
              refine zz_nmV hq (fun x35 ex35 hq => ?_)
              refine lv_iinc (v := x35) (lv' := [(3, .int x35), (1, .long y34), (0, .ref (ad a0))]) hx hb dX11_fingerprint_78 hl (k := 2) rfl (by rw [ex35]; rfl) (by decide) rfl (fun ls hl => ?_)
              refine lv_goto (tgt := 57) hx hb dX11_fingerprint_81 (by decide) ?_
              exact ih57 y34 x35 s33 _ _ _ hq hB (lv_sub hl [2, 1, 0] rfl)
        exact L57 N y10 (0 : Int32) s9 _ _ _ hq hB (lv_sub hl [2, 1, 0] rfl)
      · refine lv_aload_n hx hb dX11_fingerprint_12 rfl (lv_at hl 0 rfl) ?_
        refine zz_getR S hT hB (C := RX11) (ref := "DiagramDesk") (F := TX11) (N := 5) (index := 10) 11 0 iwX11 rfl (by decide) (by decide) rfl rfl lk1 (fun _ h9 => h9) dX11_fingerprint_13 hq (fun a36 hq => ?_)
        refine zz_getR S hT hB (C := RX2) (ref := "DiagramDesk$Diagram") (F := TX2) (N := 4) (index := 55) 2 0 iwX2 rfl (by decide) (by decide) rfl rfl lk5 (fun _ h9 => h9) dX11_fingerprint_16 hq (fun a37 hq => ?_)
        refine lv_iload_n hx hb dX11_fingerprint_19 rfl (lv_at hl 2 rfl) ?_
        refine zz_callVq S hT hB (As := [.int x4]) (b := a37) (o := f_X7_find T N s5 a37 x4) (c_X7_find l D cy T hT ad N s5 _ a37 x4) (cwV 1 hts gX11_fingerprint_X7_find rfl rfl rfl (by decide +kernel) ⟨Nat.le_of_ble_eq_true rfl, Nat.le_of_ble_eq_true rfl⟩) (F := TX7) (NF := 3) 7 rfl (by decide) (k_X7_find T N s5 a37 x4) rfl hl.1 rfl (Nat.le_of_ble_eq_true rfl) dX11_fingerprint_20 hq (fun s38 H locs hq hB => ?_) (fun a40 s38 H locs hq hB => ?_)
        · refine lv_ifnullN (tgt := 33) hx hb dX11_fingerprint_23 (by decide) ?_
          refine zz_nmV hq (fun x41 ex41 hq => ?_)
          refine lv_iinc (v := x41) (lv' := [(3, .int x41), (0, .ref (ad a0)), (1, .long y3)]) hx hb dX11_fingerprint_33 hl (k := 2) rfl (by rw [ex41]; rfl) (by decide) rfl (fun ls hl => ?_)
          refine lv_goto (tgt := 6) hx hb dX11_fingerprint_36 (by decide) ?_
          exact ih6 y3 x41 s38 _ _ _ hq hB (lv_sub hl [1, 2, 0] rfl)
        · refine lv_ifnull hx hb dX11_fingerprint_23 ?_
          refine lv_aload_n hx hb dX11_fingerprint_26 rfl (lv_at hl 0 rfl) ?_
          refine lv_lload_n hx hb dX11_fingerprint_27 rfl (lv_at hl 1 rfl) ?_
          refine lv_iload_n hx hb dX11_fingerprint_28 rfl (lv_at hl 2 rfl) ?_
          refine zz_callVl S hT hB (As := [.long y3, .int x4]) (b := a0) (o := f_X11_shapeMixed T N s38 a0 y3 x4) (c_X11_shapeMixed l D cy T hT ad N s38 _ a0 y3 x4) (cwV 2 hts gX11_fingerprint_X11_shapeMixed rfl rfl rfl (by decide +kernel) ⟨Nat.le_of_ble_eq_true rfl, Nat.le_of_ble_eq_true rfl⟩) (F := TX11) (NF := 5) 11 rfl (by decide) (k_X11_shapeMixed T N s38 a0 y3 x4) rfl hl.1 rfl (Nat.le_of_ble_eq_true rfl) dX11_fingerprint_29 hq (fun y43 s42 H locs hq hB => ?_)
          refine lv_lstore_n (lv' := [(1, .long y43), (0, .ref (ad a0)), (3, .int x4)]) hx hb dX11_fingerprint_32 rfl hl (by decide) rfl (fun ls hl => ?_)
          refine zz_nmV hq (fun x44 ex44 hq => ?_)
          refine lv_iinc (v := x44) (lv' := [(3, .int x44), (1, .long y43), (0, .ref (ad a0))]) hx hb dX11_fingerprint_33 hl (k := 2) rfl (by rw [ex44]; rfl) (by decide) rfl (fun ls hl => ?_)
          refine lv_goto (tgt := 6) hx hb dX11_fingerprint_36 (by decide) ?_
          exact ih6 y43 x44 s42 _ _ _ hq hB (lv_sub hl [2, 1, 0] rfl)
  exact L6 N (89 : Int64) (0 : Int32) s0 _ _ _ hq hB (lv_sub hl [2, 1, 0] rfl)
