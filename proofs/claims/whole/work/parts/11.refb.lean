def f_X12_told_J49 (T : zT) (N : Nat) (a0 : Nat) (x1 : Int32) (x2 : Int32) (x5 : Int32) (s6 : zS) : Option (Int32 × zS) :=
  if ¬ x2 = (6 : Int32) then (
    if 0 ≤ x5 then (
      some (x5, s6))
    else (
      some ((-1000000 : Int32), s6)))
  else (
    zb2 (f_X12_depthOf T N s6 a0 x1) fun x8 s7 =>
    some (x8, s7))
def f_X12_told (T : zT) (N : Nat) (s0 : zS) (a0 : Nat) (x1 : Int32) (x2 : Int32) : Option (Int32 × zS) :=
  zz1 (T.1 a0 = 12) <|
  if (6 : Int32) ≤ x2 then (
    if ¬ x2 = (7 : Int32) then (
      zb2 (f_X12_outermost T N s0 a0 x1) fun x10 s9 =>
      f_X12_told_J49 T N a0 x1 x2 x10 s9)
    else (
      zb2 (f_X12_groupOf T N s0 a0 x1) fun x12 s11 =>
      f_X12_told_J49 T N a0 x1 x2 x12 s11))
  else (
    if ¬ x2 = (5 : Int32) then (
      zb2 (f_X12_of T N s0 a0 x1 (x2 + (1 : Int32))) fun x14 s13 =>
      some (x14, s13))
    else (
      zb2 (f_X12_of T N s0 a0 x1 (6 : Int32)) fun x16 s15 =>
      some (x16, s15)))
theorem k_X12_told (T : zT) (N : Nat) (s0 : zS) (a0 : Nat) (x1 : Int32) (x2 : Int32) : ∀ q, f_X12_told T N s0 a0 x1 x2 = some q → T.1 a0 = 12 := by
  intro q h
  unfold f_X12_told at h
  exact zz_guard h (fun h _ => h)
set_option maxHeartbeats 4000000 in
set_option maxRecDepth 100000 in
theorem c_X12_told (l : Launch) (D : va_G) (cy : Nat → ClassId) (T : zT) (hT : zok T) (ad : Nat → Nat) (N : Nat) (s0 : zS) (sz : Nat) (a0 : Nat) (x1 : Int32) (x2 : Int32) : ∀ (r0 : Int32) (σ0 : zS), f_X12_told T N s0 a0 x1 x2 = some (r0, σ0) → Met l yX12_told wsX12_told ({ frames := 3, cells := 0, slots := 0, locals := 65 }) (va_Pc [.ref (ad a0), .int x1, .int x2] (zPre D cy T ad s0 sz)) (va_Qi (fun (r2 : Int32) (σ2 : zS) => r2 = r0 ∧ σ2 = σ0) (zAt D cy T ad (zA T ad sz)) (zA T ad sz)) 0 0 (zA T ad sz) := by
  intro r0 σ0 hq
  refine Met.ofW (cc := cX12_told) (maxL := 4) (ret := (some .int)) (by decide) rfl ?_
  intro p e s m args below meth c s₁ B hml hv
  obtain ⟨hargs, hsz, hP, hK, hD0, hN⟩ := hv
  have hx := B.exec
  have hb := B.bytes
  have hr := B.returns
  have hts := atoms_spec (ws := wsX12_told) B.pre
  have hown : s.vm.findClass RX12 = some m.cls := findClass_of_methodNamed B.named
  have hlocks := B.notSynchronized
  have S : CallFix p m c cX12_told 4 s args wsX12_told RX12 := ⟨hx, hb, hml, hown, hts⟩
  subst hsz
  have hB : zB D cy T ad (zA T ad s.heap.size) s.heap s0 s.heap [] s := zz_entry hP hK hD0 hN
  obtain ⟨ls, hent, hl⟩ := zz_ent m hargs (n := 4) (Nat.le_of_ble_eq_true rfl)
  rw [hent]
  have hl : lv_has ls 4 [(0, .ref (ad a0)), (1, .int x1), (2, .int x2)] := hl
  unfold f_X12_told at hq
  refine zz_guard hq (fun hk0 hq => ?_)
  refine lv_iload_n hx hb dX12_told_0 rfl (lv_at hl 2 rfl) ?_
  refine lv_bipush (v := 6) hx hb dX12_told_1 (by decide) ?_
  refine zz_icmp_ge (tgt := 30) hx hb dX12_told_3 (by decide) hq (fun hq => ?_) (fun hq => ?_)
  · refine lv_iload_n hx hb dX12_told_30 rfl (lv_at hl 2 rfl) ?_
    refine lv_bipush (v := 7) hx hb dX12_told_31 (by decide) ?_
    have J49 : ∀ (x5 : Int32) (s6 : zS) (H : Heap) (locs : List Loc) (ls : Array Slot), f_X12_told_J49 T N a0 x1 x2 x5 s6 = some (r0, σ0) → zB D cy T ad (zA T ad s.heap.size) s.heap s6 H locs s → lv_has ls 4 [(0, .ref (ad a0)), (1, .int x1), (2, .int x2)] → W p l e (headSpec wsX12_told ({ frames := 3, cells := 0, slots := 0, locals := 65 } : Room)).room s m args below meth c H locs 0 0 (MQ below (va_Qi (fun (r2 : Int32) (σ2 : zS) => r2 = r0 ∧ σ2 = σ0) (zAt D cy T ad (zA T ad s.heap.size)) (zA T ad s.heap.size)) args s 0 0 (zA T ad s.heap.size)) (F0 m 49 ls [.int x5]) := by
      intro x5 s6 H locs ls hq hB hl
      unfold f_X12_told_J49 at hq
      refine lv_istore_n (lv' := [(3, .int x5), (0, .ref (ad a0)), (1, .int x1), (2, .int x2)]) hx hb dX12_told_49 rfl hl (by decide) rfl (fun ls hl => ?_)
      refine lv_iload_n hx hb dX12_told_50 rfl (lv_at hl 3 rfl) ?_
      refine lv_bipush (v := 6) hx hb dX12_told_51 (by decide) ?_
      refine zz_icmp_ne (tgt := 64) hx hb dX12_told_53 (by decide) hq (fun hq => ?_) (fun hq => ?_)
      · refine lv_iload_n hx hb dX12_told_64 rfl (lv_at hl 0 rfl) ?_
        refine zz_if_ge (tgt := 73) hx hb dX12_told_65 (by decide) hq (fun hq => ?_) (fun hq => ?_)
        · refine lv_iload_n hx hb dX12_told_73 rfl (lv_at hl 0 rfl) ?_
          exact zz_iret S hB hr hlocks dX12_told_74 hq
        · refine lv_ldc (v := -1000000) hx hb hown (hts _ (wS wd_636)) dX12_told_68 ?_
          refine lv_goto (tgt := 74) hx hb dX12_told_70 (by decide) ?_
          exact zz_iret S hB hr hlocks dX12_told_74 hq
      · refine lv_aload_n hx hb dX12_told_56 rfl (lv_at hl 1 rfl) ?_
        refine lv_iload_n hx hb dX12_told_57 rfl (lv_at hl 2 rfl) ?_
        refine zz_callVi S hT hB (As := [.int x1]) (b := a0) (o := f_X12_depthOf T N s6 a0 x1) (c_X12_depthOf l D cy T hT ad N s6 _ a0 x1) (cwV 1 hts (gV wSub wd_616 wd_617 wd_618 wd_572 wd_619) rfl rfl rfl (by decide +kernel) ⟨Nat.le_of_ble_eq_true rfl, Nat.le_of_ble_eq_true rfl⟩) (F := TX12) (NF := 24) 12 rfl (by decide) (k_X12_depthOf T N s6 a0 x1) rfl hl.1 rfl (Nat.le_of_ble_eq_true rfl) dX12_told_58 hq (fun x8 s7 H locs hq hB => ?_)
        refine lv_goto (tgt := 74) hx hb dX12_told_61 (by decide) ?_
        exact zz_iret S hB hr hlocks dX12_told_74 hq
    refine zz_icmp_ne (tgt := 44) hx hb dX12_told_33 (by decide) hq (fun hq => ?_) (fun hq => ?_)
    · refine lv_aload_n hx hb dX12_told_44 rfl (lv_at hl 0 rfl) ?_
      refine lv_iload_n hx hb dX12_told_45 rfl (lv_at hl 1 rfl) ?_
      refine zz_callVi S hT hB (As := [.int x1]) (b := a0) (o := f_X12_outermost T N s0 a0 x1) (c_X12_outermost l D cy T hT ad N s0 _ a0 x1) (cwV 1 hts (gV wSub wd_632 wd_633 wd_634 wd_572 wd_635) rfl rfl rfl (by decide +kernel) ⟨Nat.le_of_ble_eq_true rfl, Nat.le_of_ble_eq_true rfl⟩) (F := TX12) (NF := 24) 12 rfl (by decide) (k_X12_outermost T N s0 a0 x1) rfl hl.1 rfl (Nat.le_of_ble_eq_true rfl) dX12_told_46 hq (fun x10 s9 H locs hq hB => ?_)
      exact J49 x10 s9 _ _ _ hq hB (lv_sub hl [0, 1, 2] rfl)
    · refine lv_aload_n hx hb dX12_told_36 rfl (lv_at hl 0 rfl) ?_
      refine lv_iload_n hx hb dX12_told_37 rfl (lv_at hl 1 rfl) ?_
      refine zz_callVi S hT hB (As := [.int x1]) (b := a0) (o := f_X12_groupOf T N s0 a0 x1) (c_X12_groupOf l D cy T hT ad N s0 _ a0 x1) (cwV 1 hts (gV wSub wd_578 wd_579 wd_580 wd_572 wd_581) rfl rfl rfl (by decide +kernel) ⟨Nat.le_of_ble_eq_true rfl, Nat.le_of_ble_eq_true rfl⟩) (F := TX12) (NF := 24) 12 rfl (by decide) (k_X12_groupOf T N s0 a0 x1) rfl hl.1 rfl (Nat.le_of_ble_eq_true rfl) dX12_told_38 hq (fun x12 s11 H locs hq hB => ?_)
      refine lv_goto (tgt := 49) hx hb dX12_told_41 (by decide) ?_
      exact J49 x12 s11 _ _ _ hq hB (lv_sub hl [0, 1, 2] rfl)
  · refine lv_iload_n hx hb dX12_told_6 rfl (lv_at hl 2 rfl) ?_
    refine lv_iconst (v := 5) hx hb dX12_told_7 (by decide) ?_
    refine zz_icmp_ne (tgt := 21) hx hb dX12_told_8 (by decide) hq (fun hq => ?_) (fun hq => ?_)
    · refine lv_aload_n hx hb dX12_told_21 rfl (lv_at hl 0 rfl) ?_
      refine lv_iload_n hx hb dX12_told_22 rfl (lv_at hl 1 rfl) ?_
      refine lv_iload_n hx hb dX12_told_23 rfl (lv_at hl 2 rfl) ?_
      refine lv_iconst (v := 1) hx hb dX12_told_24 (by decide) ?_
      refine lv_iadd hx hb dX12_told_25 ?_
      refine zz_callVi S hT hB (As := [.int x1, .int (x2 + (1 : Int32))]) (b := a0) (o := f_X12_of T N s0 a0 x1 (x2 + (1 : Int32))) (c_X12_of l D cy T hT ad N s0 _ a0 x1 (x2 + (1 : Int32))) (cwV 2 hts (gV wSub wd_574 wd_575 wd_576 wd_572 wd_577) rfl rfl rfl (by decide +kernel) ⟨Nat.le_of_ble_eq_true rfl, Nat.le_of_ble_eq_true rfl⟩) (F := TX12) (NF := 24) 12 rfl (by decide) (k_X12_of T N s0 a0 x1 (x2 + (1 : Int32))) rfl hl.1 rfl (Nat.le_of_ble_eq_true rfl) dX12_told_26 hq (fun x14 s13 H locs hq hB => ?_)
      exact zz_iret S hB hr hlocks dX12_told_29 hq
    · refine lv_aload_n hx hb dX12_told_11 rfl (lv_at hl 0 rfl) ?_
      refine lv_iload_n hx hb dX12_told_12 rfl (lv_at hl 1 rfl) ?_
      refine lv_bipush (v := 6) hx hb dX12_told_13 (by decide) ?_
      refine zz_callVi S hT hB (As := [.int x1, .int (6 : Int32)]) (b := a0) (o := f_X12_of T N s0 a0 x1 (6 : Int32)) (c_X12_of l D cy T hT ad N s0 _ a0 x1 (6 : Int32)) (cwV 2 hts (gV wSub wd_574 wd_575 wd_576 wd_572 wd_577) rfl rfl rfl (by decide +kernel) ⟨Nat.le_of_ble_eq_true rfl, Nat.le_of_ble_eq_true rfl⟩) (F := TX12) (NF := 24) 12 rfl (by decide) (k_X12_of T N s0 a0 x1 (6 : Int32)) rfl hl.1 rfl (Nat.le_of_ble_eq_true rfl) dX12_told_15 hq (fun x16 s15 H locs hq hB => ?_)
      refine lv_goto (tgt := 29) hx hb dX12_told_18 (by decide) ?_
      exact zz_iret S hB hr hlocks dX12_told_29 hq
def f_X12_shape (T : zT) (N : Nat) (s0 : zS) (a0 : Nat) (x1 : Int32) (x2 : Int32) : Option (Int32 × zS) :=
  zz1 (T.1 a0 = 12) <|
  zb2 (f_X12_isShape T N s0 a0 x1) fun x6 s5 =>
  if x6 = 0 then (
    some ((-1000000 : Int32), s5))
  else (
    zb2 (f_X12_in T N s5 x2 (0 : Int32) (8 : Int32)) fun x8 s7 =>
    if x8 = 0 then (
      some ((-1000000 : Int32), s7))
    else (
      zb2 (f_X12_told T N s7 a0 x1 x2) fun x10 s9 =>
      some (x10, s9)))
theorem k_X12_shape (T : zT) (N : Nat) (s0 : zS) (a0 : Nat) (x1 : Int32) (x2 : Int32) : ∀ q, f_X12_shape T N s0 a0 x1 x2 = some q → T.1 a0 = 12 := by
  intro q h
  unfold f_X12_shape at h
  exact zz_guard h (fun h _ => h)
set_option maxHeartbeats 4000000 in
set_option maxRecDepth 100000 in
theorem c_X12_shape (l : Launch) (D : va_G) (cy : Nat → ClassId) (T : zT) (hT : zok T) (ad : Nat → Nat) (N : Nat) (s0 : zS) (sz : Nat) (a0 : Nat) (x1 : Int32) (x2 : Int32) : ∀ (r0 : Int32) (σ0 : zS), f_X12_shape T N s0 a0 x1 x2 = some (r0, σ0) → Met l yX12_shape wsX12_shape ({ frames := 4, cells := 0, slots := 0, locals := 88 }) (va_Pc [.ref (ad a0), .int x1, .int x2] (zPre D cy T ad s0 sz)) (va_Qi (fun (r2 : Int32) (σ2 : zS) => r2 = r0 ∧ σ2 = σ0) (zAt D cy T ad (zA T ad sz)) (zA T ad sz)) 0 0 (zA T ad sz) := by
  intro r0 σ0 hq
  refine Met.ofW (cc := cX12_shape) (maxL := 3) (ret := (some .int)) (by decide) rfl ?_
  intro p e s m args below meth c s₁ B hml hv
  obtain ⟨hargs, hsz, hP, hK, hD0, hN⟩ := hv
  have hx := B.exec
  have hb := B.bytes
  have hr := B.returns
  have hts := atoms_spec (ws := wsX12_shape) B.pre
  have hown : s.vm.findClass RX12 = some m.cls := findClass_of_methodNamed B.named
  have hlocks := B.notSynchronized
  have S : CallFix p m c cX12_shape 3 s args wsX12_shape RX12 := ⟨hx, hb, hml, hown, hts⟩
  subst hsz
  have hB : zB D cy T ad (zA T ad s.heap.size) s.heap s0 s.heap [] s := zz_entry hP hK hD0 hN
  obtain ⟨ls, hent, hl⟩ := zz_ent m hargs (n := 3) (Nat.le_of_ble_eq_true rfl)
  rw [hent]
  have hl : lv_has ls 3 [(0, .ref (ad a0)), (1, .int x1), (2, .int x2)] := hl
  unfold f_X12_shape at hq
  refine zz_guard hq (fun hk0 hq => ?_)
  refine lv_aload_n hx hb dX12_shape_0 rfl (lv_at hl 0 rfl) ?_
  refine lv_iload_n hx hb dX12_shape_1 rfl (lv_at hl 1 rfl) ?_
  refine zz_callVi S hT hB (As := [.int x1]) (b := a0) (o := f_X12_isShape T N s0 a0 x1) (c_X12_isShape l D cy T hT ad N s0 _ a0 x1) (cwV 1 hts (gV wSub wd_612 wd_613 wd_614 wd_572 wd_615) rfl rfl rfl (by decide +kernel) ⟨Nat.le_of_ble_eq_true rfl, Nat.le_of_ble_eq_true rfl⟩) (F := TX12) (NF := 24) 12 rfl (by decide) (k_X12_isShape T N s0 a0 x1) rfl hl.1 rfl (Nat.le_of_ble_eq_true rfl) dX12_shape_2 hq (fun x6 s5 H locs hq hB => ?_)
  refine zz_if_eq (tgt := 27) hx hb dX12_shape_5 (by decide) hq (fun hq => ?_) (fun hq => ?_)
  · refine lv_ldc (v := -1000000) hx hb hown (hts _ (wS wd_636)) dX12_shape_27 ?_
    exact zz_iret S hB hr hlocks dX12_shape_29 hq
  · refine lv_iload_n hx hb dX12_shape_8 rfl (lv_at hl 2 rfl) ?_
    refine lv_iconst (v := 0) hx hb dX12_shape_9 (by decide) ?_
    refine lv_bipush (v := 8) hx hb dX12_shape_10 (by decide) ?_
    refine zz_callSi S hT hB (As := [.int x2, .int (0 : Int32), .int (8 : Int32)]) (o := f_X12_in T N s5 x2 (0 : Int32) (8 : Int32)) (c_X12_in l D cy T hT ad N s5 _ x2 (0 : Int32) (8 : Int32)) (va_cwS 3 hts (gS wSub wd_570 wd_571 wd_572 wd_573) rfl rfl rfl (by decide +kernel) ⟨Nat.le_of_ble_eq_true rfl, Nat.le_of_ble_eq_true rfl⟩) rfl hl.1 rfl (Nat.le_of_ble_eq_true rfl) dX12_shape_12 hq (fun x8 s7 H locs hq hB => ?_)
    refine zz_if_eq (tgt := 27) hx hb dX12_shape_15 (by decide) hq (fun hq => ?_) (fun hq => ?_)
    · refine lv_ldc (v := -1000000) hx hb hown (hts _ (wS wd_636)) dX12_shape_27 ?_
      exact zz_iret S hB hr hlocks dX12_shape_29 hq
    · refine lv_aload_n hx hb dX12_shape_18 rfl (lv_at hl 0 rfl) ?_
      refine lv_iload_n hx hb dX12_shape_19 rfl (lv_at hl 1 rfl) ?_
      refine lv_iload_n hx hb dX12_shape_20 rfl (lv_at hl 2 rfl) ?_
      refine zz_callVi S hT hB (As := [.int x1, .int x2]) (b := a0) (o := f_X12_told T N s7 a0 x1 x2) (c_X12_told l D cy T hT ad N s7 _ a0 x1 x2) (cwV 2 hts (gV wSub wd_637 wd_638 wd_639 wd_572 wd_640) rfl rfl rfl (by decide +kernel) ⟨Nat.le_of_ble_eq_true rfl, Nat.le_of_ble_eq_true rfl⟩) (F := TX12) (NF := 24) 12 rfl (by decide) (k_X12_told T N s7 a0 x1 x2) rfl hl.1 rfl (Nat.le_of_ble_eq_true rfl) dX12_shape_21 hq (fun x10 s9 H locs hq hB => ?_)
      refine lv_goto (tgt := 29) hx hb dX12_shape_24 (by decide) ?_
      exact zz_iret S hB hr hlocks dX12_shape_29 hq
def f_X12_portOf (T : zT) (N : Nat) (s0 : zS) (a0 : Nat) (x1 : Int32) (x2 : Int32) (x3 : Int32) : Option (Int32 × zS) :=
  zz1 (T.1 a0 = 12) <|
  if ¬ (x2 - x2 / (2 : Int32) * (2 : Int32)) = 0 then (
    if ¬ x3 = (1 : Int32) then (
      if ¬ x2 = (3 : Int32) then (
        zb2 (f_X12_end T N s0 a0 x1 (0 : Int32)) fun x7 s6 =>
        some (x7, s6))
      else (
        zb2 (f_X12_begin T N s0 a0 x1 (0 : Int32)) fun x9 s8 =>
        some (x9, s8)))
    else (
      zb2 (f_X12_center T N s0 a0 x1 (1 : Int32)) fun x11 s10 =>
      some (x11, s10)))
  else (
    if ¬ x3 = 0 then (
      if ¬ x2 = 0 then (
        zb2 (f_X12_end T N s0 a0 x1 (1 : Int32)) fun x13 s12 =>
        some (x13, s12))
      else (
        zb2 (f_X12_begin T N s0 a0 x1 (1 : Int32)) fun x15 s14 =>
        some (x15, s14)))
    else (
      zb2 (f_X12_center T N s0 a0 x1 (0 : Int32)) fun x17 s16 =>
      some (x17, s16)))
theorem k_X12_portOf (T : zT) (N : Nat) (s0 : zS) (a0 : Nat) (x1 : Int32) (x2 : Int32) (x3 : Int32) : ∀ q, f_X12_portOf T N s0 a0 x1 x2 x3 = some q → T.1 a0 = 12 := by
  intro q h
  unfold f_X12_portOf at h
  exact zz_guard h (fun h _ => h)
set_option maxHeartbeats 4000000 in
set_option maxRecDepth 100000 in
theorem c_X12_portOf (l : Launch) (D : va_G) (cy : Nat → ClassId) (T : zT) (hT : zok T) (ad : Nat → Nat) (N : Nat) (s0 : zS) (sz : Nat) (a0 : Nat) (x1 : Int32) (x2 : Int32) (x3 : Int32) : ∀ (r0 : Int32) (σ0 : zS), f_X12_portOf T N s0 a0 x1 x2 x3 = some (r0, σ0) → Met l yX12_portOf wsX12_portOf ({ frames := 2, cells := 0, slots := 0, locals := 44 }) (va_Pc [.ref (ad a0), .int x1, .int x2, .int x3] (zPre D cy T ad s0 sz)) (va_Qi (fun (r2 : Int32) (σ2 : zS) => r2 = r0 ∧ σ2 = σ0) (zAt D cy T ad (zA T ad sz)) (zA T ad sz)) 0 0 (zA T ad sz) := by
  intro r0 σ0 hq
  refine Met.ofW (cc := cX12_portOf) (maxL := 4) (ret := (some .int)) (by decide) rfl ?_
  intro p e s m args below meth c s₁ B hml hv
  obtain ⟨hargs, hsz, hP, hK, hD0, hN⟩ := hv
  have hx := B.exec
  have hb := B.bytes
  have hr := B.returns
  have hts := atoms_spec (ws := wsX12_portOf) B.pre
  have hown : s.vm.findClass RX12 = some m.cls := findClass_of_methodNamed B.named
  have hlocks := B.notSynchronized
  have S : CallFix p m c cX12_portOf 4 s args wsX12_portOf RX12 := ⟨hx, hb, hml, hown, hts⟩
  subst hsz
  have hB : zB D cy T ad (zA T ad s.heap.size) s.heap s0 s.heap [] s := zz_entry hP hK hD0 hN
  obtain ⟨ls, hent, hl⟩ := zz_ent m hargs (n := 4) (Nat.le_of_ble_eq_true rfl)
  rw [hent]
  have hl : lv_has ls 4 [(0, .ref (ad a0)), (1, .int x1), (2, .int x2), (3, .int x3)] := hl
  unfold f_X12_portOf at hq
  refine zz_guard hq (fun hk0 hq => ?_)
  refine lv_iload_n hx hb dX12_portOf_0 rfl (lv_at hl 2 rfl) ?_
  refine lv_iconst (v := 2) hx hb dX12_portOf_1 (by decide) ?_
  refine lv_irem hx hb dX12_portOf_2 (by decide) ?_
  refine zz_if_ne (tgt := 39) hx hb dX12_portOf_3 (by decide) hq (fun hq => ?_) (fun hq => ?_)
  · refine lv_iload_n hx hb dX12_portOf_39 rfl (lv_at hl 3 rfl) ?_
    refine lv_iconst (v := 1) hx hb dX12_portOf_40 (by decide) ?_
    refine zz_icmp_ne (tgt := 53) hx hb dX12_portOf_41 (by decide) hq (fun hq => ?_) (fun hq => ?_)
    · refine lv_iload_n hx hb dX12_portOf_53 rfl (lv_at hl 2 rfl) ?_
      refine lv_iconst (v := 3) hx hb dX12_portOf_54 (by decide) ?_
      refine zz_icmp_ne (tgt := 67) hx hb dX12_portOf_55 (by decide) hq (fun hq => ?_) (fun hq => ?_)
      · refine lv_aload_n hx hb dX12_portOf_67 rfl (lv_at hl 0 rfl) ?_
        refine lv_iload_n hx hb dX12_portOf_68 rfl (lv_at hl 1 rfl) ?_
        refine lv_iconst (v := 0) hx hb dX12_portOf_69 (by decide) ?_
        refine zz_callVi S hT hB (As := [.int x1, .int (0 : Int32)]) (b := a0) (o := f_X12_end T N s0 a0 x1 (0 : Int32)) (c_X12_end l D cy T hT ad N s0 _ a0 x1 (0 : Int32)) (cwV 2 hts (gV wSub wd_641 wd_642 wd_643 wd_572 wd_644) rfl rfl rfl (by decide +kernel) ⟨Nat.le_of_ble_eq_true rfl, Nat.le_of_ble_eq_true rfl⟩) (F := TX12) (NF := 24) 12 rfl (by decide) (k_X12_end T N s0 a0 x1 (0 : Int32)) rfl hl.1 rfl (Nat.le_of_ble_eq_true rfl) dX12_portOf_70 hq (fun x7 s6 H locs hq hB => ?_)
        exact zz_iret S hB hr hlocks dX12_portOf_73 hq
      · refine lv_aload_n hx hb dX12_portOf_58 rfl (lv_at hl 0 rfl) ?_
        refine lv_iload_n hx hb dX12_portOf_59 rfl (lv_at hl 1 rfl) ?_
        refine lv_iconst (v := 0) hx hb dX12_portOf_60 (by decide) ?_
        refine zz_callVi S hT hB (As := [.int x1, .int (0 : Int32)]) (b := a0) (o := f_X12_begin T N s0 a0 x1 (0 : Int32)) (c_X12_begin l D cy T hT ad N s0 _ a0 x1 (0 : Int32)) (cwV 2 hts (gV wSub wd_645 wd_646 wd_647 wd_572 wd_648) rfl rfl rfl (by decide +kernel) ⟨Nat.le_of_ble_eq_true rfl, Nat.le_of_ble_eq_true rfl⟩) (F := TX12) (NF := 24) 12 rfl (by decide) (k_X12_begin T N s0 a0 x1 (0 : Int32)) rfl hl.1 rfl (Nat.le_of_ble_eq_true rfl) dX12_portOf_61 hq (fun x9 s8 H locs hq hB => ?_)
        refine lv_goto (tgt := 73) hx hb dX12_portOf_64 (by decide) ?_
        exact zz_iret S hB hr hlocks dX12_portOf_73 hq
    · refine lv_aload_n hx hb dX12_portOf_44 rfl (lv_at hl 0 rfl) ?_
      refine lv_iload_n hx hb dX12_portOf_45 rfl (lv_at hl 1 rfl) ?_
      refine lv_iconst (v := 1) hx hb dX12_portOf_46 (by decide) ?_
      refine zz_callVi S hT hB (As := [.int x1, .int (1 : Int32)]) (b := a0) (o := f_X12_center T N s0 a0 x1 (1 : Int32)) (c_X12_center l D cy T hT ad N s0 _ a0 x1 (1 : Int32)) (cwV 2 hts (gV wSub wd_649 wd_650 wd_651 wd_572 wd_652) rfl rfl rfl (by decide +kernel) ⟨Nat.le_of_ble_eq_true rfl, Nat.le_of_ble_eq_true rfl⟩) (F := TX12) (NF := 24) 12 rfl (by decide) (k_X12_center T N s0 a0 x1 (1 : Int32)) rfl hl.1 rfl (Nat.le_of_ble_eq_true rfl) dX12_portOf_47 hq (fun x11 s10 H locs hq hB => ?_)
      refine lv_goto (tgt := 73) hx hb dX12_portOf_50 (by decide) ?_
      exact zz_iret S hB hr hlocks dX12_portOf_73 hq
  · refine lv_iload_n hx hb dX12_portOf_6 rfl (lv_at hl 3 rfl) ?_
    refine zz_if_ne (tgt := 19) hx hb dX12_portOf_7 (by decide) hq (fun hq => ?_) (fun hq => ?_)
    · refine lv_iload_n hx hb dX12_portOf_19 rfl (lv_at hl 2 rfl) ?_
      refine zz_if_ne (tgt := 32) hx hb dX12_portOf_20 (by decide) hq (fun hq => ?_) (fun hq => ?_)
      · refine lv_aload_n hx hb dX12_portOf_32 rfl (lv_at hl 0 rfl) ?_
        refine lv_iload_n hx hb dX12_portOf_33 rfl (lv_at hl 1 rfl) ?_
        refine lv_iconst (v := 1) hx hb dX12_portOf_34 (by decide) ?_
        refine zz_callVi S hT hB (As := [.int x1, .int (1 : Int32)]) (b := a0) (o := f_X12_end T N s0 a0 x1 (1 : Int32)) (c_X12_end l D cy T hT ad N s0 _ a0 x1 (1 : Int32)) (cwV 2 hts (gV wSub wd_641 wd_642 wd_643 wd_572 wd_644) rfl rfl rfl (by decide +kernel) ⟨Nat.le_of_ble_eq_true rfl, Nat.le_of_ble_eq_true rfl⟩) (F := TX12) (NF := 24) 12 rfl (by decide) (k_X12_end T N s0 a0 x1 (1 : Int32)) rfl hl.1 rfl (Nat.le_of_ble_eq_true rfl) dX12_portOf_35 hq (fun x13 s12 H locs hq hB => ?_)
        exact zz_iret S hB hr hlocks dX12_portOf_38 hq
      · refine lv_aload_n hx hb dX12_portOf_23 rfl (lv_at hl 0 rfl) ?_
        refine lv_iload_n hx hb dX12_portOf_24 rfl (lv_at hl 1 rfl) ?_
        refine lv_iconst (v := 1) hx hb dX12_portOf_25 (by decide) ?_
        refine zz_callVi S hT hB (As := [.int x1, .int (1 : Int32)]) (b := a0) (o := f_X12_begin T N s0 a0 x1 (1 : Int32)) (c_X12_begin l D cy T hT ad N s0 _ a0 x1 (1 : Int32)) (cwV 2 hts (gV wSub wd_645 wd_646 wd_647 wd_572 wd_648) rfl rfl rfl (by decide +kernel) ⟨Nat.le_of_ble_eq_true rfl, Nat.le_of_ble_eq_true rfl⟩) (F := TX12) (NF := 24) 12 rfl (by decide) (k_X12_begin T N s0 a0 x1 (1 : Int32)) rfl hl.1 rfl (Nat.le_of_ble_eq_true rfl) dX12_portOf_26 hq (fun x15 s14 H locs hq hB => ?_)
        refine lv_goto (tgt := 38) hx hb dX12_portOf_29 (by decide) ?_
        exact zz_iret S hB hr hlocks dX12_portOf_38 hq
    · refine lv_aload_n hx hb dX12_portOf_10 rfl (lv_at hl 0 rfl) ?_
      refine lv_iload_n hx hb dX12_portOf_11 rfl (lv_at hl 1 rfl) ?_
      refine lv_iconst (v := 0) hx hb dX12_portOf_12 (by decide) ?_
      refine zz_callVi S hT hB (As := [.int x1, .int (0 : Int32)]) (b := a0) (o := f_X12_center T N s0 a0 x1 (0 : Int32)) (c_X12_center l D cy T hT ad N s0 _ a0 x1 (0 : Int32)) (cwV 2 hts (gV wSub wd_649 wd_650 wd_651 wd_572 wd_652) rfl rfl rfl (by decide +kernel) ⟨Nat.le_of_ble_eq_true rfl, Nat.le_of_ble_eq_true rfl⟩) (F := TX12) (NF := 24) 12 rfl (by decide) (k_X12_center T N s0 a0 x1 (0 : Int32)) rfl hl.1 rfl (Nat.le_of_ble_eq_true rfl) dX12_portOf_13 hq (fun x17 s16 H locs hq hB => ?_)
      refine lv_goto (tgt := 38) hx hb dX12_portOf_16 (by decide) ?_
      exact zz_iret S hB hr hlocks dX12_portOf_38 hq
def f_X12_port (T : zT) (N : Nat) (s0 : zS) (a0 : Nat) (x1 : Int32) (x2 : Int32) (x3 : Int32) : Option (Int32 × zS) :=
  zz1 (T.1 a0 = 12) <|
  zb2 (f_X12_isShape T N s0 a0 x1) fun x7 s6 =>
  if x7 = 0 then (
    some ((-1000000 : Int32), s6))
  else (
    zb2 (f_X12_in T N s6 x2 (0 : Int32) (3 : Int32)) fun x9 s8 =>
    if x9 = 0 then (
      some ((-1000000 : Int32), s8))
    else (
      zb2 (f_X12_in T N s8 x3 (0 : Int32) (1 : Int32)) fun x11 s10 =>
      if x11 = 0 then (
        some ((-1000000 : Int32), s10))
      else (
        zb2 (f_X12_portOf T N s10 a0 x1 x2 x3) fun x13 s12 =>
        some (x13, s12))))
theorem k_X12_port (T : zT) (N : Nat) (s0 : zS) (a0 : Nat) (x1 : Int32) (x2 : Int32) (x3 : Int32) : ∀ q, f_X12_port T N s0 a0 x1 x2 x3 = some q → T.1 a0 = 12 := by
  intro q h
  unfold f_X12_port at h
  exact zz_guard h (fun h _ => h)
set_option maxHeartbeats 4000000 in
set_option maxRecDepth 100000 in
theorem c_X12_port (l : Launch) (D : va_G) (cy : Nat → ClassId) (T : zT) (hT : zok T) (ad : Nat → Nat) (N : Nat) (s0 : zS) (sz : Nat) (a0 : Nat) (x1 : Int32) (x2 : Int32) (x3 : Int32) : ∀ (r0 : Int32) (σ0 : zS), f_X12_port T N s0 a0 x1 x2 x3 = some (r0, σ0) → Met l yX12_port wsX12_port ({ frames := 3, cells := 0, slots := 0, locals := 67 }) (va_Pc [.ref (ad a0), .int x1, .int x2, .int x3] (zPre D cy T ad s0 sz)) (va_Qi (fun (r2 : Int32) (σ2 : zS) => r2 = r0 ∧ σ2 = σ0) (zAt D cy T ad (zA T ad sz)) (zA T ad sz)) 0 0 (zA T ad sz) := by
  intro r0 σ0 hq
  refine Met.ofW (cc := cX12_port) (maxL := 4) (ret := (some .int)) (by decide) rfl ?_
  intro p e s m args below meth c s₁ B hml hv
  obtain ⟨hargs, hsz, hP, hK, hD0, hN⟩ := hv
  have hx := B.exec
  have hb := B.bytes
  have hr := B.returns
  have hts := atoms_spec (ws := wsX12_port) B.pre
  have hown : s.vm.findClass RX12 = some m.cls := findClass_of_methodNamed B.named
  have hlocks := B.notSynchronized
  have S : CallFix p m c cX12_port 4 s args wsX12_port RX12 := ⟨hx, hb, hml, hown, hts⟩
  subst hsz
  have hB : zB D cy T ad (zA T ad s.heap.size) s.heap s0 s.heap [] s := zz_entry hP hK hD0 hN
  obtain ⟨ls, hent, hl⟩ := zz_ent m hargs (n := 4) (Nat.le_of_ble_eq_true rfl)
  rw [hent]
  have hl : lv_has ls 4 [(0, .ref (ad a0)), (1, .int x1), (2, .int x2), (3, .int x3)] := hl
  unfold f_X12_port at hq
  refine zz_guard hq (fun hk0 hq => ?_)
  refine lv_aload_n hx hb dX12_port_0 rfl (lv_at hl 0 rfl) ?_
  refine lv_iload_n hx hb dX12_port_1 rfl (lv_at hl 1 rfl) ?_
  refine zz_callVi S hT hB (As := [.int x1]) (b := a0) (o := f_X12_isShape T N s0 a0 x1) (c_X12_isShape l D cy T hT ad N s0 _ a0 x1) (cwV 1 hts (gV wSub wd_612 wd_613 wd_614 wd_572 wd_615) rfl rfl rfl (by decide +kernel) ⟨Nat.le_of_ble_eq_true rfl, Nat.le_of_ble_eq_true rfl⟩) (F := TX12) (NF := 24) 12 rfl (by decide) (k_X12_isShape T N s0 a0 x1) rfl hl.1 rfl (Nat.le_of_ble_eq_true rfl) dX12_port_2 hq (fun x7 s6 H locs hq hB => ?_)
  refine zz_if_eq (tgt := 36) hx hb dX12_port_5 (by decide) hq (fun hq => ?_) (fun hq => ?_)
  · refine lv_ldc (v := -1000000) hx hb hown (hts _ (wS wd_636)) dX12_port_36 ?_
    exact zz_iret S hB hr hlocks dX12_port_38 hq
  · refine lv_iload_n hx hb dX12_port_8 rfl (lv_at hl 2 rfl) ?_
    refine lv_iconst (v := 0) hx hb dX12_port_9 (by decide) ?_
    refine lv_iconst (v := 3) hx hb dX12_port_10 (by decide) ?_
    refine zz_callSi S hT hB (As := [.int x2, .int (0 : Int32), .int (3 : Int32)]) (o := f_X12_in T N s6 x2 (0 : Int32) (3 : Int32)) (c_X12_in l D cy T hT ad N s6 _ x2 (0 : Int32) (3 : Int32)) (va_cwS 3 hts (gS wSub wd_570 wd_571 wd_572 wd_573) rfl rfl rfl (by decide +kernel) ⟨Nat.le_of_ble_eq_true rfl, Nat.le_of_ble_eq_true rfl⟩) rfl hl.1 rfl (Nat.le_of_ble_eq_true rfl) dX12_port_11 hq (fun x9 s8 H locs hq hB => ?_)
    refine zz_if_eq (tgt := 36) hx hb dX12_port_14 (by decide) hq (fun hq => ?_) (fun hq => ?_)
    · refine lv_ldc (v := -1000000) hx hb hown (hts _ (wS wd_636)) dX12_port_36 ?_
      exact zz_iret S hB hr hlocks dX12_port_38 hq
    · refine lv_iload_n hx hb dX12_port_17 rfl (lv_at hl 3 rfl) ?_
      refine lv_iconst (v := 0) hx hb dX12_port_18 (by decide) ?_
      refine lv_iconst (v := 1) hx hb dX12_port_19 (by decide) ?_
      refine zz_callSi S hT hB (As := [.int x3, .int (0 : Int32), .int (1 : Int32)]) (o := f_X12_in T N s8 x3 (0 : Int32) (1 : Int32)) (c_X12_in l D cy T hT ad N s8 _ x3 (0 : Int32) (1 : Int32)) (va_cwS 3 hts (gS wSub wd_570 wd_571 wd_572 wd_573) rfl rfl rfl (by decide +kernel) ⟨Nat.le_of_ble_eq_true rfl, Nat.le_of_ble_eq_true rfl⟩) rfl hl.1 rfl (Nat.le_of_ble_eq_true rfl) dX12_port_20 hq (fun x11 s10 H locs hq hB => ?_)
      refine zz_if_eq (tgt := 36) hx hb dX12_port_23 (by decide) hq (fun hq => ?_) (fun hq => ?_)
      · refine lv_ldc (v := -1000000) hx hb hown (hts _ (wS wd_636)) dX12_port_36 ?_
        exact zz_iret S hB hr hlocks dX12_port_38 hq
      · refine lv_aload_n hx hb dX12_port_26 rfl (lv_at hl 0 rfl) ?_
        refine lv_iload_n hx hb dX12_port_27 rfl (lv_at hl 1 rfl) ?_
        refine lv_iload_n hx hb dX12_port_28 rfl (lv_at hl 2 rfl) ?_
        refine lv_iload_n hx hb dX12_port_29 rfl (lv_at hl 3 rfl) ?_
        refine zz_callVi S hT hB (As := [.int x1, .int x2, .int x3]) (b := a0) (o := f_X12_portOf T N s10 a0 x1 x2 x3) (c_X12_portOf l D cy T hT ad N s10 _ a0 x1 x2 x3) (cwV 3 hts (gV wSub wd_653 wd_654 wd_655 wd_572 wd_656) rfl rfl rfl (by decide +kernel) ⟨Nat.le_of_ble_eq_true rfl, Nat.le_of_ble_eq_true rfl⟩) (F := TX12) (NF := 24) 12 rfl (by decide) (k_X12_portOf T N s10 a0 x1 x2 x3) rfl hl.1 rfl (Nat.le_of_ble_eq_true rfl) dX12_port_30 hq (fun x13 s12 H locs hq hB => ?_)
        refine lv_goto (tgt := 38) hx hb dX12_port_33 (by decide) ?_
        exact zz_iret S hB hr hlocks dX12_port_38 hq
def f_X12_bring_L77 (T : zT) (N : Nat) (a0 : Nat) (x1 : Int32) (x9 : Int32) (k77 : Int32 → zS → Option (Int32 × zS)) (x10 : Int32) (s11 : zS) : Option (Int32 × zS) :=
  (gR T s11 a0 12 0).bind fun a12 =>
  (aI T s11 a12 13 (1 : Int32)).bind fun x13 =>
  if (x13 - (1 : Int32)) ≤ x10 then (
    (gR T s11 a0 12 0).bind fun a14 =>
    (gR T s11 a0 12 0).bind fun a15 =>
    (aI T s11 a15 13 (1 : Int32)).bind fun x16 =>
    (sI T s11 a14 (((170 : Int32) + x16) - (1 : Int32)) x1).bind fun s17 =>
    some (x9, s17))
  else (
    (gR T s11 a0 12 0).bind fun a18 =>
    (gR T s11 a0 12 0).bind fun a19 =>
    (aI T s11 a19 13 (((170 : Int32) + x10) + (1 : Int32))).bind fun x20 =>
    (sI T s11 a18 ((170 : Int32) + x10) x20).bind fun s21 =>
    zn (x10 + (1 : Int32)) fun x22 =>
    k77 x22 s21)
def f_X12_bring_L27 (T : zT) (N : Nat) (a0 : Nat) (x1 : Int32) (x9 : Int32) (k27 : Int32 → zS → Option (Int32 × zS)) (x23 : Int32) (s24 : zS) : Option (Int32 × zS) :=
  if x23 ≤ 0 then (
    (gR T s24 a0 12 0).bind fun a25 =>
    (sI T s24 a25 (170 : Int32) x1).bind fun s26 =>
    some (x9, s26))
  else (
    (gR T s24 a0 12 0).bind fun a27 =>
    (gR T s24 a0 12 0).bind fun a28 =>
    (aI T s24 a28 13 (((170 : Int32) + x23) - (1 : Int32))).bind fun x29 =>
    (sI T s24 a27 ((170 : Int32) + x23) x29).bind fun s30 =>
    zn (x23 + (-1 : Int32)) fun x31 =>
    k27 x31 s30)
def f_X12_bring (T : zT) (N : Nat) (s0 : zS) (a0 : Nat) (x1 : Int32) (x2 : Int32) : Option (Int32 × zS) :=
  zz1 (T.1 a0 = 12) <|
  zb2 (f_X12_isShape T N s0 a0 x1) fun x6 s5 =>
  if ¬ x6 = 0 then (
    (f_X12_act T N s5 a0).bind fun s7 =>
    zb2 (f_X12_depthOf T N s7 a0 x1) fun x9 s8 =>
    if x2 = 0 then (
      zl2 (f_X12_bring_L77 T N a0 x1 x9) N x9 s8)
    else (
      zl2 (f_X12_bring_L27 T N a0 x1 x9) N x9 s8))
  else (
    some ((-1 : Int32), s5))
theorem k_X12_bring (T : zT) (N : Nat) (s0 : zS) (a0 : Nat) (x1 : Int32) (x2 : Int32) : ∀ q, f_X12_bring T N s0 a0 x1 x2 = some q → T.1 a0 = 12 := by
  intro q h
  unfold f_X12_bring at h
  exact zz_guard h (fun h _ => h)
set_option maxHeartbeats 4000000 in
set_option maxRecDepth 100000 in
theorem c_X12_bring (l : Launch) (D : va_G) (cy : Nat → ClassId) (T : zT) (hT : zok T) (ad : Nat → Nat) (N : Nat) (s0 : zS) (sz : Nat) (a0 : Nat) (x1 : Int32) (x2 : Int32) : ∀ (r0 : Int32) (σ0 : zS), f_X12_bring T N s0 a0 x1 x2 = some (r0, σ0) → Met l yX12_bring wsX12_bring ({ frames := 2, cells := 0, slots := 0, locals := 43 }) (va_Pc [.ref (ad a0), .int x1, .int x2] (zPre D cy T ad s0 sz)) (va_Qi (fun (r2 : Int32) (σ2 : zS) => r2 = r0 ∧ σ2 = σ0) (zAt D cy T ad (zA T ad sz)) (zA T ad sz)) 0 0 (zA T ad sz) := by
  intro r0 σ0 hq
  refine Met.ofW (cc := cX12_bring) (maxL := 5) (ret := (some .int)) (by decide) rfl ?_
  intro p e s m args below meth c s₁ B hml hv
  obtain ⟨hargs, hsz, hP, hK, hD0, hN⟩ := hv
  have hx := B.exec
  have hb := B.bytes
  have hr := B.returns
  have hts := atoms_spec (ws := wsX12_bring) B.pre
  have hown : s.vm.findClass RX12 = some m.cls := findClass_of_methodNamed B.named
  have hlocks := B.notSynchronized
  have S : CallFix p m c cX12_bring 5 s args wsX12_bring RX12 := ⟨hx, hb, hml, hown, hts⟩
  subst hsz
  have hB : zB D cy T ad (zA T ad s.heap.size) s.heap s0 s.heap [] s := zz_entry hP hK hD0 hN
  obtain ⟨ls, hent, hl⟩ := zz_ent m hargs (n := 5) (Nat.le_of_ble_eq_true rfl)
  rw [hent]
  have hl : lv_has ls 5 [(0, .ref (ad a0)), (1, .int x1), (2, .int x2)] := hl
  have iwX12 : ∀ w ∈ u_ws RX12 TX12 24, w ∈ wsX12_bring := fun w h => wS (inWX12 w h)
  unfold f_X12_bring at hq
  refine zz_guard hq (fun hk0 hq => ?_)
  refine lv_aload_n hx hb dX12_bring_0 rfl (lv_at hl 0 rfl) ?_
  refine lv_iload_n hx hb dX12_bring_1 rfl (lv_at hl 1 rfl) ?_
  refine zz_callVi S hT hB (As := [.int x1]) (b := a0) (o := f_X12_isShape T N s0 a0 x1) (c_X12_isShape l D cy T hT ad N s0 _ a0 x1) (cwV 1 hts (gV wSub wd_612 wd_613 wd_614 wd_572 wd_615) rfl rfl rfl (by decide +kernel) ⟨Nat.le_of_ble_eq_true rfl, Nat.le_of_ble_eq_true rfl⟩) (F := TX12) (NF := 24) 12 rfl (by decide) (k_X12_isShape T N s0 a0 x1) rfl hl.1 rfl (Nat.le_of_ble_eq_true rfl) dX12_bring_2 hq (fun x6 s5 H locs hq hB => ?_)
  refine zz_if_ne (tgt := 10) hx hb dX12_bring_5 (by decide) hq (fun hq => ?_) (fun hq => ?_)
  · refine lv_aload_n hx hb dX12_bring_10 rfl (lv_at hl 0 rfl) ?_
    refine zz_callVv S hT hB (As := []) (b := a0) (o := f_X12_act T N s5 a0) (c_X12_act l D cy T hT ad N s5 _ a0) (cwV 0 hts (gV wSub wd_604 wd_605 wd_606 wd_572 wd_607) rfl rfl rfl (by decide +kernel) ⟨Nat.le_of_ble_eq_true rfl, Nat.le_of_ble_eq_true rfl⟩) (F := TX12) (NF := 24) 12 rfl (by decide) (k_X12_act T N s5 a0) rfl hl.1 rfl (Nat.le_of_ble_eq_true rfl) dX12_bring_11 hq (fun s7 H locs hq hB => ?_)
    refine lv_aload_n hx hb dX12_bring_14 rfl (lv_at hl 0 rfl) ?_
    refine lv_iload_n hx hb dX12_bring_15 rfl (lv_at hl 1 rfl) ?_
    refine zz_callVi S hT hB (As := [.int x1]) (b := a0) (o := f_X12_depthOf T N s7 a0 x1) (c_X12_depthOf l D cy T hT ad N s7 _ a0 x1) (cwV 1 hts (gV wSub wd_616 wd_617 wd_618 wd_572 wd_619) rfl rfl rfl (by decide +kernel) ⟨Nat.le_of_ble_eq_true rfl, Nat.le_of_ble_eq_true rfl⟩) (F := TX12) (NF := 24) 12 rfl (by decide) (k_X12_depthOf T N s7 a0 x1) rfl hl.1 rfl (Nat.le_of_ble_eq_true rfl) dX12_bring_16 hq (fun x9 s8 H locs hq hB => ?_)
    refine lv_istore_n (lv' := [(3, .int x9), (0, .ref (ad a0)), (1, .int x1), (2, .int x2)]) hx hb dX12_bring_19 rfl hl (by decide) rfl (fun ls hl => ?_)
    refine lv_iload_n hx hb dX12_bring_20 rfl (lv_at hl 3 rfl) ?_
    refine zz_if_eq (tgt := 74) hx hb dX12_bring_21 (by decide) hq (fun hq => ?_) (fun hq => ?_)
    · refine lv_iload_n hx hb dX12_bring_74 rfl (lv_at hl 0 rfl) ?_
      refine lv_istore (lv' := [(4, .int x9), (3, .int x9), (0, .ref (ad a0)), (1, .int x1), (2, .int x2)]) hx hb dX12_bring_75 hl (by decide) rfl (fun ls hl => ?_)
      have L77 : ∀ (n : Nat) (x10 : Int32) (s11 : zS) (H : Heap) (locs : List Loc) (ls : Array Slot), zl2 (f_X12_bring_L77 T N a0 x1 x9) n x10 s11 = some (r0, σ0) → zB D cy T ad (zA T ad s.heap.size) s.heap s11 H locs s → lv_has ls 5 [(0, .ref (ad a0)), (1, .int x1), (3, .int x9), (4, .int x10)] → W p l e (headSpec wsX12_bring ({ frames := 2, cells := 0, slots := 0, locals := 43 } : Room)).room s m args below meth c H locs 0 0 (MQ below (va_Qi (fun (r2 : Int32) (σ2 : zS) => r2 = r0 ∧ σ2 = σ0) (zAt D cy T ad (zA T ad s.heap.size)) (zA T ad s.heap.size)) args s 0 0 (zA T ad s.heap.size)) (F0 m 77 ls []) := by
        intro n
        induction n with
        | zero => intro x10 s11 H locs ls hq; exact zz_none hq
        | succ n ih77 =>
          intro x10 s11 H locs ls hq hB hl
          rw [zl2] at hq
          generalize zl2 (f_X12_bring_L77 T N a0 x1 x9) n = k77 at ih77 hq
          unfold f_X12_bring_L77 at hq
          refine lv_iload hx hb dX12_bring_77 (lv_at hl 3 rfl) ?_
          refine lv_aload_n hx hb dX12_bring_79 rfl (lv_at hl 0 rfl) ?_
          refine zz_getR S hT hB (C := RX12) (ref := "DiagramDeskModel") (F := TX12) (N := 24) (index := 7) 12 0 iwX12 rfl (by decide) (by decide) rfl rfl (wS wd_569) (fun _ h9 => h9) dX12_bring_80 hq (fun a12 hq => ?_)
          refine lv_iconst (v := 1) hx hb dX12_bring_83 (by decide) ?_
          refine zz_ald S hT hB dX12_bring_84 hq (fun x13 hq => ?_)
          refine lv_iconst (v := 1) hx hb dX12_bring_85 (by decide) ?_
          refine lv_isub hx hb dX12_bring_86 ?_
          refine zz_icmp_ge (tgt := 120) hx hb dX12_bring_87 (by decide) hq (fun hq => ?_) (fun hq => ?_)
          · refine lv_aload_n hx hb dX12_bring_120 rfl (lv_at hl 0 rfl) ?_
            refine zz_getR S hT hB (C := RX12) (ref := "DiagramDeskModel") (F := TX12) (N := 24) (index := 7) 12 0 iwX12 rfl (by decide) (by decide) rfl rfl (wS wd_569) (fun _ h9 => h9) dX12_bring_121 hq (fun a14 hq => ?_)
            refine lv_sipush (v := 170) hx hb dX12_bring_124 (by decide) ?_
            refine lv_aload_n hx hb dX12_bring_127 rfl (lv_at hl 0 rfl) ?_
            refine zz_getR S hT hB (C := RX12) (ref := "DiagramDeskModel") (F := TX12) (N := 24) (index := 7) 12 0 iwX12 rfl (by decide) (by decide) rfl rfl (wS wd_569) (fun _ h9 => h9) dX12_bring_128 hq (fun a15 hq => ?_)
            refine lv_iconst (v := 1) hx hb dX12_bring_131 (by decide) ?_
            refine zz_ald S hT hB dX12_bring_132 hq (fun x16 hq => ?_)
            refine lv_iadd hx hb dX12_bring_133 ?_
            refine lv_iconst (v := 1) hx hb dX12_bring_134 (by decide) ?_
            refine lv_isub hx hb dX12_bring_135 ?_
            refine lv_iload_n hx hb dX12_bring_136 rfl (lv_at hl 1 rfl) ?_
            refine zz_ast S hT hB dX12_bring_137 hq (fun s17 H locs hq hB => ?_)
            refine lv_iload_n hx hb dX12_bring_138 rfl (lv_at hl 2 rfl) ?_
            exact zz_iret S hB hr hlocks dX12_bring_139 hq
          · refine lv_aload_n hx hb dX12_bring_90 rfl (lv_at hl 0 rfl) ?_
            refine zz_getR S hT hB (C := RX12) (ref := "DiagramDeskModel") (F := TX12) (N := 24) (index := 7) 12 0 iwX12 rfl (by decide) (by decide) rfl rfl (wS wd_569) (fun _ h9 => h9) dX12_bring_91 hq (fun a18 hq => ?_)
            refine lv_sipush (v := 170) hx hb dX12_bring_94 (by decide) ?_
            refine lv_iload hx hb dX12_bring_97 (lv_at hl 3 rfl) ?_
            refine lv_iadd hx hb dX12_bring_99 ?_
            refine lv_aload_n hx hb dX12_bring_100 rfl (lv_at hl 0 rfl) ?_
            refine zz_getR S hT hB (C := RX12) (ref := "DiagramDeskModel") (F := TX12) (N := 24) (index := 7) 12 0 iwX12 rfl (by decide) (by decide) rfl rfl (wS wd_569) (fun _ h9 => h9) dX12_bring_101 hq (fun a19 hq => ?_)
            refine lv_sipush (v := 170) hx hb dX12_bring_104 (by decide) ?_
            refine lv_iload hx hb dX12_bring_107 (lv_at hl 3 rfl) ?_
            refine lv_iadd hx hb dX12_bring_109 ?_
            refine lv_iconst (v := 1) hx hb dX12_bring_110 (by decide) ?_
            refine lv_iadd hx hb dX12_bring_111 ?_
            refine zz_ald S hT hB dX12_bring_112 hq (fun x20 hq => ?_)
            refine zz_ast S hT hB dX12_bring_113 hq (fun s21 H locs hq hB => ?_)
            refine zz_nmV hq (fun x22 ex22 hq => ?_)
            refine lv_iinc (v := x22) (lv' := [(4, .int x22), (0, .ref (ad a0)), (1, .int x1), (3, .int x9)]) hx hb dX12_bring_114 hl (k := 3) rfl (by rw [ex22]; rfl) (by decide) rfl (fun ls hl => ?_)
            refine lv_goto (tgt := 77) hx hb dX12_bring_117 (by decide) ?_
            exact ih77 x22 s21 _ _ _ hq hB (lv_sub hl [1, 2, 3, 0] rfl)
      exact L77 N x9 s8 _ _ _ hq hB (lv_sub hl [2, 3, 1, 0] rfl)
    · refine lv_iload_n hx hb dX12_bring_24 rfl (lv_at hl 0 rfl) ?_
      refine lv_istore (lv' := [(4, .int x9), (3, .int x9), (0, .ref (ad a0)), (1, .int x1), (2, .int x2)]) hx hb dX12_bring_25 hl (by decide) rfl (fun ls hl => ?_)
      have L27 : ∀ (n : Nat) (x23 : Int32) (s24 : zS) (H : Heap) (locs : List Loc) (ls : Array Slot), zl2 (f_X12_bring_L27 T N a0 x1 x9) n x23 s24 = some (r0, σ0) → zB D cy T ad (zA T ad s.heap.size) s.heap s24 H locs s → lv_has ls 5 [(0, .ref (ad a0)), (1, .int x1), (3, .int x9), (4, .int x23)] → W p l e (headSpec wsX12_bring ({ frames := 2, cells := 0, slots := 0, locals := 43 } : Room)).room s m args below meth c H locs 0 0 (MQ below (va_Qi (fun (r2 : Int32) (σ2 : zS) => r2 = r0 ∧ σ2 = σ0) (zAt D cy T ad (zA T ad s.heap.size)) (zA T ad s.heap.size)) args s 0 0 (zA T ad s.heap.size)) (F0 m 27 ls []) := by
        intro n
        induction n with
        | zero => intro x23 s24 H locs ls hq; exact zz_none hq
        | succ n ih27 =>
          intro x23 s24 H locs ls hq hB hl
          rw [zl2] at hq
          generalize zl2 (f_X12_bring_L27 T N a0 x1 x9) n = k27 at ih27 hq
          unfold f_X12_bring_L27 at hq
          refine lv_iload hx hb dX12_bring_27 (lv_at hl 3 rfl) ?_
          refine zz_if_le (tgt := 62) hx hb dX12_bring_29 (by decide) hq (fun hq => ?_) (fun hq => ?_)
          · refine lv_aload_n hx hb dX12_bring_62 rfl (lv_at hl 0 rfl) ?_
            refine zz_getR S hT hB (C := RX12) (ref := "DiagramDeskModel") (F := TX12) (N := 24) (index := 7) 12 0 iwX12 rfl (by decide) (by decide) rfl rfl (wS wd_569) (fun _ h9 => h9) dX12_bring_63 hq (fun a25 hq => ?_)
            refine lv_sipush (v := 170) hx hb dX12_bring_66 (by decide) ?_
            refine lv_iload_n hx hb dX12_bring_69 rfl (lv_at hl 1 rfl) ?_
            refine zz_ast S hT hB dX12_bring_70 hq (fun s26 H locs hq hB => ?_)
            refine lv_goto (tgt := 138) hx hb dX12_bring_71 (by decide) ?_
            refine lv_iload_n hx hb dX12_bring_138 rfl (lv_at hl 2 rfl) ?_
            exact zz_iret S hB hr hlocks dX12_bring_139 hq
          · refine lv_aload_n hx hb dX12_bring_32 rfl (lv_at hl 0 rfl) ?_
            refine zz_getR S hT hB (C := RX12) (ref := "DiagramDeskModel") (F := TX12) (N := 24) (index := 7) 12 0 iwX12 rfl (by decide) (by decide) rfl rfl (wS wd_569) (fun _ h9 => h9) dX12_bring_33 hq (fun a27 hq => ?_)
            refine lv_sipush (v := 170) hx hb dX12_bring_36 (by decide) ?_
            refine lv_iload hx hb dX12_bring_39 (lv_at hl 3 rfl) ?_
            refine lv_iadd hx hb dX12_bring_41 ?_
            refine lv_aload_n hx hb dX12_bring_42 rfl (lv_at hl 0 rfl) ?_
            refine zz_getR S hT hB (C := RX12) (ref := "DiagramDeskModel") (F := TX12) (N := 24) (index := 7) 12 0 iwX12 rfl (by decide) (by decide) rfl rfl (wS wd_569) (fun _ h9 => h9) dX12_bring_43 hq (fun a28 hq => ?_)
            refine lv_sipush (v := 170) hx hb dX12_bring_46 (by decide) ?_
            refine lv_iload hx hb dX12_bring_49 (lv_at hl 3 rfl) ?_
            refine lv_iadd hx hb dX12_bring_51 ?_
            refine lv_iconst (v := 1) hx hb dX12_bring_52 (by decide) ?_
            refine lv_isub hx hb dX12_bring_53 ?_
            refine zz_ald S hT hB dX12_bring_54 hq (fun x29 hq => ?_)
            refine zz_ast S hT hB dX12_bring_55 hq (fun s30 H locs hq hB => ?_)
            refine zz_nmV hq (fun x31 ex31 hq => ?_)
            refine lv_iinc (v := x31) (lv' := [(4, .int x31), (0, .ref (ad a0)), (1, .int x1), (3, .int x9)]) hx hb dX12_bring_56 hl (k := 3) rfl (by rw [ex31]; rfl) (by decide) rfl (fun ls hl => ?_)
            refine lv_goto (tgt := 27) hx hb dX12_bring_59 (by decide) ?_
            exact ih27 x31 s30 _ _ _ hq hB (lv_sub hl [1, 2, 3, 0] rfl)
      exact L27 N x9 s8 _ _ _ hq hB (lv_sub hl [2, 3, 1, 0] rfl)
  · refine lv_iconst (v := -1) hx hb dX12_bring_8 (by decide) ?_
    exact zz_iret S hB hr hlocks dX12_bring_9 hq
def f_X12_contains_J149 (T : zT) (N : Nat) (a0 : Nat) (x1 : Int32) (y10 : Int64) (y13 : Int64) (s17 : zS) (y20 : Int64) (y21 : Int64) : Option (Int32 × zS) :=
  zb2 (f_X12_of T N s17 a0 x1 (1 : Int32)) fun x23 s22 =>
  if ¬ x23 = (1 : Int32) then (
    if 0 < (lg_cmp ((y20 * y13) + (y21 * y10)) (y10 * y13)) then (
      rZ (0 : Int32) s22)
    else (
      rZ (1 : Int32) s22))
  else (
    if 0 < (lg_cmp ((((y20 * y20) * y13) * y13) + (((y21 * y21) * y10) * y10)) (((y10 * y10) * y13) * y13)) then (
      rZ (0 : Int32) s22)
    else (
      rZ (1 : Int32) s22))
def f_X12_contains_J132 (T : zT) (N : Nat) (a0 : Nat) (x1 : Int32) (y10 : Int64) (y13 : Int64) (s17 : zS) (y19 : Int64) (y20 : Int64) : Option (Int32 × zS) :=
  if 0 ≤ (lg_cmp y19 (0 : Int64)) then (
    f_X12_contains_J149 T N a0 x1 y10 y13 s17 y20 y19)
  else (
    f_X12_contains_J149 T N a0 x1 y10 y13 s17 y20 (-y19))
def f_X12_contains (T : zT) (N : Nat) (s0 : zS) (a0 : Nat) (x1 : Int32) (x2 : Int32) (x3 : Int32) : Option (Int32 × zS) :=
  zz1 (T.1 a0 = 12) <|
  zb2 (f_X12_of T N s0 a0 x1 (1 : Int32)) fun x7 s6 =>
  if ¬ x7 = 0 then (
    zb2 (f_X12_of T N s6 a0 x1 (4 : Int32)) fun x9 s8 =>
    zn ((x9).toInt64) fun y10 =>
    zb2 (f_X12_of T N s8 a0 x1 (5 : Int32)) fun x12 s11 =>
    zn ((x12).toInt64) fun y13 =>
    zb2 (f_X12_begin T N s11 a0 x1 (0 : Int32)) fun x15 s14 =>
    zn ((((2 : Int64) * ((x2).toInt64)) - ((2 : Int64) * ((x15).toInt64))) - y10) fun y16 =>
    zb2 (f_X12_begin T N s14 a0 x1 (1 : Int32)) fun x18 s17 =>
    zn ((((2 : Int64) * ((x3).toInt64)) - ((2 : Int64) * ((x18).toInt64))) - y13) fun y19 =>
    if 0 ≤ (lg_cmp y16 (0 : Int64)) then (
      f_X12_contains_J132 T N a0 x1 y10 y13 s17 y19 y16)
    else (
      f_X12_contains_J132 T N a0 x1 y10 y13 s17 y19 (-y16)))
  else (
    zb2 (f_X12_begin T N s6 a0 x1 (0 : Int32)) fun x25 s24 =>
    zb2 (f_X12_end T N s24 a0 x1 (0 : Int32)) fun x27 s26 =>
    zb2 (f_X12_in T N s26 x2 x25 x27) fun x29 s28 =>
    if x29 = 0 then (
      rZ (0 : Int32) s28)
    else (
      zb2 (f_X12_begin T N s28 a0 x1 (1 : Int32)) fun x31 s30 =>
      zb2 (f_X12_end T N s30 a0 x1 (1 : Int32)) fun x33 s32 =>
      zb2 (f_X12_in T N s32 x3 x31 x33) fun x35 s34 =>
      if x35 = 0 then (
        rZ (0 : Int32) s34)
      else (
        rZ (1 : Int32) s34)))
theorem k_X12_contains (T : zT) (N : Nat) (s0 : zS) (a0 : Nat) (x1 : Int32) (x2 : Int32) (x3 : Int32) : ∀ q, f_X12_contains T N s0 a0 x1 x2 x3 = some q → T.1 a0 = 12 := by
  intro q h
  unfold f_X12_contains at h
  exact zz_guard h (fun h _ => h)
set_option maxHeartbeats 4000000 in
set_option maxRecDepth 100000 in
theorem c_X12_contains (l : Launch) (D : va_G) (cy : Nat → ClassId) (T : zT) (hT : zok T) (ad : Nat → Nat) (N : Nat) (s0 : zS) (sz : Nat) (a0 : Nat) (x1 : Int32) (x2 : Int32) (x3 : Int32) : ∀ (r0 : Int32) (σ0 : zS), f_X12_contains T N s0 a0 x1 x2 x3 = some (r0, σ0) → Met l yX12_contains wsX12_contains ({ frames := 2, cells := 0, slots := 0, locals := 44 }) (va_Pc [.ref (ad a0), .int x1, .int x2, .int x3] (zPre D cy T ad s0 sz)) (va_Qi (fun (r2 : Int32) (σ2 : zS) => r2 = r0 ∧ σ2 = σ0) (zAt D cy T ad (zA T ad sz)) (zA T ad sz)) 0 0 (zA T ad sz) := by
  intro r0 σ0 hq
  refine Met.ofW (cc := cX12_contains) (maxL := 12) (ret := (some .boolean)) (by decide) rfl ?_
  intro p e s m args below meth c s₁ B hml hv
  obtain ⟨hargs, hsz, hP, hK, hD0, hN⟩ := hv
  have hx := B.exec
  have hb := B.bytes
  have hr := B.returns
  have hts := atoms_spec (ws := wsX12_contains) B.pre
  have hown : s.vm.findClass RX12 = some m.cls := findClass_of_methodNamed B.named
  have hlocks := B.notSynchronized
  have S : CallFix p m c cX12_contains 12 s args wsX12_contains RX12 := ⟨hx, hb, hml, hown, hts⟩
  subst hsz
  have hB : zB D cy T ad (zA T ad s.heap.size) s.heap s0 s.heap [] s := zz_entry hP hK hD0 hN
  obtain ⟨ls, hent, hl⟩ := zz_ent m hargs (n := 12) (Nat.le_of_ble_eq_true rfl)
  rw [hent]
  have hl : lv_has ls 12 [(0, .ref (ad a0)), (1, .int x1), (2, .int x2), (3, .int x3)] := hl
  unfold f_X12_contains at hq
  refine zz_guard hq (fun hk0 hq => ?_)
  refine lv_aload_n hx hb dX12_contains_0 rfl (lv_at hl 0 rfl) ?_
  refine lv_iload_n hx hb dX12_contains_1 rfl (lv_at hl 1 rfl) ?_
  refine lv_iconst (v := 1) hx hb dX12_contains_2 (by decide) ?_
  refine zz_callVi S hT hB (As := [.int x1, .int (1 : Int32)]) (b := a0) (o := f_X12_of T N s0 a0 x1 (1 : Int32)) (c_X12_of l D cy T hT ad N s0 _ a0 x1 (1 : Int32)) (cwV 2 hts (gV wSub wd_574 wd_575 wd_576 wd_572 wd_577) rfl rfl rfl (by decide +kernel) ⟨Nat.le_of_ble_eq_true rfl, Nat.le_of_ble_eq_true rfl⟩) (F := TX12) (NF := 24) 12 rfl (by decide) (k_X12_of T N s0 a0 x1 (1 : Int32)) rfl hl.1 rfl (Nat.le_of_ble_eq_true rfl) dX12_contains_3 hq (fun x7 s6 H locs hq hB => ?_)
  refine zz_if_ne (tgt := 53) hx hb dX12_contains_6 (by decide) hq (fun hq => ?_) (fun hq => ?_)
  · refine lv_aload_n hx hb dX12_contains_53 rfl (lv_at hl 0 rfl) ?_
    refine lv_iload_n hx hb dX12_contains_54 rfl (lv_at hl 1 rfl) ?_
    refine lv_iconst (v := 4) hx hb dX12_contains_55 (by decide) ?_
    refine zz_callVi S hT hB (As := [.int x1, .int (4 : Int32)]) (b := a0) (o := f_X12_of T N s6 a0 x1 (4 : Int32)) (c_X12_of l D cy T hT ad N s6 _ a0 x1 (4 : Int32)) (cwV 2 hts (gV wSub wd_574 wd_575 wd_576 wd_572 wd_577) rfl rfl rfl (by decide +kernel) ⟨Nat.le_of_ble_eq_true rfl, Nat.le_of_ble_eq_true rfl⟩) (F := TX12) (NF := 24) 12 rfl (by decide) (k_X12_of T N s6 a0 x1 (4 : Int32)) rfl hl.1 rfl (Nat.le_of_ble_eq_true rfl) dX12_contains_56 hq (fun x9 s8 H locs hq hB => ?_)
    refine lv_i2l (v := (x9).toInt64) hx hb dX12_contains_59 rfl ?_
    refine zz_nmJ hq (fun y10 hq => ?_)
    refine lv_lstore (lv' := [(4, .long y10), (0, .ref (ad a0)), (1, .int x1), (2, .int x2), (3, .int x3)]) hx hb dX12_contains_60 hl (by decide) rfl (fun ls hl => ?_)
    refine lv_aload_n hx hb dX12_contains_62 rfl (lv_at hl 1 rfl) ?_
    refine lv_iload_n hx hb dX12_contains_63 rfl (lv_at hl 2 rfl) ?_
    refine lv_iconst (v := 5) hx hb dX12_contains_64 (by decide) ?_
    refine zz_callVi S hT hB (As := [.int x1, .int (5 : Int32)]) (b := a0) (o := f_X12_of T N s8 a0 x1 (5 : Int32)) (c_X12_of l D cy T hT ad N s8 _ a0 x1 (5 : Int32)) (cwV 2 hts (gV wSub wd_574 wd_575 wd_576 wd_572 wd_577) rfl rfl rfl (by decide +kernel) ⟨Nat.le_of_ble_eq_true rfl, Nat.le_of_ble_eq_true rfl⟩) (F := TX12) (NF := 24) 12 rfl (by decide) (k_X12_of T N s8 a0 x1 (5 : Int32)) rfl hl.1 rfl (Nat.le_of_ble_eq_true rfl) dX12_contains_65 hq (fun x12 s11 H locs hq hB => ?_)
    refine lv_i2l (v := (x12).toInt64) hx hb dX12_contains_68 rfl ?_
    refine zz_nmJ hq (fun y13 hq => ?_)
    refine lv_lstore (lv' := [(6, .long y13), (4, .long y10), (0, .ref (ad a0)), (1, .int x1), (2, .int x2), (3, .int x3)]) hx hb dX12_contains_69 hl (by decide) rfl (fun ls hl => ?_)
    refine lv_ldc2 (v := 2) hx hb hown (hts _ (wS wd_657)) dX12_contains_71 ?_
    refine lv_iload_n hx hb dX12_contains_74 rfl (lv_at hl 4 rfl) ?_
    refine lv_i2l (v := (x2).toInt64) hx hb dX12_contains_75 rfl ?_
    refine lv_lmul hx hb dX12_contains_76 ?_
    refine lv_ldc2 (v := 2) hx hb hown (hts _ (wS wd_657)) dX12_contains_77 ?_
    refine lv_aload_n hx hb dX12_contains_80 rfl (lv_at hl 2 rfl) ?_
    refine lv_iload_n hx hb dX12_contains_81 rfl (lv_at hl 3 rfl) ?_
    refine lv_iconst (v := 0) hx hb dX12_contains_82 (by decide) ?_
    refine zz_callVi S hT hB (As := [.int x1, .int (0 : Int32)]) (b := a0) (o := f_X12_begin T N s11 a0 x1 (0 : Int32)) (c_X12_begin l D cy T hT ad N s11 _ a0 x1 (0 : Int32)) (cwV 2 hts (gV wSub wd_645 wd_646 wd_647 wd_572 wd_648) rfl rfl rfl (by decide +kernel) ⟨Nat.le_of_ble_eq_true rfl, Nat.le_of_ble_eq_true rfl⟩) (F := TX12) (NF := 24) 12 rfl (by decide) (k_X12_begin T N s11 a0 x1 (0 : Int32)) rfl hl.1 rfl (Nat.le_of_ble_eq_true rfl) dX12_contains_83 hq (fun x15 s14 H locs hq hB => ?_)
    refine lv_i2l (v := (x15).toInt64) hx hb dX12_contains_86 rfl ?_
    refine lv_lmul hx hb dX12_contains_87 ?_
    refine lv_lsub hx hb dX12_contains_88 ?_
    refine lv_lload hx hb dX12_contains_89 (lv_at hl 1 rfl) ?_
    refine lv_lsub hx hb dX12_contains_91 ?_
    refine zz_nmJ hq (fun y16 hq => ?_)
    refine lv_lstore (lv' := [(8, .long y16), (6, .long y13), (4, .long y10), (0, .ref (ad a0)), (1, .int x1), (2, .int x2), (3, .int x3)]) hx hb dX12_contains_92 hl (by decide) rfl (fun ls hl => ?_)
    refine lv_ldc2 (v := 2) hx hb hown (hts _ (wS wd_657)) dX12_contains_94 ?_
    refine lv_iload_n hx hb dX12_contains_97 rfl (lv_at hl 6 rfl) ?_
    refine lv_i2l (v := (x3).toInt64) hx hb dX12_contains_98 rfl ?_
    refine lv_lmul hx hb dX12_contains_99 ?_
    refine lv_ldc2 (v := 2) hx hb hown (hts _ (wS wd_657)) dX12_contains_100 ?_
    refine lv_aload_n hx hb dX12_contains_103 rfl (lv_at hl 3 rfl) ?_
    refine lv_iload_n hx hb dX12_contains_104 rfl (lv_at hl 4 rfl) ?_
    refine lv_iconst (v := 1) hx hb dX12_contains_105 (by decide) ?_
    refine zz_callVi S hT hB (As := [.int x1, .int (1 : Int32)]) (b := a0) (o := f_X12_begin T N s14 a0 x1 (1 : Int32)) (c_X12_begin l D cy T hT ad N s14 _ a0 x1 (1 : Int32)) (cwV 2 hts (gV wSub wd_645 wd_646 wd_647 wd_572 wd_648) rfl rfl rfl (by decide +kernel) ⟨Nat.le_of_ble_eq_true rfl, Nat.le_of_ble_eq_true rfl⟩) (F := TX12) (NF := 24) 12 rfl (by decide) (k_X12_begin T N s14 a0 x1 (1 : Int32)) rfl hl.1 rfl (Nat.le_of_ble_eq_true rfl) dX12_contains_106 hq (fun x18 s17 H locs hq hB => ?_)
    refine lv_i2l (v := (x18).toInt64) hx hb dX12_contains_109 rfl ?_
    refine lv_lmul hx hb dX12_contains_110 ?_
    refine lv_lsub hx hb dX12_contains_111 ?_
    refine lv_lload hx hb dX12_contains_112 (lv_at hl 1 rfl) ?_
    refine lv_lsub hx hb dX12_contains_114 ?_
    refine zz_nmJ hq (fun y19 hq => ?_)
    refine lv_lstore (lv' := [(10, .long y19), (8, .long y16), (6, .long y13), (4, .long y10), (0, .ref (ad a0)), (1, .int x1), (2, .int x2), (3, .int x3)]) hx hb dX12_contains_115 hl (by decide) rfl (fun ls hl => ?_)
    refine lv_lload hx hb dX12_contains_117 (lv_at hl 1 rfl) ?_
    refine lv_lconst (v := 0) hx hb dX12_contains_119 (by decide) ?_
    refine W.lcmp hx hb dX12_contains_120 ?_
    have J132 : ∀ (y20 : Int64) (H : Heap) (locs : List Loc) (ls : Array Slot), f_X12_contains_J132 T N a0 x1 y10 y13 s17 y19 y20 = some (r0, σ0) → zB D cy T ad (zA T ad s.heap.size) s.heap s17 H locs s → lv_has ls 12 [(0, .ref (ad a0)), (1, .int x1), (4, .long y10), (6, .long y13), (10, .long y19)] → W p l e (headSpec wsX12_contains ({ frames := 2, cells := 0, slots := 0, locals := 44 } : Room)).room s m args below meth c H locs 0 0 (MQ below (va_Qi (fun (r2 : Int32) (σ2 : zS) => r2 = r0 ∧ σ2 = σ0) (zAt D cy T ad (zA T ad s.heap.size)) (zA T ad s.heap.size)) args s 0 0 (zA T ad s.heap.size)) (F0 m 132 ls [.long y20]) := by
      intro y20 H locs ls hq hB hl
      unfold f_X12_contains_J132 at hq
      refine lv_lstore (lv' := [(8, .long y20), (0, .ref (ad a0)), (1, .int x1), (4, .long y10), (6, .long y13), (10, .long y19)]) hx hb dX12_contains_132 hl (by decide) rfl (fun ls hl => ?_)
      refine lv_lload hx hb dX12_contains_134 (lv_at hl 5 rfl) ?_
      refine lv_lconst (v := 0) hx hb dX12_contains_136 (by decide) ?_
      refine W.lcmp hx hb dX12_contains_137 ?_
      have J149 : ∀ (y21 : Int64) (H : Heap) (locs : List Loc) (ls : Array Slot), f_X12_contains_J149 T N a0 x1 y10 y13 s17 y20 y21 = some (r0, σ0) → zB D cy T ad (zA T ad s.heap.size) s.heap s17 H locs s → lv_has ls 12 [(0, .ref (ad a0)), (1, .int x1), (4, .long y10), (6, .long y13), (8, .long y20)] → W p l e (headSpec wsX12_contains ({ frames := 2, cells := 0, slots := 0, locals := 44 } : Room)).room s m args below meth c H locs 0 0 (MQ below (va_Qi (fun (r2 : Int32) (σ2 : zS) => r2 = r0 ∧ σ2 = σ0) (zAt D cy T ad (zA T ad s.heap.size)) (zA T ad s.heap.size)) args s 0 0 (zA T ad s.heap.size)) (F0 m 149 ls [.long y21]) := by
        intro y21 H locs ls hq hB hl
        unfold f_X12_contains_J149 at hq
        refine lv_lstore (lv' := [(10, .long y21), (0, .ref (ad a0)), (1, .int x1), (4, .long y10), (6, .long y13), (8, .long y20)]) hx hb dX12_contains_149 hl (by decide) rfl (fun ls hl => ?_)
        refine lv_aload_n hx hb dX12_contains_151 rfl (lv_at hl 1 rfl) ?_
        refine lv_iload_n hx hb dX12_contains_152 rfl (lv_at hl 2 rfl) ?_
        refine lv_iconst (v := 1) hx hb dX12_contains_153 (by decide) ?_
        refine zz_callVi S hT hB (As := [.int x1, .int (1 : Int32)]) (b := a0) (o := f_X12_of T N s17 a0 x1 (1 : Int32)) (c_X12_of l D cy T hT ad N s17 _ a0 x1 (1 : Int32)) (cwV 2 hts (gV wSub wd_574 wd_575 wd_576 wd_572 wd_577) rfl rfl rfl (by decide +kernel) ⟨Nat.le_of_ble_eq_true rfl, Nat.le_of_ble_eq_true rfl⟩) (F := TX12) (NF := 24) 12 rfl (by decide) (k_X12_of T N s17 a0 x1 (1 : Int32)) rfl hl.1 rfl (Nat.le_of_ble_eq_true rfl) dX12_contains_154 hq (fun x23 s22 H locs hq hB => ?_)
        refine lv_iconst (v := 1) hx hb dX12_contains_157 (by decide) ?_
        refine zz_icmp_ne (tgt := 207) hx hb dX12_contains_158 (by decide) hq (fun hq => ?_) (fun hq => ?_)
        · refine lv_lload hx hb dX12_contains_207 (lv_at hl 5 rfl) ?_
          refine lv_lload hx hb dX12_contains_209 (lv_at hl 4 rfl) ?_
          refine lv_lmul hx hb dX12_contains_211 ?_
          refine lv_lload hx hb dX12_contains_212 (lv_at hl 0 rfl) ?_
          refine lv_lload hx hb dX12_contains_214 (lv_at hl 3 rfl) ?_
          refine lv_lmul hx hb dX12_contains_216 ?_
          refine lv_ladd hx hb dX12_contains_217 ?_
          refine lv_lload hx hb dX12_contains_218 (lv_at hl 3 rfl) ?_
          refine lv_lload hx hb dX12_contains_220 (lv_at hl 4 rfl) ?_
          refine lv_lmul hx hb dX12_contains_222 ?_
          refine W.lcmp hx hb dX12_contains_223 ?_
          refine zz_if_gt (tgt := 231) hx hb dX12_contains_224 (by decide) hq (fun hq => ?_) (fun hq => ?_)
          · refine lv_iconst (v := 0) hx hb dX12_contains_231 (by decide) ?_
            exact zz_zret S hB hr hlocks dX12_contains_232 hq
          · refine lv_iconst (v := 1) hx hb dX12_contains_227 (by decide) ?_
            refine lv_goto (tgt := 232) hx hb dX12_contains_228 (by decide) ?_
            exact zz_zret S hB hr hlocks dX12_contains_232 hq
        · refine lv_lload hx hb dX12_contains_161 (lv_at hl 5 rfl) ?_
          refine lv_lload hx hb dX12_contains_163 (lv_at hl 5 rfl) ?_
          refine lv_lmul hx hb dX12_contains_165 ?_
          refine lv_lload hx hb dX12_contains_166 (lv_at hl 4 rfl) ?_
          refine lv_lmul hx hb dX12_contains_168 ?_
          refine lv_lload hx hb dX12_contains_169 (lv_at hl 4 rfl) ?_
          refine lv_lmul hx hb dX12_contains_171 ?_
          refine lv_lload hx hb dX12_contains_172 (lv_at hl 0 rfl) ?_
          refine lv_lload hx hb dX12_contains_174 (lv_at hl 0 rfl) ?_
          refine lv_lmul hx hb dX12_contains_176 ?_
          refine lv_lload hx hb dX12_contains_177 (lv_at hl 3 rfl) ?_
          refine lv_lmul hx hb dX12_contains_179 ?_
          refine lv_lload hx hb dX12_contains_180 (lv_at hl 3 rfl) ?_
          refine lv_lmul hx hb dX12_contains_182 ?_
          refine lv_ladd hx hb dX12_contains_183 ?_
          refine lv_lload hx hb dX12_contains_184 (lv_at hl 3 rfl) ?_
          refine lv_lload hx hb dX12_contains_186 (lv_at hl 3 rfl) ?_
          refine lv_lmul hx hb dX12_contains_188 ?_
          refine lv_lload hx hb dX12_contains_189 (lv_at hl 4 rfl) ?_
          refine lv_lmul hx hb dX12_contains_191 ?_
          refine lv_lload hx hb dX12_contains_192 (lv_at hl 4 rfl) ?_
          refine lv_lmul hx hb dX12_contains_194 ?_
          refine W.lcmp hx hb dX12_contains_195 ?_
          refine zz_if_gt (tgt := 203) hx hb dX12_contains_196 (by decide) hq (fun hq => ?_) (fun hq => ?_)
          · refine lv_iconst (v := 0) hx hb dX12_contains_203 (by decide) ?_
            refine lv_goto (tgt := 232) hx hb dX12_contains_204 (by decide) ?_
            exact zz_zret S hB hr hlocks dX12_contains_232 hq
          · refine lv_iconst (v := 1) hx hb dX12_contains_199 (by decide) ?_
            refine lv_goto (tgt := 232) hx hb dX12_contains_200 (by decide) ?_
            exact zz_zret S hB hr hlocks dX12_contains_232 hq
      refine zz_if_ge (tgt := 147) hx hb dX12_contains_138 (by decide) hq (fun hq => ?_) (fun hq => ?_)
      · refine lv_lload hx hb dX12_contains_147 (lv_at hl 5 rfl) ?_
        exact J149 y19 _ _ _ hq hB (lv_sub hl [1, 2, 3, 4, 0] rfl)
      · refine lv_lload hx hb dX12_contains_141 (lv_at hl 5 rfl) ?_
        refine lv_lneg hx hb dX12_contains_143 ?_
        refine lv_goto (tgt := 149) hx hb dX12_contains_144 (by decide) ?_
        exact J149 (-y19) _ _ _ hq hB (lv_sub hl [1, 2, 3, 4, 0] rfl)
    refine zz_if_ge (tgt := 130) hx hb dX12_contains_121 (by decide) hq (fun hq => ?_) (fun hq => ?_)
    · refine lv_lload hx hb dX12_contains_130 (lv_at hl 1 rfl) ?_
      exact J132 y16 _ _ _ hq hB (lv_sub hl [4, 5, 3, 2, 0] rfl)
    · refine lv_lload hx hb dX12_contains_124 (lv_at hl 1 rfl) ?_
      refine lv_lneg hx hb dX12_contains_126 ?_
      refine lv_goto (tgt := 132) hx hb dX12_contains_127 (by decide) ?_
      exact J132 (-y16) _ _ _ hq hB (lv_sub hl [4, 5, 3, 2, 0] rfl)
  · refine lv_iload_n hx hb dX12_contains_9 rfl (lv_at hl 2 rfl) ?_
    refine lv_aload_n hx hb dX12_contains_10 rfl (lv_at hl 0 rfl) ?_
    refine lv_iload_n hx hb dX12_contains_11 rfl (lv_at hl 1 rfl) ?_
    refine lv_iconst (v := 0) hx hb dX12_contains_12 (by decide) ?_
    refine zz_callVi S hT hB (As := [.int x1, .int (0 : Int32)]) (b := a0) (o := f_X12_begin T N s6 a0 x1 (0 : Int32)) (c_X12_begin l D cy T hT ad N s6 _ a0 x1 (0 : Int32)) (cwV 2 hts (gV wSub wd_645 wd_646 wd_647 wd_572 wd_648) rfl rfl rfl (by decide +kernel) ⟨Nat.le_of_ble_eq_true rfl, Nat.le_of_ble_eq_true rfl⟩) (F := TX12) (NF := 24) 12 rfl (by decide) (k_X12_begin T N s6 a0 x1 (0 : Int32)) rfl hl.1 rfl (Nat.le_of_ble_eq_true rfl) dX12_contains_13 hq (fun x25 s24 H locs hq hB => ?_)
    refine lv_aload_n hx hb dX12_contains_16 rfl (lv_at hl 0 rfl) ?_
    refine lv_iload_n hx hb dX12_contains_17 rfl (lv_at hl 1 rfl) ?_
    refine lv_iconst (v := 0) hx hb dX12_contains_18 (by decide) ?_
    refine zz_callVi S hT hB (As := [.int x1, .int (0 : Int32)]) (b := a0) (o := f_X12_end T N s24 a0 x1 (0 : Int32)) (c_X12_end l D cy T hT ad N s24 _ a0 x1 (0 : Int32)) (cwV 2 hts (gV wSub wd_641 wd_642 wd_643 wd_572 wd_644) rfl rfl rfl (by decide +kernel) ⟨Nat.le_of_ble_eq_true rfl, Nat.le_of_ble_eq_true rfl⟩) (F := TX12) (NF := 24) 12 rfl (by decide) (k_X12_end T N s24 a0 x1 (0 : Int32)) rfl hl.1 rfl (Nat.le_of_ble_eq_true rfl) dX12_contains_19 hq (fun x27 s26 H locs hq hB => ?_)
    refine zz_callSi S hT hB (As := [.int x2, .int x25, .int x27]) (o := f_X12_in T N s26 x2 x25 x27) (c_X12_in l D cy T hT ad N s26 _ x2 x25 x27) (va_cwS 3 hts (gS wSub wd_570 wd_571 wd_572 wd_573) rfl rfl rfl (by decide +kernel) ⟨Nat.le_of_ble_eq_true rfl, Nat.le_of_ble_eq_true rfl⟩) rfl hl.1 rfl (Nat.le_of_ble_eq_true rfl) dX12_contains_22 hq (fun x29 s28 H locs hq hB => ?_)
    refine zz_if_eq (tgt := 51) hx hb dX12_contains_25 (by decide) hq (fun hq => ?_) (fun hq => ?_)
    · refine lv_iconst (v := 0) hx hb dX12_contains_51 (by decide) ?_
      exact zz_zret S hB hr hlocks dX12_contains_52 hq
    · refine lv_iload_n hx hb dX12_contains_28 rfl (lv_at hl 3 rfl) ?_
      refine lv_aload_n hx hb dX12_contains_29 rfl (lv_at hl 0 rfl) ?_
      refine lv_iload_n hx hb dX12_contains_30 rfl (lv_at hl 1 rfl) ?_
      refine lv_iconst (v := 1) hx hb dX12_contains_31 (by decide) ?_
      refine zz_callVi S hT hB (As := [.int x1, .int (1 : Int32)]) (b := a0) (o := f_X12_begin T N s28 a0 x1 (1 : Int32)) (c_X12_begin l D cy T hT ad N s28 _ a0 x1 (1 : Int32)) (cwV 2 hts (gV wSub wd_645 wd_646 wd_647 wd_572 wd_648) rfl rfl rfl (by decide +kernel) ⟨Nat.le_of_ble_eq_true rfl, Nat.le_of_ble_eq_true rfl⟩) (F := TX12) (NF := 24) 12 rfl (by decide) (k_X12_begin T N s28 a0 x1 (1 : Int32)) rfl hl.1 rfl (Nat.le_of_ble_eq_true rfl) dX12_contains_32 hq (fun x31 s30 H locs hq hB => ?_)
      refine lv_aload_n hx hb dX12_contains_35 rfl (lv_at hl 0 rfl) ?_
      refine lv_iload_n hx hb dX12_contains_36 rfl (lv_at hl 1 rfl) ?_
      refine lv_iconst (v := 1) hx hb dX12_contains_37 (by decide) ?_
      refine zz_callVi S hT hB (As := [.int x1, .int (1 : Int32)]) (b := a0) (o := f_X12_end T N s30 a0 x1 (1 : Int32)) (c_X12_end l D cy T hT ad N s30 _ a0 x1 (1 : Int32)) (cwV 2 hts (gV wSub wd_641 wd_642 wd_643 wd_572 wd_644) rfl rfl rfl (by decide +kernel) ⟨Nat.le_of_ble_eq_true rfl, Nat.le_of_ble_eq_true rfl⟩) (F := TX12) (NF := 24) 12 rfl (by decide) (k_X12_end T N s30 a0 x1 (1 : Int32)) rfl hl.1 rfl (Nat.le_of_ble_eq_true rfl) dX12_contains_38 hq (fun x33 s32 H locs hq hB => ?_)
      refine zz_callSi S hT hB (As := [.int x3, .int x31, .int x33]) (o := f_X12_in T N s32 x3 x31 x33) (c_X12_in l D cy T hT ad N s32 _ x3 x31 x33) (va_cwS 3 hts (gS wSub wd_570 wd_571 wd_572 wd_573) rfl rfl rfl (by decide +kernel) ⟨Nat.le_of_ble_eq_true rfl, Nat.le_of_ble_eq_true rfl⟩) rfl hl.1 rfl (Nat.le_of_ble_eq_true rfl) dX12_contains_41 hq (fun x35 s34 H locs hq hB => ?_)
      refine zz_if_eq (tgt := 51) hx hb dX12_contains_44 (by decide) hq (fun hq => ?_) (fun hq => ?_)
      · refine lv_iconst (v := 0) hx hb dX12_contains_51 (by decide) ?_
        exact zz_zret S hB hr hlocks dX12_contains_52 hq
      · refine lv_iconst (v := 1) hx hb dX12_contains_47 (by decide) ?_
        refine lv_goto (tgt := 52) hx hb dX12_contains_48 (by decide) ?_
        exact zz_zret S hB hr hlocks dX12_contains_52 hq
def f_X12_at_L26 (T : zT) (N : Nat) (a0 : Nat) (x1 : Int32) (x2 : Int32) (k26 : Int32 → zS → Option (Int32 × zS)) (x9 : Int32) (s10 : zS) : Option (Int32 × zS) :=
  (gR T s10 a0 12 0).bind fun a11 =>
  (aI T s10 a11 13 (1 : Int32)).bind fun x12 =>
  if x12 ≤ x9 then (
    some ((-1000000 : Int32), s10))
  else (
    (gR T s10 a0 12 0).bind fun a13 =>
    (aI T s10 a13 13 ((170 : Int32) + x9)).bind fun x14 =>
    zb2 (f_X12_contains T N s10 a0 x14 x1 x2) fun x16 s15 =>
    if x16 = 0 then (
      zn (x9 + (1 : Int32)) fun x17 =>
      k26 x17 s15)
    else (
      (gR T s15 a0 12 0).bind fun a18 =>
      (aI T s15 a18 13 ((170 : Int32) + x9)).bind fun x19 =>
      some (x19, s15)))
def f_X12_at (T : zT) (N : Nat) (s0 : zS) (a0 : Nat) (x1 : Int32) (x2 : Int32) : Option (Int32 × zS) :=
  zz1 (T.1 a0 = 12) <|
  zb2 (f_X12_in T N s0 x1 (-100000 : Int32) (100000 : Int32)) fun x6 s5 =>
  if x6 = 0 then (
    some ((-1 : Int32), s5))
  else (
    zb2 (f_X12_in T N s5 x2 (-100000 : Int32) (100000 : Int32)) fun x8 s7 =>
    if ¬ x8 = 0 then (
      zl2 (f_X12_at_L26 T N a0 x1 x2) N (0 : Int32) s7)
    else (
      some ((-1 : Int32), s7)))
theorem k_X12_at (T : zT) (N : Nat) (s0 : zS) (a0 : Nat) (x1 : Int32) (x2 : Int32) : ∀ q, f_X12_at T N s0 a0 x1 x2 = some q → T.1 a0 = 12 := by
  intro q h
  unfold f_X12_at at h
  exact zz_guard h (fun h _ => h)
set_option maxHeartbeats 4000000 in
set_option maxRecDepth 100000 in
theorem c_X12_at (l : Launch) (D : va_G) (cy : Nat → ClassId) (T : zT) (hT : zok T) (ad : Nat → Nat) (N : Nat) (s0 : zS) (sz : Nat) (a0 : Nat) (x1 : Int32) (x2 : Int32) : ∀ (r0 : Int32) (σ0 : zS), f_X12_at T N s0 a0 x1 x2 = some (r0, σ0) → Met l yX12_at wsX12_at ({ frames := 3, cells := 0, slots := 0, locals := 75 }) (va_Pc [.ref (ad a0), .int x1, .int x2] (zPre D cy T ad s0 sz)) (va_Qi (fun (r2 : Int32) (σ2 : zS) => r2 = r0 ∧ σ2 = σ0) (zAt D cy T ad (zA T ad sz)) (zA T ad sz)) 0 0 (zA T ad sz) := by
  intro r0 σ0 hq
  refine Met.ofW (cc := cX12_at) (maxL := 4) (ret := (some .int)) (by decide) rfl ?_
  intro p e s m args below meth c s₁ B hml hv
  obtain ⟨hargs, hsz, hP, hK, hD0, hN⟩ := hv
  have hx := B.exec
  have hb := B.bytes
  have hr := B.returns
  have hts := atoms_spec (ws := wsX12_at) B.pre
  have hown : s.vm.findClass RX12 = some m.cls := findClass_of_methodNamed B.named
  have hlocks := B.notSynchronized
  have S : CallFix p m c cX12_at 4 s args wsX12_at RX12 := ⟨hx, hb, hml, hown, hts⟩
  subst hsz
  have hB : zB D cy T ad (zA T ad s.heap.size) s.heap s0 s.heap [] s := zz_entry hP hK hD0 hN
  obtain ⟨ls, hent, hl⟩ := zz_ent m hargs (n := 4) (Nat.le_of_ble_eq_true rfl)
  rw [hent]
  have hl : lv_has ls 4 [(0, .ref (ad a0)), (1, .int x1), (2, .int x2)] := hl
  have iwX12 : ∀ w ∈ u_ws RX12 TX12 24, w ∈ wsX12_at := fun w h => wS (inWX12 w h)
  unfold f_X12_at at hq
  refine zz_guard hq (fun hk0 hq => ?_)
  refine lv_iload_n hx hb dX12_at_0 rfl (lv_at hl 1 rfl) ?_
  refine lv_ldc (v := -100000) hx hb hown (hts _ (wS wd_658)) dX12_at_1 ?_
  refine lv_ldc (v := 100000) hx hb hown (hts _ (wS wd_659)) dX12_at_3 ?_
  refine zz_callSi S hT hB (As := [.int x1, .int (-100000 : Int32), .int (100000 : Int32)]) (o := f_X12_in T N s0 x1 (-100000 : Int32) (100000 : Int32)) (c_X12_in l D cy T hT ad N s0 _ x1 (-100000 : Int32) (100000 : Int32)) (va_cwS 3 hts (gS wSub wd_570 wd_571 wd_572 wd_573) rfl rfl rfl (by decide +kernel) ⟨Nat.le_of_ble_eq_true rfl, Nat.le_of_ble_eq_true rfl⟩) rfl hl.1 rfl (Nat.le_of_ble_eq_true rfl) dX12_at_5 hq (fun x6 s5 H locs hq hB => ?_)
  refine zz_if_eq (tgt := 22) hx hb dX12_at_8 (by decide) hq (fun hq => ?_) (fun hq => ?_)
  · refine lv_iconst (v := -1) hx hb dX12_at_22 (by decide) ?_
    exact zz_iret S hB hr hlocks dX12_at_23 hq
  · refine lv_iload_n hx hb dX12_at_11 rfl (lv_at hl 2 rfl) ?_
    refine lv_ldc (v := -100000) hx hb hown (hts _ (wS wd_658)) dX12_at_12 ?_
    refine lv_ldc (v := 100000) hx hb hown (hts _ (wS wd_659)) dX12_at_14 ?_
    refine zz_callSi S hT hB (As := [.int x2, .int (-100000 : Int32), .int (100000 : Int32)]) (o := f_X12_in T N s5 x2 (-100000 : Int32) (100000 : Int32)) (c_X12_in l D cy T hT ad N s5 _ x2 (-100000 : Int32) (100000 : Int32)) (va_cwS 3 hts (gS wSub wd_570 wd_571 wd_572 wd_573) rfl rfl rfl (by decide +kernel) ⟨Nat.le_of_ble_eq_true rfl, Nat.le_of_ble_eq_true rfl⟩) rfl hl.1 rfl (Nat.le_of_ble_eq_true rfl) dX12_at_16 hq (fun x8 s7 H locs hq hB => ?_)
    refine zz_if_ne (tgt := 24) hx hb dX12_at_19 (by decide) hq (fun hq => ?_) (fun hq => ?_)
    · refine lv_iconst (v := 0) hx hb dX12_at_24 (by decide) ?_
      refine lv_istore_n (lv' := [(3, .int (0 : Int32)), (0, .ref (ad a0)), (1, .int x1), (2, .int x2)]) hx hb dX12_at_25 rfl hl (by decide) rfl (fun ls hl => ?_)
      have L26 : ∀ (n : Nat) (x9 : Int32) (s10 : zS) (H : Heap) (locs : List Loc) (ls : Array Slot), zl2 (f_X12_at_L26 T N a0 x1 x2) n x9 s10 = some (r0, σ0) → zB D cy T ad (zA T ad s.heap.size) s.heap s10 H locs s → lv_has ls 4 [(0, .ref (ad a0)), (1, .int x1), (2, .int x2), (3, .int x9)] → W p l e (headSpec wsX12_at ({ frames := 3, cells := 0, slots := 0, locals := 75 } : Room)).room s m args below meth c H locs 0 0 (MQ below (va_Qi (fun (r2 : Int32) (σ2 : zS) => r2 = r0 ∧ σ2 = σ0) (zAt D cy T ad (zA T ad s.heap.size)) (zA T ad s.heap.size)) args s 0 0 (zA T ad s.heap.size)) (F0 m 26 ls []) := by
        intro n
        induction n with
        | zero => intro x9 s10 H locs ls hq; exact zz_none hq
        | succ n ih26 =>
          intro x9 s10 H locs ls hq hB hl
          rw [zl2] at hq
          generalize zl2 (f_X12_at_L26 T N a0 x1 x2) n = k26 at ih26 hq
          unfold f_X12_at_L26 at hq
          refine lv_iload_n hx hb dX12_at_26 rfl (lv_at hl 3 rfl) ?_
          refine lv_aload_n hx hb dX12_at_27 rfl (lv_at hl 0 rfl) ?_
          refine zz_getR S hT hB (C := RX12) (ref := "DiagramDeskModel") (F := TX12) (N := 24) (index := 7) 12 0 iwX12 rfl (by decide) (by decide) rfl rfl (wS wd_569) (fun _ h9 => h9) dX12_at_28 hq (fun a11 hq => ?_)
          refine lv_iconst (v := 1) hx hb dX12_at_31 (by decide) ?_
          refine zz_ald S hT hB dX12_at_32 hq (fun x12 hq => ?_)
          refine zz_icmp_ge (tgt := 72) hx hb dX12_at_33 (by decide) hq (fun hq => ?_) (fun hq => ?_)
          · refine lv_ldc (v := -1000000) hx hb hown (hts _ (wS wd_636)) dX12_at_72 ?_
            exact zz_iret S hB hr hlocks dX12_at_74 hq
          · refine lv_aload_n hx hb dX12_at_36 rfl (lv_at hl 0 rfl) ?_
            refine lv_aload_n hx hb dX12_at_37 rfl (lv_at hl 0 rfl) ?_
            refine zz_getR S hT hB (C := RX12) (ref := "DiagramDeskModel") (F := TX12) (N := 24) (index := 7) 12 0 iwX12 rfl (by decide) (by decide) rfl rfl (wS wd_569) (fun _ h9 => h9) dX12_at_38 hq (fun a13 hq => ?_)
            refine lv_sipush (v := 170) hx hb dX12_at_41 (by decide) ?_
            refine lv_iload_n hx hb dX12_at_44 rfl (lv_at hl 3 rfl) ?_
            refine lv_iadd hx hb dX12_at_45 ?_
            refine zz_ald S hT hB dX12_at_46 hq (fun x14 hq => ?_)
            refine lv_iload_n hx hb dX12_at_47 rfl (lv_at hl 1 rfl) ?_
            refine lv_iload_n hx hb dX12_at_48 rfl (lv_at hl 2 rfl) ?_
            refine zz_callVi S hT hB (As := [.int x14, .int x1, .int x2]) (b := a0) (o := f_X12_contains T N s10 a0 x14 x1 x2) (c_X12_contains l D cy T hT ad N s10 _ a0 x14 x1 x2) (cwV 3 hts (gV wSub wd_660 wd_661 wd_662 wd_572 wd_663) rfl rfl rfl (by decide +kernel) ⟨Nat.le_of_ble_eq_true rfl, Nat.le_of_ble_eq_true rfl⟩) (F := TX12) (NF := 24) 12 rfl (by decide) (k_X12_contains T N s10 a0 x14 x1 x2) rfl hl.1 rfl (Nat.le_of_ble_eq_true rfl) dX12_at_49 hq (fun x16 s15 H locs hq hB => ?_)
            refine zz_if_eq (tgt := 66) hx hb dX12_at_52 (by decide) hq (fun hq => ?_) (fun hq => ?_)
            · refine zz_nmV hq (fun x17 ex17 hq => ?_)
              refine lv_iinc (v := x17) (lv' := [(3, .int x17), (0, .ref (ad a0)), (1, .int x1), (2, .int x2)]) hx hb dX12_at_66 hl (k := 3) rfl (by rw [ex17]; rfl) (by decide) rfl (fun ls hl => ?_)
              refine lv_goto (tgt := 26) hx hb dX12_at_69 (by decide) ?_
              exact ih26 x17 s15 _ _ _ hq hB (lv_sub hl [1, 2, 3, 0] rfl)
            · refine lv_aload_n hx hb dX12_at_55 rfl (lv_at hl 0 rfl) ?_
              refine zz_getR S hT hB (C := RX12) (ref := "DiagramDeskModel") (F := TX12) (N := 24) (index := 7) 12 0 iwX12 rfl (by decide) (by decide) rfl rfl (wS wd_569) (fun _ h9 => h9) dX12_at_56 hq (fun a18 hq => ?_)
              refine lv_sipush (v := 170) hx hb dX12_at_59 (by decide) ?_
              refine lv_iload_n hx hb dX12_at_62 rfl (lv_at hl 3 rfl) ?_
              refine lv_iadd hx hb dX12_at_63 ?_
              refine zz_ald S hT hB dX12_at_64 hq (fun x19 hq => ?_)
              exact zz_iret S hB hr hlocks dX12_at_65 hq
      exact L26 N (0 : Int32) s7 _ _ _ hq hB (lv_sub hl [1, 2, 3, 0] rfl)
    · refine lv_iconst (v := -1) hx hb dX12_at_22 (by decide) ?_
      exact zz_iret S hB hr hlocks dX12_at_23 hq
def f_X12_isLine (T : zT) (N : Nat) (s0 : zS) (a0 : Nat) (x1 : Int32) : Option (Int32 × zS) :=
  zz1 (T.1 a0 = 12) <|
  (gR T s0 a0 12 0).bind fun a4 =>
  (aI T s0 a4 13 (2 : Int32)).bind fun x5 =>
  zb2 (f_X12_in T N s0 x1 (0 : Int32) (x5 - (1 : Int32))) fun x7 s6 =>
  rZ x7 s6
theorem k_X12_isLine (T : zT) (N : Nat) (s0 : zS) (a0 : Nat) (x1 : Int32) : ∀ q, f_X12_isLine T N s0 a0 x1 = some q → T.1 a0 = 12 := by
  intro q h
  unfold f_X12_isLine at h
  exact zz_guard h (fun h _ => h)
set_option maxHeartbeats 4000000 in
set_option maxRecDepth 100000 in
theorem c_X12_isLine (l : Launch) (D : va_G) (cy : Nat → ClassId) (T : zT) (hT : zok T) (ad : Nat → Nat) (N : Nat) (s0 : zS) (sz : Nat) (a0 : Nat) (x1 : Int32) : ∀ (r0 : Int32) (σ0 : zS), f_X12_isLine T N s0 a0 x1 = some (r0, σ0) → Met l yX12_isLine wsX12_isLine ({ frames := 1, cells := 0, slots := 0, locals := 22 }) (va_Pc [.ref (ad a0), .int x1] (zPre D cy T ad s0 sz)) (va_Qi (fun (r2 : Int32) (σ2 : zS) => r2 = r0 ∧ σ2 = σ0) (zAt D cy T ad (zA T ad sz)) (zA T ad sz)) 0 0 (zA T ad sz) := by
  intro r0 σ0 hq
  refine Met.ofW (cc := cX12_isLine) (maxL := 2) (ret := (some .boolean)) (by decide) rfl ?_
  intro p e s m args below meth c s₁ B hml hv
  obtain ⟨hargs, hsz, hP, hK, hD0, hN⟩ := hv
  have hx := B.exec
  have hb := B.bytes
  have hr := B.returns
  have hts := atoms_spec (ws := wsX12_isLine) B.pre
  have hown : s.vm.findClass RX12 = some m.cls := findClass_of_methodNamed B.named
  have hlocks := B.notSynchronized
  have S : CallFix p m c cX12_isLine 2 s args wsX12_isLine RX12 := ⟨hx, hb, hml, hown, hts⟩
  subst hsz
  have hB : zB D cy T ad (zA T ad s.heap.size) s.heap s0 s.heap [] s := zz_entry hP hK hD0 hN
  obtain ⟨ls, hent, hl⟩ := zz_ent m hargs (n := 2) (Nat.le_of_ble_eq_true rfl)
  rw [hent]
  have hl : lv_has ls 2 [(0, .ref (ad a0)), (1, .int x1)] := hl
  have iwX12 : ∀ w ∈ u_ws RX12 TX12 24, w ∈ wsX12_isLine := fun w h => wS (inWX12 w h)
  unfold f_X12_isLine at hq
  refine zz_guard hq (fun hk0 hq => ?_)
  refine lv_iload_n hx hb dX12_isLine_0 rfl (lv_at hl 1 rfl) ?_
  refine lv_iconst (v := 0) hx hb dX12_isLine_1 (by decide) ?_
  refine lv_aload_n hx hb dX12_isLine_2 rfl (lv_at hl 0 rfl) ?_
  refine zz_getR S hT hB (C := RX12) (ref := "DiagramDeskModel") (F := TX12) (N := 24) (index := 7) 12 0 iwX12 rfl (by decide) (by decide) rfl rfl (wS wd_569) (fun _ h9 => h9) dX12_isLine_3 hq (fun a4 hq => ?_)
  refine lv_iconst (v := 2) hx hb dX12_isLine_6 (by decide) ?_
  refine zz_ald S hT hB dX12_isLine_7 hq (fun x5 hq => ?_)
  refine lv_iconst (v := 1) hx hb dX12_isLine_8 (by decide) ?_
  refine lv_isub hx hb dX12_isLine_9 ?_
  refine zz_callSi S hT hB (As := [.int x1, .int (0 : Int32), .int (x5 - (1 : Int32))]) (o := f_X12_in T N s0 x1 (0 : Int32) (x5 - (1 : Int32))) (c_X12_in l D cy T hT ad N s0 _ x1 (0 : Int32) (x5 - (1 : Int32))) (va_cwS 3 hts (gS wSub wd_570 wd_571 wd_572 wd_573) rfl rfl rfl (by decide +kernel) ⟨Nat.le_of_ble_eq_true rfl, Nat.le_of_ble_eq_true rfl⟩) rfl hl.1 rfl (Nat.le_of_ble_eq_true rfl) dX12_isLine_10 hq (fun x7 s6 H locs hq hB => ?_)
  exact zz_zret S hB hr hlocks dX12_isLine_13 hq
def f_X12_connect (T : zT) (N : Nat) (s0 : zS) (a0 : Nat) (x1 : Int32) (x2 : Int32) (x3 : Int32) (x4 : Int32) (x5 : Int32) : Option (Int32 × zS) :=
  zz1 (T.1 a0 = 12) <|
  zb2 (f_X12_isShape T N s0 a0 x1) fun x9 s8 =>
  if x9 = 0 then (
    some ((-1 : Int32), s8))
  else (
    zb2 (f_X12_isShape T N s8 a0 x3) fun x11 s10 =>
    if x11 = 0 then (
      some ((-1 : Int32), s10))
    else (
      if x1 = x3 then (
        some ((-1 : Int32), s10))
      else (
        zb2 (f_X12_in T N s10 x2 (0 : Int32) (3 : Int32)) fun x13 s12 =>
        if x13 = 0 then (
          some ((-1 : Int32), s12))
        else (
          zb2 (f_X12_in T N s12 x4 (0 : Int32) (3 : Int32)) fun x15 s14 =>
          if x15 = 0 then (
            some ((-1 : Int32), s14))
          else (
            zb2 (f_X12_in T N s14 x5 (0 : Int32) (2 : Int32)) fun x17 s16 =>
            if ¬ x17 = 0 then (
              (gR T s16 a0 12 0).bind fun a18 =>
              (aI T s16 a18 13 (2 : Int32)).bind fun x19 =>
              if ¬ x19 = (20 : Int32) then (
                (f_X12_act T N s16 a0).bind fun s20 =>
                (gR T s20 a0 12 0).bind fun a21 =>
                (aI T s20 a21 13 (2 : Int32)).bind fun x22 =>
                zn ((190 : Int32) + ((5 : Int32) * x22)) fun x23 =>
                (gR T s20 a0 12 0).bind fun a24 =>
                (sI T s20 a24 x23 x1).bind fun s25 =>
                (gR T s25 a0 12 0).bind fun a26 =>
                (sI T s25 a26 (x23 + (1 : Int32)) x2).bind fun s27 =>
                (gR T s27 a0 12 0).bind fun a28 =>
                (sI T s27 a28 (x23 + (2 : Int32)) x3).bind fun s29 =>
                (gR T s29 a0 12 0).bind fun a30 =>
                (sI T s29 a30 (x23 + (3 : Int32)) x4).bind fun s31 =>
                (gR T s31 a0 12 0).bind fun a32 =>
                (sI T s31 a32 (x23 + (4 : Int32)) x5).bind fun s33 =>
                (gR T s33 a0 12 0).bind fun a34 =>
                (aI T s33 a34 13 (2 : Int32)).bind fun x35 =>
                (sI T s33 a34 (2 : Int32) (x35 + (1 : Int32))).bind fun s36 =>
                (gR T s36 a0 12 0).bind fun a37 =>
                (aI T s36 a37 13 (2 : Int32)).bind fun x38 =>
                some (x38 - (1 : Int32), s36))
              else (
                some ((-3 : Int32), s16)))
            else (
              some ((-1 : Int32), s16)))))))
theorem k_X12_connect (T : zT) (N : Nat) (s0 : zS) (a0 : Nat) (x1 : Int32) (x2 : Int32) (x3 : Int32) (x4 : Int32) (x5 : Int32) : ∀ q, f_X12_connect T N s0 a0 x1 x2 x3 x4 x5 = some q → T.1 a0 = 12 := by
  intro q h
  unfold f_X12_connect at h
  exact zz_guard h (fun h _ => h)
set_option maxHeartbeats 4000000 in
set_option maxRecDepth 100000 in
theorem c_X12_connect (l : Launch) (D : va_G) (cy : Nat → ClassId) (T : zT) (hT : zok T) (ad : Nat → Nat) (N : Nat) (s0 : zS) (sz : Nat) (a0 : Nat) (x1 : Int32) (x2 : Int32) (x3 : Int32) (x4 : Int32) (x5 : Int32) : ∀ (r0 : Int32) (σ0 : zS), f_X12_connect T N s0 a0 x1 x2 x3 x4 x5 = some (r0, σ0) → Met l yX12_connect wsX12_connect ({ frames := 2, cells := 0, slots := 0, locals := 43 }) (va_Pc [.ref (ad a0), .int x1, .int x2, .int x3, .int x4, .int x5] (zPre D cy T ad s0 sz)) (va_Qi (fun (r2 : Int32) (σ2 : zS) => r2 = r0 ∧ σ2 = σ0) (zAt D cy T ad (zA T ad sz)) (zA T ad sz)) 0 0 (zA T ad sz) := by
  intro r0 σ0 hq
  refine Met.ofW (cc := cX12_connect) (maxL := 7) (ret := (some .int)) (by decide) rfl ?_
  intro p e s m args below meth c s₁ B hml hv
  obtain ⟨hargs, hsz, hP, hK, hD0, hN⟩ := hv
  have hx := B.exec
  have hb := B.bytes
  have hr := B.returns
  have hts := atoms_spec (ws := wsX12_connect) B.pre
  have hown : s.vm.findClass RX12 = some m.cls := findClass_of_methodNamed B.named
  have hlocks := B.notSynchronized
  have S : CallFix p m c cX12_connect 7 s args wsX12_connect RX12 := ⟨hx, hb, hml, hown, hts⟩
  subst hsz
  have hB : zB D cy T ad (zA T ad s.heap.size) s.heap s0 s.heap [] s := zz_entry hP hK hD0 hN
  obtain ⟨ls, hent, hl⟩ := zz_ent m hargs (n := 7) (Nat.le_of_ble_eq_true rfl)
  rw [hent]
  have hl : lv_has ls 7 [(0, .ref (ad a0)), (1, .int x1), (2, .int x2), (3, .int x3), (4, .int x4), (5, .int x5)] := hl
  have iwX12 : ∀ w ∈ u_ws RX12 TX12 24, w ∈ wsX12_connect := fun w h => wS (inWX12 w h)
  unfold f_X12_connect at hq
  refine zz_guard hq (fun hk0 hq => ?_)
  refine lv_aload_n hx hb dX12_connect_0 rfl (lv_at hl 0 rfl) ?_
  refine lv_iload_n hx hb dX12_connect_1 rfl (lv_at hl 1 rfl) ?_
  refine zz_callVi S hT hB (As := [.int x1]) (b := a0) (o := f_X12_isShape T N s0 a0 x1) (c_X12_isShape l D cy T hT ad N s0 _ a0 x1) (cwV 1 hts (gV wSub wd_612 wd_613 wd_614 wd_572 wd_615) rfl rfl rfl (by decide +kernel) ⟨Nat.le_of_ble_eq_true rfl, Nat.le_of_ble_eq_true rfl⟩) (F := TX12) (NF := 24) 12 rfl (by decide) (k_X12_isShape T N s0 a0 x1) rfl hl.1 rfl (Nat.le_of_ble_eq_true rfl) dX12_connect_2 hq (fun x9 s8 H locs hq hB => ?_)
  refine zz_if_eq (tgt := 50) hx hb dX12_connect_5 (by decide) hq (fun hq => ?_) (fun hq => ?_)
  · refine lv_iconst (v := -1) hx hb dX12_connect_50 (by decide) ?_
    exact zz_iret S hB hr hlocks dX12_connect_51 hq
  · refine lv_aload_n hx hb dX12_connect_8 rfl (lv_at hl 0 rfl) ?_
    refine lv_iload_n hx hb dX12_connect_9 rfl (lv_at hl 3 rfl) ?_
    refine zz_callVi S hT hB (As := [.int x3]) (b := a0) (o := f_X12_isShape T N s8 a0 x3) (c_X12_isShape l D cy T hT ad N s8 _ a0 x3) (cwV 1 hts (gV wSub wd_612 wd_613 wd_614 wd_572 wd_615) rfl rfl rfl (by decide +kernel) ⟨Nat.le_of_ble_eq_true rfl, Nat.le_of_ble_eq_true rfl⟩) (F := TX12) (NF := 24) 12 rfl (by decide) (k_X12_isShape T N s8 a0 x3) rfl hl.1 rfl (Nat.le_of_ble_eq_true rfl) dX12_connect_10 hq (fun x11 s10 H locs hq hB => ?_)
    refine zz_if_eq (tgt := 50) hx hb dX12_connect_13 (by decide) hq (fun hq => ?_) (fun hq => ?_)
    · refine lv_iconst (v := -1) hx hb dX12_connect_50 (by decide) ?_
      exact zz_iret S hB hr hlocks dX12_connect_51 hq
    · refine lv_iload_n hx hb dX12_connect_16 rfl (lv_at hl 1 rfl) ?_
      refine lv_iload_n hx hb dX12_connect_17 rfl (lv_at hl 3 rfl) ?_
      refine zz_icmp_eq (tgt := 50) hx hb dX12_connect_18 (by decide) hq (fun hq => ?_) (fun hq => ?_)
      · refine lv_iconst (v := -1) hx hb dX12_connect_50 (by decide) ?_
        exact zz_iret S hB hr hlocks dX12_connect_51 hq
      · refine lv_iload_n hx hb dX12_connect_21 rfl (lv_at hl 2 rfl) ?_
        refine lv_iconst (v := 0) hx hb dX12_connect_22 (by decide) ?_
        refine lv_iconst (v := 3) hx hb dX12_connect_23 (by decide) ?_
        refine zz_callSi S hT hB (As := [.int x2, .int (0 : Int32), .int (3 : Int32)]) (o := f_X12_in T N s10 x2 (0 : Int32) (3 : Int32)) (c_X12_in l D cy T hT ad N s10 _ x2 (0 : Int32) (3 : Int32)) (va_cwS 3 hts (gS wSub wd_570 wd_571 wd_572 wd_573) rfl rfl rfl (by decide +kernel) ⟨Nat.le_of_ble_eq_true rfl, Nat.le_of_ble_eq_true rfl⟩) rfl hl.1 rfl (Nat.le_of_ble_eq_true rfl) dX12_connect_24 hq (fun x13 s12 H locs hq hB => ?_)
        refine zz_if_eq (tgt := 50) hx hb dX12_connect_27 (by decide) hq (fun hq => ?_) (fun hq => ?_)
        · refine lv_iconst (v := -1) hx hb dX12_connect_50 (by decide) ?_
          exact zz_iret S hB hr hlocks dX12_connect_51 hq
        · refine lv_iload hx hb dX12_connect_30 (lv_at hl 4 rfl) ?_
          refine lv_iconst (v := 0) hx hb dX12_connect_32 (by decide) ?_
          refine lv_iconst (v := 3) hx hb dX12_connect_33 (by decide) ?_
          refine zz_callSi S hT hB (As := [.int x4, .int (0 : Int32), .int (3 : Int32)]) (o := f_X12_in T N s12 x4 (0 : Int32) (3 : Int32)) (c_X12_in l D cy T hT ad N s12 _ x4 (0 : Int32) (3 : Int32)) (va_cwS 3 hts (gS wSub wd_570 wd_571 wd_572 wd_573) rfl rfl rfl (by decide +kernel) ⟨Nat.le_of_ble_eq_true rfl, Nat.le_of_ble_eq_true rfl⟩) rfl hl.1 rfl (Nat.le_of_ble_eq_true rfl) dX12_connect_34 hq (fun x15 s14 H locs hq hB => ?_)
          refine zz_if_eq (tgt := 50) hx hb dX12_connect_37 (by decide) hq (fun hq => ?_) (fun hq => ?_)
          · refine lv_iconst (v := -1) hx hb dX12_connect_50 (by decide) ?_
            exact zz_iret S hB hr hlocks dX12_connect_51 hq
          · refine lv_iload hx hb dX12_connect_40 (lv_at hl 5 rfl) ?_
            refine lv_iconst (v := 0) hx hb dX12_connect_42 (by decide) ?_
            refine lv_iconst (v := 2) hx hb dX12_connect_43 (by decide) ?_
            refine zz_callSi S hT hB (As := [.int x5, .int (0 : Int32), .int (2 : Int32)]) (o := f_X12_in T N s14 x5 (0 : Int32) (2 : Int32)) (c_X12_in l D cy T hT ad N s14 _ x5 (0 : Int32) (2 : Int32)) (va_cwS 3 hts (gS wSub wd_570 wd_571 wd_572 wd_573) rfl rfl rfl (by decide +kernel) ⟨Nat.le_of_ble_eq_true rfl, Nat.le_of_ble_eq_true rfl⟩) rfl hl.1 rfl (Nat.le_of_ble_eq_true rfl) dX12_connect_44 hq (fun x17 s16 H locs hq hB => ?_)
            refine zz_if_ne (tgt := 52) hx hb dX12_connect_47 (by decide) hq (fun hq => ?_) (fun hq => ?_)
            · refine lv_aload_n hx hb dX12_connect_52 rfl (lv_at hl 0 rfl) ?_
              refine zz_getR S hT hB (C := RX12) (ref := "DiagramDeskModel") (F := TX12) (N := 24) (index := 7) 12 0 iwX12 rfl (by decide) (by decide) rfl rfl (wS wd_569) (fun _ h9 => h9) dX12_connect_53 hq (fun a18 hq => ?_)
              refine lv_iconst (v := 2) hx hb dX12_connect_56 (by decide) ?_
              refine zz_ald S hT hB dX12_connect_57 hq (fun x19 hq => ?_)
              refine lv_bipush (v := 20) hx hb dX12_connect_58 (by decide) ?_
              refine zz_icmp_ne (tgt := 66) hx hb dX12_connect_60 (by decide) hq (fun hq => ?_) (fun hq => ?_)
              · refine lv_aload_n hx hb dX12_connect_66 rfl (lv_at hl 0 rfl) ?_
                refine zz_callVv S hT hB (As := []) (b := a0) (o := f_X12_act T N s16 a0) (c_X12_act l D cy T hT ad N s16 _ a0) (cwV 0 hts (gV wSub wd_604 wd_605 wd_606 wd_572 wd_607) rfl rfl rfl (by decide +kernel) ⟨Nat.le_of_ble_eq_true rfl, Nat.le_of_ble_eq_true rfl⟩) (F := TX12) (NF := 24) 12 rfl (by decide) (k_X12_act T N s16 a0) rfl hl.1 rfl (Nat.le_of_ble_eq_true rfl) dX12_connect_67 hq (fun s20 H locs hq hB => ?_)
                refine lv_sipush (v := 190) hx hb dX12_connect_70 (by decide) ?_
                refine lv_iconst (v := 5) hx hb dX12_connect_73 (by decide) ?_
                refine lv_aload_n hx hb dX12_connect_74 rfl (lv_at hl 0 rfl) ?_
                refine zz_getR S hT hB (C := RX12) (ref := "DiagramDeskModel") (F := TX12) (N := 24) (index := 7) 12 0 iwX12 rfl (by decide) (by decide) rfl rfl (wS wd_569) (fun _ h9 => h9) dX12_connect_75 hq (fun a21 hq => ?_)
                refine lv_iconst (v := 2) hx hb dX12_connect_78 (by decide) ?_
                refine zz_ald S hT hB dX12_connect_79 hq (fun x22 hq => ?_)
                refine lv_imul hx hb dX12_connect_80 ?_
                refine lv_iadd hx hb dX12_connect_81 ?_
                refine zz_nmI hq (fun x23 hq => ?_)
                refine lv_istore (lv' := [(6, .int x23), (0, .ref (ad a0)), (1, .int x1), (2, .int x2), (3, .int x3), (4, .int x4), (5, .int x5)]) hx hb dX12_connect_82 hl (by decide) rfl (fun ls hl => ?_)
                refine lv_aload_n hx hb dX12_connect_84 rfl (lv_at hl 1 rfl) ?_
                refine zz_getR S hT hB (C := RX12) (ref := "DiagramDeskModel") (F := TX12) (N := 24) (index := 7) 12 0 iwX12 rfl (by decide) (by decide) rfl rfl (wS wd_569) (fun _ h9 => h9) dX12_connect_85 hq (fun a24 hq => ?_)
                refine lv_iload hx hb dX12_connect_88 (lv_at hl 0 rfl) ?_
                refine lv_iload_n hx hb dX12_connect_90 rfl (lv_at hl 2 rfl) ?_
                refine zz_ast S hT hB dX12_connect_91 hq (fun s25 H locs hq hB => ?_)
                refine lv_aload_n hx hb dX12_connect_92 rfl (lv_at hl 1 rfl) ?_
                refine zz_getR S hT hB (C := RX12) (ref := "DiagramDeskModel") (F := TX12) (N := 24) (index := 7) 12 0 iwX12 rfl (by decide) (by decide) rfl rfl (wS wd_569) (fun _ h9 => h9) dX12_connect_93 hq (fun a26 hq => ?_)
                refine lv_iload hx hb dX12_connect_96 (lv_at hl 0 rfl) ?_
                refine lv_iconst (v := 1) hx hb dX12_connect_98 (by decide) ?_
                refine lv_iadd hx hb dX12_connect_99 ?_
                refine lv_iload_n hx hb dX12_connect_100 rfl (lv_at hl 3 rfl) ?_
                refine zz_ast S hT hB dX12_connect_101 hq (fun s27 H locs hq hB => ?_)
                refine lv_aload_n hx hb dX12_connect_102 rfl (lv_at hl 1 rfl) ?_
                refine zz_getR S hT hB (C := RX12) (ref := "DiagramDeskModel") (F := TX12) (N := 24) (index := 7) 12 0 iwX12 rfl (by decide) (by decide) rfl rfl (wS wd_569) (fun _ h9 => h9) dX12_connect_103 hq (fun a28 hq => ?_)
                refine lv_iload hx hb dX12_connect_106 (lv_at hl 0 rfl) ?_
                refine lv_iconst (v := 2) hx hb dX12_connect_108 (by decide) ?_
                refine lv_iadd hx hb dX12_connect_109 ?_
                refine lv_iload_n hx hb dX12_connect_110 rfl (lv_at hl 4 rfl) ?_
                refine zz_ast S hT hB dX12_connect_111 hq (fun s29 H locs hq hB => ?_)
                refine lv_aload_n hx hb dX12_connect_112 rfl (lv_at hl 1 rfl) ?_
                refine zz_getR S hT hB (C := RX12) (ref := "DiagramDeskModel") (F := TX12) (N := 24) (index := 7) 12 0 iwX12 rfl (by decide) (by decide) rfl rfl (wS wd_569) (fun _ h9 => h9) dX12_connect_113 hq (fun a30 hq => ?_)
                refine lv_iload hx hb dX12_connect_116 (lv_at hl 0 rfl) ?_
                refine lv_iconst (v := 3) hx hb dX12_connect_118 (by decide) ?_
                refine lv_iadd hx hb dX12_connect_119 ?_
                refine lv_iload hx hb dX12_connect_120 (lv_at hl 5 rfl) ?_
                refine zz_ast S hT hB dX12_connect_122 hq (fun s31 H locs hq hB => ?_)
                refine lv_aload_n hx hb dX12_connect_123 rfl (lv_at hl 1 rfl) ?_
                refine zz_getR S hT hB (C := RX12) (ref := "DiagramDeskModel") (F := TX12) (N := 24) (index := 7) 12 0 iwX12 rfl (by decide) (by decide) rfl rfl (wS wd_569) (fun _ h9 => h9) dX12_connect_124 hq (fun a32 hq => ?_)
                refine lv_iload hx hb dX12_connect_127 (lv_at hl 0 rfl) ?_
                refine lv_iconst (v := 4) hx hb dX12_connect_129 (by decide) ?_
                refine lv_iadd hx hb dX12_connect_130 ?_
                refine lv_iload hx hb dX12_connect_131 (lv_at hl 6 rfl) ?_
                refine zz_ast S hT hB dX12_connect_133 hq (fun s33 H locs hq hB => ?_)
                refine lv_aload_n hx hb dX12_connect_134 rfl (lv_at hl 1 rfl) ?_
                refine zz_getR S hT hB (C := RX12) (ref := "DiagramDeskModel") (F := TX12) (N := 24) (index := 7) 12 0 iwX12 rfl (by decide) (by decide) rfl rfl (wS wd_569) (fun _ h9 => h9) dX12_connect_135 hq (fun a34 hq => ?_)
                refine lv_iconst (v := 2) hx hb dX12_connect_138 (by decide) ?_
                refine lv_dup2_11 hx hb dX12_connect_139 rfl rfl ?_
                refine zz_ald S hT hB dX12_connect_140 hq (fun x35 hq => ?_)
                refine lv_iconst (v := 1) hx hb dX12_connect_141 (by decide) ?_
                refine lv_iadd hx hb dX12_connect_142 ?_
                refine zz_ast S hT hB dX12_connect_143 hq (fun s36 H locs hq hB => ?_)
                refine lv_aload_n hx hb dX12_connect_144 rfl (lv_at hl 1 rfl) ?_
                refine zz_getR S hT hB (C := RX12) (ref := "DiagramDeskModel") (F := TX12) (N := 24) (index := 7) 12 0 iwX12 rfl (by decide) (by decide) rfl rfl (wS wd_569) (fun _ h9 => h9) dX12_connect_145 hq (fun a37 hq => ?_)
                refine lv_iconst (v := 2) hx hb dX12_connect_148 (by decide) ?_
                refine zz_ald S hT hB dX12_connect_149 hq (fun x38 hq => ?_)
                refine lv_iconst (v := 1) hx hb dX12_connect_150 (by decide) ?_
                refine lv_isub hx hb dX12_connect_151 ?_
                exact zz_iret S hB hr hlocks dX12_connect_152 hq
              · refine lv_bipush (v := -3) hx hb dX12_connect_63 (by decide) ?_
                exact zz_iret S hB hr hlocks dX12_connect_65 hq
            · refine lv_iconst (v := -1) hx hb dX12_connect_50 (by decide) ?_
              exact zz_iret S hB hr hlocks dX12_connect_51 hq
def f_X12_disconnect (T : zT) (N : Nat) (s0 : zS) (a0 : Nat) (x1 : Int32) : Option (Int32 × zS) :=
  zz1 (T.1 a0 = 12) <|
  zb2 (f_X12_isLine T N s0 a0 x1) fun x5 s4 =>
  if ¬ x5 = 0 then (
    (f_X12_act T N s4 a0).bind fun s6 =>
    (f_X12_cuts T N s6 a0 x1).bind fun s7 =>
    (gR T s7 a0 12 0).bind fun a8 =>
    (aI T s7 a8 13 (2 : Int32)).bind fun x9 =>
    some (x9, s7))
  else (
    some ((-1 : Int32), s4))
theorem k_X12_disconnect (T : zT) (N : Nat) (s0 : zS) (a0 : Nat) (x1 : Int32) : ∀ q, f_X12_disconnect T N s0 a0 x1 = some q → T.1 a0 = 12 := by
  intro q h
  unfold f_X12_disconnect at h
  exact zz_guard h (fun h _ => h)
set_option maxHeartbeats 4000000 in
set_option maxRecDepth 100000 in
theorem c_X12_disconnect (l : Launch) (D : va_G) (cy : Nat → ClassId) (T : zT) (hT : zok T) (ad : Nat → Nat) (N : Nat) (s0 : zS) (sz : Nat) (a0 : Nat) (x1 : Int32) : ∀ (r0 : Int32) (σ0 : zS), f_X12_disconnect T N s0 a0 x1 = some (r0, σ0) → Met l yX12_disconnect wsX12_disconnect ({ frames := 2, cells := 0, slots := 0, locals := 43 }) (va_Pc [.ref (ad a0), .int x1] (zPre D cy T ad s0 sz)) (va_Qi (fun (r2 : Int32) (σ2 : zS) => r2 = r0 ∧ σ2 = σ0) (zAt D cy T ad (zA T ad sz)) (zA T ad sz)) 0 0 (zA T ad sz) := by
  intro r0 σ0 hq
  refine Met.ofW (cc := cX12_disconnect) (maxL := 2) (ret := (some .int)) (by decide) rfl ?_
  intro p e s m args below meth c s₁ B hml hv
  obtain ⟨hargs, hsz, hP, hK, hD0, hN⟩ := hv
  have hx := B.exec
  have hb := B.bytes
  have hr := B.returns
  have hts := atoms_spec (ws := wsX12_disconnect) B.pre
  have hown : s.vm.findClass RX12 = some m.cls := findClass_of_methodNamed B.named
  have hlocks := B.notSynchronized
  have S : CallFix p m c cX12_disconnect 2 s args wsX12_disconnect RX12 := ⟨hx, hb, hml, hown, hts⟩
  subst hsz
  have hB : zB D cy T ad (zA T ad s.heap.size) s.heap s0 s.heap [] s := zz_entry hP hK hD0 hN
  obtain ⟨ls, hent, hl⟩ := zz_ent m hargs (n := 2) (Nat.le_of_ble_eq_true rfl)
  rw [hent]
  have hl : lv_has ls 2 [(0, .ref (ad a0)), (1, .int x1)] := hl
  have iwX12 : ∀ w ∈ u_ws RX12 TX12 24, w ∈ wsX12_disconnect := fun w h => wS (inWX12 w h)
  unfold f_X12_disconnect at hq
  refine zz_guard hq (fun hk0 hq => ?_)
  refine lv_aload_n hx hb dX12_disconnect_0 rfl (lv_at hl 0 rfl) ?_
  refine lv_iload_n hx hb dX12_disconnect_1 rfl (lv_at hl 1 rfl) ?_
  refine zz_callVi S hT hB (As := [.int x1]) (b := a0) (o := f_X12_isLine T N s0 a0 x1) (c_X12_isLine l D cy T hT ad N s0 _ a0 x1) (cwV 1 hts (gV wSub wd_664 wd_665 wd_666 wd_572 wd_667) rfl rfl rfl (by decide +kernel) ⟨Nat.le_of_ble_eq_true rfl, Nat.le_of_ble_eq_true rfl⟩) (F := TX12) (NF := 24) 12 rfl (by decide) (k_X12_isLine T N s0 a0 x1) rfl hl.1 rfl (Nat.le_of_ble_eq_true rfl) dX12_disconnect_2 hq (fun x5 s4 H locs hq hB => ?_)
  refine zz_if_ne (tgt := 10) hx hb dX12_disconnect_5 (by decide) hq (fun hq => ?_) (fun hq => ?_)
  · refine lv_aload_n hx hb dX12_disconnect_10 rfl (lv_at hl 0 rfl) ?_
    refine zz_callVv S hT hB (As := []) (b := a0) (o := f_X12_act T N s4 a0) (c_X12_act l D cy T hT ad N s4 _ a0) (cwV 0 hts (gV wSub wd_604 wd_605 wd_606 wd_572 wd_607) rfl rfl rfl (by decide +kernel) ⟨Nat.le_of_ble_eq_true rfl, Nat.le_of_ble_eq_true rfl⟩) (F := TX12) (NF := 24) 12 rfl (by decide) (k_X12_act T N s4 a0) rfl hl.1 rfl (Nat.le_of_ble_eq_true rfl) dX12_disconnect_11 hq (fun s6 H locs hq hB => ?_)
    refine lv_aload_n hx hb dX12_disconnect_14 rfl (lv_at hl 0 rfl) ?_
    refine lv_iload_n hx hb dX12_disconnect_15 rfl (lv_at hl 1 rfl) ?_
    refine zz_callVv S hT hB (As := [.int x1]) (b := a0) (o := f_X12_cuts T N s6 a0 x1) (c_X12_cuts l D cy T hT ad N s6 _ a0 x1) (cwV 1 hts (gV wSub wd_628 wd_629 wd_630 wd_572 wd_631) rfl rfl rfl (by decide +kernel) ⟨Nat.le_of_ble_eq_true rfl, Nat.le_of_ble_eq_true rfl⟩) (F := TX12) (NF := 24) 12 rfl (by decide) (k_X12_cuts T N s6 a0 x1) rfl hl.1 rfl (Nat.le_of_ble_eq_true rfl) dX12_disconnect_16 hq (fun s7 H locs hq hB => ?_)
    refine lv_aload_n hx hb dX12_disconnect_19 rfl (lv_at hl 0 rfl) ?_
    refine zz_getR S hT hB (C := RX12) (ref := "DiagramDeskModel") (F := TX12) (N := 24) (index := 7) 12 0 iwX12 rfl (by decide) (by decide) rfl rfl (wS wd_569) (fun _ h9 => h9) dX12_disconnect_20 hq (fun a8 hq => ?_)
    refine lv_iconst (v := 2) hx hb dX12_disconnect_23 (by decide) ?_
    refine zz_ald S hT hB dX12_disconnect_24 hq (fun x9 hq => ?_)
    exact zz_iret S hB hr hlocks dX12_disconnect_25 hq
  · refine lv_iconst (v := -1) hx hb dX12_disconnect_8 (by decide) ?_
    exact zz_iret S hB hr hlocks dX12_disconnect_9 hq
def f_X12_connectors (T : zT) (N : Nat) (s0 : zS) (a0 : Nat) : Option (Int32 × zS) :=
  zz1 (T.1 a0 = 12) <|
  (gR T s0 a0 12 0).bind fun a3 =>
  (aI T s0 a3 13 (2 : Int32)).bind fun x4 =>
  some (x4, s0)
theorem k_X12_connectors (T : zT) (N : Nat) (s0 : zS) (a0 : Nat) : ∀ q, f_X12_connectors T N s0 a0 = some q → T.1 a0 = 12 := by
  intro q h
  unfold f_X12_connectors at h
  exact zz_guard h (fun h _ => h)
set_option maxHeartbeats 4000000 in
set_option maxRecDepth 100000 in
theorem c_X12_connectors (l : Launch) (D : va_G) (cy : Nat → ClassId) (T : zT) (hT : zok T) (ad : Nat → Nat) (N : Nat) (s0 : zS) (sz : Nat) (a0 : Nat) : ∀ (r0 : Int32) (σ0 : zS), f_X12_connectors T N s0 a0 = some (r0, σ0) → Met l yX12_connectors wsX12_connectors ({ frames := 0, cells := 0, slots := 0, locals := 0 }) (va_Pc [.ref (ad a0)] (zPre D cy T ad s0 sz)) (va_Qi (fun (r2 : Int32) (σ2 : zS) => r2 = r0 ∧ σ2 = σ0) (zAt D cy T ad (zA T ad sz)) (zA T ad sz)) 0 0 (zA T ad sz) := by
  intro r0 σ0 hq
  refine Met.ofW (cc := cX12_connectors) (maxL := 1) (ret := (some .int)) (by decide) rfl ?_
  intro p e s m args below meth c s₁ B hml hv
  obtain ⟨hargs, hsz, hP, hK, hD0, hN⟩ := hv
  have hx := B.exec
  have hb := B.bytes
  have hr := B.returns
  have hts := atoms_spec (ws := wsX12_connectors) B.pre
  have hown : s.vm.findClass RX12 = some m.cls := findClass_of_methodNamed B.named
  have hlocks := B.notSynchronized
  have S : CallFix p m c cX12_connectors 1 s args wsX12_connectors RX12 := ⟨hx, hb, hml, hown, hts⟩
  subst hsz
  have hB : zB D cy T ad (zA T ad s.heap.size) s.heap s0 s.heap [] s := zz_entry hP hK hD0 hN
  obtain ⟨ls, hent, hl⟩ := zz_ent m hargs (n := 1) (Nat.le_of_ble_eq_true rfl)
  rw [hent]
  have hl : lv_has ls 1 [(0, .ref (ad a0))] := hl
  have iwX12 : ∀ w ∈ u_ws RX12 TX12 24, w ∈ wsX12_connectors := fun w h => wS (inWX12 w h)
  unfold f_X12_connectors at hq
  refine zz_guard hq (fun hk0 hq => ?_)
  refine lv_aload_n hx hb dX12_connectors_0 rfl (lv_at hl 0 rfl) ?_
  refine zz_getR S hT hB (C := RX12) (ref := "DiagramDeskModel") (F := TX12) (N := 24) (index := 7) 12 0 iwX12 rfl (by decide) (by decide) rfl rfl (wS wd_569) (fun _ h9 => h9) dX12_connectors_1 hq (fun a3 hq => ?_)
  refine lv_iconst (v := 2) hx hb dX12_connectors_4 (by decide) ?_
  refine zz_ald S hT hB dX12_connectors_5 hq (fun x4 hq => ?_)
  exact zz_iret S hB hr hlocks dX12_connectors_6 hq
def f_X12_puts (T : zT) (N : Nat) (s0 : zS) (a0 : Nat) (x1 : Int32) (x2 : Int32) : Option zS :=
  zz1 (T.1 a0 = 12) <|
  (gR T s0 a0 12 3).bind fun a5 =>
  (gI T s0 a0 12 5).bind fun x6 =>
  (sI T s0 a5 x6 x1).bind fun s7 =>
  (gR T s7 a0 12 4).bind fun a8 =>
  (gI T s7 a0 12 5).bind fun x9 =>
  (sI T s7 a8 x9 x2).bind fun s10 =>
  (gI T s10 a0 12 5).bind fun x11 =>
  (pI T s10 a0 12 5 (x11 + (1 : Int32))).bind fun s12 =>
  some s12
theorem k_X12_puts (T : zT) (N : Nat) (s0 : zS) (a0 : Nat) (x1 : Int32) (x2 : Int32) : ∀ q, f_X12_puts T N s0 a0 x1 x2 = some q → T.1 a0 = 12 := by
  intro q h
  unfold f_X12_puts at h
  exact zz_guard h (fun h _ => h)
set_option maxHeartbeats 4000000 in
set_option maxRecDepth 100000 in
theorem c_X12_puts (l : Launch) (D : va_G) (cy : Nat → ClassId) (T : zT) (hT : zok T) (ad : Nat → Nat) (N : Nat) (s0 : zS) (sz : Nat) (a0 : Nat) (x1 : Int32) (x2 : Int32) : ∀ (σ0 : zS), f_X12_puts T N s0 a0 x1 x2 = some σ0 → Met l yX12_puts wsX12_puts ({ frames := 0, cells := 0, slots := 0, locals := 0 }) (va_Pc [.ref (ad a0), .int x1, .int x2] (zPre D cy T ad s0 sz)) (va_Qv (fun σ2 : zS => σ2 = σ0) (zAt D cy T ad (zA T ad sz)) (zA T ad sz)) 0 0 (zA T ad sz) := by
  intro σ0 hq
  refine Met.ofW (cc := cX12_puts) (maxL := 3) (ret := none) (by decide) rfl ?_
  intro p e s m args below meth c s₁ B hml hv
  obtain ⟨hargs, hsz, hP, hK, hD0, hN⟩ := hv
  have hx := B.exec
  have hb := B.bytes
  have hr := B.returns
  have hts := atoms_spec (ws := wsX12_puts) B.pre
  have hown : s.vm.findClass RX12 = some m.cls := findClass_of_methodNamed B.named
  have hlocks := B.notSynchronized
  have S : CallFix p m c cX12_puts 3 s args wsX12_puts RX12 := ⟨hx, hb, hml, hown, hts⟩
  subst hsz
  have hB : zB D cy T ad (zA T ad s.heap.size) s.heap s0 s.heap [] s := zz_entry hP hK hD0 hN
  obtain ⟨ls, hent, hl⟩ := zz_ent m hargs (n := 3) (Nat.le_of_ble_eq_true rfl)
  rw [hent]
  have hl : lv_has ls 3 [(0, .ref (ad a0)), (1, .int x1), (2, .int x2)] := hl
  have iwX12 : ∀ w ∈ u_ws RX12 TX12 24, w ∈ wsX12_puts := fun w h => wS (inWX12 w h)
  unfold f_X12_puts at hq
  refine zz_guard hq (fun hk0 hq => ?_)
  refine lv_aload_n hx hb dX12_puts_0 rfl (lv_at hl 0 rfl) ?_
  refine zz_getR S hT hB (C := RX12) (ref := "DiagramDeskModel") (F := TX12) (N := 24) (index := 16) 12 3 iwX12 rfl (by decide) (by decide) rfl rfl (wS wd_668) (fun _ h9 => h9) dX12_puts_1 hq (fun a5 hq => ?_)
  refine lv_aload_n hx hb dX12_puts_4 rfl (lv_at hl 0 rfl) ?_
  refine zz_get S hT hB (C := RX12) (ref := "DiagramDeskModel") (F := TX12) (N := 24) (index := 144) 12 5 iwX12 rfl (by decide) (by decide) rfl rfl (wS wd_669) (fun _ h9 => h9) dX12_puts_5 hq (fun x6 hq => ?_)
  refine lv_iload_n hx hb dX12_puts_8 rfl (lv_at hl 1 rfl) ?_
  refine zz_ast S hT hB dX12_puts_9 hq (fun s7 H locs hq hB => ?_)
  refine lv_aload_n hx hb dX12_puts_10 rfl (lv_at hl 0 rfl) ?_
  refine zz_getR S hT hB (C := RX12) (ref := "DiagramDeskModel") (F := TX12) (N := 24) (index := 19) 12 4 iwX12 rfl (by decide) (by decide) rfl rfl (wS wd_670) (fun _ h9 => h9) dX12_puts_11 hq (fun a8 hq => ?_)
  refine lv_aload_n hx hb dX12_puts_14 rfl (lv_at hl 0 rfl) ?_
  refine zz_get S hT hB (C := RX12) (ref := "DiagramDeskModel") (F := TX12) (N := 24) (index := 144) 12 5 iwX12 rfl (by decide) (by decide) rfl rfl (wS wd_669) (fun _ h9 => h9) dX12_puts_15 hq (fun x9 hq => ?_)
  refine lv_iload_n hx hb dX12_puts_18 rfl (lv_at hl 2 rfl) ?_
  refine zz_ast S hT hB dX12_puts_19 hq (fun s10 H locs hq hB => ?_)
  refine lv_aload_n hx hb dX12_puts_20 rfl (lv_at hl 0 rfl) ?_
  refine lv_dup hx hb dX12_puts_21 rfl ?_
  refine zz_get S hT hB (C := RX12) (ref := "DiagramDeskModel") (F := TX12) (N := 24) (index := 144) 12 5 iwX12 rfl (by decide) (by decide) rfl rfl (wS wd_669) (fun _ h9 => h9) dX12_puts_22 hq (fun x11 hq => ?_)
  refine lv_iconst (v := 1) hx hb dX12_puts_25 (by decide) ?_
  refine lv_iadd hx hb dX12_puts_26 ?_
  refine zz_put S hT hB (C := RX12) (ref := "DiagramDeskModel") (F := TX12) (N := 24) (index := 144) 12 5 iwX12 tyX12 tyX12_ok nmX12 rfl (by decide) (by decide) rfl rfl (wS wd_669) (fun _ h9 => h9) rfl (by decide +kernel) dX12_puts_27 hq (fun s12 H locs hq hB => ?_)
  exact zz_vret S hB hr hlocks dX12_puts_30 hq
def f_X12_half (T : zT) (N : Nat) (s0 : zS) (x0 : Int32) : Option (Int32 × zS) :=
  some (x0 >>> ((1 : Int32) &&& 31), s0)
set_option maxHeartbeats 4000000 in
set_option maxRecDepth 100000 in
theorem c_X12_half (l : Launch) (D : va_G) (cy : Nat → ClassId) (T : zT) (hT : zok T) (ad : Nat → Nat) (N : Nat) (s0 : zS) (sz : Nat) (x0 : Int32) : ∀ (r0 : Int32) (σ0 : zS), f_X12_half T N s0 x0 = some (r0, σ0) → Met l yX12_half wsX12_half ({ frames := 0, cells := 0, slots := 0, locals := 0 }) (va_Pc [.int x0] (zPre D cy T ad s0 sz)) (va_Qi (fun (r2 : Int32) (σ2 : zS) => r2 = r0 ∧ σ2 = σ0) (zAt D cy T ad (zA T ad sz)) (zA T ad sz)) 0 0 (zA T ad sz) := by
  intro r0 σ0 hq
  refine Met.ofW (cc := cX12_half) (maxL := 1) (ret := (some .int)) (by decide) rfl ?_
  intro p e s m args below meth c s₁ B hml hv
  obtain ⟨hargs, hsz, hP, hK, hD0, hN⟩ := hv
  have hx := B.exec
  have hb := B.bytes
  have hr := B.returns
  have hts := atoms_spec (ws := wsX12_half) B.pre
  have hown : s.vm.findClass RX12 = some m.cls := findClass_of_methodNamed B.named
  have hlocks := B.notSynchronized
  have S : CallFix p m c cX12_half 1 s args wsX12_half RX12 := ⟨hx, hb, hml, hown, hts⟩
  subst hsz
  have hB : zB D cy T ad (zA T ad s.heap.size) s.heap s0 s.heap [] s := zz_entry hP hK hD0 hN
  obtain ⟨ls, hent, hl⟩ := zz_ent m hargs (n := 1) (Nat.le_of_ble_eq_true rfl)
  rw [hent]
  have hl : lv_has ls 1 [(0, .int x0)] := hl
  unfold f_X12_half at hq
  refine lv_iload_n hx hb dX12_half_0 rfl (lv_at hl 0 rfl) ?_
  refine lv_iconst (v := 1) hx hb dX12_half_1 (by decide) ?_
  refine lv_ishr hx hb dX12_half_2 ?_
  exact zz_iret S hB hr hlocks dX12_half_3 hq
def f_X12_draws_J262 (T : zT) (N : Nat) (a0 : Nat) (x22 : Int32) (x28 : Int32) (s36 : zS) : Option zS :=
  (f_X12_puts T N s36 a0 x22 x28).bind fun s37 =>
  some s37
def f_X12_draws_J247 (T : zT) (N : Nat) (a0 : Nat) (x22 : Int32) (x28 : Int32) (x31 : Int32) (x40 : Int32) (s44 : zS) (x45 : Int32) : Option zS :=
  if x31 = 0 then (
    (f_X12_puts T N s44 a0 x45 x40).bind fun s46 =>
    f_X12_draws_J262 T N a0 x22 x28 s46)
  else (
    (f_X12_puts T N s44 a0 x45 x28).bind fun s47 =>
    f_X12_draws_J262 T N a0 x22 x28 s47)
def f_X12_draws_J231 (T : zT) (N : Nat) (a0 : Nat) (x22 : Int32) (x28 : Int32) (x31 : Int32) (x40 : Int32) (s41 : zS) (x42 : Int32) (x43 : Int32) : Option zS :=
  (f_X12_puts T N s41 a0 x42 x43).bind fun s44 =>
  if x31 = 0 then (
    f_X12_draws_J247 T N a0 x22 x28 x31 x40 s44 x22)
  else (
    f_X12_draws_J247 T N a0 x22 x28 x31 x40 s44 x40)
def f_X12_draws_J219 (T : zT) (N : Nat) (a0 : Nat) (x16 : Int32) (x22 : Int32) (x28 : Int32) (x31 : Int32) (x40 : Int32) (s41 : zS) (x42 : Int32) : Option zS :=
  if x31 = 0 then (
    f_X12_draws_J231 T N a0 x22 x28 x31 x40 s41 x42 x40)
  else (
    f_X12_draws_J231 T N a0 x22 x28 x31 x40 s41 x42 x16)
def f_X12_draws_J205 (T : zT) (N : Nat) (a0 : Nat) (x10 : Int32) (x16 : Int32) (x22 : Int32) (x28 : Int32) (x31 : Int32) (x40 : Int32) (s41 : zS) : Option zS :=
  if x31 = 0 then (
    f_X12_draws_J219 T N a0 x16 x22 x28 x31 x40 s41 x10)
  else (
    f_X12_draws_J219 T N a0 x16 x22 x28 x31 x40 s41 x40)
def f_X12_draws_J152 (T : zT) (N : Nat) (a0 : Nat) (x16 : Int32) (x22 : Int32) (x28 : Int32) (x31 : Int32) (s33 : zS) (x52 : Int32) : Option zS :=
  if x31 = 0 then (
    (f_X12_puts T N s33 a0 x52 x28).bind fun s53 =>
    f_X12_draws_J262 T N a0 x22 x28 s53)
  else (
    (f_X12_puts T N s33 a0 x52 x16).bind fun s54 =>
    f_X12_draws_J262 T N a0 x22 x28 s54)
def f_X12_draws_J114 (T : zT) (N : Nat) (a0 : Nat) (x4 : Int32) (x10 : Int32) (x16 : Int32) (x22 : Int32) (s27 : zS) (x28 : Int32) (x31 : Int32) : Option zS :=
  (pI T s27 a0 12 5 (0 : Int32)).bind fun s32 =>
  (f_X12_puts T N s32 a0 x10 x16).bind fun s33 =>
  (gR T s33 a0 12 0).bind fun a34 =>
  (aI T s33 a34 13 (x4 + (4 : Int32))).bind fun x35 =>
  if ¬ x35 = (1 : Int32) then (
    (gR T s33 a0 12 0).bind fun a38 =>
    (aI T s33 a38 13 (x4 + (4 : Int32))).bind fun x39 =>
    if ¬ x39 = (2 : Int32) then (
      f_X12_draws_J262 T N a0 x22 x28 s33)
    else (
      if x31 = 0 then (
        zb2 (f_X12_half T N s33 (x16 + x28)) fun x49 s48 =>
        f_X12_draws_J205 T N a0 x10 x16 x22 x28 x31 x49 s48)
      else (
        zb2 (f_X12_half T N s33 (x10 + x22)) fun x51 s50 =>
        f_X12_draws_J205 T N a0 x10 x16 x22 x28 x31 x51 s50)))
  else (
    if x31 = 0 then (
      f_X12_draws_J152 T N a0 x16 x22 x28 x31 s33 x10)
    else (
      f_X12_draws_J152 T N a0 x16 x22 x28 x31 s33 x22))
def f_X12_draws (T : zT) (N : Nat) (s0 : zS) (a0 : Nat) (x1 : Int32) : Option zS :=
  zz1 (T.1 a0 = 12) <|
  zn ((190 : Int32) + ((5 : Int32) * x1)) fun x4 =>
  (gR T s0 a0 12 0).bind fun a5 =>
  (aI T s0 a5 13 x4).bind fun x6 =>
  (gR T s0 a0 12 0).bind fun a7 =>
  (aI T s0 a7 13 (x4 + (1 : Int32))).bind fun x8 =>
  zb2 (f_X12_portOf T N s0 a0 x6 x8 (0 : Int32)) fun x10 s9 =>
  (gR T s9 a0 12 0).bind fun a11 =>
  (aI T s9 a11 13 x4).bind fun x12 =>
  (gR T s9 a0 12 0).bind fun a13 =>
  (aI T s9 a13 13 (x4 + (1 : Int32))).bind fun x14 =>
  zb2 (f_X12_portOf T N s9 a0 x12 x14 (1 : Int32)) fun x16 s15 =>
  (gR T s15 a0 12 0).bind fun a17 =>
  (aI T s15 a17 13 (x4 + (2 : Int32))).bind fun x18 =>
  (gR T s15 a0 12 0).bind fun a19 =>
  (aI T s15 a19 13 (x4 + (3 : Int32))).bind fun x20 =>
  zb2 (f_X12_portOf T N s15 a0 x18 x20 (0 : Int32)) fun x22 s21 =>
  (gR T s21 a0 12 0).bind fun a23 =>
  (aI T s21 a23 13 (x4 + (2 : Int32))).bind fun x24 =>
  (gR T s21 a0 12 0).bind fun a25 =>
  (aI T s21 a25 13 (x4 + (3 : Int32))).bind fun x26 =>
  zb2 (f_X12_portOf T N s21 a0 x24 x26 (1 : Int32)) fun x28 s27 =>
  (gR T s27 a0 12 0).bind fun a29 =>
  (aI T s27 a29 13 (x4 + (1 : Int32))).bind fun x30 =>
  if ¬ (x30 - x30 / (2 : Int32) * (2 : Int32)) = (1 : Int32) then (
    f_X12_draws_J114 T N a0 x4 x10 x16 x22 s27 x28 (0 : Int32))
  else (
    f_X12_draws_J114 T N a0 x4 x10 x16 x22 s27 x28 (1 : Int32))
theorem k_X12_draws (T : zT) (N : Nat) (s0 : zS) (a0 : Nat) (x1 : Int32) : ∀ q, f_X12_draws T N s0 a0 x1 = some q → T.1 a0 = 12 := by
  intro q h
  unfold f_X12_draws at h
  exact zz_guard h (fun h _ => h)
set_option maxHeartbeats 4000000 in
set_option maxRecDepth 100000 in
theorem c_X12_draws (l : Launch) (D : va_G) (cy : Nat → ClassId) (T : zT) (hT : zok T) (ad : Nat → Nat) (N : Nat) (s0 : zS) (sz : Nat) (a0 : Nat) (x1 : Int32) : ∀ (σ0 : zS), f_X12_draws T N s0 a0 x1 = some σ0 → Met l yX12_draws wsX12_draws ({ frames := 3, cells := 0, slots := 0, locals := 67 }) (va_Pc [.ref (ad a0), .int x1] (zPre D cy T ad s0 sz)) (va_Qv (fun σ2 : zS => σ2 = σ0) (zAt D cy T ad (zA T ad sz)) (zA T ad sz)) 0 0 (zA T ad sz) := by
  intro σ0 hq
  refine Met.ofW (cc := cX12_draws) (maxL := 9) (ret := none) (by decide) rfl ?_
  intro p e s m args below meth c s₁ B hml hv
  obtain ⟨hargs, hsz, hP, hK, hD0, hN⟩ := hv
  have hx := B.exec
  have hb := B.bytes
  have hr := B.returns
  have hts := atoms_spec (ws := wsX12_draws) B.pre
  have hown : s.vm.findClass RX12 = some m.cls := findClass_of_methodNamed B.named
  have hlocks := B.notSynchronized
  have S : CallFix p m c cX12_draws 9 s args wsX12_draws RX12 := ⟨hx, hb, hml, hown, hts⟩
  subst hsz
  have hB : zB D cy T ad (zA T ad s.heap.size) s.heap s0 s.heap [] s := zz_entry hP hK hD0 hN
  obtain ⟨ls, hent, hl⟩ := zz_ent m hargs (n := 9) (Nat.le_of_ble_eq_true rfl)
  rw [hent]
  have hl : lv_has ls 9 [(0, .ref (ad a0)), (1, .int x1)] := hl
  have iwX12 : ∀ w ∈ u_ws RX12 TX12 24, w ∈ wsX12_draws := fun w h => wS (inWX12 w h)
  unfold f_X12_draws at hq
  refine zz_guard hq (fun hk0 hq => ?_)
  refine lv_sipush (v := 190) hx hb dX12_draws_0 (by decide) ?_
  refine lv_iconst (v := 5) hx hb dX12_draws_3 (by decide) ?_
  refine lv_iload_n hx hb dX12_draws_4 rfl (lv_at hl 1 rfl) ?_
  refine lv_imul hx hb dX12_draws_5 ?_
  refine lv_iadd hx hb dX12_draws_6 ?_
  refine zz_nmI hq (fun x4 hq => ?_)
  refine lv_istore_n (lv' := [(2, .int x4), (0, .ref (ad a0)), (1, .int x1)]) hx hb dX12_draws_7 rfl hl (by decide) rfl (fun ls hl => ?_)
  refine lv_aload_n hx hb dX12_draws_8 rfl (lv_at hl 1 rfl) ?_
  refine lv_aload_n hx hb dX12_draws_9 rfl (lv_at hl 1 rfl) ?_
  refine zz_getR S hT hB (C := RX12) (ref := "DiagramDeskModel") (F := TX12) (N := 24) (index := 7) 12 0 iwX12 rfl (by decide) (by decide) rfl rfl (wS wd_569) (fun _ h9 => h9) dX12_draws_10 hq (fun a5 hq => ?_)
  refine lv_iload_n hx hb dX12_draws_13 rfl (lv_at hl 0 rfl) ?_
  refine zz_ald S hT hB dX12_draws_14 hq (fun x6 hq => ?_)
  refine lv_aload_n hx hb dX12_draws_15 rfl (lv_at hl 1 rfl) ?_
  refine zz_getR S hT hB (C := RX12) (ref := "DiagramDeskModel") (F := TX12) (N := 24) (index := 7) 12 0 iwX12 rfl (by decide) (by decide) rfl rfl (wS wd_569) (fun _ h9 => h9) dX12_draws_16 hq (fun a7 hq => ?_)
  refine lv_iload_n hx hb dX12_draws_19 rfl (lv_at hl 0 rfl) ?_
  refine lv_iconst (v := 1) hx hb dX12_draws_20 (by decide) ?_
  refine lv_iadd hx hb dX12_draws_21 ?_
  refine zz_ald S hT hB dX12_draws_22 hq (fun x8 hq => ?_)
  refine lv_iconst (v := 0) hx hb dX12_draws_23 (by decide) ?_
  refine zz_callVi S hT hB (As := [.int x6, .int x8, .int (0 : Int32)]) (b := a0) (o := f_X12_portOf T N s0 a0 x6 x8 (0 : Int32)) (c_X12_portOf l D cy T hT ad N s0 _ a0 x6 x8 (0 : Int32)) (cwV 3 hts (gV wSub wd_653 wd_654 wd_655 wd_572 wd_656) rfl rfl rfl (by decide +kernel) ⟨Nat.le_of_ble_eq_true rfl, Nat.le_of_ble_eq_true rfl⟩) (F := TX12) (NF := 24) 12 rfl (by decide) (k_X12_portOf T N s0 a0 x6 x8 (0 : Int32)) rfl hl.1 rfl (Nat.le_of_ble_eq_true rfl) dX12_draws_24 hq (fun x10 s9 H locs hq hB => ?_)
  refine lv_istore_n (lv' := [(3, .int x10), (2, .int x4), (0, .ref (ad a0)), (1, .int x1)]) hx hb dX12_draws_27 rfl hl (by decide) rfl (fun ls hl => ?_)
  refine lv_aload_n hx hb dX12_draws_28 rfl (lv_at hl 2 rfl) ?_
  refine lv_aload_n hx hb dX12_draws_29 rfl (lv_at hl 2 rfl) ?_
  refine zz_getR S hT hB (C := RX12) (ref := "DiagramDeskModel") (F := TX12) (N := 24) (index := 7) 12 0 iwX12 rfl (by decide) (by decide) rfl rfl (wS wd_569) (fun _ h9 => h9) dX12_draws_30 hq (fun a11 hq => ?_)
  refine lv_iload_n hx hb dX12_draws_33 rfl (lv_at hl 1 rfl) ?_
  refine zz_ald S hT hB dX12_draws_34 hq (fun x12 hq => ?_)
  refine lv_aload_n hx hb dX12_draws_35 rfl (lv_at hl 2 rfl) ?_
  refine zz_getR S hT hB (C := RX12) (ref := "DiagramDeskModel") (F := TX12) (N := 24) (index := 7) 12 0 iwX12 rfl (by decide) (by decide) rfl rfl (wS wd_569) (fun _ h9 => h9) dX12_draws_36 hq (fun a13 hq => ?_)
  refine lv_iload_n hx hb dX12_draws_39 rfl (lv_at hl 1 rfl) ?_
  refine lv_iconst (v := 1) hx hb dX12_draws_40 (by decide) ?_
  refine lv_iadd hx hb dX12_draws_41 ?_
  refine zz_ald S hT hB dX12_draws_42 hq (fun x14 hq => ?_)
  refine lv_iconst (v := 1) hx hb dX12_draws_43 (by decide) ?_
  refine zz_callVi S hT hB (As := [.int x12, .int x14, .int (1 : Int32)]) (b := a0) (o := f_X12_portOf T N s9 a0 x12 x14 (1 : Int32)) (c_X12_portOf l D cy T hT ad N s9 _ a0 x12 x14 (1 : Int32)) (cwV 3 hts (gV wSub wd_653 wd_654 wd_655 wd_572 wd_656) rfl rfl rfl (by decide +kernel) ⟨Nat.le_of_ble_eq_true rfl, Nat.le_of_ble_eq_true rfl⟩) (F := TX12) (NF := 24) 12 rfl (by decide) (k_X12_portOf T N s9 a0 x12 x14 (1 : Int32)) rfl hl.1 rfl (Nat.le_of_ble_eq_true rfl) dX12_draws_44 hq (fun x16 s15 H locs hq hB => ?_)
  refine lv_istore (lv' := [(4, .int x16), (3, .int x10), (2, .int x4), (0, .ref (ad a0)), (1, .int x1)]) hx hb dX12_draws_47 hl (by decide) rfl (fun ls hl => ?_)
  refine lv_aload_n hx hb dX12_draws_49 rfl (lv_at hl 3 rfl) ?_
  refine lv_aload_n hx hb dX12_draws_50 rfl (lv_at hl 3 rfl) ?_
  refine zz_getR S hT hB (C := RX12) (ref := "DiagramDeskModel") (F := TX12) (N := 24) (index := 7) 12 0 iwX12 rfl (by decide) (by decide) rfl rfl (wS wd_569) (fun _ h9 => h9) dX12_draws_51 hq (fun a17 hq => ?_)
  refine lv_iload_n hx hb dX12_draws_54 rfl (lv_at hl 2 rfl) ?_
  refine lv_iconst (v := 2) hx hb dX12_draws_55 (by decide) ?_
  refine lv_iadd hx hb dX12_draws_56 ?_
  refine zz_ald S hT hB dX12_draws_57 hq (fun x18 hq => ?_)
  refine lv_aload_n hx hb dX12_draws_58 rfl (lv_at hl 3 rfl) ?_
  refine zz_getR S hT hB (C := RX12) (ref := "DiagramDeskModel") (F := TX12) (N := 24) (index := 7) 12 0 iwX12 rfl (by decide) (by decide) rfl rfl (wS wd_569) (fun _ h9 => h9) dX12_draws_59 hq (fun a19 hq => ?_)
  refine lv_iload_n hx hb dX12_draws_62 rfl (lv_at hl 2 rfl) ?_
  refine lv_iconst (v := 3) hx hb dX12_draws_63 (by decide) ?_
  refine lv_iadd hx hb dX12_draws_64 ?_
  refine zz_ald S hT hB dX12_draws_65 hq (fun x20 hq => ?_)
  refine lv_iconst (v := 0) hx hb dX12_draws_66 (by decide) ?_
  refine zz_callVi S hT hB (As := [.int x18, .int x20, .int (0 : Int32)]) (b := a0) (o := f_X12_portOf T N s15 a0 x18 x20 (0 : Int32)) (c_X12_portOf l D cy T hT ad N s15 _ a0 x18 x20 (0 : Int32)) (cwV 3 hts (gV wSub wd_653 wd_654 wd_655 wd_572 wd_656) rfl rfl rfl (by decide +kernel) ⟨Nat.le_of_ble_eq_true rfl, Nat.le_of_ble_eq_true rfl⟩) (F := TX12) (NF := 24) 12 rfl (by decide) (k_X12_portOf T N s15 a0 x18 x20 (0 : Int32)) rfl hl.1 rfl (Nat.le_of_ble_eq_true rfl) dX12_draws_67 hq (fun x22 s21 H locs hq hB => ?_)
  refine lv_istore (lv' := [(5, .int x22), (4, .int x16), (3, .int x10), (2, .int x4), (0, .ref (ad a0)), (1, .int x1)]) hx hb dX12_draws_70 hl (by decide) rfl (fun ls hl => ?_)
  refine lv_aload_n hx hb dX12_draws_72 rfl (lv_at hl 4 rfl) ?_
  refine lv_aload_n hx hb dX12_draws_73 rfl (lv_at hl 4 rfl) ?_
  refine zz_getR S hT hB (C := RX12) (ref := "DiagramDeskModel") (F := TX12) (N := 24) (index := 7) 12 0 iwX12 rfl (by decide) (by decide) rfl rfl (wS wd_569) (fun _ h9 => h9) dX12_draws_74 hq (fun a23 hq => ?_)
  refine lv_iload_n hx hb dX12_draws_77 rfl (lv_at hl 3 rfl) ?_
  refine lv_iconst (v := 2) hx hb dX12_draws_78 (by decide) ?_
  refine lv_iadd hx hb dX12_draws_79 ?_
  refine zz_ald S hT hB dX12_draws_80 hq (fun x24 hq => ?_)
  refine lv_aload_n hx hb dX12_draws_81 rfl (lv_at hl 4 rfl) ?_
  refine zz_getR S hT hB (C := RX12) (ref := "DiagramDeskModel") (F := TX12) (N := 24) (index := 7) 12 0 iwX12 rfl (by decide) (by decide) rfl rfl (wS wd_569) (fun _ h9 => h9) dX12_draws_82 hq (fun a25 hq => ?_)
  refine lv_iload_n hx hb dX12_draws_85 rfl (lv_at hl 3 rfl) ?_
  refine lv_iconst (v := 3) hx hb dX12_draws_86 (by decide) ?_
  refine lv_iadd hx hb dX12_draws_87 ?_
  refine zz_ald S hT hB dX12_draws_88 hq (fun x26 hq => ?_)
  refine lv_iconst (v := 1) hx hb dX12_draws_89 (by decide) ?_
  refine zz_callVi S hT hB (As := [.int x24, .int x26, .int (1 : Int32)]) (b := a0) (o := f_X12_portOf T N s21 a0 x24 x26 (1 : Int32)) (c_X12_portOf l D cy T hT ad N s21 _ a0 x24 x26 (1 : Int32)) (cwV 3 hts (gV wSub wd_653 wd_654 wd_655 wd_572 wd_656) rfl rfl rfl (by decide +kernel) ⟨Nat.le_of_ble_eq_true rfl, Nat.le_of_ble_eq_true rfl⟩) (F := TX12) (NF := 24) 12 rfl (by decide) (k_X12_portOf T N s21 a0 x24 x26 (1 : Int32)) rfl hl.1 rfl (Nat.le_of_ble_eq_true rfl) dX12_draws_90 hq (fun x28 s27 H locs hq hB => ?_)
  refine lv_istore (lv' := [(6, .int x28), (5, .int x22), (4, .int x16), (3, .int x10), (2, .int x4), (0, .ref (ad a0)), (1, .int x1)]) hx hb dX12_draws_93 hl (by decide) rfl (fun ls hl => ?_)
  refine lv_aload_n hx hb dX12_draws_95 rfl (lv_at hl 5 rfl) ?_
  refine zz_getR S hT hB (C := RX12) (ref := "DiagramDeskModel") (F := TX12) (N := 24) (index := 7) 12 0 iwX12 rfl (by decide) (by decide) rfl rfl (wS wd_569) (fun _ h9 => h9) dX12_draws_96 hq (fun a29 hq => ?_)
  refine lv_iload_n hx hb dX12_draws_99 rfl (lv_at hl 4 rfl) ?_
  refine lv_iconst (v := 1) hx hb dX12_draws_100 (by decide) ?_
  refine lv_iadd hx hb dX12_draws_101 ?_
  refine zz_ald S hT hB dX12_draws_102 hq (fun x30 hq => ?_)
  refine lv_iconst (v := 2) hx hb dX12_draws_103 (by decide) ?_
  refine lv_irem hx hb dX12_draws_104 (by decide) ?_
  refine lv_iconst (v := 1) hx hb dX12_draws_105 (by decide) ?_
  have J114 : ∀ (x31 : Int32) (H : Heap) (locs : List Loc) (ls : Array Slot), f_X12_draws_J114 T N a0 x4 x10 x16 x22 s27 x28 x31 = some σ0 → zB D cy T ad (zA T ad s.heap.size) s.heap s27 H locs s → lv_has ls 9 [(0, .ref (ad a0)), (2, .int x4), (3, .int x10), (4, .int x16), (5, .int x22), (6, .int x28)] → W p l e (headSpec wsX12_draws ({ frames := 3, cells := 0, slots := 0, locals := 67 } : Room)).room s m args below meth c H locs 0 0 (MQ below (va_Qv (fun σ2 : zS => σ2 = σ0) (zAt D cy T ad (zA T ad s.heap.size)) (zA T ad s.heap.size)) args s 0 0 (zA T ad s.heap.size)) (F0 m 114 ls [.int x31]) := by
    intro x31 H locs ls hq hB hl
    unfold f_X12_draws_J114 at hq
    refine lv_istore (lv' := [(7, .int x31), (0, .ref (ad a0)), (2, .int x4), (3, .int x10), (4, .int x16), (5, .int x22), (6, .int x28)]) hx hb dX12_draws_114 hl (by decide) rfl (fun ls hl => ?_)
    refine lv_aload_n hx hb dX12_draws_116 rfl (lv_at hl 1 rfl) ?_
    refine lv_iconst (v := 0) hx hb dX12_draws_117 (by decide) ?_
    refine zz_put S hT hB (C := RX12) (ref := "DiagramDeskModel") (F := TX12) (N := 24) (index := 144) 12 5 iwX12 tyX12 tyX12_ok nmX12 rfl (by decide) (by decide) rfl rfl (wS wd_669) (fun _ h9 => h9) rfl (by decide +kernel) dX12_draws_118 hq (fun s32 H locs hq hB => ?_)
    refine lv_aload_n hx hb dX12_draws_121 rfl (lv_at hl 1 rfl) ?_
    refine lv_iload_n hx hb dX12_draws_122 rfl (lv_at hl 3 rfl) ?_
    refine lv_iload hx hb dX12_draws_123 (lv_at hl 4 rfl) ?_
    refine zz_callVv S hT hB (As := [.int x10, .int x16]) (b := a0) (o := f_X12_puts T N s32 a0 x10 x16) (c_X12_puts l D cy T hT ad N s32 _ a0 x10 x16) (cwV 2 hts (gV wSub wd_671 wd_672 wd_673 wd_572 wd_674) rfl rfl rfl (by decide +kernel) ⟨Nat.le_of_ble_eq_true rfl, Nat.le_of_ble_eq_true rfl⟩) (F := TX12) (NF := 24) 12 rfl (by decide) (k_X12_puts T N s32 a0 x10 x16) rfl hl.1 rfl (Nat.le_of_ble_eq_true rfl) dX12_draws_125 hq (fun s33 H locs hq hB => ?_)
    refine lv_aload_n hx hb dX12_draws_128 rfl (lv_at hl 1 rfl) ?_
    refine zz_getR S hT hB (C := RX12) (ref := "DiagramDeskModel") (F := TX12) (N := 24) (index := 7) 12 0 iwX12 rfl (by decide) (by decide) rfl rfl (wS wd_569) (fun _ h9 => h9) dX12_draws_129 hq (fun a34 hq => ?_)
    refine lv_iload_n hx hb dX12_draws_132 rfl (lv_at hl 2 rfl) ?_
    refine lv_iconst (v := 4) hx hb dX12_draws_133 (by decide) ?_
    refine lv_iadd hx hb dX12_draws_134 ?_
    refine zz_ald S hT hB dX12_draws_135 hq (fun x35 hq => ?_)
    refine lv_iconst (v := 1) hx hb dX12_draws_136 (by decide) ?_
    have J262 : ∀ (s36 : zS) (H : Heap) (locs : List Loc) (ls : Array Slot), f_X12_draws_J262 T N a0 x22 x28 s36 = some σ0 → zB D cy T ad (zA T ad s.heap.size) s.heap s36 H locs s → lv_has ls 9 [(0, .ref (ad a0)), (5, .int x22), (6, .int x28)] → W p l e (headSpec wsX12_draws ({ frames := 3, cells := 0, slots := 0, locals := 67 } : Room)).room s m args below meth c H locs 0 0 (MQ below (va_Qv (fun σ2 : zS => σ2 = σ0) (zAt D cy T ad (zA T ad s.heap.size)) (zA T ad s.heap.size)) args s 0 0 (zA T ad s.heap.size)) (F0 m 262 ls []) := by
      intro s36 H locs ls hq hB hl
      unfold f_X12_draws_J262 at hq
      refine lv_aload_n hx hb dX12_draws_262 rfl (lv_at hl 0 rfl) ?_
      refine lv_iload hx hb dX12_draws_263 (lv_at hl 1 rfl) ?_
      refine lv_iload hx hb dX12_draws_265 (lv_at hl 2 rfl) ?_
      refine zz_callVv S hT hB (As := [.int x22, .int x28]) (b := a0) (o := f_X12_puts T N s36 a0 x22 x28) (c_X12_puts l D cy T hT ad N s36 _ a0 x22 x28) (cwV 2 hts (gV wSub wd_671 wd_672 wd_673 wd_572 wd_674) rfl rfl rfl (by decide +kernel) ⟨Nat.le_of_ble_eq_true rfl, Nat.le_of_ble_eq_true rfl⟩) (F := TX12) (NF := 24) 12 rfl (by decide) (k_X12_puts T N s36 a0 x22 x28) rfl hl.1 rfl (Nat.le_of_ble_eq_true rfl) dX12_draws_267 hq (fun s37 H locs hq hB => ?_)
      exact zz_vret S hB hr hlocks dX12_draws_270 hq
    refine zz_icmp_ne (tgt := 170) hx hb dX12_draws_137 (by decide) hq (fun hq => ?_) (fun hq => ?_)
    · refine lv_aload_n hx hb dX12_draws_170 rfl (lv_at hl 1 rfl) ?_
      refine zz_getR S hT hB (C := RX12) (ref := "DiagramDeskModel") (F := TX12) (N := 24) (index := 7) 12 0 iwX12 rfl (by decide) (by decide) rfl rfl (wS wd_569) (fun _ h9 => h9) dX12_draws_171 hq (fun a38 hq => ?_)
      refine lv_iload_n hx hb dX12_draws_174 rfl (lv_at hl 2 rfl) ?_
      refine lv_iconst (v := 4) hx hb dX12_draws_175 (by decide) ?_
      refine lv_iadd hx hb dX12_draws_176 ?_
      refine zz_ald S hT hB dX12_draws_177 hq (fun x39 hq => ?_)
      refine lv_iconst (v := 2) hx hb dX12_draws_178 (by decide) ?_
      refine zz_icmp_ne (tgt := 262) hx hb dX12_draws_179 (by decide) hq (fun hq => ?_) (fun hq => ?_)
      · exact J262 s33 _ _ _ hq hB (lv_sub hl [1, 5, 6] rfl)
      · refine lv_iload hx hb dX12_draws_182 (lv_at hl 0 rfl) ?_
        have J205 : ∀ (x40 : Int32) (s41 : zS) (H : Heap) (locs : List Loc) (ls : Array Slot), f_X12_draws_J205 T N a0 x10 x16 x22 x28 x31 x40 s41 = some σ0 → zB D cy T ad (zA T ad s.heap.size) s.heap s41 H locs s → lv_has ls 9 [(0, .ref (ad a0)), (3, .int x10), (4, .int x16), (5, .int x22), (6, .int x28), (7, .int x31)] → W p l e (headSpec wsX12_draws ({ frames := 3, cells := 0, slots := 0, locals := 67 } : Room)).room s m args below meth c H locs 0 0 (MQ below (va_Qv (fun σ2 : zS => σ2 = σ0) (zAt D cy T ad (zA T ad s.heap.size)) (zA T ad s.heap.size)) args s 0 0 (zA T ad s.heap.size)) (F0 m 205 ls [.int x40]) := by
          intro x40 s41 H locs ls hq hB hl
          unfold f_X12_draws_J205 at hq
          refine lv_istore (lv' := [(8, .int x40), (0, .ref (ad a0)), (3, .int x10), (4, .int x16), (5, .int x22), (6, .int x28), (7, .int x31)]) hx hb dX12_draws_205 hl (by decide) rfl (fun ls hl => ?_)
          refine lv_aload_n hx hb dX12_draws_207 rfl (lv_at hl 1 rfl) ?_
          refine lv_iload hx hb dX12_draws_208 (lv_at hl 6 rfl) ?_
          have J219 : ∀ (x42 : Int32) (H : Heap) (locs : List Loc) (ls : Array Slot), f_X12_draws_J219 T N a0 x16 x22 x28 x31 x40 s41 x42 = some σ0 → zB D cy T ad (zA T ad s.heap.size) s.heap s41 H locs s → lv_has ls 9 [(0, .ref (ad a0)), (4, .int x16), (5, .int x22), (6, .int x28), (7, .int x31), (8, .int x40)] → W p l e (headSpec wsX12_draws ({ frames := 3, cells := 0, slots := 0, locals := 67 } : Room)).room s m args below meth c H locs 0 0 (MQ below (va_Qv (fun σ2 : zS => σ2 = σ0) (zAt D cy T ad (zA T ad s.heap.size)) (zA T ad s.heap.size)) args s 0 0 (zA T ad s.heap.size)) (F0 m 219 ls [.int x42, .ref (ad a0)]) := by
            intro x42 H locs ls hq hB hl
            unfold f_X12_draws_J219 at hq
            refine lv_iload hx hb dX12_draws_219 (lv_at hl 4 rfl) ?_
            have J231 : ∀ (x43 : Int32) (H : Heap) (locs : List Loc) (ls : Array Slot), f_X12_draws_J231 T N a0 x22 x28 x31 x40 s41 x42 x43 = some σ0 → zB D cy T ad (zA T ad s.heap.size) s.heap s41 H locs s → lv_has ls 9 [(0, .ref (ad a0)), (5, .int x22), (6, .int x28), (7, .int x31), (8, .int x40)] → W p l e (headSpec wsX12_draws ({ frames := 3, cells := 0, slots := 0, locals := 67 } : Room)).room s m args below meth c H locs 0 0 (MQ below (va_Qv (fun σ2 : zS => σ2 = σ0) (zAt D cy T ad (zA T ad s.heap.size)) (zA T ad s.heap.size)) args s 0 0 (zA T ad s.heap.size)) (F0 m 231 ls [.int x43, .int x42, .ref (ad a0)]) := by
              intro x43 H locs ls hq hB hl
              unfold f_X12_draws_J231 at hq
              refine zz_callVv S hT hB (As := [.int x42, .int x43]) (b := a0) (o := f_X12_puts T N s41 a0 x42 x43) (c_X12_puts l D cy T hT ad N s41 _ a0 x42 x43) (cwV 2 hts (gV wSub wd_671 wd_672 wd_673 wd_572 wd_674) rfl rfl rfl (by decide +kernel) ⟨Nat.le_of_ble_eq_true rfl, Nat.le_of_ble_eq_true rfl⟩) (F := TX12) (NF := 24) 12 rfl (by decide) (k_X12_puts T N s41 a0 x42 x43) rfl hl.1 rfl (Nat.le_of_ble_eq_true rfl) dX12_draws_231 hq (fun s44 H locs hq hB => ?_)
              refine lv_aload_n hx hb dX12_draws_234 rfl (lv_at hl 0 rfl) ?_
              refine lv_iload hx hb dX12_draws_235 (lv_at hl 3 rfl) ?_
              have J247 : ∀ (x45 : Int32) (H : Heap) (locs : List Loc) (ls : Array Slot), f_X12_draws_J247 T N a0 x22 x28 x31 x40 s44 x45 = some σ0 → zB D cy T ad (zA T ad s.heap.size) s.heap s44 H locs s → lv_has ls 9 [(0, .ref (ad a0)), (5, .int x22), (6, .int x28), (7, .int x31), (8, .int x40)] → W p l e (headSpec wsX12_draws ({ frames := 3, cells := 0, slots := 0, locals := 67 } : Room)).room s m args below meth c H locs 0 0 (MQ below (va_Qv (fun σ2 : zS => σ2 = σ0) (zAt D cy T ad (zA T ad s.heap.size)) (zA T ad s.heap.size)) args s 0 0 (zA T ad s.heap.size)) (F0 m 247 ls [.int x45, .ref (ad a0)]) := by
                intro x45 H locs ls hq hB hl
                unfold f_X12_draws_J247 at hq
                refine lv_iload hx hb dX12_draws_247 (lv_at hl 3 rfl) ?_
                refine zz_if_eq (tgt := 257) hx hb dX12_draws_249 (by decide) hq (fun hq => ?_) (fun hq => ?_)
                · refine lv_iload hx hb dX12_draws_257 (lv_at hl 4 rfl) ?_
                  refine zz_callVv S hT hB (As := [.int x45, .int x40]) (b := a0) (o := f_X12_puts T N s44 a0 x45 x40) (c_X12_puts l D cy T hT ad N s44 _ a0 x45 x40) (cwV 2 hts (gV wSub wd_671 wd_672 wd_673 wd_572 wd_674) rfl rfl rfl (by decide +kernel) ⟨Nat.le_of_ble_eq_true rfl, Nat.le_of_ble_eq_true rfl⟩) (F := TX12) (NF := 24) 12 rfl (by decide) (k_X12_puts T N s44 a0 x45 x40) rfl hl.1 rfl (Nat.le_of_ble_eq_true rfl) dX12_draws_259 hq (fun s46 H locs hq hB => ?_)
                  exact J262 s46 _ _ _ hq hB (lv_sub hl [0, 1, 2] rfl)
                · refine lv_iload hx hb dX12_draws_252 (lv_at hl 2 rfl) ?_
                  refine lv_goto (tgt := 259) hx hb dX12_draws_254 (by decide) ?_
                  refine zz_callVv S hT hB (As := [.int x45, .int x28]) (b := a0) (o := f_X12_puts T N s44 a0 x45 x28) (c_X12_puts l D cy T hT ad N s44 _ a0 x45 x28) (cwV 2 hts (gV wSub wd_671 wd_672 wd_673 wd_572 wd_674) rfl rfl rfl (by decide +kernel) ⟨Nat.le_of_ble_eq_true rfl, Nat.le_of_ble_eq_true rfl⟩) (F := TX12) (NF := 24) 12 rfl (by decide) (k_X12_puts T N s44 a0 x45 x28) rfl hl.1 rfl (Nat.le_of_ble_eq_true rfl) dX12_draws_259 hq (fun s47 H locs hq hB => ?_)
                  exact J262 s47 _ _ _ hq hB (lv_sub hl [0, 1, 2] rfl)
              refine zz_if_eq (tgt := 245) hx hb dX12_draws_237 (by decide) hq (fun hq => ?_) (fun hq => ?_)
              · refine lv_iload hx hb dX12_draws_245 (lv_at hl 1 rfl) ?_
                exact J247 x22 _ _ _ hq hB (lv_sub hl [0, 1, 2, 3, 4] rfl)
              · refine lv_iload hx hb dX12_draws_240 (lv_at hl 4 rfl) ?_
                refine lv_goto (tgt := 247) hx hb dX12_draws_242 (by decide) ?_
                exact J247 x40 _ _ _ hq hB (lv_sub hl [0, 1, 2, 3, 4] rfl)
            refine zz_if_eq (tgt := 229) hx hb dX12_draws_221 (by decide) hq (fun hq => ?_) (fun hq => ?_)
            · refine lv_iload hx hb dX12_draws_229 (lv_at hl 5 rfl) ?_
              exact J231 x40 _ _ _ hq hB (lv_sub hl [0, 2, 3, 4, 5] rfl)
            · refine lv_iload hx hb dX12_draws_224 (lv_at hl 1 rfl) ?_
              refine lv_goto (tgt := 231) hx hb dX12_draws_226 (by decide) ?_
              exact J231 x16 _ _ _ hq hB (lv_sub hl [0, 2, 3, 4, 5] rfl)
          refine zz_if_eq (tgt := 218) hx hb dX12_draws_210 (by decide) hq (fun hq => ?_) (fun hq => ?_)
          · refine lv_iload_n hx hb dX12_draws_218 rfl (lv_at hl 2 rfl) ?_
            exact J219 x10 _ _ _ hq hB (lv_sub hl [1, 3, 4, 5, 6, 0] rfl)
          · refine lv_iload hx hb dX12_draws_213 (lv_at hl 0 rfl) ?_
            refine lv_goto (tgt := 219) hx hb dX12_draws_215 (by decide) ?_
            exact J219 x40 _ _ _ hq hB (lv_sub hl [1, 3, 4, 5, 6, 0] rfl)
        refine zz_if_eq (tgt := 197) hx hb dX12_draws_184 (by decide) hq (fun hq => ?_) (fun hq => ?_)
        · refine lv_iload hx hb dX12_draws_197 (lv_at hl 4 rfl) ?_
          refine lv_iload hx hb dX12_draws_199 (lv_at hl 6 rfl) ?_
          refine lv_iadd hx hb dX12_draws_201 ?_
          refine zz_callSi S hT hB (As := [.int (x16 + x28)]) (o := f_X12_half T N s33 (x16 + x28)) (c_X12_half l D cy T hT ad N s33 _ (x16 + x28)) (va_cwS 1 hts (gS wSub wd_675 wd_676 wd_572 wd_677) rfl rfl rfl (by decide +kernel) ⟨Nat.le_of_ble_eq_true rfl, Nat.le_of_ble_eq_true rfl⟩) rfl hl.1 rfl (Nat.le_of_ble_eq_true rfl) dX12_draws_202 hq (fun x49 s48 H locs hq hB => ?_)
          exact J205 x49 s48 _ _ _ hq hB (lv_sub hl [1, 3, 4, 5, 6, 0] rfl)
        · refine lv_iload_n hx hb dX12_draws_187 rfl (lv_at hl 3 rfl) ?_
          refine lv_iload hx hb dX12_draws_188 (lv_at hl 5 rfl) ?_
          refine lv_iadd hx hb dX12_draws_190 ?_
          refine zz_callSi S hT hB (As := [.int (x10 + x22)]) (o := f_X12_half T N s33 (x10 + x22)) (c_X12_half l D cy T hT ad N s33 _ (x10 + x22)) (va_cwS 1 hts (gS wSub wd_675 wd_676 wd_572 wd_677) rfl rfl rfl (by decide +kernel) ⟨Nat.le_of_ble_eq_true rfl, Nat.le_of_ble_eq_true rfl⟩) rfl hl.1 rfl (Nat.le_of_ble_eq_true rfl) dX12_draws_191 hq (fun x51 s50 H locs hq hB => ?_)
          refine lv_goto (tgt := 205) hx hb dX12_draws_194 (by decide) ?_
          exact J205 x51 s50 _ _ _ hq hB (lv_sub hl [1, 3, 4, 5, 6, 0] rfl)
    · refine lv_aload_n hx hb dX12_draws_140 rfl (lv_at hl 1 rfl) ?_
      refine lv_iload hx hb dX12_draws_141 (lv_at hl 0 rfl) ?_
      have J152 : ∀ (x52 : Int32) (H : Heap) (locs : List Loc) (ls : Array Slot), f_X12_draws_J152 T N a0 x16 x22 x28 x31 s33 x52 = some σ0 → zB D cy T ad (zA T ad s.heap.size) s.heap s33 H locs s → lv_has ls 9 [(0, .ref (ad a0)), (4, .int x16), (5, .int x22), (6, .int x28), (7, .int x31)] → W p l e (headSpec wsX12_draws ({ frames := 3, cells := 0, slots := 0, locals := 67 } : Room)).room s m args below meth c H locs 0 0 (MQ below (va_Qv (fun σ2 : zS => σ2 = σ0) (zAt D cy T ad (zA T ad s.heap.size)) (zA T ad s.heap.size)) args s 0 0 (zA T ad s.heap.size)) (F0 m 152 ls [.int x52, .ref (ad a0)]) := by
        intro x52 H locs ls hq hB hl
        unfold f_X12_draws_J152 at hq
        refine lv_iload hx hb dX12_draws_152 (lv_at hl 4 rfl) ?_
        refine zz_if_eq (tgt := 162) hx hb dX12_draws_154 (by decide) hq (fun hq => ?_) (fun hq => ?_)
        · refine lv_iload hx hb dX12_draws_162 (lv_at hl 3 rfl) ?_
          refine zz_callVv S hT hB (As := [.int x52, .int x28]) (b := a0) (o := f_X12_puts T N s33 a0 x52 x28) (c_X12_puts l D cy T hT ad N s33 _ a0 x52 x28) (cwV 2 hts (gV wSub wd_671 wd_672 wd_673 wd_572 wd_674) rfl rfl rfl (by decide +kernel) ⟨Nat.le_of_ble_eq_true rfl, Nat.le_of_ble_eq_true rfl⟩) (F := TX12) (NF := 24) 12 rfl (by decide) (k_X12_puts T N s33 a0 x52 x28) rfl hl.1 rfl (Nat.le_of_ble_eq_true rfl) dX12_draws_164 hq (fun s53 H locs hq hB => ?_)
          refine lv_goto (tgt := 262) hx hb dX12_draws_167 (by decide) ?_
          exact J262 s53 _ _ _ hq hB (lv_sub hl [0, 2, 3] rfl)
        · refine lv_iload hx hb dX12_draws_157 (lv_at hl 1 rfl) ?_
          refine lv_goto (tgt := 164) hx hb dX12_draws_159 (by decide) ?_
          refine zz_callVv S hT hB (As := [.int x52, .int x16]) (b := a0) (o := f_X12_puts T N s33 a0 x52 x16) (c_X12_puts l D cy T hT ad N s33 _ a0 x52 x16) (cwV 2 hts (gV wSub wd_671 wd_672 wd_673 wd_572 wd_674) rfl rfl rfl (by decide +kernel) ⟨Nat.le_of_ble_eq_true rfl, Nat.le_of_ble_eq_true rfl⟩) (F := TX12) (NF := 24) 12 rfl (by decide) (k_X12_puts T N s33 a0 x52 x16) rfl hl.1 rfl (Nat.le_of_ble_eq_true rfl) dX12_draws_164 hq (fun s54 H locs hq hB => ?_)
          refine lv_goto (tgt := 262) hx hb dX12_draws_167 (by decide) ?_
          exact J262 s54 _ _ _ hq hB (lv_sub hl [0, 2, 3] rfl)
      refine zz_if_eq (tgt := 151) hx hb dX12_draws_143 (by decide) hq (fun hq => ?_) (fun hq => ?_)
      · refine lv_iload_n hx hb dX12_draws_151 rfl (lv_at hl 3 rfl) ?_
        exact J152 x10 _ _ _ hq hB (lv_sub hl [1, 4, 5, 6, 0] rfl)
      · refine lv_iload hx hb dX12_draws_146 (lv_at hl 5 rfl) ?_
        refine lv_goto (tgt := 152) hx hb dX12_draws_148 (by decide) ?_
        exact J152 x22 _ _ _ hq hB (lv_sub hl [1, 4, 5, 6, 0] rfl)
  refine zz_icmp_ne (tgt := 113) hx hb dX12_draws_106 (by decide) hq (fun hq => ?_) (fun hq => ?_)
  · refine lv_iconst (v := 0) hx hb dX12_draws_113 (by decide) ?_
    exact J114 (0 : Int32) _ _ _ hq hB (lv_sub hl [5, 4, 3, 2, 1, 0] rfl)
  · refine lv_iconst (v := 1) hx hb dX12_draws_109 (by decide) ?_
    refine lv_goto (tgt := 114) hx hb dX12_draws_110 (by decide) ?_
    exact J114 (1 : Int32) _ _ _ hq hB (lv_sub hl [5, 4, 3, 2, 1, 0] rfl)
def f_X12_point (T : zT) (N : Nat) (s0 : zS) (a0 : Nat) (x1 : Int32) (x2 : Int32) (x3 : Int32) : Option (Int32 × zS) :=
  zz1 (T.1 a0 = 12) <|
  zb2 (f_X12_isLine T N s0 a0 x1) fun x7 s6 =>
  if x7 = 0 then (
    some ((-1000000 : Int32), s6))
  else (
    zb2 (f_X12_in T N s6 x3 (0 : Int32) (1 : Int32)) fun x9 s8 =>
    if ¬ x9 = 0 then (
      (f_X12_draws T N s8 a0 x1).bind fun s10 =>
      (gI T s10 a0 12 5).bind fun x11 =>
      zb2 (f_X12_in T N s10 x2 (0 : Int32) (x11 - (1 : Int32))) fun x13 s12 =>
      if x13 = 0 then (
        some ((-1000000 : Int32), s12))
      else (
        if ¬ x3 = 0 then (
          (gR T s12 a0 12 4).bind fun a14 =>
          (aI T s12 a14 13 x2).bind fun x15 =>
          some (x15, s12))
        else (
          (gR T s12 a0 12 3).bind fun a16 =>
          (aI T s12 a16 13 x2).bind fun x17 =>
          some (x17, s12))))
    else (
      some ((-1000000 : Int32), s8)))
theorem k_X12_point (T : zT) (N : Nat) (s0 : zS) (a0 : Nat) (x1 : Int32) (x2 : Int32) (x3 : Int32) : ∀ q, f_X12_point T N s0 a0 x1 x2 x3 = some q → T.1 a0 = 12 := by
  intro q h
  unfold f_X12_point at h
  exact zz_guard h (fun h _ => h)
set_option maxHeartbeats 4000000 in
set_option maxRecDepth 100000 in
theorem c_X12_point (l : Launch) (D : va_G) (cy : Nat → ClassId) (T : zT) (hT : zok T) (ad : Nat → Nat) (N : Nat) (s0 : zS) (sz : Nat) (a0 : Nat) (x1 : Int32) (x2 : Int32) (x3 : Int32) : ∀ (r0 : Int32) (σ0 : zS), f_X12_point T N s0 a0 x1 x2 x3 = some (r0, σ0) → Met l yX12_point wsX12_point ({ frames := 4, cells := 0, slots := 0, locals := 95 }) (va_Pc [.ref (ad a0), .int x1, .int x2, .int x3] (zPre D cy T ad s0 sz)) (va_Qi (fun (r2 : Int32) (σ2 : zS) => r2 = r0 ∧ σ2 = σ0) (zAt D cy T ad (zA T ad sz)) (zA T ad sz)) 0 0 (zA T ad sz) := by
  intro r0 σ0 hq
  refine Met.ofW (cc := cX12_point) (maxL := 4) (ret := (some .int)) (by decide) rfl ?_
  intro p e s m args below meth c s₁ B hml hv
  obtain ⟨hargs, hsz, hP, hK, hD0, hN⟩ := hv
  have hx := B.exec
  have hb := B.bytes
  have hr := B.returns
  have hts := atoms_spec (ws := wsX12_point) B.pre
  have hown : s.vm.findClass RX12 = some m.cls := findClass_of_methodNamed B.named
  have hlocks := B.notSynchronized
  have S : CallFix p m c cX12_point 4 s args wsX12_point RX12 := ⟨hx, hb, hml, hown, hts⟩
  subst hsz
  have hB : zB D cy T ad (zA T ad s.heap.size) s.heap s0 s.heap [] s := zz_entry hP hK hD0 hN
  obtain ⟨ls, hent, hl⟩ := zz_ent m hargs (n := 4) (Nat.le_of_ble_eq_true rfl)
  rw [hent]
  have hl : lv_has ls 4 [(0, .ref (ad a0)), (1, .int x1), (2, .int x2), (3, .int x3)] := hl
  have iwX12 : ∀ w ∈ u_ws RX12 TX12 24, w ∈ wsX12_point := fun w h => wS (inWX12 w h)
  unfold f_X12_point at hq
  refine zz_guard hq (fun hk0 hq => ?_)
  refine lv_aload_n hx hb dX12_point_0 rfl (lv_at hl 0 rfl) ?_
  refine lv_iload_n hx hb dX12_point_1 rfl (lv_at hl 1 rfl) ?_
  refine zz_callVi S hT hB (As := [.int x1]) (b := a0) (o := f_X12_isLine T N s0 a0 x1) (c_X12_isLine l D cy T hT ad N s0 _ a0 x1) (cwV 1 hts (gV wSub wd_664 wd_665 wd_666 wd_572 wd_667) rfl rfl rfl (by decide +kernel) ⟨Nat.le_of_ble_eq_true rfl, Nat.le_of_ble_eq_true rfl⟩) (F := TX12) (NF := 24) 12 rfl (by decide) (k_X12_isLine T N s0 a0 x1) rfl hl.1 rfl (Nat.le_of_ble_eq_true rfl) dX12_point_2 hq (fun x7 s6 H locs hq hB => ?_)
  refine zz_if_eq (tgt := 17) hx hb dX12_point_5 (by decide) hq (fun hq => ?_) (fun hq => ?_)
  · refine lv_ldc (v := -1000000) hx hb hown (hts _ (wS wd_636)) dX12_point_17 ?_
    exact zz_iret S hB hr hlocks dX12_point_19 hq
  · refine lv_iload_n hx hb dX12_point_8 rfl (lv_at hl 3 rfl) ?_
    refine lv_iconst (v := 0) hx hb dX12_point_9 (by decide) ?_
    refine lv_iconst (v := 1) hx hb dX12_point_10 (by decide) ?_
    refine zz_callSi S hT hB (As := [.int x3, .int (0 : Int32), .int (1 : Int32)]) (o := f_X12_in T N s6 x3 (0 : Int32) (1 : Int32)) (c_X12_in l D cy T hT ad N s6 _ x3 (0 : Int32) (1 : Int32)) (va_cwS 3 hts (gS wSub wd_570 wd_571 wd_572 wd_573) rfl rfl rfl (by decide +kernel) ⟨Nat.le_of_ble_eq_true rfl, Nat.le_of_ble_eq_true rfl⟩) rfl hl.1 rfl (Nat.le_of_ble_eq_true rfl) dX12_point_11 hq (fun x9 s8 H locs hq hB => ?_)
    refine zz_if_ne (tgt := 20) hx hb dX12_point_14 (by decide) hq (fun hq => ?_) (fun hq => ?_)
    · refine lv_aload_n hx hb dX12_point_20 rfl (lv_at hl 0 rfl) ?_
      refine lv_iload_n hx hb dX12_point_21 rfl (lv_at hl 1 rfl) ?_
      refine zz_callVv S hT hB (As := [.int x1]) (b := a0) (o := f_X12_draws T N s8 a0 x1) (c_X12_draws l D cy T hT ad N s8 _ a0 x1) (cwV 1 hts (gV wSub wd_678 wd_679 wd_680 wd_572 wd_681) rfl rfl rfl (by decide +kernel) ⟨Nat.le_of_ble_eq_true rfl, Nat.le_of_ble_eq_true rfl⟩) (F := TX12) (NF := 24) 12 rfl (by decide) (k_X12_draws T N s8 a0 x1) rfl hl.1 rfl (Nat.le_of_ble_eq_true rfl) dX12_point_22 hq (fun s10 H locs hq hB => ?_)
      refine lv_iload_n hx hb dX12_point_25 rfl (lv_at hl 2 rfl) ?_
      refine lv_iconst (v := 0) hx hb dX12_point_26 (by decide) ?_
      refine lv_aload_n hx hb dX12_point_27 rfl (lv_at hl 0 rfl) ?_
      refine zz_get S hT hB (C := RX12) (ref := "DiagramDeskModel") (F := TX12) (N := 24) (index := 144) 12 5 iwX12 rfl (by decide) (by decide) rfl rfl (wS wd_669) (fun _ h9 => h9) dX12_point_28 hq (fun x11 hq => ?_)
      refine lv_iconst (v := 1) hx hb dX12_point_31 (by decide) ?_
      refine lv_isub hx hb dX12_point_32 ?_
      refine zz_callSi S hT hB (As := [.int x2, .int (0 : Int32), .int (x11 - (1 : Int32))]) (o := f_X12_in T N s10 x2 (0 : Int32) (x11 - (1 : Int32))) (c_X12_in l D cy T hT ad N s10 _ x2 (0 : Int32) (x11 - (1 : Int32))) (va_cwS 3 hts (gS wSub wd_570 wd_571 wd_572 wd_573) rfl rfl rfl (by decide +kernel) ⟨Nat.le_of_ble_eq_true rfl, Nat.le_of_ble_eq_true rfl⟩) rfl hl.1 rfl (Nat.le_of_ble_eq_true rfl) dX12_point_33 hq (fun x13 s12 H locs hq hB => ?_)
      refine zz_if_eq (tgt := 61) hx hb dX12_point_36 (by decide) hq (fun hq => ?_) (fun hq => ?_)
      · refine lv_ldc (v := -1000000) hx hb hown (hts _ (wS wd_636)) dX12_point_61 ?_
        exact zz_iret S hB hr hlocks dX12_point_63 hq
      · refine lv_iload_n hx hb dX12_point_39 rfl (lv_at hl 3 rfl) ?_
        refine zz_if_ne (tgt := 52) hx hb dX12_point_40 (by decide) hq (fun hq => ?_) (fun hq => ?_)
        · refine lv_aload_n hx hb dX12_point_52 rfl (lv_at hl 0 rfl) ?_
          refine zz_getR S hT hB (C := RX12) (ref := "DiagramDeskModel") (F := TX12) (N := 24) (index := 19) 12 4 iwX12 rfl (by decide) (by decide) rfl rfl (wS wd_670) (fun _ h9 => h9) dX12_point_53 hq (fun a14 hq => ?_)
          refine lv_iload_n hx hb dX12_point_56 rfl (lv_at hl 2 rfl) ?_
          refine zz_ald S hT hB dX12_point_57 hq (fun x15 hq => ?_)
          refine lv_goto (tgt := 63) hx hb dX12_point_58 (by decide) ?_
          exact zz_iret S hB hr hlocks dX12_point_63 hq
        · refine lv_aload_n hx hb dX12_point_43 rfl (lv_at hl 0 rfl) ?_
          refine zz_getR S hT hB (C := RX12) (ref := "DiagramDeskModel") (F := TX12) (N := 24) (index := 16) 12 3 iwX12 rfl (by decide) (by decide) rfl rfl (wS wd_668) (fun _ h9 => h9) dX12_point_44 hq (fun a16 hq => ?_)
          refine lv_iload_n hx hb dX12_point_47 rfl (lv_at hl 2 rfl) ?_
          refine zz_ald S hT hB dX12_point_48 hq (fun x17 hq => ?_)
          refine lv_goto (tgt := 63) hx hb dX12_point_49 (by decide) ?_
          exact zz_iret S hB hr hlocks dX12_point_63 hq
    · refine lv_ldc (v := -1000000) hx hb hown (hts _ (wS wd_636)) dX12_point_17 ?_
      exact zz_iret S hB hr hlocks dX12_point_19 hq
def f_X12_distance (T : zT) (N : Nat) (s0 : zS) (x0 : Int32) (x1 : Int32) : Option (Int32 × zS) :=
  if x1 ≤ x0 then (
    some (x0 - x1, s0))
  else (
    some (x1 - x0, s0))
set_option maxHeartbeats 4000000 in
set_option maxRecDepth 100000 in
theorem c_X12_distance (l : Launch) (D : va_G) (cy : Nat → ClassId) (T : zT) (hT : zok T) (ad : Nat → Nat) (N : Nat) (s0 : zS) (sz : Nat) (x0 : Int32) (x1 : Int32) : ∀ (r0 : Int32) (σ0 : zS), f_X12_distance T N s0 x0 x1 = some (r0, σ0) → Met l yX12_distance wsX12_distance ({ frames := 0, cells := 0, slots := 0, locals := 0 }) (va_Pc [.int x0, .int x1] (zPre D cy T ad s0 sz)) (va_Qi (fun (r2 : Int32) (σ2 : zS) => r2 = r0 ∧ σ2 = σ0) (zAt D cy T ad (zA T ad sz)) (zA T ad sz)) 0 0 (zA T ad sz) := by
  intro r0 σ0 hq
  refine Met.ofW (cc := cX12_distance) (maxL := 2) (ret := (some .int)) (by decide) rfl ?_
  intro p e s m args below meth c s₁ B hml hv
  obtain ⟨hargs, hsz, hP, hK, hD0, hN⟩ := hv
  have hx := B.exec
  have hb := B.bytes
  have hr := B.returns
  have hts := atoms_spec (ws := wsX12_distance) B.pre
  have hown : s.vm.findClass RX12 = some m.cls := findClass_of_methodNamed B.named
  have hlocks := B.notSynchronized
  have S : CallFix p m c cX12_distance 2 s args wsX12_distance RX12 := ⟨hx, hb, hml, hown, hts⟩
  subst hsz
  have hB : zB D cy T ad (zA T ad s.heap.size) s.heap s0 s.heap [] s := zz_entry hP hK hD0 hN
  obtain ⟨ls, hent, hl⟩ := zz_ent m hargs (n := 2) (Nat.le_of_ble_eq_true rfl)
  rw [hent]
  have hl : lv_has ls 2 [(0, .int x0), (1, .int x1)] := hl
  unfold f_X12_distance at hq
  refine lv_iload_n hx hb dX12_distance_0 rfl (lv_at hl 0 rfl) ?_
  refine lv_iload_n hx hb dX12_distance_1 rfl (lv_at hl 1 rfl) ?_
  refine zz_icmp_ge (tgt := 11) hx hb dX12_distance_2 (by decide) hq (fun hq => ?_) (fun hq => ?_)
  · refine lv_iload_n hx hb dX12_distance_11 rfl (lv_at hl 0 rfl) ?_
    refine lv_iload_n hx hb dX12_distance_12 rfl (lv_at hl 1 rfl) ?_
    refine lv_isub hx hb dX12_distance_13 ?_
    exact zz_iret S hB hr hlocks dX12_distance_14 hq
  · refine lv_iload_n hx hb dX12_distance_5 rfl (lv_at hl 1 rfl) ?_
    refine lv_iload_n hx hb dX12_distance_6 rfl (lv_at hl 0 rfl) ?_
    refine lv_isub hx hb dX12_distance_7 ?_
    refine lv_goto (tgt := 14) hx hb dX12_distance_8 (by decide) ?_
    exact zz_iret S hB hr hlocks dX12_distance_14 hq
def f_X12_lengthOf_L9 (T : zT) (N : Nat) (a0 : Nat) (k9 : Int32 → Int32 → zS → Option (Int32 × zS)) (x5 : Int32) (x6 : Int32) (s7 : zS) : Option (Int32 × zS) :=
  (gI T s7 a0 12 5).bind fun x8 =>
  if x8 ≤ x6 then (
    some (x5, s7))
  else (
    (gR T s7 a0 12 3).bind fun a9 =>
    (aI T s7 a9 13 x6).bind fun x10 =>
    (gR T s7 a0 12 3).bind fun a11 =>
    (aI T s7 a11 13 (x6 - (1 : Int32))).bind fun x12 =>
    zb2 (f_X12_distance T N s7 x10 x12) fun x14 s13 =>
    (gR T s13 a0 12 4).bind fun a15 =>
    (aI T s13 a15 13 x6).bind fun x16 =>
    (gR T s13 a0 12 4).bind fun a17 =>
    (aI T s13 a17 13 (x6 - (1 : Int32))).bind fun x18 =>
    zb2 (f_X12_distance T N s13 x16 x18) fun x20 s19 =>
    zn (x5 + (x14 + x20)) fun x21 =>
    zn (x6 + (1 : Int32)) fun x22 =>
    k9 x21 x22 s19)
def f_X12_lengthOf (T : zT) (N : Nat) (s0 : zS) (a0 : Nat) (x1 : Int32) : Option (Int32 × zS) :=
  zz1 (T.1 a0 = 12) <|
  (f_X12_draws T N s0 a0 x1).bind fun s4 =>
  zl3 (f_X12_lengthOf_L9 T N a0) N (0 : Int32) (1 : Int32) s4
theorem k_X12_lengthOf (T : zT) (N : Nat) (s0 : zS) (a0 : Nat) (x1 : Int32) : ∀ q, f_X12_lengthOf T N s0 a0 x1 = some q → T.1 a0 = 12 := by
  intro q h
  unfold f_X12_lengthOf at h
  exact zz_guard h (fun h _ => h)
set_option maxHeartbeats 4000000 in
set_option maxRecDepth 100000 in
theorem c_X12_lengthOf (l : Launch) (D : va_G) (cy : Nat → ClassId) (T : zT) (hT : zok T) (ad : Nat → Nat) (N : Nat) (s0 : zS) (sz : Nat) (a0 : Nat) (x1 : Int32) : ∀ (r0 : Int32) (σ0 : zS), f_X12_lengthOf T N s0 a0 x1 = some (r0, σ0) → Met l yX12_lengthOf wsX12_lengthOf ({ frames := 4, cells := 0, slots := 0, locals := 95 }) (va_Pc [.ref (ad a0), .int x1] (zPre D cy T ad s0 sz)) (va_Qi (fun (r2 : Int32) (σ2 : zS) => r2 = r0 ∧ σ2 = σ0) (zAt D cy T ad (zA T ad sz)) (zA T ad sz)) 0 0 (zA T ad sz) := by
  intro r0 σ0 hq
  refine Met.ofW (cc := cX12_lengthOf) (maxL := 4) (ret := (some .int)) (by decide) rfl ?_
  intro p e s m args below meth c s₁ B hml hv
  obtain ⟨hargs, hsz, hP, hK, hD0, hN⟩ := hv
  have hx := B.exec
  have hb := B.bytes
  have hr := B.returns
  have hts := atoms_spec (ws := wsX12_lengthOf) B.pre
  have hown : s.vm.findClass RX12 = some m.cls := findClass_of_methodNamed B.named
  have hlocks := B.notSynchronized
  have S : CallFix p m c cX12_lengthOf 4 s args wsX12_lengthOf RX12 := ⟨hx, hb, hml, hown, hts⟩
  subst hsz
  have hB : zB D cy T ad (zA T ad s.heap.size) s.heap s0 s.heap [] s := zz_entry hP hK hD0 hN
  obtain ⟨ls, hent, hl⟩ := zz_ent m hargs (n := 4) (Nat.le_of_ble_eq_true rfl)
  rw [hent]
  have hl : lv_has ls 4 [(0, .ref (ad a0)), (1, .int x1)] := hl
  have iwX12 : ∀ w ∈ u_ws RX12 TX12 24, w ∈ wsX12_lengthOf := fun w h => wS (inWX12 w h)
  unfold f_X12_lengthOf at hq
  refine zz_guard hq (fun hk0 hq => ?_)
  refine lv_aload_n hx hb dX12_lengthOf_0 rfl (lv_at hl 0 rfl) ?_
  refine lv_iload_n hx hb dX12_lengthOf_1 rfl (lv_at hl 1 rfl) ?_
  refine zz_callVv S hT hB (As := [.int x1]) (b := a0) (o := f_X12_draws T N s0 a0 x1) (c_X12_draws l D cy T hT ad N s0 _ a0 x1) (cwV 1 hts (gV wSub wd_678 wd_679 wd_680 wd_572 wd_681) rfl rfl rfl (by decide +kernel) ⟨Nat.le_of_ble_eq_true rfl, Nat.le_of_ble_eq_true rfl⟩) (F := TX12) (NF := 24) 12 rfl (by decide) (k_X12_draws T N s0 a0 x1) rfl hl.1 rfl (Nat.le_of_ble_eq_true rfl) dX12_lengthOf_2 hq (fun s4 H locs hq hB => ?_)
  refine lv_iconst (v := 0) hx hb dX12_lengthOf_5 (by decide) ?_
  refine lv_istore_n (lv' := [(2, .int (0 : Int32)), (0, .ref (ad a0)), (1, .int x1)]) hx hb dX12_lengthOf_6 rfl hl (by decide) rfl (fun ls hl => ?_)
  refine lv_iconst (v := 1) hx hb dX12_lengthOf_7 (by decide) ?_
  refine lv_istore_n (lv' := [(3, .int (1 : Int32)), (2, .int (0 : Int32)), (0, .ref (ad a0)), (1, .int x1)]) hx hb dX12_lengthOf_8 rfl hl (by decide) rfl (fun ls hl => ?_)
  have L9 : ∀ (n : Nat) (x5 : Int32) (x6 : Int32) (s7 : zS) (H : Heap) (locs : List Loc) (ls : Array Slot), zl3 (f_X12_lengthOf_L9 T N a0) n x5 x6 s7 = some (r0, σ0) → zB D cy T ad (zA T ad s.heap.size) s.heap s7 H locs s → lv_has ls 4 [(0, .ref (ad a0)), (2, .int x5), (3, .int x6)] → W p l e (headSpec wsX12_lengthOf ({ frames := 4, cells := 0, slots := 0, locals := 95 } : Room)).room s m args below meth c H locs 0 0 (MQ below (va_Qi (fun (r2 : Int32) (σ2 : zS) => r2 = r0 ∧ σ2 = σ0) (zAt D cy T ad (zA T ad s.heap.size)) (zA T ad s.heap.size)) args s 0 0 (zA T ad s.heap.size)) (F0 m 9 ls []) := by
    intro n
    induction n with
    | zero => intro x5 x6 s7 H locs ls hq; exact zz_none hq
    | succ n ih9 =>
      intro x5 x6 s7 H locs ls hq hB hl
      rw [zl3] at hq
      generalize zl3 (f_X12_lengthOf_L9 T N a0) n = k9 at ih9 hq
      unfold f_X12_lengthOf_L9 at hq
      refine lv_iload_n hx hb dX12_lengthOf_9 rfl (lv_at hl 2 rfl) ?_
      refine lv_aload_n hx hb dX12_lengthOf_10 rfl (lv_at hl 0 rfl) ?_
      refine zz_get S hT hB (C := RX12) (ref := "DiagramDeskModel") (F := TX12) (N := 24) (index := 144) 12 5 iwX12 rfl (by decide) (by decide) rfl rfl (wS wd_669) (fun _ h9 => h9) dX12_lengthOf_11 hq (fun x8 hq => ?_)
      refine zz_icmp_ge (tgt := 61) hx hb dX12_lengthOf_14 (by decide) hq (fun hq => ?_) (fun hq => ?_)
      · refine lv_iload_n hx hb dX12_lengthOf_61 rfl (lv_at hl 1 rfl) ?_
        exact zz_iret S hB hr hlocks dX12_lengthOf_62 hq
      · refine lv_iload_n hx hb dX12_lengthOf_17 rfl (lv_at hl 1 rfl) ?_
        refine lv_aload_n hx hb dX12_lengthOf_18 rfl (lv_at hl 0 rfl) ?_
        refine zz_getR S hT hB (C := RX12) (ref := "DiagramDeskModel") (F := TX12) (N := 24) (index := 16) 12 3 iwX12 rfl (by decide) (by decide) rfl rfl (wS wd_668) (fun _ h9 => h9) dX12_lengthOf_19 hq (fun a9 hq => ?_)
        refine lv_iload_n hx hb dX12_lengthOf_22 rfl (lv_at hl 2 rfl) ?_
        refine zz_ald S hT hB dX12_lengthOf_23 hq (fun x10 hq => ?_)
        refine lv_aload_n hx hb dX12_lengthOf_24 rfl (lv_at hl 0 rfl) ?_
        refine zz_getR S hT hB (C := RX12) (ref := "DiagramDeskModel") (F := TX12) (N := 24) (index := 16) 12 3 iwX12 rfl (by decide) (by decide) rfl rfl (wS wd_668) (fun _ h9 => h9) dX12_lengthOf_25 hq (fun a11 hq => ?_)
        refine lv_iload_n hx hb dX12_lengthOf_28 rfl (lv_at hl 2 rfl) ?_
        refine lv_iconst (v := 1) hx hb dX12_lengthOf_29 (by decide) ?_
        refine lv_isub hx hb dX12_lengthOf_30 ?_
        refine zz_ald S hT hB dX12_lengthOf_31 hq (fun x12 hq => ?_)
        refine zz_callSi S hT hB (As := [.int x10, .int x12]) (o := f_X12_distance T N s7 x10 x12) (c_X12_distance l D cy T hT ad N s7 _ x10 x12) (va_cwS 2 hts (gS wSub wd_682 wd_683 wd_572 wd_684) rfl rfl rfl (by decide +kernel) ⟨Nat.le_of_ble_eq_true rfl, Nat.le_of_ble_eq_true rfl⟩) rfl hl.1 rfl (Nat.le_of_ble_eq_true rfl) dX12_lengthOf_32 hq (fun x14 s13 H locs hq hB => ?_)
        refine lv_aload_n hx hb dX12_lengthOf_35 rfl (lv_at hl 0 rfl) ?_
        refine zz_getR S hT hB (C := RX12) (ref := "DiagramDeskModel") (F := TX12) (N := 24) (index := 19) 12 4 iwX12 rfl (by decide) (by decide) rfl rfl (wS wd_670) (fun _ h9 => h9) dX12_lengthOf_36 hq (fun a15 hq => ?_)
        refine lv_iload_n hx hb dX12_lengthOf_39 rfl (lv_at hl 2 rfl) ?_
        refine zz_ald S hT hB dX12_lengthOf_40 hq (fun x16 hq => ?_)
        refine lv_aload_n hx hb dX12_lengthOf_41 rfl (lv_at hl 0 rfl) ?_
        refine zz_getR S hT hB (C := RX12) (ref := "DiagramDeskModel") (F := TX12) (N := 24) (index := 19) 12 4 iwX12 rfl (by decide) (by decide) rfl rfl (wS wd_670) (fun _ h9 => h9) dX12_lengthOf_42 hq (fun a17 hq => ?_)
        refine lv_iload_n hx hb dX12_lengthOf_45 rfl (lv_at hl 2 rfl) ?_
        refine lv_iconst (v := 1) hx hb dX12_lengthOf_46 (by decide) ?_
        refine lv_isub hx hb dX12_lengthOf_47 ?_
        refine zz_ald S hT hB dX12_lengthOf_48 hq (fun x18 hq => ?_)
        refine zz_callSi S hT hB (As := [.int x16, .int x18]) (o := f_X12_distance T N s13 x16 x18) (c_X12_distance l D cy T hT ad N s13 _ x16 x18) (va_cwS 2 hts (gS wSub wd_682 wd_683 wd_572 wd_684) rfl rfl rfl (by decide +kernel) ⟨Nat.le_of_ble_eq_true rfl, Nat.le_of_ble_eq_true rfl⟩) rfl hl.1 rfl (Nat.le_of_ble_eq_true rfl) dX12_lengthOf_49 hq (fun x20 s19 H locs hq hB => ?_)
        refine lv_iadd hx hb dX12_lengthOf_52 ?_
        refine lv_iadd hx hb dX12_lengthOf_53 ?_
        refine zz_nmI hq (fun x21 hq => ?_)
        refine lv_istore_n (lv' := [(2, .int x21), (0, .ref (ad a0)), (3, .int x6)]) hx hb dX12_lengthOf_54 rfl hl (by decide) rfl (fun ls hl => ?_)
        refine zz_nmV hq (fun x22 ex22 hq => ?_)
        refine lv_iinc (v := x22) (lv' := [(3, .int x22), (2, .int x21), (0, .ref (ad a0))]) hx hb dX12_lengthOf_55 hl (k := 2) rfl (by rw [ex22]; rfl) (by decide) rfl (fun ls hl => ?_)
        refine lv_goto (tgt := 9) hx hb dX12_lengthOf_58 (by decide) ?_
        exact ih9 x21 x22 s19 _ _ _ hq hB (lv_sub hl [2, 1, 0] rfl)
  exact L9 N (0 : Int32) (1 : Int32) s4 _ _ _ hq hB (lv_sub hl [2, 1, 0] rfl)
def f_X12_length (T : zT) (N : Nat) (s0 : zS) (a0 : Nat) (x1 : Int32) : Option (Int32 × zS) :=
  zz1 (T.1 a0 = 12) <|
  zb2 (f_X12_isLine T N s0 a0 x1) fun x5 s4 =>
  if x5 = 0 then (
    some ((-1 : Int32), s4))
  else (
    zb2 (f_X12_lengthOf T N s4 a0 x1) fun x7 s6 =>
    some (x7, s6))
theorem k_X12_length (T : zT) (N : Nat) (s0 : zS) (a0 : Nat) (x1 : Int32) : ∀ q, f_X12_length T N s0 a0 x1 = some q → T.1 a0 = 12 := by
  intro q h
  unfold f_X12_length at h
  exact zz_guard h (fun h _ => h)
set_option maxHeartbeats 4000000 in
set_option maxRecDepth 100000 in
theorem c_X12_length (l : Launch) (D : va_G) (cy : Nat → ClassId) (T : zT) (hT : zok T) (ad : Nat → Nat) (N : Nat) (s0 : zS) (sz : Nat) (a0 : Nat) (x1 : Int32) : ∀ (r0 : Int32) (σ0 : zS), f_X12_length T N s0 a0 x1 = some (r0, σ0) → Met l yX12_length wsX12_length ({ frames := 5, cells := 0, slots := 0, locals := 118 }) (va_Pc [.ref (ad a0), .int x1] (zPre D cy T ad s0 sz)) (va_Qi (fun (r2 : Int32) (σ2 : zS) => r2 = r0 ∧ σ2 = σ0) (zAt D cy T ad (zA T ad sz)) (zA T ad sz)) 0 0 (zA T ad sz) := by
  intro r0 σ0 hq
  refine Met.ofW (cc := cX12_length) (maxL := 2) (ret := (some .int)) (by decide) rfl ?_
  intro p e s m args below meth c s₁ B hml hv
  obtain ⟨hargs, hsz, hP, hK, hD0, hN⟩ := hv
  have hx := B.exec
  have hb := B.bytes
  have hr := B.returns
  have hts := atoms_spec (ws := wsX12_length) B.pre
  have hown : s.vm.findClass RX12 = some m.cls := findClass_of_methodNamed B.named
  have hlocks := B.notSynchronized
  have S : CallFix p m c cX12_length 2 s args wsX12_length RX12 := ⟨hx, hb, hml, hown, hts⟩
  subst hsz
  have hB : zB D cy T ad (zA T ad s.heap.size) s.heap s0 s.heap [] s := zz_entry hP hK hD0 hN
  obtain ⟨ls, hent, hl⟩ := zz_ent m hargs (n := 2) (Nat.le_of_ble_eq_true rfl)
  rw [hent]
  have hl : lv_has ls 2 [(0, .ref (ad a0)), (1, .int x1)] := hl
  unfold f_X12_length at hq
  refine zz_guard hq (fun hk0 hq => ?_)
  refine lv_aload_n hx hb dX12_length_0 rfl (lv_at hl 0 rfl) ?_
  refine lv_iload_n hx hb dX12_length_1 rfl (lv_at hl 1 rfl) ?_
  refine zz_callVi S hT hB (As := [.int x1]) (b := a0) (o := f_X12_isLine T N s0 a0 x1) (c_X12_isLine l D cy T hT ad N s0 _ a0 x1) (cwV 1 hts (gV wSub wd_664 wd_665 wd_666 wd_572 wd_667) rfl rfl rfl (by decide +kernel) ⟨Nat.le_of_ble_eq_true rfl, Nat.le_of_ble_eq_true rfl⟩) (F := TX12) (NF := 24) 12 rfl (by decide) (k_X12_isLine T N s0 a0 x1) rfl hl.1 rfl (Nat.le_of_ble_eq_true rfl) dX12_length_2 hq (fun x5 s4 H locs hq hB => ?_)
  refine zz_if_eq (tgt := 16) hx hb dX12_length_5 (by decide) hq (fun hq => ?_) (fun hq => ?_)
  · refine lv_iconst (v := -1) hx hb dX12_length_16 (by decide) ?_
    exact zz_iret S hB hr hlocks dX12_length_17 hq
  · refine lv_aload_n hx hb dX12_length_8 rfl (lv_at hl 0 rfl) ?_
    refine lv_iload_n hx hb dX12_length_9 rfl (lv_at hl 1 rfl) ?_
    refine zz_callVi S hT hB (As := [.int x1]) (b := a0) (o := f_X12_lengthOf T N s4 a0 x1) (c_X12_lengthOf l D cy T hT ad N s4 _ a0 x1) (cwV 1 hts (gV wSub wd_685 wd_686 wd_687 wd_572 wd_688) rfl rfl rfl (by decide +kernel) ⟨Nat.le_of_ble_eq_true rfl, Nat.le_of_ble_eq_true rfl⟩) (F := TX12) (NF := 24) 12 rfl (by decide) (k_X12_lengthOf T N s4 a0 x1) rfl hl.1 rfl (Nat.le_of_ble_eq_true rfl) dX12_length_10 hq (fun x7 s6 H locs hq hB => ?_)
    refine lv_goto (tgt := 17) hx hb dX12_length_13 (by decide) ?_
    exact zz_iret S hB hr hlocks dX12_length_17 hq
