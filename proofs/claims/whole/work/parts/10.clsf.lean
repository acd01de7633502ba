def f_X11_selected (T : zT) (N : Nat) (s0 : zS) (a0 : Nat) : Option (Int32 × zS) :=
  zz1 (T.1 a0 = 11) <|
  (gR T s0 a0 11 0).bind fun a3 =>
  (gR T s0 a3 2 0).bind fun a4 =>
  (gI T s0 a4 7 2).bind fun x5 =>
  some (x5, s0)
theorem k_X11_selected (T : zT) (N : Nat) (s0 : zS) (a0 : Nat) : ∀ q, f_X11_selected T N s0 a0 = some q → T.1 a0 = 11 := by
  intro q h
  unfold f_X11_selected at h
  exact zz_guard h (fun h _ => h)
set_option maxHeartbeats 4000000 in
set_option maxRecDepth 100000 in
theorem c_X11_selected (l : Launch) (D : va_G) (cy : Nat → ClassId) (T : zT) (hT : zok T) (ad : Nat → Nat) (N : Nat) (s0 : zS) (sz : Nat) (a0 : Nat) : ∀ (r0 : Int32) (σ0 : zS), f_X11_selected T N s0 a0 = some (r0, σ0) → Met l yX11_selected wsX11_selected ({ frames := 0, cells := 0, slots := 0, locals := 0 }) (va_Pc [.ref (ad a0)] (zPre D cy T ad s0 sz)) (va_Qi (fun (r2 : Int32) (σ2 : zS) => r2 = r0 ∧ σ2 = σ0) (zAt D cy T ad (zA T ad sz)) (zA T ad sz)) 0 0 (zA T ad sz) := by
  intro r0 σ0 hq
  refine Met.ofW (cc := cX11_selected) (maxL := 1) (ret := (some .int)) (by decide) rfl ?_
  intro p e s m args below meth c s₁ B hml hv
  obtain ⟨hargs, hsz, hP, hK, hD0, hN⟩ := hv
  have hx := B.exec
  have hb := B.bytes
  have hr := B.returns
  have hts := atoms_spec (ws := wsX11_selected) B.pre
  have hown : s.vm.findClass RX11 = some m.cls := findClass_of_methodNamed B.named
  have hlocks := B.notSynchronized
  have S : CallFix p m c cX11_selected 1 s args wsX11_selected RX11 := ⟨hx, hb, hml, hown, hts⟩
  subst hsz
  have hB : zB D cy T ad (zA T ad s.heap.size) s.heap s0 s.heap [] s := zz_entry hP hK hD0 hN
  obtain ⟨ls, hent, hl⟩ := zz_ent m hargs (n := 1) (Nat.le_of_ble_eq_true rfl)
  rw [hent]
  have hl : lv_has ls 1 [(0, .ref (ad a0))] := hl
  have iwX11 : ∀ w ∈ u_ws RX11 TX11 5, w ∈ wsX11_selected := fun w h => wS (inWX11 w h)
  have iwX2 : ∀ w ∈ u_ws RX2 TX2 4, w ∈ wsX11_selected := fun w h => wS (inWX2 w h)
  have iwX7 : ∀ w ∈ u_ws RX7 TX7 3, w ∈ wsX11_selected := fun w h => wS (inWX7 w h)
  unfold f_X11_selected at hq
  refine zz_guard hq (fun hk0 hq => ?_)
  refine lv_aload_n hx hb dX11_selected_0 rfl (lv_at hl 0 rfl) ?_
  refine zz_getR S hT hB (C := RX11) (ref := "DiagramDesk") (F := TX11) (N := 5) (index := 10) 11 0 iwX11 rfl (by decide) (by decide) rfl rfl (wS wd_391) (fun _ h9 => h9) dX11_selected_1 hq (fun a3 hq => ?_)
  refine zz_getR S hT hB (C := RX2) (ref := "DiagramDesk$Diagram") (F := TX2) (N := 4) (index := 55) 2 0 iwX2 rfl (by decide) (by decide) rfl rfl (wS wd_392) (fun _ h9 => h9) dX11_selected_4 hq (fun a4 hq => ?_)
  refine zz_get S hT hB (C := RX7) (ref := "DiagramDesk$Shapes") (F := TX7) (N := 3) (index := 108) 7 2 iwX7 rfl (by decide) (by decide) rfl rfl (wS wd_419) (fun _ h9 => h9) dX11_selected_7 hq (fun x5 hq => ?_)
  exact zz_iret S hB hr hlocks dX11_selected_10 hq
def f_X11_group (T : zT) (N : Nat) (s0 : zS) (a0 : Nat) : Option (Int32 × zS) :=
  zz1 (T.1 a0 = 11) <|
  (gR T s0 a0 11 3).bind fun a3 =>
  (gR T s0 a0 11 0).bind fun a4 =>
  (f_X10_gather T N s0 a3 a4).bind fun s5 =>
  (gR T s5 a0 11 3).bind fun a6 =>
  (gI T s5 a6 10 2).bind fun x7 =>
  if (2 : Int32) ≤ x7 then (
    (gR T s5 a0 11 0).bind fun a8 =>
    (gR T s5 a8 2 2).bind fun a9 =>
    zb2 (f_X3_firstFree T N s5 a9) fun x11 s10 =>
    if ¬ x11 = (-1000000 : Int32) then (
      (gR T s10 a0 11 1).bind fun a12 =>
      (gR T s10 a0 11 0).bind fun a13 =>
      (f_X5_keep T N s10 a12 a13).bind fun s14 =>
      (gR T s14 a0 11 0).bind fun a15 =>
      (f_X2_joinChosen T N s14 a15 x11).bind fun s16 =>
      some (x11, s16))
    else (
      some ((-3 : Int32), s10)))
  else (
    some ((-2 : Int32), s5))
theorem k_X11_group (T : zT) (N : Nat) (s0 : zS) (a0 : Nat) : ∀ q, f_X11_group T N s0 a0 = some q → T.1 a0 = 11 := by
  intro q h
  unfold f_X11_group at h
  exact zz_guard h (fun h _ => h)
set_option maxHeartbeats 4000000 in
set_option maxRecDepth 100000 in
theorem c_X11_group (l : Launch) (D : va_G) (cy : Nat → ClassId) (T : zT) (hT : zok T) (ad : Nat → Nat) (N : Nat) (s0 : zS) (sz : Nat) (a0 : Nat) : ∀ (r0 : Int32) (σ0 : zS), f_X11_group T N s0 a0 = some (r0, σ0) → Met l yX11_group wsX11_group ({ frames := 6, cells := 0, slots := 0, locals := 138 }) (va_Pc [.ref (ad a0)] (zPre D cy T ad s0 sz)) (va_Qi (fun (r2 : Int32) (σ2 : zS) => r2 = r0 ∧ σ2 = σ0) (zAt D cy T ad (zA T ad sz)) (zA T ad sz)) 0 0 (zA T ad sz) := by
  intro r0 σ0 hq
  refine Met.ofW (cc := cX11_group) (maxL := 2) (ret := (some .int)) (by decide) rfl ?_
  intro p e s m args below meth c s₁ B hml hv
  obtain ⟨hargs, hsz, hP, hK, hD0, hN⟩ := hv
  have hx := B.exec
  have hb := B.bytes
  have hr := B.returns
  have hts := atoms_spec (ws := wsX11_group) B.pre
  have hown : s.vm.findClass RX11 = some m.cls := findClass_of_methodNamed B.named
  have hlocks := B.notSynchronized
  have S : CallFix p m c cX11_group 2 s args wsX11_group RX11 := ⟨hx, hb, hml, hown, hts⟩
  subst hsz
  have hB : zB D cy T ad (zA T ad s.heap.size) s.heap s0 s.heap [] s := zz_entry hP hK hD0 hN
  obtain ⟨ls, hent, hl⟩ := zz_ent m hargs (n := 2) (Nat.le_of_ble_eq_true rfl)
  rw [hent]
  have hl : lv_has ls 2 [(0, .ref (ad a0))] := hl
  have iwX11 : ∀ w ∈ u_ws RX11 TX11 5, w ∈ wsX11_group := fun w h => wS (inWX11 w h)
  have iwX10 : ∀ w ∈ u_ws RX10 TX10 3, w ∈ wsX11_group := fun w h => wS (inWX10 w h)
  have iwX2 : ∀ w ∈ u_ws RX2 TX2 4, w ∈ wsX11_group := fun w h => wS (inWX2 w h)
  unfold f_X11_group at hq
  refine zz_guard hq (fun hk0 hq => ?_)
  refine lv_aload_n hx hb dX11_group_0 rfl (lv_at hl 0 rfl) ?_
  refine zz_getR S hT hB (C := RX11) (ref := "DiagramDesk") (F := TX11) (N := 5) (index := 33) 11 3 iwX11 rfl (by decide) (by decide) rfl rfl (wS wd_465) (fun _ h9 => h9) dX11_group_1 hq (fun a3 hq => ?_)
  refine lv_aload_n hx hb dX11_group_4 rfl (lv_at hl 0 rfl) ?_
  refine zz_getR S hT hB (C := RX11) (ref := "DiagramDesk") (F := TX11) (N := 5) (index := 10) 11 0 iwX11 rfl (by decide) (by decide) rfl rfl (wS wd_391) (fun _ h9 => h9) dX11_group_5 hq (fun a4 hq => ?_)
  refine zz_callVv S hT hB (As := [.ref (ad a4)]) (b := a3) (o := f_X10_gather T N s0 a3 a4) (c_X10_gather l D cy T hT ad N s0 _ a3 a4) (cwV 1 hts (gV wSub wd_466 wd_467 wd_468 wd_353 wd_469) rfl rfl rfl (by decide +kernel) ⟨Nat.le_of_ble_eq_true rfl, Nat.le_of_ble_eq_true rfl⟩) (F := TX10) (NF := 3) 10 rfl (by decide) (k_X10_gather T N s0 a3 a4) rfl hl.1 rfl (Nat.le_of_ble_eq_true rfl) dX11_group_8 hq (fun s5 H locs hq hB => ?_)
  refine lv_aload_n hx hb dX11_group_11 rfl (lv_at hl 0 rfl) ?_
  refine zz_getR S hT hB (C := RX11) (ref := "DiagramDesk") (F := TX11) (N := 5) (index := 33) 11 3 iwX11 rfl (by decide) (by decide) rfl rfl (wS wd_465) (fun _ h9 => h9) dX11_group_12 hq (fun a6 hq => ?_)
  refine zz_get S hT hB (C := RX10) (ref := "DiagramDesk$Units") (F := TX10) (N := 3) (index := 191) 10 2 iwX10 rfl (by decide) (by decide) rfl rfl (wS wd_470) (fun _ h9 => h9) dX11_group_15 hq (fun x7 hq => ?_)
  refine lv_iconst (v := 2) hx hb dX11_group_18 (by decide) ?_
  refine zz_icmp_ge (tgt := 25) hx hb dX11_group_19 (by decide) hq (fun hq => ?_) (fun hq => ?_)
  · refine lv_aload_n hx hb dX11_group_25 rfl (lv_at hl 0 rfl) ?_
    refine zz_getR S hT hB (C := RX11) (ref := "DiagramDesk") (F := TX11) (N := 5) (index := 10) 11 0 iwX11 rfl (by decide) (by decide) rfl rfl (wS wd_391) (fun _ h9 => h9) dX11_group_26 hq (fun a8 hq => ?_)
    refine zz_getR S hT hB (C := RX2) (ref := "DiagramDesk$Diagram") (F := TX2) (N := 4) (index := 121) 2 2 iwX2 rfl (by decide) (by decide) rfl rfl (wS wd_423) (fun _ h9 => h9) dX11_group_29 hq (fun a9 hq => ?_)
    refine zz_callVi S hT hB (As := []) (b := a9) (o := f_X3_firstFree T N s5 a9) (c_X3_firstFree l D cy T hT ad N s5 _ a9) (cwV 0 hts (gV wSub wd_471 wd_472 wd_473 wd_118 wd_474) rfl rfl rfl (by decide +kernel) ⟨Nat.le_of_ble_eq_true rfl, Nat.le_of_ble_eq_true rfl⟩) (F := TX3) (NF := 2) 3 rfl (by decide) (k_X3_firstFree T N s5 a9) rfl hl.1 rfl (Nat.le_of_ble_eq_true rfl) dX11_group_32 hq (fun x11 s10 H locs hq hB => ?_)
    refine lv_istore_n (lv' := [(1, .int x11), (0, .ref (ad a0))]) hx hb dX11_group_35 rfl hl (by decide) rfl (fun ls hl => ?_)
    refine lv_iload_n hx hb dX11_group_36 rfl (lv_at hl 0 rfl) ?_
    refine lv_ldc (v := -1000000) hx hb hown (hts _ (wS wd_415)) dX11_group_37 ?_
    refine zz_icmp_ne (tgt := 45) hx hb dX11_group_39 (by decide) hq (fun hq => ?_) (fun hq => ?_)
    · refine lv_aload_n hx hb dX11_group_45 rfl (lv_at hl 1 rfl) ?_
      refine zz_getR S hT hB (C := RX11) (ref := "DiagramDesk") (F := TX11) (N := 5) (index := 19) 11 1 iwX11 rfl (by decide) (by decide) rfl rfl (wS wd_394) (fun _ h9 => h9) dX11_group_46 hq (fun a12 hq => ?_)
      refine lv_aload_n hx hb dX11_group_49 rfl (lv_at hl 1 rfl) ?_
      refine zz_getR S hT hB (C := RX11) (ref := "DiagramDesk") (F := TX11) (N := 5) (index := 10) 11 0 iwX11 rfl (by decide) (by decide) rfl rfl (wS wd_391) (fun _ h9 => h9) dX11_group_50 hq (fun a13 hq => ?_)
      refine zz_callVv S hT hB (As := [.ref (ad a13)]) (b := a12) (o := f_X5_keep T N s10 a12 a13) (c_X5_keep l D cy T hT ad N s10 _ a12 a13) (cwV 1 hts (gV wSub wd_395 wd_396 wd_397 wd_215 wd_398) rfl rfl rfl (by decide +kernel) ⟨Nat.le_of_ble_eq_true rfl, Nat.le_of_ble_eq_true rfl⟩) (F := TX5) (NF := 2) 5 rfl (by decide) (k_X5_keep T N s10 a12 a13) rfl hl.1 rfl (Nat.le_of_ble_eq_true rfl) dX11_group_53 hq (fun s14 H locs hq hB => ?_)
      refine lv_aload_n hx hb dX11_group_56 rfl (lv_at hl 1 rfl) ?_
      refine zz_getR S hT hB (C := RX11) (ref := "DiagramDesk") (F := TX11) (N := 5) (index := 10) 11 0 iwX11 rfl (by decide) (by decide) rfl rfl (wS wd_391) (fun _ h9 => h9) dX11_group_57 hq (fun a15 hq => ?_)
      refine lv_iload_n hx hb dX11_group_60 rfl (lv_at hl 0 rfl) ?_
      refine zz_callVv S hT hB (As := [.int x11]) (b := a15) (o := f_X2_joinChosen T N s14 a15 x11) (c_X2_joinChosen l D cy T hT ad N s14 _ a15 x11) (cwV 1 hts (gV wSub wd_475 wd_476 wd_477 wd_174 wd_478) rfl rfl rfl (by decide +kernel) ⟨Nat.le_of_ble_eq_true rfl, Nat.le_of_ble_eq_true rfl⟩) (F := TX2) (NF := 4) 2 rfl (by decide) (k_X2_joinChosen T N s14 a15 x11) rfl hl.1 rfl (Nat.le_of_ble_eq_true rfl) dX11_group_61 hq (fun s16 H locs hq hB => ?_)
      refine lv_iload_n hx hb dX11_group_64 rfl (lv_at hl 0 rfl) ?_
      exact zz_iret S hB hr hlocks dX11_group_65 hq
    · refine lv_bipush (v := -3) hx hb dX11_group_42 (by decide) ?_
      exact zz_iret S hB hr hlocks dX11_group_44 hq
  · refine lv_bipush (v := -2) hx hb dX11_group_22 (by decide) ?_
    exact zz_iret S hB hr hlocks dX11_group_24 hq
def f_X11_ungroup (T : zT) (N : Nat) (s0 : zS) (a0 : Nat) (x1 : Int32) : Option (Int32 × zS) :=
  zz1 (T.1 a0 = 11) <|
  (gR T s0 a0 11 0).bind fun a4 =>
  (gR T s0 a4 2 2).bind fun a5 =>
  zb2 (f_X3_has T N s0 a5 x1) fun x7 s6 =>
  if ¬ x7 = 0 then (
    (gR T s6 a0 11 1).bind fun a8 =>
    (gR T s6 a0 11 0).bind fun a9 =>
    (f_X5_keep T N s6 a8 a9).bind fun s10 =>
    (gR T s10 a0 11 0).bind fun a11 =>
    zb2 (f_X2_endGroup T N s10 a11 x1) fun x13 s12 =>
    some (x13, s12))
  else (
    some ((-1 : Int32), s6))
theorem k_X11_ungroup (T : zT) (N : Nat) (s0 : zS) (a0 : Nat) (x1 : Int32) : ∀ q, f_X11_ungroup T N s0 a0 x1 = some q → T.1 a0 = 11 := by
  intro q h
  unfold f_X11_ungroup at h
  exact zz_guard h (fun h _ => h)
set_option maxHeartbeats 4000000 in
set_option maxRecDepth 100000 in
theorem c_X11_ungroup (l : Launch) (D : va_G) (cy : Nat → ClassId) (T : zT) (hT : zok T) (ad : Nat → Nat) (N : Nat) (s0 : zS) (sz : Nat) (a0 : Nat) (x1 : Int32) : ∀ (r0 : Int32) (σ0 : zS), f_X11_ungroup T N s0 a0 x1 = some (r0, σ0) → Met l yX11_ungroup wsX11_ungroup ({ frames := 5, cells := 0, slots := 0, locals := 106 }) (va_Pc [.ref (ad a0), .int x1] (zPre D cy T ad s0 sz)) (va_Qi (fun (r2 : Int32) (σ2 : zS) => r2 = r0 ∧ σ2 = σ0) (zAt D cy T ad (zA T ad sz)) (zA T ad sz)) 0 0 (zA T ad sz) := by
  intro r0 σ0 hq
  refine Met.ofW (cc := cX11_ungroup) (maxL := 2) (ret := (some .int)) (by decide) rfl ?_
  intro p e s m args below meth c s₁ B hml hv
  obtain ⟨hargs, hsz, hP, hK, hD0, hN⟩ := hv
  have hx := B.exec
  have hb := B.bytes
  have hr := B.returns
  have hts := atoms_spec (ws := wsX11_ungroup) B.pre
  have hown : s.vm.findClass RX11 = some m.cls := findClass_of_methodNamed B.named
  have hlocks := B.notSynchronized
  have S : CallFix p m c cX11_ungroup 2 s args wsX11_ungroup RX11 := ⟨hx, hb, hml, hown, hts⟩
  subst hsz
  have hB : zB D cy T ad (zA T ad s.heap.size) s.heap s0 s.heap [] s := zz_entry hP hK hD0 hN
  obtain ⟨ls, hent, hl⟩ := zz_ent m hargs (n := 2) (Nat.le_of_ble_eq_true rfl)
  rw [hent]
  have hl : lv_has ls 2 [(0, .ref (ad a0)), (1, .int x1)] := hl
  have iwX11 : ∀ w ∈ u_ws RX11 TX11 5, w ∈ wsX11_ungroup := fun w h => wS (inWX11 w h)
  have iwX2 : ∀ w ∈ u_ws RX2 TX2 4, w ∈ wsX11_ungroup := fun w h => wS (inWX2 w h)
  unfold f_X11_ungroup at hq
  refine zz_guard hq (fun hk0 hq => ?_)
  refine lv_aload_n hx hb dX11_ungroup_0 rfl (lv_at hl 0 rfl) ?_
  refine zz_getR S hT hB (C := RX11) (ref := "DiagramDesk") (F := TX11) (N := 5) (index := 10) 11 0 iwX11 rfl (by decide) (by decide) rfl rfl (wS wd_391) (fun _ h9 => h9) dX11_ungroup_1 hq (fun a4 hq => ?_)
  refine zz_getR S hT hB (C := RX2) (ref := "DiagramDesk$Diagram") (F := TX2) (N := 4) (index := 121) 2 2 iwX2 rfl (by decide) (by decide) rfl rfl (wS wd_423) (fun _ h9 => h9) dX11_ungroup_4 hq (fun a5 hq => ?_)
  refine lv_iload_n hx hb dX11_ungroup_7 rfl (lv_at hl 1 rfl) ?_
  refine zz_callVi S hT hB (As := [.int x1]) (b := a5) (o := f_X3_has T N s0 a5 x1) (c_X3_has l D cy T hT ad N s0 _ a5 x1) (cwV 1 hts (gV wSub wd_479 wd_116 wd_117 wd_118 wd_119) rfl rfl rfl (by decide +kernel) ⟨Nat.le_of_ble_eq_true rfl, Nat.le_of_ble_eq_true rfl⟩) (F := TX3) (NF := 2) 3 rfl (by decide) (k_X3_has T N s0 a5 x1) rfl hl.1 rfl (Nat.le_of_ble_eq_true rfl) dX11_ungroup_8 hq (fun x7 s6 H locs hq hB => ?_)
  refine zz_if_ne (tgt := 16) hx hb dX11_ungroup_11 (by decide) hq (fun hq => ?_) (fun hq => ?_)
  · refine lv_aload_n hx hb dX11_ungroup_16 rfl (lv_at hl 0 rfl) ?_
    refine zz_getR S hT hB (C := RX11) (ref := "DiagramDesk") (F := TX11) (N := 5) (index := 19) 11 1 iwX11 rfl (by decide) (by decide) rfl rfl (wS wd_394) (fun _ h9 => h9) dX11_ungroup_17 hq (fun a8 hq => ?_)
    refine lv_aload_n hx hb dX11_ungroup_20 rfl (lv_at hl 0 rfl) ?_
    refine zz_getR S hT hB (C := RX11) (ref := "DiagramDesk") (F := TX11) (N := 5) (index := 10) 11 0 iwX11 rfl (by decide) (by decide) rfl rfl (wS wd_391) (fun _ h9 => h9) dX11_ungroup_21 hq (fun a9 hq => ?_)
    refine zz_callVv S hT hB (As := [.ref (ad a9)]) (b := a8) (o := f_X5_keep T N s6 a8 a9) (c_X5_keep l D cy T hT ad N s6 _ a8 a9) (cwV 1 hts (gV wSub wd_395 wd_396 wd_397 wd_215 wd_398) rfl rfl rfl (by decide +kernel) ⟨Nat.le_of_ble_eq_true rfl, Nat.le_of_ble_eq_true rfl⟩) (F := TX5) (NF := 2) 5 rfl (by decide) (k_X5_keep T N s6 a8 a9) rfl hl.1 rfl (Nat.le_of_ble_eq_true rfl) dX11_ungroup_24 hq (fun s10 H locs hq hB => ?_)
    refine lv_aload_n hx hb dX11_ungroup_27 rfl (lv_at hl 0 rfl) ?_
    refine zz_getR S hT hB (C := RX11) (ref := "DiagramDesk") (F := TX11) (N := 5) (index := 10) 11 0 iwX11 rfl (by decide) (by decide) rfl rfl (wS wd_391) (fun _ h9 => h9) dX11_ungroup_28 hq (fun a11 hq => ?_)
    refine lv_iload_n hx hb dX11_ungroup_31 rfl (lv_at hl 1 rfl) ?_
    refine zz_callVi S hT hB (As := [.int x1]) (b := a11) (o := f_X2_endGroup T N s10 a11 x1) (c_X2_endGroup l D cy T hT ad N s10 _ a11 x1) (cwV 1 hts (gV wSub wd_480 wd_481 wd_482 wd_174 wd_483) rfl rfl rfl (by decide +kernel) ⟨Nat.le_of_ble_eq_true rfl, Nat.le_of_ble_eq_true rfl⟩) (F := TX2) (NF := 4) 2 rfl (by decide) (k_X2_endGroup T N s10 a11 x1) rfl hl.1 rfl (Nat.le_of_ble_eq_true rfl) dX11_ungroup_32 hq (fun x13 s12 H locs hq hB => ?_)
    exact zz_iret S hB hr hlocks dX11_ungroup_35 hq
  · refine lv_iconst (v := -1) hx hb dX11_ungroup_14 (by decide) ?_
    exact zz_iret S hB hr hlocks dX11_ungroup_15 hq
def f_X11_shapesOf (T : zT) (N : Nat) (s0 : zS) (a0 : Nat) (x1 : Int32) : Option (Int32 × zS) :=
  zz1 (T.1 a0 = 11) <|
  (gR T s0 a0 11 0).bind fun a4 =>
  (gR T s0 a4 2 2).bind fun a5 =>
  zb2 (f_X3_has T N s0 a5 x1) fun x7 s6 =>
  if x7 = 0 then (
    some ((-1 : Int32), s6))
  else (
    (gR T s6 a0 11 0).bind fun a8 =>
    zb2 (f_X2_shapesIn T N s6 a8 x1) fun x10 s9 =>
    some (x10, s9))
theorem k_X11_shapesOf (T : zT) (N : Nat) (s0 : zS) (a0 : Nat) (x1 : Int32) : ∀ q, f_X11_shapesOf T N s0 a0 x1 = some q → T.1 a0 = 11 := by
  intro q h
  unfold f_X11_shapesOf at h
  exact zz_guard h (fun h _ => h)
set_option maxHeartbeats 4000000 in
set_option maxRecDepth 100000 in
theorem c_X11_shapesOf (l : Launch) (D : va_G) (cy : Nat → ClassId) (T : zT) (hT : zok T) (ad : Nat → Nat) (N : Nat) (s0 : zS) (sz : Nat) (a0 : Nat) (x1 : Int32) : ∀ (r0 : Int32) (σ0 : zS), f_X11_shapesOf T N s0 a0 x1 = some (r0, σ0) → Met l yX11_shapesOf wsX11_shapesOf ({ frames := 4, cells := 0, slots := 0, locals := 90 }) (va_Pc [.ref (ad a0), .int x1] (zPre D cy T ad s0 sz)) (va_Qi (fun (r2 : Int32) (σ2 : zS) => r2 = r0 ∧ σ2 = σ0) (zAt D cy T ad (zA T ad sz)) (zA T ad sz)) 0 0 (zA T ad sz) := by
  intro r0 σ0 hq
  refine Met.ofW (cc := cX11_shapesOf) (maxL := 2) (ret := (some .int)) (by decide) rfl ?_
  intro p e s m args below meth c s₁ B hml hv
  obtain ⟨hargs, hsz, hP, hK, hD0, hN⟩ := hv
  have hx := B.exec
  have hb := B.bytes
  have hr := B.returns
  have hts := atoms_spec (ws := wsX11_shapesOf) B.pre
  have hown : s.vm.findClass RX11 = some m.cls := findClass_of_methodNamed B.named
  have hlocks := B.notSynchronized
  have S : CallFix p m c cX11_shapesOf 2 s args wsX11_shapesOf RX11 := ⟨hx, hb, hml, hown, hts⟩
  subst hsz
  have hB : zB D cy T ad (zA T ad s.heap.size) s.heap s0 s.heap [] s := zz_entry hP hK hD0 hN
  obtain ⟨ls, hent, hl⟩ := zz_ent m hargs (n := 2) (Nat.le_of_ble_eq_true rfl)
  rw [hent]
  have hl : lv_has ls 2 [(0, .ref (ad a0)), (1, .int x1)] := hl
  have iwX11 : ∀ w ∈ u_ws RX11 TX11 5, w ∈ wsX11_shapesOf := fun w h => wS (inWX11 w h)
  have iwX2 : ∀ w ∈ u_ws RX2 TX2 4, w ∈ wsX11_shapesOf := fun w h => wS (inWX2 w h)
  unfold f_X11_shapesOf at hq
  refine zz_guard hq (fun hk0 hq => ?_)
  refine lv_aload_n hx hb dX11_shapesOf_0 rfl (lv_at hl 0 rfl) ?_
  refine zz_getR S hT hB (C := RX11) (ref := "DiagramDesk") (F := TX11) (N := 5) (index := 10) 11 0 iwX11 rfl (by decide) (by decide) rfl rfl (wS wd_391) (fun _ h9 => h9) dX11_shapesOf_1 hq (fun a4 hq => ?_)
  refine zz_getR S hT hB (C := RX2) (ref := "DiagramDesk$Diagram") (F := TX2) (N := 4) (index := 121) 2 2 iwX2 rfl (by decide) (by decide) rfl rfl (wS wd_423) (fun _ h9 => h9) dX11_shapesOf_4 hq (fun a5 hq => ?_)
  refine lv_iload_n hx hb dX11_shapesOf_7 rfl (lv_at hl 1 rfl) ?_
  refine zz_callVi S hT hB (As := [.int x1]) (b := a5) (o := f_X3_has T N s0 a5 x1) (c_X3_has l D cy T hT ad N s0 _ a5 x1) (cwV 1 hts (gV wSub wd_479 wd_116 wd_117 wd_118 wd_119) rfl rfl rfl (by decide +kernel) ⟨Nat.le_of_ble_eq_true rfl, Nat.le_of_ble_eq_true rfl⟩) (F := TX3) (NF := 2) 3 rfl (by decide) (k_X3_has T N s0 a5 x1) rfl hl.1 rfl (Nat.le_of_ble_eq_true rfl) dX11_shapesOf_8 hq (fun x7 s6 H locs hq hB => ?_)
  refine zz_if_eq (tgt := 25) hx hb dX11_shapesOf_11 (by decide) hq (fun hq => ?_) (fun hq => ?_)
  · refine lv_iconst (v := -1) hx hb dX11_shapesOf_25 (by decide) ?_
    exact zz_iret S hB hr hlocks dX11_shapesOf_26 hq
  · refine lv_aload_n hx hb dX11_shapesOf_14 rfl (lv_at hl 0 rfl) ?_
    refine zz_getR S hT hB (C := RX11) (ref := "DiagramDesk") (F := TX11) (N := 5) (index := 10) 11 0 iwX11 rfl (by decide) (by decide) rfl rfl (wS wd_391) (fun _ h9 => h9) dX11_shapesOf_15 hq (fun a8 hq => ?_)
    refine lv_iload_n hx hb dX11_shapesOf_18 rfl (lv_at hl 1 rfl) ?_
    refine zz_callVi S hT hB (As := [.int x1]) (b := a8) (o := f_X2_shapesIn T N s6 a8 x1) (c_X2_shapesIn l D cy T hT ad N s6 _ a8 x1) (cwV 1 hts (gV wSub wd_484 wd_172 wd_173 wd_174 wd_175) rfl rfl rfl (by decide +kernel) ⟨Nat.le_of_ble_eq_true rfl, Nat.le_of_ble_eq_true rfl⟩) (F := TX2) (NF := 4) 2 rfl (by decide) (k_X2_shapesIn T N s6 a8 x1) rfl hl.1 rfl (Nat.le_of_ble_eq_true rfl) dX11_shapesOf_19 hq (fun x10 s9 H locs hq hB => ?_)
    refine lv_goto (tgt := 26) hx hb dX11_shapesOf_22 (by decide) ?_
    exact zz_iret S hB hr hlocks dX11_shapesOf_26 hq
def f_X11_isWay (T : zT) (N : Nat) (s0 : zS) (x0 : Int32) : Option (Int32 × zS) :=
  zb2 (f_X11_isWithin T N s0 x0 (-20000 : Int32) (20000 : Int32)) fun x4 s3 =>
  rZ x4 s3
set_option maxHeartbeats 4000000 in
set_option maxRecDepth 100000 in
theorem c_X11_isWay (l : Launch) (D : va_G) (cy : Nat → ClassId) (T : zT) (hT : zok T) (ad : Nat → Nat) (N : Nat) (s0 : zS) (sz : Nat) (x0 : Int32) : ∀ (r0 : Int32) (σ0 : zS), f_X11_isWay T N s0 x0 = some (r0, σ0) → Met l yX11_isWay wsX11_isWay ({ frames := 1, cells := 0, slots := 0, locals := 22 }) (va_Pc [.int x0] (zPre D cy T ad s0 sz)) (va_Qi (fun (r2 : Int32) (σ2 : zS) => r2 = r0 ∧ σ2 = σ0) (zAt D cy T ad (zA T ad sz)) (zA T ad sz)) 0 0 (zA T ad sz) := by
  intro r0 σ0 hq
  refine Met.ofW (cc := cX11_isWay) (maxL := 1) (ret := (some .boolean)) (by decide) rfl ?_
  intro p e s m args below meth c s₁ B hml hv
  obtain ⟨hargs, hsz, hP, hK, hD0, hN⟩ := hv
  have hx := B.exec
  have hb := B.bytes
  have hr := B.returns
  have hts := atoms_spec (ws := wsX11_isWay) B.pre
  have hown : s.vm.findClass RX11 = some m.cls := findClass_of_methodNamed B.named
  have hlocks := B.notSynchronized
  have S : CallFix p m c cX11_isWay 1 s args wsX11_isWay RX11 := ⟨hx, hb, hml, hown, hts⟩
  subst hsz
  have hB : zB D cy T ad (zA T ad s.heap.size) s.heap s0 s.heap [] s := zz_entry hP hK hD0 hN
  obtain ⟨ls, hent, hl⟩ := zz_ent m hargs (n := 1) (Nat.le_of_ble_eq_true rfl)
  rw [hent]
  have hl : lv_has ls 1 [(0, .int x0)] := hl
  unfold f_X11_isWay at hq
  refine lv_iload_n hx hb dX11_isWay_0 rfl (lv_at hl 0 rfl) ?_
  refine lv_sipush (v := -20000) hx hb dX11_isWay_1 (by decide) ?_
  refine lv_sipush (v := 20000) hx hb dX11_isWay_4 (by decide) ?_
  refine zz_callSi S hT hB (As := [.int x0, .int (-20000 : Int32), .int (20000 : Int32)]) (o := f_X11_isWithin T N s0 x0 (-20000 : Int32) (20000 : Int32)) (c_X11_isWithin l D cy T hT ad N s0 _ x0 (-20000 : Int32) (20000 : Int32)) (va_cwS 3 hts (gS wSub wd_253 wd_222 wd_102 wd_221) rfl rfl rfl (by decide +kernel) ⟨Nat.le_of_ble_eq_true rfl, Nat.le_of_ble_eq_true rfl⟩) rfl hl.1 rfl (Nat.le_of_ble_eq_true rfl) dX11_isWay_7 hq (fun x4 s3 H locs hq hB => ?_)
  exact zz_zret S hB hr hlocks dX11_isWay_10 hq
def f_X11_canShiftChosen (T : zT) (N : Nat) (s0 : zS) (a0 : Nat) (x1 : Int32) (x2 : Int32) : Option (Int32 × zS) :=
  zz1 (T.1 a0 = 11) <|
  (gR T s0 a0 11 0).bind fun a5 =>
  (gR T s0 a5 2 0).bind fun a6 =>
  (gI T s0 a6 7 2).bind fun x7 =>
  (gR T s0 a0 11 0).bind fun a8 =>
  (gR T s0 a8 2 0).bind fun a9 =>
  zb2 (f_X7_canShift T N s0 a9 x7 (0 : Int32) x1) fun x11 s10 =>
  if x11 = 0 then (
    rZ (0 : Int32) s10)
  else (
    (gR T s10 a0 11 0).bind fun a12 =>
    (gR T s10 a12 2 0).bind fun a13 =>
    zb2 (f_X7_canShift T N s10 a13 x7 (1 : Int32) x2) fun x15 s14 =>
    if x15 = 0 then (
      rZ (0 : Int32) s14)
    else (
      rZ (1 : Int32) s14))
theorem k_X11_canShiftChosen (T : zT) (N : Nat) (s0 : zS) (a0 : Nat) (x1 : Int32) (x2 : Int32) : ∀ q, f_X11_canShiftChosen T N s0 a0 x1 x2 = some q → T.1 a0 = 11 := by
  intro q h
  unfold f_X11_canShiftChosen at h
  exact zz_guard h (fun h _ => h)
set_option maxHeartbeats 4000000 in
set_option maxRecDepth 100000 in
theorem c_X11_canShiftChosen (l : Launch) (D : va_G) (cy : Nat → ClassId) (T : zT) (hT : zok T) (ad : Nat → Nat) (N : Nat) (s0 : zS) (sz : Nat) (a0 : Nat) (x1 : Int32) (x2 : Int32) : ∀ (r0 : Int32) (σ0 : zS), f_X11_canShiftChosen T N s0 a0 x1 x2 = some (r0, σ0) → Met l yX11_canShiftChosen wsX11_canShiftChosen ({ frames := 3, cells := 0, slots := 0, locals := 67 }) (va_Pc [.ref (ad a0), .int x1, .int x2] (zPre D cy T ad s0 sz)) (va_Qi (fun (r2 : Int32) (σ2 : zS) => r2 = r0 ∧ σ2 = σ0) (zAt D cy T ad (zA T ad sz)) (zA T ad sz)) 0 0 (zA T ad sz) := by
  intro r0 σ0 hq
  refine Met.ofW (cc := cX11_canShiftChosen) (maxL := 4) (ret := (some .boolean)) (by decide) rfl ?_
  intro p e s m args below meth c s₁ B hml hv
  obtain ⟨hargs, hsz, hP, hK, hD0, hN⟩ := hv
  have hx := B.exec
  have hb := B.bytes
  have hr := B.returns
  have hts := atoms_spec (ws := wsX11_canShiftChosen) B.pre
  have hown : s.vm.findClass RX11 = some m.cls := findClass_of_methodNamed B.named
  have hlocks := B.notSynchronized
  have S : CallFix p m c cX11_canShiftChosen 4 s args wsX11_canShiftChosen RX11 := ⟨hx, hb, hml, hown, hts⟩
  subst hsz
  have hB : zB D cy T ad (zA T ad s.heap.size) s.heap s0 s.heap [] s := zz_entry hP hK hD0 hN
  obtain ⟨ls, hent, hl⟩ := zz_ent m hargs (n := 4) (Nat.le_of_ble_eq_true rfl)
  rw [hent]
  have hl : lv_has ls 4 [(0, .ref (ad a0)), (1, .int x1), (2, .int x2)] := hl
  have iwX11 : ∀ w ∈ u_ws RX11 TX11 5, w ∈ wsX11_canShiftChosen := fun w h => wS (inWX11 w h)
  have iwX2 : ∀ w ∈ u_ws RX2 TX2 4, w ∈ wsX11_canShiftChosen := fun w h => wS (inWX2 w h)
  have iwX7 : ∀ w ∈ u_ws RX7 TX7 3, w ∈ wsX11_canShiftChosen := fun w h => wS (inWX7 w h)
  unfold f_X11_canShiftChosen at hq
  refine zz_guard hq (fun hk0 hq => ?_)
  refine lv_aload_n hx hb dX11_canShiftChosen_0 rfl (lv_at hl 0 rfl) ?_
  refine zz_getR S hT hB (C := RX11) (ref := "DiagramDesk") (F := TX11) (N := 5) (index := 10) 11 0 iwX11 rfl (by decide) (by decide) rfl rfl (wS wd_391) (fun _ h9 => h9) dX11_canShiftChosen_1 hq (fun a5 hq => ?_)
  refine zz_getR S hT hB (C := RX2) (ref := "DiagramDesk$Diagram") (F := TX2) (N := 4) (index := 55) 2 0 iwX2 rfl (by decide) (by decide) rfl rfl (wS wd_392) (fun _ h9 => h9) dX11_canShiftChosen_4 hq (fun a6 hq => ?_)
  refine zz_get S hT hB (C := RX7) (ref := "DiagramDesk$Shapes") (F := TX7) (N := 3) (index := 108) 7 2 iwX7 rfl (by decide) (by decide) rfl rfl (wS wd_419) (fun _ h9 => h9) dX11_canShiftChosen_7 hq (fun x7 hq => ?_)
  refine lv_istore_n (lv' := [(3, .int x7), (0, .ref (ad a0)), (1, .int x1), (2, .int x2)]) hx hb dX11_canShiftChosen_10 rfl hl (by decide) rfl (fun ls hl => ?_)
  refine lv_aload_n hx hb dX11_canShiftChosen_11 rfl (lv_at hl 1 rfl) ?_
  refine zz_getR S hT hB (C := RX11) (ref := "DiagramDesk") (F := TX11) (N := 5) (index := 10) 11 0 iwX11 rfl (by decide) (by decide) rfl rfl (wS wd_391) (fun _ h9 => h9) dX11_canShiftChosen_12 hq (fun a8 hq => ?_)
  refine zz_getR S hT hB (C := RX2) (ref := "DiagramDesk$Diagram") (F := TX2) (N := 4) (index := 55) 2 0 iwX2 rfl (by decide) (by decide) rfl rfl (wS wd_392) (fun _ h9 => h9) dX11_canShiftChosen_15 hq (fun a9 hq => ?_)
  refine lv_iload_n hx hb dX11_canShiftChosen_18 rfl (lv_at hl 0 rfl) ?_
  refine lv_iconst (v := 0) hx hb dX11_canShiftChosen_19 (by decide) ?_
  refine lv_iload_n hx hb dX11_canShiftChosen_20 rfl (lv_at hl 2 rfl) ?_
  refine zz_callVi S hT hB (As := [.int x7, .int (0 : Int32), .int x1]) (b := a9) (o := f_X7_canShift T N s0 a9 x7 (0 : Int32) x1) (c_X7_canShift l D cy T hT ad N s0 _ a9 x7 (0 : Int32) x1) (cwV 3 hts (gV wSub wd_485 wd_382 wd_383 wd_35 wd_384) rfl rfl rfl (by decide +kernel) ⟨Nat.le_of_ble_eq_true rfl, Nat.le_of_ble_eq_true rfl⟩) (F := TX7) (NF := 3) 7 rfl (by decide) (k_X7_canShift T N s0 a9 x7 (0 : Int32) x1) rfl hl.1 rfl (Nat.le_of_ble_eq_true rfl) dX11_canShiftChosen_21 hq (fun x11 s10 H locs hq hB => ?_)
  refine zz_if_eq (tgt := 47) hx hb dX11_canShiftChosen_24 (by decide) hq (fun hq => ?_) (fun hq => ?_)
  · refine lv_iconst (v := 0) hx hb dX11_canShiftChosen_47 (by decide) ?_
    exact zz_zret S hB hr hlocks dX11_canShiftChosen_48 hq
  · refine lv_aload_n hx hb dX11_canShiftChosen_27 rfl (lv_at hl 1 rfl) ?_
    refine zz_getR S hT hB (C := RX11) (ref := "DiagramDesk") (F := TX11) (N := 5) (index := 10) 11 0 iwX11 rfl (by decide) (by decide) rfl rfl (wS wd_391) (fun _ h9 => h9) dX11_canShiftChosen_28 hq (fun a12 hq => ?_)
    refine zz_getR S hT hB (C := RX2) (ref := "DiagramDesk$Diagram") (F := TX2) (N := 4) (index := 55) 2 0 iwX2 rfl (by decide) (by decide) rfl rfl (wS wd_392) (fun _ h9 => h9) dX11_canShiftChosen_31 hq (fun a13 hq => ?_)
    refine lv_iload_n hx hb dX11_canShiftChosen_34 rfl (lv_at hl 0 rfl) ?_
    refine lv_iconst (v := 1) hx hb dX11_canShiftChosen_35 (by decide) ?_
    refine lv_iload_n hx hb dX11_canShiftChosen_36 rfl (lv_at hl 3 rfl) ?_
    refine zz_callVi S hT hB (As := [.int x7, .int (1 : Int32), .int x2]) (b := a13) (o := f_X7_canShift T N s10 a13 x7 (1 : Int32) x2) (c_X7_canShift l D cy T hT ad N s10 _ a13 x7 (1 : Int32) x2) (cwV 3 hts (gV wSub wd_485 wd_382 wd_383 wd_35 wd_384) rfl rfl rfl (by decide +kernel) ⟨Nat.le_of_ble_eq_true rfl, Nat.le_of_ble_eq_true rfl⟩) (F := TX7) (NF := 3) 7 rfl (by decide) (k_X7_canShift T N s10 a13 x7 (1 : Int32) x2) rfl hl.1 rfl (Nat.le_of_ble_eq_true rfl) dX11_canShiftChosen_37 hq (fun x15 s14 H locs hq hB => ?_)
    refine zz_if_eq (tgt := 47) hx hb dX11_canShiftChosen_40 (by decide) hq (fun hq => ?_) (fun hq => ?_)
    · refine lv_iconst (v := 0) hx hb dX11_canShiftChosen_47 (by decide) ?_
      exact zz_zret S hB hr hlocks dX11_canShiftChosen_48 hq
    · refine lv_iconst (v := 1) hx hb dX11_canShiftChosen_43 (by decide) ?_
      refine lv_goto (tgt := 48) hx hb dX11_canShiftChosen_44 (by decide) ?_
      exact zz_zret S hB hr hlocks dX11_canShiftChosen_48 hq
def f_X11_shiftChosen (T : zT) (N : Nat) (s0 : zS) (a0 : Nat) (x1 : Int32) (x2 : Int32) : Option zS :=
  zz1 (T.1 a0 = 11) <|
  (gR T s0 a0 11 0).bind fun a5 =>
  (gR T s0 a5 2 0).bind fun a6 =>
  (gR T s0 a0 11 0).bind fun a7 =>
  (gR T s0 a7 2 0).bind fun a8 =>
  (gI T s0 a8 7 2).bind fun x9 =>
  (f_X7_shift T N s0 a6 x9 (0 : Int32) x1).bind fun s10 =>
  (gR T s10 a0 11 0).bind fun a11 =>
  (gR T s10 a11 2 0).bind fun a12 =>
  (gR T s10 a0 11 0).bind fun a13 =>
  (gR T s10 a13 2 0).bind fun a14 =>
  (gI T s10 a14 7 2).bind fun x15 =>
  (f_X7_shift T N s10 a12 x15 (1 : Int32) x2).bind fun s16 =>
  some s16
theorem k_X11_shiftChosen (T : zT) (N : Nat) (s0 : zS) (a0 : Nat) (x1 : Int32) (x2 : Int32) : ∀ q, f_X11_shiftChosen T N s0 a0 x1 x2 = some q → T.1 a0 = 11 := by
  intro q h
  unfold f_X11_shiftChosen at h
  exact zz_guard h (fun h _ => h)
set_option maxHeartbeats 4000000 in
set_option maxRecDepth 100000 in
theorem c_X11_shiftChosen (l : Launch) (D : va_G) (cy : Nat → ClassId) (T : zT) (hT : zok T) (ad : Nat → Nat) (N : Nat) (s0 : zS) (sz : Nat) (a0 : Nat) (x1 : Int32) (x2 : Int32) : ∀ (σ0 : zS), f_X11_shiftChosen T N s0 a0 x1 x2 = some σ0 → Met l yX11_shiftChosen wsX11_shiftChosen ({ frames := 2, cells := 0, slots := 0, locals := 47 }) (va_Pc [.ref (ad a0), .int x1, .int x2] (zPre D cy T ad s0 sz)) (va_Qv (fun σ2 : zS => σ2 = σ0) (zAt D cy T ad (zA T ad sz)) (zA T ad sz)) 0 0 (zA T ad sz) := by
  intro σ0 hq
  refine Met.ofW (cc := cX11_shiftChosen) (maxL := 3) (ret := none) (by decide) rfl ?_
  intro p e s m args below meth c s₁ B hml hv
  obtain ⟨hargs, hsz, hP, hK, hD0, hN⟩ := hv
  have hx := B.exec
  have hb := B.bytes
  have hr := B.returns
  have hts := atoms_spec (ws := wsX11_shiftChosen) B.pre
  have hown : s.vm.findClass RX11 = some m.cls := findClass_of_methodNamed B.named
  have hlocks := B.notSynchronized
  have S : CallFix p m c cX11_shiftChosen 3 s args wsX11_shiftChosen RX11 := ⟨hx, hb, hml, hown, hts⟩
  subst hsz
  have hB : zB D cy T ad (zA T ad s.heap.size) s.heap s0 s.heap [] s := zz_entry hP hK hD0 hN
  obtain ⟨ls, hent, hl⟩ := zz_ent m hargs (n := 3) (Nat.le_of_ble_eq_true rfl)
  rw [hent]
  have hl : lv_has ls 3 [(0, .ref (ad a0)), (1, .int x1), (2, .int x2)] := hl
  have iwX11 : ∀ w ∈ u_ws RX11 TX11 5, w ∈ wsX11_shiftChosen := fun w h => wS (inWX11 w h)
  have iwX2 : ∀ w ∈ u_ws RX2 TX2 4, w ∈ wsX11_shiftChosen := fun w h => wS (inWX2 w h)
  have iwX7 : ∀ w ∈ u_ws RX7 TX7 3, w ∈ wsX11_shiftChosen := fun w h => wS (inWX7 w h)
  unfold f_X11_shiftChosen at hq
  refine zz_guard hq (fun hk0 hq => ?_)
  refine lv_aload_n hx hb dX11_shiftChosen_0 rfl (lv_at hl 0 rfl) ?_
  refine zz_getR S hT hB (C := RX11) (ref := "DiagramDesk") (F := TX11) (N := 5) (index := 10) 11 0 iwX11 rfl (by decide) (by decide) rfl rfl (wS wd_391) (fun _ h9 => h9) dX11_shiftChosen_1 hq (fun a5 hq => ?_)
  refine zz_getR S hT hB (C := RX2) (ref := "DiagramDesk$Diagram") (F := TX2) (N := 4) (index := 55) 2 0 iwX2 rfl (by decide) (by decide) rfl rfl (wS wd_392) (fun _ h9 => h9) dX11_shiftChosen_4 hq (fun a6 hq => ?_)
  refine lv_aload_n hx hb dX11_shiftChosen_7 rfl (lv_at hl 0 rfl) ?_
  refine zz_getR S hT hB (C := RX11) (ref := "DiagramDesk") (F := TX11) (N := 5) (index := 10) 11 0 iwX11 rfl (by decide) (by decide) rfl rfl (wS wd_391) (fun _ h9 => h9) dX11_shiftChosen_8 hq (fun a7 hq => ?_)
  refine zz_getR S hT hB (C := RX2) (ref := "DiagramDesk$Diagram") (F := TX2) (N := 4) (index := 55) 2 0 iwX2 rfl (by decide) (by decide) rfl rfl (wS wd_392) (fun _ h9 => h9) dX11_shiftChosen_11 hq (fun a8 hq => ?_)
  refine zz_get S hT hB (C := RX7) (ref := "DiagramDesk$Shapes") (F := TX7) (N := 3) (index := 108) 7 2 iwX7 rfl (by decide) (by decide) rfl rfl (wS wd_419) (fun _ h9 => h9) dX11_shiftChosen_14 hq (fun x9 hq => ?_)
  refine lv_iconst (v := 0) hx hb dX11_shiftChosen_17 (by decide) ?_
  refine lv_iload_n hx hb dX11_shiftChosen_18 rfl (lv_at hl 1 rfl) ?_
  refine zz_callVv S hT hB (As := [.int x9, .int (0 : Int32), .int x1]) (b := a6) (o := f_X7_shift T N s0 a6 x9 (0 : Int32) x1) (c_X7_shift l D cy T hT ad N s0 _ a6 x9 (0 : Int32) x1) (cwV 3 hts (gV wSub wd_486 wd_386 wd_387 wd_35 wd_388) rfl rfl rfl (by decide +kernel) ⟨Nat.le_of_ble_eq_true rfl, Nat.le_of_ble_eq_true rfl⟩) (F := TX7) (NF := 3) 7 rfl (by decide) (k_X7_shift T N s0 a6 x9 (0 : Int32) x1) rfl hl.1 rfl (Nat.le_of_ble_eq_true rfl) dX11_shiftChosen_19 hq (fun s10 H locs hq hB => ?_)
  refine lv_aload_n hx hb dX11_shiftChosen_22 rfl (lv_at hl 0 rfl) ?_
  refine zz_getR S hT hB (C := RX11) (ref := "DiagramDesk") (F := TX11) (N := 5) (index := 10) 11 0 iwX11 rfl (by decide) (by decide) rfl rfl (wS wd_391) (fun _ h9 => h9) dX11_shiftChosen_23 hq (fun a11 hq => ?_)
  refine zz_getR S hT hB (C := RX2) (ref := "DiagramDesk$Diagram") (F := TX2) (N := 4) (index := 55) 2 0 iwX2 rfl (by decide) (by decide) rfl rfl (wS wd_392) (fun _ h9 => h9) dX11_shiftChosen_26 hq (fun a12 hq => ?_)
  refine lv_aload_n hx hb dX11_shiftChosen_29 rfl (lv_at hl 0 rfl) ?_
  refine zz_getR S hT hB (C := RX11) (ref := "DiagramDesk") (F := TX11) (N := 5) (index := 10) 11 0 iwX11 rfl (by decide) (by decide) rfl rfl (wS wd_391) (fun _ h9 => h9) dX11_shiftChosen_30 hq (fun a13 hq => ?_)
  refine zz_getR S hT hB (C := RX2) (ref := "DiagramDesk$Diagram") (F := TX2) (N := 4) (index := 55) 2 0 iwX2 rfl (by decide) (by decide) rfl rfl (wS wd_392) (fun _ h9 => h9) dX11_shiftChosen_33 hq (fun a14 hq => ?_)
  refine zz_get S hT hB (C := RX7) (ref := "DiagramDesk$Shapes") (F := TX7) (N := 3) (index := 108) 7 2 iwX7 rfl (by decide) (by decide) rfl rfl (wS wd_419) (fun _ h9 => h9) dX11_shiftChosen_36 hq (fun x15 hq => ?_)
  refine lv_iconst (v := 1) hx hb dX11_shiftChosen_39 (by decide) ?_
  refine lv_iload_n hx hb dX11_shiftChosen_40 rfl (lv_at hl 2 rfl) ?_
  refine zz_callVv S hT hB (As := [.int x15, .int (1 : Int32), .int x2]) (b := a12) (o := f_X7_shift T N s10 a12 x15 (1 : Int32) x2) (c_X7_shift l D cy T hT ad N s10 _ a12 x15 (1 : Int32) x2) (cwV 3 hts (gV wSub wd_486 wd_386 wd_387 wd_35 wd_388) rfl rfl rfl (by decide +kernel) ⟨Nat.le_of_ble_eq_true rfl, Nat.le_of_ble_eq_true rfl⟩) (F := TX7) (NF := 3) 7 rfl (by decide) (k_X7_shift T N s10 a12 x15 (1 : Int32) x2) rfl hl.1 rfl (Nat.le_of_ble_eq_true rfl) dX11_shiftChosen_41 hq (fun s16 H locs hq hB => ?_)
  exact zz_vret S hB hr hlocks dX11_shiftChosen_44 hq
def f_X11_move (T : zT) (N : Nat) (s0 : zS) (a0 : Nat) (x1 : Int32) (x2 : Int32) : Option (Int32 × zS) :=
  zz1 (T.1 a0 = 11) <|
  zb2 (f_X11_isWay T N s0 x1) fun x6 s5 =>
  if x6 = 0 then (
    some ((-1 : Int32), s5))
  else (
    zb2 (f_X11_isWay T N s5 x2) fun x8 s7 =>
    if ¬ x8 = 0 then (
      (gR T s7 a0 11 0).bind fun a9 =>
      (gR T s7 a9 2 0).bind fun a10 =>
      (gI T s7 a10 7 2).bind fun x11 =>
      if ¬ x11 = 0 then (
        zb2 (f_X11_canShiftChosen T N s7 a0 x1 x2) fun x13 s12 =>
        if ¬ x13 = 0 then (
          (gR T s12 a0 11 1).bind fun a14 =>
          (gR T s12 a0 11 0).bind fun a15 =>
          (f_X5_keep T N s12 a14 a15).bind fun s16 =>
          (f_X11_shiftChosen T N s16 a0 x1 x2).bind fun s17 =>
          (gR T s17 a0 11 0).bind fun a18 =>
          (gR T s17 a18 2 1).bind fun a19 =>
          (gR T s17 a0 11 0).bind fun a20 =>
          (gR T s17 a20 2 0).bind fun a21 =>
          (gI T s17 a21 7 2).bind fun x22 =>
          zb2 (f_X1_countHalfIn T N s17 a19 x22) fun x24 s23 =>
          some (x24, s23))
        else (
          some ((-4 : Int32), s12)))
      else (
        some ((-2 : Int32), s7)))
    else (
      some ((-1 : Int32), s7)))
theorem k_X11_move (T : zT) (N : Nat) (s0 : zS) (a0 : Nat) (x1 : Int32) (x2 : Int32) : ∀ q, f_X11_move T N s0 a0 x1 x2 = some q → T.1 a0 = 11 := by
  intro q h
  unfold f_X11_move at h
  exact zz_guard h (fun h _ => h)
set_option maxHeartbeats 4000000 in
set_option maxRecDepth 100000 in
theorem c_X11_move (l : Launch) (D : va_G) (cy : Nat → ClassId) (T : zT) (hT : zok T) (ad : Nat → Nat) (N : Nat) (s0 : zS) (sz : Nat) (a0 : Nat) (x1 : Int32) (x2 : Int32) : ∀ (r0 : Int32) (σ0 : zS), f_X11_move T N s0 a0 x1 x2 = some (r0, σ0) → Met l yX11_move wsX11_move ({ frames := 5, cells := 0, slots := 0, locals := 106 }) (va_Pc [.ref (ad a0), .int x1, .int x2] (zPre D cy T ad s0 sz)) (va_Qi (fun (r2 : Int32) (σ2 : zS) => r2 = r0 ∧ σ2 = σ0) (zAt D cy T ad (zA T ad sz)) (zA T ad sz)) 0 0 (zA T ad sz) := by
  intro r0 σ0 hq
  refine Met.ofW (cc := cX11_move) (maxL := 3) (ret := (some .int)) (by decide) rfl ?_
  intro p e s m args below meth c s₁ B hml hv
  obtain ⟨hargs, hsz, hP, hK, hD0, hN⟩ := hv
  have hx := B.exec
  have hb := B.bytes
  have hr := B.returns
  have hts := atoms_spec (ws := wsX11_move) B.pre
  have hown : s.vm.findClass RX11 = some m.cls := findClass_of_methodNamed B.named
  have hlocks := B.notSynchronized
  have S : CallFix p m c cX11_move 3 s args wsX11_move RX11 := ⟨hx, hb, hml, hown, hts⟩
  subst hsz
  have hB : zB D cy T ad (zA T ad s.heap.size) s.heap s0 s.heap [] s := zz_entry hP hK hD0 hN
  obtain ⟨ls, hent, hl⟩ := zz_ent m hargs (n := 3) (Nat.le_of_ble_eq_true rfl)
  rw [hent]
  have hl : lv_has ls 3 [(0, .ref (ad a0)), (1, .int x1), (2, .int x2)] := hl
  have iwX11 : ∀ w ∈ u_ws RX11 TX11 5, w ∈ wsX11_move := fun w h => wS (inWX11 w h)
  have iwX2 : ∀ w ∈ u_ws RX2 TX2 4, w ∈ wsX11_move := fun w h => wS (inWX2 w h)
  have iwX7 : ∀ w ∈ u_ws RX7 TX7 3, w ∈ wsX11_move := fun w h => wS (inWX7 w h)
  unfold f_X11_move at hq
  refine zz_guard hq (fun hk0 hq => ?_)
  refine lv_iload_n hx hb dX11_move_0 rfl (lv_at hl 1 rfl) ?_
  refine zz_callSi S hT hB (As := [.int x1]) (o := f_X11_isWay T N s0 x1) (c_X11_isWay l D cy T hT ad N s0 _ x1) (va_cwS 1 hts (gS wSub wd_487 wd_488 wd_102 wd_489) rfl rfl rfl (by decide +kernel) ⟨Nat.le_of_ble_eq_true rfl, Nat.le_of_ble_eq_true rfl⟩) rfl hl.1 rfl (Nat.le_of_ble_eq_true rfl) dX11_move_1 hq (fun x6 s5 H locs hq hB => ?_)
  refine zz_if_eq (tgt := 14) hx hb dX11_move_4 (by decide) hq (fun hq => ?_) (fun hq => ?_)
  · refine lv_iconst (v := -1) hx hb dX11_move_14 (by decide) ?_
    exact zz_iret S hB hr hlocks dX11_move_15 hq
  · refine lv_iload_n hx hb dX11_move_7 rfl (lv_at hl 2 rfl) ?_
    refine zz_callSi S hT hB (As := [.int x2]) (o := f_X11_isWay T N s5 x2) (c_X11_isWay l D cy T hT ad N s5 _ x2) (va_cwS 1 hts (gS wSub wd_487 wd_488 wd_102 wd_489) rfl rfl rfl (by decide +kernel) ⟨Nat.le_of_ble_eq_true rfl, Nat.le_of_ble_eq_true rfl⟩) rfl hl.1 rfl (Nat.le_of_ble_eq_true rfl) dX11_move_8 hq (fun x8 s7 H locs hq hB => ?_)
    refine zz_if_ne (tgt := 16) hx hb dX11_move_11 (by decide) hq (fun hq => ?_) (fun hq => ?_)
    · refine lv_aload_n hx hb dX11_move_16 rfl (lv_at hl 0 rfl) ?_
      refine zz_getR S hT hB (C := RX11) (ref := "DiagramDesk") (F := TX11) (N := 5) (index := 10) 11 0 iwX11 rfl (by decide) (by decide) rfl rfl (wS wd_391) (fun _ h9 => h9) dX11_move_17 hq (fun a9 hq => ?_)
      refine zz_getR S hT hB (C := RX2) (ref := "DiagramDesk$Diagram") (F := TX2) (N := 4) (index := 55) 2 0 iwX2 rfl (by decide) (by decide) rfl rfl (wS wd_392) (fun _ h9 => h9) dX11_move_20 hq (fun a10 hq => ?_)
      refine zz_get S hT hB (C := RX7) (ref := "DiagramDesk$Shapes") (F := TX7) (N := 3) (index := 108) 7 2 iwX7 rfl (by decide) (by decide) rfl rfl (wS wd_419) (fun _ h9 => h9) dX11_move_23 hq (fun x11 hq => ?_)
      refine zz_if_ne (tgt := 32) hx hb dX11_move_26 (by decide) hq (fun hq => ?_) (fun hq => ?_)
      · refine lv_aload_n hx hb dX11_move_32 rfl (lv_at hl 0 rfl) ?_
        refine lv_iload_n hx hb dX11_move_33 rfl (lv_at hl 1 rfl) ?_
        refine lv_iload_n hx hb dX11_move_34 rfl (lv_at hl 2 rfl) ?_
        refine zz_callVi S hT hB (As := [.int x1, .int x2]) (b := a0) (o := f_X11_canShiftChosen T N s7 a0 x1 x2) (c_X11_canShiftChosen l D cy T hT ad N s7 _ a0 x1 x2) (cwV 2 hts (gV wSub wd_490 wd_491 wd_492 wd_102 wd_493) rfl rfl rfl (by decide +kernel) ⟨Nat.le_of_ble_eq_true rfl, Nat.le_of_ble_eq_true rfl⟩) (F := TX11) (NF := 5) 11 rfl (by decide) (k_X11_canShiftChosen T N s7 a0 x1 x2) rfl hl.1 rfl (Nat.le_of_ble_eq_true rfl) dX11_move_35 hq (fun x13 s12 H locs hq hB => ?_)
        refine zz_if_ne (tgt := 44) hx hb dX11_move_38 (by decide) hq (fun hq => ?_) (fun hq => ?_)
        · refine lv_aload_n hx hb dX11_move_44 rfl (lv_at hl 0 rfl) ?_
          refine zz_getR S hT hB (C := RX11) (ref := "DiagramDesk") (F := TX11) (N := 5) (index := 19) 11 1 iwX11 rfl (by decide) (by decide) rfl rfl (wS wd_394) (fun _ h9 => h9) dX11_move_45 hq (fun a14 hq => ?_)
          refine lv_aload_n hx hb dX11_move_48 rfl (lv_at hl 0 rfl) ?_
          refine zz_getR S hT hB (C := RX11) (ref := "DiagramDesk") (F := TX11) (N := 5) (index := 10) 11 0 iwX11 rfl (by decide) (by decide) rfl rfl (wS wd_391) (fun _ h9 => h9) dX11_move_49 hq (fun a15 hq => ?_)
          refine zz_callVv S hT hB (As := [.ref (ad a15)]) (b := a14) (o := f_X5_keep T N s12 a14 a15) (c_X5_keep l D cy T hT ad N s12 _ a14 a15) (cwV 1 hts (gV wSub wd_395 wd_396 wd_397 wd_215 wd_398) rfl rfl rfl (by decide +kernel) ⟨Nat.le_of_ble_eq_true rfl, Nat.le_of_ble_eq_true rfl⟩) (F := TX5) (NF := 2) 5 rfl (by decide) (k_X5_keep T N s12 a14 a15) rfl hl.1 rfl (Nat.le_of_ble_eq_true rfl) dX11_move_52 hq (fun s16 H locs hq hB => ?_)
          refine lv_aload_n hx hb dX11_move_55 rfl (lv_at hl 0 rfl) ?_
          refine lv_iload_n hx hb dX11_move_56 rfl (lv_at hl 1 rfl) ?_
          refine lv_iload_n hx hb dX11_move_57 rfl (lv_at hl 2 rfl) ?_
          refine zz_callVv S hT hB (As := [.int x1, .int x2]) (b := a0) (o := f_X11_shiftChosen T N s16 a0 x1 x2) (c_X11_shiftChosen l D cy T hT ad N s16 _ a0 x1 x2) (cwV 2 hts (gV wSub wd_494 wd_495 wd_496 wd_102 wd_497) rfl rfl rfl (by decide +kernel) ⟨Nat.le_of_ble_eq_true rfl, Nat.le_of_ble_eq_true rfl⟩) (F := TX11) (NF := 5) 11 rfl (by decide) (k_X11_shiftChosen T N s16 a0 x1 x2) rfl hl.1 rfl (Nat.le_of_ble_eq_true rfl) dX11_move_58 hq (fun s17 H locs hq hB => ?_)
          refine lv_aload_n hx hb dX11_move_61 rfl (lv_at hl 0 rfl) ?_
          refine zz_getR S hT hB (C := RX11) (ref := "DiagramDesk") (F := TX11) (N := 5) (index := 10) 11 0 iwX11 rfl (by decide) (by decide) rfl rfl (wS wd_391) (fun _ h9 => h9) dX11_move_62 hq (fun a18 hq => ?_)
          refine zz_getR S hT hB (C := RX2) (ref := "DiagramDesk$Diagram") (F := TX2) (N := 4) (index := 89) 2 1 iwX2 rfl (by decide) (by decide) rfl rfl (wS wd_410) (fun _ h9 => h9) dX11_move_65 hq (fun a19 hq => ?_)
          refine lv_aload_n hx hb dX11_move_68 rfl (lv_at hl 0 rfl) ?_
          refine zz_getR S hT hB (C := RX11) (ref := "DiagramDesk") (F := TX11) (N := 5) (index := 10) 11 0 iwX11 rfl (by decide) (by decide) rfl rfl (wS wd_391) (fun _ h9 => h9) dX11_move_69 hq (fun a20 hq => ?_)
          refine zz_getR S hT hB (C := RX2) (ref := "DiagramDesk$Diagram") (F := TX2) (N := 4) (index := 55) 2 0 iwX2 rfl (by decide) (by decide) rfl rfl (wS wd_392) (fun _ h9 => h9) dX11_move_72 hq (fun a21 hq => ?_)
          refine zz_get S hT hB (C := RX7) (ref := "DiagramDesk$Shapes") (F := TX7) (N := 3) (index := 108) 7 2 iwX7 rfl (by decide) (by decide) rfl rfl (wS wd_419) (fun _ h9 => h9) dX11_move_75 hq (fun x22 hq => ?_)
          refine zz_callVi S hT hB (As := [.int x22]) (b := a19) (o := f_X1_countHalfIn T N s17 a19 x22) (c_X1_countHalfIn l D cy T hT ad N s17 _ a19 x22) (cwV 1 hts (gV wSub wd_498 wd_499 wd_500 wd_94 wd_501) rfl rfl rfl (by decide +kernel) ⟨Nat.le_of_ble_eq_true rfl, Nat.le_of_ble_eq_true rfl⟩) (F := TX1) (NF := 2) 1 rfl (by decide) (k_X1_countHalfIn T N s17 a19 x22) rfl hl.1 rfl (Nat.le_of_ble_eq_true rfl) dX11_move_78 hq (fun x24 s23 H locs hq hB => ?_)
          exact zz_iret S hB hr hlocks dX11_move_81 hq
        · refine lv_bipush (v := -4) hx hb dX11_move_41 (by decide) ?_
          exact zz_iret S hB hr hlocks dX11_move_43 hq
      · refine lv_bipush (v := -2) hx hb dX11_move_29 (by decide) ?_
        exact zz_iret S hB hr hlocks dX11_move_31 hq
    · refine lv_iconst (v := -1) hx hb dX11_move_14 (by decide) ?_
      exact zz_iret S hB hr hlocks dX11_move_15 hq
def f_X11_drag (T : zT) (N : Nat) (s0 : zS) (a0 : Nat) (x1 : Int32) (x2 : Int32) : Option (Int32 × zS) :=
  zz1 (T.1 a0 = 11) <|
  zb2 (f_X11_isWay T N s0 x1) fun x6 s5 =>
  if x6 = 0 then (
    some ((-1 : Int32), s5))
  else (
    zb2 (f_X11_isWay T N s5 x2) fun x8 s7 =>
    if ¬ x8 = 0 then (
      (gR T s7 a0 11 0).bind fun a9 =>
      (gR T s7 a9 2 0).bind fun a10 =>
      (gI T s7 a10 7 2).bind fun x11 =>
      if ¬ x11 = 0 then (
        (gR T s7 a0 11 4).bind fun a12 =>
        (gR T s7 a0 11 0).bind fun a13 =>
        (f_X8_search T N s7 a12 a13 (0 : Int32) x1).bind fun s14 =>
        (gR T s14 a0 11 4).bind fun a15 =>
        (gI T s14 a15 8 0).bind fun x16 =>
        (gR T s14 a0 11 4).bind fun a17 =>
        (gI T s14 a17 8 1).bind fun x18 =>
        zn (x1 + x18) fun x19 =>
        (gR T s14 a0 11 4).bind fun a20 =>
        (gR T s14 a0 11 0).bind fun a21 =>
        (f_X8_search T N s14 a20 a21 (1 : Int32) x2).bind fun s22 =>
        (gR T s22 a0 11 4).bind fun a23 =>
        (gI T s22 a23 8 0).bind fun x24 =>
        (gR T s22 a0 11 4).bind fun a25 =>
        (gI T s22 a25 8 1).bind fun x26 =>
        zn (x2 + x26) fun x27 =>
        zb2 (f_X11_canShiftChosen T N s22 a0 x19 x27) fun x29 s28 =>
        if ¬ x29 = 0 then (
          (gR T s28 a0 11 1).bind fun a30 =>
          (gR T s28 a0 11 0).bind fun a31 =>
          (f_X5_keep T N s28 a30 a31).bind fun s32 =>
          (f_X11_shiftChosen T N s32 a0 x19 x27).bind fun s33 =>
          some (x16 + ((10 : Int32) * x24), s33))
        else (
          some ((-4 : Int32), s28)))
      else (
        some ((-2 : Int32), s7)))
    else (
      some ((-1 : Int32), s7)))
theorem k_X11_drag (T : zT) (N : Nat) (s0 : zS) (a0 : Nat) (x1 : Int32) (x2 : Int32) : ∀ q, f_X11_drag T N s0 a0 x1 x2 = some q → T.1 a0 = 11 := by
  intro q h
  unfold f_X11_drag at h
  exact zz_guard h (fun h _ => h)
set_option maxHeartbeats 4000000 in
set_option maxRecDepth 100000 in
theorem c_X11_drag (l : Launch) (D : va_G) (cy : Nat → ClassId) (T : zT) (hT : zok T) (ad : Nat → Nat) (N : Nat) (s0 : zS) (sz : Nat) (a0 : Nat) (x1 : Int32) (x2 : Int32) : ∀ (r0 : Int32) (σ0 : zS), f_X11_drag T N s0 a0 x1 x2 = some (r0, σ0) → Met l yX11_drag wsX11_drag ({ frames := 5, cells := 0, slots := 0, locals := 121 }) (va_Pc [.ref (ad a0), .int x1, .int x2] (zPre D cy T ad s0 sz)) (va_Qi (fun (r2 : Int32) (σ2 : zS) => r2 = r0 ∧ σ2 = σ0) (zAt D cy T ad (zA T ad sz)) (zA T ad sz)) 0 0 (zA T ad sz) := by
  intro r0 σ0 hq
  refine Met.ofW (cc := cX11_drag) (maxL := 7) (ret := (some .int)) (by decide) rfl ?_
  intro p e s m args below meth c s₁ B hml hv
  obtain ⟨hargs, hsz, hP, hK, hD0, hN⟩ := hv
  have hx := B.exec
  have hb := B.bytes
  have hr := B.returns
  have hts := atoms_spec (ws := wsX11_drag) B.pre
  have hown : s.vm.findClass RX11 = some m.cls := findClass_of_methodNamed B.named
  have hlocks := B.notSynchronized
  have S : CallFix p m c cX11_drag 7 s args wsX11_drag RX11 := ⟨hx, hb, hml, hown, hts⟩
  subst hsz
  have hB : zB D cy T ad (zA T ad s.heap.size) s.heap s0 s.heap [] s := zz_entry hP hK hD0 hN
  obtain ⟨ls, hent, hl⟩ := zz_ent m hargs (n := 7) (Nat.le_of_ble_eq_true rfl)
  rw [hent]
  have hl : lv_has ls 7 [(0, .ref (ad a0)), (1, .int x1), (2, .int x2)] := hl
  have iwX11 : ∀ w ∈ u_ws RX11 TX11 5, w ∈ wsX11_drag := fun w h => wS (inWX11 w h)
  have iwX2 : ∀ w ∈ u_ws RX2 TX2 4, w ∈ wsX11_drag := fun w h => wS (inWX2 w h)
  have iwX7 : ∀ w ∈ u_ws RX7 TX7 3, w ∈ wsX11_drag := fun w h => wS (inWX7 w h)
  have iwX8 : ∀ w ∈ u_ws RX8 TX8 3, w ∈ wsX11_drag := fun w h => wS (inWX8 w h)
  unfold f_X11_drag at hq
  refine zz_guard hq (fun hk0 hq => ?_)
  refine lv_iload_n hx hb dX11_drag_0 rfl (lv_at hl 1 rfl) ?_
  refine zz_callSi S hT hB (As := [.int x1]) (o := f_X11_isWay T N s0 x1) (c_X11_isWay l D cy T hT ad N s0 _ x1) (va_cwS 1 hts (gS wSub wd_487 wd_488 wd_102 wd_489) rfl rfl rfl (by decide +kernel) ⟨Nat.le_of_ble_eq_true rfl, Nat.le_of_ble_eq_true rfl⟩) rfl hl.1 rfl (Nat.le_of_ble_eq_true rfl) dX11_drag_1 hq (fun x6 s5 H locs hq hB => ?_)
  refine zz_if_eq (tgt := 14) hx hb dX11_drag_4 (by decide) hq (fun hq => ?_) (fun hq => ?_)
  · refine lv_iconst (v := -1) hx hb dX11_drag_14 (by decide) ?_
    exact zz_iret S hB hr hlocks dX11_drag_15 hq
  · refine lv_iload_n hx hb dX11_drag_7 rfl (lv_at hl 2 rfl) ?_
    refine zz_callSi S hT hB (As := [.int x2]) (o := f_X11_isWay T N s5 x2) (c_X11_isWay l D cy T hT ad N s5 _ x2) (va_cwS 1 hts (gS wSub wd_487 wd_488 wd_102 wd_489) rfl rfl rfl (by decide +kernel) ⟨Nat.le_of_ble_eq_true rfl, Nat.le_of_ble_eq_true rfl⟩) rfl hl.1 rfl (Nat.le_of_ble_eq_true rfl) dX11_drag_8 hq (fun x8 s7 H locs hq hB => ?_)
    refine zz_if_ne (tgt := 16) hx hb dX11_drag_11 (by decide) hq (fun hq => ?_) (fun hq => ?_)
    · refine lv_aload_n hx hb dX11_drag_16 rfl (lv_at hl 0 rfl) ?_
      refine zz_getR S hT hB (C := RX11) (ref := "DiagramDesk") (F := TX11) (N := 5) (index := 10) 11 0 iwX11 rfl (by decide) (by decide) rfl rfl (wS wd_391) (fun _ h9 => h9) dX11_drag_17 hq (fun a9 hq => ?_)
      refine zz_getR S hT hB (C := RX2) (ref := "DiagramDesk$Diagram") (F := TX2) (N := 4) (index := 55) 2 0 iwX2 rfl (by decide) (by decide) rfl rfl (wS wd_392) (fun _ h9 => h9) dX11_drag_20 hq (fun a10 hq => ?_)
      refine zz_get S hT hB (C := RX7) (ref := "DiagramDesk$Shapes") (F := TX7) (N := 3) (index := 108) 7 2 iwX7 rfl (by decide) (by decide) rfl rfl (wS wd_419) (fun _ h9 => h9) dX11_drag_23 hq (fun x11 hq => ?_)
      refine zz_if_ne (tgt := 32) hx hb dX11_drag_26 (by decide) hq (fun hq => ?_) (fun hq => ?_)
      · refine lv_aload_n hx hb dX11_drag_32 rfl (lv_at hl 0 rfl) ?_
        refine zz_getR S hT hB (C := RX11) (ref := "DiagramDesk") (F := TX11) (N := 5) (index := 40) 11 4 iwX11 rfl (by decide) (by decide) rfl rfl (wS wd_502) (fun _ h9 => h9) dX11_drag_33 hq (fun a12 hq => ?_)
        refine lv_aload_n hx hb dX11_drag_36 rfl (lv_at hl 0 rfl) ?_
        refine zz_getR S hT hB (C := RX11) (ref := "DiagramDesk") (F := TX11) (N := 5) (index := 10) 11 0 iwX11 rfl (by decide) (by decide) rfl rfl (wS wd_391) (fun _ h9 => h9) dX11_drag_37 hq (fun a13 hq => ?_)
        refine lv_iconst (v := 0) hx hb dX11_drag_40 (by decide) ?_
        refine lv_iload_n hx hb dX11_drag_41 rfl (lv_at hl 1 rfl) ?_
        refine zz_callVv S hT hB (As := [.ref (ad a13), .int (0 : Int32), .int x1]) (b := a12) (o := f_X8_search T N s7 a12 a13 (0 : Int32) x1) (c_X8_search l D cy T hT ad N s7 _ a12 a13 (0 : Int32) x1) (cwV 3 hts (gV wSub wd_503 wd_504 wd_505 wd_267 wd_506) rfl rfl rfl (by decide +kernel) ⟨Nat.le_of_ble_eq_true rfl, Nat.le_of_ble_eq_true rfl⟩) (F := TX8) (NF := 3) 8 rfl (by decide) (k_X8_search T N s7 a12 a13 (0 : Int32) x1) rfl hl.1 rfl (Nat.le_of_ble_eq_true rfl) dX11_drag_42 hq (fun s14 H locs hq hB => ?_)
        refine lv_aload_n hx hb dX11_drag_45 rfl (lv_at hl 0 rfl) ?_
        refine zz_getR S hT hB (C := RX11) (ref := "DiagramDesk") (F := TX11) (N := 5) (index := 40) 11 4 iwX11 rfl (by decide) (by decide) rfl rfl (wS wd_502) (fun _ h9 => h9) dX11_drag_46 hq (fun a15 hq => ?_)
        refine zz_get S hT hB (C := RX8) (ref := "DiagramDesk$Snap") (F := TX8) (N := 3) (index := 224) 8 0 iwX8 rfl (by decide) (by decide) rfl rfl (wS wd_507) (fun _ h9 => h9) dX11_drag_49 hq (fun x16 hq => ?_)
        refine lv_istore_n (lv' := [(3, .int x16), (0, .ref (ad a0)), (1, .int x1), (2, .int x2)]) hx hb dX11_drag_52 rfl hl (by decide) rfl (fun ls hl => ?_)
        refine lv_iload_n hx hb dX11_drag_53 rfl (lv_at hl 2 rfl) ?_
        refine lv_aload_n hx hb dX11_drag_54 rfl (lv_at hl 1 rfl) ?_
        refine zz_getR S hT hB (C := RX11) (ref := "DiagramDesk") (F := TX11) (N := 5) (index := 40) 11 4 iwX11 rfl (by decide) (by decide) rfl rfl (wS wd_502) (fun _ h9 => h9) dX11_drag_55 hq (fun a17 hq => ?_)
        refine zz_get S hT hB (C := RX8) (ref := "DiagramDesk$Snap") (F := TX8) (N := 3) (index := 227) 8 1 iwX8 rfl (by decide) (by decide) rfl rfl (wS wd_508) (fun _ h9 => h9) dX11_drag_58 hq (fun x18 hq => ?_)
        refine lv_iadd hx hb dX11_drag_61 ?_
        refine zz_nmI hq (fun x19 hq => ?_)
        refine lv_istore (lv' := [(4, .int x19), (3, .int x16), (0, .ref (ad a0)), (1, .int x1), (2, .int x2)]) hx hb dX11_drag_62 hl (by decide) rfl (fun ls hl => ?_)
        refine lv_aload_n hx hb dX11_drag_64 rfl (lv_at hl 2 rfl) ?_
        refine zz_getR S hT hB (C := RX11) (ref := "DiagramDesk") (F := TX11) (N := 5) (index := 40) 11 4 iwX11 rfl (by decide) (by decide) rfl rfl (wS wd_502) (fun _ h9 => h9) dX11_drag_65 hq (fun a20 hq => ?_)
        refine lv_aload_n hx hb dX11_drag_68 rfl (lv_at hl 2 rfl) ?_
        refine zz_getR S hT hB (C := RX11) (ref := "DiagramDesk") (F := TX11) (N := 5) (index := 10) 11 0 iwX11 rfl (by decide) (by decide) rfl rfl (wS wd_391) (fun _ h9 => h9) dX11_drag_69 hq (fun a21 hq => ?_)
        refine lv_iconst (v := 1) hx hb dX11_drag_72 (by decide) ?_
        refine lv_iload_n hx hb dX11_drag_73 rfl (lv_at hl 4 rfl) ?_
        refine zz_callVv S hT hB (As := [.ref (ad a21), .int (1 : Int32), .int x2]) (b := a20) (o := f_X8_search T N s14 a20 a21 (1 : Int32) x2) (c_X8_search l D cy T hT ad N s14 _ a20 a21 (1 : Int32) x2) (cwV 3 hts (gV wSub wd_503 wd_504 wd_505 wd_267 wd_506) rfl rfl rfl (by decide +kernel) ⟨Nat.le_of_ble_eq_true rfl, Nat.le_of_ble_eq_true rfl⟩) (F := TX8) (NF := 3) 8 rfl (by decide) (k_X8_search T N s14 a20 a21 (1 : Int32) x2) rfl hl.1 rfl (Nat.le_of_ble_eq_true rfl) dX11_drag_74 hq (fun s22 H locs hq hB => ?_)
        refine lv_aload_n hx hb dX11_drag_77 rfl (lv_at hl 2 rfl) ?_
        refine zz_getR S hT hB (C := RX11) (ref := "DiagramDesk") (F := TX11) (N := 5) (index := 40) 11 4 iwX11 rfl (by decide) (by decide) rfl rfl (wS wd_502) (fun _ h9 => h9) dX11_drag_78 hq (fun a23 hq => ?_)
        refine zz_get S hT hB (C := RX8) (ref := "DiagramDesk$Snap") (F := TX8) (N := 3) (index := 224) 8 0 iwX8 rfl (by decide) (by decide) rfl rfl (wS wd_507) (fun _ h9 => h9) dX11_drag_81 hq (fun x24 hq => ?_)
        refine lv_istore (lv' := [(5, .int x24), (4, .int x19), (3, .int x16), (0, .ref (ad a0)), (1, .int x1), (2, .int x2)]) hx hb dX11_drag_84 hl (by decide) rfl (fun ls hl => ?_)
        refine lv_iload_n hx hb dX11_drag_86 rfl (lv_at hl 5 rfl) ?_
        refine lv_aload_n hx hb dX11_drag_87 rfl (lv_at hl 3 rfl) ?_
        refine zz_getR S hT hB (C := RX11) (ref := "DiagramDesk") (F := TX11) (N := 5) (index := 40) 11 4 iwX11 rfl (by decide) (by decide) rfl rfl (wS wd_502) (fun _ h9 => h9) dX11_drag_88 hq (fun a25 hq => ?_)
        refine zz_get S hT hB (C := RX8) (ref := "DiagramDesk$Snap") (F := TX8) (N := 3) (index := 227) 8 1 iwX8 rfl (by decide) (by decide) rfl rfl (wS wd_508) (fun _ h9 => h9) dX11_drag_91 hq (fun x26 hq => ?_)
        refine lv_iadd hx hb dX11_drag_94 ?_
        refine zz_nmI hq (fun x27 hq => ?_)
        refine lv_istore (lv' := [(6, .int x27), (5, .int x24), (4, .int x19), (3, .int x16), (0, .ref (ad a0)), (1, .int x1), (2, .int x2)]) hx hb dX11_drag_95 hl (by decide) rfl (fun ls hl => ?_)
        refine lv_aload_n hx hb dX11_drag_97 rfl (lv_at hl 4 rfl) ?_
        refine lv_iload hx hb dX11_drag_98 (lv_at hl 2 rfl) ?_
        refine lv_iload hx hb dX11_drag_100 (lv_at hl 0 rfl) ?_
        refine zz_callVi S hT hB (As := [.int x19, .int x27]) (b := a0) (o := f_X11_canShiftChosen T N s22 a0 x19 x27) (c_X11_canShiftChosen l D cy T hT ad N s22 _ a0 x19 x27) (cwV 2 hts (gV wSub wd_490 wd_491 wd_492 wd_102 wd_493) rfl rfl rfl (by decide +kernel) ⟨Nat.le_of_ble_eq_true rfl, Nat.le_of_ble_eq_true rfl⟩) (F := TX11) (NF := 5) 11 rfl (by decide) (k_X11_canShiftChosen T N s22 a0 x19 x27) rfl hl.1 rfl (Nat.le_of_ble_eq_true rfl) dX11_drag_102 hq (fun x29 s28 H locs hq hB => ?_)
        refine zz_if_ne (tgt := 111) hx hb dX11_drag_105 (by decide) hq (fun hq => ?_) (fun hq => ?_)
        · refine lv_aload_n hx hb dX11_drag_111 rfl (lv_at hl 4 rfl) ?_
          refine zz_getR S hT hB (C := RX11) (ref := "DiagramDesk") (F := TX11) (N := 5) (index := 19) 11 1 iwX11 rfl (by decide) (by decide) rfl rfl (wS wd_394) (fun _ h9 => h9) dX11_drag_112 hq (fun a30 hq => ?_)
          refine lv_aload_n hx hb dX11_drag_115 rfl (lv_at hl 4 rfl) ?_
          refine zz_getR S hT hB (C := RX11) (ref := "DiagramDesk") (F := TX11) (N := 5) (index := 10) 11 0 iwX11 rfl (by decide) (by decide) rfl rfl (wS wd_391) (fun _ h9 => h9) dX11_drag_116 hq (fun a31 hq => ?_)
          refine zz_callVv S hT hB (As := [.ref (ad a31)]) (b := a30) (o := f_X5_keep T N s28 a30 a31) (c_X5_keep l D cy T hT ad N s28 _ a30 a31) (cwV 1 hts (gV wSub wd_395 wd_396 wd_397 wd_215 wd_398) rfl rfl rfl (by decide +kernel) ⟨Nat.le_of_ble_eq_true rfl, Nat.le_of_ble_eq_true rfl⟩) (F := TX5) (NF := 2) 5 rfl (by decide) (k_X5_keep T N s28 a30 a31) rfl hl.1 rfl (Nat.le_of_ble_eq_true rfl) dX11_drag_119 hq (fun s32 H locs hq hB => ?_)
          refine lv_aload_n hx hb dX11_drag_122 rfl (lv_at hl 4 rfl) ?_
          refine lv_iload hx hb dX11_drag_123 (lv_at hl 2 rfl) ?_
          refine lv_iload hx hb dX11_drag_125 (lv_at hl 0 rfl) ?_
          refine zz_callVv S hT hB (As := [.int x19, .int x27]) (b := a0) (o := f_X11_shiftChosen T N s32 a0 x19 x27) (c_X11_shiftChosen l D cy T hT ad N s32 _ a0 x19 x27) (cwV 2 hts (gV wSub wd_494 wd_495 wd_496 wd_102 wd_497) rfl rfl rfl (by decide +kernel) ⟨Nat.le_of_ble_eq_true rfl, Nat.le_of_ble_eq_true rfl⟩) (F := TX11) (NF := 5) 11 rfl (by decide) (k_X11_shiftChosen T N s32 a0 x19 x27) rfl hl.1 rfl (Nat.le_of_ble_eq_true rfl) dX11_drag_127 hq (fun s33 H locs hq hB => ?_)
          refine lv_iload_n hx hb dX11_drag_130 rfl (lv_at hl 3 rfl) ?_
          refine lv_bipush (v := 10) hx hb dX11_drag_131 (by decide) ?_
          refine lv_iload hx hb dX11_drag_133 (lv_at hl 1 rfl) ?_
          refine lv_imul hx hb dX11_drag_135 ?_
          refine lv_iadd hx hb dX11_drag_136 ?_
          exact zz_iret S hB hr hlocks dX11_drag_137 hq
        · refine lv_bipush (v := -4) hx hb dX11_drag_108 (by decide) ?_
          exact zz_iret S hB hr hlocks dX11_drag_110 hq
      · refine lv_bipush (v := -2) hx hb dX11_drag_29 (by decide) ?_
        exact zz_iret S hB hr hlocks dX11_drag_31 hq
    · refine lv_iconst (v := -1) hx hb dX11_drag_14 (by decide) ?_
      exact zz_iret S hB hr hlocks dX11_drag_15 hq
def f_X11_correction_J55 (T : zT) (N : Nat) (a0 : Nat) (x3 : Int32) (s10 : zS) (a15 : Nat) (a16 : Nat) (x17 : Int32) : Option (Int32 × zS) :=
  (f_X8_search T N s10 a15 a16 x3 x17).bind fun s18 =>
  (gR T s18 a0 11 4).bind fun a19 =>
  (gI T s18 a19 8 1).bind fun x20 =>
  some (x20, s18)
def f_X11_correction (T : zT) (N : Nat) (s0 : zS) (a0 : Nat) (x1 : Int32) (x2 : Int32) (x3 : Int32) : Option (Int32 × zS) :=
  zz1 (T.1 a0 = 11) <|
  zb2 (f_X11_isWay T N s0 x1) fun x7 s6 =>
  if x7 = 0 then (
    some ((-1000000 : Int32), s6))
  else (
    zb2 (f_X11_isWay T N s6 x2) fun x9 s8 =>
    if x9 = 0 then (
      some ((-1000000 : Int32), s8))
    else (
      zb2 (f_X11_isAxis T N s8 x3) fun x11 s10 =>
      if x11 = 0 then (
        some ((-1000000 : Int32), s10))
      else (
        (gR T s10 a0 11 0).bind fun a12 =>
        (gR T s10 a12 2 0).bind fun a13 =>
        (gI T s10 a13 7 2).bind fun x14 =>
        if ¬ x14 = 0 then (
          (gR T s10 a0 11 4).bind fun a15 =>
          (gR T s10 a0 11 0).bind fun a16 =>
          if ¬ x3 = 0 then (
            f_X11_correction_J55 T N a0 x3 s10 a15 a16 x2)
          else (
            f_X11_correction_J55 T N a0 x3 s10 a15 a16 x1))
        else (
          some ((-1000000 : Int32), s10)))))
theorem k_X11_correction (T : zT) (N : Nat) (s0 : zS) (a0 : Nat) (x1 : Int32) (x2 : Int32) (x3 : Int32) : ∀ q, f_X11_correction T N s0 a0 x1 x2 x3 = some q → T.1 a0 = 11 := by
  intro q h
  unfold f_X11_correction at h
  exact zz_guard h (fun h _ => h)
set_option maxHeartbeats 4000000 in
set_option maxRecDepth 100000 in
theorem c_X11_correction (l : Launch) (D : va_G) (cy : Nat → ClassId) (T : zT) (hT : zok T) (ad : Nat → Nat) (N : Nat) (s0 : zS) (sz : Nat) (a0 : Nat) (x1 : Int32) (x2 : Int32) (x3 : Int32) : ∀ (r0 : Int32) (σ0 : zS), f_X11_correction T N s0 a0 x1 x2 x3 = some (r0, σ0) → Met l yX11_correction wsX11_correction ({ frames := 5, cells := 0, slots := 0, locals := 121 }) (va_Pc [.ref (ad a0), .int x1, .int x2, .int x3] (zPre D cy T ad s0 sz)) (va_Qi (fun (r2 : Int32) (σ2 : zS) => r2 = r0 ∧ σ2 = σ0) (zAt D cy T ad (zA T ad sz)) (zA T ad sz)) 0 0 (zA T ad sz) := by
  intro r0 σ0 hq
  refine Met.ofW (cc := cX11_correction) (maxL := 4) (ret := (some .int)) (by decide) rfl ?_
  intro p e s m args below meth c s₁ B hml hv
  obtain ⟨hargs, hsz, hP, hK, hD0, hN⟩ := hv
  have hx := B.exec
  have hb := B.bytes
  have hr := B.returns
  have hts := atoms_spec (ws := wsX11_correction) B.pre
  have hown : s.vm.findClass RX11 = some m.cls := findClass_of_methodNamed B.named
  have hlocks := B.notSynchronized
  have S : CallFix p m c cX11_correction 4 s args wsX11_correction RX11 := ⟨hx, hb, hml, hown, hts⟩
  subst hsz
  have hB : zB D cy T ad (zA T ad s.heap.size) s.heap s0 s.heap [] s := zz_entry hP hK hD0 hN
  obtain ⟨ls, hent, hl⟩ := zz_ent m hargs (n := 4) (Nat.le_of_ble_eq_true rfl)
  rw [hent]
  have hl : lv_has ls 4 [(0, .ref (ad a0)), (1, .int x1), (2, .int x2), (3, .int x3)] := hl
  have iwX11 : ∀ w ∈ u_ws RX11 TX11 5, w ∈ wsX11_correction := fun w h => wS (inWX11 w h)
  have iwX2 : ∀ w ∈ u_ws RX2 TX2 4, w ∈ wsX11_correction := fun w h => wS (inWX2 w h)
  have iwX7 : ∀ w ∈ u_ws RX7 TX7 3, w ∈ wsX11_correction := fun w h => wS (inWX7 w h)
  have iwX8 : ∀ w ∈ u_ws RX8 TX8 3, w ∈ wsX11_correction := fun w h => wS (inWX8 w h)
  unfold f_X11_correction at hq
  refine zz_guard hq (fun hk0 hq => ?_)
  refine lv_iload_n hx hb dX11_correction_0 rfl (lv_at hl 1 rfl) ?_
  refine zz_callSi S hT hB (As := [.int x1]) (o := f_X11_isWay T N s0 x1) (c_X11_isWay l D cy T hT ad N s0 _ x1) (va_cwS 1 hts (gS wSub wd_487 wd_488 wd_102 wd_489) rfl rfl rfl (by decide +kernel) ⟨Nat.le_of_ble_eq_true rfl, Nat.le_of_ble_eq_true rfl⟩) rfl hl.1 rfl (Nat.le_of_ble_eq_true rfl) dX11_correction_1 hq (fun x7 s6 H locs hq hB => ?_)
  refine zz_if_eq (tgt := 34) hx hb dX11_correction_4 (by decide) hq (fun hq => ?_) (fun hq => ?_)
  · refine lv_ldc (v := -1000000) hx hb hown (hts _ (wS wd_415)) dX11_correction_34 ?_
    exact zz_iret S hB hr hlocks dX11_correction_36 hq
  · refine lv_iload_n hx hb dX11_correction_7 rfl (lv_at hl 2 rfl) ?_
    refine zz_callSi S hT hB (As := [.int x2]) (o := f_X11_isWay T N s6 x2) (c_X11_isWay l D cy T hT ad N s6 _ x2) (va_cwS 1 hts (gS wSub wd_487 wd_488 wd_102 wd_489) rfl rfl rfl (by decide +kernel) ⟨Nat.le_of_ble_eq_true rfl, Nat.le_of_ble_eq_true rfl⟩) rfl hl.1 rfl (Nat.le_of_ble_eq_true rfl) dX11_correction_8 hq (fun x9 s8 H locs hq hB => ?_)
    refine zz_if_eq (tgt := 34) hx hb dX11_correction_11 (by decide) hq (fun hq => ?_) (fun hq => ?_)
    · refine lv_ldc (v := -1000000) hx hb hown (hts _ (wS wd_415)) dX11_correction_34 ?_
      exact zz_iret S hB hr hlocks dX11_correction_36 hq
    · refine lv_iload_n hx hb dX11_correction_14 rfl (lv_at hl 3 rfl) ?_
      refine zz_callSi S hT hB (As := [.int x3]) (o := f_X11_isAxis T N s8 x3) (c_X11_isAxis l D cy T hT ad N s8 _ x3) (va_cwS 1 hts (gS wSub wd_428 wd_429 wd_102 wd_430) rfl rfl rfl (by decide +kernel) ⟨Nat.le_of_ble_eq_true rfl, Nat.le_of_ble_eq_true rfl⟩) rfl hl.1 rfl (Nat.le_of_ble_eq_true rfl) dX11_correction_15 hq (fun x11 s10 H locs hq hB => ?_)
      refine zz_if_eq (tgt := 34) hx hb dX11_correction_18 (by decide) hq (fun hq => ?_) (fun hq => ?_)
      · refine lv_ldc (v := -1000000) hx hb hown (hts _ (wS wd_415)) dX11_correction_34 ?_
        exact zz_iret S hB hr hlocks dX11_correction_36 hq
      · refine lv_aload_n hx hb dX11_correction_21 rfl (lv_at hl 0 rfl) ?_
        refine zz_getR S hT hB (C := RX11) (ref := "DiagramDesk") (F := TX11) (N := 5) (index := 10) 11 0 iwX11 rfl (by decide) (by decide) rfl rfl (wS wd_391) (fun _ h9 => h9) dX11_correction_22 hq (fun a12 hq => ?_)
        refine zz_getR S hT hB (C := RX2) (ref := "DiagramDesk$Diagram") (F := TX2) (N := 4) (index := 55) 2 0 iwX2 rfl (by decide) (by decide) rfl rfl (wS wd_392) (fun _ h9 => h9) dX11_correction_25 hq (fun a13 hq => ?_)
        refine zz_get S hT hB (C := RX7) (ref := "DiagramDesk$Shapes") (F := TX7) (N := 3) (index := 108) 7 2 iwX7 rfl (by decide) (by decide) rfl rfl (wS wd_419) (fun _ h9 => h9) dX11_correction_28 hq (fun x14 hq => ?_)
        refine zz_if_ne (tgt := 37) hx hb dX11_correction_31 (by decide) hq (fun hq => ?_) (fun hq => ?_)
        · refine lv_aload_n hx hb dX11_correction_37 rfl (lv_at hl 0 rfl) ?_
          refine zz_getR S hT hB (C := RX11) (ref := "DiagramDesk") (F := TX11) (N := 5) (index := 40) 11 4 iwX11 rfl (by decide) (by decide) rfl rfl (wS wd_502) (fun _ h9 => h9) dX11_correction_38 hq (fun a15 hq => ?_)
          refine lv_aload_n hx hb dX11_correction_41 rfl (lv_at hl 0 rfl) ?_
          refine zz_getR S hT hB (C := RX11) (ref := "DiagramDesk") (F := TX11) (N := 5) (index := 10) 11 0 iwX11 rfl (by decide) (by decide) rfl rfl (wS wd_391) (fun _ h9 => h9) dX11_correction_42 hq (fun a16 hq => ?_)
          refine lv_iload_n hx hb dX11_correction_45 rfl (lv_at hl 3 rfl) ?_
          refine lv_iload_n hx hb dX11_correction_46 rfl (lv_at hl 3 rfl) ?_
          have J55 : ∀ (x17 : Int32) (H : Heap) (locs : List Loc) (ls : Array Slot), f_X11_correction_J55 T N a0 x3 s10 a15 a16 x17 = some (r0, σ0) → zB D cy T ad (zA T ad s.heap.size) s.heap s10 H locs s → lv_has ls 4 [(0, .ref (ad a0))] → W p l e (headSpec wsX11_correction ({ frames := 5, cells := 0, slots := 0, locals := 121 } : Room)).room s m args below meth c H locs 0 0 (MQ below (va_Qi (fun (r2 : Int32) (σ2 : zS) => r2 = r0 ∧ σ2 = σ0) (zAt D cy T ad (zA T ad s.heap.size)) (zA T ad s.heap.size)) args s 0 0 (zA T ad s.heap.size)) (F0 m 55 ls [.int x17, .int x3, .ref (ad a16), .ref (ad a15)]) := by
            intro x17 H locs ls hq hB hl
            unfold f_X11_correction_J55 at hq
            refine zz_callVv S hT hB (As := [.ref (ad a16), .int x3, .int x17]) (b := a15) (o := f_X8_search T N s10 a15 a16 x3 x17) (c_X8_search l D cy T hT ad N s10 _ a15 a16 x3 x17) (cwV 3 hts (gV wSub wd_503 wd_504 wd_505 wd_267 wd_506) rfl rfl rfl (by decide +kernel) ⟨Nat.le_of_ble_eq_true rfl, Nat.le_of_ble_eq_true rfl⟩) (F := TX8) (NF := 3) 8 rfl (by decide) (k_X8_search T N s10 a15 a16 x3 x17) rfl hl.1 rfl (Nat.le_of_ble_eq_true rfl) dX11_correction_55 hq (fun s18 H locs hq hB => ?_)
            refine lv_aload_n hx hb dX11_correction_58 rfl (lv_at hl 0 rfl) ?_
            refine zz_getR S hT hB (C := RX11) (ref := "DiagramDesk") (F := TX11) (N := 5) (index := 40) 11 4 iwX11 rfl (by decide) (by decide) rfl rfl (wS wd_502) (fun _ h9 => h9) dX11_correction_59 hq (fun a19 hq => ?_)
            refine zz_get S hT hB (C := RX8) (ref := "DiagramDesk$Snap") (F := TX8) (N := 3) (index := 227) 8 1 iwX8 rfl (by decide) (by decide) rfl rfl (wS wd_508) (fun _ h9 => h9) dX11_correction_62 hq (fun x20 hq => ?_)
            exact zz_iret S hB hr hlocks dX11_correction_65 hq
          refine zz_if_ne (tgt := 54) hx hb dX11_correction_47 (by decide) hq (fun hq => ?_) (fun hq => ?_)
          · refine lv_iload_n hx hb dX11_correction_54 rfl (lv_at hl 2 rfl) ?_
            exact J55 x2 _ _ _ hq hB (lv_sub hl [0] rfl)
          · refine lv_iload_n hx hb dX11_correction_50 rfl (lv_at hl 1 rfl) ?_
            refine lv_goto (tgt := 55) hx hb dX11_correction_51 (by decide) ?_
            exact J55 x1 _ _ _ hq hB (lv_sub hl [0] rfl)
        · refine lv_ldc (v := -1000000) hx hb hown (hts _ (wS wd_415)) dX11_correction_34 ?_
          exact zz_iret S hB hr hlocks dX11_correction_36 hq
def f_X11_align_J70 (T : zT) (N : Nat) (a0 : Nat) (s8 : zS) (x11 : Int32) (a12 : Nat) (a14 : Nat) (x15 : Int32) : Option (Int32 × zS) :=
  (f_X10_planAlignment T N s8 a12 a14 x11 x15).bind fun s16 =>
  (gR T s16 a0 11 3).bind fun a17 =>
  (gR T s16 a0 11 0).bind fun a18 =>
  (gR T s16 a18 2 0).bind fun a19 =>
  zb2 (f_X10_canShift T N s16 a17 a19 x11) fun x21 s20 =>
  if ¬ x21 = 0 then (
    (gR T s20 a0 11 1).bind fun a22 =>
    (gR T s20 a0 11 0).bind fun a23 =>
    (f_X5_keep T N s20 a22 a23).bind fun s24 =>
    (gR T s24 a0 11 3).bind fun a25 =>
    (gR T s24 a0 11 0).bind fun a26 =>
    (gR T s24 a26 2 0).bind fun a27 =>
    zb2 (f_X10_shift T N s24 a25 a27 x11) fun x29 s28 =>
    some (x29, s28))
  else (
    some ((-4 : Int32), s20))
def f_X11_align_J46 (T : zT) (N : Nat) (a0 : Nat) (x1 : Int32) (s8 : zS) (x11 : Int32) : Option (Int32 × zS) :=
  (gR T s8 a0 11 3).bind fun a12 =>
  (gR T s8 a0 11 0).bind fun a13 =>
  (gR T s8 a13 2 0).bind fun a14 =>
  if ¬ x11 = 0 then (
    f_X11_align_J70 T N a0 s8 x11 a12 a14 (x1 - (3 : Int32)))
  else (
    f_X11_align_J70 T N a0 s8 x11 a12 a14 x1)
def f_X11_align (T : zT) (N : Nat) (s0 : zS) (a0 : Nat) (x1 : Int32) : Option (Int32 × zS) :=
  zz1 (T.1 a0 = 11) <|
  zb2 (f_X11_isWithin T N s0 x1 (0 : Int32) (5 : Int32)) fun x5 s4 =>
  if ¬ x5 = 0 then (
    (gR T s4 a0 11 3).bind fun a6 =>
    (gR T s4 a0 11 0).bind fun a7 =>
    (f_X10_gather T N s4 a6 a7).bind fun s8 =>
    (gR T s8 a0 11 3).bind fun a9 =>
    (gI T s8 a9 10 2).bind fun x10 =>
    if (2 : Int32) ≤ x10 then (
      if (3 : Int32) ≤ x1 then (
        f_X11_align_J46 T N a0 x1 s8 (1 : Int32))
      else (
        f_X11_align_J46 T N a0 x1 s8 (0 : Int32)))
    else (
      some ((-2 : Int32), s8)))
  else (
    some ((-1 : Int32), s4))
theorem k_X11_align (T : zT) (N : Nat) (s0 : zS) (a0 : Nat) (x1 : Int32) : ∀ q, f_X11_align T N s0 a0 x1 = some q → T.1 a0 = 11 := by
  intro q h
  unfold f_X11_align at h
  exact zz_guard h (fun h _ => h)
set_option maxHeartbeats 4000000 in
set_option maxRecDepth 100000 in
theorem c_X11_align (l : Launch) (D : va_G) (cy : Nat → ClassId) (T : zT) (hT : zok T) (ad : Nat → Nat) (N : Nat) (s0 : zS) (sz : Nat) (a0 : Nat) (x1 : Int32) : ∀ (r0 : Int32) (σ0 : zS), f_X11_align T N s0 a0 x1 = some (r0, σ0) → Met l yX11_align wsX11_align ({ frames := 6, cells := 0, slots := 0, locals := 138 }) (va_Pc [.ref (ad a0), .int x1] (zPre D cy T ad s0 sz)) (va_Qi (fun (r2 : Int32) (σ2 : zS) => r2 = r0 ∧ σ2 = σ0) (zAt D cy T ad (zA T ad sz)) (zA T ad sz)) 0 0 (zA T ad sz) := by
  intro r0 σ0 hq
  refine Met.ofW (cc := cX11_align) (maxL := 3) (ret := (some .int)) (by decide) rfl ?_
  intro p e s m args below meth c s₁ B hml hv
  obtain ⟨hargs, hsz, hP, hK, hD0, hN⟩ := hv
  have hx := B.exec
  have hb := B.bytes
  have hr := B.returns
  have hts := atoms_spec (ws := wsX11_align) B.pre
  have hown : s.vm.findClass RX11 = some m.cls := findClass_of_methodNamed B.named
  have hlocks := B.notSynchronized
  have S : CallFix p m c cX11_align 3 s args wsX11_align RX11 := ⟨hx, hb, hml, hown, hts⟩
  subst hsz
  have hB : zB D cy T ad (zA T ad s.heap.size) s.heap s0 s.heap [] s := zz_entry hP hK hD0 hN
  obtain ⟨ls, hent, hl⟩ := zz_ent m hargs (n := 3) (Nat.le_of_ble_eq_true rfl)
  rw [hent]
  have hl : lv_has ls 3 [(0, .ref (ad a0)), (1, .int x1)] := hl
  have iwX11 : ∀ w ∈ u_ws RX11 TX11 5, w ∈ wsX11_align := fun w h => wS (inWX11 w h)
  have iwX10 : ∀ w ∈ u_ws RX10 TX10 3, w ∈ wsX11_align := fun w h => wS (inWX10 w h)
  have iwX2 : ∀ w ∈ u_ws RX2 TX2 4, w ∈ wsX11_align := fun w h => wS (inWX2 w h)
  unfold f_X11_align at hq
  refine zz_guard hq (fun hk0 hq => ?_)
  refine lv_iload_n hx hb dX11_align_0 rfl (lv_at hl 1 rfl) ?_
  refine lv_iconst (v := 0) hx hb dX11_align_1 (by decide) ?_
  refine lv_iconst (v := 5) hx hb dX11_align_2 (by decide) ?_
  refine zz_callSi S hT hB (As := [.int x1, .int (0 : Int32), .int (5 : Int32)]) (o := f_X11_isWithin T N s0 x1 (0 : Int32) (5 : Int32)) (c_X11_isWithin l D cy T hT ad N s0 _ x1 (0 : Int32) (5 : Int32)) (va_cwS 3 hts (gS wSub wd_253 wd_222 wd_102 wd_221) rfl rfl rfl (by decide +kernel) ⟨Nat.le_of_ble_eq_true rfl, Nat.le_of_ble_eq_true rfl⟩) rfl hl.1 rfl (Nat.le_of_ble_eq_true rfl) dX11_align_3 hq (fun x5 s4 H locs hq hB => ?_)
  refine zz_if_ne (tgt := 11) hx hb dX11_align_6 (by decide) hq (fun hq => ?_) (fun hq => ?_)
  · refine lv_aload_n hx hb dX11_align_11 rfl (lv_at hl 0 rfl) ?_
    refine zz_getR S hT hB (C := RX11) (ref := "DiagramDesk") (F := TX11) (N := 5) (index := 33) 11 3 iwX11 rfl (by decide) (by decide) rfl rfl (wS wd_465) (fun _ h9 => h9) dX11_align_12 hq (fun a6 hq => ?_)
    refine lv_aload_n hx hb dX11_align_15 rfl (lv_at hl 0 rfl) ?_
    refine zz_getR S hT hB (C := RX11) (ref := "DiagramDesk") (F := TX11) (N := 5) (index := 10) 11 0 iwX11 rfl (by decide) (by decide) rfl rfl (wS wd_391) (fun _ h9 => h9) dX11_align_16 hq (fun a7 hq => ?_)
    refine zz_callVv S hT hB (As := [.ref (ad a7)]) (b := a6) (o := f_X10_gather T N s4 a6 a7) (c_X10_gather l D cy T hT ad N s4 _ a6 a7) (cwV 1 hts (gV wSub wd_466 wd_467 wd_468 wd_353 wd_469) rfl rfl rfl (by decide +kernel) ⟨Nat.le_of_ble_eq_true rfl, Nat.le_of_ble_eq_true rfl⟩) (F := TX10) (NF := 3) 10 rfl (by decide) (k_X10_gather T N s4 a6 a7) rfl hl.1 rfl (Nat.le_of_ble_eq_true rfl) dX11_align_19 hq (fun s8 H locs hq hB => ?_)
    refine lv_aload_n hx hb dX11_align_22 rfl (lv_at hl 0 rfl) ?_
    refine zz_getR S hT hB (C := RX11) (ref := "DiagramDesk") (F := TX11) (N := 5) (index := 33) 11 3 iwX11 rfl (by decide) (by decide) rfl rfl (wS wd_465) (fun _ h9 => h9) dX11_align_23 hq (fun a9 hq => ?_)
    refine zz_get S hT hB (C := RX10) (ref := "DiagramDesk$Units") (F := TX10) (N := 3) (index := 191) 10 2 iwX10 rfl (by decide) (by decide) rfl rfl (wS wd_470) (fun _ h9 => h9) dX11_align_26 hq (fun x10 hq => ?_)
    refine lv_iconst (v := 2) hx hb dX11_align_29 (by decide) ?_
    refine zz_icmp_ge (tgt := 36) hx hb dX11_align_30 (by decide) hq (fun hq => ?_) (fun hq => ?_)
    · refine lv_iload_n hx hb dX11_align_36 rfl (lv_at hl 1 rfl) ?_
      refine lv_iconst (v := 3) hx hb dX11_align_37 (by decide) ?_
      have J46 : ∀ (x11 : Int32) (H : Heap) (locs : List Loc) (ls : Array Slot), f_X11_align_J46 T N a0 x1 s8 x11 = some (r0, σ0) → zB D cy T ad (zA T ad s.heap.size) s.heap s8 H locs s → lv_has ls 3 [(0, .ref (ad a0)), (1, .int x1)] → W p l e (headSpec wsX11_align ({ frames := 6, cells := 0, slots := 0, locals := 138 } : Room)).room s m args below meth c H locs 0 0 (MQ below (va_Qi (fun (r2 : Int32) (σ2 : zS) => r2 = r0 ∧ σ2 = σ0) (zAt D cy T ad (zA T ad s.heap.size)) (zA T ad s.heap.size)) args s 0 0 (zA T ad s.heap.size)) (F0 m 46 ls [.int x11]) := by
        intro x11 H locs ls hq hB hl
        unfold f_X11_align_J46 at hq
        refine lv_istore_n (lv' := [(2, .int x11), (0, .ref (ad a0)), (1, .int x1)]) hx hb dX11_align_46 rfl hl (by decide) rfl (fun ls hl => ?_)
        refine lv_aload_n hx hb dX11_align_47 rfl (lv_at hl 1 rfl) ?_
        refine zz_getR S hT hB (C := RX11) (ref := "DiagramDesk") (F := TX11) (N := 5) (index := 33) 11 3 iwX11 rfl (by decide) (by decide) rfl rfl (wS wd_465) (fun _ h9 => h9) dX11_align_48 hq (fun a12 hq => ?_)
        refine lv_aload_n hx hb dX11_align_51 rfl (lv_at hl 1 rfl) ?_
        refine zz_getR S hT hB (C := RX11) (ref := "DiagramDesk") (F := TX11) (N := 5) (index := 10) 11 0 iwX11 rfl (by decide) (by decide) rfl rfl (wS wd_391) (fun _ h9 => h9) dX11_align_52 hq (fun a13 hq => ?_)
        refine zz_getR S hT hB (C := RX2) (ref := "DiagramDesk$Diagram") (F := TX2) (N := 4) (index := 55) 2 0 iwX2 rfl (by decide) (by decide) rfl rfl (wS wd_392) (fun _ h9 => h9) dX11_align_55 hq (fun a14 hq => ?_)
        refine lv_iload_n hx hb dX11_align_58 rfl (lv_at hl 0 rfl) ?_
        refine lv_iload_n hx hb dX11_align_59 rfl (lv_at hl 0 rfl) ?_
        have J70 : ∀ (x15 : Int32) (H : Heap) (locs : List Loc) (ls : Array Slot), f_X11_align_J70 T N a0 s8 x11 a12 a14 x15 = some (r0, σ0) → zB D cy T ad (zA T ad s.heap.size) s.heap s8 H locs s → lv_has ls 3 [(0, .ref (ad a0)), (2, .int x11)] → W p l e (headSpec wsX11_align ({ frames := 6, cells := 0, slots := 0, locals := 138 } : Room)).room s m args below meth c H locs 0 0 (MQ below (va_Qi (fun (r2 : Int32) (σ2 : zS) => r2 = r0 ∧ σ2 = σ0) (zAt D cy T ad (zA T ad s.heap.size)) (zA T ad s.heap.size)) args s 0 0 (zA T ad s.heap.size)) (F0 m 70 ls [.int x15, .int x11, .ref (ad a14), .ref (ad a12)]) := by
          intro x15 H locs ls hq hB hl
          unfold f_X11_align_J70 at hq
          refine zz_callVv S hT hB (As := [.ref (ad a14), .int x11, .int x15]) (b := a12) (o := f_X10_planAlignment T N s8 a12 a14 x11 x15) (c_X10_planAlignment l D cy T hT ad N s8 _ a12 a14 x11 x15) (cwV 3 hts (gV wSub wd_509 wd_510 wd_511 wd_353 wd_512) rfl rfl rfl (by decide +kernel) ⟨Nat.le_of_ble_eq_true rfl, Nat.le_of_ble_eq_true rfl⟩) (F := TX10) (NF := 3) 10 rfl (by decide) (k_X10_planAlignment T N s8 a12 a14 x11 x15) rfl hl.1 rfl (Nat.le_of_ble_eq_true rfl) dX11_align_70 hq (fun s16 H locs hq hB => ?_)
          refine lv_aload_n hx hb dX11_align_73 rfl (lv_at hl 0 rfl) ?_
          refine zz_getR S hT hB (C := RX11) (ref := "DiagramDesk") (F := TX11) (N := 5) (index := 33) 11 3 iwX11 rfl (by decide) (by decide) rfl rfl (wS wd_465) (fun _ h9 => h9) dX11_align_74 hq (fun a17 hq => ?_)
          refine lv_aload_n hx hb dX11_align_77 rfl (lv_at hl 0 rfl) ?_
          refine zz_getR S hT hB (C := RX11) (ref := "DiagramDesk") (F := TX11) (N := 5) (index := 10) 11 0 iwX11 rfl (by decide) (by decide) rfl rfl (wS wd_391) (fun _ h9 => h9) dX11_align_78 hq (fun a18 hq => ?_)
          refine zz_getR S hT hB (C := RX2) (ref := "DiagramDesk$Diagram") (F := TX2) (N := 4) (index := 55) 2 0 iwX2 rfl (by decide) (by decide) rfl rfl (wS wd_392) (fun _ h9 => h9) dX11_align_81 hq (fun a19 hq => ?_)
          refine lv_iload_n hx hb dX11_align_84 rfl (lv_at hl 1 rfl) ?_
          refine zz_callVi S hT hB (As := [.ref (ad a19), .int x11]) (b := a17) (o := f_X10_canShift T N s16 a17 a19 x11) (c_X10_canShift l D cy T hT ad N s16 _ a17 a19 x11) (cwV 2 hts (gV wSub wd_513 wd_514 wd_515 wd_353 wd_516) rfl rfl rfl (by decide +kernel) ⟨Nat.le_of_ble_eq_true rfl, Nat.le_of_ble_eq_true rfl⟩) (F := TX10) (NF := 3) 10 rfl (by decide) (k_X10_canShift T N s16 a17 a19 x11) rfl hl.1 rfl (Nat.le_of_ble_eq_true rfl) dX11_align_85 hq (fun x21 s20 H locs hq hB => ?_)
          refine zz_if_ne (tgt := 94) hx hb dX11_align_88 (by decide) hq (fun hq => ?_) (fun hq => ?_)
          · refine lv_aload_n hx hb dX11_align_94 rfl (lv_at hl 0 rfl) ?_
            refine zz_getR S hT hB (C := RX11) (ref := "DiagramDesk") (F := TX11) (N := 5) (index := 19) 11 1 iwX11 rfl (by decide) (by decide) rfl rfl (wS wd_394) (fun _ h9 => h9) dX11_align_95 hq (fun a22 hq => ?_)
            refine lv_aload_n hx hb dX11_align_98 rfl (lv_at hl 0 rfl) ?_
            refine zz_getR S hT hB (C := RX11) (ref := "DiagramDesk") (F := TX11) (N := 5) (index := 10) 11 0 iwX11 rfl (by decide) (by decide) rfl rfl (wS wd_391) (fun _ h9 => h9) dX11_align_99 hq (fun a23 hq => ?_)
            refine zz_callVv S hT hB (As := [.ref (ad a23)]) (b := a22) (o := f_X5_keep T N s20 a22 a23) (c_X5_keep l D cy T hT ad N s20 _ a22 a23) (cwV 1 hts (gV wSub wd_395 wd_396 wd_397 wd_215 wd_398) rfl rfl rfl (by decide +kernel) ⟨Nat.le_of_ble_eq_true rfl, Nat.le_of_ble_eq_true rfl⟩) (F := TX5) (NF := 2) 5 rfl (by decide) (k_X5_keep T N s20 a22 a23) rfl hl.1 rfl (Nat.le_of_ble_eq_true rfl) dX11_align_102 hq (fun s24 H locs hq hB => ?_)
            refine lv_aload_n hx hb dX11_align_105 rfl (lv_at hl 0 rfl) ?_
            refine zz_getR S hT hB (C := RX11) (ref := "DiagramDesk") (F := TX11) (N := 5) (index := 33) 11 3 iwX11 rfl (by decide) (by decide) rfl rfl (wS wd_465) (fun _ h9 => h9) dX11_align_106 hq (fun a25 hq => ?_)
            refine lv_aload_n hx hb dX11_align_109 rfl (lv_at hl 0 rfl) ?_
            refine zz_getR S hT hB (C := RX11) (ref := "DiagramDesk") (F := TX11) (N := 5) (index := 10) 11 0 iwX11 rfl (by decide) (by decide) rfl rfl (wS wd_391) (fun _ h9 => h9) dX11_align_110 hq (fun a26 hq => ?_)
            refine zz_getR S hT hB (C := RX2) (ref := "DiagramDesk$Diagram") (F := TX2) (N := 4) (index := 55) 2 0 iwX2 rfl (by decide) (by decide) rfl rfl (wS wd_392) (fun _ h9 => h9) dX11_align_113 hq (fun a27 hq => ?_)
            refine lv_iload_n hx hb dX11_align_116 rfl (lv_at hl 1 rfl) ?_
            refine zz_callVi S hT hB (As := [.ref (ad a27), .int x11]) (b := a25) (o := f_X10_shift T N s24 a25 a27 x11) (c_X10_shift l D cy T hT ad N s24 _ a25 a27 x11) (cwV 2 hts (gV wSub wd_517 wd_518 wd_519 wd_353 wd_520) rfl rfl rfl (by decide +kernel) ⟨Nat.le_of_ble_eq_true rfl, Nat.le_of_ble_eq_true rfl⟩) (F := TX10) (NF := 3) 10 rfl (by decide) (k_X10_shift T N s24 a25 a27 x11) rfl hl.1 rfl (Nat.le_of_ble_eq_true rfl) dX11_align_117 hq (fun x29 s28 H locs hq hB => ?_)
            exact zz_iret S hB hr hlocks dX11_align_120 hq
          · refine lv_bipush (v := -4) hx hb dX11_align_91 (by decide) ?_
            exact zz_iret S hB hr hlocks dX11_align_93 hq
        refine zz_if_ne (tgt := 67) hx hb dX11_align_60 (by decide) hq (fun hq => ?_) (fun hq => ?_)
        · refine lv_iload_n hx hb dX11_align_67 rfl (lv_at hl 2 rfl) ?_
          refine lv_iconst (v := 3) hx hb dX11_align_68 (by decide) ?_
          refine lv_isub hx hb dX11_align_69 ?_
          exact J70 (x1 - (3 : Int32)) _ _ _ hq hB (lv_sub hl [1, 0] rfl)
        · refine lv_iload_n hx hb dX11_align_63 rfl (lv_at hl 2 rfl) ?_
          refine lv_goto (tgt := 70) hx hb dX11_align_64 (by decide) ?_
          exact J70 x1 _ _ _ hq hB (lv_sub hl [1, 0] rfl)
      refine zz_icmp_ge (tgt := 45) hx hb dX11_align_38 (by decide) hq (fun hq => ?_) (fun hq => ?_)
      · refine lv_iconst (v := 1) hx hb dX11_align_45 (by decide) ?_
        exact J46 (1 : Int32) _ _ _ hq hB (lv_sub hl [0, 1] rfl)
      · refine lv_iconst (v := 0) hx hb dX11_align_41 (by decide) ?_
        refine lv_goto (tgt := 46) hx hb dX11_align_42 (by decide) ?_
        exact J46 (0 : Int32) _ _ _ hq hB (lv_sub hl [0, 1] rfl)
    · refine lv_bipush (v := -2) hx hb dX11_align_33 (by decide) ?_
      exact zz_iret S hB hr hlocks dX11_align_35 hq
  · refine lv_iconst (v := -1) hx hb dX11_align_9 (by decide) ?_
    exact zz_iret S hB hr hlocks dX11_align_10 hq
def f_X11_distribute (T : zT) (N : Nat) (s0 : zS) (a0 : Nat) (x1 : Int32) : Option (Int32 × zS) :=
  zz1 (T.1 a0 = 11) <|
  zb2 (f_X11_isAxis T N s0 x1) fun x5 s4 =>
  if ¬ x5 = 0 then (
    (gR T s4 a0 11 3).bind fun a6 =>
    (gR T s4 a0 11 0).bind fun a7 =>
    (f_X10_gather T N s4 a6 a7).bind fun s8 =>
    (gR T s8 a0 11 3).bind fun a9 =>
    (gI T s8 a9 10 2).bind fun x10 =>
    if (3 : Int32) ≤ x10 then (
      (gR T s8 a0 11 3).bind fun a11 =>
      (gR T s8 a0 11 0).bind fun a12 =>
      (gR T s8 a12 2 0).bind fun a13 =>
      zb2 (f_X10_planDistribution T N s8 a11 a13 x1) fun x15 s14 =>
      (gR T s14 a0 11 3).bind fun a16 =>
      (gR T s14 a0 11 0).bind fun a17 =>
      (gR T s14 a17 2 0).bind fun a18 =>
      zb2 (f_X10_canShift T N s14 a16 a18 x1) fun x20 s19 =>
      if ¬ x20 = 0 then (
        (gR T s19 a0 11 1).bind fun a21 =>
        (gR T s19 a0 11 0).bind fun a22 =>
        (f_X5_keep T N s19 a21 a22).bind fun s23 =>
        (gR T s23 a0 11 3).bind fun a24 =>
        (gR T s23 a0 11 0).bind fun a25 =>
        (gR T s23 a25 2 0).bind fun a26 =>
        zb2 (f_X10_shift T N s23 a24 a26 x1) fun x28 s27 =>
        some (x15, s27))
      else (
        some ((-1000000 : Int32), s19)))
    else (
      some ((-1000000 : Int32), s8)))
  else (
    some ((-1000000 : Int32), s4))
theorem k_X11_distribute (T : zT) (N : Nat) (s0 : zS) (a0 : Nat) (x1 : Int32) : ∀ q, f_X11_distribute T N s0 a0 x1 = some q → T.1 a0 = 11 := by
  intro q h
  unfold f_X11_distribute at h
  exact zz_guard h (fun h _ => h)
set_option maxHeartbeats 4000000 in
set_option maxRecDepth 100000 in
theorem c_X11_distribute (l : Launch) (D : va_G) (cy : Nat → ClassId) (T : zT) (hT : zok T) (ad : Nat → Nat) (N : Nat) (s0 : zS) (sz : Nat) (a0 : Nat) (x1 : Int32) : ∀ (r0 : Int32) (σ0 : zS), f_X11_distribute T N s0 a0 x1 = some (r0, σ0) → Met l yX11_distribute wsX11_distribute ({ frames := 6, cells := 0, slots := 0, locals := 138 }) (va_Pc [.ref (ad a0), .int x1] (zPre D cy T ad s0 sz)) (va_Qi (fun (r2 : Int32) (σ2 : zS) => r2 = r0 ∧ σ2 = σ0) (zAt D cy T ad (zA T ad sz)) (zA T ad sz)) 0 0 (zA T ad sz) := by
  intro r0 σ0 hq
  refine Met.ofW (cc := cX11_distribute) (maxL := 3) (ret := (some .int)) (by decide) rfl ?_
  intro p e s m args below meth c s₁ B hml hv
  obtain ⟨hargs, hsz, hP, hK, hD0, hN⟩ := hv
  have hx := B.exec
  have hb := B.bytes
  have hr := B.returns
  have hts := atoms_spec (ws := wsX11_distribute) B.pre
  have hown : s.vm.findClass RX11 = some m.cls := findClass_of_methodNamed B.named
  have hlocks := B.notSynchronized
  have S : CallFix p m c cX11_distribute 3 s args wsX11_distribute RX11 := ⟨hx, hb, hml, hown, hts⟩
  subst hsz
  have hB : zB D cy T ad (zA T ad s.heap.size) s.heap s0 s.heap [] s := zz_entry hP hK hD0 hN
  obtain ⟨ls, hent, hl⟩ := zz_ent m hargs (n := 3) (Nat.le_of_ble_eq_true rfl)
  rw [hent]
  have hl : lv_has ls 3 [(0, .ref (ad a0)), (1, .int x1)] := hl
  have iwX11 : ∀ w ∈ u_ws RX11 TX11 5, w ∈ wsX11_distribute := fun w h => wS (inWX11 w h)
  have iwX10 : ∀ w ∈ u_ws RX10 TX10 3, w ∈ wsX11_distribute := fun w h => wS (inWX10 w h)
  have iwX2 : ∀ w ∈ u_ws RX2 TX2 4, w ∈ wsX11_distribute := fun w h => wS (inWX2 w h)
  unfold f_X11_distribute at hq
  refine zz_guard hq (fun hk0 hq => ?_)
  refine lv_iload_n hx hb dX11_distribute_0 rfl (lv_at hl 1 rfl) ?_
  refine zz_callSi S hT hB (As := [.int x1]) (o := f_X11_isAxis T N s0 x1) (c_X11_isAxis l D cy T hT ad N s0 _ x1) (va_cwS 1 hts (gS wSub wd_428 wd_429 wd_102 wd_430) rfl rfl rfl (by decide +kernel) ⟨Nat.le_of_ble_eq_true rfl, Nat.le_of_ble_eq_true rfl⟩) rfl hl.1 rfl (Nat.le_of_ble_eq_true rfl) dX11_distribute_1 hq (fun x5 s4 H locs hq hB => ?_)
  refine zz_if_ne (tgt := 10) hx hb dX11_distribute_4 (by decide) hq (fun hq => ?_) (fun hq => ?_)
  · refine lv_aload_n hx hb dX11_distribute_10 rfl (lv_at hl 0 rfl) ?_
    refine zz_getR S hT hB (C := RX11) (ref := "DiagramDesk") (F := TX11) (N := 5) (index := 33) 11 3 iwX11 rfl (by decide) (by decide) rfl rfl (wS wd_465) (fun _ h9 => h9) dX11_distribute_11 hq (fun a6 hq => ?_)
    refine lv_aload_n hx hb dX11_distribute_14 rfl (lv_at hl 0 rfl) ?_
    refine zz_getR S hT hB (C := RX11) (ref := "DiagramDesk") (F := TX11) (N := 5) (index := 10) 11 0 iwX11 rfl (by decide) (by decide) rfl rfl (wS wd_391) (fun _ h9 => h9) dX11_distribute_15 hq (fun a7 hq => ?_)
    refine zz_callVv S hT hB (As := [.ref (ad a7)]) (b := a6) (o := f_X10_gather T N s4 a6 a7) (c_X10_gather l D cy T hT ad N s4 _ a6 a7) (cwV 1 hts (gV wSub wd_466 wd_467 wd_468 wd_353 wd_469) rfl rfl rfl (by decide +kernel) ⟨Nat.le_of_ble_eq_true rfl, Nat.le_of_ble_eq_true rfl⟩) (F := TX10) (NF := 3) 10 rfl (by decide) (k_X10_gather T N s4 a6 a7) rfl hl.1 rfl (Nat.le_of_ble_eq_true rfl) dX11_distribute_18 hq (fun s8 H locs hq hB => ?_)
    refine lv_aload_n hx hb dX11_distribute_21 rfl (lv_at hl 0 rfl) ?_
    refine zz_getR S hT hB (C := RX11) (ref := "DiagramDesk") (F := TX11) (N := 5) (index := 33) 11 3 iwX11 rfl (by decide) (by decide) rfl rfl (wS wd_465) (fun _ h9 => h9) dX11_distribute_22 hq (fun a9 hq => ?_)
    refine zz_get S hT hB (C := RX10) (ref := "DiagramDesk$Units") (F := TX10) (N := 3) (index := 191) 10 2 iwX10 rfl (by decide) (by decide) rfl rfl (wS wd_470) (fun _ h9 => h9) dX11_distribute_25 hq (fun x10 hq => ?_)
    refine lv_iconst (v := 3) hx hb dX11_distribute_28 (by decide) ?_
    refine zz_icmp_ge (tgt := 35) hx hb dX11_distribute_29 (by decide) hq (fun hq => ?_) (fun hq => ?_)
    · refine lv_aload_n hx hb dX11_distribute_35 rfl (lv_at hl 0 rfl) ?_
      refine zz_getR S hT hB (C := RX11) (ref := "DiagramDesk") (F := TX11) (N := 5) (index := 33) 11 3 iwX11 rfl (by decide) (by decide) rfl rfl (wS wd_465) (fun _ h9 => h9) dX11_distribute_36 hq (fun a11 hq => ?_)
      refine lv_aload_n hx hb dX11_distribute_39 rfl (lv_at hl 0 rfl) ?_
      refine zz_getR S hT hB (C := RX11) (ref := "DiagramDesk") (F := TX11) (N := 5) (index := 10) 11 0 iwX11 rfl (by decide) (by decide) rfl rfl (wS wd_391) (fun _ h9 => h9) dX11_distribute_40 hq (fun a12 hq => ?_)
      refine zz_getR S hT hB (C := RX2) (ref := "DiagramDesk$Diagram") (F := TX2) (N := 4) (index := 55) 2 0 iwX2 rfl (by decide) (by decide) rfl rfl (wS wd_392) (fun _ h9 => h9) dX11_distribute_43 hq (fun a13 hq => ?_)
      refine lv_iload_n hx hb dX11_distribute_46 rfl (lv_at hl 1 rfl) ?_
      refine zz_callVi S hT hB (As := [.ref (ad a13), .int x1]) (b := a11) (o := f_X10_planDistribution T N s8 a11 a13 x1) (c_X10_planDistribution l D cy T hT ad N s8 _ a11 a13 x1) (cwV 2 hts (gV wSub wd_521 wd_522 wd_523 wd_353 wd_524) rfl rfl rfl (by decide +kernel) ⟨Nat.le_of_ble_eq_true rfl, Nat.le_of_ble_eq_true rfl⟩) (F := TX10) (NF := 3) 10 rfl (by decide) (k_X10_planDistribution T N s8 a11 a13 x1) rfl hl.1 rfl (Nat.le_of_ble_eq_true rfl) dX11_distribute_47 hq (fun x15 s14 H locs hq hB => ?_)
      refine lv_istore_n (lv' := [(2, .int x15), (0, .ref (ad a0)), (1, .int x1)]) hx hb dX11_distribute_50 rfl hl (by decide) rfl (fun ls hl => ?_)
      refine lv_aload_n hx hb dX11_distribute_51 rfl (lv_at hl 1 rfl) ?_
      refine zz_getR S hT hB (C := RX11) (ref := "DiagramDesk") (F := TX11) (N := 5) (index := 33) 11 3 iwX11 rfl (by decide) (by decide) rfl rfl (wS wd_465) (fun _ h9 => h9) dX11_distribute_52 hq (fun a16 hq => ?_)
      refine lv_aload_n hx hb dX11_distribute_55 rfl (lv_at hl 1 rfl) ?_
      refine zz_getR S hT hB (C := RX11) (ref := "DiagramDesk") (F := TX11) (N := 5) (index := 10) 11 0 iwX11 rfl (by decide) (by decide) rfl rfl (wS wd_391) (fun _ h9 => h9) dX11_distribute_56 hq (fun a17 hq => ?_)
      refine zz_getR S hT hB (C := RX2) (ref := "DiagramDesk$Diagram") (F := TX2) (N := 4) (index := 55) 2 0 iwX2 rfl (by decide) (by decide) rfl rfl (wS wd_392) (fun _ h9 => h9) dX11_distribute_59 hq (fun a18 hq => ?_)
      refine lv_iload_n hx hb dX11_distribute_62 rfl (lv_at hl 2 rfl) ?_
      refine zz_callVi S hT hB (As := [.ref (ad a18), .int x1]) (b := a16) (o := f_X10_canShift T N s14 a16 a18 x1) (c_X10_canShift l D cy T hT ad N s14 _ a16 a18 x1) (cwV 2 hts (gV wSub wd_513 wd_514 wd_515 wd_353 wd_516) rfl rfl rfl (by decide +kernel) ⟨Nat.le_of_ble_eq_true rfl, Nat.le_of_ble_eq_true rfl⟩) (F := TX10) (NF := 3) 10 rfl (by decide) (k_X10_canShift T N s14 a16 a18 x1) rfl hl.1 rfl (Nat.le_of_ble_eq_true rfl) dX11_distribute_63 hq (fun x20 s19 H locs hq hB => ?_)
      refine zz_if_ne (tgt := 72) hx hb dX11_distribute_66 (by decide) hq (fun hq => ?_) (fun hq => ?_)
      · refine lv_aload_n hx hb dX11_distribute_72 rfl (lv_at hl 1 rfl) ?_
        refine zz_getR S hT hB (C := RX11) (ref := "DiagramDesk") (F := TX11) (N := 5) (index := 19) 11 1 iwX11 rfl (by decide) (by decide) rfl rfl (wS wd_394) (fun _ h9 => h9) dX11_distribute_73 hq (fun a21 hq => ?_)
        refine lv_aload_n hx hb dX11_distribute_76 rfl (lv_at hl 1 rfl) ?_
        refine zz_getR S hT hB (C := RX11) (ref := "DiagramDesk") (F := TX11) (N := 5) (index := 10) 11 0 iwX11 rfl (by decide) (by decide) rfl rfl (wS wd_391) (fun _ h9 => h9) dX11_distribute_77 hq (fun a22 hq => ?_)
        refine zz_callVv S hT hB (As := [.ref (ad a22)]) (b := a21) (o := f_X5_keep T N s19 a21 a22) (c_X5_keep l D cy T hT ad N s19 _ a21 a22) (cwV 1 hts (gV wSub wd_395 wd_396 wd_397 wd_215 wd_398) rfl rfl rfl (by decide +kernel) ⟨Nat.le_of_ble_eq_true rfl, Nat.le_of_ble_eq_true rfl⟩) (F := TX5) (NF := 2) 5 rfl (by decide) (k_X5_keep T N s19 a21 a22) rfl hl.1 rfl (Nat.le_of_ble_eq_true rfl) dX11_distribute_80 hq (fun s23 H locs hq hB => ?_)
        refine lv_aload_n hx hb dX11_distribute_83 rfl (lv_at hl 1 rfl) ?_
        refine zz_getR S hT hB (C := RX11) (ref := "DiagramDesk") (F := TX11) (N := 5) (index := 33) 11 3 iwX11 rfl (by decide) (by decide) rfl rfl (wS wd_465) (fun _ h9 => h9) dX11_distribute_84 hq (fun a24 hq => ?_)
        refine lv_aload_n hx hb dX11_distribute_87 rfl (lv_at hl 1 rfl) ?_
        refine zz_getR S hT hB (C := RX11) (ref := "DiagramDesk") (F := TX11) (N := 5) (index := 10) 11 0 iwX11 rfl (by decide) (by decide) rfl rfl (wS wd_391) (fun _ h9 => h9) dX11_distribute_88 hq (fun a25 hq => ?_)
        refine zz_getR S hT hB (C := RX2) (ref := "DiagramDesk$Diagram") (F := TX2) (N := 4) (index := 55) 2 0 iwX2 rfl (by decide) (by decide) rfl rfl (wS wd_392) (fun _ h9 => h9) dX11_distribute_91 hq (fun a26 hq => ?_)
        refine lv_iload_n hx hb dX11_distribute_94 rfl (lv_at hl 2 rfl) ?_
        refine zz_callVi S hT hB (As := [.ref (ad a26), .int x1]) (b := a24) (o := f_X10_shift T N s23 a24 a26 x1) (c_X10_shift l D cy T hT ad N s23 _ a24 a26 x1) (cwV 2 hts (gV wSub wd_517 wd_518 wd_519 wd_353 wd_520) rfl rfl rfl (by decide +kernel) ⟨Nat.le_of_ble_eq_true rfl, Nat.le_of_ble_eq_true rfl⟩) (F := TX10) (NF := 3) 10 rfl (by decide) (k_X10_shift T N s23 a24 a26 x1) rfl hl.1 rfl (Nat.le_of_ble_eq_true rfl) dX11_distribute_95 hq (fun x28 s27 H locs hq hB => ?_)
        refine lv_pop hx hb dX11_distribute_98 rfl ?_
        refine lv_iload_n hx hb dX11_distribute_99 rfl (lv_at hl 0 rfl) ?_
        exact zz_iret S hB hr hlocks dX11_distribute_100 hq
      · refine lv_ldc (v := -1000000) hx hb hown (hts _ (wS wd_415)) dX11_distribute_69 ?_
        exact zz_iret S hB hr hlocks dX11_distribute_71 hq
    · refine lv_ldc (v := -1000000) hx hb hown (hts _ (wS wd_415)) dX11_distribute_32 ?_
      exact zz_iret S hB hr hlocks dX11_distribute_34 hq
  · refine lv_ldc (v := -1000000) hx hb hown (hts _ (wS wd_415)) dX11_distribute_7 ?_
    exact zz_iret S hB hr hlocks dX11_distribute_9 hq
def f_X11_addGuide (T : zT) (N : Nat) (s0 : zS) (a0 : Nat) (x1 : Int32) (x2 : Int32) : Option (Int32 × zS) :=
  zz1 (T.1 a0 = 11) <|
  zb2 (f_X11_isAxis T N s0 x1) fun x6 s5 =>
  if x6 = 0 then (
    some ((-1 : Int32), s5))
  else (
    zb2 (f_X11_isCoordinate T N s5 x2) fun x8 s7 =>
    if ¬ x8 = 0 then (
      (gR T s7 a0 11 0).bind fun a9 =>
      (gR T s7 a9 2 3).bind fun a10 =>
      (gI T s7 a10 4 2).bind fun x11 =>
      if x11 < (10 : Int32) then (
        (gR T s7 a0 11 1).bind fun a12 =>
        (gR T s7 a0 11 0).bind fun a13 =>
        (f_X5_keep T N s7 a12 a13).bind fun s14 =>
        (gR T s14 a0 11 0).bind fun a15 =>
        (gR T s14 a15 2 3).bind fun a16 =>
        (f_X4_add T N s14 a16 x1 x2).bind fun s17 =>
        (gR T s17 a0 11 0).bind fun a18 =>
        (gR T s17 a18 2 3).bind fun a19 =>
        (gI T s17 a19 4 2).bind fun x20 =>
        some (x20, s17))
      else (
        some ((-3 : Int32), s7)))
    else (
      some ((-1 : Int32), s7)))
theorem k_X11_addGuide (T : zT) (N : Nat) (s0 : zS) (a0 : Nat) (x1 : Int32) (x2 : Int32) : ∀ q, f_X11_addGuide T N s0 a0 x1 x2 = some q → T.1 a0 = 11 := by
  intro q h
  unfold f_X11_addGuide at h
  exact zz_guard h (fun h _ => h)
set_option maxHeartbeats 4000000 in
set_option maxRecDepth 100000 in
theorem c_X11_addGuide (l : Launch) (D : va_G) (cy : Nat → ClassId) (T : zT) (hT : zok T) (ad : Nat → Nat) (N : Nat) (s0 : zS) (sz : Nat) (a0 : Nat) (x1 : Int32) (x2 : Int32) : ∀ (r0 : Int32) (σ0 : zS), f_X11_addGuide T N s0 a0 x1 x2 = some (r0, σ0) → Met l yX11_addGuide wsX11_addGuide ({ frames := 5, cells := 0, slots := 0, locals := 106 }) (va_Pc [.ref (ad a0), .int x1, .int x2] (zPre D cy T ad s0 sz)) (va_Qi (fun (r2 : Int32) (σ2 : zS) => r2 = r0 ∧ σ2 = σ0) (zAt D cy T ad (zA T ad sz)) (zA T ad sz)) 0 0 (zA T ad sz) := by
  intro r0 σ0 hq
  refine Met.ofW (cc := cX11_addGuide) (maxL := 3) (ret := (some .int)) (by decide) rfl ?_
  intro p e s m args below meth c s₁ B hml hv
  obtain ⟨hargs, hsz, hP, hK, hD0, hN⟩ := hv
  have hx := B.exec
  have hb := B.bytes
  have hr := B.returns
  have hts := atoms_spec (ws := wsX11_addGuide) B.pre
  have hown : s.vm.findClass RX11 = some m.cls := findClass_of_methodNamed B.named
  have hlocks := B.notSynchronized
  have S : CallFix p m c cX11_addGuide 3 s args wsX11_addGuide RX11 := ⟨hx, hb, hml, hown, hts⟩
  subst hsz
  have hB : zB D cy T ad (zA T ad s.heap.size) s.heap s0 s.heap [] s := zz_entry hP hK hD0 hN
  obtain ⟨ls, hent, hl⟩ := zz_ent m hargs (n := 3) (Nat.le_of_ble_eq_true rfl)
  rw [hent]
  have hl : lv_has ls 3 [(0, .ref (ad a0)), (1, .int x1), (2, .int x2)] := hl
  have iwX11 : ∀ w ∈ u_ws RX11 TX11 5, w ∈ wsX11_addGuide := fun w h => wS (inWX11 w h)
  have iwX2 : ∀ w ∈ u_ws RX2 TX2 4, w ∈ wsX11_addGuide := fun w h => wS (inWX2 w h)
  have iwX4 : ∀ w ∈ u_ws RX4 TX4 5, w ∈ wsX11_addGuide := fun w h => wS (inWX4 w h)
  unfold f_X11_addGuide at hq
  refine zz_guard hq (fun hk0 hq => ?_)
  refine lv_iload_n hx hb dX11_addGuide_0 rfl (lv_at hl 1 rfl) ?_
  refine zz_callSi S hT hB (As := [.int x1]) (o := f_X11_isAxis T N s0 x1) (c_X11_isAxis l D cy T hT ad N s0 _ x1) (va_cwS 1 hts (gS wSub wd_428 wd_429 wd_102 wd_430) rfl rfl rfl (by decide +kernel) ⟨Nat.le_of_ble_eq_true rfl, Nat.le_of_ble_eq_true rfl⟩) rfl hl.1 rfl (Nat.le_of_ble_eq_true rfl) dX11_addGuide_1 hq (fun x6 s5 H locs hq hB => ?_)
  refine zz_if_eq (tgt := 14) hx hb dX11_addGuide_4 (by decide) hq (fun hq => ?_) (fun hq => ?_)
  · refine lv_iconst (v := -1) hx hb dX11_addGuide_14 (by decide) ?_
    exact zz_iret S hB hr hlocks dX11_addGuide_15 hq
  · refine lv_iload_n hx hb dX11_addGuide_7 rfl (lv_at hl 2 rfl) ?_
    refine zz_callSi S hT hB (As := [.int x2]) (o := f_X11_isCoordinate T N s5 x2) (c_X11_isCoordinate l D cy T hT ad N s5 _ x2) (va_cwS 1 hts (gS wSub wd_389 wd_255 wd_102 wd_254) rfl rfl rfl (by decide +kernel) ⟨Nat.le_of_ble_eq_true rfl, Nat.le_of_ble_eq_true rfl⟩) rfl hl.1 rfl (Nat.le_of_ble_eq_true rfl) dX11_addGuide_8 hq (fun x8 s7 H locs hq hB => ?_)
    refine zz_if_ne (tgt := 16) hx hb dX11_addGuide_11 (by decide) hq (fun hq => ?_) (fun hq => ?_)
    · refine lv_aload_n hx hb dX11_addGuide_16 rfl (lv_at hl 0 rfl) ?_
      refine zz_getR S hT hB (C := RX11) (ref := "DiagramDesk") (F := TX11) (N := 5) (index := 10) 11 0 iwX11 rfl (by decide) (by decide) rfl rfl (wS wd_391) (fun _ h9 => h9) dX11_addGuide_17 hq (fun a9 hq => ?_)
      refine zz_getR S hT hB (C := RX2) (ref := "DiagramDesk$Diagram") (F := TX2) (N := 4) (index := 250) 2 3 iwX2 rfl (by decide) (by decide) rfl rfl (wS wd_525) (fun _ h9 => h9) dX11_addGuide_20 hq (fun a10 hq => ?_)
      refine zz_get S hT hB (C := RX4) (ref := "DiagramDesk$Guides") (F := TX4) (N := 5) (index := 254) 4 2 iwX4 rfl (by decide) (by decide) rfl rfl (wS wd_526) (fun _ h9 => h9) dX11_addGuide_23 hq (fun x11 hq => ?_)
      refine lv_bipush (v := 10) hx hb dX11_addGuide_26 (by decide) ?_
      refine zz_icmp_lt (tgt := 34) hx hb dX11_addGuide_28 (by decide) hq (fun hq => ?_) (fun hq => ?_)
      · refine lv_aload_n hx hb dX11_addGuide_34 rfl (lv_at hl 0 rfl) ?_
        refine zz_getR S hT hB (C := RX11) (ref := "DiagramDesk") (F := TX11) (N := 5) (index := 19) 11 1 iwX11 rfl (by decide) (by decide) rfl rfl (wS wd_394) (fun _ h9 => h9) dX11_addGuide_35 hq (fun a12 hq => ?_)
        refine lv_aload_n hx hb dX11_addGuide_38 rfl (lv_at hl 0 rfl) ?_
        refine zz_getR S hT hB (C := RX11) (ref := "DiagramDesk") (F := TX11) (N := 5) (index := 10) 11 0 iwX11 rfl (by decide) (by decide) rfl rfl (wS wd_391) (fun _ h9 => h9) dX11_addGuide_39 hq (fun a13 hq => ?_)
        refine zz_callVv S hT hB (As := [.ref (ad a13)]) (b := a12) (o := f_X5_keep T N s7 a12 a13) (c_X5_keep l D cy T hT ad N s7 _ a12 a13) (cwV 1 hts (gV wSub wd_395 wd_396 wd_397 wd_215 wd_398) rfl rfl rfl (by decide +kernel) ⟨Nat.le_of_ble_eq_true rfl, Nat.le_of_ble_eq_true rfl⟩) (F := TX5) (NF := 2) 5 rfl (by decide) (k_X5_keep T N s7 a12 a13) rfl hl.1 rfl (Nat.le_of_ble_eq_true rfl) dX11_addGuide_42 hq (fun s14 H locs hq hB => ?_)
        refine lv_aload_n hx hb dX11_addGuide_45 rfl (lv_at hl 0 rfl) ?_
        refine zz_getR S hT hB (C := RX11) (ref := "DiagramDesk") (F := TX11) (N := 5) (index := 10) 11 0 iwX11 rfl (by decide) (by decide) rfl rfl (wS wd_391) (fun _ h9 => h9) dX11_addGuide_46 hq (fun a15 hq => ?_)
        refine zz_getR S hT hB (C := RX2) (ref := "DiagramDesk$Diagram") (F := TX2) (N := 4) (index := 250) 2 3 iwX2 rfl (by decide) (by decide) rfl rfl (wS wd_525) (fun _ h9 => h9) dX11_addGuide_49 hq (fun a16 hq => ?_)
        refine lv_iload_n hx hb dX11_addGuide_52 rfl (lv_at hl 1 rfl) ?_
        refine lv_iload_n hx hb dX11_addGuide_53 rfl (lv_at hl 2 rfl) ?_
        refine zz_callVv S hT hB (As := [.int x1, .int x2]) (b := a16) (o := f_X4_add T N s14 a16 x1 x2) (c_X4_add l D cy T hT ad N s14 _ a16 x1 x2) (cwV 2 hts (gV wSub wd_527 wd_136 wd_137 wd_138 wd_139) rfl rfl rfl (by decide +kernel) ⟨Nat.le_of_ble_eq_true rfl, Nat.le_of_ble_eq_true rfl⟩) (F := TX4) (NF := 5) 4 rfl (by decide) (k_X4_add T N s14 a16 x1 x2) rfl hl.1 rfl (Nat.le_of_ble_eq_true rfl) dX11_addGuide_54 hq (fun s17 H locs hq hB => ?_)
        refine lv_aload_n hx hb dX11_addGuide_57 rfl (lv_at hl 0 rfl) ?_
        refine zz_getR S hT hB (C := RX11) (ref := "DiagramDesk") (F := TX11) (N := 5) (index := 10) 11 0 iwX11 rfl (by decide) (by decide) rfl rfl (wS wd_391) (fun _ h9 => h9) dX11_addGuide_58 hq (fun a18 hq => ?_)
        refine zz_getR S hT hB (C := RX2) (ref := "DiagramDesk$Diagram") (F := TX2) (N := 4) (index := 250) 2 3 iwX2 rfl (by decide) (by decide) rfl rfl (wS wd_525) (fun _ h9 => h9) dX11_addGuide_61 hq (fun a19 hq => ?_)
        refine zz_get S hT hB (C := RX4) (ref := "DiagramDesk$Guides") (F := TX4) (N := 5) (index := 254) 4 2 iwX4 rfl (by decide) (by decide) rfl rfl (wS wd_526) (fun _ h9 => h9) dX11_addGuide_64 hq (fun x20 hq => ?_)
        exact zz_iret S hB hr hlocks dX11_addGuide_67 hq
      · refine lv_bipush (v := -3) hx hb dX11_addGuide_31 (by decide) ?_
        exact zz_iret S hB hr hlocks dX11_addGuide_33 hq
    · refine lv_iconst (v := -1) hx hb dX11_addGuide_14 (by decide) ?_
      exact zz_iret S hB hr hlocks dX11_addGuide_15 hq
def f_X11_clearGuides (T : zT) (N : Nat) (s0 : zS) (a0 : Nat) : Option (Int32 × zS) :=
  zz1 (T.1 a0 = 11) <|
  (gR T s0 a0 11 1).bind fun a3 =>
  (gR T s0 a0 11 0).bind fun a4 =>
  (f_X5_keep T N s0 a3 a4).bind fun s5 =>
  (gR T s5 a0 11 0).bind fun a6 =>
  (gR T s5 a6 2 3).bind fun a7 =>
  (gI T s5 a7 4 2).bind fun x8 =>
  (gR T s5 a0 11 0).bind fun a9 =>
  (gR T s5 a9 2 3).bind fun a10 =>
  (pI T s5 a10 4 2 (0 : Int32)).bind fun s11 =>
  some (x8, s11)
theorem k_X11_clearGuides (T : zT) (N : Nat) (s0 : zS) (a0 : Nat) : ∀ q, f_X11_clearGuides T N s0 a0 = some q → T.1 a0 = 11 := by
  intro q h
  unfold f_X11_clearGuides at h
  exact zz_guard h (fun h _ => h)
set_option maxHeartbeats 4000000 in
set_option maxRecDepth 100000 in
theorem c_X11_clearGuides (l : Launch) (D : va_G) (cy : Nat → ClassId) (T : zT) (hT : zok T) (ad : Nat → Nat) (N : Nat) (s0 : zS) (sz : Nat) (a0 : Nat) : ∀ (r0 : Int32) (σ0 : zS), f_X11_clearGuides T N s0 a0 = some (r0, σ0) → Met l yX11_clearGuides wsX11_clearGuides ({ frames := 5, cells := 0, slots := 0, locals := 106 }) (va_Pc [.ref (ad a0)] (zPre D cy T ad s0 sz)) (va_Qi (fun (r2 : Int32) (σ2 : zS) => r2 = r0 ∧ σ2 = σ0) (zAt D cy T ad (zA T ad sz)) (zA T ad sz)) 0 0 (zA T ad sz) := by
  intro r0 σ0 hq
  refine Met.ofW (cc := cX11_clearGuides) (maxL := 2) (ret := (some .int)) (by decide) rfl ?_
  intro p e s m args below meth c s₁ B hml hv
  obtain ⟨hargs, hsz, hP, hK, hD0, hN⟩ := hv
  have hx := B.exec
  have hb := B.bytes
  have hr := B.returns
  have hts := atoms_spec (ws := wsX11_clearGuides) B.pre
  have hown : s.vm.findClass RX11 = some m.cls := findClass_of_methodNamed B.named
  have hlocks := B.notSynchronized
  have S : CallFix p m c cX11_clearGuides 2 s args wsX11_clearGuides RX11 := ⟨hx, hb, hml, hown, hts⟩
  subst hsz
  have hB : zB D cy T ad (zA T ad s.heap.size) s.heap s0 s.heap [] s := zz_entry hP hK hD0 hN
  obtain ⟨ls, hent, hl⟩ := zz_ent m hargs (n := 2) (Nat.le_of_ble_eq_true rfl)
  rw [hent]
  have hl : lv_has ls 2 [(0, .ref (ad a0))] := hl
  have iwX11 : ∀ w ∈ u_ws RX11 TX11 5, w ∈ wsX11_clearGuides := fun w h => wS (inWX11 w h)
  have iwX2 : ∀ w ∈ u_ws RX2 TX2 4, w ∈ wsX11_clearGuides := fun w h => wS (inWX2 w h)
  have iwX4 : ∀ w ∈ u_ws RX4 TX4 5, w ∈ wsX11_clearGuides := fun w h => wS (inWX4 w h)
  unfold f_X11_clearGuides at hq
  refine zz_guard hq (fun hk0 hq => ?_)
  refine lv_aload_n hx hb dX11_clearGuides_0 rfl (lv_at hl 0 rfl) ?_
  refine zz_getR S hT hB (C := RX11) (ref := "DiagramDesk") (F := TX11) (N := 5) (index := 19) 11 1 iwX11 rfl (by decide) (by decide) rfl rfl (wS wd_394) (fun _ h9 => h9) dX11_clearGuides_1 hq (fun a3 hq => ?_)
  refine lv_aload_n hx hb dX11_clearGuides_4 rfl (lv_at hl 0 rfl) ?_
  refine zz_getR S hT hB (C := RX11) (ref := "DiagramDesk") (F := TX11) (N := 5) (index := 10) 11 0 iwX11 rfl (by decide) (by decide) rfl rfl (wS wd_391) (fun _ h9 => h9) dX11_clearGuides_5 hq (fun a4 hq => ?_)
  refine zz_callVv S hT hB (As := [.ref (ad a4)]) (b := a3) (o := f_X5_keep T N s0 a3 a4) (c_X5_keep l D cy T hT ad N s0 _ a3 a4) (cwV 1 hts (gV wSub wd_395 wd_396 wd_397 wd_215 wd_398) rfl rfl rfl (by decide +kernel) ⟨Nat.le_of_ble_eq_true rfl, Nat.le_of_ble_eq_true rfl⟩) (F := TX5) (NF := 2) 5 rfl (by decide) (k_X5_keep T N s0 a3 a4) rfl hl.1 rfl (Nat.le_of_ble_eq_true rfl) dX11_clearGuides_8 hq (fun s5 H locs hq hB => ?_)
  refine lv_aload_n hx hb dX11_clearGuides_11 rfl (lv_at hl 0 rfl) ?_
  refine zz_getR S hT hB (C := RX11) (ref := "DiagramDesk") (F := TX11) (N := 5) (index := 10) 11 0 iwX11 rfl (by decide) (by decide) rfl rfl (wS wd_391) (fun _ h9 => h9) dX11_clearGuides_12 hq (fun a6 hq => ?_)
  refine zz_getR S hT hB (C := RX2) (ref := "DiagramDesk$Diagram") (F := TX2) (N := 4) (index := 250) 2 3 iwX2 rfl (by decide) (by decide) rfl rfl (wS wd_525) (fun _ h9 => h9) dX11_clearGuides_15 hq (fun a7 hq => ?_)
  refine zz_get S hT hB (C := RX4) (ref := "DiagramDesk$Guides") (F := TX4) (N := 5) (index := 254) 4 2 iwX4 rfl (by decide) (by decide) rfl rfl (wS wd_526) (fun _ h9 => h9) dX11_clearGuides_18 hq (fun x8 hq => ?_)
  refine lv_istore_n (lv' := [(1, .int x8), (0, .ref (ad a0))]) hx hb dX11_clearGuides_21 rfl hl (by decide) rfl (fun ls hl => ?_)
  refine lv_aload_n hx hb dX11_clearGuides_22 rfl (lv_at hl 1 rfl) ?_
  refine zz_getR S hT hB (C := RX11) (ref := "DiagramDesk") (F := TX11) (N := 5) (index := 10) 11 0 iwX11 rfl (by decide) (by decide) rfl rfl (wS wd_391) (fun _ h9 => h9) dX11_clearGuides_23 hq (fun a9 hq => ?_)
  refine zz_getR S hT hB (C := RX2) (ref := "DiagramDesk$Diagram") (F := TX2) (N := 4) (index := 250) 2 3 iwX2 rfl (by decide) (by decide) rfl rfl (wS wd_525) (fun _ h9 => h9) dX11_clearGuides_26 hq (fun a10 hq => ?_)
  refine lv_iconst (v := 0) hx hb dX11_clearGuides_29 (by decide) ?_
  refine zz_put S hT hB (C := RX4) (ref := "DiagramDesk$Guides") (F := TX4) (N := 5) (index := 254) 4 2 iwX4 tyX4 tyX4_ok nmX4 rfl (by decide) (by decide) rfl rfl (wS wd_526) (fun _ h9 => h9) rfl (by decide +kernel) dX11_clearGuides_30 hq (fun s11 H locs hq hB => ?_)
  refine lv_iload_n hx hb dX11_clearGuides_33 rfl (lv_at hl 0 rfl) ?_
  exact zz_iret S hB hr hlocks dX11_clearGuides_34 hq
def f_X11_setGrid (T : zT) (N : Nat) (s0 : zS) (a0 : Nat) (x1 : Int32) : Option (Int32 × zS) :=
  zz1 (T.1 a0 = 11) <|
  zb2 (f_X11_isWithin T N s0 x1 (0 : Int32) (100 : Int32)) fun x5 s4 =>
  if ¬ x5 = 0 then (
    (gR T s4 a0 11 1).bind fun a6 =>
    (gR T s4 a0 11 0).bind fun a7 =>
    (f_X5_keep T N s4 a6 a7).bind fun s8 =>
    (gR T s8 a0 11 0).bind fun a9 =>
    (gR T s8 a9 2 3).bind fun a10 =>
    (gI T s8 a10 4 3).bind fun x11 =>
    (gR T s8 a0 11 0).bind fun a12 =>
    (gR T s8 a12 2 3).bind fun a13 =>
    (pI T s8 a13 4 3 x1).bind fun s14 =>
    some (x11, s14))
  else (
    some ((-1 : Int32), s4))
theorem k_X11_setGrid (T : zT) (N : Nat) (s0 : zS) (a0 : Nat) (x1 : Int32) : ∀ q, f_X11_setGrid T N s0 a0 x1 = some q → T.1 a0 = 11 := by
  intro q h
  unfold f_X11_setGrid at h
  exact zz_guard h (fun h _ => h)
set_option maxHeartbeats 4000000 in
set_option maxRecDepth 100000 in
theorem c_X11_setGrid (l : Launch) (D : va_G) (cy : Nat → ClassId) (T : zT) (hT : zok T) (ad : Nat → Nat) (N : Nat) (s0 : zS) (sz : Nat) (a0 : Nat) (x1 : Int32) : ∀ (r0 : Int32) (σ0 : zS), f_X11_setGrid T N s0 a0 x1 = some (r0, σ0) → Met l yX11_setGrid wsX11_setGrid ({ frames := 5, cells := 0, slots := 0, locals := 106 }) (va_Pc [.ref (ad a0), .int x1] (zPre D cy T ad s0 sz)) (va_Qi (fun (r2 : Int32) (σ2 : zS) => r2 = r0 ∧ σ2 = σ0) (zAt D cy T ad (zA T ad sz)) (zA T ad sz)) 0 0 (zA T ad sz) := by
  intro r0 σ0 hq
  refine Met.ofW (cc := cX11_setGrid) (maxL := 3) (ret := (some .int)) (by decide) rfl ?_
  intro p e s m args below meth c s₁ B hml hv
  obtain ⟨hargs, hsz, hP, hK, hD0, hN⟩ := hv
  have hx := B.exec
  have hb := B.bytes
  have hr := B.returns
  have hts := atoms_spec (ws := wsX11_setGrid) B.pre
  have hown : s.vm.findClass RX11 = some m.cls := findClass_of_methodNamed B.named
  have hlocks := B.notSynchronized
  have S : CallFix p m c cX11_setGrid 3 s args wsX11_setGrid RX11 := ⟨hx, hb, hml, hown, hts⟩
  subst hsz
  have hB : zB D cy T ad (zA T ad s.heap.size) s.heap s0 s.heap [] s := zz_entry hP hK hD0 hN
  obtain ⟨ls, hent, hl⟩ := zz_ent m hargs (n := 3) (Nat.le_of_ble_eq_true rfl)
  rw [hent]
  have hl : lv_has ls 3 [(0, .ref (ad a0)), (1, .int x1)] := hl
  have iwX11 : ∀ w ∈ u_ws RX11 TX11 5, w ∈ wsX11_setGrid := fun w h => wS (inWX11 w h)
  have iwX2 : ∀ w ∈ u_ws RX2 TX2 4, w ∈ wsX11_setGrid := fun w h => wS (inWX2 w h)
  have iwX4 : ∀ w ∈ u_ws RX4 TX4 5, w ∈ wsX11_setGrid := fun w h => wS (inWX4 w h)
  unfold f_X11_setGrid at hq
  refine zz_guard hq (fun hk0 hq => ?_)
  refine lv_iload_n hx hb dX11_setGrid_0 rfl (lv_at hl 1 rfl) ?_
  refine lv_iconst (v := 0) hx hb dX11_setGrid_1 (by decide) ?_
  refine lv_bipush (v := 100) hx hb dX11_setGrid_2 (by decide) ?_
  refine zz_callSi S hT hB (As := [.int x1, .int (0 : Int32), .int (100 : Int32)]) (o := f_X11_isWithin T N s0 x1 (0 : Int32) (100 : Int32)) (c_X11_isWithin l D cy T hT ad N s0 _ x1 (0 : Int32) (100 : Int32)) (va_cwS 3 hts (gS wSub wd_253 wd_222 wd_102 wd_221) rfl rfl rfl (by decide +kernel) ⟨Nat.le_of_ble_eq_true rfl, Nat.le_of_ble_eq_true rfl⟩) rfl hl.1 rfl (Nat.le_of_ble_eq_true rfl) dX11_setGrid_4 hq (fun x5 s4 H locs hq hB => ?_)
  refine zz_if_ne (tgt := 12) hx hb dX11_setGrid_7 (by decide) hq (fun hq => ?_) (fun hq => ?_)
  · refine lv_aload_n hx hb dX11_setGrid_12 rfl (lv_at hl 0 rfl) ?_
    refine zz_getR S hT hB (C := RX11) (ref := "DiagramDesk") (F := TX11) (N := 5) (index := 19) 11 1 iwX11 rfl (by decide) (by decide) rfl rfl (wS wd_394) (fun _ h9 => h9) dX11_setGrid_13 hq (fun a6 hq => ?_)
    refine lv_aload_n hx hb dX11_setGrid_16 rfl (lv_at hl 0 rfl) ?_
    refine zz_getR S hT hB (C := RX11) (ref := "DiagramDesk") (F := TX11) (N := 5) (index := 10) 11 0 iwX11 rfl (by decide) (by decide) rfl rfl (wS wd_391) (fun _ h9 => h9) dX11_setGrid_17 hq (fun a7 hq => ?_)
    refine zz_callVv S hT hB (As := [.ref (ad a7)]) (b := a6) (o := f_X5_keep T N s4 a6 a7) (c_X5_keep l D cy T hT ad N s4 _ a6 a7) (cwV 1 hts (gV wSub wd_395 wd_396 wd_397 wd_215 wd_398) rfl rfl rfl (by decide +kernel) ⟨Nat.le_of_ble_eq_true rfl, Nat.le_of_ble_eq_true rfl⟩) (F := TX5) (NF := 2) 5 rfl (by decide) (k_X5_keep T N s4 a6 a7) rfl hl.1 rfl (Nat.le_of_ble_eq_true rfl) dX11_setGrid_20 hq (fun s8 H locs hq hB => ?_)
    refine lv_aload_n hx hb dX11_setGrid_23 rfl (lv_at hl 0 rfl) ?_
    refine zz_getR S hT hB (C := RX11) (ref := "DiagramDesk") (F := TX11) (N := 5) (index := 10) 11 0 iwX11 rfl (by decide) (by decide) rfl rfl (wS wd_391) (fun _ h9 => h9) dX11_setGrid_24 hq (fun a9 hq => ?_)
    refine zz_getR S hT hB (C := RX2) (ref := "DiagramDesk$Diagram") (F := TX2) (N := 4) (index := 250) 2 3 iwX2 rfl (by decide) (by decide) rfl rfl (wS wd_525) (fun _ h9 => h9) dX11_setGrid_27 hq (fun a10 hq => ?_)
    refine zz_get S hT hB (C := RX4) (ref := "DiagramDesk$Guides") (F := TX4) (N := 5) (index := 259) 4 3 iwX4 rfl (by decide) (by decide) rfl rfl (wS wd_528) (fun _ h9 => h9) dX11_setGrid_30 hq (fun x11 hq => ?_)
    refine lv_istore_n (lv' := [(2, .int x11), (0, .ref (ad a0)), (1, .int x1)]) hx hb dX11_setGrid_33 rfl hl (by decide) rfl (fun ls hl => ?_)
    refine lv_aload_n hx hb dX11_setGrid_34 rfl (lv_at hl 1 rfl) ?_
    refine zz_getR S hT hB (C := RX11) (ref := "DiagramDesk") (F := TX11) (N := 5) (index := 10) 11 0 iwX11 rfl (by decide) (by decide) rfl rfl (wS wd_391) (fun _ h9 => h9) dX11_setGrid_35 hq (fun a12 hq => ?_)
    refine zz_getR S hT hB (C := RX2) (ref := "DiagramDesk$Diagram") (F := TX2) (N := 4) (index := 250) 2 3 iwX2 rfl (by decide) (by decide) rfl rfl (wS wd_525) (fun _ h9 => h9) dX11_setGrid_38 hq (fun a13 hq => ?_)
    refine lv_iload_n hx hb dX11_setGrid_41 rfl (lv_at hl 2 rfl) ?_
    refine zz_put S hT hB (C := RX4) (ref := "DiagramDesk$Guides") (F := TX4) (N := 5) (index := 259) 4 3 iwX4 tyX4 tyX4_ok nmX4 rfl (by decide) (by decide) rfl rfl (wS wd_528) (fun _ h9 => h9) rfl (by decide +kernel) dX11_setGrid_42 hq (fun s14 H locs hq hB => ?_)
    refine lv_iload_n hx hb dX11_setGrid_45 rfl (lv_at hl 0 rfl) ?_
    exact zz_iret S hB hr hlocks dX11_setGrid_46 hq
  · refine lv_iconst (v := -1) hx hb dX11_setGrid_10 (by decide) ?_
    exact zz_iret S hB hr hlocks dX11_setGrid_11 hq
def f_X11_setTolerance (T : zT) (N : Nat) (s0 : zS) (a0 : Nat) (x1 : Int32) : Option (Int32 × zS) :=
  zz1 (T.1 a0 = 11) <|
  zb2 (f_X11_isWithin T N s0 x1 (0 : Int32) (50 : Int32)) fun x5 s4 =>
  if ¬ x5 = 0 then (
    (gR T s4 a0 11 1).bind fun a6 =>
    (gR T s4 a0 11 0).bind fun a7 =>
    (f_X5_keep T N s4 a6 a7).bind fun s8 =>
    (gR T s8 a0 11 0).bind fun a9 =>
    (gR T s8 a9 2 3).bind fun a10 =>
    (gI T s8 a10 4 4).bind fun x11 =>
    (gR T s8 a0 11 0).bind fun a12 =>
    (gR T s8 a12 2 3).bind fun a13 =>
    (pI T s8 a13 4 4 x1).bind fun s14 =>
    some (x11, s14))
  else (
    some ((-1 : Int32), s4))
theorem k_X11_setTolerance (T : zT) (N : Nat) (s0 : zS) (a0 : Nat) (x1 : Int32) : ∀ q, f_X11_setTolerance T N s0 a0 x1 = some q → T.1 a0 = 11 := by
  intro q h
  unfold f_X11_setTolerance at h
  exact zz_guard h (fun h _ => h)
set_option maxHeartbeats 4000000 in
set_option maxRecDepth 100000 in
theorem c_X11_setTolerance (l : Launch) (D : va_G) (cy : Nat → ClassId) (T : zT) (hT : zok T) (ad : Nat → Nat) (N : Nat) (s0 : zS) (sz : Nat) (a0 : Nat) (x1 : Int32) : ∀ (r0 : Int32) (σ0 : zS), f_X11_setTolerance T N s0 a0 x1 = some (r0, σ0) → Met l yX11_setTolerance wsX11_setTolerance ({ frames := 5, cells := 0, slots := 0, locals := 106 }) (va_Pc [.ref (ad a0), .int x1] (zPre D cy T ad s0 sz)) (va_Qi (fun (r2 : Int32) (σ2 : zS) => r2 = r0 ∧ σ2 = σ0) (zAt D cy T ad (zA T ad sz)) (zA T ad sz)) 0 0 (zA T ad sz) := by
  intro r0 σ0 hq
  refine Met.ofW (cc := cX11_setTolerance) (maxL := 3) (ret := (some .int)) (by decide) rfl ?_
  intro p e s m args below meth c s₁ B hml hv
  obtain ⟨hargs, hsz, hP, hK, hD0, hN⟩ := hv
  have hx := B.exec
  have hb := B.bytes
  have hr := B.returns
  have hts := atoms_spec (ws := wsX11_setTolerance) B.pre
  have hown : s.vm.findClass RX11 = some m.cls := findClass_of_methodNamed B.named
  have hlocks := B.notSynchronized
  have S : CallFix p m c cX11_setTolerance 3 s args wsX11_setTolerance RX11 := ⟨hx, hb, hml, hown, hts⟩
  subst hsz
  have hB : zB D cy T ad (zA T ad s.heap.size) s.heap s0 s.heap [] s := zz_entry hP hK hD0 hN
  obtain ⟨ls, hent, hl⟩ := zz_ent m hargs (n := 3) (Nat.le_of_ble_eq_true rfl)
  rw [hent]
  have hl : lv_has ls 3 [(0, .ref (ad a0)), (1, .int x1)] := hl
  have iwX11 : ∀ w ∈ u_ws RX11 TX11 5, w ∈ wsX11_setTolerance := fun w h => wS (inWX11 w h)
  have iwX2 : ∀ w ∈ u_ws RX2 TX2 4, w ∈ wsX11_setTolerance := fun w h => wS (inWX2 w h)
  have iwX4 : ∀ w ∈ u_ws RX4 TX4 5, w ∈ wsX11_setTolerance := fun w h => wS (inWX4 w h)
  unfold f_X11_setTolerance at hq
  refine zz_guard hq (fun hk0 hq => ?_)
  refine lv_iload_n hx hb dX11_setTolerance_0 rfl (lv_at hl 1 rfl) ?_
  refine lv_iconst (v := 0) hx hb dX11_setTolerance_1 (by decide) ?_
  refine lv_bipush (v := 50) hx hb dX11_setTolerance_2 (by decide) ?_
  refine zz_callSi S hT hB (As := [.int x1, .int (0 : Int32), .int (50 : Int32)]) (o := f_X11_isWithin T N s0 x1 (0 : Int32) (50 : Int32)) (c_X11_isWithin l D cy T hT ad N s0 _ x1 (0 : Int32) (50 : Int32)) (va_cwS 3 hts (gS wSub wd_253 wd_222 wd_102 wd_221) rfl rfl rfl (by decide +kernel) ⟨Nat.le_of_ble_eq_true rfl, Nat.le_of_ble_eq_true rfl⟩) rfl hl.1 rfl (Nat.le_of_ble_eq_true rfl) dX11_setTolerance_4 hq (fun x5 s4 H locs hq hB => ?_)
  refine zz_if_ne (tgt := 12) hx hb dX11_setTolerance_7 (by decide) hq (fun hq => ?_) (fun hq => ?_)
  · refine lv_aload_n hx hb dX11_setTolerance_12 rfl (lv_at hl 0 rfl) ?_
    refine zz_getR S hT hB (C := RX11) (ref := "DiagramDesk") (F := TX11) (N := 5) (index := 19) 11 1 iwX11 rfl (by decide) (by decide) rfl rfl (wS wd_394) (fun _ h9 => h9) dX11_setTolerance_13 hq (fun a6 hq => ?_)
    refine lv_aload_n hx hb dX11_setTolerance_16 rfl (lv_at hl 0 rfl) ?_
    refine zz_getR S hT hB (C := RX11) (ref := "DiagramDesk") (F := TX11) (N := 5) (index := 10) 11 0 iwX11 rfl (by decide) (by decide) rfl rfl (wS wd_391) (fun _ h9 => h9) dX11_setTolerance_17 hq (fun a7 hq => ?_)
    refine zz_callVv S hT hB (As := [.ref (ad a7)]) (b := a6) (o := f_X5_keep T N s4 a6 a7) (c_X5_keep l D cy T hT ad N s4 _ a6 a7) (cwV 1 hts (gV wSub wd_395 wd_396 wd_397 wd_215 wd_398) rfl rfl rfl (by decide +kernel) ⟨Nat.le_of_ble_eq_true rfl, Nat.le_of_ble_eq_true rfl⟩) (F := TX5) (NF := 2) 5 rfl (by decide) (k_X5_keep T N s4 a6 a7) rfl hl.1 rfl (Nat.le_of_ble_eq_true rfl) dX11_setTolerance_20 hq (fun s8 H locs hq hB => ?_)
    refine lv_aload_n hx hb dX11_setTolerance_23 rfl (lv_at hl 0 rfl) ?_
    refine zz_getR S hT hB (C := RX11) (ref := "DiagramDesk") (F := TX11) (N := 5) (index := 10) 11 0 iwX11 rfl (by decide) (by decide) rfl rfl (wS wd_391) (fun _ h9 => h9) dX11_setTolerance_24 hq (fun a9 hq => ?_)
    refine zz_getR S hT hB (C := RX2) (ref := "DiagramDesk$Diagram") (F := TX2) (N := 4) (index := 250) 2 3 iwX2 rfl (by decide) (by decide) rfl rfl (wS wd_525) (fun _ h9 => h9) dX11_setTolerance_27 hq (fun a10 hq => ?_)
    refine zz_get S hT hB (C := RX4) (ref := "DiagramDesk$Guides") (F := TX4) (N := 5) (index := 262) 4 4 iwX4 rfl (by decide) (by decide) rfl rfl (wS wd_529) (fun _ h9 => h9) dX11_setTolerance_30 hq (fun x11 hq => ?_)
    refine lv_istore_n (lv' := [(2, .int x11), (0, .ref (ad a0)), (1, .int x1)]) hx hb dX11_setTolerance_33 rfl hl (by decide) rfl (fun ls hl => ?_)
    refine lv_aload_n hx hb dX11_setTolerance_34 rfl (lv_at hl 1 rfl) ?_
    refine zz_getR S hT hB (C := RX11) (ref := "DiagramDesk") (F := TX11) (N := 5) (index := 10) 11 0 iwX11 rfl (by decide) (by decide) rfl rfl (wS wd_391) (fun _ h9 => h9) dX11_setTolerance_35 hq (fun a12 hq => ?_)
    refine zz_getR S hT hB (C := RX2) (ref := "DiagramDesk$Diagram") (F := TX2) (N := 4) (index := 250) 2 3 iwX2 rfl (by decide) (by decide) rfl rfl (wS wd_525) (fun _ h9 => h9) dX11_setTolerance_38 hq (fun a13 hq => ?_)
    refine lv_iload_n hx hb dX11_setTolerance_41 rfl (lv_at hl 2 rfl) ?_
    refine zz_put S hT hB (C := RX4) (ref := "DiagramDesk$Guides") (F := TX4) (N := 5) (index := 262) 4 4 iwX4 tyX4 tyX4_ok nmX4 rfl (by decide) (by decide) rfl rfl (wS wd_529) (fun _ h9 => h9) rfl (by decide +kernel) dX11_setTolerance_42 hq (fun s14 H locs hq hB => ?_)
    refine lv_iload_n hx hb dX11_setTolerance_45 rfl (lv_at hl 0 rfl) ?_
    exact zz_iret S hB hr hlocks dX11_setTolerance_46 hq
  · refine lv_iconst (v := -1) hx hb dX11_setTolerance_10 (by decide) ?_
    exact zz_iret S hB hr hlocks dX11_setTolerance_11 hq
def f_X11_type (T : zT) (N : Nat) (s0 : zS) (a0 : Nat) (x1 : Int32) : Option (Int32 × zS) :=
  zz1 (T.1 a0 = 11) <|
  zb2 (f_X11_isWithin T N s0 x1 (32 : Int32) (126 : Int32)) fun x5 s4 =>
  if ¬ x5 = 0 then (
    (gR T s4 a0 11 2).bind fun a6 =>
    zb2 (f_X9_append T N s4 a6 x1) fun x8 s7 =>
    if x8 = 0 then (
      some ((-3 : Int32), s7))
    else (
      (gR T s7 a0 11 2).bind fun a9 =>
      (gI T s7 a9 9 2).bind fun x10 =>
      some (x10, s7)))
  else (
    some ((-1 : Int32), s4))
theorem k_X11_type (T : zT) (N : Nat) (s0 : zS) (a0 : Nat) (x1 : Int32) : ∀ q, f_X11_type T N s0 a0 x1 = some q → T.1 a0 = 11 := by
  intro q h
  unfold f_X11_type at h
  exact zz_guard h (fun h _ => h)
set_option maxHeartbeats 4000000 in
set_option maxRecDepth 100000 in
theorem c_X11_type (l : Launch) (D : va_G) (cy : Nat → ClassId) (T : zT) (hT : zok T) (ad : Nat → Nat) (N : Nat) (s0 : zS) (sz : Nat) (a0 : Nat) (x1 : Int32) : ∀ (r0 : Int32) (σ0 : zS), f_X11_type T N s0 a0 x1 = some (r0, σ0) → Met l yX11_type wsX11_type ({ frames := 1, cells := 0, slots := 0, locals := 22 }) (va_Pc [.ref (ad a0), .int x1] (zPre D cy T ad s0 sz)) (va_Qi (fun (r2 : Int32) (σ2 : zS) => r2 = r0 ∧ σ2 = σ0) (zAt D cy T ad (zA T ad sz)) (zA T ad sz)) 0 0 (zA T ad sz) := by
  intro r0 σ0 hq
  refine Met.ofW (cc := cX11_type) (maxL := 2) (ret := (some .int)) (by decide) rfl ?_
  intro p e s m args below meth c s₁ B hml hv
  obtain ⟨hargs, hsz, hP, hK, hD0, hN⟩ := hv
  have hx := B.exec
  have hb := B.bytes
  have hr := B.returns
  have hts := atoms_spec (ws := wsX11_type) B.pre
  have hown : s.vm.findClass RX11 = some m.cls := findClass_of_methodNamed B.named
  have hlocks := B.notSynchronized
  have S : CallFix p m c cX11_type 2 s args wsX11_type RX11 := ⟨hx, hb, hml, hown, hts⟩
  subst hsz
  have hB : zB D cy T ad (zA T ad s.heap.size) s.heap s0 s.heap [] s := zz_entry hP hK hD0 hN
  obtain ⟨ls, hent, hl⟩ := zz_ent m hargs (n := 2) (Nat.le_of_ble_eq_true rfl)
  rw [hent]
  have hl : lv_has ls 2 [(0, .ref (ad a0)), (1, .int x1)] := hl
  have iwX11 : ∀ w ∈ u_ws RX11 TX11 5, w ∈ wsX11_type := fun w h => wS (inWX11 w h)
  have iwX9 : ∀ w ∈ u_ws RX9 TX9 7, w ∈ wsX11_type := fun w h => wS (inWX9 w h)
  unfold f_X11_type at hq
  refine zz_guard hq (fun hk0 hq => ?_)
  refine lv_iload_n hx hb dX11_type_0 rfl (lv_at hl 1 rfl) ?_
  refine lv_bipush (v := 32) hx hb dX11_type_1 (by decide) ?_
  refine lv_bipush (v := 126) hx hb dX11_type_3 (by decide) ?_
  refine zz_callSi S hT hB (As := [.int x1, .int (32 : Int32), .int (126 : Int32)]) (o := f_X11_isWithin T N s0 x1 (32 : Int32) (126 : Int32)) (c_X11_isWithin l D cy T hT ad N s0 _ x1 (32 : Int32) (126 : Int32)) (va_cwS 3 hts (gS wSub wd_253 wd_222 wd_102 wd_221) rfl rfl rfl (by decide +kernel) ⟨Nat.le_of_ble_eq_true rfl, Nat.le_of_ble_eq_true rfl⟩) rfl hl.1 rfl (Nat.le_of_ble_eq_true rfl) dX11_type_5 hq (fun x5 s4 H locs hq hB => ?_)
  refine zz_if_ne (tgt := 13) hx hb dX11_type_8 (by decide) hq (fun hq => ?_) (fun hq => ?_)
  · refine lv_aload_n hx hb dX11_type_13 rfl (lv_at hl 0 rfl) ?_
    refine zz_getR S hT hB (C := RX11) (ref := "DiagramDesk") (F := TX11) (N := 5) (index := 26) 11 2 iwX11 rfl (by decide) (by decide) rfl rfl (wS wd_530) (fun _ h9 => h9) dX11_type_14 hq (fun a6 hq => ?_)
    refine lv_iload_n hx hb dX11_type_17 rfl (lv_at hl 1 rfl) ?_
    refine zz_callVi S hT hB (As := [.int x1]) (b := a6) (o := f_X9_append T N s4 a6 x1) (c_X9_append l D cy T hT ad N s4 _ a6 x1) (cwV 1 hts (gV wSub wd_531 wd_532 wd_533 wd_314 wd_534) rfl rfl rfl (by decide +kernel) ⟨Nat.le_of_ble_eq_true rfl, Nat.le_of_ble_eq_true rfl⟩) (F := TX9) (NF := 7) 9 rfl (by decide) (k_X9_append T N s4 a6 x1) rfl hl.1 rfl (Nat.le_of_ble_eq_true rfl) dX11_type_18 hq (fun x8 s7 H locs hq hB => ?_)
    refine zz_if_eq (tgt := 34) hx hb dX11_type_21 (by decide) hq (fun hq => ?_) (fun hq => ?_)
    · refine lv_bipush (v := -3) hx hb dX11_type_34 (by decide) ?_
      exact zz_iret S hB hr hlocks dX11_type_36 hq
    · refine lv_aload_n hx hb dX11_type_24 rfl (lv_at hl 0 rfl) ?_
      refine zz_getR S hT hB (C := RX11) (ref := "DiagramDesk") (F := TX11) (N := 5) (index := 26) 11 2 iwX11 rfl (by decide) (by decide) rfl rfl (wS wd_530) (fun _ h9 => h9) dX11_type_25 hq (fun a9 hq => ?_)
      refine zz_get S hT hB (C := RX9) (ref := "DiagramDesk$Text") (F := TX9) (N := 7) (index := 268) 9 2 iwX9 rfl (by decide) (by decide) rfl rfl (wS wd_535) (fun _ h9 => h9) dX11_type_28 hq (fun x10 hq => ?_)
      refine lv_goto (tgt := 36) hx hb dX11_type_31 (by decide) ?_
      exact zz_iret S hB hr hlocks dX11_type_36 hq
  · refine lv_iconst (v := -1) hx hb dX11_type_11 (by decide) ?_
    exact zz_iret S hB hr hlocks dX11_type_12 hq
def f_X11_clear (T : zT) (N : Nat) (s0 : zS) (a0 : Nat) : Option (Int32 × zS) :=
  zz1 (T.1 a0 = 11) <|
  (gR T s0 a0 11 2).bind fun a3 =>
  (gI T s0 a3 9 2).bind fun x4 =>
  (gR T s0 a0 11 2).bind fun a5 =>
  (pI T s0 a5 9 2 (0 : Int32)).bind fun s6 =>
  some (x4, s6)
theorem k_X11_clear (T : zT) (N : Nat) (s0 : zS) (a0 : Nat) : ∀ q, f_X11_clear T N s0 a0 = some q → T.1 a0 = 11 := by
  intro q h
  unfold f_X11_clear at h
  exact zz_guard h (fun h _ => h)
set_option maxHeartbeats 4000000 in
set_option maxRecDepth 100000 in
theorem c_X11_clear (l : Launch) (D : va_G) (cy : Nat → ClassId) (T : zT) (hT : zok T) (ad : Nat → Nat) (N : Nat) (s0 : zS) (sz : Nat) (a0 : Nat) : ∀ (r0 : Int32) (σ0 : zS), f_X11_clear T N s0 a0 = some (r0, σ0) → Met l yX11_clear wsX11_clear ({ frames := 0, cells := 0, slots := 0, locals := 0 }) (va_Pc [.ref (ad a0)] (zPre D cy T ad s0 sz)) (va_Qi (fun (r2 : Int32) (σ2 : zS) => r2 = r0 ∧ σ2 = σ0) (zAt D cy T ad (zA T ad sz)) (zA T ad sz)) 0 0 (zA T ad sz) := by
  intro r0 σ0 hq
  refine Met.ofW (cc := cX11_clear) (maxL := 2) (ret := (some .int)) (by decide) rfl ?_
  intro p e s m args below meth c s₁ B hml hv
  obtain ⟨hargs, hsz, hP, hK, hD0, hN⟩ := hv
  have hx := B.exec
  have hb := B.bytes
  have hr := B.returns
  have hts := atoms_spec (ws := wsX11_clear) B.pre
  have hown : s.vm.findClass RX11 = some m.cls := findClass_of_methodNamed B.named
  have hlocks := B.notSynchronized
  have S : CallFix p m c cX11_clear 2 s args wsX11_clear RX11 := ⟨hx, hb, hml, hown, hts⟩
  subst hsz
  have hB : zB D cy T ad (zA T ad s.heap.size) s.heap s0 s.heap [] s := zz_entry hP hK hD0 hN
  obtain ⟨ls, hent, hl⟩ := zz_ent m hargs (n := 2) (Nat.le_of_ble_eq_true rfl)
  rw [hent]
  have hl : lv_has ls 2 [(0, .ref (ad a0))] := hl
  have iwX11 : ∀ w ∈ u_ws RX11 TX11 5, w ∈ wsX11_clear := fun w h => wS (inWX11 w h)
  have iwX9 : ∀ w ∈ u_ws RX9 TX9 7, w ∈ wsX11_clear := fun w h => wS (inWX9 w h)
  unfold f_X11_clear at hq
  refine zz_guard hq (fun hk0 hq => ?_)
  refine lv_aload_n hx hb dX11_clear_0 rfl (lv_at hl 0 rfl) ?_
  refine zz_getR S hT hB (C := RX11) (ref := "DiagramDesk") (F := TX11) (N := 5) (index := 26) 11 2 iwX11 rfl (by decide) (by decide) rfl rfl (wS wd_530) (fun _ h9 => h9) dX11_clear_1 hq (fun a3 hq => ?_)
  refine zz_get S hT hB (C := RX9) (ref := "DiagramDesk$Text") (F := TX9) (N := 7) (index := 268) 9 2 iwX9 rfl (by decide) (by decide) rfl rfl (wS wd_535) (fun _ h9 => h9) dX11_clear_4 hq (fun x4 hq => ?_)
  refine lv_istore_n (lv' := [(1, .int x4), (0, .ref (ad a0))]) hx hb dX11_clear_7 rfl hl (by decide) rfl (fun ls hl => ?_)
  refine lv_aload_n hx hb dX11_clear_8 rfl (lv_at hl 1 rfl) ?_
  refine zz_getR S hT hB (C := RX11) (ref := "DiagramDesk") (F := TX11) (N := 5) (index := 26) 11 2 iwX11 rfl (by decide) (by decide) rfl rfl (wS wd_530) (fun _ h9 => h9) dX11_clear_9 hq (fun a5 hq => ?_)
  refine lv_iconst (v := 0) hx hb dX11_clear_12 (by decide) ?_
  refine zz_put S hT hB (C := RX9) (ref := "DiagramDesk$Text") (F := TX9) (N := 7) (index := 268) 9 2 iwX9 tyX9 tyX9_ok nmX9 rfl (by decide) (by decide) rfl rfl (wS wd_535) (fun _ h9 => h9) rfl (by decide +kernel) dX11_clear_13 hq (fun s6 H locs hq hB => ?_)
  refine lv_iload_n hx hb dX11_clear_16 rfl (lv_at hl 0 rfl) ?_
  exact zz_iret S hB hr hlocks dX11_clear_17 hq
def f_X11_read_L58 (T : zT) (N : Nat) (a0 : Nat) (k58 : Int32 → zS → Option (Int32 × zS)) (x14 : Int32) (s15 : zS) : Option (Int32 × zS) :=
  (gR T s15 a0 11 2).bind fun a16 =>
  (gI T s15 a16 9 3).bind fun x17 =>
  if x17 ≤ x14 then (
    (gR T s15 a0 11 2).bind fun a18 =>
    (pI T s15 a18 9 2 (0 : Int32)).bind fun s19 =>
    (gR T s19 a0 11 2).bind fun a20 =>
    (gI T s19 a20 9 3).bind fun x21 =>
    some (x21, s19))
  else (
    (gR T s15 a0 11 2).bind fun a22 =>
    zb2 (f_X9_draft T N s15 a22 x14) fun o24 s23 => zo o24 (
      zn (x14 + (1 : Int32)) fun x26 =>
      k58 x26 s23)
    fun a25 => (
      (gR T s23 a0 11 0).bind fun a27 =>
      (gR T s23 a27 2 0).bind fun a28 =>
      (gI T s23 a25 6 1).bind fun x29 =>
      (gI T s23 a25 6 2).bind fun x30 =>
      (gI T s23 a25 6 3).bind fun x31 =>
      (gI T s23 a25 6 4).bind fun x32 =>
      (gI T s23 a25 6 5).bind fun x33 =>
      zb2 (f_X7_add T N s23 a28 x29 x30 x31 x32 x33) fun x35 s34 =>
      zn (x14 + (1 : Int32)) fun x36 =>
      k58 x36 s34))
def f_X11_read (T : zT) (N : Nat) (s0 : zS) (a0 : Nat) : Option (Int32 × zS) :=
  zz1 (T.1 a0 = 11) <|
  (gR T s0 a0 11 2).bind fun a3 =>
  zb2 (f_X9_parse T N s0 a3) fun x5 s4 =>
  if x5 = (-1000000 : Int32) then (
    (gR T s4 a0 11 0).bind fun a6 =>
    (gR T s4 a6 2 0).bind fun a7 =>
    (gI T s4 a7 7 1).bind fun x8 =>
    (gR T s4 a0 11 2).bind fun a9 =>
    (gI T s4 a9 9 3).bind fun x10 =>
    if (x8 + x10) ≤ (20 : Int32) then (
      (gR T s4 a0 11 1).bind fun a11 =>
      (gR T s4 a0 11 0).bind fun a12 =>
      (f_X5_keep T N s4 a11 a12).bind fun s13 =>
      zl2 (f_X11_read_L58 T N a0) N (0 : Int32) s13)
    else (
      some ((-3 : Int32), s4)))
  else (
    some ((-100 : Int32) - x5, s4))
theorem k_X11_read (T : zT) (N : Nat) (s0 : zS) (a0 : Nat) : ∀ q, f_X11_read T N s0 a0 = some q → T.1 a0 = 11 := by
  intro q h
  unfold f_X11_read at h
  exact zz_guard h (fun h _ => h)
set_option maxHeartbeats 4000000 in
set_option maxRecDepth 100000 in
theorem c_X11_read (l : Launch) (D : va_G) (cy : Nat → ClassId) (T : zT) (hT : zok T) (ad : Nat → Nat) (N : Nat) (s0 : zS) (sz : Nat) (a0 : Nat) : ∀ (r0 : Int32) (σ0 : zS), f_X11_read T N s0 a0 = some (r0, σ0) → Met l yX11_read wsX11_read ({ frames := 5, cells := 0, slots := 0, locals := 111 }) (va_Pc [.ref (ad a0)] (zPre D cy T ad s0 sz)) (va_Qi (fun (r2 : Int32) (σ2 : zS) => r2 = r0 ∧ σ2 = σ0) (zAt D cy T ad (zA T ad sz)) (zA T ad sz)) 0 0 (zA T ad sz) := by
  intro r0 σ0 hq
  refine Met.ofW (cc := cX11_read) (maxL := 4) (ret := (some .int)) (by decide) rfl ?_
  intro p e s m args below meth c s₁ B hml hv
  obtain ⟨hargs, hsz, hP, hK, hD0, hN⟩ := hv
  have hx := B.exec
  have hb := B.bytes
  have hr := B.returns
  have hts := atoms_spec (ws := wsX11_read) B.pre
  have hown : s.vm.findClass RX11 = some m.cls := findClass_of_methodNamed B.named
  have hlocks := B.notSynchronized
  have S : CallFix p m c cX11_read 4 s args wsX11_read RX11 := ⟨hx, hb, hml, hown, hts⟩
  subst hsz
  have hB : zB D cy T ad (zA T ad s.heap.size) s.heap s0 s.heap [] s := zz_entry hP hK hD0 hN
  obtain ⟨ls, hent, hl⟩ := zz_ent m hargs (n := 4) (Nat.le_of_ble_eq_true rfl)
  rw [hent]
  have hl : lv_has ls 4 [(0, .ref (ad a0))] := hl
  have iwX11 : ∀ w ∈ u_ws RX11 TX11 5, w ∈ wsX11_read := fun w h => wS (inWX11 w h)
  have iwX2 : ∀ w ∈ u_ws RX2 TX2 4, w ∈ wsX11_read := fun w h => wS (inWX2 w h)
  have iwX7 : ∀ w ∈ u_ws RX7 TX7 3, w ∈ wsX11_read := fun w h => wS (inWX7 w h)
  have iwX9 : ∀ w ∈ u_ws RX9 TX9 7, w ∈ wsX11_read := fun w h => wS (inWX9 w h)
  have iwX6 : ∀ w ∈ u_ws RX6 TX6 8, w ∈ wsX11_read := fun w h => wS (inWX6 w h)
  unfold f_X11_read at hq
  refine zz_guard hq (fun hk0 hq => ?_)
  refine lv_aload_n hx hb dX11_read_0 rfl (lv_at hl 0 rfl) ?_
  refine zz_getR S hT hB (C := RX11) (ref := "DiagramDesk") (F := TX11) (N := 5) (index := 26) 11 2 iwX11 rfl (by decide) (by decide) rfl rfl (wS wd_530) (fun _ h9 => h9) dX11_read_1 hq (fun a3 hq => ?_)
  refine zz_callVi S hT hB (As := []) (b := a3) (o := f_X9_parse T N s0 a3) (c_X9_parse l D cy T hT ad N s0 _ a3) (cwV 0 hts (gV wSub wd_536 wd_537 wd_538 wd_314 wd_539) rfl rfl rfl (by decide +kernel) ⟨Nat.le_of_ble_eq_true rfl, Nat.le_of_ble_eq_true rfl⟩) (F := TX9) (NF := 7) 9 rfl (by decide) (k_X9_parse T N s0 a3) rfl hl.1 rfl (Nat.le_of_ble_eq_true rfl) dX11_read_4 hq (fun x5 s4 H locs hq hB => ?_)
  refine lv_istore_n (lv' := [(1, .int x5), (0, .ref (ad a0))]) hx hb dX11_read_7 rfl hl (by decide) rfl (fun ls hl => ?_)
  refine lv_iload_n hx hb dX11_read_8 rfl (lv_at hl 0 rfl) ?_
  refine lv_ldc (v := -1000000) hx hb hown (hts _ (wS wd_415)) dX11_read_9 ?_
  refine zz_icmp_eq (tgt := 19) hx hb dX11_read_11 (by decide) hq (fun hq => ?_) (fun hq => ?_)
  · refine lv_aload_n hx hb dX11_read_19 rfl (lv_at hl 1 rfl) ?_
    refine zz_getR S hT hB (C := RX11) (ref := "DiagramDesk") (F := TX11) (N := 5) (index := 10) 11 0 iwX11 rfl (by decide) (by decide) rfl rfl (wS wd_391) (fun _ h9 => h9) dX11_read_20 hq (fun a6 hq => ?_)
    refine zz_getR S hT hB (C := RX2) (ref := "DiagramDesk$Diagram") (F := TX2) (N := 4) (index := 55) 2 0 iwX2 rfl (by decide) (by decide) rfl rfl (wS wd_392) (fun _ h9 => h9) dX11_read_23 hq (fun a7 hq => ?_)
    refine zz_get S hT hB (C := RX7) (ref := "DiagramDesk$Shapes") (F := TX7) (N := 3) (index := 59) 7 1 iwX7 rfl (by decide) (by decide) rfl rfl (wS wd_393) (fun _ h9 => h9) dX11_read_26 hq (fun x8 hq => ?_)
    refine lv_aload_n hx hb dX11_read_29 rfl (lv_at hl 1 rfl) ?_
    refine zz_getR S hT hB (C := RX11) (ref := "DiagramDesk") (F := TX11) (N := 5) (index := 26) 11 2 iwX11 rfl (by decide) (by decide) rfl rfl (wS wd_530) (fun _ h9 => h9) dX11_read_30 hq (fun a9 hq => ?_)
    refine zz_get S hT hB (C := RX9) (ref := "DiagramDesk$Text") (F := TX9) (N := 7) (index := 272) 9 3 iwX9 rfl (by decide) (by decide) rfl rfl (wS wd_540) (fun _ h9 => h9) dX11_read_33 hq (fun x10 hq => ?_)
    refine lv_iadd hx hb dX11_read_36 ?_
    refine lv_bipush (v := 20) hx hb dX11_read_37 (by decide) ?_
    refine zz_icmp_le (tgt := 45) hx hb dX11_read_39 (by decide) hq (fun hq => ?_) (fun hq => ?_)
    · refine lv_aload_n hx hb dX11_read_45 rfl (lv_at hl 1 rfl) ?_
      refine zz_getR S hT hB (C := RX11) (ref := "DiagramDesk") (F := TX11) (N := 5) (index := 19) 11 1 iwX11 rfl (by decide) (by decide) rfl rfl (wS wd_394) (fun _ h9 => h9) dX11_read_46 hq (fun a11 hq => ?_)
      refine lv_aload_n hx hb dX11_read_49 rfl (lv_at hl 1 rfl) ?_
      refine zz_getR S hT hB (C := RX11) (ref := "DiagramDesk") (F := TX11) (N := 5) (index := 10) 11 0 iwX11 rfl (by decide) (by decide) rfl rfl (wS wd_391) (fun _ h9 => h9) dX11_read_50 hq (fun a12 hq => ?_)
      refine zz_callVv S hT hB (As := [.ref (ad a12)]) (b := a11) (o := f_X5_keep T N s4 a11 a12) (c_X5_keep l D cy T hT ad N s4 _ a11 a12) (cwV 1 hts (gV wSub wd_395 wd_396 wd_397 wd_215 wd_398) rfl rfl rfl (by decide +kernel) ⟨Nat.le_of_ble_eq_true rfl, Nat.le_of_ble_eq_true rfl⟩) (F := TX5) (NF := 2) 5 rfl (by decide) (k_X5_keep T N s4 a11 a12) rfl hl.1 rfl (Nat.le_of_ble_eq_true rfl) dX11_read_53 hq (fun s13 H locs hq hB => ?_)
      refine lv_iconst (v := 0) hx hb dX11_read_56 (by decide) ?_
      refine lv_istore_n (lv' := [(2, .int (0 : Int32)), (1, .int x5), (0, .ref (ad a0))]) hx hb dX11_read_57 rfl hl (by decide) rfl (fun ls hl => ?_)
      have L58 : ∀ (n : Nat) (x14 : Int32) (s15 : zS) (H : Heap) (locs : List Loc) (ls : Array Slot), zl2 (f_X11_read_L58 T N a0) n x14 s15 = some (r0, σ0) → zB D cy T ad (zA T ad s.heap.size) s.heap s15 H locs s → lv_has ls 4 [(0, .ref (ad a0)), (2, .int x14)] → W p l e (headSpec wsX11_read ({ frames := 5, cells := 0, slots := 0, locals := 111 } : Room)).room s m args below meth c H locs 0 0 (MQ below (va_Qi (fun (r2 : Int32) (σ2 : zS) => r2 = r0 ∧ σ2 = σ0) (zAt D cy T ad (zA T ad s.heap.size)) (zA T ad s.heap.size)) args s 0 0 (zA T ad s.heap.size)) (F0 m 58 ls []) := by
        intro n
        induction n with
        | zero => intro x14 s15 H locs ls hq; exact zz_none hq
        | succ n ih58 =>
          intro x14 s15 H locs ls hq hB hl
          rw [zl2] at hq
          generalize zl2 (f_X11_read_L58 T N a0) n = k58 at ih58 hq
          unfold f_X11_read_L58 at hq
          refine lv_iload_n hx hb dX11_read_58 rfl (lv_at hl 1 rfl) ?_
          refine lv_aload_n hx hb dX11_read_59 rfl (lv_at hl 0 rfl) ?_
          refine zz_getR S hT hB (C := RX11) (ref := "DiagramDesk") (F := TX11) (N := 5) (index := 26) 11 2 iwX11 rfl (by decide) (by decide) rfl rfl (wS wd_530) (fun _ h9 => h9) dX11_read_60 hq (fun a16 hq => ?_)
          refine zz_get S hT hB (C := RX9) (ref := "DiagramDesk$Text") (F := TX9) (N := 7) (index := 272) 9 3 iwX9 rfl (by decide) (by decide) rfl rfl (wS wd_540) (fun _ h9 => h9) dX11_read_63 hq (fun x17 hq => ?_)
          refine zz_icmp_ge (tgt := 119) hx hb dX11_read_66 (by decide) hq (fun hq => ?_) (fun hq => ?_)
          · refine lv_aload_n hx hb dX11_read_119 rfl (lv_at hl 0 rfl) ?_
            refine zz_getR S hT hB (C := RX11) (ref := "DiagramDesk") (F := TX11) (N := 5) (index := 26) 11 2 iwX11 rfl (by decide) (by decide) rfl rfl (wS wd_530) (fun _ h9 => h9) dX11_read_120 hq (fun a18 hq => ?_)
            refine lv_iconst (v := 0) hx hb dX11_read_123 (by decide) ?_
            refine zz_put S hT hB (C := RX9) (ref := "DiagramDesk$Text") (F := TX9) (N := 7) (index := 268) 9 2 iwX9 tyX9 tyX9_ok nmX9 rfl (by decide) (by decide) rfl rfl (wS wd_535) (fun _ h9 => h9) rfl (by decide +kernel) dX11_read_124 hq (fun s19 H locs hq hB => ?_)
            refine lv_aload_n hx hb dX11_read_127 rfl (lv_at hl 0 rfl) ?_
            refine zz_getR S hT hB (C := RX11) (ref := "DiagramDesk") (F := TX11) (N := 5) (index := 26) 11 2 iwX11 rfl (by decide) (by decide) rfl rfl (wS wd_530) (fun _ h9 => h9) dX11_read_128 hq (fun a20 hq => ?_)
            refine zz_get S hT hB (C := RX9) (ref := "DiagramDesk$Text") (F := TX9) (N := 7) (index := 272) 9 3 iwX9 rfl (by decide) (by decide) rfl rfl (wS wd_540) (fun _ h9 => h9) dX11_read_131 hq (fun x21 hq => ?_)
            exact zz_iret S hB hr hlocks dX11_read_134 hq
          · refine lv_aload_n hx hb dX11_read_69 rfl (lv_at hl 0 rfl) ?_
            refine zz_getR S hT hB (C := RX11) (ref := "DiagramDesk") (F := TX11) (N := 5) (index := 26) 11 2 iwX11 rfl (by decide) (by decide) rfl rfl (wS wd_530) (fun _ h9 => h9) dX11_read_70 hq (fun a22 hq => ?_)
            refine lv_iload_n hx hb dX11_read_73 rfl (lv_at hl 1 rfl) ?_
            refine zz_callVq S hT hB (As := [.int x14]) (b := a22) (o := f_X9_draft T N s15 a22 x14) (c_X9_draft l D cy T hT ad N s15 _ a22 x14) (cwV 1 hts (gV wSub wd_541 wd_542 wd_543 wd_314 wd_544) rfl rfl rfl (by decide +kernel) ⟨Nat.le_of_ble_eq_true rfl, Nat.le_of_ble_eq_true rfl⟩) (F := TX9) (NF := 7) 9 rfl (by decide) (k_X9_draft T N s15 a22 x14) rfl hl.1 rfl (Nat.le_of_ble_eq_true rfl) dX11_read_74 hq (fun s23 H locs hq hB => ?_) (fun a25 s23 H locs hq hB => ?_)
            · refine lv_astore_nN (lv' := [(3, .null), (0, .ref (ad a0)), (2, .int x14)]) hx hb dX11_read_77 rfl hl (by decide) rfl (fun ls hl => ?_)
              refine lv_aload_nN hx hb dX11_read_78 rfl (lv_at hl 0 rfl) ?_
              refine lv_ifnullN (tgt := 113) hx hb dX11_read_79 (by decide) ?_
              refine zz_nmV hq (fun x26 ex26 hq => ?_)
              refine lv_iinc (v := x26) (lv' := [(2, .int x26), (3, .null), (0, .ref (ad a0))]) hx hb dX11_read_113 hl (k := 2) rfl (by rw [ex26]; rfl) (by decide) rfl (fun ls hl => ?_)
              refine lv_goto (tgt := 58) hx hb dX11_read_116 (by decide) ?_
              exact ih58 x26 s23 _ _ _ hq hB (lv_sub hl [2, 0] rfl)
            · refine lv_astore_n (lv' := [(3, .ref (ad a25)), (0, .ref (ad a0)), (2, .int x14)]) hx hb dX11_read_77 rfl hl (by decide) rfl (fun ls hl => ?_)
              refine lv_aload_n hx hb dX11_read_78 rfl (lv_at hl 0 rfl) ?_
              refine lv_ifnull hx hb dX11_read_79 ?_
              refine lv_aload_n hx hb dX11_read_82 rfl (lv_at hl 1 rfl) ?_
              refine zz_getR S hT hB (C := RX11) (ref := "DiagramDesk") (F := TX11) (N := 5) (index := 10) 11 0 iwX11 rfl (by decide) (by decide) rfl rfl (wS wd_391) (fun _ h9 => h9) dX11_read_83 hq (fun a27 hq => ?_)
              refine zz_getR S hT hB (C := RX2) (ref := "DiagramDesk$Diagram") (F := TX2) (N := 4) (index := 55) 2 0 iwX2 rfl (by decide) (by decide) rfl rfl (wS wd_392) (fun _ h9 => h9) dX11_read_86 hq (fun a28 hq => ?_)
              refine lv_aload_n hx hb dX11_read_89 rfl (lv_at hl 0 rfl) ?_
              refine zz_get S hT hB (C := RX6) (ref := "DiagramDesk$Shape") (F := TX6) (N := 8) (index := 99) 6 1 iwX6 rfl (by decide) (by decide) rfl rfl (wS wd_416) (fun _ h9 => h9) dX11_read_90 hq (fun x29 hq => ?_)
              refine lv_aload_n hx hb dX11_read_93 rfl (lv_at hl 0 rfl) ?_
              refine zz_get S hT hB (C := RX6) (ref := "DiagramDesk$Shape") (F := TX6) (N := 8) (index := 102) 6 2 iwX6 rfl (by decide) (by decide) rfl rfl (wS wd_417) (fun _ h9 => h9) dX11_read_94 hq (fun x30 hq => ?_)
              refine lv_aload_n hx hb dX11_read_97 rfl (lv_at hl 0 rfl) ?_
              refine zz_get S hT hB (C := RX6) (ref := "DiagramDesk$Shape") (F := TX6) (N := 8) (index := 105) 6 3 iwX6 rfl (by decide) (by decide) rfl rfl (wS wd_418) (fun _ h9 => h9) dX11_read_98 hq (fun x31 hq => ?_)
              refine lv_aload_n hx hb dX11_read_101 rfl (lv_at hl 0 rfl) ?_
              refine zz_get S hT hB (C := RX6) (ref := "DiagramDesk$Shape") (F := TX6) (N := 8) (index := 81) 6 4 iwX6 rfl (by decide) (by decide) rfl rfl (wS wd_408) (fun _ h9 => h9) dX11_read_102 hq (fun x32 hq => ?_)
              refine lv_aload_n hx hb dX11_read_105 rfl (lv_at hl 0 rfl) ?_
              refine zz_get S hT hB (C := RX6) (ref := "DiagramDesk$Shape") (F := TX6) (N := 8) (index := 86) 6 5 iwX6 rfl (by decide) (by decide) rfl rfl (wS wd_409) (fun _ h9 => h9) dX11_read_106 hq (fun x33 hq => ?_)
              refine zz_callVi S hT hB (As := [.int x29, .int x30, .int x31, .int x32, .int x33]) (b := a28) (o := f_X7_add T N s23 a28 x29 x30 x31 x32 x33) (c_X7_add l D cy T hT ad N s23 _ a28 x29 x30 x31 x32 x33) (cwV 5 hts (gV wSub wd_399 wd_400 wd_401 wd_35 wd_402) rfl rfl rfl (by decide +kernel) ⟨Nat.le_of_ble_eq_true rfl, Nat.le_of_ble_eq_true rfl⟩) (F := TX7) (NF := 3) 7 rfl (by decide) (k_X7_add T N s23 a28 x29 x30 x31 x32 x33) rfl hl.1 rfl (Nat.le_of_ble_eq_true rfl) dX11_read_109 hq (fun x35 s34 H locs hq hB => ?_)
              refine lv_pop hx hb dX11_read_112 rfl ?_
              refine zz_nmV hq (fun x36 ex36 hq => ?_)
              refine lv_iinc (v := x36) (lv' := [(2, .int x36), (3, .ref (ad a25)), (0, .ref (ad a0))]) hx hb dX11_read_113 hl (k := 2) rfl (by rw [ex36]; rfl) (by decide) rfl (fun ls hl => ?_)
              refine lv_goto (tgt := 58) hx hb dX11_read_116 (by decide) ?_
              exact ih58 x36 s34 _ _ _ hq hB (lv_sub hl [2, 0] rfl)
      exact L58 N (0 : Int32) s13 _ _ _ hq hB (lv_sub hl [2, 0] rfl)
    · refine lv_bipush (v := -3) hx hb dX11_read_42 (by decide) ?_
      exact zz_iret S hB hr hlocks dX11_read_44 hq
  · refine lv_bipush (v := -100) hx hb dX11_read_14 (by decide) ?_
    refine lv_iload_n hx hb dX11_read_16 rfl (lv_at hl 0 rfl) ?_
    refine lv_isub hx hb dX11_read_17 ?_
    exact zz_iret S hB hr hlocks dX11_read_18 hq
def f_X11_undo (T : zT) (N : Nat) (s0 : zS) (a0 : Nat) : Option (Int32 × zS) :=
  zz1 (T.1 a0 = 11) <|
  (gR T s0 a0 11 1).bind fun a3 =>
  (gR T s0 a0 11 0).bind fun a4 =>
  zb2 (f_X5_back T N s0 a3 a4) fun x6 s5 =>
  if x6 = 0 then (
    some ((-1000000 : Int32), s5))
  else (
    (gR T s5 a0 11 1).bind fun a7 =>
    (gI T s5 a7 5 1).bind fun x8 =>
    some (x8, s5))
theorem k_X11_undo (T : zT) (N : Nat) (s0 : zS) (a0 : Nat) : ∀ q, f_X11_undo T N s0 a0 = some q → T.1 a0 = 11 := by
  intro q h
  unfold f_X11_undo at h
  exact zz_guard h (fun h _ => h)
set_option maxHeartbeats 4000000 in
set_option maxRecDepth 100000 in
theorem c_X11_undo (l : Launch) (D : va_G) (cy : Nat → ClassId) (T : zT) (hT : zok T) (ad : Nat → Nat) (N : Nat) (s0 : zS) (sz : Nat) (a0 : Nat) : ∀ (r0 : Int32) (σ0 : zS), f_X11_undo T N s0 a0 = some (r0, σ0) → Met l yX11_undo wsX11_undo ({ frames := 5, cells := 0, slots := 0, locals := 107 }) (va_Pc [.ref (ad a0)] (zPre D cy T ad s0 sz)) (va_Qi (fun (r2 : Int32) (σ2 : zS) => r2 = r0 ∧ σ2 = σ0) (zAt D cy T ad (zA T ad sz)) (zA T ad sz)) 0 0 (zA T ad sz) := by
  intro r0 σ0 hq
  refine Met.ofW (cc := cX11_undo) (maxL := 1) (ret := (some .int)) (by decide) rfl ?_
  intro p e s m args below meth c s₁ B hml hv
  obtain ⟨hargs, hsz, hP, hK, hD0, hN⟩ := hv
  have hx := B.exec
  have hb := B.bytes
  have hr := B.returns
  have hts := atoms_spec (ws := wsX11_undo) B.pre
  have hown : s.vm.findClass RX11 = some m.cls := findClass_of_methodNamed B.named
  have hlocks := B.notSynchronized
  have S : CallFix p m c cX11_undo 1 s args wsX11_undo RX11 := ⟨hx, hb, hml, hown, hts⟩
  subst hsz
  have hB : zB D cy T ad (zA T ad s.heap.size) s.heap s0 s.heap [] s := zz_entry hP hK hD0 hN
  obtain ⟨ls, hent, hl⟩ := zz_ent m hargs (n := 1) (Nat.le_of_ble_eq_true rfl)
  rw [hent]
  have hl : lv_has ls 1 [(0, .ref (ad a0))] := hl
  have iwX11 : ∀ w ∈ u_ws RX11 TX11 5, w ∈ wsX11_undo := fun w h => wS (inWX11 w h)
  have iwX5 : ∀ w ∈ u_ws RX5 TX5 2, w ∈ wsX11_undo := fun w h => wS (inWX5 w h)
  unfold f_X11_undo at hq
  refine zz_guard hq (fun hk0 hq => ?_)
  refine lv_aload_n hx hb dX11_undo_0 rfl (lv_at hl 0 rfl) ?_
  refine zz_getR S hT hB (C := RX11) (ref := "DiagramDesk") (F := TX11) (N := 5) (index := 19) 11 1 iwX11 rfl (by decide) (by decide) rfl rfl (wS wd_394) (fun _ h9 => h9) dX11_undo_1 hq (fun a3 hq => ?_)
  refine lv_aload_n hx hb dX11_undo_4 rfl (lv_at hl 0 rfl) ?_
  refine zz_getR S hT hB (C := RX11) (ref := "DiagramDesk") (F := TX11) (N := 5) (index := 10) 11 0 iwX11 rfl (by decide) (by decide) rfl rfl (wS wd_391) (fun _ h9 => h9) dX11_undo_5 hq (fun a4 hq => ?_)
  refine zz_callVi S hT hB (As := [.ref (ad a4)]) (b := a3) (o := f_X5_back T N s0 a3 a4) (c_X5_back l D cy T hT ad N s0 _ a3 a4) (cwV 1 hts (gV wSub wd_545 wd_546 wd_547 wd_215 wd_548) rfl rfl rfl (by decide +kernel) ⟨Nat.le_of_ble_eq_true rfl, Nat.le_of_ble_eq_true rfl⟩) (F := TX5) (NF := 2) 5 rfl (by decide) (k_X5_back T N s0 a3 a4) rfl hl.1 rfl (Nat.le_of_ble_eq_true rfl) dX11_undo_8 hq (fun x6 s5 H locs hq hB => ?_)
  refine zz_if_eq (tgt := 24) hx hb dX11_undo_11 (by decide) hq (fun hq => ?_) (fun hq => ?_)
  · refine lv_ldc (v := -1000000) hx hb hown (hts _ (wS wd_415)) dX11_undo_24 ?_
    exact zz_iret S hB hr hlocks dX11_undo_26 hq
  · refine lv_aload_n hx hb dX11_undo_14 rfl (lv_at hl 0 rfl) ?_
    refine zz_getR S hT hB (C := RX11) (ref := "DiagramDesk") (F := TX11) (N := 5) (index := 19) 11 1 iwX11 rfl (by decide) (by decide) rfl rfl (wS wd_394) (fun _ h9 => h9) dX11_undo_15 hq (fun a7 hq => ?_)
    refine zz_get S hT hB (C := RX5) (ref := "DiagramDesk$History") (F := TX5) (N := 2) (index := 282) 5 1 iwX5 rfl (by decide) (by decide) rfl rfl (wS wd_549) (fun _ h9 => h9) dX11_undo_18 hq (fun x8 hq => ?_)
    refine lv_goto (tgt := 26) hx hb dX11_undo_21 (by decide) ?_
    exact zz_iret S hB hr hlocks dX11_undo_26 hq
def f_X11_mixed (T : zT) (N : Nat) (s0 : zS) (y0 : Int64) (y2 : Int64) : Option (Int64 × zS) :=
  some (((31 : Int64) * y0) + y2, s0)
set_option maxHeartbeats 4000000 in
set_option maxRecDepth 100000 in
theorem c_X11_mixed (l : Launch) (D : va_G) (cy : Nat → ClassId) (T : zT) (hT : zok T) (ad : Nat → Nat) (N : Nat) (s0 : zS) (sz : Nat) (y0 : Int64) (y2 : Int64) : ∀ (r0 : Int64) (σ0 : zS), f_X11_mixed T N s0 y0 y2 = some (r0, σ0) → Met l yX11_mixed wsX11_mixed ({ frames := 0, cells := 0, slots := 0, locals := 0 }) (va_Pc [.long y0, .long y2] (zPre D cy T ad s0 sz)) (va_Ql (fun (r2 : Int64) (σ2 : zS) => r2 = r0 ∧ σ2 = σ0) (zAt D cy T ad (zA T ad sz)) (zA T ad sz)) 0 0 (zA T ad sz) := by
  intro r0 σ0 hq
  refine Met.ofW (cc := cX11_mixed) (maxL := 4) (ret := (some .long)) (by decide) rfl ?_
  intro p e s m args below meth c s₁ B hml hv
  obtain ⟨hargs, hsz, hP, hK, hD0, hN⟩ := hv
  have hx := B.exec
  have hb := B.bytes
  have hr := B.returns
  have hts := atoms_spec (ws := wsX11_mixed) B.pre
  have hown : s.vm.findClass RX11 = some m.cls := findClass_of_methodNamed B.named
  have hlocks := B.notSynchronized
  have S : CallFix p m c cX11_mixed 4 s args wsX11_mixed RX11 := ⟨hx, hb, hml, hown, hts⟩
  subst hsz
  have hB : zB D cy T ad (zA T ad s.heap.size) s.heap s0 s.heap [] s := zz_entry hP hK hD0 hN
  obtain ⟨ls, hent, hl⟩ := zz_ent m hargs (n := 4) (Nat.le_of_ble_eq_true rfl)
  rw [hent]
  have hl : lv_has ls 4 [(0, .long y0), (2, .long y2)] := hl
  unfold f_X11_mixed at hq
  refine lv_ldc2 (v := 31) hx hb hown (hts _ (wS wd_550)) dX11_mixed_0 ?_
  refine lv_lload_n hx hb dX11_mixed_3 rfl (lv_at hl 0 rfl) ?_
  refine lv_lmul hx hb dX11_mixed_4 ?_
  refine lv_lload_n hx hb dX11_mixed_5 rfl (lv_at hl 1 rfl) ?_
  refine lv_ladd hx hb dX11_mixed_6 ?_
  exact zz_lret S hB hr hlocks dX11_mixed_7 hq
def f_X11_shapeMixed_L11 (T : zT) (N : Nat) (a0 : Nat) (x3 : Int32) (k11 : Int64 → Int32 → zS → Option (Int64 × zS)) (y8 : Int64) (x9 : Int32) (s10 : zS) : Option (Int64 × zS) :=
  if (8 : Int32) < x9 then (
    some (y8, s10))
  else (
    zb2 (f_X11_shape T N s10 a0 x3 x9) fun x12 s11 =>
    zb2 (f_X11_mixed T N s11 y8 ((x12).toInt64)) fun y14 s13 =>
    zn (x9 + (1 : Int32)) fun x15 =>
    k11 y14 x15 s13)
def f_X11_shapeMixed (T : zT) (N : Nat) (s0 : zS) (a0 : Nat) (y1 : Int64) (x3 : Int32) : Option (Int64 × zS) :=
  zz1 (T.1 a0 = 11) <|
  zb2 (f_X11_mixed T N s0 y1 ((x3).toInt64)) fun y7 s6 =>
  zl3 (f_X11_shapeMixed_L11 T N a0 x3) N y7 (0 : Int32) s6
theorem k_X11_shapeMixed (T : zT) (N : Nat) (s0 : zS) (a0 : Nat) (y1 : Int64) (x3 : Int32) : ∀ q, f_X11_shapeMixed T N s0 a0 y1 x3 = some q → T.1 a0 = 11 := by
  intro q h
  unfold f_X11_shapeMixed at h
  exact zz_guard h (fun h _ => h)
set_option maxHeartbeats 4000000 in
set_option maxRecDepth 100000 in
theorem c_X11_shapeMixed (l : Launch) (D : va_G) (cy : Nat → ClassId) (T : zT) (hT : zok T) (ad : Nat → Nat) (N : Nat) (s0 : zS) (sz : Nat) (a0 : Nat) (y1 : Int64) (x3 : Int32) : ∀ (r0 : Int64) (σ0 : zS), f_X11_shapeMixed T N s0 a0 y1 x3 = some (r0, σ0) → Met l yX11_shapeMixed wsX11_shapeMixed ({ frames := 4, cells := 0, slots := 0, locals := 88 }) (va_Pc [.ref (ad a0), .long y1, .int x3] (zPre D cy T ad s0 sz)) (va_Ql (fun (r2 : Int64) (σ2 : zS) => r2 = r0 ∧ σ2 = σ0) (zAt D cy T ad (zA T ad sz)) (zA T ad sz)) 0 0 (zA T ad sz) := by
  intro r0 σ0 hq
  refine Met.ofW (cc := cX11_shapeMixed) (maxL := 7) (ret := (some .long)) (by decide) rfl ?_
  intro p e s m args below meth c s₁ B hml hv
  obtain ⟨hargs, hsz, hP, hK, hD0, hN⟩ := hv
  have hx := B.exec
  have hb := B.bytes
  have hr := B.returns
  have hts := atoms_spec (ws := wsX11_shapeMixed) B.pre
  have hown : s.vm.findClass RX11 = some m.cls := findClass_of_methodNamed B.named
  have hlocks := B.notSynchronized
  have S : CallFix p m c cX11_shapeMixed 7 s args wsX11_shapeMixed RX11 := ⟨hx, hb, hml, hown, hts⟩
  subst hsz
  have hB : zB D cy T ad (zA T ad s.heap.size) s.heap s0 s.heap [] s := zz_entry hP hK hD0 hN
  obtain ⟨ls, hent, hl⟩ := zz_ent m hargs (n := 7) (Nat.le_of_ble_eq_true rfl)
  rw [hent]
  have hl : lv_has ls 7 [(0, .ref (ad a0)), (1, .long y1), (3, .int x3)] := hl
  unfold f_X11_shapeMixed at hq
  refine zz_guard hq (fun hk0 hq => ?_)
  refine lv_lload_n hx hb dX11_shapeMixed_0 rfl (lv_at hl 1 rfl) ?_
  refine lv_iload_n hx hb dX11_shapeMixed_1 rfl (lv_at hl 2 rfl) ?_
  refine lv_i2l (v := (x3).toInt64) hx hb dX11_shapeMixed_2 rfl ?_
  refine zz_callSl S hT hB (As := [.long y1, .long ((x3).toInt64)]) (o := f_X11_mixed T N s0 y1 ((x3).toInt64)) (c_X11_mixed l D cy T hT ad N s0 _ y1 ((x3).toInt64)) (va_cwS 2 hts (gS wSub wd_551 wd_552 wd_102 wd_553) rfl rfl rfl (by decide +kernel) ⟨Nat.le_of_ble_eq_true rfl, Nat.le_of_ble_eq_true rfl⟩) rfl hl.1 rfl (Nat.le_of_ble_eq_true rfl) dX11_shapeMixed_3 hq (fun y7 s6 H locs hq hB => ?_)
  refine lv_lstore (lv' := [(4, .long y7), (0, .ref (ad a0)), (1, .long y1), (3, .int x3)]) hx hb dX11_shapeMixed_6 hl (by decide) rfl (fun ls hl => ?_)
  refine lv_iconst (v := 0) hx hb dX11_shapeMixed_8 (by decide) ?_
  refine lv_istore (lv' := [(6, .int (0 : Int32)), (4, .long y7), (0, .ref (ad a0)), (1, .long y1), (3, .int x3)]) hx hb dX11_shapeMixed_9 hl (by decide) rfl (fun ls hl => ?_)
  have L11 : ∀ (n : Nat) (y8 : Int64) (x9 : Int32) (s10 : zS) (H : Heap) (locs : List Loc) (ls : Array Slot), zl3 (f_X11_shapeMixed_L11 T N a0 x3) n y8 x9 s10 = some (r0, σ0) → zB D cy T ad (zA T ad s.heap.size) s.heap s10 H locs s → lv_has ls 7 [(0, .ref (ad a0)), (3, .int x3), (4, .long y8), (6, .int x9)] → W p l e (headSpec wsX11_shapeMixed ({ frames := 4, cells := 0, slots := 0, locals := 88 } : Room)).room s m args below meth c H locs 0 0 (MQ below (va_Ql (fun (r2 : Int64) (σ2 : zS) => r2 = r0 ∧ σ2 = σ0) (zAt D cy T ad (zA T ad s.heap.size)) (zA T ad s.heap.size)) args s 0 0 (zA T ad s.heap.size)) (F0 m 11 ls []) := by
    intro n
    induction n with
    | zero => intro y8 x9 s10 H locs ls hq; exact zz_none hq
    | succ n ih11 =>
      intro y8 x9 s10 H locs ls hq hB hl
      rw [zl3] at hq
      generalize zl3 (f_X11_shapeMixed_L11 T N a0 x3) n = k11 at ih11 hq
      unfold f_X11_shapeMixed_L11 at hq
      refine lv_iload hx hb dX11_shapeMixed_11 (lv_at hl 3 rfl) ?_
      refine lv_bipush (v := 8) hx hb dX11_shapeMixed_13 (by decide) ?_
      refine zz_icmp_gt (tgt := 39) hx hb dX11_shapeMixed_15 (by decide) hq (fun hq => ?_) (fun hq => ?_)
      · refine lv_lload hx hb dX11_shapeMixed_39 (lv_at hl 2 rfl) ?_
        exact zz_lret S hB hr hlocks dX11_shapeMixed_41 hq
      · refine lv_lload hx hb dX11_shapeMixed_18 (lv_at hl 2 rfl) ?_
        refine lv_aload_n hx hb dX11_shapeMixed_20 rfl (lv_at hl 0 rfl) ?_
        refine lv_iload_n hx hb dX11_shapeMixed_21 rfl (lv_at hl 1 rfl) ?_
        refine lv_iload hx hb dX11_shapeMixed_22 (lv_at hl 3 rfl) ?_
        refine zz_callVi S hT hB (As := [.int x3, .int x9]) (b := a0) (o := f_X11_shape T N s10 a0 x3 x9) (c_X11_shape l D cy T hT ad N s10 _ a0 x3 x9) (cwV 2 hts (gV wSub wd_554 wd_555 wd_556 wd_102 wd_557) rfl rfl rfl (by decide +kernel) ⟨Nat.le_of_ble_eq_true rfl, Nat.le_of_ble_eq_true rfl⟩) (F := TX11) (NF := 5) 11 rfl (by decide) (k_X11_shape T N s10 a0 x3 x9) rfl hl.1 rfl (Nat.le_of_ble_eq_true rfl) dX11_shapeMixed_24 hq (fun x12 s11 H locs hq hB => ?_)
        refine lv_i2l (v := (x12).toInt64) hx hb dX11_shapeMixed_27 rfl ?_
        refine zz_callSl S hT hB (As := [.long y8, .long ((x12).toInt64)]) (o := f_X11_mixed T N s11 y8 ((x12).toInt64)) (c_X11_mixed l D cy T hT ad N s11 _ y8 ((x12).toInt64)) (va_cwS 2 hts (gS wSub wd_551 wd_552 wd_102 wd_553) rfl rfl rfl (by decide +kernel) ⟨Nat.le_of_ble_eq_true rfl, Nat.le_of_ble_eq_true rfl⟩) rfl hl.1 rfl (Nat.le_of_ble_eq_true rfl) dX11_shapeMixed_28 hq (fun y14 s13 H locs hq hB => ?_)
        refine lv_lstore (lv' := [(4, .long y14), (0, .ref (ad a0)), (3, .int x3), (6, .int x9)]) hx hb dX11_shapeMixed_31 hl (by decide) rfl (fun ls hl => ?_)
        refine zz_nmV hq (fun x15 ex15 hq => ?_)
        refine lv_iinc (v := x15) (lv' := [(6, .int x15), (4, .long y14), (0, .ref (ad a0)), (3, .int x3)]) hx hb dX11_shapeMixed_33 hl (k := 3) rfl (by rw [ex15]; rfl) (by decide) rfl (fun ls hl => ?_)
        refine lv_goto (tgt := 11) hx hb dX11_shapeMixed_36 (by decide) ?_
        exact ih11 y14 x15 s13 _ _ _ hq hB (lv_sub hl [2, 3, 1, 0] rfl)
  exact L11 N y7 (0 : Int32) s6 _ _ _ hq hB (lv_sub hl [2, 4, 1, 0] rfl)
def f_X11_connectorMixed_L62 (T : zT) (N : Nat) (a0 : Nat) (a10 : Nat) (k62 : Int64 → Int32 → zS → Option (Int64 × zS)) (y23 : Int64) (x24 : Int32) (s25 : zS) : Option (Int64 × zS) :=
  zb2 (f_X0_lastPoint T N s25 a10) fun x27 s26 =>
  if x27 < x24 then (
    some (y23, s26))
  else (
    (gR T s26 a0 11 0).bind fun a28 =>
    (gR T s26 a28 2 0).bind fun a29 =>
    zb2 (f_X0_place T N s26 a10 a29 x24 (0 : Int32)) fun x31 s30 =>
    zb2 (f_X11_mixed T N s30 y23 ((x31).toInt64)) fun y33 s32 =>
    (gR T s32 a0 11 0).bind fun a34 =>
    (gR T s32 a34 2 0).bind fun a35 =>
    zb2 (f_X0_place T N s32 a10 a35 x24 (1 : Int32)) fun x37 s36 =>
    zb2 (f_X11_mixed T N s36 y33 ((x37).toInt64)) fun y39 s38 =>
    zn (x24 + (1 : Int32)) fun x40 =>
    k62 y39 x40 s38)
def f_X11_connectorMixed (T : zT) (N : Nat) (s0 : zS) (a0 : Nat) (y1 : Int64) (x3 : Int32) : Option (Int64 × zS) :=
  zz1 (T.1 a0 = 11) <|
  (gR T s0 a0 11 0).bind fun a6 =>
  (gR T s0 a6 2 1).bind fun a7 =>
  zb2 (f_X1_find T N s0 a7 x3) fun o9 s8 => zo o9 (
    some (y1, s8))
  fun a10 => (
    (gR T s8 a0 11 0).bind fun a11 =>
    (gR T s8 a11 2 0).bind fun a12 =>
    zb2 (f_X0_extent T N s8 a10 a12) fun x14 s13 =>
    zb2 (f_X11_mixed T N s13 y1 ((x14).toInt64)) fun y16 s15 =>
    (gR T s15 a0 11 0).bind fun a17 =>
    (gR T s15 a17 2 0).bind fun a18 =>
    zb2 (f_X0_crossed T N s15 a10 a18) fun x20 s19 =>
    zb2 (f_X11_mixed T N s19 y16 ((x20).toInt64)) fun y22 s21 =>
    zl3 (f_X11_connectorMixed_L62 T N a0 a10) N y22 (0 : Int32) s21)
theorem k_X11_connectorMixed (T : zT) (N : Nat) (s0 : zS) (a0 : Nat) (y1 : Int64) (x3 : Int32) : ∀ q, f_X11_connectorMixed T N s0 a0 y1 x3 = some q → T.1 a0 = 11 := by
  intro q h
  unfold f_X11_connectorMixed at h
  exact zz_guard h (fun h _ => h)
set_option maxHeartbeats 4000000 in
set_option maxRecDepth 100000 in
theorem c_X11_connectorMixed (l : Launch) (D : va_G) (cy : Nat → ClassId) (T : zT) (hT : zok T) (ad : Nat → Nat) (N : Nat) (s0 : zS) (sz : Nat) (a0 : Nat) (y1 : Int64) (x3 : Int32) : ∀ (r0 : Int64) (σ0 : zS), f_X11_connectorMixed T N s0 a0 y1 x3 = some (r0, σ0) → Met l yX11_connectorMixed wsX11_connectorMixed ({ frames := 5, cells := 0, slots := 0, locals := 135 }) (va_Pc [.ref (ad a0), .long y1, .int x3] (zPre D cy T ad s0 sz)) (va_Ql (fun (r2 : Int64) (σ2 : zS) => r2 = r0 ∧ σ2 = σ0) (zAt D cy T ad (zA T ad sz)) (zA T ad sz)) 0 0 (zA T ad sz) := by
  intro r0 σ0 hq
  refine Met.ofW (cc := cX11_connectorMixed) (maxL := 8) (ret := (some .long)) (by decide) rfl ?_
  intro p e s m args below meth c s₁ B hml hv
  obtain ⟨hargs, hsz, hP, hK, hD0, hN⟩ := hv
  have hx := B.exec
  have hb := B.bytes
  have hr := B.returns
  have hts := atoms_spec (ws := wsX11_connectorMixed) B.pre
  have hown : s.vm.findClass RX11 = some m.cls := findClass_of_methodNamed B.named
  have hlocks := B.notSynchronized
  have S : CallFix p m c cX11_connectorMixed 8 s args wsX11_connectorMixed RX11 := ⟨hx, hb, hml, hown, hts⟩
  subst hsz
  have hB : zB D cy T ad (zA T ad s.heap.size) s.heap s0 s.heap [] s := zz_entry hP hK hD0 hN
  obtain ⟨ls, hent, hl⟩ := zz_ent m hargs (n := 8) (Nat.le_of_ble_eq_true rfl)
  rw [hent]
  have hl : lv_has ls 8 [(0, .ref (ad a0)), (1, .long y1), (3, .int x3)] := hl
  have iwX11 : ∀ w ∈ u_ws RX11 TX11 5, w ∈ wsX11_connectorMixed := fun w h => wS (inWX11 w h)
  have iwX2 : ∀ w ∈ u_ws RX2 TX2 4, w ∈ wsX11_connectorMixed := fun w h => wS (inWX2 w h)
  unfold f_X11_connectorMixed at hq
  refine zz_guard hq (fun hk0 hq => ?_)
  refine lv_aload_n hx hb dX11_connectorMixed_0 rfl (lv_at hl 0 rfl) ?_
  refine zz_getR S hT hB (C := RX11) (ref := "DiagramDesk") (F := TX11) (N := 5) (index := 10) 11 0 iwX11 rfl (by decide) (by decide) rfl rfl (wS wd_391) (fun _ h9 => h9) dX11_connectorMixed_1 hq (fun a6 hq => ?_)
  refine zz_getR S hT hB (C := RX2) (ref := "DiagramDesk$Diagram") (F := TX2) (N := 4) (index := 89) 2 1 iwX2 rfl (by decide) (by decide) rfl rfl (wS wd_410) (fun _ h9 => h9) dX11_connectorMixed_4 hq (fun a7 hq => ?_)
  refine lv_iload_n hx hb dX11_connectorMixed_7 rfl (lv_at hl 2 rfl) ?_
  refine zz_callVq S hT hB (As := [.int x3]) (b := a7) (o := f_X1_find T N s0 a7 x3) (c_X1_find l D cy T hT ad N s0 _ a7 x3) (cwV 1 hts (gV wSub wd_445 wd_92 wd_93 wd_94 wd_95) rfl rfl rfl (by decide +kernel) ⟨Nat.le_of_ble_eq_true rfl, Nat.le_of_ble_eq_true rfl⟩) (F := TX1) (NF := 2) 1 rfl (by decide) (k_X1_find T N s0 a7 x3) rfl hl.1 rfl (Nat.le_of_ble_eq_true rfl) dX11_connectorMixed_8 hq (fun s8 H locs hq hB => ?_) (fun a10 s8 H locs hq hB => ?_)
  · refine lv_astoreN (lv' := [(4, .null), (0, .ref (ad a0)), (1, .long y1), (3, .int x3)]) hx hb dX11_connectorMixed_11 hl (by decide) rfl (fun ls hl => ?_)
    refine lv_aloadN hx hb dX11_connectorMixed_13 (lv_at hl 0 rfl) ?_
    refine lv_ifnonnullN hx hb dX11_connectorMixed_15 ?_
    refine lv_lload_n hx hb dX11_connectorMixed_18 rfl (lv_at hl 2 rfl) ?_
    exact zz_lret S hB hr hlocks dX11_connectorMixed_19 hq
  · refine lv_astore (lv' := [(4, .ref (ad a10)), (0, .ref (ad a0)), (1, .long y1), (3, .int x3)]) hx hb dX11_connectorMixed_11 hl (by decide) rfl (fun ls hl => ?_)
    refine lv_aload hx hb dX11_connectorMixed_13 (lv_at hl 0 rfl) ?_
    refine lv_ifnonnull (tgt := 20) hx hb dX11_connectorMixed_15 (by decide) ?_
    refine lv_lload_n hx hb dX11_connectorMixed_20 rfl (lv_at hl 2 rfl) ?_
    refine lv_aload hx hb dX11_connectorMixed_21 (lv_at hl 0 rfl) ?_
    refine lv_aload_n hx hb dX11_connectorMixed_23 rfl (lv_at hl 1 rfl) ?_
    refine zz_getR S hT hB (C := RX11) (ref := "DiagramDesk") (F := TX11) (N := 5) (index := 10) 11 0 iwX11 rfl (by decide) (by decide) rfl rfl (wS wd_391) (fun _ h9 => h9) dX11_connectorMixed_24 hq (fun a11 hq => ?_)
    refine zz_getR S hT hB (C := RX2) (ref := "DiagramDesk$Diagram") (F := TX2) (N := 4) (index := 55) 2 0 iwX2 rfl (by decide) (by decide) rfl rfl (wS wd_392) (fun _ h9 => h9) dX11_connectorMixed_27 hq (fun a12 hq => ?_)
    refine zz_callVi S hT hB (As := [.ref (ad a12)]) (b := a10) (o := f_X0_extent T N s8 a10 a12) (c_X0_extent l D cy T hT ad N s8 _ a10 a12) (cwV 1 hts (gV wSub wd_449 wd_450 wd_451 wd_45 wd_452) rfl rfl rfl (by decide +kernel) ⟨Nat.le_of_ble_eq_true rfl, Nat.le_of_ble_eq_true rfl⟩) (F := TX0) (NF := 5) 0 rfl (by decide) (k_X0_extent T N s8 a10 a12) rfl hl.1 rfl (Nat.le_of_ble_eq_true rfl) dX11_connectorMixed_30 hq (fun x14 s13 H locs hq hB => ?_)
    refine lv_i2l (v := (x14).toInt64) hx hb dX11_connectorMixed_33 rfl ?_
    refine zz_callSl S hT hB (As := [.long y1, .long ((x14).toInt64)]) (o := f_X11_mixed T N s13 y1 ((x14).toInt64)) (c_X11_mixed l D cy T hT ad N s13 _ y1 ((x14).toInt64)) (va_cwS 2 hts (gS wSub wd_551 wd_552 wd_102 wd_553) rfl rfl rfl (by decide +kernel) ⟨Nat.le_of_ble_eq_true rfl, Nat.le_of_ble_eq_true rfl⟩) rfl hl.1 rfl (Nat.le_of_ble_eq_true rfl) dX11_connectorMixed_34 hq (fun y16 s15 H locs hq hB => ?_)
    refine lv_lstore (lv' := [(5, .long y16), (4, .ref (ad a10)), (0, .ref (ad a0)), (1, .long y1), (3, .int x3)]) hx hb dX11_connectorMixed_37 hl (by decide) rfl (fun ls hl => ?_)
    refine lv_lload hx hb dX11_connectorMixed_39 (lv_at hl 0 rfl) ?_
    refine lv_aload hx hb dX11_connectorMixed_41 (lv_at hl 1 rfl) ?_
    refine lv_aload_n hx hb dX11_connectorMixed_43 rfl (lv_at hl 2 rfl) ?_
    refine zz_getR S hT hB (C := RX11) (ref := "DiagramDesk") (F := TX11) (N := 5) (index := 10) 11 0 iwX11 rfl (by decide) (by decide) rfl rfl (wS wd_391) (fun _ h9 => h9) dX11_connectorMixed_44 hq (fun a17 hq => ?_)
    refine zz_getR S hT hB (C := RX2) (ref := "DiagramDesk$Diagram") (F := TX2) (N := 4) (index := 55) 2 0 iwX2 rfl (by decide) (by decide) rfl rfl (wS wd_392) (fun _ h9 => h9) dX11_connectorMixed_47 hq (fun a18 hq => ?_)
    refine zz_callVi S hT hB (As := [.ref (ad a18)]) (b := a10) (o := f_X0_crossed T N s15 a10 a18) (c_X0_crossed l D cy T hT ad N s15 _ a10 a18) (cwV 1 hts (gV wSub wd_453 wd_454 wd_455 wd_45 wd_456) rfl rfl rfl (by decide +kernel) ⟨Nat.le_of_ble_eq_true rfl, Nat.le_of_ble_eq_true rfl⟩) (F := TX0) (NF := 5) 0 rfl (by decide) (k_X0_crossed T N s15 a10 a18) rfl hl.1 rfl (Nat.le_of_ble_eq_true rfl) dX11_connectorMixed_50 hq (fun x20 s19 H locs hq hB => ?_)
    refine lv_i2l (v := (x20).toInt64) hx hb dX11_connectorMixed_53 rfl ?_
    refine zz_callSl S hT hB (As := [.long y16, .long ((x20).toInt64)]) (o := f_X11_mixed T N s19 y16 ((x20).toInt64)) (c_X11_mixed l D cy T hT ad N s19 _ y16 ((x20).toInt64)) (va_cwS 2 hts (gS wSub wd_551 wd_552 wd_102 wd_553) rfl rfl rfl (by decide +kernel) ⟨Nat.le_of_ble_eq_true rfl, Nat.le_of_ble_eq_true rfl⟩) rfl hl.1 rfl (Nat.le_of_ble_eq_true rfl) dX11_connectorMixed_54 hq (fun y22 s21 H locs hq hB => ?_)
    refine lv_lstore (lv' := [(5, .long y22), (4, .ref (ad a10)), (0, .ref (ad a0)), (1, .long y1), (3, .int x3)]) hx hb dX11_connectorMixed_57 hl (by decide) rfl (fun ls hl => ?_)
    refine lv_iconst (v := 0) hx hb dX11_connectorMixed_59 (by decide) ?_
    refine lv_istore (lv' := [(7, .int (0 : Int32)), (5, .long y22), (4, .ref (ad a10)), (0, .ref (ad a0)), (1, .long y1), (3, .int x3)]) hx hb dX11_connectorMixed_60 hl (by decide) rfl (fun ls hl => ?_)
    have L62 : ∀ (n : Nat) (y23 : Int64) (x24 : Int32) (s25 : zS) (H : Heap) (locs : List Loc) (ls : Array Slot), zl3 (f_X11_connectorMixed_L62 T N a0 a10) n y23 x24 s25 = some (r0, σ0) → zB D cy T ad (zA T ad s.heap.size) s.heap s25 H locs s → lv_has ls 8 [(0, .ref (ad a0)), (4, .ref (ad a10)), (5, .long y23), (7, .int x24)] → W p l e (headSpec wsX11_connectorMixed ({ frames := 5, cells := 0, slots := 0, locals := 135 } : Room)).room s m args below meth c H locs 0 0 (MQ below (va_Ql (fun (r2 : Int64) (σ2 : zS) => r2 = r0 ∧ σ2 = σ0) (zAt D cy T ad (zA T ad s.heap.size)) (zA T ad s.heap.size)) args s 0 0 (zA T ad s.heap.size)) (F0 m 62 ls []) := by
      intro n
      induction n with
      | zero => intro y23 x24 s25 H locs ls hq; exact zz_none hq
      | succ n ih62 =>
        intro y23 x24 s25 H locs ls hq hB hl
        rw [zl3] at hq
        generalize zl3 (f_X11_connectorMixed_L62 T N a0 a10) n = k62 at ih62 hq
        unfold f_X11_connectorMixed_L62 at hq
        refine lv_iload hx hb dX11_connectorMixed_62 (lv_at hl 3 rfl) ?_
        refine lv_aload hx hb dX11_connectorMixed_64 (lv_at hl 1 rfl) ?_
        refine zz_callVi S hT hB (As := []) (b := a10) (o := f_X0_lastPoint T N s25 a10) (c_X0_lastPoint l D cy T hT ad N s25 _ a10) (cwV 0 hts (gV wSub wd_447 wd_43 wd_44 wd_45 wd_46) rfl rfl rfl (by decide +kernel) ⟨Nat.le_of_ble_eq_true rfl, Nat.le_of_ble_eq_true rfl⟩) (F := TX0) (NF := 5) 0 rfl (by decide) (k_X0_lastPoint T N s25 a10) rfl hl.1 rfl (Nat.le_of_ble_eq_true rfl) dX11_connectorMixed_66 hq (fun x27 s26 H locs hq hB => ?_)
        refine zz_icmp_gt (tgt := 124) hx hb dX11_connectorMixed_69 (by decide) hq (fun hq => ?_) (fun hq => ?_)
        · refine lv_lload hx hb dX11_connectorMixed_124 (lv_at hl 2 rfl) ?_
          exact zz_lret S hB hr hlocks dX11_connectorMixed_126 hq
        · refine lv_lload hx hb dX11_connectorMixed_72 (lv_at hl 2 rfl) ?_
          refine lv_aload hx hb dX11_connectorMixed_74 (lv_at hl 1 rfl) ?_
          refine lv_aload_n hx hb dX11_connectorMixed_76 rfl (lv_at hl 0 rfl) ?_
          refine zz_getR S hT hB (C := RX11) (ref := "DiagramDesk") (F := TX11) (N := 5) (index := 10) 11 0 iwX11 rfl (by decide) (by decide) rfl rfl (wS wd_391) (fun _ h9 => h9) dX11_connectorMixed_77 hq (fun a28 hq => ?_)
          refine zz_getR S hT hB (C := RX2) (ref := "DiagramDesk$Diagram") (F := TX2) (N := 4) (index := 55) 2 0 iwX2 rfl (by decide) (by decide) rfl rfl (wS wd_392) (fun _ h9 => h9) dX11_connectorMixed_80 hq (fun a29 hq => ?_)
          refine lv_iload hx hb dX11_connectorMixed_83 (lv_at hl 3 rfl) ?_
          refine lv_iconst (v := 0) hx hb dX11_connectorMixed_85 (by decide) ?_
          refine zz_callVi S hT hB (As := [.ref (ad a29), .int x24, .int (0 : Int32)]) (b := a10) (o := f_X0_place T N s26 a10 a29 x24 (0 : Int32)) (c_X0_place l D cy T hT ad N s26 _ a10 a29 x24 (0 : Int32)) (cwV 3 hts (gV wSub wd_448 wd_49 wd_50 wd_45 wd_51) rfl rfl rfl (by decide +kernel) ⟨Nat.le_of_ble_eq_true rfl, Nat.le_of_ble_eq_true rfl⟩) (F := TX0) (NF := 5) 0 rfl (by decide) (k_X0_place T N s26 a10 a29 x24 (0 : Int32)) rfl hl.1 rfl (Nat.le_of_ble_eq_true rfl) dX11_connectorMixed_86 hq (fun x31 s30 H locs hq hB => ?_)
          refine lv_i2l (v := (x31).toInt64) hx hb dX11_connectorMixed_89 rfl ?_
          refine zz_callSl S hT hB (As := [.long y23, .long ((x31).toInt64)]) (o := f_X11_mixed T N s30 y23 ((x31).toInt64)) (c_X11_mixed l D cy T hT ad N s30 _ y23 ((x31).toInt64)) (va_cwS 2 hts (gS wSub wd_551 wd_552 wd_102 wd_553) rfl rfl rfl (by decide +kernel) ⟨Nat.le_of_ble_eq_true rfl, Nat.le_of_ble_eq_true rfl⟩) rfl hl.1 rfl (Nat.le_of_ble_eq_true rfl) dX11_connectorMixed_90 hq (fun y33 s32 H locs hq hB => ?_)
          refine lv_lstore (lv' := [(5, .long y33), (0, .ref (ad a0)), (4, .ref (ad a10)), (7, .int x24)]) hx hb dX11_connectorMixed_93 hl (by decide) rfl (fun ls hl => ?_)
          refine lv_lload hx hb dX11_connectorMixed_95 (lv_at hl 0 rfl) ?_
          refine lv_aload hx hb dX11_connectorMixed_97 (lv_at hl 2 rfl) ?_
          refine lv_aload_n hx hb dX11_connectorMixed_99 rfl (lv_at hl 1 rfl) ?_
          refine zz_getR S hT hB (C := RX11) (ref := "DiagramDesk") (F := TX11) (N := 5) (index := 10) 11 0 iwX11 rfl (by decide) (by decide) rfl rfl (wS wd_391) (fun _ h9 => h9) dX11_connectorMixed_100 hq (fun a34 hq => ?_)
          refine zz_getR S hT hB (C := RX2) (ref := "DiagramDesk$Diagram") (F := TX2) (N := 4) (index := 55) 2 0 iwX2 rfl (by decide) (by decide) rfl rfl (wS wd_392) (fun _ h9 => h9) dX11_connectorMixed_103 hq (fun a35 hq => ?_)
          refine lv_iload hx hb dX11_connectorMixed_106 (lv_at hl 3 rfl) ?_
          refine lv_iconst (v := 1) hx hb dX11_connectorMixed_108 (by decide) ?_
          refine zz_callVi S hT hB (As := [.ref (ad a35), .int x24, .int (1 : Int32)]) (b := a10) (o := f_X0_place T N s32 a10 a35 x24 (1 : Int32)) (c_X0_place l D cy T hT ad N s32 _ a10 a35 x24 (1 : Int32)) (cwV 3 hts (gV wSub wd_448 wd_49 wd_50 wd_45 wd_51) rfl rfl rfl (by decide +kernel) ⟨Nat.le_of_ble_eq_true rfl, Nat.le_of_ble_eq_true rfl⟩) (F := TX0) (NF := 5) 0 rfl (by decide) (k_X0_place T N s32 a10 a35 x24 (1 : Int32)) rfl hl.1 rfl (Nat.le_of_ble_eq_true rfl) dX11_connectorMixed_109 hq (fun x37 s36 H locs hq hB => ?_)
          refine lv_i2l (v := (x37).toInt64) hx hb dX11_connectorMixed_112 rfl ?_
          refine zz_callSl S hT hB (As := [.long y33, .long ((x37).toInt64)]) (o := f_X11_mixed T N s36 y33 ((x37).toInt64)) (c_X11_mixed l D cy T hT ad N s36 _ y33 ((x37).toInt64)) (va_cwS 2 hts (gS wSub wd_551 wd_552 wd_102 wd_553) rfl rfl rfl (by decide +kernel) ⟨Nat.le_of_ble_eq_true rfl, Nat.le_of_ble_eq_true rfl⟩) rfl hl.1 rfl (Nat.le_of_ble_eq_true rfl) dX11_connectorMixed_113 hq (fun y39 s38 H locs hq hB => ?_)
          refine lv_lstore (lv' := [(5, .long y39), (0, .ref (ad a0)), (4, .ref (ad a10)), (7, .int x24)]) hx hb dX11_connectorMixed_116 hl (by decide) rfl (fun ls hl => ?_)
          refine zz_nmV hq (fun x40 ex40 hq => ?_)
          refine lv_iinc (v := x40) (lv' := [(7, .int x40), (5, .long y39), (0, .ref (ad a0)), (4, .ref (ad a10))]) hx hb dX11_connectorMixed_118 hl (k := 3) rfl (by rw [ex40]; rfl) (by decide) rfl (fun ls hl => ?_)
          refine lv_goto (tgt := 62) hx hb dX11_connectorMixed_121 (by decide) ?_
          exact ih62 y39 x40 s38 _ _ _ hq hB (lv_sub hl [2, 3, 1, 0] rfl)
    exact L62 N y22 (0 : Int32) s21 _ _ _ hq hB (lv_sub hl [3, 2, 1, 0] rfl)
