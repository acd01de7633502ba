def f_X12_addGuide (T : zT) (N : Nat) (s0 : zS) (a0 : Nat) (x1 : Int32) (x2 : Int32) : Option (Int32 × zS) :=
  zz1 (T.1 a0 = 12) <|
  zb2 (f_X12_in T N s0 x1 (0 : Int32) (1 : Int32)) fun x6 s5 =>
  if x6 = 0 then (
    some ((-1 : Int32), s5))
  else (
    zb2 (f_X12_isPlace T N s5 x2) fun x8 s7 =>
    if ¬ x8 = 0 then (
      (gR T s7 a0 12 0).bind fun a9 =>
      (aI T s7 a9 13 (3 : Int32)).bind fun x10 =>
      if ¬ x10 = (10 : Int32) then (
        (f_X12_act T N s7 a0).bind fun s11 =>
        (gR T s11 a0 12 0).bind fun a12 =>
        (gR T s11 a0 12 0).bind fun a13 =>
        (aI T s11 a13 13 (3 : Int32)).bind fun x14 =>
        (sI T s11 a12 ((310 : Int32) + ((2 : Int32) * x14)) x1).bind fun s15 =>
        (gR T s15 a0 12 0).bind fun a16 =>
        (gR T s15 a0 12 0).bind fun a17 =>
        (aI T s15 a17 13 (3 : Int32)).bind fun x18 =>
        (sI T s15 a16 (((310 : Int32) + ((2 : Int32) * x18)) + (1 : Int32)) x2).bind fun s19 =>
        (gR T s19 a0 12 0).bind fun a20 =>
        (aI T s19 a20 13 (3 : Int32)).bind fun x21 =>
        (sI T s19 a20 (3 : Int32) (x21 + (1 : Int32))).bind fun s22 =>
        (gR T s22 a0 12 0).bind fun a23 =>
        (aI T s22 a23 13 (3 : Int32)).bind fun x24 =>
        some (x24, s22))
      else (
        some ((-3 : Int32), s7)))
    else (
      some ((-1 : Int32), s7)))
theorem k_X12_addGuide (T : zT) (N : Nat) (s0 : zS) (a0 : Nat) (x1 : Int32) (x2 : Int32) : ∀ q, f_X12_addGuide T N s0 a0 x1 x2 = some q → T.1 a0 = 12 := by
  intro q h
  unfold f_X12_addGuide at h
  exact zz_guard h (fun h _ => h)
set_option maxHeartbeats 4000000 in
set_option maxRecDepth 100000 in
theorem c_X12_addGuide (l : Launch) (D : va_G) (cy : Nat → ClassId) (T : zT) (hT : zok T) (ad : Nat → Nat) (N : Nat) (s0 : zS) (sz : Nat) (a0 : Nat) (x1 : Int32) (x2 : Int32) : ∀ (r0 : Int32) (σ0 : zS), f_X12_addGuide T N s0 a0 x1 x2 = some (r0, σ0) → Met l yX12_addGuide wsX12_addGuide ({ frames := 2, cells := 0, slots := 0, locals := 42 }) (va_Pc [.ref (ad a0), .int x1, .int x2] (zPre D cy T ad s0 sz)) (va_Qi (fun (r2 : Int32) (σ2 : zS) => r2 = r0 ∧ σ2 = σ0) (zAt D cy T ad (zA T ad sz)) (zA T ad sz)) 0 0 (zA T ad sz) := by
  intro r0 σ0 hq
  refine Met.ofW (cc := cX12_addGuide) (maxL := 3) (ret := (some .int)) (by decide) rfl ?_
  intro p e s m args below meth c s₁ B hml hv
  obtain ⟨hargs, hsz, hP, hK, hD0, hN⟩ := hv
  have hx := B.exec
  have hb := B.bytes
  have hr := B.returns
  have hts := atoms_spec (ws := wsX12_addGuide) B.pre
  have hown : s.vm.findClass RX12 = some m.cls := findClass_of_methodNamed B.named
  have hlocks := B.notSynchronized
  have S : CallFix p m c cX12_addGuide 3 s args wsX12_addGuide RX12 := ⟨hx, hb, hml, hown, hts⟩
  subst hsz
  have hB : zB D cy T ad (zA T ad s.heap.size) s.heap s0 s.heap [] s := zz_entry hP hK hD0 hN
  obtain ⟨ls, hent, hl⟩ := zz_ent m hargs (n := 3) (Nat.le_of_ble_eq_true rfl)
  rw [hent]
  have hl : lv_has ls 3 [(0, .ref (ad a0)), (1, .int x1), (2, .int x2)] := hl
  have iwX12 : ∀ w ∈ u_ws RX12 TX12 24, w ∈ wsX12_addGuide := fun w h => wS (inWX12 w h)
  unfold f_X12_addGuide at hq
  refine zz_guard hq (fun hk0 hq => ?_)
  refine lv_iload_n hx hb dX12_addGuide_0 rfl (lv_at hl 1 rfl) ?_
  refine lv_iconst (v := 0) hx hb dX12_addGuide_1 (by decide) ?_
  refine lv_iconst (v := 1) hx hb dX12_addGuide_2 (by decide) ?_
  refine zz_callSi S hT hB (As := [.int x1, .int (0 : Int32), .int (1 : Int32)]) (o := f_X12_in T N s0 x1 (0 : Int32) (1 : Int32)) (c_X12_in l D cy T hT ad N s0 _ x1 (0 : Int32) (1 : Int32)) (va_cwS 3 hts (gS wSub wd_570 wd_571 wd_572 wd_573) rfl rfl rfl (by decide +kernel) ⟨Nat.le_of_ble_eq_true rfl, Nat.le_of_ble_eq_true rfl⟩) rfl hl.1 rfl (Nat.le_of_ble_eq_true rfl) dX12_addGuide_3 hq (fun x6 s5 H locs hq hB => ?_)
  refine zz_if_eq (tgt := 16) hx hb dX12_addGuide_6 (by decide) hq (fun hq => ?_) (fun hq => ?_)
  · refine lv_iconst (v := -1) hx hb dX12_addGuide_16 (by decide) ?_
    exact zz_iret S hB hr hlocks dX12_addGuide_17 hq
  · refine lv_iload_n hx hb dX12_addGuide_9 rfl (lv_at hl 2 rfl) ?_
    refine zz_callSi S hT hB (As := [.int x2]) (o := f_X12_isPlace T N s5 x2) (c_X12_isPlace l D cy T hT ad N s5 _ x2) (va_cwS 1 hts (gS wSub wd_598 wd_599 wd_572 wd_600) rfl rfl rfl (by decide +kernel) ⟨Nat.le_of_ble_eq_true rfl, Nat.le_of_ble_eq_true rfl⟩) rfl hl.1 rfl (Nat.le_of_ble_eq_true rfl) dX12_addGuide_10 hq (fun x8 s7 H locs hq hB => ?_)
    refine zz_if_ne (tgt := 18) hx hb dX12_addGuide_13 (by decide) hq (fun hq => ?_) (fun hq => ?_)
    · refine lv_aload_n hx hb dX12_addGuide_18 rfl (lv_at hl 0 rfl) ?_
      refine zz_getR S hT hB (C := RX12) (ref := "DiagramDeskModel") (F := TX12) (N := 24) (index := 7) 12 0 iwX12 rfl (by decide) (by decide) rfl rfl (wS wd_569) (fun _ h9 => h9) dX12_addGuide_19 hq (fun a9 hq => ?_)
      refine lv_iconst (v := 3) hx hb dX12_addGuide_22 (by decide) ?_
      refine zz_ald S hT hB dX12_addGuide_23 hq (fun x10 hq => ?_)
      refine lv_bipush (v := 10) hx hb dX12_addGuide_24 (by decide) ?_
      refine zz_icmp_ne (tgt := 32) hx hb dX12_addGuide_26 (by decide) hq (fun hq => ?_) (fun hq => ?_)
      · refine lv_aload_n hx hb dX12_addGuide_32 rfl (lv_at hl 0 rfl) ?_
        refine zz_callVv S hT hB (As := []) (b := a0) (o := f_X12_act T N s7 a0) (c_X12_act l D cy T hT ad N s7 _ a0) (cwV 0 hts (gV wSub wd_604 wd_605 wd_606 wd_572 wd_607) rfl rfl rfl (by decide +kernel) ⟨Nat.le_of_ble_eq_true rfl, Nat.le_of_ble_eq_true rfl⟩) (F := TX12) (NF := 24) 12 rfl (by decide) (k_X12_act T N s7 a0) rfl hl.1 rfl (Nat.le_of_ble_eq_true rfl) dX12_addGuide_33 hq (fun s11 H locs hq hB => ?_)
        refine lv_aload_n hx hb dX12_addGuide_36 rfl (lv_at hl 0 rfl) ?_
        refine zz_getR S hT hB (C := RX12) (ref := "DiagramDeskModel") (F := TX12) (N := 24) (index := 7) 12 0 iwX12 rfl (by decide) (by decide) rfl rfl (wS wd_569) (fun _ h9 => h9) dX12_addGuide_37 hq (fun a12 hq => ?_)
        refine lv_sipush (v := 310) hx hb dX12_addGuide_40 (by decide) ?_
        refine lv_iconst (v := 2) hx hb dX12_addGuide_43 (by decide) ?_
        refine lv_aload_n hx hb dX12_addGuide_44 rfl (lv_at hl 0 rfl) ?_
        refine zz_getR S hT hB (C := RX12) (ref := "DiagramDeskModel") (F := TX12) (N := 24) (index := 7) 12 0 iwX12 rfl (by decide) (by decide) rfl rfl (wS wd_569) (fun _ h9 => h9) dX12_addGuide_45 hq (fun a13 hq => ?_)
        refine lv_iconst (v := 3) hx hb dX12_addGuide_48 (by decide) ?_
        refine zz_ald S hT hB dX12_addGuide_49 hq (fun x14 hq => ?_)
        refine lv_imul hx hb dX12_addGuide_50 ?_
        refine lv_iadd hx hb dX12_addGuide_51 ?_
        refine lv_iload_n hx hb dX12_addGuide_52 rfl (lv_at hl 1 rfl) ?_
        refine zz_ast S hT hB dX12_addGuide_53 hq (fun s15 H locs hq hB => ?_)
        refine lv_aload_n hx hb dX12_addGuide_54 rfl (lv_at hl 0 rfl) ?_
        refine zz_getR S hT hB (C := RX12) (ref := "DiagramDeskModel") (F := TX12) (N := 24) (index := 7) 12 0 iwX12 rfl (by decide) (by decide) rfl rfl (wS wd_569) (fun _ h9 => h9) dX12_addGuide_55 hq (fun a16 hq => ?_)
        refine lv_sipush (v := 310) hx hb dX12_addGuide_58 (by decide) ?_
        refine lv_iconst (v := 2) hx hb dX12_addGuide_61 (by decide) ?_
        refine lv_aload_n hx hb dX12_addGuide_62 rfl (lv_at hl 0 rfl) ?_
        refine zz_getR S hT hB (C := RX12) (ref := "DiagramDeskModel") (F := TX12) (N := 24) (index := 7) 12 0 iwX12 rfl (by decide) (by decide) rfl rfl (wS wd_569) (fun _ h9 => h9) dX12_addGuide_63 hq (fun a17 hq => ?_)
        refine lv_iconst (v := 3) hx hb dX12_addGuide_66 (by decide) ?_
        refine zz_ald S hT hB dX12_addGuide_67 hq (fun x18 hq => ?_)
        refine lv_imul hx hb dX12_addGuide_68 ?_
        refine lv_iadd hx hb dX12_addGuide_69 ?_
        refine lv_iconst (v := 1) hx hb dX12_addGuide_70 (by decide) ?_
        refine lv_iadd hx hb dX12_addGuide_71 ?_
        refine lv_iload_n hx hb dX12_addGuide_72 rfl (lv_at hl 2 rfl) ?_
        refine zz_ast S hT hB dX12_addGuide_73 hq (fun s19 H locs hq hB => ?_)
        refine lv_aload_n hx hb dX12_addGuide_74 rfl (lv_at hl 0 rfl) ?_
        refine zz_getR S hT hB (C := RX12) (ref := "DiagramDeskModel") (F := TX12) (N := 24) (index := 7) 12 0 iwX12 rfl (by decide) (by decide) rfl rfl (wS wd_569) (fun _ h9 => h9) dX12_addGuide_75 hq (fun a20 hq => ?_)
        refine lv_iconst (v := 3) hx hb dX12_addGuide_78 (by decide) ?_
        refine lv_dup2_11 hx hb dX12_addGuide_79 rfl rfl ?_
        refine zz_ald S hT hB dX12_addGuide_80 hq (fun x21 hq => ?_)
        refine lv_iconst (v := 1) hx hb dX12_addGuide_81 (by decide) ?_
        refine lv_iadd hx hb dX12_addGuide_82 ?_
        refine zz_ast S hT hB dX12_addGuide_83 hq (fun s22 H locs hq hB => ?_)
        refine lv_aload_n hx hb dX12_addGuide_84 rfl (lv_at hl 0 rfl) ?_
        refine zz_getR S hT hB (C := RX12) (ref := "DiagramDeskModel") (F := TX12) (N := 24) (index := 7) 12 0 iwX12 rfl (by decide) (by decide) rfl rfl (wS wd_569) (fun _ h9 => h9) dX12_addGuide_85 hq (fun a23 hq => ?_)
        refine lv_iconst (v := 3) hx hb dX12_addGuide_88 (by decide) ?_
        refine zz_ald S hT hB dX12_addGuide_89 hq (fun x24 hq => ?_)
        exact zz_iret S hB hr hlocks dX12_addGuide_90 hq
      · refine lv_bipush (v := -3) hx hb dX12_addGuide_29 (by decide) ?_
        exact zz_iret S hB hr hlocks dX12_addGuide_31 hq
    · refine lv_iconst (v := -1) hx hb dX12_addGuide_16 (by decide) ?_
      exact zz_iret S hB hr hlocks dX12_addGuide_17 hq
def f_X12_sets (T : zT) (N : Nat) (s0 : zS) (a0 : Nat) (x1 : Int32) (x2 : Int32) : Option (Int32 × zS) :=
  zz1 (T.1 a0 = 12) <|
  (f_X12_act T N s0 a0).bind fun s5 =>
  (gR T s5 a0 12 0).bind fun a6 =>
  (aI T s5 a6 13 x1).bind fun x7 =>
  (gR T s5 a0 12 0).bind fun a8 =>
  (sI T s5 a8 x1 x2).bind fun s9 =>
  some (x7, s9)
theorem k_X12_sets (T : zT) (N : Nat) (s0 : zS) (a0 : Nat) (x1 : Int32) (x2 : Int32) : ∀ q, f_X12_sets T N s0 a0 x1 x2 = some q → T.1 a0 = 12 := by
  intro q h
  unfold f_X12_sets at h
  exact zz_guard h (fun h _ => h)
set_option maxHeartbeats 4000000 in
set_option maxRecDepth 100000 in
theorem c_X12_sets (l : Launch) (D : va_G) (cy : Nat → ClassId) (T : zT) (hT : zok T) (ad : Nat → Nat) (N : Nat) (s0 : zS) (sz : Nat) (a0 : Nat) (x1 : Int32) (x2 : Int32) : ∀ (r0 : Int32) (σ0 : zS), f_X12_sets T N s0 a0 x1 x2 = some (r0, σ0) → Met l yX12_sets wsX12_sets ({ frames := 1, cells := 0, slots := 0, locals := 21 }) (va_Pc [.ref (ad a0), .int x1, .int x2] (zPre D cy T ad s0 sz)) (va_Qi (fun (r2 : Int32) (σ2 : zS) => r2 = r0 ∧ σ2 = σ0) (zAt D cy T ad (zA T ad sz)) (zA T ad sz)) 0 0 (zA T ad sz) := by
  intro r0 σ0 hq
  refine Met.ofW (cc := cX12_sets) (maxL := 4) (ret := (some .int)) (by decide) rfl ?_
  intro p e s m args below meth c s₁ B hml hv
  obtain ⟨hargs, hsz, hP, hK, hD0, hN⟩ := hv
  have hx := B.exec
  have hb := B.bytes
  have hr := B.returns
  have hts := atoms_spec (ws := wsX12_sets) B.pre
  have hown : s.vm.findClass RX12 = some m.cls := findClass_of_methodNamed B.named
  have hlocks := B.notSynchronized
  have S : CallFix p m c cX12_sets 4 s args wsX12_sets RX12 := ⟨hx, hb, hml, hown, hts⟩
  subst hsz
  have hB : zB D cy T ad (zA T ad s.heap.size) s.heap s0 s.heap [] s := zz_entry hP hK hD0 hN
  obtain ⟨ls, hent, hl⟩ := zz_ent m hargs (n := 4) (Nat.le_of_ble_eq_true rfl)
  rw [hent]
  have hl : lv_has ls 4 [(0, .ref (ad a0)), (1, .int x1), (2, .int x2)] := hl
  have iwX12 : ∀ w ∈ u_ws RX12 TX12 24, w ∈ wsX12_sets := fun w h => wS (inWX12 w h)
  unfold f_X12_sets at hq
  refine zz_guard hq (fun hk0 hq => ?_)
  refine lv_aload_n hx hb dX12_sets_0 rfl (lv_at hl 0 rfl) ?_
  refine zz_callVv S hT hB (As := []) (b := a0) (o := f_X12_act T N s0 a0) (c_X12_act l D cy T hT ad N s0 _ a0) (cwV 0 hts (gV wSub wd_604 wd_605 wd_606 wd_572 wd_607) rfl rfl rfl (by decide +kernel) ⟨Nat.le_of_ble_eq_true rfl, Nat.le_of_ble_eq_true rfl⟩) (F := TX12) (NF := 24) 12 rfl (by decide) (k_X12_act T N s0 a0) rfl hl.1 rfl (Nat.le_of_ble_eq_true rfl) dX12_sets_1 hq (fun s5 H locs hq hB => ?_)
  refine lv_aload_n hx hb dX12_sets_4 rfl (lv_at hl 0 rfl) ?_
  refine zz_getR S hT hB (C := RX12) (ref := "DiagramDeskModel") (F := TX12) (N := 24) (index := 7) 12 0 iwX12 rfl (by decide) (by decide) rfl rfl (wS wd_569) (fun _ h9 => h9) dX12_sets_5 hq (fun a6 hq => ?_)
  refine lv_iload_n hx hb dX12_sets_8 rfl (lv_at hl 1 rfl) ?_
  refine zz_ald S hT hB dX12_sets_9 hq (fun x7 hq => ?_)
  refine lv_istore_n (lv' := [(3, .int x7), (0, .ref (ad a0)), (1, .int x1), (2, .int x2)]) hx hb dX12_sets_10 rfl hl (by decide) rfl (fun ls hl => ?_)
  refine lv_aload_n hx hb dX12_sets_11 rfl (lv_at hl 1 rfl) ?_
  refine zz_getR S hT hB (C := RX12) (ref := "DiagramDeskModel") (F := TX12) (N := 24) (index := 7) 12 0 iwX12 rfl (by decide) (by decide) rfl rfl (wS wd_569) (fun _ h9 => h9) dX12_sets_12 hq (fun a8 hq => ?_)
  refine lv_iload_n hx hb dX12_sets_15 rfl (lv_at hl 2 rfl) ?_
  refine lv_iload_n hx hb dX12_sets_16 rfl (lv_at hl 3 rfl) ?_
  refine zz_ast S hT hB dX12_sets_17 hq (fun s9 H locs hq hB => ?_)
  refine lv_iload_n hx hb dX12_sets_18 rfl (lv_at hl 0 rfl) ?_
  exact zz_iret S hB hr hlocks dX12_sets_19 hq
def f_X12_clearGuides (T : zT) (N : Nat) (s0 : zS) (a0 : Nat) : Option (Int32 × zS) :=
  zz1 (T.1 a0 = 12) <|
  zb2 (f_X12_sets T N s0 a0 (3 : Int32) (0 : Int32)) fun x4 s3 =>
  some (x4, s3)
theorem k_X12_clearGuides (T : zT) (N : Nat) (s0 : zS) (a0 : Nat) : ∀ q, f_X12_clearGuides T N s0 a0 = some q → T.1 a0 = 12 := by
  intro q h
  unfold f_X12_clearGuides at h
  exact zz_guard h (fun h _ => h)
set_option maxHeartbeats 4000000 in
set_option maxRecDepth 100000 in
theorem c_X12_clearGuides (l : Launch) (D : va_G) (cy : Nat → ClassId) (T : zT) (hT : zok T) (ad : Nat → Nat) (N : Nat) (s0 : zS) (sz : Nat) (a0 : Nat) : ∀ (r0 : Int32) (σ0 : zS), f_X12_clearGuides T N s0 a0 = some (r0, σ0) → Met l yX12_clearGuides wsX12_clearGuides ({ frames := 2, cells := 0, slots := 0, locals := 44 }) (va_Pc [.ref (ad a0)] (zPre D cy T ad s0 sz)) (va_Qi (fun (r2 : Int32) (σ2 : zS) => r2 = r0 ∧ σ2 = σ0) (zAt D cy T ad (zA T ad sz)) (zA T ad sz)) 0 0 (zA T ad sz) := by
  intro r0 σ0 hq
  refine Met.ofW (cc := cX12_clearGuides) (maxL := 1) (ret := (some .int)) (by decide) rfl ?_
  intro p e s m args below meth c s₁ B hml hv
  obtain ⟨hargs, hsz, hP, hK, hD0, hN⟩ := hv
  have hx := B.exec
  have hb := B.bytes
  have hr := B.returns
  have hts := atoms_spec (ws := wsX12_clearGuides) B.pre
  have hown : s.vm.findClass RX12 = some m.cls := findClass_of_methodNamed B.named
  have hlocks := B.notSynchronized
  have S : CallFix p m c cX12_clearGuides 1 s args wsX12_clearGuides RX12 := ⟨hx, hb, hml, hown, hts⟩
  subst hsz
  have hB : zB D cy T ad (zA T ad s.heap.size) s.heap s0 s.heap [] s := zz_entry hP hK hD0 hN
  obtain ⟨ls, hent, hl⟩ := zz_ent m hargs (n := 1) (Nat.le_of_ble_eq_true rfl)
  rw [hent]
  have hl : lv_has ls 1 [(0, .ref (ad a0))] := hl
  unfold f_X12_clearGuides at hq
  refine zz_guard hq (fun hk0 hq => ?_)
  refine lv_aload_n hx hb dX12_clearGuides_0 rfl (lv_at hl 0 rfl) ?_
  refine lv_iconst (v := 3) hx hb dX12_clearGuides_1 (by decide) ?_
  refine lv_iconst (v := 0) hx hb dX12_clearGuides_2 (by decide) ?_
  refine zz_callVi S hT hB (As := [.int (3 : Int32), .int (0 : Int32)]) (b := a0) (o := f_X12_sets T N s0 a0 (3 : Int32) (0 : Int32)) (c_X12_sets l D cy T hT ad N s0 _ a0 (3 : Int32) (0 : Int32)) (cwV 2 hts (gV wSub wd_772 wd_773 wd_774 wd_572 wd_775) rfl rfl rfl (by decide +kernel) ⟨Nat.le_of_ble_eq_true rfl, Nat.le_of_ble_eq_true rfl⟩) (F := TX12) (NF := 24) 12 rfl (by decide) (k_X12_sets T N s0 a0 (3 : Int32) (0 : Int32)) rfl hl.1 rfl (Nat.le_of_ble_eq_true rfl) dX12_clearGuides_3 hq (fun x4 s3 H locs hq hB => ?_)
  exact zz_iret S hB hr hlocks dX12_clearGuides_6 hq
def f_X12_setGrid (T : zT) (N : Nat) (s0 : zS) (a0 : Nat) (x1 : Int32) : Option (Int32 × zS) :=
  zz1 (T.1 a0 = 12) <|
  zb2 (f_X12_in T N s0 x1 (0 : Int32) (100 : Int32)) fun x5 s4 =>
  if x5 = 0 then (
    some ((-1 : Int32), s4))
  else (
    zb2 (f_X12_sets T N s4 a0 (4 : Int32) x1) fun x7 s6 =>
    some (x7, s6))
theorem k_X12_setGrid (T : zT) (N : Nat) (s0 : zS) (a0 : Nat) (x1 : Int32) : ∀ q, f_X12_setGrid T N s0 a0 x1 = some q → T.1 a0 = 12 := by
  intro q h
  unfold f_X12_setGrid at h
  exact zz_guard h (fun h _ => h)
set_option maxHeartbeats 4000000 in
set_option maxRecDepth 100000 in
theorem c_X12_setGrid (l : Launch) (D : va_G) (cy : Nat → ClassId) (T : zT) (hT : zok T) (ad : Nat → Nat) (N : Nat) (s0 : zS) (sz : Nat) (a0 : Nat) (x1 : Int32) : ∀ (r0 : Int32) (σ0 : zS), f_X12_setGrid T N s0 a0 x1 = some (r0, σ0) → Met l yX12_setGrid wsX12_setGrid ({ frames := 2, cells := 0, slots := 0, locals := 44 }) (va_Pc [.ref (ad a0), .int x1] (zPre D cy T ad s0 sz)) (va_Qi (fun (r2 : Int32) (σ2 : zS) => r2 = r0 ∧ σ2 = σ0) (zAt D cy T ad (zA T ad sz)) (zA T ad sz)) 0 0 (zA T ad sz) := by
  intro r0 σ0 hq
  refine Met.ofW (cc := cX12_setGrid) (maxL := 2) (ret := (some .int)) (by decide) rfl ?_
  intro p e s m args below meth c s₁ B hml hv
  obtain ⟨hargs, hsz, hP, hK, hD0, hN⟩ := hv
  have hx := B.exec
  have hb := B.bytes
  have hr := B.returns
  have hts := atoms_spec (ws := wsX12_setGrid) B.pre
  have hown : s.vm.findClass RX12 = some m.cls := findClass_of_methodNamed B.named
  have hlocks := B.notSynchronized
  have S : CallFix p m c cX12_setGrid 2 s args wsX12_setGrid RX12 := ⟨hx, hb, hml, hown, hts⟩
  subst hsz
  have hB : zB D cy T ad (zA T ad s.heap.size) s.heap s0 s.heap [] s := zz_entry hP hK hD0 hN
  obtain ⟨ls, hent, hl⟩ := zz_ent m hargs (n := 2) (Nat.le_of_ble_eq_true rfl)
  rw [hent]
  have hl : lv_has ls 2 [(0, .ref (ad a0)), (1, .int x1)] := hl
  unfold f_X12_setGrid at hq
  refine zz_guard hq (fun hk0 hq => ?_)
  refine lv_iload_n hx hb dX12_setGrid_0 rfl (lv_at hl 1 rfl) ?_
  refine lv_iconst (v := 0) hx hb dX12_setGrid_1 (by decide) ?_
  refine lv_bipush (v := 100) hx hb dX12_setGrid_2 (by decide) ?_
  refine zz_callSi S hT hB (As := [.int x1, .int (0 : Int32), .int (100 : Int32)]) (o := f_X12_in T N s0 x1 (0 : Int32) (100 : Int32)) (c_X12_in l D cy T hT ad N s0 _ x1 (0 : Int32) (100 : Int32)) (va_cwS 3 hts (gS wSub wd_570 wd_571 wd_572 wd_573) rfl rfl rfl (by decide +kernel) ⟨Nat.le_of_ble_eq_true rfl, Nat.le_of_ble_eq_true rfl⟩) rfl hl.1 rfl (Nat.le_of_ble_eq_true rfl) dX12_setGrid_4 hq (fun x5 s4 H locs hq hB => ?_)
  refine zz_if_eq (tgt := 19) hx hb dX12_setGrid_7 (by decide) hq (fun hq => ?_) (fun hq => ?_)
  · refine lv_iconst (v := -1) hx hb dX12_setGrid_19 (by decide) ?_
    exact zz_iret S hB hr hlocks dX12_setGrid_20 hq
  · refine lv_aload_n hx hb dX12_setGrid_10 rfl (lv_at hl 0 rfl) ?_
    refine lv_iconst (v := 4) hx hb dX12_setGrid_11 (by decide) ?_
    refine lv_iload_n hx hb dX12_setGrid_12 rfl (lv_at hl 1 rfl) ?_
    refine zz_callVi S hT hB (As := [.int (4 : Int32), .int x1]) (b := a0) (o := f_X12_sets T N s4 a0 (4 : Int32) x1) (c_X12_sets l D cy T hT ad N s4 _ a0 (4 : Int32) x1) (cwV 2 hts (gV wSub wd_772 wd_773 wd_774 wd_572 wd_775) rfl rfl rfl (by decide +kernel) ⟨Nat.le_of_ble_eq_true rfl, Nat.le_of_ble_eq_true rfl⟩) (F := TX12) (NF := 24) 12 rfl (by decide) (k_X12_sets T N s4 a0 (4 : Int32) x1) rfl hl.1 rfl (Nat.le_of_ble_eq_true rfl) dX12_setGrid_13 hq (fun x7 s6 H locs hq hB => ?_)
    refine lv_goto (tgt := 20) hx hb dX12_setGrid_16 (by decide) ?_
    exact zz_iret S hB hr hlocks dX12_setGrid_20 hq
def f_X12_setTolerance (T : zT) (N : Nat) (s0 : zS) (a0 : Nat) (x1 : Int32) : Option (Int32 × zS) :=
  zz1 (T.1 a0 = 12) <|
  zb2 (f_X12_in T N s0 x1 (0 : Int32) (50 : Int32)) fun x5 s4 =>
  if x5 = 0 then (
    some ((-1 : Int32), s4))
  else (
    zb2 (f_X12_sets T N s4 a0 (5 : Int32) x1) fun x7 s6 =>
    some (x7, s6))
theorem k_X12_setTolerance (T : zT) (N : Nat) (s0 : zS) (a0 : Nat) (x1 : Int32) : ∀ q, f_X12_setTolerance T N s0 a0 x1 = some q → T.1 a0 = 12 := by
  intro q h
  unfold f_X12_setTolerance at h
  exact zz_guard h (fun h _ => h)
set_option maxHeartbeats 4000000 in
set_option maxRecDepth 100000 in
theorem c_X12_setTolerance (l : Launch) (D : va_G) (cy : Nat → ClassId) (T : zT) (hT : zok T) (ad : Nat → Nat) (N : Nat) (s0 : zS) (sz : Nat) (a0 : Nat) (x1 : Int32) : ∀ (r0 : Int32) (σ0 : zS), f_X12_setTolerance T N s0 a0 x1 = some (r0, σ0) → Met l yX12_setTolerance wsX12_setTolerance ({ frames := 2, cells := 0, slots := 0, locals := 44 }) (va_Pc [.ref (ad a0), .int x1] (zPre D cy T ad s0 sz)) (va_Qi (fun (r2 : Int32) (σ2 : zS) => r2 = r0 ∧ σ2 = σ0) (zAt D cy T ad (zA T ad sz)) (zA T ad sz)) 0 0 (zA T ad sz) := by
  intro r0 σ0 hq
  refine Met.ofW (cc := cX12_setTolerance) (maxL := 2) (ret := (some .int)) (by decide) rfl ?_
  intro p e s m args below meth c s₁ B hml hv
  obtain ⟨hargs, hsz, hP, hK, hD0, hN⟩ := hv
  have hx := B.exec
  have hb := B.bytes
  have hr := B.returns
  have hts := atoms_spec (ws := wsX12_setTolerance) B.pre
  have hown : s.vm.findClass RX12 = some m.cls := findClass_of_methodNamed B.named
  have hlocks := B.notSynchronized
  have S : CallFix p m c cX12_setTolerance 2 s args wsX12_setTolerance RX12 := ⟨hx, hb, hml, hown, hts⟩
  subst hsz
  have hB : zB D cy T ad (zA T ad s.heap.size) s.heap s0 s.heap [] s := zz_entry hP hK hD0 hN
  obtain ⟨ls, hent, hl⟩ := zz_ent m hargs (n := 2) (Nat.le_of_ble_eq_true rfl)
  rw [hent]
  have hl : lv_has ls 2 [(0, .ref (ad a0)), (1, .int x1)] := hl
  unfold f_X12_setTolerance at hq
  refine zz_guard hq (fun hk0 hq => ?_)
  refine lv_iload_n hx hb dX12_setTolerance_0 rfl (lv_at hl 1 rfl) ?_
  refine lv_iconst (v := 0) hx hb dX12_setTolerance_1 (by decide) ?_
  refine lv_bipush (v := 50) hx hb dX12_setTolerance_2 (by decide) ?_
  refine zz_callSi S hT hB (As := [.int x1, .int (0 : Int32), .int (50 : Int32)]) (o := f_X12_in T N s0 x1 (0 : Int32) (50 : Int32)) (c_X12_in l D cy T hT ad N s0 _ x1 (0 : Int32) (50 : Int32)) (va_cwS 3 hts (gS wSub wd_570 wd_571 wd_572 wd_573) rfl rfl rfl (by decide +kernel) ⟨Nat.le_of_ble_eq_true rfl, Nat.le_of_ble_eq_true rfl⟩) rfl hl.1 rfl (Nat.le_of_ble_eq_true rfl) dX12_setTolerance_4 hq (fun x5 s4 H locs hq hB => ?_)
  refine zz_if_eq (tgt := 19) hx hb dX12_setTolerance_7 (by decide) hq (fun hq => ?_) (fun hq => ?_)
  · refine lv_iconst (v := -1) hx hb dX12_setTolerance_19 (by decide) ?_
    exact zz_iret S hB hr hlocks dX12_setTolerance_20 hq
  · refine lv_aload_n hx hb dX12_setTolerance_10 rfl (lv_at hl 0 rfl) ?_
    refine lv_iconst (v := 5) hx hb dX12_setTolerance_11 (by decide) ?_
    refine lv_iload_n hx hb dX12_setTolerance_12 rfl (lv_at hl 1 rfl) ?_
    refine zz_callVi S hT hB (As := [.int (5 : Int32), .int x1]) (b := a0) (o := f_X12_sets T N s4 a0 (5 : Int32) x1) (c_X12_sets l D cy T hT ad N s4 _ a0 (5 : Int32) x1) (cwV 2 hts (gV wSub wd_772 wd_773 wd_774 wd_572 wd_775) rfl rfl rfl (by decide +kernel) ⟨Nat.le_of_ble_eq_true rfl, Nat.le_of_ble_eq_true rfl⟩) (F := TX12) (NF := 24) 12 rfl (by decide) (k_X12_sets T N s4 a0 (5 : Int32) x1) rfl hl.1 rfl (Nat.le_of_ble_eq_true rfl) dX12_setTolerance_13 hq (fun x7 s6 H locs hq hB => ?_)
    refine lv_goto (tgt := 20) hx hb dX12_setTolerance_16 (by decide) ?_
    exact zz_iret S hB hr hlocks dX12_setTolerance_20 hq
def f_X12_type (T : zT) (N : Nat) (s0 : zS) (a0 : Nat) (x1 : Int32) : Option (Int32 × zS) :=
  zz1 (T.1 a0 = 12) <|
  zb2 (f_X12_in T N s0 x1 (32 : Int32) (126 : Int32)) fun x5 s4 =>
  if ¬ x5 = 0 then (
    (gI T s4 a0 12 18).bind fun x6 =>
    if ¬ x6 = (60 : Int32) then (
      (gR T s4 a0 12 17).bind fun a7 =>
      (gI T s4 a0 12 18).bind fun x8 =>
      (sI T s4 a7 x8 x1).bind fun s9 =>
      (gI T s9 a0 12 18).bind fun x10 =>
      (pI T s9 a0 12 18 (x10 + (1 : Int32))).bind fun s11 =>
      (gI T s11 a0 12 18).bind fun x12 =>
      some (x12, s11))
    else (
      some ((-3 : Int32), s4)))
  else (
    some ((-1 : Int32), s4))
theorem k_X12_type (T : zT) (N : Nat) (s0 : zS) (a0 : Nat) (x1 : Int32) : ∀ q, f_X12_type T N s0 a0 x1 = some q → T.1 a0 = 12 := by
  intro q h
  unfold f_X12_type at h
  exact zz_guard h (fun h _ => h)
set_option maxHeartbeats 4000000 in
set_option maxRecDepth 100000 in
theorem c_X12_type (l : Launch) (D : va_G) (cy : Nat → ClassId) (T : zT) (hT : zok T) (ad : Nat → Nat) (N : Nat) (s0 : zS) (sz : Nat) (a0 : Nat) (x1 : Int32) : ∀ (r0 : Int32) (σ0 : zS), f_X12_type T N s0 a0 x1 = some (r0, σ0) → Met l yX12_type wsX12_type ({ frames := 1, cells := 0, slots := 0, locals := 22 }) (va_Pc [.ref (ad a0), .int x1] (zPre D cy T ad s0 sz)) (va_Qi (fun (r2 : Int32) (σ2 : zS) => r2 = r0 ∧ σ2 = σ0) (zAt D cy T ad (zA T ad sz)) (zA T ad sz)) 0 0 (zA T ad sz) := by
  intro r0 σ0 hq
  refine Met.ofW (cc := cX12_type) (maxL := 2) (ret := (some .int)) (by decide) rfl ?_
  intro p e s m args below meth c s₁ B hml hv
  obtain ⟨hargs, hsz, hP, hK, hD0, hN⟩ := hv
  have hx := B.exec
  have hb := B.bytes
  have hr := B.returns
  have hts := atoms_spec (ws := wsX12_type) B.pre
  have hown : s.vm.findClass RX12 = some m.cls := findClass_of_methodNamed B.named
  have hlocks := B.notSynchronized
  have S : CallFix p m c cX12_type 2 s args wsX12_type RX12 := ⟨hx, hb, hml, hown, hts⟩
  subst hsz
  have hB : zB D cy T ad (zA T ad s.heap.size) s.heap s0 s.heap [] s := zz_entry hP hK hD0 hN
  obtain ⟨ls, hent, hl⟩ := zz_ent m hargs (n := 2) (Nat.le_of_ble_eq_true rfl)
  rw [hent]
  have hl : lv_has ls 2 [(0, .ref (ad a0)), (1, .int x1)] := hl
  have iwX12 : ∀ w ∈ u_ws RX12 TX12 24, w ∈ wsX12_type := fun w h => wS (inWX12 w h)
  unfold f_X12_type at hq
  refine zz_guard hq (fun hk0 hq => ?_)
  refine lv_iload_n hx hb dX12_type_0 rfl (lv_at hl 1 rfl) ?_
  refine lv_bipush (v := 32) hx hb dX12_type_1 (by decide) ?_
  refine lv_bipush (v := 126) hx hb dX12_type_3 (by decide) ?_
  refine zz_callSi S hT hB (As := [.int x1, .int (32 : Int32), .int (126 : Int32)]) (o := f_X12_in T N s0 x1 (32 : Int32) (126 : Int32)) (c_X12_in l D cy T hT ad N s0 _ x1 (32 : Int32) (126 : Int32)) (va_cwS 3 hts (gS wSub wd_570 wd_571 wd_572 wd_573) rfl rfl rfl (by decide +kernel) ⟨Nat.le_of_ble_eq_true rfl, Nat.le_of_ble_eq_true rfl⟩) rfl hl.1 rfl (Nat.le_of_ble_eq_true rfl) dX12_type_5 hq (fun x5 s4 H locs hq hB => ?_)
  refine zz_if_ne (tgt := 13) hx hb dX12_type_8 (by decide) hq (fun hq => ?_) (fun hq => ?_)
  · refine lv_aload_n hx hb dX12_type_13 rfl (lv_at hl 0 rfl) ?_
    refine zz_get S hT hB (C := RX12) (ref := "DiagramDeskModel") (F := TX12) (N := 24) (index := 234) 12 18 iwX12 rfl (by decide) (by decide) rfl rfl (wS wd_776) (fun _ h9 => h9) dX12_type_14 hq (fun x6 hq => ?_)
    refine lv_bipush (v := 60) hx hb dX12_type_17 (by decide) ?_
    refine zz_icmp_ne (tgt := 25) hx hb dX12_type_19 (by decide) hq (fun hq => ?_) (fun hq => ?_)
    · refine lv_aload_n hx hb dX12_type_25 rfl (lv_at hl 0 rfl) ?_
      refine zz_getR S hT hB (C := RX12) (ref := "DiagramDeskModel") (F := TX12) (N := 24) (index := 46) 12 17 iwX12 rfl (by decide) (by decide) rfl rfl (wS wd_777) (fun _ h9 => h9) dX12_type_26 hq (fun a7 hq => ?_)
      refine lv_aload_n hx hb dX12_type_29 rfl (lv_at hl 0 rfl) ?_
      refine zz_get S hT hB (C := RX12) (ref := "DiagramDeskModel") (F := TX12) (N := 24) (index := 234) 12 18 iwX12 rfl (by decide) (by decide) rfl rfl (wS wd_776) (fun _ h9 => h9) dX12_type_30 hq (fun x8 hq => ?_)
      refine lv_iload_n hx hb dX12_type_33 rfl (lv_at hl 1 rfl) ?_
      refine zz_ast S hT hB dX12_type_34 hq (fun s9 H locs hq hB => ?_)
      refine lv_aload_n hx hb dX12_type_35 rfl (lv_at hl 0 rfl) ?_
      refine lv_dup hx hb dX12_type_36 rfl ?_
      refine zz_get S hT hB (C := RX12) (ref := "DiagramDeskModel") (F := TX12) (N := 24) (index := 234) 12 18 iwX12 rfl (by decide) (by decide) rfl rfl (wS wd_776) (fun _ h9 => h9) dX12_type_37 hq (fun x10 hq => ?_)
      refine lv_iconst (v := 1) hx hb dX12_type_40 (by decide) ?_
      refine lv_iadd hx hb dX12_type_41 ?_
      refine zz_put S hT hB (C := RX12) (ref := "DiagramDeskModel") (F := TX12) (N := 24) (index := 234) 12 18 iwX12 tyX12 tyX12_ok nmX12 rfl (by decide) (by decide) rfl rfl (wS wd_776) (fun _ h9 => h9) rfl (by decide +kernel) dX12_type_42 hq (fun s11 H locs hq hB => ?_)
      refine lv_aload_n hx hb dX12_type_45 rfl (lv_at hl 0 rfl) ?_
      refine zz_get S hT hB (C := RX12) (ref := "DiagramDeskModel") (F := TX12) (N := 24) (index := 234) 12 18 iwX12 rfl (by decide) (by decide) rfl rfl (wS wd_776) (fun _ h9 => h9) dX12_type_46 hq (fun x12 hq => ?_)
      exact zz_iret S hB hr hlocks dX12_type_49 hq
    · refine lv_bipush (v := -3) hx hb dX12_type_22 (by decide) ?_
      exact zz_iret S hB hr hlocks dX12_type_24 hq
  · refine lv_iconst (v := -1) hx hb dX12_type_11 (by decide) ?_
    exact zz_iret S hB hr hlocks dX12_type_12 hq
def f_X12_clear (T : zT) (N : Nat) (s0 : zS) (a0 : Nat) : Option (Int32 × zS) :=
  zz1 (T.1 a0 = 12) <|
  (gI T s0 a0 12 18).bind fun x3 =>
  (pI T s0 a0 12 18 (0 : Int32)).bind fun s4 =>
  some (x3, s4)
theorem k_X12_clear (T : zT) (N : Nat) (s0 : zS) (a0 : Nat) : ∀ q, f_X12_clear T N s0 a0 = some q → T.1 a0 = 12 := by
  intro q h
  unfold f_X12_clear at h
  exact zz_guard h (fun h _ => h)
set_option maxHeartbeats 4000000 in
set_option maxRecDepth 100000 in
theorem c_X12_clear (l : Launch) (D : va_G) (cy : Nat → ClassId) (T : zT) (hT : zok T) (ad : Nat → Nat) (N : Nat) (s0 : zS) (sz : Nat) (a0 : Nat) : ∀ (r0 : Int32) (σ0 : zS), f_X12_clear T N s0 a0 = some (r0, σ0) → Met l yX12_clear wsX12_clear ({ frames := 0, cells := 0, slots := 0, locals := 0 }) (va_Pc [.ref (ad a0)] (zPre D cy T ad s0 sz)) (va_Qi (fun (r2 : Int32) (σ2 : zS) => r2 = r0 ∧ σ2 = σ0) (zAt D cy T ad (zA T ad sz)) (zA T ad sz)) 0 0 (zA T ad sz) := by
  intro r0 σ0 hq
  refine Met.ofW (cc := cX12_clear) (maxL := 2) (ret := (some .int)) (by decide) rfl ?_
  intro p e s m args below meth c s₁ B hml hv
  obtain ⟨hargs, hsz, hP, hK, hD0, hN⟩ := hv
  have hx := B.exec
  have hb := B.bytes
  have hr := B.returns
  have hts := atoms_spec (ws := wsX12_clear) B.pre
  have hown : s.vm.findClass RX12 = some m.cls := findClass_of_methodNamed B.named
  have hlocks := B.notSynchronized
  have S : CallFix p m c cX12_clear 2 s args wsX12_clear RX12 := ⟨hx, hb, hml, hown, hts⟩
  subst hsz
  have hB : zB D cy T ad (zA T ad s.heap.size) s.heap s0 s.heap [] s := zz_entry hP hK hD0 hN
  obtain ⟨ls, hent, hl⟩ := zz_ent m hargs (n := 2) (Nat.le_of_ble_eq_true rfl)
  rw [hent]
  have hl : lv_has ls 2 [(0, .ref (ad a0))] := hl
  have iwX12 : ∀ w ∈ u_ws RX12 TX12 24, w ∈ wsX12_clear := fun w h => wS (inWX12 w h)
  unfold f_X12_clear at hq
  refine zz_guard hq (fun hk0 hq => ?_)
  refine lv_aload_n hx hb dX12_clear_0 rfl (lv_at hl 0 rfl) ?_
  refine zz_get S hT hB (C := RX12) (ref := "DiagramDeskModel") (F := TX12) (N := 24) (index := 234) 12 18 iwX12 rfl (by decide) (by decide) rfl rfl (wS wd_776) (fun _ h9 => h9) dX12_clear_1 hq (fun x3 hq => ?_)
  refine lv_istore_n (lv' := [(1, .int x3), (0, .ref (ad a0))]) hx hb dX12_clear_4 rfl hl (by decide) rfl (fun ls hl => ?_)
  refine lv_aload_n hx hb dX12_clear_5 rfl (lv_at hl 1 rfl) ?_
  refine lv_iconst (v := 0) hx hb dX12_clear_6 (by decide) ?_
  refine zz_put S hT hB (C := RX12) (ref := "DiagramDeskModel") (F := TX12) (N := 24) (index := 234) 12 18 iwX12 tyX12 tyX12_ok nmX12 rfl (by decide) (by decide) rfl rfl (wS wd_776) (fun _ h9 => h9) rfl (by decide +kernel) dX12_clear_7 hq (fun s4 H locs hq hB => ?_)
  refine lv_iload_n hx hb dX12_clear_10 rfl (lv_at hl 0 rfl) ?_
  exact zz_iret S hB hr hlocks dX12_clear_11 hq
def f_X12_sign (T : zT) (N : Nat) (s0 : zS) (a0 : Nat) : Option (Int32 × zS) :=
  zz1 (T.1 a0 = 12) <|
  (gI T s0 a0 12 19).bind fun x3 =>
  (gI T s0 a0 12 18).bind fun x4 =>
  if x4 ≤ x3 then (
    some ((-1 : Int32), s0))
  else (
    (gR T s0 a0 12 17).bind fun a5 =>
    (gI T s0 a0 12 19).bind fun x6 =>
    (aI T s0 a5 13 x6).bind fun x7 =>
    some (x7, s0))
theorem k_X12_sign (T : zT) (N : Nat) (s0 : zS) (a0 : Nat) : ∀ q, f_X12_sign T N s0 a0 = some q → T.1 a0 = 12 := by
  intro q h
  unfold f_X12_sign at h
  exact zz_guard h (fun h _ => h)
set_option maxHeartbeats 4000000 in
set_option maxRecDepth 100000 in
theorem c_X12_sign (l : Launch) (D : va_G) (cy : Nat → ClassId) (T : zT) (hT : zok T) (ad : Nat → Nat) (N : Nat) (s0 : zS) (sz : Nat) (a0 : Nat) : ∀ (r0 : Int32) (σ0 : zS), f_X12_sign T N s0 a0 = some (r0, σ0) → Met l yX12_sign wsX12_sign ({ frames := 0, cells := 0, slots := 0, locals := 0 }) (va_Pc [.ref (ad a0)] (zPre D cy T ad s0 sz)) (va_Qi (fun (r2 : Int32) (σ2 : zS) => r2 = r0 ∧ σ2 = σ0) (zAt D cy T ad (zA T ad sz)) (zA T ad sz)) 0 0 (zA T ad sz) := by
  intro r0 σ0 hq
  refine Met.ofW (cc := cX12_sign) (maxL := 1) (ret := (some .int)) (by decide) rfl ?_
  intro p e s m args below meth c s₁ B hml hv
  obtain ⟨hargs, hsz, hP, hK, hD0, hN⟩ := hv
  have hx := B.exec
  have hb := B.bytes
  have hr := B.returns
  have hts := atoms_spec (ws := wsX12_sign) B.pre
  have hown : s.vm.findClass RX12 = some m.cls := findClass_of_methodNamed B.named
  have hlocks := B.notSynchronized
  have S : CallFix p m c cX12_sign 1 s args wsX12_sign RX12 := ⟨hx, hb, hml, hown, hts⟩
  subst hsz
  have hB : zB D cy T ad (zA T ad s.heap.size) s.heap s0 s.heap [] s := zz_entry hP hK hD0 hN
  obtain ⟨ls, hent, hl⟩ := zz_ent m hargs (n := 1) (Nat.le_of_ble_eq_true rfl)
  rw [hent]
  have hl : lv_has ls 1 [(0, .ref (ad a0))] := hl
  have iwX12 : ∀ w ∈ u_ws RX12 TX12 24, w ∈ wsX12_sign := fun w h => wS (inWX12 w h)
  unfold f_X12_sign at hq
  refine zz_guard hq (fun hk0 hq => ?_)
  refine lv_aload_n hx hb dX12_sign_0 rfl (lv_at hl 0 rfl) ?_
  refine zz_get S hT hB (C := RX12) (ref := "DiagramDeskModel") (F := TX12) (N := 24) (index := 237) 12 19 iwX12 rfl (by decide) (by decide) rfl rfl (wS wd_778) (fun _ h9 => h9) dX12_sign_1 hq (fun x3 hq => ?_)
  refine lv_aload_n hx hb dX12_sign_4 rfl (lv_at hl 0 rfl) ?_
  refine zz_get S hT hB (C := RX12) (ref := "DiagramDeskModel") (F := TX12) (N := 24) (index := 234) 12 18 iwX12 rfl (by decide) (by decide) rfl rfl (wS wd_776) (fun _ h9 => h9) dX12_sign_5 hq (fun x4 hq => ?_)
  refine zz_icmp_ge (tgt := 23) hx hb dX12_sign_8 (by decide) hq (fun hq => ?_) (fun hq => ?_)
  · refine lv_iconst (v := -1) hx hb dX12_sign_23 (by decide) ?_
    exact zz_iret S hB hr hlocks dX12_sign_24 hq
  · refine lv_aload_n hx hb dX12_sign_11 rfl (lv_at hl 0 rfl) ?_
    refine zz_getR S hT hB (C := RX12) (ref := "DiagramDeskModel") (F := TX12) (N := 24) (index := 46) 12 17 iwX12 rfl (by decide) (by decide) rfl rfl (wS wd_777) (fun _ h9 => h9) dX12_sign_12 hq (fun a5 hq => ?_)
    refine lv_aload_n hx hb dX12_sign_15 rfl (lv_at hl 0 rfl) ?_
    refine zz_get S hT hB (C := RX12) (ref := "DiagramDeskModel") (F := TX12) (N := 24) (index := 237) 12 19 iwX12 rfl (by decide) (by decide) rfl rfl (wS wd_778) (fun _ h9 => h9) dX12_sign_16 hq (fun x6 hq => ?_)
    refine zz_ald S hT hB dX12_sign_19 hq (fun x7 hq => ?_)
    refine lv_goto (tgt := 24) hx hb dX12_sign_20 (by decide) ?_
    exact zz_iret S hB hr hlocks dX12_sign_24 hq
def f_X12_reads_J165 (T : zT) (N : Nat) (a0 : Nat) (x11 : Int32) (s20 : zS) (x22 : Int32) : Option (Int32 × zS) :=
  (pI T s20 a0 12 21 x22).bind fun s23 =>
  if x11 ≤ 0 then (
    rZ (0 : Int32) s23)
  else (
    rZ (1 : Int32) s23)
def f_X12_reads_J142 (T : zT) (N : Nat) (a0 : Nat) (x4 : Int32) (x11 : Int32) (x19 : Int32) (s20 : zS) : Option (Int32 × zS) :=
  (gI T s20 a0 12 21).bind fun x21 =>
  if 0 ≤ x21 then (
    (gI T s20 a0 12 21).bind fun x24 =>
    f_X12_reads_J165 T N a0 x11 s20 x24)
  else (
    if ¬ x19 = 0 then (
      (gI T s20 a0 12 21).bind fun x25 =>
      f_X12_reads_J165 T N a0 x11 s20 x25)
    else (
      f_X12_reads_J165 T N a0 x11 s20 x4))
def f_X12_reads_J107 (T : zT) (N : Nat) (a0 : Nat) (x1 : Int32) (x4 : Int32) (x11 : Int32) (s14 : zS) (x15 : Int32) : Option (Int32 × zS) :=
  (gR T s14 a0 12 23).bind fun a16 =>
  (gI T s14 a0 12 20).bind fun x17 =>
  (sI T s14 a16 (((4 : Int32) * x17) + x1) x15).bind fun s18 =>
  if (2 : Int32) ≤ x1 then (
    zb2 (f_X12_isSize T N s18 x15) fun x27 s26 =>
    f_X12_reads_J142 T N a0 x4 x11 x27 s26)
  else (
    zb2 (f_X12_isPlace T N s18 x15) fun x29 s28 =>
    f_X12_reads_J142 T N a0 x4 x11 x29 s28)
def f_X12_reads_J95 (T : zT) (N : Nat) (a0 : Nat) (x1 : Int32) (x4 : Int32) (x7 : Int32) (x11 : Int32) (x12 : Int32) (s14 : zS) : Option (Int32 × zS) :=
  if x7 = 0 then (
    f_X12_reads_J107 T N a0 x1 x4 x11 s14 x12)
  else (
    f_X12_reads_J107 T N a0 x1 x4 x11 s14 (-x12))
def f_X12_reads_L44 (T : zT) (N : Nat) (a0 : Nat) (x1 : Int32) (x4 : Int32) (x7 : Int32) (k44 : Int32 → Int32 → zS → Option (Int32 × zS)) (x11 : Int32) (x12 : Int32) (s13 : zS) : Option (Int32 × zS) :=
  if (5 : Int32) ≤ x11 then (
    f_X12_reads_J95 T N a0 x1 x4 x7 x11 x12 s13)
  else (
    zb2 (f_X12_sign T N s13 a0) fun x31 s30 =>
    zb2 (f_X12_in T N s30 x31 (48 : Int32) (57 : Int32)) fun x33 s32 =>
    if x33 = 0 then (
      f_X12_reads_J95 T N a0 x1 x4 x7 x11 x12 s32)
    else (
      zb2 (f_X12_sign T N s32 a0) fun x35 s34 =>
      zn ((((10 : Int32) * x12) + x35) - (48 : Int32)) fun x36 =>
      (gI T s34 a0 12 19).bind fun x37 =>
      (pI T s34 a0 12 19 (x37 + (1 : Int32))).bind fun s38 =>
      zn (x11 + (1 : Int32)) fun x39 =>
      k44 x39 x36 s38))
def f_X12_reads_J34 (T : zT) (N : Nat) (a0 : Nat) (x1 : Int32) (x4 : Int32) (s5 : zS) (x7 : Int32) (x8 : Int32) (x9 : Int32) : Option (Int32 × zS) :=
  (pI T s5 a0 12 19 (x8 + x9)).bind fun s10 =>
  zl3 (f_X12_reads_L44 T N a0 x1 x4 x7) N (0 : Int32) (0 : Int32) s10
def f_X12_reads_J19 (T : zT) (N : Nat) (a0 : Nat) (x1 : Int32) (x4 : Int32) (s5 : zS) (x7 : Int32) : Option (Int32 × zS) :=
  (gI T s5 a0 12 19).bind fun x8 =>
  if x7 = 0 then (
    f_X12_reads_J34 T N a0 x1 x4 s5 x7 x8 (0 : Int32))
  else (
    f_X12_reads_J34 T N a0 x1 x4 s5 x7 x8 (1 : Int32))
def f_X12_reads (T : zT) (N : Nat) (s0 : zS) (a0 : Nat) (x1 : Int32) : Option (Int32 × zS) :=
  zz1 (T.1 a0 = 12) <|
  (gI T s0 a0 12 19).bind fun x4 =>
  zb2 (f_X12_sign T N s0 a0) fun x6 s5 =>
  if ¬ x6 = (45 : Int32) then (
    f_X12_reads_J19 T N a0 x1 x4 s5 (0 : Int32))
  else (
    f_X12_reads_J19 T N a0 x1 x4 s5 (1 : Int32))
theorem k_X12_reads (T : zT) (N : Nat) (s0 : zS) (a0 : Nat) (x1 : Int32) : ∀ q, f_X12_reads T N s0 a0 x1 = some q → T.1 a0 = 12 := by
  intro q h
  unfold f_X12_reads at h
  exact zz_guard h (fun h _ => h)
set_option maxHeartbeats 4000000 in
set_option maxRecDepth 100000 in
theorem c_X12_reads (l : Launch) (D : va_G) (cy : Nat → ClassId) (T : zT) (hT : zok T) (ad : Nat → Nat) (N : Nat) (s0 : zS) (sz : Nat) (a0 : Nat) (x1 : Int32) : ∀ (r0 : Int32) (σ0 : zS), f_X12_reads T N s0 a0 x1 = some (r0, σ0) → Met l yX12_reads wsX12_reads ({ frames := 2, cells := 0, slots := 0, locals := 42 }) (va_Pc [.ref (ad a0), .int x1] (zPre D cy T ad s0 sz)) (va_Qi (fun (r2 : Int32) (σ2 : zS) => r2 = r0 ∧ σ2 = σ0) (zAt D cy T ad (zA T ad sz)) (zA T ad sz)) 0 0 (zA T ad sz) := by
  intro r0 σ0 hq
  refine Met.ofW (cc := cX12_reads) (maxL := 7) (ret := (some .boolean)) (by decide) rfl ?_
  intro p e s m args below meth c s₁ B hml hv
  obtain ⟨hargs, hsz, hP, hK, hD0, hN⟩ := hv
  have hx := B.exec
  have hb := B.bytes
  have hr := B.returns
  have hts := atoms_spec (ws := wsX12_reads) B.pre
  have hown : s.vm.findClass RX12 = some m.cls := findClass_of_methodNamed B.named
  have hlocks := B.notSynchronized
  have S : CallFix p m c cX12_reads 7 s args wsX12_reads RX12 := ⟨hx, hb, hml, hown, hts⟩
  subst hsz
  have hB : zB D cy T ad (zA T ad s.heap.size) s.heap s0 s.heap [] s := zz_entry hP hK hD0 hN
  obtain ⟨ls, hent, hl⟩ := zz_ent m hargs (n := 7) (Nat.le_of_ble_eq_true rfl)
  rw [hent]
  have hl : lv_has ls 7 [(0, .ref (ad a0)), (1, .int x1)] := hl
  have iwX12 : ∀ w ∈ u_ws RX12 TX12 24, w ∈ wsX12_reads := fun w h => wS (inWX12 w h)
  unfold f_X12_reads at hq
  refine zz_guard hq (fun hk0 hq => ?_)
  refine lv_aload_n hx hb dX12_reads_0 rfl (lv_at hl 0 rfl) ?_
  refine zz_get S hT hB (C := RX12) (ref := "DiagramDeskModel") (F := TX12) (N := 24) (index := 237) 12 19 iwX12 rfl (by decide) (by decide) rfl rfl (wS wd_778) (fun _ h9 => h9) dX12_reads_1 hq (fun x4 hq => ?_)
  refine lv_istore_n (lv' := [(2, .int x4), (0, .ref (ad a0)), (1, .int x1)]) hx hb dX12_reads_4 rfl hl (by decide) rfl (fun ls hl => ?_)
  refine lv_aload_n hx hb dX12_reads_5 rfl (lv_at hl 1 rfl) ?_
  refine zz_callVi S hT hB (As := []) (b := a0) (o := f_X12_sign T N s0 a0) (c_X12_sign l D cy T hT ad N s0 _ a0) (cwV 0 hts (gV wSub wd_779 wd_780 wd_781 wd_572 wd_782) rfl rfl rfl (by decide +kernel) ⟨Nat.le_of_ble_eq_true rfl, Nat.le_of_ble_eq_true rfl⟩) (F := TX12) (NF := 24) 12 rfl (by decide) (k_X12_sign T N s0 a0) rfl hl.1 rfl (Nat.le_of_ble_eq_true rfl) dX12_reads_6 hq (fun x6 s5 H locs hq hB => ?_)
  refine lv_bipush (v := 45) hx hb dX12_reads_9 (by decide) ?_
  have J19 : ∀ (x7 : Int32) (H : Heap) (locs : List Loc) (ls : Array Slot), f_X12_reads_J19 T N a0 x1 x4 s5 x7 = some (r0, σ0) → zB D cy T ad (zA T ad s.heap.size) s.heap s5 H locs s → lv_has ls 7 [(0, .ref (ad a0)), (1, .int x1), (2, .int x4)] → W p l e (headSpec wsX12_reads ({ frames := 2, cells := 0, slots := 0, locals := 42 } : Room)).room s m args below meth c H locs 0 0 (MQ below (va_Qi (fun (r2 : Int32) (σ2 : zS) => r2 = r0 ∧ σ2 = σ0) (zAt D cy T ad (zA T ad s.heap.size)) (zA T ad s.heap.size)) args s 0 0 (zA T ad s.heap.size)) (F0 m 19 ls [.int x7]) := by
    intro x7 H locs ls hq hB hl
    unfold f_X12_reads_J19 at hq
    refine lv_istore_n (lv' := [(3, .int x7), (0, .ref (ad a0)), (1, .int x1), (2, .int x4)]) hx hb dX12_reads_19 rfl hl (by decide) rfl (fun ls hl => ?_)
    refine lv_aload_n hx hb dX12_reads_20 rfl (lv_at hl 1 rfl) ?_
    refine lv_dup hx hb dX12_reads_21 rfl ?_
    refine zz_get S hT hB (C := RX12) (ref := "DiagramDeskModel") (F := TX12) (N := 24) (index := 237) 12 19 iwX12 rfl (by decide) (by decide) rfl rfl (wS wd_778) (fun _ h9 => h9) dX12_reads_22 hq (fun x8 hq => ?_)
    refine lv_iload_n hx hb dX12_reads_25 rfl (lv_at hl 0 rfl) ?_
    have J34 : ∀ (x9 : Int32) (H : Heap) (locs : List Loc) (ls : Array Slot), f_X12_reads_J34 T N a0 x1 x4 s5 x7 x8 x9 = some (r0, σ0) → zB D cy T ad (zA T ad s.heap.size) s.heap s5 H locs s → lv_has ls 7 [(0, .ref (ad a0)), (1, .int x1), (2, .int x4), (3, .int x7)] → W p l e (headSpec wsX12_reads ({ frames := 2, cells := 0, slots := 0, locals := 42 } : Room)).room s m args below meth c H locs 0 0 (MQ below (va_Qi (fun (r2 : Int32) (σ2 : zS) => r2 = r0 ∧ σ2 = σ0) (zAt D cy T ad (zA T ad s.heap.size)) (zA T ad s.heap.size)) args s 0 0 (zA T ad s.heap.size)) (F0 m 34 ls [.int x9, .int x8, .ref (ad a0)]) := by
      intro x9 H locs ls hq hB hl
      unfold f_X12_reads_J34 at hq
      refine lv_iadd hx hb dX12_reads_34 ?_
      refine zz_put S hT hB (C := RX12) (ref := "DiagramDeskModel") (F := TX12) (N := 24) (index := 237) 12 19 iwX12 tyX12 tyX12_ok nmX12 rfl (by decide) (by decide) rfl rfl (wS wd_778) (fun _ h9 => h9) rfl (by decide +kernel) dX12_reads_35 hq (fun s10 H locs hq hB => ?_)
      refine lv_iconst (v := 0) hx hb dX12_reads_38 (by decide) ?_
      refine lv_istore (lv' := [(4, .int (0 : Int32)), (0, .ref (ad a0)), (1, .int x1), (2, .int x4), (3, .int x7)]) hx hb dX12_reads_39 hl (by decide) rfl (fun ls hl => ?_)
      refine lv_iconst (v := 0) hx hb dX12_reads_41 (by decide) ?_
      refine lv_istore (lv' := [(5, .int (0 : Int32)), (4, .int (0 : Int32)), (0, .ref (ad a0)), (1, .int x1), (2, .int x4), (3, .int x7)]) hx hb dX12_reads_42 hl (by decide) rfl (fun ls hl => ?_)
      have L44 : ∀ (n : Nat) (x11 : Int32) (x12 : Int32) (s13 : zS) (H : Heap) (locs : List Loc) (ls : Array Slot), zl3 (f_X12_reads_L44 T N a0 x1 x4 x7) n x11 x12 s13 = some (r0, σ0) → zB D cy T ad (zA T ad s.heap.size) s.heap s13 H locs s → lv_has ls 7 [(0, .ref (ad a0)), (1, .int x1), (2, .int x4), (3, .int x7), (4, .int x11), (5, .int x12)] → W p l e (headSpec wsX12_reads ({ frames := 2, cells := 0, slots := 0, locals := 42 } : Room)).room s m args below meth c H locs 0 0 (MQ below (va_Qi (fun (r2 : Int32) (σ2 : zS) => r2 = r0 ∧ σ2 = σ0) (zAt D cy T ad (zA T ad s.heap.size)) (zA T ad s.heap.size)) args s 0 0 (zA T ad s.heap.size)) (F0 m 44 ls []) := by
        intro n
        induction n with
        | zero => intro x11 x12 s13 H locs ls hq; exact zz_none hq
        | succ n ih44 =>
          intro x11 x12 s13 H locs ls hq hB hl
          rw [zl3] at hq
          generalize zl3 (f_X12_reads_L44 T N a0 x1 x4 x7) n = k44 at ih44 hq
          unfold f_X12_reads_L44 at hq
          refine lv_iload hx hb dX12_reads_44 (lv_at hl 4 rfl) ?_
          refine lv_iconst (v := 5) hx hb dX12_reads_46 (by decide) ?_
          have J95 : ∀ (s14 : zS) (H : Heap) (locs : List Loc) (ls : Array Slot), f_X12_reads_J95 T N a0 x1 x4 x7 x11 x12 s14 = some (r0, σ0) → zB D cy T ad (zA T ad s.heap.size) s.heap s14 H locs s → lv_has ls 7 [(0, .ref (ad a0)), (1, .int x1), (2, .int x4), (3, .int x7), (4, .int x11), (5, .int x12)] → W p l e (headSpec wsX12_reads ({ frames := 2, cells := 0, slots := 0, locals := 42 } : Room)).room s m args below meth c H locs 0 0 (MQ below (va_Qi (fun (r2 : Int32) (σ2 : zS) => r2 = r0 ∧ σ2 = σ0) (zAt D cy T ad (zA T ad s.heap.size)) (zA T ad s.heap.size)) args s 0 0 (zA T ad s.heap.size)) (F0 m 95 ls []) := by
            intro s14 H locs ls hq hB hl
            unfold f_X12_reads_J95 at hq
            refine lv_iload_n hx hb dX12_reads_95 rfl (lv_at hl 3 rfl) ?_
            have J107 : ∀ (x15 : Int32) (H : Heap) (locs : List Loc) (ls : Array Slot), f_X12_reads_J107 T N a0 x1 x4 x11 s14 x15 = some (r0, σ0) → zB D cy T ad (zA T ad s.heap.size) s.heap s14 H locs s → lv_has ls 7 [(0, .ref (ad a0)), (1, .int x1), (2, .int x4), (4, .int x11)] → W p l e (headSpec wsX12_reads ({ frames := 2, cells := 0, slots := 0, locals := 42 } : Room)).room s m args below meth c H locs 0 0 (MQ below (va_Qi (fun (r2 : Int32) (σ2 : zS) => r2 = r0 ∧ σ2 = σ0) (zAt D cy T ad (zA T ad s.heap.size)) (zA T ad s.heap.size)) args s 0 0 (zA T ad s.heap.size)) (F0 m 107 ls [.int x15]) := by
              intro x15 H locs ls hq hB hl
              unfold f_X12_reads_J107 at hq
              refine lv_istore (lv' := [(5, .int x15), (0, .ref (ad a0)), (1, .int x1), (2, .int x4), (4, .int x11)]) hx hb dX12_reads_107 hl (by decide) rfl (fun ls hl => ?_)
              refine lv_aload_n hx hb dX12_reads_109 rfl (lv_at hl 1 rfl) ?_
              refine zz_getR S hT hB (C := RX12) (ref := "DiagramDeskModel") (F := TX12) (N := 24) (index := 52) 12 23 iwX12 rfl (by decide) (by decide) rfl rfl (wS wd_783) (fun _ h9 => h9) dX12_reads_110 hq (fun a16 hq => ?_)
              refine lv_iconst (v := 4) hx hb dX12_reads_113 (by decide) ?_
              refine lv_aload_n hx hb dX12_reads_114 rfl (lv_at hl 1 rfl) ?_
              refine zz_get S hT hB (C := RX12) (ref := "DiagramDeskModel") (F := TX12) (N := 24) (index := 243) 12 20 iwX12 rfl (by decide) (by decide) rfl rfl (wS wd_784) (fun _ h9 => h9) dX12_reads_115 hq (fun x17 hq => ?_)
              refine lv_imul hx hb dX12_reads_118 ?_
              refine lv_iload_n hx hb dX12_reads_119 rfl (lv_at hl 2 rfl) ?_
              refine lv_iadd hx hb dX12_reads_120 ?_
              refine lv_iload hx hb dX12_reads_121 (lv_at hl 0 rfl) ?_
              refine zz_ast S hT hB dX12_reads_123 hq (fun s18 H locs hq hB => ?_)
              refine lv_iload_n hx hb dX12_reads_124 rfl (lv_at hl 2 rfl) ?_
              refine lv_iconst (v := 2) hx hb dX12_reads_125 (by decide) ?_
              have J142 : ∀ (x19 : Int32) (s20 : zS) (H : Heap) (locs : List Loc) (ls : Array Slot), f_X12_reads_J142 T N a0 x4 x11 x19 s20 = some (r0, σ0) → zB D cy T ad (zA T ad s.heap.size) s.heap s20 H locs s → lv_has ls 7 [(0, .ref (ad a0)), (2, .int x4), (4, .int x11)] → W p l e (headSpec wsX12_reads ({ frames := 2, cells := 0, slots := 0, locals := 42 } : Room)).room s m args below meth c H locs 0 0 (MQ below (va_Qi (fun (r2 : Int32) (σ2 : zS) => r2 = r0 ∧ σ2 = σ0) (zAt D cy T ad (zA T ad s.heap.size)) (zA T ad s.heap.size)) args s 0 0 (zA T ad s.heap.size)) (F0 m 142 ls [.int x19]) := by
                intro x19 s20 H locs ls hq hB hl
                unfold f_X12_reads_J142 at hq
                refine lv_istore (lv' := [(6, .int x19), (0, .ref (ad a0)), (2, .int x4), (4, .int x11)]) hx hb dX12_reads_142 hl (by decide) rfl (fun ls hl => ?_)
                refine lv_aload_n hx hb dX12_reads_144 rfl (lv_at hl 1 rfl) ?_
                refine lv_aload_n hx hb dX12_reads_145 rfl (lv_at hl 1 rfl) ?_
                refine zz_get S hT hB (C := RX12) (ref := "DiagramDeskModel") (F := TX12) (N := 24) (index := 246) 12 21 iwX12 rfl (by decide) (by decide) rfl rfl (wS wd_785) (fun _ h9 => h9) dX12_reads_146 hq (fun x21 hq => ?_)
                have J165 : ∀ (x22 : Int32) (H : Heap) (locs : List Loc) (ls : Array Slot), f_X12_reads_J165 T N a0 x11 s20 x22 = some (r0, σ0) → zB D cy T ad (zA T ad s.heap.size) s.heap s20 H locs s → lv_has ls 7 [(4, .int x11)] → W p l e (headSpec wsX12_reads ({ frames := 2, cells := 0, slots := 0, locals := 42 } : Room)).room s m args below meth c H locs 0 0 (MQ below (va_Qi (fun (r2 : Int32) (σ2 : zS) => r2 = r0 ∧ σ2 = σ0) (zAt D cy T ad (zA T ad s.heap.size)) (zA T ad s.heap.size)) args s 0 0 (zA T ad s.heap.size)) (F0 m 165 ls [.int x22, .ref (ad a0)]) := by
                  intro x22 H locs ls hq hB hl
                  unfold f_X12_reads_J165 at hq
                  refine zz_put S hT hB (C := RX12) (ref := "DiagramDeskModel") (F := TX12) (N := 24) (index := 246) 12 21 iwX12 tyX12 tyX12_ok nmX12 rfl (by decide) (by decide) rfl rfl (wS wd_785) (fun _ h9 => h9) rfl (by decide +kernel) dX12_reads_165 hq (fun s23 H locs hq hB => ?_)
                  refine lv_iload hx hb dX12_reads_168 (lv_at hl 0 rfl) ?_
                  refine zz_if_le (tgt := 177) hx hb dX12_reads_170 (by decide) hq (fun hq => ?_) (fun hq => ?_)
                  · refine lv_iconst (v := 0) hx hb dX12_reads_177 (by decide) ?_
                    exact zz_zret S hB hr hlocks dX12_reads_178 hq
                  · refine lv_iconst (v := 1) hx hb dX12_reads_173 (by decide) ?_
                    refine lv_goto (tgt := 178) hx hb dX12_reads_174 (by decide) ?_
                    exact zz_zret S hB hr hlocks dX12_reads_178 hq
                refine zz_if_ge (tgt := 161) hx hb dX12_reads_149 (by decide) hq (fun hq => ?_) (fun hq => ?_)
                · refine lv_aload_n hx hb dX12_reads_161 rfl (lv_at hl 1 rfl) ?_
                  refine zz_get S hT hB (C := RX12) (ref := "DiagramDeskModel") (F := TX12) (N := 24) (index := 246) 12 21 iwX12 rfl (by decide) (by decide) rfl rfl (wS wd_785) (fun _ h9 => h9) dX12_reads_162 hq (fun x24 hq => ?_)
                  exact J165 x24 _ _ _ hq hB (lv_sub hl [3] rfl)
                · refine lv_iload hx hb dX12_reads_152 (lv_at hl 0 rfl) ?_
                  refine zz_if_ne (tgt := 161) hx hb dX12_reads_154 (by decide) hq (fun hq => ?_) (fun hq => ?_)
                  · refine lv_aload_n hx hb dX12_reads_161 rfl (lv_at hl 1 rfl) ?_
                    refine zz_get S hT hB (C := RX12) (ref := "DiagramDeskModel") (F := TX12) (N := 24) (index := 246) 12 21 iwX12 rfl (by decide) (by decide) rfl rfl (wS wd_785) (fun _ h9 => h9) dX12_reads_162 hq (fun x25 hq => ?_)
                    exact J165 x25 _ _ _ hq hB (lv_sub hl [3] rfl)
                  · refine lv_iload_n hx hb dX12_reads_157 rfl (lv_at hl 2 rfl) ?_
                    refine lv_goto (tgt := 165) hx hb dX12_reads_158 (by decide) ?_
                    exact J165 x4 _ _ _ hq hB (lv_sub hl [3] rfl)
              refine zz_icmp_ge (tgt := 137) hx hb dX12_reads_126 (by decide) hq (fun hq => ?_) (fun hq => ?_)
              · refine lv_iload hx hb dX12_reads_137 (lv_at hl 0 rfl) ?_
                refine zz_callSi S hT hB (As := [.int x15]) (o := f_X12_isSize T N s18 x15) (c_X12_isSize l D cy T hT ad N s18 _ x15) (va_cwS 1 hts (gS wSub wd_601 wd_602 wd_572 wd_603) rfl rfl rfl (by decide +kernel) ⟨Nat.le_of_ble_eq_true rfl, Nat.le_of_ble_eq_true rfl⟩) rfl hl.1 rfl (Nat.le_of_ble_eq_true rfl) dX12_reads_139 hq (fun x27 s26 H locs hq hB => ?_)
                exact J142 x27 s26 _ _ _ hq hB (lv_sub hl [1, 3, 4] rfl)
              · refine lv_iload hx hb dX12_reads_129 (lv_at hl 0 rfl) ?_
                refine zz_callSi S hT hB (As := [.int x15]) (o := f_X12_isPlace T N s18 x15) (c_X12_isPlace l D cy T hT ad N s18 _ x15) (va_cwS 1 hts (gS wSub wd_598 wd_599 wd_572 wd_600) rfl rfl rfl (by decide +kernel) ⟨Nat.le_of_ble_eq_true rfl, Nat.le_of_ble_eq_true rfl⟩) rfl hl.1 rfl (Nat.le_of_ble_eq_true rfl) dX12_reads_131 hq (fun x29 s28 H locs hq hB => ?_)
                refine lv_goto (tgt := 142) hx hb dX12_reads_134 (by decide) ?_
                exact J142 x29 s28 _ _ _ hq hB (lv_sub hl [1, 3, 4] rfl)
            refine zz_if_eq (tgt := 105) hx hb dX12_reads_96 (by decide) hq (fun hq => ?_) (fun hq => ?_)
            · refine lv_iload hx hb dX12_reads_105 (lv_at hl 5 rfl) ?_
              exact J107 x12 _ _ _ hq hB (lv_sub hl [0, 1, 2, 4] rfl)
            · refine lv_iload hx hb dX12_reads_99 (lv_at hl 5 rfl) ?_
              refine lv_ineg hx hb dX12_reads_101 ?_
              refine lv_goto (tgt := 107) hx hb dX12_reads_102 (by decide) ?_
              exact J107 (-x12) _ _ _ hq hB (lv_sub hl [0, 1, 2, 4] rfl)
          refine zz_icmp_ge (tgt := 95) hx hb dX12_reads_47 (by decide) hq (fun hq => ?_) (fun hq => ?_)
          · exact J95 s13 _ _ _ hq hB (lv_sub hl [0, 1, 2, 3, 4, 5] rfl)
          · refine lv_aload_n hx hb dX12_reads_50 rfl (lv_at hl 0 rfl) ?_
            refine zz_callVi S hT hB (As := []) (b := a0) (o := f_X12_sign T N s13 a0) (c_X12_sign l D cy T hT ad N s13 _ a0) (cwV 0 hts (gV wSub wd_779 wd_780 wd_781 wd_572 wd_782) rfl rfl rfl (by decide +kernel) ⟨Nat.le_of_ble_eq_true rfl, Nat.le_of_ble_eq_true rfl⟩) (F := TX12) (NF := 24) 12 rfl (by decide) (k_X12_sign T N s13 a0) rfl hl.1 rfl (Nat.le_of_ble_eq_true rfl) dX12_reads_51 hq (fun x31 s30 H locs hq hB => ?_)
            refine lv_bipush (v := 48) hx hb dX12_reads_54 (by decide) ?_
            refine lv_bipush (v := 57) hx hb dX12_reads_56 (by decide) ?_
            refine zz_callSi S hT hB (As := [.int x31, .int (48 : Int32), .int (57 : Int32)]) (o := f_X12_in T N s30 x31 (48 : Int32) (57 : Int32)) (c_X12_in l D cy T hT ad N s30 _ x31 (48 : Int32) (57 : Int32)) (va_cwS 3 hts (gS wSub wd_570 wd_571 wd_572 wd_573) rfl rfl rfl (by decide +kernel) ⟨Nat.le_of_ble_eq_true rfl, Nat.le_of_ble_eq_true rfl⟩) rfl hl.1 rfl (Nat.le_of_ble_eq_true rfl) dX12_reads_58 hq (fun x33 s32 H locs hq hB => ?_)
            refine zz_if_eq (tgt := 95) hx hb dX12_reads_61 (by decide) hq (fun hq => ?_) (fun hq => ?_)
            · exact J95 s32 _ _ _ hq hB (lv_sub hl [0, 1, 2, 3, 4, 5] rfl)
            · refine lv_bipush (v := 10) hx hb dX12_reads_64 (by decide) ?_
              refine lv_iload hx hb dX12_reads_66 (lv_at hl 5 rfl) ?_
              refine lv_imul hx hb dX12_reads_68 ?_
              refine lv_aload_n hx hb dX12_reads_69 rfl (lv_at hl 0 rfl) ?_
              refine zz_callVi S hT hB (As := []) (b := a0) (o := f_X12_sign T N s32 a0) (c_X12_sign l D cy T hT ad N s32 _ a0) (cwV 0 hts (gV wSub wd_779 wd_780 wd_781 wd_572 wd_782) rfl rfl rfl (by decide +kernel) ⟨Nat.le_of_ble_eq_true rfl, Nat.le_of_ble_eq_true rfl⟩) (F := TX12) (NF := 24) 12 rfl (by decide) (k_X12_sign T N s32 a0) rfl hl.1 rfl (Nat.le_of_ble_eq_true rfl) dX12_reads_70 hq (fun x35 s34 H locs hq hB => ?_)
              refine lv_iadd hx hb dX12_reads_73 ?_
              refine lv_bipush (v := 48) hx hb dX12_reads_74 (by decide) ?_
              refine lv_isub hx hb dX12_reads_76 ?_
              refine zz_nmI hq (fun x36 hq => ?_)
              refine lv_istore (lv' := [(5, .int x36), (0, .ref (ad a0)), (1, .int x1), (2, .int x4), (3, .int x7), (4, .int x11)]) hx hb dX12_reads_77 hl (by decide) rfl (fun ls hl => ?_)
              refine lv_aload_n hx hb dX12_reads_79 rfl (lv_at hl 1 rfl) ?_
              refine lv_dup hx hb dX12_reads_80 rfl ?_
              refine zz_get S hT hB (C := RX12) (ref := "DiagramDeskModel") (F := TX12) (N := 24) (index := 237) 12 19 iwX12 rfl (by decide) (by decide) rfl rfl (wS wd_778) (fun _ h9 => h9) dX12_reads_81 hq (fun x37 hq => ?_)
              refine lv_iconst (v := 1) hx hb dX12_reads_84 (by decide) ?_
              refine lv_iadd hx hb dX12_reads_85 ?_
              refine zz_put S hT hB (C := RX12) (ref := "DiagramDeskModel") (F := TX12) (N := 24) (index := 237) 12 19 iwX12 tyX12 tyX12_ok nmX12 rfl (by decide) (by decide) rfl rfl (wS wd_778) (fun _ h9 => h9) rfl (by decide +kernel) dX12_reads_86 hq (fun s38 H locs hq hB => ?_)
              refine zz_nmV hq (fun x39 ex39 hq => ?_)
              refine lv_iinc (v := x39) (lv' := [(4, .int x39), (5, .int x36), (0, .ref (ad a0)), (1, .int x1), (2, .int x4), (3, .int x7)]) hx hb dX12_reads_89 hl (k := 5) rfl (by rw [ex39]; rfl) (by decide) rfl (fun ls hl => ?_)
              refine lv_goto (tgt := 44) hx hb dX12_reads_92 (by decide) ?_
              exact ih44 x39 x36 s38 _ _ _ hq hB (lv_sub hl [2, 3, 4, 5, 0, 1] rfl)
      exact L44 N (0 : Int32) (0 : Int32) s10 _ _ _ hq hB (lv_sub hl [2, 3, 4, 5, 1, 0] rfl)
    refine zz_if_eq (tgt := 33) hx hb dX12_reads_26 (by decide) hq (fun hq => ?_) (fun hq => ?_)
    · refine lv_iconst (v := 0) hx hb dX12_reads_33 (by decide) ?_
      exact J34 (0 : Int32) _ _ _ hq hB (lv_sub hl [1, 2, 3, 0] rfl)
    · refine lv_iconst (v := 1) hx hb dX12_reads_29 (by decide) ?_
      refine lv_goto (tgt := 34) hx hb dX12_reads_30 (by decide) ?_
      exact J34 (1 : Int32) _ _ _ hq hB (lv_sub hl [1, 2, 3, 0] rfl)
  refine zz_icmp_ne (tgt := 18) hx hb dX12_reads_11 (by decide) hq (fun hq => ?_) (fun hq => ?_)
  · refine lv_iconst (v := 0) hx hb dX12_reads_18 (by decide) ?_
    exact J19 (0 : Int32) _ _ _ hq hB (lv_sub hl [1, 2, 0] rfl)
  · refine lv_iconst (v := 1) hx hb dX12_reads_14 (by decide) ?_
    refine lv_goto (tgt := 19) hx hb dX12_reads_15 (by decide) ?_
    exact J19 (1 : Int32) _ _ _ hq hB (lv_sub hl [1, 2, 0] rfl)
def f_X12_readsShape_J97 (T : zT) (N : Nat) (a0 : Nat) (x11 : Int32) (k67 : Int32 → zS → Option (Int32 × zS)) (s13 : zS) : Option (Int32 × zS) :=
  zb2 (f_X12_reads T N s13 a0 x11) fun x15 s14 =>
  if ¬ x15 = 0 then (
    zn (x11 + (1 : Int32)) fun x16 =>
    k67 x16 s14)
  else (
    rZ (0 : Int32) s14)
def f_X12_readsShape_L67 (T : zT) (N : Nat) (a0 : Nat) (k67 : Int32 → zS → Option (Int32 × zS)) (x11 : Int32) (s12 : zS) : Option (Int32 × zS) :=
  if (4 : Int32) ≤ x11 then (
    rZ (1 : Int32) s12)
  else (
    if x11 ≤ 0 then (
      f_X12_readsShape_J97 T N a0 x11 k67 s12)
    else (
      zb2 (f_X12_sign T N s12 a0) fun x18 s17 =>
      if x18 = (44 : Int32) then (
        (gI T s17 a0 12 19).bind fun x19 =>
        (pI T s17 a0 12 19 (x19 + (1 : Int32))).bind fun s20 =>
        f_X12_readsShape_J97 T N a0 x11 k67 s20)
      else (
        rZ (0 : Int32) s17)))
def f_X12_readsShape_J54 (T : zT) (N : Nat) (a0 : Nat) (s3 : zS) (a5 : Nat) (x6 : Int32) (x7 : Int32) : Option (Int32 × zS) :=
  (sI T s3 a5 x6 x7).bind fun s8 =>
  (gI T s8 a0 12 19).bind fun x9 =>
  (pI T s8 a0 12 19 (x9 + (1 : Int32))).bind fun s10 =>
  zl2 (f_X12_readsShape_L67 T N a0) N (0 : Int32) s10
def f_X12_readsShape_J25 (T : zT) (N : Nat) (a0 : Nat) (s3 : zS) (x4 : Int32) : Option (Int32 × zS) :=
  (gR T s3 a0 12 22).bind fun a5 =>
  (gI T s3 a0 12 20).bind fun x6 =>
  if ¬ x4 = (98 : Int32) then (
    if ¬ x4 = (101 : Int32) then (
      f_X12_readsShape_J54 T N a0 s3 a5 x6 (2 : Int32))
    else (
      f_X12_readsShape_J54 T N a0 s3 a5 x6 (1 : Int32)))
  else (
    f_X12_readsShape_J54 T N a0 s3 a5 x6 (0 : Int32))
def f_X12_readsShape (T : zT) (N : Nat) (s0 : zS) (a0 : Nat) : Option (Int32 × zS) :=
  zz1 (T.1 a0 = 12) <|
  zb2 (f_X12_sign T N s0 a0) fun x4 s3 =>
  if x4 = (98 : Int32) then (
    f_X12_readsShape_J25 T N a0 s3 x4)
  else (
    if x4 = (101 : Int32) then (
      f_X12_readsShape_J25 T N a0 s3 x4)
    else (
      if x4 = (100 : Int32) then (
        f_X12_readsShape_J25 T N a0 s3 x4)
      else (
        rZ (0 : Int32) s3)))
theorem k_X12_readsShape (T : zT) (N : Nat) (s0 : zS) (a0 : Nat) : ∀ q, f_X12_readsShape T N s0 a0 = some q → T.1 a0 = 12 := by
  intro q h
  unfold f_X12_readsShape at h
  exact zz_guard h (fun h _ => h)
set_option maxHeartbeats 4000000 in
set_option maxRecDepth 100000 in
theorem c_X12_readsShape (l : Launch) (D : va_G) (cy : Nat → ClassId) (T : zT) (hT : zok T) (ad : Nat → Nat) (N : Nat) (s0 : zS) (sz : Nat) (a0 : Nat) : ∀ (r0 : Int32) (σ0 : zS), f_X12_readsShape T N s0 a0 = some (r0, σ0) → Met l yX12_readsShape wsX12_readsShape ({ frames := 3, cells := 0, slots := 0, locals := 68 }) (va_Pc [.ref (ad a0)] (zPre D cy T ad s0 sz)) (va_Qi (fun (r2 : Int32) (σ2 : zS) => r2 = r0 ∧ σ2 = σ0) (zAt D cy T ad (zA T ad sz)) (zA T ad sz)) 0 0 (zA T ad sz) := by
  intro r0 σ0 hq
  refine Met.ofW (cc := cX12_readsShape) (maxL := 3) (ret := (some .boolean)) (by decide) rfl ?_
  intro p e s m args below meth c s₁ B hml hv
  obtain ⟨hargs, hsz, hP, hK, hD0, hN⟩ := hv
  have hx := B.exec
  have hb := B.bytes
  have hr := B.returns
  have hts := atoms_spec (ws := wsX12_readsShape) B.pre
  have hown : s.vm.findClass RX12 = some m.cls := findClass_of_methodNamed B.named
  have hlocks := B.notSynchronized
  have S : CallFix p m c cX12_readsShape 3 s args wsX12_readsShape RX12 := ⟨hx, hb, hml, hown, hts⟩
  subst hsz
  have hB : zB D cy T ad (zA T ad s.heap.size) s.heap s0 s.heap [] s := zz_entry hP hK hD0 hN
  obtain ⟨ls, hent, hl⟩ := zz_ent m hargs (n := 3) (Nat.le_of_ble_eq_true rfl)
  rw [hent]
  have hl : lv_has ls 3 [(0, .ref (ad a0))] := hl
  have iwX12 : ∀ w ∈ u_ws RX12 TX12 24, w ∈ wsX12_readsShape := fun w h => wS (inWX12 w h)
  unfold f_X12_readsShape at hq
  refine zz_guard hq (fun hk0 hq => ?_)
  refine lv_aload_n hx hb dX12_readsShape_0 rfl (lv_at hl 0 rfl) ?_
  refine zz_callVi S hT hB (As := []) (b := a0) (o := f_X12_sign T N s0 a0) (c_X12_sign l D cy T hT ad N s0 _ a0) (cwV 0 hts (gV wSub wd_779 wd_780 wd_781 wd_572 wd_782) rfl rfl rfl (by decide +kernel) ⟨Nat.le_of_ble_eq_true rfl, Nat.le_of_ble_eq_true rfl⟩) (F := TX12) (NF := 24) 12 rfl (by decide) (k_X12_sign T N s0 a0) rfl hl.1 rfl (Nat.le_of_ble_eq_true rfl) dX12_readsShape_1 hq (fun x4 s3 H locs hq hB => ?_)
  refine lv_istore_n (lv' := [(1, .int x4), (0, .ref (ad a0))]) hx hb dX12_readsShape_4 rfl hl (by decide) rfl (fun ls hl => ?_)
  refine lv_iload_n hx hb dX12_readsShape_5 rfl (lv_at hl 0 rfl) ?_
  refine lv_bipush (v := 98) hx hb dX12_readsShape_6 (by decide) ?_
  have J25 : ∀ (H : Heap) (locs : List Loc) (ls : Array Slot), f_X12_readsShape_J25 T N a0 s3 x4 = some (r0, σ0) → zB D cy T ad (zA T ad s.heap.size) s.heap s3 H locs s → lv_has ls 3 [(0, .ref (ad a0)), (1, .int x4)] → W p l e (headSpec wsX12_readsShape ({ frames := 3, cells := 0, slots := 0, locals := 68 } : Room)).room s m args below meth c H locs 0 0 (MQ below (va_Qi (fun (r2 : Int32) (σ2 : zS) => r2 = r0 ∧ σ2 = σ0) (zAt D cy T ad (zA T ad s.heap.size)) (zA T ad s.heap.size)) args s 0 0 (zA T ad s.heap.size)) (F0 m 25 ls []) := by
    intro H locs ls hq hB hl
    unfold f_X12_readsShape_J25 at hq
    refine lv_aload_n hx hb dX12_readsShape_25 rfl (lv_at hl 0 rfl) ?_
    refine zz_getR S hT hB (C := RX12) (ref := "DiagramDeskModel") (F := TX12) (N := 24) (index := 49) 12 22 iwX12 rfl (by decide) (by decide) rfl rfl (wS wd_786) (fun _ h9 => h9) dX12_readsShape_26 hq (fun a5 hq => ?_)
    refine lv_aload_n hx hb dX12_readsShape_29 rfl (lv_at hl 0 rfl) ?_
    refine zz_get S hT hB (C := RX12) (ref := "DiagramDeskModel") (F := TX12) (N := 24) (index := 243) 12 20 iwX12 rfl (by decide) (by decide) rfl rfl (wS wd_784) (fun _ h9 => h9) dX12_readsShape_30 hq (fun x6 hq => ?_)
    refine lv_iload_n hx hb dX12_readsShape_33 rfl (lv_at hl 1 rfl) ?_
    refine lv_bipush (v := 98) hx hb dX12_readsShape_34 (by decide) ?_
    have J54 : ∀ (x7 : Int32) (H : Heap) (locs : List Loc) (ls : Array Slot), f_X12_readsShape_J54 T N a0 s3 a5 x6 x7 = some (r0, σ0) → zB D cy T ad (zA T ad s.heap.size) s.heap s3 H locs s → lv_has ls 3 [(0, .ref (ad a0))] → W p l e (headSpec wsX12_readsShape ({ frames := 3, cells := 0, slots := 0, locals := 68 } : Room)).room s m args below meth c H locs 0 0 (MQ below (va_Qi (fun (r2 : Int32) (σ2 : zS) => r2 = r0 ∧ σ2 = σ0) (zAt D cy T ad (zA T ad s.heap.size)) (zA T ad s.heap.size)) args s 0 0 (zA T ad s.heap.size)) (F0 m 54 ls [.int x7, .int x6, .ref (ad a5)]) := by
      intro x7 H locs ls hq hB hl
      unfold f_X12_readsShape_J54 at hq
      refine zz_ast S hT hB dX12_readsShape_54 hq (fun s8 H locs hq hB => ?_)
      refine lv_aload_n hx hb dX12_readsShape_55 rfl (lv_at hl 0 rfl) ?_
      refine lv_dup hx hb dX12_readsShape_56 rfl ?_
      refine zz_get S hT hB (C := RX12) (ref := "DiagramDeskModel") (F := TX12) (N := 24) (index := 237) 12 19 iwX12 rfl (by decide) (by decide) rfl rfl (wS wd_778) (fun _ h9 => h9) dX12_readsShape_57 hq (fun x9 hq => ?_)
      refine lv_iconst (v := 1) hx hb dX12_readsShape_60 (by decide) ?_
      refine lv_iadd hx hb dX12_readsShape_61 ?_
      refine zz_put S hT hB (C := RX12) (ref := "DiagramDeskModel") (F := TX12) (N := 24) (index := 237) 12 19 iwX12 tyX12 tyX12_ok nmX12 rfl (by decide) (by decide) rfl rfl (wS wd_778) (fun _ h9 => h9) rfl (by decide +kernel) dX12_readsShape_62 hq (fun s10 H locs hq hB => ?_)
      refine lv_iconst (v := 0) hx hb dX12_readsShape_65 (by decide) ?_
      refine lv_istore_n (lv' := [(2, .int (0 : Int32)), (0, .ref (ad a0))]) hx hb dX12_readsShape_66 rfl hl (by decide) rfl (fun ls hl => ?_)
      have L67 : ∀ (n : Nat) (x11 : Int32) (s12 : zS) (H : Heap) (locs : List Loc) (ls : Array Slot), zl2 (f_X12_readsShape_L67 T N a0) n x11 s12 = some (r0, σ0) → zB D cy T ad (zA T ad s.heap.size) s.heap s12 H locs s → lv_has ls 3 [(0, .ref (ad a0)), (2, .int x11)] → W p l e (headSpec wsX12_readsShape ({ frames := 3, cells := 0, slots := 0, locals := 68 } : Room)).room s m args below meth c H locs 0 0 (MQ below (va_Qi (fun (r2 : Int32) (σ2 : zS) => r2 = r0 ∧ σ2 = σ0) (zAt D cy T ad (zA T ad s.heap.size)) (zA T ad s.heap.size)) args s 0 0 (zA T ad s.heap.size)) (F0 m 67 ls []) := by
        intro n
        induction n with
        | zero => intro x11 s12 H locs ls hq; exact zz_none hq
        | succ n ih67 =>
          intro x11 s12 H locs ls hq hB hl
          rw [zl2] at hq
          generalize zl2 (f_X12_readsShape_L67 T N a0) n = k67 at ih67 hq
          unfold f_X12_readsShape_L67 at hq
          refine lv_iload_n hx hb dX12_readsShape_67 rfl (lv_at hl 1 rfl) ?_
          refine lv_iconst (v := 4) hx hb dX12_readsShape_68 (by decide) ?_
          refine zz_icmp_ge (tgt := 113) hx hb dX12_readsShape_69 (by decide) hq (fun hq => ?_) (fun hq => ?_)
          · refine lv_iconst (v := 1) hx hb dX12_readsShape_113 (by decide) ?_
            exact zz_zret S hB hr hlocks dX12_readsShape_114 hq
          · refine lv_iload_n hx hb dX12_readsShape_72 rfl (lv_at hl 1 rfl) ?_
            have J97 : ∀ (s13 : zS) (H : Heap) (locs : List Loc) (ls : Array Slot), f_X12_readsShape_J97 T N a0 x11 k67 s13 = some (r0, σ0) → zB D cy T ad (zA T ad s.heap.size) s.heap s13 H locs s → lv_has ls 3 [(0, .ref (ad a0)), (2, .int x11)] → W p l e (headSpec wsX12_readsShape ({ frames := 3, cells := 0, slots := 0, locals := 68 } : Room)).room s m args below meth c H locs 0 0 (MQ below (va_Qi (fun (r2 : Int32) (σ2 : zS) => r2 = r0 ∧ σ2 = σ0) (zAt D cy T ad (zA T ad s.heap.size)) (zA T ad s.heap.size)) args s 0 0 (zA T ad s.heap.size)) (F0 m 97 ls []) := by
              intro s13 H locs ls hq hB hl
              unfold f_X12_readsShape_J97 at hq
              refine lv_aload_n hx hb dX12_readsShape_97 rfl (lv_at hl 0 rfl) ?_
              refine lv_iload_n hx hb dX12_readsShape_98 rfl (lv_at hl 1 rfl) ?_
              refine zz_callVi S hT hB (As := [.int x11]) (b := a0) (o := f_X12_reads T N s13 a0 x11) (c_X12_reads l D cy T hT ad N s13 _ a0 x11) (cwV 1 hts (gV wSub wd_787 wd_788 wd_789 wd_572 wd_790) rfl rfl rfl (by decide +kernel) ⟨Nat.le_of_ble_eq_true rfl, Nat.le_of_ble_eq_true rfl⟩) (F := TX12) (NF := 24) 12 rfl (by decide) (k_X12_reads T N s13 a0 x11) rfl hl.1 rfl (Nat.le_of_ble_eq_true rfl) dX12_readsShape_99 hq (fun x15 s14 H locs hq hB => ?_)
              refine zz_if_ne (tgt := 107) hx hb dX12_readsShape_102 (by decide) hq (fun hq => ?_) (fun hq => ?_)
              · refine zz_nmV hq (fun x16 ex16 hq => ?_)
                refine lv_iinc (v := x16) (lv' := [(2, .int x16), (0, .ref (ad a0))]) hx hb dX12_readsShape_107 hl (k := 1) rfl (by rw [ex16]; rfl) (by decide) rfl (fun ls hl => ?_)
                refine lv_goto (tgt := 67) hx hb dX12_readsShape_110 (by decide) ?_
                exact ih67 x16 s14 _ _ _ hq hB (lv_sub hl [1, 0] rfl)
              · refine lv_iconst (v := 0) hx hb dX12_readsShape_105 (by decide) ?_
                exact zz_zret S hB hr hlocks dX12_readsShape_106 hq
            refine zz_if_le (tgt := 97) hx hb dX12_readsShape_73 (by decide) hq (fun hq => ?_) (fun hq => ?_)
            · exact J97 s12 _ _ _ hq hB (lv_sub hl [0, 1] rfl)
            · refine lv_aload_n hx hb dX12_readsShape_76 rfl (lv_at hl 0 rfl) ?_
              refine zz_callVi S hT hB (As := []) (b := a0) (o := f_X12_sign T N s12 a0) (c_X12_sign l D cy T hT ad N s12 _ a0) (cwV 0 hts (gV wSub wd_779 wd_780 wd_781 wd_572 wd_782) rfl rfl rfl (by decide +kernel) ⟨Nat.le_of_ble_eq_true rfl, Nat.le_of_ble_eq_true rfl⟩) (F := TX12) (NF := 24) 12 rfl (by decide) (k_X12_sign T N s12 a0) rfl hl.1 rfl (Nat.le_of_ble_eq_true rfl) dX12_readsShape_77 hq (fun x18 s17 H locs hq hB => ?_)
              refine lv_bipush (v := 44) hx hb dX12_readsShape_80 (by decide) ?_
              refine zz_icmp_eq (tgt := 87) hx hb dX12_readsShape_82 (by decide) hq (fun hq => ?_) (fun hq => ?_)
              · refine lv_aload_n hx hb dX12_readsShape_87 rfl (lv_at hl 0 rfl) ?_
                refine lv_dup hx hb dX12_readsShape_88 rfl ?_
                refine zz_get S hT hB (C := RX12) (ref := "DiagramDeskModel") (F := TX12) (N := 24) (index := 237) 12 19 iwX12 rfl (by decide) (by decide) rfl rfl (wS wd_778) (fun _ h9 => h9) dX12_readsShape_89 hq (fun x19 hq => ?_)
                refine lv_iconst (v := 1) hx hb dX12_readsShape_92 (by decide) ?_
                refine lv_iadd hx hb dX12_readsShape_93 ?_
                refine zz_put S hT hB (C := RX12) (ref := "DiagramDeskModel") (F := TX12) (N := 24) (index := 237) 12 19 iwX12 tyX12 tyX12_ok nmX12 rfl (by decide) (by decide) rfl rfl (wS wd_778) (fun _ h9 => h9) rfl (by decide +kernel) dX12_readsShape_94 hq (fun s20 H locs hq hB => ?_)
                exact J97 s20 _ _ _ hq hB (lv_sub hl [0, 1] rfl)
              · refine lv_iconst (v := 0) hx hb dX12_readsShape_85 (by decide) ?_
                exact zz_zret S hB hr hlocks dX12_readsShape_86 hq
      exact L67 N (0 : Int32) s10 _ _ _ hq hB (lv_sub hl [1, 0] rfl)
    refine zz_icmp_ne (tgt := 43) hx hb dX12_readsShape_36 (by decide) hq (fun hq => ?_) (fun hq => ?_)
    · refine lv_iload_n hx hb dX12_readsShape_43 rfl (lv_at hl 1 rfl) ?_
      refine lv_bipush (v := 101) hx hb dX12_readsShape_44 (by decide) ?_
      refine zz_icmp_ne (tgt := 53) hx hb dX12_readsShape_46 (by decide) hq (fun hq => ?_) (fun hq => ?_)
      · refine lv_iconst (v := 2) hx hb dX12_readsShape_53 (by decide) ?_
        exact J54 (2 : Int32) _ _ _ hq hB (lv_sub hl [0] rfl)
      · refine lv_iconst (v := 1) hx hb dX12_readsShape_49 (by decide) ?_
        refine lv_goto (tgt := 54) hx hb dX12_readsShape_50 (by decide) ?_
        exact J54 (1 : Int32) _ _ _ hq hB (lv_sub hl [0] rfl)
    · refine lv_iconst (v := 0) hx hb dX12_readsShape_39 (by decide) ?_
      refine lv_goto (tgt := 54) hx hb dX12_readsShape_40 (by decide) ?_
      exact J54 (0 : Int32) _ _ _ hq hB (lv_sub hl [0] rfl)
  refine zz_icmp_eq (tgt := 25) hx hb dX12_readsShape_8 (by decide) hq (fun hq => ?_) (fun hq => ?_)
  · exact J25  _ _ _ hq hB (lv_sub hl [1, 0] rfl)
  · refine lv_iload_n hx hb dX12_readsShape_11 rfl (lv_at hl 0 rfl) ?_
    refine lv_bipush (v := 101) hx hb dX12_readsShape_12 (by decide) ?_
    refine zz_icmp_eq (tgt := 25) hx hb dX12_readsShape_14 (by decide) hq (fun hq => ?_) (fun hq => ?_)
    · exact J25  _ _ _ hq hB (lv_sub hl [1, 0] rfl)
    · refine lv_iload_n hx hb dX12_readsShape_17 rfl (lv_at hl 0 rfl) ?_
      refine lv_bipush (v := 100) hx hb dX12_readsShape_18 (by decide) ?_
      refine zz_icmp_eq (tgt := 25) hx hb dX12_readsShape_20 (by decide) hq (fun hq => ?_) (fun hq => ?_)
      · exact J25  _ _ _ hq hB (lv_sub hl [1, 0] rfl)
      · refine lv_iconst (v := 0) hx hb dX12_readsShape_23 (by decide) ?_
        exact zz_zret S hB hr hlocks dX12_readsShape_24 hq
def f_X12_wrongAt_J57 (T : zT) (N : Nat) (a0 : Nat) (k17 : Int32 → zS → Option (Int32 × zS)) (s16 : zS) (x18 : Int32) : Option (Int32 × zS) :=
  (gI T s16 a0 12 19).bind fun x19 =>
  if x18 = 0 then (
    (pI T s16 a0 12 19 (x19 + (0 : Int32))).bind fun s20 =>
    k17 x18 s20)
  else (
    (pI T s16 a0 12 19 (x19 + (1 : Int32))).bind fun s21 =>
    k17 x18 s21)
def f_X12_wrongAt_L17 (T : zT) (N : Nat) (a0 : Nat) (k17 : Int32 → zS → Option (Int32 × zS)) (x6 : Int32) (s7 : zS) : Option (Int32 × zS) :=
  if x6 = 0 then (
    (gI T s7 a0 12 19).bind fun x8 =>
    (gI T s7 a0 12 18).bind fun x9 =>
    if x9 ≤ x8 then (
      (gI T s7 a0 12 21).bind fun x10 =>
      some (x10, s7))
    else (
      (gI T s7 a0 12 19).bind fun x11 =>
      some (x11, s7)))
  else (
    zb2 (f_X12_readsShape T N s7 a0) fun x13 s12 =>
    if ¬ x13 = 0 then (
      (gI T s12 a0 12 20).bind fun x14 =>
      (pI T s12 a0 12 20 (x14 + (1 : Int32))).bind fun s15 =>
      zb2 (f_X12_sign T N s15 a0) fun x17 s16 =>
      if ¬ x17 = (59 : Int32) then (
        f_X12_wrongAt_J57 T N a0 k17 s16 (0 : Int32))
      else (
        f_X12_wrongAt_J57 T N a0 k17 s16 (1 : Int32)))
    else (
      (gI T s12 a0 12 19).bind fun x22 =>
      some (x22, s12)))
def f_X12_wrongAt (T : zT) (N : Nat) (s0 : zS) (a0 : Nat) : Option (Int32 × zS) :=
  zz1 (T.1 a0 = 12) <|
  (pI T s0 a0 12 19 (0 : Int32)).bind fun s3 =>
  (pI T s3 a0 12 20 (0 : Int32)).bind fun s4 =>
  (pI T s4 a0 12 21 (-1 : Int32)).bind fun s5 =>
  zl2 (f_X12_wrongAt_L17 T N a0) N (1 : Int32) s5
theorem k_X12_wrongAt (T : zT) (N : Nat) (s0 : zS) (a0 : Nat) : ∀ q, f_X12_wrongAt T N s0 a0 = some q → T.1 a0 = 12 := by
  intro q h
  unfold f_X12_wrongAt at h
  exact zz_guard h (fun h _ => h)
set_option maxHeartbeats 4000000 in
set_option maxRecDepth 100000 in
theorem c_X12_wrongAt (l : Launch) (D : va_G) (cy : Nat → ClassId) (T : zT) (hT : zok T) (ad : Nat → Nat) (N : Nat) (s0 : zS) (sz : Nat) (a0 : Nat) : ∀ (r0 : Int32) (σ0 : zS), f_X12_wrongAt T N s0 a0 = some (r0, σ0) → Met l yX12_wrongAt wsX12_wrongAt ({ frames := 4, cells := 0, slots := 0, locals := 90 }) (va_Pc [.ref (ad a0)] (zPre D cy T ad s0 sz)) (va_Qi (fun (r2 : Int32) (σ2 : zS) => r2 = r0 ∧ σ2 = σ0) (zAt D cy T ad (zA T ad sz)) (zA T ad sz)) 0 0 (zA T ad sz) := by
  intro r0 σ0 hq
  refine Met.ofW (cc := cX12_wrongAt) (maxL := 2) (ret := (some .int)) (by decide) rfl ?_
  intro p e s m args below meth c s₁ B hml hv
  obtain ⟨hargs, hsz, hP, hK, hD0, hN⟩ := hv
  have hx := B.exec
  have hb := B.bytes
  have hr := B.returns
  have hts := atoms_spec (ws := wsX12_wrongAt) B.pre
  have hown : s.vm.findClass RX12 = some m.cls := findClass_of_methodNamed B.named
  have hlocks := B.notSynchronized
  have S : CallFix p m c cX12_wrongAt 2 s args wsX12_wrongAt RX12 := ⟨hx, hb, hml, hown, hts⟩
  subst hsz
  have hB : zB D cy T ad (zA T ad s.heap.size) s.heap s0 s.heap [] s := zz_entry hP hK hD0 hN
  obtain ⟨ls, hent, hl⟩ := zz_ent m hargs (n := 2) (Nat.le_of_ble_eq_true rfl)
  rw [hent]
  have hl : lv_has ls 2 [(0, .ref (ad a0))] := hl
  have iwX12 : ∀ w ∈ u_ws RX12 TX12 24, w ∈ wsX12_wrongAt := fun w h => wS (inWX12 w h)
  unfold f_X12_wrongAt at hq
  refine zz_guard hq (fun hk0 hq => ?_)
  refine lv_aload_n hx hb dX12_wrongAt_0 rfl (lv_at hl 0 rfl) ?_
  refine lv_iconst (v := 0) hx hb dX12_wrongAt_1 (by decide) ?_
  refine zz_put S hT hB (C := RX12) (ref := "DiagramDeskModel") (F := TX12) (N := 24) (index := 237) 12 19 iwX12 tyX12 tyX12_ok nmX12 rfl (by decide) (by decide) rfl rfl (wS wd_778) (fun _ h9 => h9) rfl (by decide +kernel) dX12_wrongAt_2 hq (fun s3 H locs hq hB => ?_)
  refine lv_aload_n hx hb dX12_wrongAt_5 rfl (lv_at hl 0 rfl) ?_
  refine lv_iconst (v := 0) hx hb dX12_wrongAt_6 (by decide) ?_
  refine zz_put S hT hB (C := RX12) (ref := "DiagramDeskModel") (F := TX12) (N := 24) (index := 243) 12 20 iwX12 tyX12 tyX12_ok nmX12 rfl (by decide) (by decide) rfl rfl (wS wd_784) (fun _ h9 => h9) rfl (by decide +kernel) dX12_wrongAt_7 hq (fun s4 H locs hq hB => ?_)
  refine lv_aload_n hx hb dX12_wrongAt_10 rfl (lv_at hl 0 rfl) ?_
  refine lv_iconst (v := -1) hx hb dX12_wrongAt_11 (by decide) ?_
  refine zz_put S hT hB (C := RX12) (ref := "DiagramDeskModel") (F := TX12) (N := 24) (index := 246) 12 21 iwX12 tyX12 tyX12_ok nmX12 rfl (by decide) (by decide) rfl rfl (wS wd_785) (fun _ h9 => h9) rfl (by decide +kernel) dX12_wrongAt_12 hq (fun s5 H locs hq hB => ?_)
  refine lv_iconst (v := 1) hx hb dX12_wrongAt_15 (by decide) ?_
  refine lv_istore_n (lv' := [(1, .int (1 : Int32)), (0, .ref (ad a0))]) hx hb dX12_wrongAt_16 rfl hl (by decide) rfl (fun ls hl => ?_)
  have L17 : ∀ (n : Nat) (x6 : Int32) (s7 : zS) (H : Heap) (locs : List Loc) (ls : Array Slot), zl2 (f_X12_wrongAt_L17 T N a0) n x6 s7 = some (r0, σ0) → zB D cy T ad (zA T ad s.heap.size) s.heap s7 H locs s → lv_has ls 2 [(0, .ref (ad a0)), (1, .int x6)] → W p l e (headSpec wsX12_wrongAt ({ frames := 4, cells := 0, slots := 0, locals := 90 } : Room)).room s m args below meth c H locs 0 0 (MQ below (va_Qi (fun (r2 : Int32) (σ2 : zS) => r2 = r0 ∧ σ2 = σ0) (zAt D cy T ad (zA T ad s.heap.size)) (zA T ad s.heap.size)) args s 0 0 (zA T ad s.heap.size)) (F0 m 17 ls []) := by
    intro n
    induction n with
    | zero => intro x6 s7 H locs ls hq; exact zz_none hq
    | succ n ih17 =>
      intro x6 s7 H locs ls hq hB hl
      rw [zl2] at hq
      generalize zl2 (f_X12_wrongAt_L17 T N a0) n = k17 at ih17 hq
      unfold f_X12_wrongAt_L17 at hq
      refine lv_iload_n hx hb dX12_wrongAt_17 rfl (lv_at hl 1 rfl) ?_
      refine zz_if_eq (tgt := 79) hx hb dX12_wrongAt_18 (by decide) hq (fun hq => ?_) (fun hq => ?_)
      · refine lv_aload_n hx hb dX12_wrongAt_79 rfl (lv_at hl 0 rfl) ?_
        refine zz_get S hT hB (C := RX12) (ref := "DiagramDeskModel") (F := TX12) (N := 24) (index := 237) 12 19 iwX12 rfl (by decide) (by decide) rfl rfl (wS wd_778) (fun _ h9 => h9) dX12_wrongAt_80 hq (fun x8 hq => ?_)
        refine lv_aload_n hx hb dX12_wrongAt_83 rfl (lv_at hl 0 rfl) ?_
        refine zz_get S hT hB (C := RX12) (ref := "DiagramDeskModel") (F := TX12) (N := 24) (index := 234) 12 18 iwX12 rfl (by decide) (by decide) rfl rfl (wS wd_776) (fun _ h9 => h9) dX12_wrongAt_84 hq (fun x9 hq => ?_)
        refine zz_icmp_ge (tgt := 97) hx hb dX12_wrongAt_87 (by decide) hq (fun hq => ?_) (fun hq => ?_)
        · refine lv_aload_n hx hb dX12_wrongAt_97 rfl (lv_at hl 0 rfl) ?_
          refine zz_get S hT hB (C := RX12) (ref := "DiagramDeskModel") (F := TX12) (N := 24) (index := 246) 12 21 iwX12 rfl (by decide) (by decide) rfl rfl (wS wd_785) (fun _ h9 => h9) dX12_wrongAt_98 hq (fun x10 hq => ?_)
          exact zz_iret S hB hr hlocks dX12_wrongAt_101 hq
        · refine lv_aload_n hx hb dX12_wrongAt_90 rfl (lv_at hl 0 rfl) ?_
          refine zz_get S hT hB (C := RX12) (ref := "DiagramDeskModel") (F := TX12) (N := 24) (index := 237) 12 19 iwX12 rfl (by decide) (by decide) rfl rfl (wS wd_778) (fun _ h9 => h9) dX12_wrongAt_91 hq (fun x11 hq => ?_)
          refine lv_goto (tgt := 101) hx hb dX12_wrongAt_94 (by decide) ?_
          exact zz_iret S hB hr hlocks dX12_wrongAt_101 hq
      · refine lv_aload_n hx hb dX12_wrongAt_21 rfl (lv_at hl 0 rfl) ?_
        refine zz_callVi S hT hB (As := []) (b := a0) (o := f_X12_readsShape T N s7 a0) (c_X12_readsShape l D cy T hT ad N s7 _ a0) (cwV 0 hts (gV wSub wd_791 wd_792 wd_793 wd_572 wd_794) rfl rfl rfl (by decide +kernel) ⟨Nat.le_of_ble_eq_true rfl, Nat.le_of_ble_eq_true rfl⟩) (F := TX12) (NF := 24) 12 rfl (by decide) (k_X12_readsShape T N s7 a0) rfl hl.1 rfl (Nat.le_of_ble_eq_true rfl) dX12_wrongAt_22 hq (fun x13 s12 H locs hq hB => ?_)
        refine zz_if_ne (tgt := 33) hx hb dX12_wrongAt_25 (by decide) hq (fun hq => ?_) (fun hq => ?_)
        · refine lv_aload_n hx hb dX12_wrongAt_33 rfl (lv_at hl 0 rfl) ?_
          refine lv_dup hx hb dX12_wrongAt_34 rfl ?_
          refine zz_get S hT hB (C := RX12) (ref := "DiagramDeskModel") (F := TX12) (N := 24) (index := 243) 12 20 iwX12 rfl (by decide) (by decide) rfl rfl (wS wd_784) (fun _ h9 => h9) dX12_wrongAt_35 hq (fun x14 hq => ?_)
          refine lv_iconst (v := 1) hx hb dX12_wrongAt_38 (by decide) ?_
          refine lv_iadd hx hb dX12_wrongAt_39 ?_
          refine zz_put S hT hB (C := RX12) (ref := "DiagramDeskModel") (F := TX12) (N := 24) (index := 243) 12 20 iwX12 tyX12 tyX12_ok nmX12 rfl (by decide) (by decide) rfl rfl (wS wd_784) (fun _ h9 => h9) rfl (by decide +kernel) dX12_wrongAt_40 hq (fun s15 H locs hq hB => ?_)
          refine lv_aload_n hx hb dX12_wrongAt_43 rfl (lv_at hl 0 rfl) ?_
          refine zz_callVi S hT hB (As := []) (b := a0) (o := f_X12_sign T N s15 a0) (c_X12_sign l D cy T hT ad N s15 _ a0) (cwV 0 hts (gV wSub wd_779 wd_780 wd_781 wd_572 wd_782) rfl rfl rfl (by decide +kernel) ⟨Nat.le_of_ble_eq_true rfl, Nat.le_of_ble_eq_true rfl⟩) (F := TX12) (NF := 24) 12 rfl (by decide) (k_X12_sign T N s15 a0) rfl hl.1 rfl (Nat.le_of_ble_eq_true rfl) dX12_wrongAt_44 hq (fun x17 s16 H locs hq hB => ?_)
          refine lv_bipush (v := 59) hx hb dX12_wrongAt_47 (by decide) ?_
          have J57 : ∀ (x18 : Int32) (H : Heap) (locs : List Loc) (ls : Array Slot), f_X12_wrongAt_J57 T N a0 k17 s16 x18 = some (r0, σ0) → zB D cy T ad (zA T ad s.heap.size) s.heap s16 H locs s → lv_has ls 2 [(0, .ref (ad a0))] → W p l e (headSpec wsX12_wrongAt ({ frames := 4, cells := 0, slots := 0, locals := 90 } : Room)).room s m args below meth c H locs 0 0 (MQ below (va_Qi (fun (r2 : Int32) (σ2 : zS) => r2 = r0 ∧ σ2 = σ0) (zAt D cy T ad (zA T ad s.heap.size)) (zA T ad s.heap.size)) args s 0 0 (zA T ad s.heap.size)) (F0 m 57 ls [.int x18]) := by
            intro x18 H locs ls hq hB hl
            unfold f_X12_wrongAt_J57 at hq
            refine lv_istore_n (lv' := [(1, .int x18), (0, .ref (ad a0))]) hx hb dX12_wrongAt_57 rfl hl (by decide) rfl (fun ls hl => ?_)
            refine lv_aload_n hx hb dX12_wrongAt_58 rfl (lv_at hl 1 rfl) ?_
            refine lv_dup hx hb dX12_wrongAt_59 rfl ?_
            refine zz_get S hT hB (C := RX12) (ref := "DiagramDeskModel") (F := TX12) (N := 24) (index := 237) 12 19 iwX12 rfl (by decide) (by decide) rfl rfl (wS wd_778) (fun _ h9 => h9) dX12_wrongAt_60 hq (fun x19 hq => ?_)
            refine lv_iload_n hx hb dX12_wrongAt_63 rfl (lv_at hl 0 rfl) ?_
            refine zz_if_eq (tgt := 71) hx hb dX12_wrongAt_64 (by decide) hq (fun hq => ?_) (fun hq => ?_)
            · refine lv_iconst (v := 0) hx hb dX12_wrongAt_71 (by decide) ?_
              refine lv_iadd hx hb dX12_wrongAt_72 ?_
              refine zz_put S hT hB (C := RX12) (ref := "DiagramDeskModel") (F := TX12) (N := 24) (index := 237) 12 19 iwX12 tyX12 tyX12_ok nmX12 rfl (by decide) (by decide) rfl rfl (wS wd_778) (fun _ h9 => h9) rfl (by decide +kernel) dX12_wrongAt_73 hq (fun s20 H locs hq hB => ?_)
              refine lv_goto (tgt := 17) hx hb dX12_wrongAt_76 (by decide) ?_
              exact ih17 x18 s20 _ _ _ hq hB (lv_sub hl [1, 0] rfl)
            · refine lv_iconst (v := 1) hx hb dX12_wrongAt_67 (by decide) ?_
              refine lv_goto (tgt := 72) hx hb dX12_wrongAt_68 (by decide) ?_
              refine lv_iadd hx hb dX12_wrongAt_72 ?_
              refine zz_put S hT hB (C := RX12) (ref := "DiagramDeskModel") (F := TX12) (N := 24) (index := 237) 12 19 iwX12 tyX12 tyX12_ok nmX12 rfl (by decide) (by decide) rfl rfl (wS wd_778) (fun _ h9 => h9) rfl (by decide +kernel) dX12_wrongAt_73 hq (fun s21 H locs hq hB => ?_)
              refine lv_goto (tgt := 17) hx hb dX12_wrongAt_76 (by decide) ?_
              exact ih17 x18 s21 _ _ _ hq hB (lv_sub hl [1, 0] rfl)
          refine zz_icmp_ne (tgt := 56) hx hb dX12_wrongAt_49 (by decide) hq (fun hq => ?_) (fun hq => ?_)
          · refine lv_iconst (v := 0) hx hb dX12_wrongAt_56 (by decide) ?_
            exact J57 (0 : Int32) _ _ _ hq hB (lv_sub hl [0] rfl)
          · refine lv_iconst (v := 1) hx hb dX12_wrongAt_52 (by decide) ?_
            refine lv_goto (tgt := 57) hx hb dX12_wrongAt_53 (by decide) ?_
            exact J57 (1 : Int32) _ _ _ hq hB (lv_sub hl [0] rfl)
        · refine lv_aload_n hx hb dX12_wrongAt_28 rfl (lv_at hl 0 rfl) ?_
          refine zz_get S hT hB (C := RX12) (ref := "DiagramDeskModel") (F := TX12) (N := 24) (index := 237) 12 19 iwX12 rfl (by decide) (by decide) rfl rfl (wS wd_778) (fun _ h9 => h9) dX12_wrongAt_29 hq (fun x22 hq => ?_)
          exact zz_iret S hB hr hlocks dX12_wrongAt_32 hq
  exact L17 N (1 : Int32) s5 _ _ _ hq hB (lv_sub hl [1, 0] rfl)
def f_X12_read_L39 (T : zT) (N : Nat) (a0 : Nat) (k39 : Int32 → zS → Option (Int32 × zS)) (x9 : Int32) (s10 : zS) : Option (Int32 × zS) :=
  (gI T s10 a0 12 20).bind fun x11 =>
  if x11 ≤ x9 then (
    (pI T s10 a0 12 18 (0 : Int32)).bind fun s12 =>
    (gI T s12 a0 12 20).bind fun x13 =>
    some (x13, s12))
  else (
    (gR T s10 a0 12 22).bind fun a14 =>
    (aI T s10 a14 13 x9).bind fun x15 =>
    (gR T s10 a0 12 23).bind fun a16 =>
    (aI T s10 a16 13 ((4 : Int32) * x9)).bind fun x17 =>
    (gR T s10 a0 12 23).bind fun a18 =>
    (aI T s10 a18 13 (((4 : Int32) * x9) + (1 : Int32))).bind fun x19 =>
    (gR T s10 a0 12 23).bind fun a20 =>
    (aI T s10 a20 13 (((4 : Int32) * x9) + (2 : Int32))).bind fun x21 =>
    (gR T s10 a0 12 23).bind fun a22 =>
    (aI T s10 a22 13 (((4 : Int32) * x9) + (3 : Int32))).bind fun x23 =>
    zb2 (f_X12_adds T N s10 a0 x15 x17 x19 x21 x23) fun x25 s24 =>
    zn (x9 + (1 : Int32)) fun x26 =>
    k39 x26 s24)
def f_X12_read (T : zT) (N : Nat) (s0 : zS) (a0 : Nat) : Option (Int32 × zS) :=
  zz1 (T.1 a0 = 12) <|
  zb2 (f_X12_wrongAt T N s0 a0) fun x4 s3 =>
  if x4 < 0 then (
    (gR T s3 a0 12 0).bind fun a5 =>
    (aI T s3 a5 13 (0 : Int32)).bind fun x6 =>
    (gI T s3 a0 12 20).bind fun x7 =>
    if (x6 + x7) ≤ (20 : Int32) then (
      (f_X12_act T N s3 a0).bind fun s8 =>
      zl2 (f_X12_read_L39 T N a0) N (0 : Int32) s8)
    else (
      some ((-3 : Int32), s3)))
  else (
    some ((-100 : Int32) - x4, s3))
theorem k_X12_read (T : zT) (N : Nat) (s0 : zS) (a0 : Nat) : ∀ q, f_X12_read T N s0 a0 = some q → T.1 a0 = 12 := by
  intro q h
  unfold f_X12_read at h
  exact zz_guard h (fun h _ => h)
set_option maxHeartbeats 4000000 in
set_option maxRecDepth 100000 in
theorem c_X12_read (l : Launch) (D : va_G) (cy : Nat → ClassId) (T : zT) (hT : zok T) (ad : Nat → Nat) (N : Nat) (s0 : zS) (sz : Nat) (a0 : Nat) : ∀ (r0 : Int32) (σ0 : zS), f_X12_read T N s0 a0 = some (r0, σ0) → Met l yX12_read wsX12_read ({ frames := 5, cells := 0, slots := 0, locals := 111 }) (va_Pc [.ref (ad a0)] (zPre D cy T ad s0 sz)) (va_Qi (fun (r2 : Int32) (σ2 : zS) => r2 = r0 ∧ σ2 = σ0) (zAt D cy T ad (zA T ad sz)) (zA T ad sz)) 0 0 (zA T ad sz) := by
  intro r0 σ0 hq
  refine Met.ofW (cc := cX12_read) (maxL := 4) (ret := (some .int)) (by decide) rfl ?_
  intro p e s m args below meth c s₁ B hml hv
  obtain ⟨hargs, hsz, hP, hK, hD0, hN⟩ := hv
  have hx := B.exec
  have hb := B.bytes
  have hr := B.returns
  have hts := atoms_spec (ws := wsX12_read) B.pre
  have hown : s.vm.findClass RX12 = some m.cls := findClass_of_methodNamed B.named
  have hlocks := B.notSynchronized
  have S : CallFix p m c cX12_read 4 s args wsX12_read RX12 := ⟨hx, hb, hml, hown, hts⟩
  subst hsz
  have hB : zB D cy T ad (zA T ad s.heap.size) s.heap s0 s.heap [] s := zz_entry hP hK hD0 hN
  obtain ⟨ls, hent, hl⟩ := zz_ent m hargs (n := 4) (Nat.le_of_ble_eq_true rfl)
  rw [hent]
  have hl : lv_has ls 4 [(0, .ref (ad a0))] := hl
  have iwX12 : ∀ w ∈ u_ws RX12 TX12 24, w ∈ wsX12_read := fun w h => wS (inWX12 w h)
  unfold f_X12_read at hq
  refine zz_guard hq (fun hk0 hq => ?_)
  refine lv_aload_n hx hb dX12_read_0 rfl (lv_at hl 0 rfl) ?_
  refine zz_callVi S hT hB (As := []) (b := a0) (o := f_X12_wrongAt T N s0 a0) (c_X12_wrongAt l D cy T hT ad N s0 _ a0) (cwV 0 hts (gV wSub wd_795 wd_796 wd_797 wd_572 wd_798) rfl rfl rfl (by decide +kernel) ⟨Nat.le_of_ble_eq_true rfl, Nat.le_of_ble_eq_true rfl⟩) (F := TX12) (NF := 24) 12 rfl (by decide) (k_X12_wrongAt T N s0 a0) rfl hl.1 rfl (Nat.le_of_ble_eq_true rfl) dX12_read_1 hq (fun x4 s3 H locs hq hB => ?_)
  refine lv_istore_n (lv' := [(1, .int x4), (0, .ref (ad a0))]) hx hb dX12_read_4 rfl hl (by decide) rfl (fun ls hl => ?_)
  refine lv_iload_n hx hb dX12_read_5 rfl (lv_at hl 0 rfl) ?_
  refine zz_if_lt (tgt := 14) hx hb dX12_read_6 (by decide) hq (fun hq => ?_) (fun hq => ?_)
  · refine lv_aload_n hx hb dX12_read_14 rfl (lv_at hl 1 rfl) ?_
    refine zz_getR S hT hB (C := RX12) (ref := "DiagramDeskModel") (F := TX12) (N := 24) (index := 7) 12 0 iwX12 rfl (by decide) (by decide) rfl rfl (wS wd_569) (fun _ h9 => h9) dX12_read_15 hq (fun a5 hq => ?_)
    refine lv_iconst (v := 0) hx hb dX12_read_18 (by decide) ?_
    refine zz_ald S hT hB dX12_read_19 hq (fun x6 hq => ?_)
    refine lv_aload_n hx hb dX12_read_20 rfl (lv_at hl 1 rfl) ?_
    refine zz_get S hT hB (C := RX12) (ref := "DiagramDeskModel") (F := TX12) (N := 24) (index := 243) 12 20 iwX12 rfl (by decide) (by decide) rfl rfl (wS wd_784) (fun _ h9 => h9) dX12_read_21 hq (fun x7 hq => ?_)
    refine lv_iadd hx hb dX12_read_24 ?_
    refine lv_bipush (v := 20) hx hb dX12_read_25 (by decide) ?_
    refine zz_icmp_le (tgt := 33) hx hb dX12_read_27 (by decide) hq (fun hq => ?_) (fun hq => ?_)
    · refine lv_aload_n hx hb dX12_read_33 rfl (lv_at hl 1 rfl) ?_
      refine zz_callVv S hT hB (As := []) (b := a0) (o := f_X12_act T N s3 a0) (c_X12_act l D cy T hT ad N s3 _ a0) (cwV 0 hts (gV wSub wd_604 wd_605 wd_606 wd_572 wd_607) rfl rfl rfl (by decide +kernel) ⟨Nat.le_of_ble_eq_true rfl, Nat.le_of_ble_eq_true rfl⟩) (F := TX12) (NF := 24) 12 rfl (by decide) (k_X12_act T N s3 a0) rfl hl.1 rfl (Nat.le_of_ble_eq_true rfl) dX12_read_34 hq (fun s8 H locs hq hB => ?_)
      refine lv_iconst (v := 0) hx hb dX12_read_37 (by decide) ?_
      refine lv_istore_n (lv' := [(2, .int (0 : Int32)), (1, .int x4), (0, .ref (ad a0))]) hx hb dX12_read_38 rfl hl (by decide) rfl (fun ls hl => ?_)
      have L39 : ∀ (n : Nat) (x9 : Int32) (s10 : zS) (H : Heap) (locs : List Loc) (ls : Array Slot), zl2 (f_X12_read_L39 T N a0) n x9 s10 = some (r0, σ0) → zB D cy T ad (zA T ad s.heap.size) s.heap s10 H locs s → lv_has ls 4 [(0, .ref (ad a0)), (2, .int x9)] → W p l e (headSpec wsX12_read ({ frames := 5, cells := 0, slots := 0, locals := 111 } : Room)).room s m args below meth c H locs 0 0 (MQ below (va_Qi (fun (r2 : Int32) (σ2 : zS) => r2 = r0 ∧ σ2 = σ0) (zAt D cy T ad (zA T ad s.heap.size)) (zA T ad s.heap.size)) args s 0 0 (zA T ad s.heap.size)) (F0 m 39 ls []) := by
        intro n
        induction n with
        | zero => intro x9 s10 H locs ls hq; exact zz_none hq
        | succ n ih39 =>
          intro x9 s10 H locs ls hq hB hl
          rw [zl2] at hq
          generalize zl2 (f_X12_read_L39 T N a0) n = k39 at ih39 hq
          unfold f_X12_read_L39 at hq
          refine lv_iload_n hx hb dX12_read_39 rfl (lv_at hl 1 rfl) ?_
          refine lv_aload_n hx hb dX12_read_40 rfl (lv_at hl 0 rfl) ?_
          refine zz_get S hT hB (C := RX12) (ref := "DiagramDeskModel") (F := TX12) (N := 24) (index := 243) 12 20 iwX12 rfl (by decide) (by decide) rfl rfl (wS wd_784) (fun _ h9 => h9) dX12_read_41 hq (fun x11 hq => ?_)
          refine zz_icmp_ge (tgt := 102) hx hb dX12_read_44 (by decide) hq (fun hq => ?_) (fun hq => ?_)
          · refine lv_aload_n hx hb dX12_read_102 rfl (lv_at hl 0 rfl) ?_
            refine lv_iconst (v := 0) hx hb dX12_read_103 (by decide) ?_
            refine zz_put S hT hB (C := RX12) (ref := "DiagramDeskModel") (F := TX12) (N := 24) (index := 234) 12 18 iwX12 tyX12 tyX12_ok nmX12 rfl (by decide) (by decide) rfl rfl (wS wd_776) (fun _ h9 => h9) rfl (by decide +kernel) dX12_read_104 hq (fun s12 H locs hq hB => ?_)
            refine lv_aload_n hx hb dX12_read_107 rfl (lv_at hl 0 rfl) ?_
            refine zz_get S hT hB (C := RX12) (ref := "DiagramDeskModel") (F := TX12) (N := 24) (index := 243) 12 20 iwX12 rfl (by decide) (by decide) rfl rfl (wS wd_784) (fun _ h9 => h9) dX12_read_108 hq (fun x13 hq => ?_)
            exact zz_iret S hB hr hlocks dX12_read_111 hq
          · refine lv_aload_n hx hb dX12_read_47 rfl (lv_at hl 0 rfl) ?_
            refine lv_aload_n hx hb dX12_read_48 rfl (lv_at hl 0 rfl) ?_
            refine zz_getR S hT hB (C := RX12) (ref := "DiagramDeskModel") (F := TX12) (N := 24) (index := 49) 12 22 iwX12 rfl (by decide) (by decide) rfl rfl (wS wd_786) (fun _ h9 => h9) dX12_read_49 hq (fun a14 hq => ?_)
            refine lv_iload_n hx hb dX12_read_52 rfl (lv_at hl 1 rfl) ?_
            refine zz_ald S hT hB dX12_read_53 hq (fun x15 hq => ?_)
            refine lv_aload_n hx hb dX12_read_54 rfl (lv_at hl 0 rfl) ?_
            refine zz_getR S hT hB (C := RX12) (ref := "DiagramDeskModel") (F := TX12) (N := 24) (index := 52) 12 23 iwX12 rfl (by decide) (by decide) rfl rfl (wS wd_783) (fun _ h9 => h9) dX12_read_55 hq (fun a16 hq => ?_)
            refine lv_iconst (v := 4) hx hb dX12_read_58 (by decide) ?_
            refine lv_iload_n hx hb dX12_read_59 rfl (lv_at hl 1 rfl) ?_
            refine lv_imul hx hb dX12_read_60 ?_
            refine zz_ald S hT hB dX12_read_61 hq (fun x17 hq => ?_)
            refine lv_aload_n hx hb dX12_read_62 rfl (lv_at hl 0 rfl) ?_
            refine zz_getR S hT hB (C := RX12) (ref := "DiagramDeskModel") (F := TX12) (N := 24) (index := 52) 12 23 iwX12 rfl (by decide) (by decide) rfl rfl (wS wd_783) (fun _ h9 => h9) dX12_read_63 hq (fun a18 hq => ?_)
            refine lv_iconst (v := 4) hx hb dX12_read_66 (by decide) ?_
            refine lv_iload_n hx hb dX12_read_67 rfl (lv_at hl 1 rfl) ?_
            refine lv_imul hx hb dX12_read_68 ?_
            refine lv_iconst (v := 1) hx hb dX12_read_69 (by decide) ?_
            refine lv_iadd hx hb dX12_read_70 ?_
            refine zz_ald S hT hB dX12_read_71 hq (fun x19 hq => ?_)
            refine lv_aload_n hx hb dX12_read_72 rfl (lv_at hl 0 rfl) ?_
            refine zz_getR S hT hB (C := RX12) (ref := "DiagramDeskModel") (F := TX12) (N := 24) (index := 52) 12 23 iwX12 rfl (by decide) (by decide) rfl rfl (wS wd_783) (fun _ h9 => h9) dX12_read_73 hq (fun a20 hq => ?_)
            refine lv_iconst (v := 4) hx hb dX12_read_76 (by decide) ?_
            refine lv_iload_n hx hb dX12_read_77 rfl (lv_at hl 1 rfl) ?_
            refine lv_imul hx hb dX12_read_78 ?_
            refine lv_iconst (v := 2) hx hb dX12_read_79 (by decide) ?_
            refine lv_iadd hx hb dX12_read_80 ?_
            refine zz_ald S hT hB dX12_read_81 hq (fun x21 hq => ?_)
            refine lv_aload_n hx hb dX12_read_82 rfl (lv_at hl 0 rfl) ?_
            refine zz_getR S hT hB (C := RX12) (ref := "DiagramDeskModel") (F := TX12) (N := 24) (index := 52) 12 23 iwX12 rfl (by decide) (by decide) rfl rfl (wS wd_783) (fun _ h9 => h9) dX12_read_83 hq (fun a22 hq => ?_)
            refine lv_iconst (v := 4) hx hb dX12_read_86 (by decide) ?_
            refine lv_iload_n hx hb dX12_read_87 rfl (lv_at hl 1 rfl) ?_
            refine lv_imul hx hb dX12_read_88 ?_
            refine lv_iconst (v := 3) hx hb dX12_read_89 (by decide) ?_
            refine lv_iadd hx hb dX12_read_90 ?_
            refine zz_ald S hT hB dX12_read_91 hq (fun x23 hq => ?_)
            refine zz_callVi S hT hB (As := [.int x15, .int x17, .int x19, .int x21, .int x23]) (b := a0) (o := f_X12_adds T N s10 a0 x15 x17 x19 x21 x23) (c_X12_adds l D cy T hT ad N s10 _ a0 x15 x17 x19 x21 x23) (cwV 5 hts (gV wSub wd_608 wd_609 wd_610 wd_572 wd_611) rfl rfl rfl (by decide +kernel) ⟨Nat.le_of_ble_eq_true rfl, Nat.le_of_ble_eq_true rfl⟩) (F := TX12) (NF := 24) 12 rfl (by decide) (k_X12_adds T N s10 a0 x15 x17 x19 x21 x23) rfl hl.1 rfl (Nat.le_of_ble_eq_true rfl) dX12_read_92 hq (fun x25 s24 H locs hq hB => ?_)
            refine lv_istore_n (lv' := [(3, .int x25), (0, .ref (ad a0)), (2, .int x9)]) hx hb dX12_read_95 rfl hl (by decide) rfl (fun ls hl => ?_)
            refine zz_nmV hq (fun x26 ex26 hq => ?_)
            refine lv_iinc (v := x26) (lv' := [(2, .int x26), (3, .int x25), (0, .ref (ad a0))]) hx hb dX12_read_96 hl (k := 2) rfl (by rw [ex26]; rfl) (by decide) rfl (fun ls hl => ?_)
            refine lv_goto (tgt := 39) hx hb dX12_read_99 (by decide) ?_
            exact ih39 x26 s24 _ _ _ hq hB (lv_sub hl [2, 0] rfl)
      exact L39 N (0 : Int32) s8 _ _ _ hq hB (lv_sub hl [2, 0] rfl)
    · refine lv_bipush (v := -3) hx hb dX12_read_30 (by decide) ?_
      exact zz_iret S hB hr hlocks dX12_read_32 hq
  · refine lv_bipush (v := -100) hx hb dX12_read_9 (by decide) ?_
    refine lv_iload_n hx hb dX12_read_11 rfl (lv_at hl 0 rfl) ?_
    refine lv_isub hx hb dX12_read_12 ?_
    exact zz_iret S hB hr hlocks dX12_read_13 hq
def f_X12_undo_L22 (T : zT) (N : Nat) (a0 : Nat) (k22 : Int32 → zS → Option (Int32 × zS)) (x6 : Int32) (s7 : zS) : Option (Int32 × zS) :=
  if (380 : Int32) ≤ x6 then (
    (gI T s7 a0 12 2).bind fun x8 =>
    some (x8, s7))
  else (
    (gR T s7 a0 12 0).bind fun a9 =>
    (gR T s7 a0 12 1).bind fun a10 =>
    (gI T s7 a0 12 2).bind fun x11 =>
    (aI T s7 a10 13 (((380 : Int32) * x11) + x6)).bind fun x12 =>
    (sI T s7 a9 x6 x12).bind fun s13 =>
    zn (x6 + (1 : Int32)) fun x14 =>
    k22 x14 s13)
def f_X12_undo (T : zT) (N : Nat) (s0 : zS) (a0 : Nat) : Option (Int32 × zS) :=
  zz1 (T.1 a0 = 12) <|
  (gI T s0 a0 12 2).bind fun x3 =>
  if ¬ x3 = 0 then (
    (gI T s0 a0 12 2).bind fun x4 =>
    (pI T s0 a0 12 2 (x4 - (1 : Int32))).bind fun s5 =>
    zl2 (f_X12_undo_L22 T N a0) N (0 : Int32) s5)
  else (
    some ((-1000000 : Int32), s0))
theorem k_X12_undo (T : zT) (N : Nat) (s0 : zS) (a0 : Nat) : ∀ q, f_X12_undo T N s0 a0 = some q → T.1 a0 = 12 := by
  intro q h
  unfold f_X12_undo at h
  exact zz_guard h (fun h _ => h)
set_option maxHeartbeats 4000000 in
set_option maxRecDepth 100000 in
theorem c_X12_undo (l : Launch) (D : va_G) (cy : Nat → ClassId) (T : zT) (hT : zok T) (ad : Nat → Nat) (N : Nat) (s0 : zS) (sz : Nat) (a0 : Nat) : ∀ (r0 : Int32) (σ0 : zS), f_X12_undo T N s0 a0 = some (r0, σ0) → Met l yX12_undo wsX12_undo ({ frames := 0, cells := 0, slots := 0, locals := 0 }) (va_Pc [.ref (ad a0)] (zPre D cy T ad s0 sz)) (va_Qi (fun (r2 : Int32) (σ2 : zS) => r2 = r0 ∧ σ2 = σ0) (zAt D cy T ad (zA T ad sz)) (zA T ad sz)) 0 0 (zA T ad sz) := by
  intro r0 σ0 hq
  refine Met.ofW (cc := cX12_undo) (maxL := 2) (ret := (some .int)) (by decide) rfl ?_
  intro p e s m args below meth c s₁ B hml hv
  obtain ⟨hargs, hsz, hP, hK, hD0, hN⟩ := hv
  have hx := B.exec
  have hb := B.bytes
  have hr := B.returns
  have hts := atoms_spec (ws := wsX12_undo) B.pre
  have hown : s.vm.findClass RX12 = some m.cls := findClass_of_methodNamed B.named
  have hlocks := B.notSynchronized
  have S : CallFix p m c cX12_undo 2 s args wsX12_undo RX12 := ⟨hx, hb, hml, hown, hts⟩
  subst hsz
  have hB : zB D cy T ad (zA T ad s.heap.size) s.heap s0 s.heap [] s := zz_entry hP hK hD0 hN
  obtain ⟨ls, hent, hl⟩ := zz_ent m hargs (n := 2) (Nat.le_of_ble_eq_true rfl)
  rw [hent]
  have hl : lv_has ls 2 [(0, .ref (ad a0))] := hl
  have iwX12 : ∀ w ∈ u_ws RX12 TX12 24, w ∈ wsX12_undo := fun w h => wS (inWX12 w h)
  unfold f_X12_undo at hq
  refine zz_guard hq (fun hk0 hq => ?_)
  refine lv_aload_n hx hb dX12_undo_0 rfl (lv_at hl 0 rfl) ?_
  refine zz_get S hT hB (C := RX12) (ref := "DiagramDeskModel") (F := TX12) (N := 24) (index := 55) 12 2 iwX12 rfl (by decide) (by decide) rfl rfl (wS wd_567) (fun _ h9 => h9) dX12_undo_1 hq (fun x3 hq => ?_)
  refine zz_if_ne (tgt := 10) hx hb dX12_undo_4 (by decide) hq (fun hq => ?_) (fun hq => ?_)
  · refine lv_aload_n hx hb dX12_undo_10 rfl (lv_at hl 0 rfl) ?_
    refine lv_dup hx hb dX12_undo_11 rfl ?_
    refine zz_get S hT hB (C := RX12) (ref := "DiagramDeskModel") (F := TX12) (N := 24) (index := 55) 12 2 iwX12 rfl (by decide) (by decide) rfl rfl (wS wd_567) (fun _ h9 => h9) dX12_undo_12 hq (fun x4 hq => ?_)
    refine lv_iconst (v := 1) hx hb dX12_undo_15 (by decide) ?_
    refine lv_isub hx hb dX12_undo_16 ?_
    refine zz_put S hT hB (C := RX12) (ref := "DiagramDeskModel") (F := TX12) (N := 24) (index := 55) 12 2 iwX12 tyX12 tyX12_ok nmX12 rfl (by decide) (by decide) rfl rfl (wS wd_567) (fun _ h9 => h9) rfl (by decide +kernel) dX12_undo_17 hq (fun s5 H locs hq hB => ?_)
    refine lv_iconst (v := 0) hx hb dX12_undo_20 (by decide) ?_
    refine lv_istore_n (lv' := [(1, .int (0 : Int32)), (0, .ref (ad a0))]) hx hb dX12_undo_21 rfl hl (by decide) rfl (fun ls hl => ?_)
    have L22 : ∀ (n : Nat) (x6 : Int32) (s7 : zS) (H : Heap) (locs : List Loc) (ls : Array Slot), zl2 (f_X12_undo_L22 T N a0) n x6 s7 = some (r0, σ0) → zB D cy T ad (zA T ad s.heap.size) s.heap s7 H locs s → lv_has ls 2 [(0, .ref (ad a0)), (1, .int x6)] → W p l e (headSpec wsX12_undo ({ frames := 0, cells := 0, slots := 0, locals := 0 } : Room)).room s m args below meth c H locs 0 0 (MQ below (va_Qi (fun (r2 : Int32) (σ2 : zS) => r2 = r0 ∧ σ2 = σ0) (zAt D cy T ad (zA T ad s.heap.size)) (zA T ad s.heap.size)) args s 0 0 (zA T ad s.heap.size)) (F0 m 22 ls []) := by
      intro n
      induction n with
      | zero => intro x6 s7 H locs ls hq; exact zz_none hq
      | succ n ih22 =>
        intro x6 s7 H locs ls hq hB hl
        rw [zl2] at hq
        generalize zl2 (f_X12_undo_L22 T N a0) n = k22 at ih22 hq
        unfold f_X12_undo_L22 at hq
        refine lv_iload_n hx hb dX12_undo_22 rfl (lv_at hl 1 rfl) ?_
        refine lv_sipush (v := 380) hx hb dX12_undo_23 (by decide) ?_
        refine zz_icmp_ge (tgt := 56) hx hb dX12_undo_26 (by decide) hq (fun hq => ?_) (fun hq => ?_)
        · refine lv_aload_n hx hb dX12_undo_56 rfl (lv_at hl 0 rfl) ?_
          refine zz_get S hT hB (C := RX12) (ref := "DiagramDeskModel") (F := TX12) (N := 24) (index := 55) 12 2 iwX12 rfl (by decide) (by decide) rfl rfl (wS wd_567) (fun _ h9 => h9) dX12_undo_57 hq (fun x8 hq => ?_)
          exact zz_iret S hB hr hlocks dX12_undo_60 hq
        · refine lv_aload_n hx hb dX12_undo_29 rfl (lv_at hl 0 rfl) ?_
          refine zz_getR S hT hB (C := RX12) (ref := "DiagramDeskModel") (F := TX12) (N := 24) (index := 7) 12 0 iwX12 rfl (by decide) (by decide) rfl rfl (wS wd_569) (fun _ h9 => h9) dX12_undo_30 hq (fun a9 hq => ?_)
          refine lv_iload_n hx hb dX12_undo_33 rfl (lv_at hl 1 rfl) ?_
          refine lv_aload_n hx hb dX12_undo_34 rfl (lv_at hl 0 rfl) ?_
          refine zz_getR S hT hB (C := RX12) (ref := "DiagramDeskModel") (F := TX12) (N := 24) (index := 13) 12 1 iwX12 rfl (by decide) (by decide) rfl rfl (wS wd_568) (fun _ h9 => h9) dX12_undo_35 hq (fun a10 hq => ?_)
          refine lv_sipush (v := 380) hx hb dX12_undo_38 (by decide) ?_
          refine lv_aload_n hx hb dX12_undo_41 rfl (lv_at hl 0 rfl) ?_
          refine zz_get S hT hB (C := RX12) (ref := "DiagramDeskModel") (F := TX12) (N := 24) (index := 55) 12 2 iwX12 rfl (by decide) (by decide) rfl rfl (wS wd_567) (fun _ h9 => h9) dX12_undo_42 hq (fun x11 hq => ?_)
          refine lv_imul hx hb dX12_undo_45 ?_
          refine lv_iload_n hx hb dX12_undo_46 rfl (lv_at hl 1 rfl) ?_
          refine lv_iadd hx hb dX12_undo_47 ?_
          refine zz_ald S hT hB dX12_undo_48 hq (fun x12 hq => ?_)
          refine zz_ast S hT hB dX12_undo_49 hq (fun s13 H locs hq hB => ?_)
          refine zz_nmV hq (fun x14 ex14 hq => ?_)
          refine lv_iinc (v := x14) (lv' := [(1, .int x14), (0, .ref (ad a0))]) hx hb dX12_undo_50 hl (k := 1) rfl (by rw [ex14]; rfl) (by decide) rfl (fun ls hl => ?_)
          refine lv_goto (tgt := 22) hx hb dX12_undo_53 (by decide) ?_
          exact ih22 x14 s13 _ _ _ hq hB (lv_sub hl [1, 0] rfl)
    exact L22 N (0 : Int32) s5 _ _ _ hq hB (lv_sub hl [1, 0] rfl)
  · refine lv_ldc (v := -1000000) hx hb hown (hts _ (wS wd_636)) dX12_undo_7 ?_
    exact zz_iret S hB hr hlocks dX12_undo_9 hq
def f_X12_fingerprint_L172 (T : zT) (N : Nat) (a0 : Nat) (k172 : Int64 → Int32 → zS → Option (Int64 × zS)) (y14 : Int64) (x15 : Int32) (s16 : zS) : Option (Int64 × zS) :=
  if (8 : Int32) ≤ x15 then (
    some (y14, s16))
  else (
    zb2 (f_X12_isGroup T N s16 a0 x15) fun x18 s17 =>
    if x18 = 0 then (
      zn (x15 + (1 : Int32)) fun x19 =>
      k172 y14 x19 s17)
    else (
      zb2 (f_X12_setOf T N s17 a0 x15) fun x21 s20 =>
      zn (((31 : Int64) * (((31 : Int64) * y14) + ((x15).toInt64))) + ((x21).toInt64)) fun y22 =>
      zn (x15 + (1 : Int32)) fun x23 =>
      k172 y22 x23 s20))
def f_X12_fingerprint_L121 (T : zT) (N : Nat) (a0 : Nat) (x10 : Int32) (k84 : Int64 → Int32 → zS → Option (Int64 × zS)) (s26 : zS) (k121 : Int64 → Int32 → Option (Int64 × zS)) (y29 : Int64) (x30 : Int32) : Option (Int64 × zS) :=
  (gI T s26 a0 12 5).bind fun x31 =>
  if x31 ≤ x30 then (
    zn (x10 + (1 : Int32)) fun x32 =>
    k84 y29 x32 s26)
  else (
    (gR T s26 a0 12 3).bind fun a33 =>
    (aI T s26 a33 13 x30).bind fun x34 =>
    (gR T s26 a0 12 4).bind fun a35 =>
    (aI T s26 a35 13 x30).bind fun x36 =>
    zn (((31 : Int64) * (((31 : Int64) * y29) + ((x34).toInt64))) + ((x36).toInt64)) fun y37 =>
    zn (x30 + (1 : Int32)) fun x38 =>
    k121 y37 x38)
def f_X12_fingerprint_L84 (T : zT) (N : Nat) (a0 : Nat) (k84 : Int64 → Int32 → zS → Option (Int64 × zS)) (y9 : Int64) (x10 : Int32) (s11 : zS) : Option (Int64 × zS) :=
  (gR T s11 a0 12 0).bind fun a12 =>
  (aI T s11 a12 13 (2 : Int32)).bind fun x13 =>
  if x13 ≤ x10 then (
    zl3 (f_X12_fingerprint_L172 T N a0) N y9 (0 : Int32) s11)
  else (
    zb2 (f_X12_lengthOf T N s11 a0 x10) fun x25 s24 =>
    zb2 (f_X12_throughOf T N s24 a0 x10) fun x27 s26 =>
    zn (((31 : Int64) * (((31 : Int64) * y9) + ((x25).toInt64))) + ((x27).toInt64)) fun y28 =>
    zl2 (f_X12_fingerprint_L121 T N a0 x10 k84 s26) N y28 (0 : Int32))
def f_X12_fingerprint_L34 (T : zT) (N : Nat) (a0 : Nat) (x4 : Int32) (k6 : Int64 → Int32 → zS → Option (Int64 × zS)) (k34 : Int64 → Int32 → zS → Option (Int64 × zS)) (y43 : Int64) (x44 : Int32) (s45 : zS) : Option (Int64 × zS) :=
  if (9 : Int32) ≤ x44 then (
    zn (x4 + (1 : Int32)) fun x46 =>
    k6 y43 x46 s45)
  else (
    zb2 (f_X12_told T N s45 a0 x4 x44) fun x48 s47 =>
    zn (((31 : Int64) * y43) + ((x48).toInt64)) fun y49 =>
    zn (x44 + (1 : Int32)) fun x50 =>
    k34 y49 x50 s47)
def f_X12_fingerprint_L6 (T : zT) (N : Nat) (a0 : Nat) (k6 : Int64 → Int32 → zS → Option (Int64 × zS)) (y3 : Int64) (x4 : Int32) (s5 : zS) : Option (Int64 × zS) :=
  if (20 : Int32) ≤ x4 then (
    (gR T s5 a0 12 0).bind fun a6 =>
    (aI T s5 a6 13 (2 : Int32)).bind fun x7 =>
    zn (((31 : Int64) * y3) + ((x7).toInt64)) fun y8 =>
    zl3 (f_X12_fingerprint_L84 T N a0) N y8 (0 : Int32) s5)
  else (
    zb2 (f_X12_of T N s5 a0 x4 (0 : Int32)) fun x40 s39 =>
    if ¬ x40 = (1 : Int32) then (
      zn (x4 + (1 : Int32)) fun x41 =>
      k6 y3 x41 s39)
    else (
      zn (((31 : Int64) * y3) + ((x4).toInt64)) fun y42 =>
      zl3 (f_X12_fingerprint_L34 T N a0 x4 k6) N y42 (0 : Int32) s39))
def f_X12_fingerprint (T : zT) (N : Nat) (s0 : zS) (a0 : Nat) : Option (Int64 × zS) :=
  zz1 (T.1 a0 = 12) <|
  zl3 (f_X12_fingerprint_L6 T N a0) N (89 : Int64) (0 : Int32) s0
theorem k_X12_fingerprint (T : zT) (N : Nat) (s0 : zS) (a0 : Nat) : ∀ q, f_X12_fingerprint T N s0 a0 = some q → T.1 a0 = 12 := by
  intro q h
  unfold f_X12_fingerprint at h
  exact zz_guard h (fun h _ => h)
set_option maxHeartbeats 4000000 in
set_option maxRecDepth 100000 in
theorem c_X12_fingerprint (l : Launch) (D : va_G) (cy : Nat → ClassId) (T : zT) (hT : zok T) (ad : Nat → Nat) (N : Nat) (s0 : zS) (sz : Nat) (a0 : Nat) : ∀ (r0 : Int64) (σ0 : zS), f_X12_fingerprint T N s0 a0 = some (r0, σ0) → Met l yX12_fingerprint wsX12_fingerprint ({ frames := 5, cells := 0, slots := 0, locals := 119 }) (va_Pc [.ref (ad a0)] (zPre D cy T ad s0 sz)) (va_Ql (fun (r2 : Int64) (σ2 : zS) => r2 = r0 ∧ σ2 = σ0) (zAt D cy T ad (zA T ad sz)) (zA T ad sz)) 0 0 (zA T ad sz) := by
  intro r0 σ0 hq
  refine Met.ofW (cc := cX12_fingerprint) (maxL := 5) (ret := (some .long)) (by decide) rfl ?_
  intro p e s m args below meth c s₁ B hml hv
  obtain ⟨hargs, hsz, hP, hK, hD0, hN⟩ := hv
  have hx := B.exec
  have hb := B.bytes
  have hr := B.returns
  have hts := atoms_spec (ws := wsX12_fingerprint) B.pre
  have hown : s.vm.findClass RX12 = some m.cls := findClass_of_methodNamed B.named
  have hlocks := B.notSynchronized
  have S : CallFix p m c cX12_fingerprint 5 s args wsX12_fingerprint RX12 := ⟨hx, hb, hml, hown, hts⟩
  subst hsz
  have hB : zB D cy T ad (zA T ad s.heap.size) s.heap s0 s.heap [] s := zz_entry hP hK hD0 hN
  obtain ⟨ls, hent, hl⟩ := zz_ent m hargs (n := 5) (Nat.le_of_ble_eq_true rfl)
  rw [hent]
  have hl : lv_has ls 5 [(0, .ref (ad a0))] := hl
  have iwX12 : ∀ w ∈ u_ws RX12 TX12 24, w ∈ wsX12_fingerprint := fun w h => wS (inWX12 w h)
  unfold f_X12_fingerprint at hq
  refine zz_guard hq (fun hk0 hq => ?_)
  refine lv_ldc2 (v := 89) hx hb hown (hts _ (wS wd_799)) dX12_fingerprint_0 ?_
  refine lv_lstore_n (lv' := [(1, .long (89 : Int64)), (0, .ref (ad a0))]) hx hb dX12_fingerprint_3 rfl hl (by decide) rfl (fun ls hl => ?_)
  refine lv_iconst (v := 0) hx hb dX12_fingerprint_4 (by decide) ?_
  refine lv_istore_n (lv' := [(3, .int (0 : Int32)), (1, .long (89 : Int64)), (0, .ref (ad a0))]) hx hb dX12_fingerprint_5 rfl hl (by decide) rfl (fun ls hl => ?_)
  have L6 : ∀ (n : Nat) (y3 : Int64) (x4 : Int32) (s5 : zS) (H : Heap) (locs : List Loc) (ls : Array Slot), zl3 (f_X12_fingerprint_L6 T N a0) n y3 x4 s5 = some (r0, σ0) → zB D cy T ad (zA T ad s.heap.size) s.heap s5 H locs s → lv_has ls 5 [(0, .ref (ad a0)), (1, .long y3), (3, .int x4)] → W p l e (headSpec wsX12_fingerprint ({ frames := 5, cells := 0, slots := 0, locals := 119 } : Room)).room s m args below meth c H locs 0 0 (MQ below (va_Ql (fun (r2 : Int64) (σ2 : zS) => r2 = r0 ∧ σ2 = σ0) (zAt D cy T ad (zA T ad s.heap.size)) (zA T ad s.heap.size)) args s 0 0 (zA T ad s.heap.size)) (F0 m 6 ls []) := by
    intro n
    induction n with
    | zero => intro y3 x4 s5 H locs ls hq; exact zz_none hq
    | succ n ih6 =>
      intro y3 x4 s5 H locs ls hq hB hl
      rw [zl3] at hq
      generalize zl3 (f_X12_fingerprint_L6 T N a0) n = k6 at ih6 hq
      unfold f_X12_fingerprint_L6 at hq
      refine lv_iload_n hx hb dX12_fingerprint_6 rfl (lv_at hl 2 rfl) ?_
      refine lv_bipush (v := 20) hx hb dX12_fingerprint_7 (by decide) ?_
      refine zz_icmp_ge (tgt := 68) hx hb dX12_fingerprint_9 (by decide) hq (fun hq => ?_) (fun hq => ?_)
      · refine lv_ldc2 (v := 31) hx hb hown (hts _ (wS wd_800)) dX12_fingerprint_68 ?_
        refine lv_lload_n hx hb dX12_fingerprint_71 rfl (lv_at hl 1 rfl) ?_
        refine lv_lmul hx hb dX12_fingerprint_72 ?_
        refine lv_aload_n hx hb dX12_fingerprint_73 rfl (lv_at hl 0 rfl) ?_
        refine zz_getR S hT hB (C := RX12) (ref := "DiagramDeskModel") (F := TX12) (N := 24) (index := 7) 12 0 iwX12 rfl (by decide) (by decide) rfl rfl (wS wd_569) (fun _ h9 => h9) dX12_fingerprint_74 hq (fun a6 hq => ?_)
        refine lv_iconst (v := 2) hx hb dX12_fingerprint_77 (by decide) ?_
        refine zz_ald S hT hB dX12_fingerprint_78 hq (fun x7 hq => ?_)
        refine lv_i2l (v := (x7).toInt64) hx hb dX12_fingerprint_79 rfl ?_
        refine lv_ladd hx hb dX12_fingerprint_80 ?_
        refine zz_nmJ hq (fun y8 hq => ?_)
        refine lv_lstore_n (lv' := [(1, .long y8), (0, .ref (ad a0)), (3, .int x4)]) hx hb dX12_fingerprint_81 rfl hl (by decide) rfl (fun ls hl => ?_)
        refine lv_iconst (v := 0) hx hb dX12_fingerprint_82 (by decide) ?_
        refine lv_istore_n (lv' := [(3, .int (0 : Int32)), (1, .long y8), (0, .ref (ad a0))]) hx hb dX12_fingerprint_83 rfl hl (by decide) rfl (fun ls hl => ?_)
        have L84 : ∀ (n : Nat) (y9 : Int64) (x10 : Int32) (s11 : zS) (H : Heap) (locs : List Loc) (ls : Array Slot), zl3 (f_X12_fingerprint_L84 T N a0) n y9 x10 s11 = some (r0, σ0) → zB D cy T ad (zA T ad s.heap.size) s.heap s11 H locs s → lv_has ls 5 [(0, .ref (ad a0)), (1, .long y9), (3, .int x10)] → W p l e (headSpec wsX12_fingerprint ({ frames := 5, cells := 0, slots := 0, locals := 119 } : Room)).room s m args below meth c H locs 0 0 (MQ below (va_Ql (fun (r2 : Int64) (σ2 : zS) => r2 = r0 ∧ σ2 = σ0) (zAt D cy T ad (zA T ad s.heap.size)) (zA T ad s.heap.size)) args s 0 0 (zA T ad s.heap.size)) (F0 m 84 ls []) := by
          intro n
          induction n with
          | zero => intro y9 x10 s11 H locs ls hq; exact zz_none hq
          | succ n ih84 =>
            intro y9 x10 s11 H locs ls hq hB hl
            rw [zl3] at hq
            generalize zl3 (f_X12_fingerprint_L84 T N a0) n = k84 at ih84 hq
            unfold f_X12_fingerprint_L84 at hq
            refine lv_iload_n hx hb dX12_fingerprint_84 rfl (lv_at hl 2 rfl) ?_
            refine lv_aload_n hx hb dX12_fingerprint_85 rfl (lv_at hl 0 rfl) ?_
            refine zz_getR S hT hB (C := RX12) (ref := "DiagramDeskModel") (F := TX12) (N := 24) (index := 7) 12 0 iwX12 rfl (by decide) (by decide) rfl rfl (wS wd_569) (fun _ h9 => h9) dX12_fingerprint_86 hq (fun a12 hq => ?_)
            refine lv_iconst (v := 2) hx hb dX12_fingerprint_89 (by decide) ?_
            refine zz_ald S hT hB dX12_fingerprint_90 hq (fun x13 hq => ?_)
            refine zz_icmp_ge (tgt := 170) hx hb dX12_fingerprint_91 (by decide) hq (fun hq => ?_) (fun hq => ?_)
            · refine lv_iconst (v := 0) hx hb dX12_fingerprint_170 (by decide) ?_
              refine lv_istore_n (lv' := [(3, .int (0 : Int32)), (0, .ref (ad a0)), (1, .long y9)]) hx hb dX12_fingerprint_171 rfl hl (by decide) rfl (fun ls hl => ?_)
              have L172 : ∀ (n : Nat) (y14 : Int64) (x15 : Int32) (s16 : zS) (H : Heap) (locs : List Loc) (ls : Array Slot), zl3 (f_X12_fingerprint_L172 T N a0) n y14 x15 s16 = some (r0, σ0) → zB D cy T ad (zA T ad s.heap.size) s.heap s16 H locs s → lv_has ls 5 [(0, .ref (ad a0)), (1, .long y14), (3, .int x15)] → W p l e (headSpec wsX12_fingerprint ({ frames := 5, cells := 0, slots := 0, locals := 119 } : Room)).room s m args below meth c H locs 0 0 (MQ below (va_Ql (fun (r2 : Int64) (σ2 : zS) => r2 = r0 ∧ σ2 = σ0) (zAt D cy T ad (zA T ad s.heap.size)) (zA T ad s.heap.size)) args s 0 0 (zA T ad s.heap.size)) (F0 m 172 ls []) := by
                intro n
                induction n with
                | zero => intro y14 x15 s16 H locs ls hq; exact zz_none hq
                | succ n ih172 =>
                  intro y14 x15 s16 H locs ls hq hB hl
                  rw [zl3] at hq
                  generalize zl3 (f_X12_fingerprint_L172 T N a0) n = k172 at ih172 hq
                  unfold f_X12_fingerprint_L172 at hq
                  refine lv_iload_n hx hb dX12_fingerprint_172 rfl (lv_at hl 2 rfl) ?_
                  refine lv_bipush (v := 8) hx hb dX12_fingerprint_173 (by decide) ?_
                  refine zz_icmp_ge (tgt := 212) hx hb dX12_fingerprint_175 (by decide) hq (fun hq => ?_) (fun hq => ?_)
                  · refine lv_lload_n hx hb dX12_fingerprint_212 rfl (lv_at hl 1 rfl) ?_
                    exact zz_lret S hB hr hlocks dX12_fingerprint_213 hq
                  · refine lv_aload_n hx hb dX12_fingerprint_178 rfl (lv_at hl 0 rfl) ?_
                    refine lv_iload_n hx hb dX12_fingerprint_179 rfl (lv_at hl 2 rfl) ?_
                    refine zz_callVi S hT hB (As := [.int x15]) (b := a0) (o := f_X12_isGroup T N s16 a0 x15) (c_X12_isGroup l D cy T hT ad N s16 _ a0 x15) (cwV 1 hts (gV wSub wd_590 wd_591 wd_592 wd_572 wd_593) rfl rfl rfl (by decide +kernel) ⟨Nat.le_of_ble_eq_true rfl, Nat.le_of_ble_eq_true rfl⟩) (F := TX12) (NF := 24) 12 rfl (by decide) (k_X12_isGroup T N s16 a0 x15) rfl hl.1 rfl (Nat.le_of_ble_eq_true rfl) dX12_fingerprint_180 hq (fun x18 s17 H locs hq hB => ?_)
                    refine zz_if_eq (tgt := 206) hx hb dX12_fingerprint_183 (by decide) hq (fun hq => ?_) (fun hq => ?_)
                    · refine zz_nmV hq (fun x19 ex19 hq => ?_)
                      refine lv_iinc (v := x19) (lv' := [(3, .int x19), (0, .ref (ad a0)), (1, .long y14)]) hx hb dX12_fingerprint_206 hl (k := 2) rfl (by rw [ex19]; rfl) (by decide) rfl (fun ls hl => ?_)
                      refine lv_goto (tgt := 172) hx hb dX12_fingerprint_209 (by decide) ?_
                      exact ih172 y14 x19 s17 _ _ _ hq hB (lv_sub hl [1, 2, 0] rfl)
                    · refine lv_ldc2 (v := 31) hx hb hown (hts _ (wS wd_800)) dX12_fingerprint_186 ?_
                      refine lv_ldc2 (v := 31) hx hb hown (hts _ (wS wd_800)) dX12_fingerprint_189 ?_
                      refine lv_lload_n hx hb dX12_fingerprint_192 rfl (lv_at hl 1 rfl) ?_
                      refine lv_lmul hx hb dX12_fingerprint_193 ?_
                      refine lv_iload_n hx hb dX12_fingerprint_194 rfl (lv_at hl 2 rfl) ?_
                      refine lv_i2l (v := (x15).toInt64) hx hb dX12_fingerprint_195 rfl ?_
                      refine lv_ladd hx hb dX12_fingerprint_196 ?_
                      refine lv_lmul hx hb dX12_fingerprint_197 ?_
                      refine lv_aload_n hx hb dX12_fingerprint_198 rfl (lv_at hl 0 rfl) ?_
                      refine lv_iload_n hx hb dX12_fingerprint_199 rfl (lv_at hl 2 rfl) ?_
                      refine zz_callVi S hT hB (As := [.int x15]) (b := a0) (o := f_X12_setOf T N s17 a0 x15) (c_X12_setOf l D cy T hT ad N s17 _ a0 x15) (cwV 1 hts (gV wSub wd_594 wd_595 wd_596 wd_572 wd_597) rfl rfl rfl (by decide +kernel) ⟨Nat.le_of_ble_eq_true rfl, Nat.le_of_ble_eq_true rfl⟩) (F := TX12) (NF := 24) 12 rfl (by decide) (k_X12_setOf T N s17 a0 x15) rfl hl.1 rfl (Nat.le_of_ble_eq_true rfl) dX12_fingerprint_200 hq (fun x21 s20 H locs hq hB => ?_)
                      refine lv_i2l (v := (x21).toInt64) hx hb dX12_fingerprint_203 rfl ?_
                      refine lv_ladd hx hb dX12_fingerprint_204 ?_
                      refine zz_nmJ hq (fun y22 hq => ?_)
                      refine lv_lstore_n (lv' := [(1, .long y22), (0, .ref (ad a0)), (3, .int x15)]) hx hb dX12_fingerprint_205 rfl hl (by decide) rfl (fun ls hl => ?_)
                      refine zz_nmV hq (fun x23 ex23 hq => ?_)
                      refine lv_iinc (v := x23) (lv' := [(3, .int x23), (1, .long y22), (0, .ref (ad a0))]) hx hb dX12_fingerprint_206 hl (k := 2) rfl (by rw [ex23]; rfl) (by decide) rfl (fun ls hl => ?_)
                      refine lv_goto (tgt := 172) hx hb dX12_fingerprint_209 (by decide) ?_
                      exact ih172 y22 x23 s20 _ _ _ hq hB (lv_sub hl [2, 1, 0] rfl)
              exact L172 N y9 (0 : Int32) s11 _ _ _ hq hB (lv_sub hl [1, 2, 0] rfl)
            · refine lv_ldc2 (v := 31) hx hb hown (hts _ (wS wd_800)) dX12_fingerprint_94 ?_
              refine lv_ldc2 (v := 31) hx hb hown (hts _ (wS wd_800)) dX12_fingerprint_97 ?_
              refine lv_lload_n hx hb dX12_fingerprint_100 rfl (lv_at hl 1 rfl) ?_
              refine lv_lmul hx hb dX12_fingerprint_101 ?_
              refine lv_aload_n hx hb dX12_fingerprint_102 rfl (lv_at hl 0 rfl) ?_
              refine lv_iload_n hx hb dX12_fingerprint_103 rfl (lv_at hl 2 rfl) ?_
              refine zz_callVi S hT hB (As := [.int x10]) (b := a0) (o := f_X12_lengthOf T N s11 a0 x10) (c_X12_lengthOf l D cy T hT ad N s11 _ a0 x10) (cwV 1 hts (gV wSub wd_685 wd_686 wd_687 wd_572 wd_688) rfl rfl rfl (by decide +kernel) ⟨Nat.le_of_ble_eq_true rfl, Nat.le_of_ble_eq_true rfl⟩) (F := TX12) (NF := 24) 12 rfl (by decide) (k_X12_lengthOf T N s11 a0 x10) rfl hl.1 rfl (Nat.le_of_ble_eq_true rfl) dX12_fingerprint_104 hq (fun x25 s24 H locs hq hB => ?_)
              refine lv_i2l (v := (x25).toInt64) hx hb dX12_fingerprint_107 rfl ?_
              refine lv_ladd hx hb dX12_fingerprint_108 ?_
              refine lv_lmul hx hb dX12_fingerprint_109 ?_
              refine lv_aload_n hx hb dX12_fingerprint_110 rfl (lv_at hl 0 rfl) ?_
              refine lv_iload_n hx hb dX12_fingerprint_111 rfl (lv_at hl 2 rfl) ?_
              refine zz_callVi S hT hB (As := [.int x10]) (b := a0) (o := f_X12_throughOf T N s24 a0 x10) (c_X12_throughOf l D cy T hT ad N s24 _ a0 x10) (cwV 1 hts (gV wSub wd_693 wd_694 wd_695 wd_572 wd_696) rfl rfl rfl (by decide +kernel) ⟨Nat.le_of_ble_eq_true rfl, Nat.le_of_ble_eq_true rfl⟩) (F := TX12) (NF := 24) 12 rfl (by decide) (k_X12_throughOf T N s24 a0 x10) rfl hl.1 rfl (Nat.le_of_ble_eq_true rfl) dX12_fingerprint_112 hq (fun x27 s26 H locs hq hB => ?_)
              refine lv_i2l (v := (x27).toInt64) hx hb dX12_fingerprint_115 rfl ?_
              refine lv_ladd hx hb dX12_fingerprint_116 ?_
              refine zz_nmJ hq (fun y28 hq => ?_)
              refine lv_lstore_n (lv' := [(1, .long y28), (0, .ref (ad a0)), (3, .int x10)]) hx hb dX12_fingerprint_117 rfl hl (by decide) rfl (fun ls hl => ?_)
              refine lv_iconst (v := 0) hx hb dX12_fingerprint_118 (by decide) ?_
              refine lv_istore (lv' := [(4, .int (0 : Int32)), (1, .long y28), (0, .ref (ad a0)), (3, .int x10)]) hx hb dX12_fingerprint_119 hl (by decide) rfl (fun ls hl => ?_)
              have L121 : ∀ (n : Nat) (y29 : Int64) (x30 : Int32) (H : Heap) (locs : List Loc) (ls : Array Slot), zl2 (f_X12_fingerprint_L121 T N a0 x10 k84 s26) n y29 x30 = some (r0, σ0) → zB D cy T ad (zA T ad s.heap.size) s.heap s26 H locs s → lv_has ls 5 [(0, .ref (ad a0)), (1, .long y29), (3, .int x10), (4, .int x30)] → W p l e (headSpec wsX12_fingerprint ({ frames := 5, cells := 0, slots := 0, locals := 119 } : Room)).room s m args below meth c H locs 0 0 (MQ below (va_Ql (fun (r2 : Int64) (σ2 : zS) => r2 = r0 ∧ σ2 = σ0) (zAt D cy T ad (zA T ad s.heap.size)) (zA T ad s.heap.size)) args s 0 0 (zA T ad s.heap.size)) (F0 m 121 ls []) := by
                intro n
                induction n with
                | zero => intro y29 x30 H locs ls hq; exact zz_none hq
                | succ n ih121 =>
                  intro y29 x30 H locs ls hq hB hl
                  rw [zl2] at hq
                  generalize zl2 (f_X12_fingerprint_L121 T N a0 x10 k84 s26) n = k121 at ih121 hq
                  unfold f_X12_fingerprint_L121 at hq
                  refine lv_iload hx hb dX12_fingerprint_121 (lv_at hl 3 rfl) ?_
                  refine lv_aload_n hx hb dX12_fingerprint_123 rfl (lv_at hl 0 rfl) ?_
                  refine zz_get S hT hB (C := RX12) (ref := "DiagramDeskModel") (F := TX12) (N := 24) (index := 144) 12 5 iwX12 rfl (by decide) (by decide) rfl rfl (wS wd_669) (fun _ h9 => h9) dX12_fingerprint_124 hq (fun x31 hq => ?_)
                  refine zz_icmp_ge (tgt := 164) hx hb dX12_fingerprint_127 (by decide) hq (fun hq => ?_) (fun hq => ?_)
                  · refine zz_nmV hq (fun x32 ex32 hq => ?_)
                    refine lv_iinc (v := x32) (lv' := [(3, .int x32), (0, .ref (ad a0)), (1, .long y29), (4, .int x30)]) hx hb dX12_fingerprint_164 hl (k := 2) rfl (by rw [ex32]; rfl) (by decide) rfl (fun ls hl => ?_)
                    refine lv_goto (tgt := 84) hx hb dX12_fingerprint_167 (by decide) ?_
                    exact ih84 y29 x32 s26 _ _ _ hq hB (lv_sub hl [1, 2, 0] rfl)
                  · refine lv_ldc2 (v := 31) hx hb hown (hts _ (wS wd_800)) dX12_fingerprint_130 ?_
                    refine lv_ldc2 (v := 31) hx hb hown (hts _ (wS wd_800)) dX12_fingerprint_133 ?_
                    refine lv_lload_n hx hb dX12_fingerprint_136 rfl (lv_at hl 1 rfl) ?_
                    refine lv_lmul hx hb dX12_fingerprint_137 ?_
                    refine lv_aload_n hx hb dX12_fingerprint_138 rfl (lv_at hl 0 rfl) ?_
                    refine zz_getR S hT hB (C := RX12) (ref := "DiagramDeskModel") (F := TX12) (N := 24) (index := 16) 12 3 iwX12 rfl (by decide) (by decide) rfl rfl (wS wd_668) (fun _ h9 => h9) dX12_fingerprint_139 hq (fun a33 hq => ?_)
                    refine lv_iload hx hb dX12_fingerprint_142 (lv_at hl 3 rfl) ?_
                    refine zz_ald S hT hB dX12_fingerprint_144 hq (fun x34 hq => ?_)
                    refine lv_i2l (v := (x34).toInt64) hx hb dX12_fingerprint_145 rfl ?_
                    refine lv_ladd hx hb dX12_fingerprint_146 ?_
                    refine lv_lmul hx hb dX12_fingerprint_147 ?_
                    refine lv_aload_n hx hb dX12_fingerprint_148 rfl (lv_at hl 0 rfl) ?_
                    refine zz_getR S hT hB (C := RX12) (ref := "DiagramDeskModel") (F := TX12) (N := 24) (index := 19) 12 4 iwX12 rfl (by decide) (by decide) rfl rfl (wS wd_670) (fun _ h9 => h9) dX12_fingerprint_149 hq (fun a35 hq => ?_)
                    refine lv_iload hx hb dX12_fingerprint_152 (lv_at hl 3 rfl) ?_
                    refine zz_ald S hT hB dX12_fingerprint_154 hq (fun x36 hq => ?_)
                    refine lv_i2l (v := (x36).toInt64) hx hb dX12_fingerprint_155 rfl ?_
                    refine lv_ladd hx hb dX12_fingerprint_156 ?_
                    refine zz_nmJ hq (fun y37 hq => ?_)
                    refine lv_lstore_n (lv' := [(1, .long y37), (0, .ref (ad a0)), (3, .int x10), (4, .int x30)]) hx hb dX12_fingerprint_157 rfl hl (by decide) rfl (fun ls hl => ?_)
                    refine zz_nmV hq (fun x38 ex38 hq => ?_)
                    refine lv_iinc (v := x38) (lv' := [(4, .int x38), (1, .long y37), (0, .ref (ad a0)), (3, .int x10)]) hx hb dX12_fingerprint_158 hl (k := 3) rfl (by rw [ex38]; rfl) (by decide) rfl (fun ls hl => ?_)
                    refine lv_goto (tgt := 121) hx hb dX12_fingerprint_161 (by decide) ?_
                    exact ih121 y37 x38 _ _ _ hq hB (lv_sub hl [2, 1, 3, 0] rfl)
              exact L121 N y28 (0 : Int32) _ _ _ hq hB (lv_sub hl [2, 1, 3, 0] rfl)
        exact L84 N y8 (0 : Int32) s5 _ _ _ hq hB (lv_sub hl [2, 1, 0] rfl)
      · refine lv_aload_n hx hb dX12_fingerprint_12 rfl (lv_at hl 0 rfl) ?_
        refine lv_iload_n hx hb dX12_fingerprint_13 rfl (lv_at hl 2 rfl) ?_
        refine lv_iconst (v := 0) hx hb dX12_fingerprint_14 (by decide) ?_
        refine zz_callVi S hT hB (As := [.int x4, .int (0 : Int32)]) (b := a0) (o := f_X12_of T N s5 a0 x4 (0 : Int32)) (c_X12_of l D cy T hT ad N s5 _ a0 x4 (0 : Int32)) (cwV 2 hts (gV wSub wd_574 wd_575 wd_576 wd_572 wd_577) rfl rfl rfl (by decide +kernel) ⟨Nat.le_of_ble_eq_true rfl, Nat.le_of_ble_eq_true rfl⟩) (F := TX12) (NF := 24) 12 rfl (by decide) (k_X12_of T N s5 a0 x4 (0 : Int32)) rfl hl.1 rfl (Nat.le_of_ble_eq_true rfl) dX12_fingerprint_15 hq (fun x40 s39 H locs hq hB => ?_)
        refine lv_iconst (v := 1) hx hb dX12_fingerprint_18 (by decide) ?_
        refine zz_icmp_ne (tgt := 62) hx hb dX12_fingerprint_19 (by decide) hq (fun hq => ?_) (fun hq => ?_)
        · refine zz_nmV hq (fun x41 ex41 hq => ?_)
          refine lv_iinc (v := x41) (lv' := [(3, .int x41), (0, .ref (ad a0)), (1, .long y3)]) hx hb dX12_fingerprint_62 hl (k := 2) rfl (by rw [ex41]; rfl) (by decide) rfl (fun ls hl => ?_)
          refine lv_goto (tgt := 6) hx hb dX12_fingerprint_65 (by decide) ?_
          exact ih6 y3 x41 s39 _ _ _ hq hB (lv_sub hl [1, 2, 0] rfl)
        · refine lv_ldc2 (v := 31) hx hb hown (hts _ (wS wd_800)) dX12_fingerprint_22 ?_
          refine lv_lload_n hx hb dX12_fingerprint_25 rfl (lv_at hl 1 rfl) ?_
          refine lv_lmul hx hb dX12_fingerprint_26 ?_
          refine lv_iload_n hx hb dX12_fingerprint_27 rfl (lv_at hl 2 rfl) ?_
          refine lv_i2l (v := (x4).toInt64) hx hb dX12_fingerprint_28 rfl ?_
          refine lv_ladd hx hb dX12_fingerprint_29 ?_
          refine zz_nmJ hq (fun y42 hq => ?_)
          refine lv_lstore_n (lv' := [(1, .long y42), (0, .ref (ad a0)), (3, .int x4)]) hx hb dX12_fingerprint_30 rfl hl (by decide) rfl (fun ls hl => ?_)
          refine lv_iconst (v := 0) hx hb dX12_fingerprint_31 (by decide) ?_
          refine lv_istore (lv' := [(4, .int (0 : Int32)), (1, .long y42), (0, .ref (ad a0)), (3, .int x4)]) hx hb dX12_fingerprint_32 hl (by decide) rfl (fun ls hl => ?_)
          have L34 : ∀ (n : Nat) (y43 : Int64) (x44 : Int32) (s45 : zS) (H : Heap) (locs : List Loc) (ls : Array Slot), zl3 (f_X12_fingerprint_L34 T N a0 x4 k6) n y43 x44 s45 = some (r0, σ0) → zB D cy T ad (zA T ad s.heap.size) s.heap s45 H locs s → lv_has ls 5 [(0, .ref (ad a0)), (1, .long y43), (3, .int x4), (4, .int x44)] → W p l e (headSpec wsX12_fingerprint ({ frames := 5, cells := 0, slots := 0, locals := 119 } : Room)).room s m args below meth c H locs 0 0 (MQ below (va_Ql (fun (r2 : Int64) (σ2 : zS) => r2 = r0 ∧ σ2 = σ0) (zAt D cy T ad (zA T ad s.heap.size)) (zA T ad s.heap.size)) args s 0 0 (zA T ad s.heap.size)) (F0 m 34 ls []) := by
            intro n
            induction n with
            | zero => intro y43 x44 s45 H locs ls hq; exact zz_none hq
            | succ n ih34 =>
              intro y43 x44 s45 H locs ls hq hB hl
              rw [zl3] at hq
              generalize zl3 (f_X12_fingerprint_L34 T N a0 x4 k6) n = k34 at ih34 hq
              unfold f_X12_fingerprint_L34 at hq
              refine lv_iload hx hb dX12_fingerprint_34 (lv_at hl 3 rfl) ?_
              refine lv_bipush (v := 9) hx hb dX12_fingerprint_36 (by decide) ?_
              refine zz_icmp_ge (tgt := 62) hx hb dX12_fingerprint_38 (by decide) hq (fun hq => ?_) (fun hq => ?_)
              · refine zz_nmV hq (fun x46 ex46 hq => ?_)
                refine lv_iinc (v := x46) (lv' := [(3, .int x46), (0, .ref (ad a0)), (1, .long y43), (4, .int x44)]) hx hb dX12_fingerprint_62 hl (k := 2) rfl (by rw [ex46]; rfl) (by decide) rfl (fun ls hl => ?_)
                refine lv_goto (tgt := 6) hx hb dX12_fingerprint_65 (by decide) ?_
                exact ih6 y43 x46 s45 _ _ _ hq hB (lv_sub hl [1, 2, 0] rfl)
              · refine lv_ldc2 (v := 31) hx hb hown (hts _ (wS wd_800)) dX12_fingerprint_41 ?_
                refine lv_lload_n hx hb dX12_fingerprint_44 rfl (lv_at hl 1 rfl) ?_
                refine lv_lmul hx hb dX12_fingerprint_45 ?_
                refine lv_aload_n hx hb dX12_fingerprint_46 rfl (lv_at hl 0 rfl) ?_
                refine lv_iload_n hx hb dX12_fingerprint_47 rfl (lv_at hl 2 rfl) ?_
                refine lv_iload hx hb dX12_fingerprint_48 (lv_at hl 3 rfl) ?_
                refine zz_callVi S hT hB (As := [.int x4, .int x44]) (b := a0) (o := f_X12_told T N s45 a0 x4 x44) (c_X12_told l D cy T hT ad N s45 _ a0 x4 x44) (cwV 2 hts (gV wSub wd_637 wd_638 wd_639 wd_572 wd_640) rfl rfl rfl (by decide +kernel) ⟨Nat.le_of_ble_eq_true rfl, Nat.le_of_ble_eq_true rfl⟩) (F := TX12) (NF := 24) 12 rfl (by decide) (k_X12_told T N s45 a0 x4 x44) rfl hl.1 rfl (Nat.le_of_ble_eq_true rfl) dX12_fingerprint_50 hq (fun x48 s47 H locs hq hB => ?_)
                refine lv_i2l (v := (x48).toInt64) hx hb dX12_fingerprint_53 rfl ?_
                refine lv_ladd hx hb dX12_fingerprint_54 ?_
                refine zz_nmJ hq (fun y49 hq => ?_)
                refine lv_lstore_n (lv' := [(1, .long y49), (0, .ref (ad a0)), (3, .int x4), (4, .int x44)]) hx hb dX12_fingerprint_55 rfl hl (by decide) rfl (fun ls hl => ?_)
                refine zz_nmV hq (fun x50 ex50 hq => ?_)
                refine lv_iinc (v := x50) (lv' := [(4, .int x50), (1, .long y49), (0, .ref (ad a0)), (3, .int x4)]) hx hb dX12_fingerprint_56 hl (k := 3) rfl (by rw [ex50]; rfl) (by decide) rfl (fun ls hl => ?_)
                refine lv_goto (tgt := 34) hx hb dX12_fingerprint_59 (by decide) ?_
                exact ih34 y49 x50 s47 _ _ _ hq hB (lv_sub hl [2, 1, 3, 0] rfl)
          exact L34 N y42 (0 : Int32) s39 _ _ _ hq hB (lv_sub hl [2, 1, 3, 0] rfl)
  exact L6 N (89 : Int64) (0 : Int32) s0 _ _ _ hq hB (lv_sub hl [2, 1, 0] rfl)
