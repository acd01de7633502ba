def f_X0_copy (T : zT) (N : Nat) (s0 : zS) (a0 : Nat) (a1 : Nat) : Option zS :=
  zz1 (T.1 a0 = 0) <|
  (gI T s0 a1 0 0).bind fun x4 =>
  (pI T s0 a0 0 0 x4).bind fun s5 =>
  (gI T s5 a1 0 1).bind fun x6 =>
  (pI T s5 a0 0 1 x6).bind fun s7 =>
  (gI T s7 a1 0 2).bind fun x8 =>
  (pI T s7 a0 0 2 x8).bind fun s9 =>
  (gI T s9 a1 0 3).bind fun x10 =>
  (pI T s9 a0 0 3 x10).bind fun s11 =>
  (gI T s11 a1 0 4).bind fun x12 =>
  (pI T s11 a0 0 4 x12).bind fun s13 =>
  some s13
theorem k_X0_copy (T : zT) (N : Nat) (s0 : zS) (a0 : Nat) (a1 : Nat) : ∀ q, f_X0_copy T N s0 a0 a1 = some q → T.1 a0 = 0 := by
  intro q h
  unfold f_X0_copy at h
  exact zz_guard h (fun h _ => h)
set_option maxHeartbeats 4000000 in
set_option maxRecDepth 100000 in
theorem c_X0_copy (l : Launch) (D : va_G) (cy : Nat → ClassId) (T : zT) (hT : zok T) (ad : Nat → Nat) (N : Nat) (s0 : zS) (sz : Nat) (a0 : Nat) (a1 : Nat) : ∀ (σ0 : zS), f_X0_copy T N s0 a0 a1 = some σ0 → Met l yX0_copy wsX0_copy ({ frames := 0, cells := 0, slots := 0, locals := 0 }) (va_Pc [.ref (ad a0), .ref (ad a1)] (zPre D cy T ad s0 sz)) (va_Qv (fun σ2 : zS => σ2 = σ0) (zAt D cy T ad (zA T ad sz)) (zA T ad sz)) 0 0 (zA T ad sz) := by
  intro σ0 hq
  refine Met.ofW (cc := cX0_copy) (maxL := 2) (ret := none) (by decide) rfl ?_
  intro p e s m args below meth c s₁ B hml hv
  obtain ⟨hargs, hsz, hP, hK, hD0, hN⟩ := hv
  have hx := B.exec
  have hb := B.bytes
  have hr := B.returns
  have hts := atoms_spec (ws := wsX0_copy) B.pre
  have hown : s.vm.findClass RX0 = some m.cls := findClass_of_methodNamed B.named
  have hlocks := B.notSynchronized
  have S : CallFix p m c cX0_copy 2 s args wsX0_copy RX0 := ⟨hx, hb, hml, hown, hts⟩
  subst hsz
  have hB : zB D cy T ad (zA T ad s.heap.size) s.heap s0 s.heap [] s := zz_entry hP hK hD0 hN
  obtain ⟨ls, hent, hl⟩ := zz_ent m hargs (n := 2) (Nat.le_of_ble_eq_true rfl)
  rw [hent]
  have hl : lv_has ls 2 [(0, .ref (ad a0)), (1, .ref (ad a1))] := hl
  have iwX0 : ∀ w ∈ u_ws RX0 TX0 5, w ∈ wsX0_copy := fun w h => wS (inWX0 w h)
  unfold f_X0_copy at hq
  refine zz_guard hq (fun hk0 hq => ?_)
  refine lv_aload_n hx hb dX0_copy_0 rfl (lv_at hl 0 rfl) ?_
  refine lv_aload_n hx hb dX0_copy_1 rfl (lv_at hl 1 rfl) ?_
  refine zz_get S hT hB (C := RX0) (ref := "DiagramDesk$Connector") (F := TX0) (N := 5) (index := 9) 0 0 iwX0 rfl (by decide) (by decide) rfl rfl (wS wd_0) (fun _ h9 => h9) dX0_copy_2 hq (fun x4 hq => ?_)
  refine zz_put S hT hB (C := RX0) (ref := "DiagramDesk$Connector") (F := TX0) (N := 5) (index := 9) 0 0 iwX0 tyX0 tyX0_ok nmX0 rfl (by decide) (by decide) rfl rfl (wS wd_0) (fun _ h9 => h9) rfl (by decide +kernel) dX0_copy_5 hq (fun s5 H locs hq hB => ?_)
  refine lv_aload_n hx hb dX0_copy_8 rfl (lv_at hl 0 rfl) ?_
  refine lv_aload_n hx hb dX0_copy_9 rfl (lv_at hl 1 rfl) ?_
  refine zz_get S hT hB (C := RX0) (ref := "DiagramDesk$Connector") (F := TX0) (N := 5) (index := 15) 0 1 iwX0 rfl (by decide) (by decide) rfl rfl (wS wd_1) (fun _ h9 => h9) dX0_copy_10 hq (fun x6 hq => ?_)
  refine zz_put S hT hB (C := RX0) (ref := "DiagramDesk$Connector") (F := TX0) (N := 5) (index := 15) 0 1 iwX0 tyX0 tyX0_ok nmX0 rfl (by decide) (by decide) rfl rfl (wS wd_1) (fun _ h9 => h9) rfl (by decide +kernel) dX0_copy_13 hq (fun s7 H locs hq hB => ?_)
  refine lv_aload_n hx hb dX0_copy_16 rfl (lv_at hl 0 rfl) ?_
  refine lv_aload_n hx hb dX0_copy_17 rfl (lv_at hl 1 rfl) ?_
  refine zz_get S hT hB (C := RX0) (ref := "DiagramDesk$Connector") (F := TX0) (N := 5) (index := 18) 0 2 iwX0 rfl (by decide) (by decide) rfl rfl (wS wd_2) (fun _ h9 => h9) dX0_copy_18 hq (fun x8 hq => ?_)
  refine zz_put S hT hB (C := RX0) (ref := "DiagramDesk$Connector") (F := TX0) (N := 5) (index := 18) 0 2 iwX0 tyX0 tyX0_ok nmX0 rfl (by decide) (by decide) rfl rfl (wS wd_2) (fun _ h9 => h9) rfl (by decide +kernel) dX0_copy_21 hq (fun s9 H locs hq hB => ?_)
  refine lv_aload_n hx hb dX0_copy_24 rfl (lv_at hl 0 rfl) ?_
  refine lv_aload_n hx hb dX0_copy_25 rfl (lv_at hl 1 rfl) ?_
  refine zz_get S hT hB (C := RX0) (ref := "DiagramDesk$Connector") (F := TX0) (N := 5) (index := 21) 0 3 iwX0 rfl (by decide) (by decide) rfl rfl (wS wd_3) (fun _ h9 => h9) dX0_copy_26 hq (fun x10 hq => ?_)
  refine zz_put S hT hB (C := RX0) (ref := "DiagramDesk$Connector") (F := TX0) (N := 5) (index := 21) 0 3 iwX0 tyX0 tyX0_ok nmX0 rfl (by decide) (by decide) rfl rfl (wS wd_3) (fun _ h9 => h9) rfl (by decide +kernel) dX0_copy_29 hq (fun s11 H locs hq hB => ?_)
  refine lv_aload_n hx hb dX0_copy_32 rfl (lv_at hl 0 rfl) ?_
  refine lv_aload_n hx hb dX0_copy_33 rfl (lv_at hl 1 rfl) ?_
  refine zz_get S hT hB (C := RX0) (ref := "DiagramDesk$Connector") (F := TX0) (N := 5) (index := 24) 0 4 iwX0 rfl (by decide) (by decide) rfl rfl (wS wd_4) (fun _ h9 => h9) dX0_copy_34 hq (fun x12 hq => ?_)
  refine zz_put S hT hB (C := RX0) (ref := "DiagramDesk$Connector") (F := TX0) (N := 5) (index := 24) 0 4 iwX0 tyX0 tyX0_ok nmX0 rfl (by decide) (by decide) rfl rfl (wS wd_4) (fun _ h9 => h9) rfl (by decide +kernel) dX0_copy_37 hq (fun s13 H locs hq hB => ?_)
  exact zz_vret S hB hr hlocks dX0_copy_40 hq
def f_X0_isAt (T : zT) (N : Nat) (s0 : zS) (a0 : Nat) (x1 : Int32) : Option (Int32 × zS) :=
  zz1 (T.1 a0 = 0) <|
  (gI T s0 a0 0 0).bind fun x4 =>
  if x4 = x1 then (
    rZ (1 : Int32) s0)
  else (
    (gI T s0 a0 0 2).bind fun x5 =>
    if ¬ x5 = x1 then (
      rZ (0 : Int32) s0)
    else (
      rZ (1 : Int32) s0))
theorem k_X0_isAt (T : zT) (N : Nat) (s0 : zS) (a0 : Nat) (x1 : Int32) : ∀ q, f_X0_isAt T N s0 a0 x1 = some q → T.1 a0 = 0 := by
  intro q h
  unfold f_X0_isAt at h
  exact zz_guard h (fun h _ => h)
set_option maxHeartbeats 4000000 in
set_option maxRecDepth 100000 in
theorem c_X0_isAt (l : Launch) (D : va_G) (cy : Nat → ClassId) (T : zT) (hT : zok T) (ad : Nat → Nat) (N : Nat) (s0 : zS) (sz : Nat) (a0 : Nat) (x1 : Int32) : ∀ (r0 : Int32) (σ0 : zS), f_X0_isAt T N s0 a0 x1 = some (r0, σ0) → Met l yX0_isAt wsX0_isAt ({ frames := 0, cells := 0, slots := 0, locals := 0 }) (va_Pc [.ref (ad a0), .int x1] (zPre D cy T ad s0 sz)) (va_Qi (fun (r2 : Int32) (σ2 : zS) => r2 = r0 ∧ σ2 = σ0) (zAt D cy T ad (zA T ad sz)) (zA T ad sz)) 0 0 (zA T ad sz) := by
  intro r0 σ0 hq
  refine Met.ofW (cc := cX0_isAt) (maxL := 2) (ret := (some .boolean)) (by decide) rfl ?_
  intro p e s m args below meth c s₁ B hml hv
  obtain ⟨hargs, hsz, hP, hK, hD0, hN⟩ := hv
  have hx := B.exec
  have hb := B.bytes
  have hr := B.returns
  have hts := atoms_spec (ws := wsX0_isAt) B.pre
  have hown : s.vm.findClass RX0 = some m.cls := findClass_of_methodNamed B.named
  have hlocks := B.notSynchronized
  have S : CallFix p m c cX0_isAt 2 s args wsX0_isAt RX0 := ⟨hx, hb, hml, hown, hts⟩
  subst hsz
  have hB : zB D cy T ad (zA T ad s.heap.size) s.heap s0 s.heap [] s := zz_entry hP hK hD0 hN
  obtain ⟨ls, hent, hl⟩ := zz_ent m hargs (n := 2) (Nat.le_of_ble_eq_true rfl)
  rw [hent]
  have hl : lv_has ls 2 [(0, .ref (ad a0)), (1, .int x1)] := hl
  have iwX0 : ∀ w ∈ u_ws RX0 TX0 5, w ∈ wsX0_isAt := fun w h => wS (inWX0 w h)
  unfold f_X0_isAt at hq
  refine zz_guard hq (fun hk0 hq => ?_)
  refine lv_aload_n hx hb dX0_isAt_0 rfl (lv_at hl 0 rfl) ?_
  refine zz_get S hT hB (C := RX0) (ref := "DiagramDesk$Connector") (F := TX0) (N := 5) (index := 9) 0 0 iwX0 rfl (by decide) (by decide) rfl rfl (wS wd_0) (fun _ h9 => h9) dX0_isAt_1 hq (fun x4 hq => ?_)
  refine lv_iload_n hx hb dX0_isAt_4 rfl (lv_at hl 1 rfl) ?_
  refine zz_icmp_eq (tgt := 16) hx hb dX0_isAt_5 (by decide) hq (fun hq => ?_) (fun hq => ?_)
  · refine lv_iconst (v := 1) hx hb dX0_isAt_16 (by decide) ?_
    refine lv_goto (tgt := 21) hx hb dX0_isAt_17 (by decide) ?_
    exact zz_zret S hB hr hlocks dX0_isAt_21 hq
  · refine lv_aload_n hx hb dX0_isAt_8 rfl (lv_at hl 0 rfl) ?_
    refine zz_get S hT hB (C := RX0) (ref := "DiagramDesk$Connector") (F := TX0) (N := 5) (index := 18) 0 2 iwX0 rfl (by decide) (by decide) rfl rfl (wS wd_2) (fun _ h9 => h9) dX0_isAt_9 hq (fun x5 hq => ?_)
    refine lv_iload_n hx hb dX0_isAt_12 rfl (lv_at hl 1 rfl) ?_
    refine zz_icmp_ne (tgt := 20) hx hb dX0_isAt_13 (by decide) hq (fun hq => ?_) (fun hq => ?_)
    · refine lv_iconst (v := 0) hx hb dX0_isAt_20 (by decide) ?_
      exact zz_zret S hB hr hlocks dX0_isAt_21 hq
    · refine lv_iconst (v := 1) hx hb dX0_isAt_16 (by decide) ?_
      refine lv_goto (tgt := 21) hx hb dX0_isAt_17 (by decide) ?_
      exact zz_zret S hB hr hlocks dX0_isAt_21 hq
def f_X0_lastPoint (T : zT) (N : Nat) (s0 : zS) (a0 : Nat) : Option (Int32 × zS) :=
  zz1 (T.1 a0 = 0) <|
  (gI T s0 a0 0 4).bind fun x3 =>
  some (x3 + (1 : Int32), s0)
theorem k_X0_lastPoint (T : zT) (N : Nat) (s0 : zS) (a0 : Nat) : ∀ q, f_X0_lastPoint T N s0 a0 = some q → T.1 a0 = 0 := by
  intro q h
  unfold f_X0_lastPoint at h
  exact zz_guard h (fun h _ => h)
set_option maxHeartbeats 4000000 in
set_option maxRecDepth 100000 in
theorem c_X0_lastPoint (l : Launch) (D : va_G) (cy : Nat → ClassId) (T : zT) (hT : zok T) (ad : Nat → Nat) (N : Nat) (s0 : zS) (sz : Nat) (a0 : Nat) : ∀ (r0 : Int32) (σ0 : zS), f_X0_lastPoint T N s0 a0 = some (r0, σ0) → Met l yX0_lastPoint wsX0_lastPoint ({ frames := 0, cells := 0, slots := 0, locals := 0 }) (va_Pc [.ref (ad a0)] (zPre D cy T ad s0 sz)) (va_Qi (fun (r2 : Int32) (σ2 : zS) => r2 = r0 ∧ σ2 = σ0) (zAt D cy T ad (zA T ad sz)) (zA T ad sz)) 0 0 (zA T ad sz) := by
  intro r0 σ0 hq
  refine Met.ofW (cc := cX0_lastPoint) (maxL := 1) (ret := (some .int)) (by decide) rfl ?_
  intro p e s m args below meth c s₁ B hml hv
  obtain ⟨hargs, hsz, hP, hK, hD0, hN⟩ := hv
  have hx := B.exec
  have hb := B.bytes
  have hr := B.returns
  have hts := atoms_spec (ws := wsX0_lastPoint) B.pre
  have hown : s.vm.findClass RX0 = some m.cls := findClass_of_methodNamed B.named
  have hlocks := B.notSynchronized
  have S : CallFix p m c cX0_lastPoint 1 s args wsX0_lastPoint RX0 := ⟨hx, hb, hml, hown, hts⟩
  subst hsz
  have hB : zB D cy T ad (zA T ad s.heap.size) s.heap s0 s.heap [] s := zz_entry hP hK hD0 hN
  obtain ⟨ls, hent, hl⟩ := zz_ent m hargs (n := 1) (Nat.le_of_ble_eq_true rfl)
  rw [hent]
  have hl : lv_has ls 1 [(0, .ref (ad a0))] := hl
  have iwX0 : ∀ w ∈ u_ws RX0 TX0 5, w ∈ wsX0_lastPoint := fun w h => wS (inWX0 w h)
  unfold f_X0_lastPoint at hq
  refine zz_guard hq (fun hk0 hq => ?_)
  refine lv_aload_n hx hb dX0_lastPoint_0 rfl (lv_at hl 0 rfl) ?_
  refine zz_get S hT hB (C := RX0) (ref := "DiagramDesk$Connector") (F := TX0) (N := 5) (index := 24) 0 4 iwX0 rfl (by decide) (by decide) rfl rfl (wS wd_4) (fun _ h9 => h9) dX0_lastPoint_1 hq (fun x3 hq => ?_)
  refine lv_iconst (v := 1) hx hb dX0_lastPoint_4 (by decide) ?_
  refine lv_iadd hx hb dX0_lastPoint_5 ?_
  exact zz_iret S hB hr hlocks dX0_lastPoint_6 hq
def f_X7_find (T : zT) (N : Nat) (s0 : zS) (a0 : Nat) (x1 : Int32) : Option (Option Nat × zS) :=
  zz1 (T.1 a0 = 7) <|
  if x1 < 0 then (
    some (none, s0))
  else (
    (gR T s0 a0 7 0).bind fun a4 =>
    (aL T a4 17).bind fun x5 =>
    if x1 < x5 then (
      (gR T s0 a0 7 0).bind fun a6 =>
      (aR T s0 a6 17 x1).bind fun a7 =>
      (gI T s0 a7 6 0).bind fun x8 =>
      if x8 = 0 then (
        some (none, s0))
      else (
        some (some a7, s0)))
    else (
      some (none, s0)))
theorem k_X7_find (T : zT) (N : Nat) (s0 : zS) (a0 : Nat) (x1 : Int32) : ∀ q, f_X7_find T N s0 a0 x1 = some q → T.1 a0 = 7 := by
  intro q h
  unfold f_X7_find at h
  exact zz_guard h (fun h _ => h)
set_option maxHeartbeats 4000000 in
set_option maxRecDepth 100000 in
theorem c_X7_find (l : Launch) (D : va_G) (cy : Nat → ClassId) (T : zT) (hT : zok T) (ad : Nat → Nat) (N : Nat) (s0 : zS) (sz : Nat) (a0 : Nat) (x1 : Int32) : ∀ (r0 : Option Nat) (σ0 : zS), f_X7_find T N s0 a0 x1 = some (r0, σ0) → Met l yX7_find wsX7_find ({ frames := 0, cells := 0, slots := 0, locals := 0 }) (va_Pc [.ref (ad a0), .int x1] (zPre D cy T ad s0 sz)) (va_Qq (fun (r2 : Option Nat) (σ2 : zS) => r2 = r0.map ad ∧ σ2 = σ0) (zAt D cy T ad (zA T ad sz)) (zA T ad sz)) 0 0 (zA T ad sz) := by
  intro r0 σ0 hq
  refine Met.ofW (cc := cX7_find) (maxL := 3) (ret := (some (.object "DiagramDesk$Shape"))) (by decide) rfl ?_
  intro p e s m args below meth c s₁ B hml hv
  obtain ⟨hargs, hsz, hP, hK, hD0, hN⟩ := hv
  have hx := B.exec
  have hb := B.bytes
  have hr := B.returns
  have hts := atoms_spec (ws := wsX7_find) B.pre
  have hown : s.vm.findClass RX7 = some m.cls := findClass_of_methodNamed B.named
  have hlocks := B.notSynchronized
  have S : CallFix p m c cX7_find 3 s args wsX7_find RX7 := ⟨hx, hb, hml, hown, hts⟩
  subst hsz
  have hB : zB D cy T ad (zA T ad s.heap.size) s.heap s0 s.heap [] s := zz_entry hP hK hD0 hN
  obtain ⟨ls, hent, hl⟩ := zz_ent m hargs (n := 3) (Nat.le_of_ble_eq_true rfl)
  rw [hent]
  have hl : lv_has ls 3 [(0, .ref (ad a0)), (1, .int x1)] := hl
  have iwX7 : ∀ w ∈ u_ws RX7 TX7 3, w ∈ wsX7_find := fun w h => wS (inWX7 w h)
  have iwX6 : ∀ w ∈ u_ws RX6 TX6 8, w ∈ wsX7_find := fun w h => wS (inWX6 w h)
  unfold f_X7_find at hq
  refine zz_guard hq (fun hk0 hq => ?_)
  refine lv_iload_n hx hb dX7_find_0 rfl (lv_at hl 1 rfl) ?_
  refine zz_if_lt (tgt := 13) hx hb dX7_find_1 (by decide) hq (fun hq => ?_) (fun hq => ?_)
  · refine lv_null hx hb dX7_find_13 ?_
    exact zz_aretN S hB hr hlocks dX7_find_14 hq
  · refine lv_iload_n hx hb dX7_find_4 rfl (lv_at hl 1 rfl) ?_
    refine lv_aload_n hx hb dX7_find_5 rfl (lv_at hl 0 rfl) ?_
    refine zz_getR S hT hB (C := RX7) (ref := "DiagramDesk$Shapes") (F := TX7) (N := 3) (index := 11) 7 0 iwX7 rfl (by decide) (by decide) rfl rfl (wS wd_5) (fun _ h9 => h9) dX7_find_6 hq (fun a4 hq => ?_)
    refine zz_alen S hT hB 17 (by decide) (by decide) dX7_find_9 hq (fun x5 hq => ?_)
    refine zz_icmp_lt (tgt := 15) hx hb dX7_find_10 (by decide) hq (fun hq => ?_) (fun hq => ?_)
    · refine lv_aload_n hx hb dX7_find_15 rfl (lv_at hl 0 rfl) ?_
      refine zz_getR S hT hB (C := RX7) (ref := "DiagramDesk$Shapes") (F := TX7) (N := 3) (index := 11) 7 0 iwX7 rfl (by decide) (by decide) rfl rfl (wS wd_5) (fun _ h9 => h9) dX7_find_16 hq (fun a6 hq => ?_)
      refine lv_iload_n hx hb dX7_find_19 rfl (lv_at hl 1 rfl) ?_
      refine zz_aldR S hT hB 17 4 rfl (by decide) (by decide) dX7_find_20 hq (fun a7 hq => ?_)
      refine lv_astore_n (lv' := [(2, .ref (ad a7)), (0, .ref (ad a0)), (1, .int x1)]) hx hb dX7_find_21 rfl hl (by decide) rfl (fun ls hl => ?_)
      refine lv_aload_n hx hb dX7_find_22 rfl (lv_at hl 0 rfl) ?_
      refine lv_ifnull hx hb dX7_find_23 ?_
      refine lv_aload_n hx hb dX7_find_26 rfl (lv_at hl 0 rfl) ?_
      refine zz_get S hT hB (C := RX6) (ref := "DiagramDesk$Shape") (F := TX6) (N := 8) (index := 29) 6 0 iwX6 rfl (by decide) (by decide) rfl rfl (wS wd_6) (fun _ h9 => h9) dX7_find_27 hq (fun x8 hq => ?_)
      refine zz_if_eq (tgt := 37) hx hb dX7_find_30 (by decide) hq (fun hq => ?_) (fun hq => ?_)
      · refine lv_null hx hb dX7_find_37 ?_
        exact zz_aretN S hB hr hlocks dX7_find_38 hq
      · refine lv_aload_n hx hb dX7_find_33 rfl (lv_at hl 0 rfl) ?_
        refine lv_goto (tgt := 38) hx hb dX7_find_34 (by decide) ?_
        exact zz_aret S hB hr hlocks dX7_find_38 hq
    · refine lv_null hx hb dX7_find_13 ?_
      exact zz_aretN S hB hr hlocks dX7_find_14 hq
def f_X6_start (T : zT) (N : Nat) (s0 : zS) (a0 : Nat) (x1 : Int32) : Option (Int32 × zS) :=
  zz1 (T.1 a0 = 6) <|
  if ¬ x1 = 0 then (
    (gI T s0 a0 6 3).bind fun x4 =>
    some (x4, s0))
  else (
    (gI T s0 a0 6 2).bind fun x5 =>
    some (x5, s0))
theorem k_X6_start (T : zT) (N : Nat) (s0 : zS) (a0 : Nat) (x1 : Int32) : ∀ q, f_X6_start T N s0 a0 x1 = some q → T.1 a0 = 6 := by
  intro q h
  unfold f_X6_start at h
  exact zz_guard h (fun h _ => h)
set_option maxHeartbeats 4000000 in
set_option maxRecDepth 100000 in
theorem c_X6_start (l : Launch) (D : va_G) (cy : Nat → ClassId) (T : zT) (hT : zok T) (ad : Nat → Nat) (N : Nat) (s0 : zS) (sz : Nat) (a0 : Nat) (x1 : Int32) : ∀ (r0 : Int32) (σ0 : zS), f_X6_start T N s0 a0 x1 = some (r0, σ0) → Met l yX6_start wsX6_start ({ frames := 0, cells := 0, slots := 0, locals := 0 }) (va_Pc [.ref (ad a0), .int x1] (zPre D cy T ad s0 sz)) (va_Qi (fun (r2 : Int32) (σ2 : zS) => r2 = r0 ∧ σ2 = σ0) (zAt D cy T ad (zA T ad sz)) (zA T ad sz)) 0 0 (zA T ad sz) := by
  intro r0 σ0 hq
  refine Met.ofW (cc := cX6_start) (maxL := 2) (ret := (some .int)) (by decide) rfl ?_
  intro p e s m args below meth c s₁ B hml hv
  obtain ⟨hargs, hsz, hP, hK, hD0, hN⟩ := hv
  have hx := B.exec
  have hb := B.bytes
  have hr := B.returns
  have hts := atoms_spec (ws := wsX6_start) B.pre
  have hown : s.vm.findClass RX6 = some m.cls := findClass_of_methodNamed B.named
  have hlocks := B.notSynchronized
  have S : CallFix p m c cX6_start 2 s args wsX6_start RX6 := ⟨hx, hb, hml, hown, hts⟩
  subst hsz
  have hB : zB D cy T ad (zA T ad s.heap.size) s.heap s0 s.heap [] s := zz_entry hP hK hD0 hN
  obtain ⟨ls, hent, hl⟩ := zz_ent m hargs (n := 2) (Nat.le_of_ble_eq_true rfl)
  rw [hent]
  have hl : lv_has ls 2 [(0, .ref (ad a0)), (1, .int x1)] := hl
  have iwX6 : ∀ w ∈ u_ws RX6 TX6 8, w ∈ wsX6_start := fun w h => wS (inWX6 w h)
  unfold f_X6_start at hq
  refine zz_guard hq (fun hk0 hq => ?_)
  refine lv_iload_n hx hb dX6_start_0 rfl (lv_at hl 1 rfl) ?_
  refine zz_if_ne (tgt := 11) hx hb dX6_start_1 (by decide) hq (fun hq => ?_) (fun hq => ?_)
  · refine lv_aload_n hx hb dX6_start_11 rfl (lv_at hl 0 rfl) ?_
    refine zz_get S hT hB (C := RX6) (ref := "DiagramDesk$Shape") (F := TX6) (N := 8) (index := 22) 6 3 iwX6 rfl (by decide) (by decide) rfl rfl (wS wd_7) (fun _ h9 => h9) dX6_start_12 hq (fun x4 hq => ?_)
    exact zz_iret S hB hr hlocks dX6_start_15 hq
  · refine lv_aload_n hx hb dX6_start_4 rfl (lv_at hl 0 rfl) ?_
    refine zz_get S hT hB (C := RX6) (ref := "DiagramDesk$Shape") (F := TX6) (N := 8) (index := 19) 6 2 iwX6 rfl (by decide) (by decide) rfl rfl (wS wd_8) (fun _ h9 => h9) dX6_start_5 hq (fun x5 hq => ?_)
    refine lv_goto (tgt := 15) hx hb dX6_start_8 (by decide) ?_
    exact zz_iret S hB hr hlocks dX6_start_15 hq
def f_X6_size (T : zT) (N : Nat) (s0 : zS) (a0 : Nat) (x1 : Int32) : Option (Int32 × zS) :=
  zz1 (T.1 a0 = 6) <|
  if ¬ x1 = 0 then (
    (gI T s0 a0 6 5).bind fun x4 =>
    some (x4, s0))
  else (
    (gI T s0 a0 6 4).bind fun x5 =>
    some (x5, s0))
theorem k_X6_size (T : zT) (N : Nat) (s0 : zS) (a0 : Nat) (x1 : Int32) : ∀ q, f_X6_size T N s0 a0 x1 = some q → T.1 a0 = 6 := by
  intro q h
  unfold f_X6_size at h
  exact zz_guard h (fun h _ => h)
set_option maxHeartbeats 4000000 in
set_option maxRecDepth 100000 in
theorem c_X6_size (l : Launch) (D : va_G) (cy : Nat → ClassId) (T : zT) (hT : zok T) (ad : Nat → Nat) (N : Nat) (s0 : zS) (sz : Nat) (a0 : Nat) (x1 : Int32) : ∀ (r0 : Int32) (σ0 : zS), f_X6_size T N s0 a0 x1 = some (r0, σ0) → Met l yX6_size wsX6_size ({ frames := 0, cells := 0, slots := 0, locals := 0 }) (va_Pc [.ref (ad a0), .int x1] (zPre D cy T ad s0 sz)) (va_Qi (fun (r2 : Int32) (σ2 : zS) => r2 = r0 ∧ σ2 = σ0) (zAt D cy T ad (zA T ad sz)) (zA T ad sz)) 0 0 (zA T ad sz) := by
  intro r0 σ0 hq
  refine Met.ofW (cc := cX6_size) (maxL := 2) (ret := (some .int)) (by decide) rfl ?_
  intro p e s m args below meth c s₁ B hml hv
  obtain ⟨hargs, hsz, hP, hK, hD0, hN⟩ := hv
  have hx := B.exec
  have hb := B.bytes
  have hr := B.returns
  have hts := atoms_spec (ws := wsX6_size) B.pre
  have hown : s.vm.findClass RX6 = some m.cls := findClass_of_methodNamed B.named
  have hlocks := B.notSynchronized
  have S : CallFix p m c cX6_size 2 s args wsX6_size RX6 := ⟨hx, hb, hml, hown, hts⟩
  subst hsz
  have hB : zB D cy T ad (zA T ad s.heap.size) s.heap s0 s.heap [] s := zz_entry hP hK hD0 hN
  obtain ⟨ls, hent, hl⟩ := zz_ent m hargs (n := 2) (Nat.le_of_ble_eq_true rfl)
  rw [hent]
  have hl : lv_has ls 2 [(0, .ref (ad a0)), (1, .int x1)] := hl
  have iwX6 : ∀ w ∈ u_ws RX6 TX6 8, w ∈ wsX6_size := fun w h => wS (inWX6 w h)
  unfold f_X6_size at hq
  refine zz_guard hq (fun hk0 hq => ?_)
  refine lv_iload_n hx hb dX6_size_0 rfl (lv_at hl 1 rfl) ?_
  refine zz_if_ne (tgt := 11) hx hb dX6_size_1 (by decide) hq (fun hq => ?_) (fun hq => ?_)
  · refine lv_aload_n hx hb dX6_size_11 rfl (lv_at hl 0 rfl) ?_
    refine zz_get S hT hB (C := RX6) (ref := "DiagramDesk$Shape") (F := TX6) (N := 8) (index := 28) 6 5 iwX6 rfl (by decide) (by decide) rfl rfl (wS wd_9) (fun _ h9 => h9) dX6_size_12 hq (fun x4 hq => ?_)
    exact zz_iret S hB hr hlocks dX6_size_15 hq
  · refine lv_aload_n hx hb dX6_size_4 rfl (lv_at hl 0 rfl) ?_
    refine zz_get S hT hB (C := RX6) (ref := "DiagramDesk$Shape") (F := TX6) (N := 8) (index := 25) 6 4 iwX6 rfl (by decide) (by decide) rfl rfl (wS wd_10) (fun _ h9 => h9) dX6_size_5 hq (fun x5 hq => ?_)
    refine lv_goto (tgt := 15) hx hb dX6_size_8 (by decide) ?_
    exact zz_iret S hB hr hlocks dX6_size_15 hq
def f_J9_floorDiv_7cf53 (T : zT) (N : Nat) (s0 : zS) (x0 : Int32) (x1 : Int32) : Option (Int32 × zS) :=
  zz1 (¬ x1 = 0) <|
  zn (x0 / x1) fun x4 =>
  if 0 ≤ (x0 ^^^ x1) then (
    some (x4, s0))
  else (
    if (x4 * x1) = x0 then (
      some (x4, s0))
    else (
      some (x4 - (1 : Int32), s0)))
set_option maxHeartbeats 4000000 in
set_option maxRecDepth 100000 in
theorem c_J9_floorDiv_7cf53 (l : Launch) (D : va_G) (cy : Nat → ClassId) (T : zT) (hT : zok T) (ad : Nat → Nat) (N : Nat) (s0 : zS) (sz : Nat) (x0 : Int32) (x1 : Int32) : ∀ (r0 : Int32) (σ0 : zS), f_J9_floorDiv_7cf53 T N s0 x0 x1 = some (r0, σ0) → Met l yJ9_floorDiv_7cf53 wsJ9_floorDiv_7cf53 ({ frames := 0, cells := 0, slots := 0, locals := 0 }) (va_Pc [.int x0, .int x1] (zPre D cy T ad s0 sz)) (va_Qi (fun (r2 : Int32) (σ2 : zS) => r2 = r0 ∧ σ2 = σ0) (zAt D cy T ad (zA T ad sz)) (zA T ad sz)) 0 0 (zA T ad sz) := by
  intro r0 σ0 hq
  refine zz_ofWF (cc := cJ9_floorDiv_7cf53) (maxL := 3) (ret := (some .int)) (by decide +kernel) rfl ?_
  intro p e s m args below meth c s₁ B hml hv
  obtain ⟨hargs, hsz, hP, hK, hD0, hN⟩ := hv
  have hx := B.exec
  have hb := B.bytes
  have hr := B.returns
  have hts := atoms_spec (ws := wsJ9_floorDiv_7cf53) B.pre
  have hown : s.vm.findClass RJ9 = some m.cls := findClass_of_methodNamed B.named
  have hlocks := B.notSynchronized
  have S : CallFix p m c cJ9_floorDiv_7cf53 3 s args wsJ9_floorDiv_7cf53 RJ9 := ⟨hx, hb, hml, hown, hts⟩
  subst hsz
  have hB : zB D cy T ad (zA T ad s.heap.size) s.heap s0 s.heap [] s := zz_entry hP hK hD0 hN
  obtain ⟨ls, hent, hl⟩ := zz_ent m hargs (n := 3) (Nat.le_of_ble_eq_true rfl)
  rw [hent]
  have hl : lv_has ls 3 [(0, .int x0), (1, .int x1)] := hl
  unfold f_J9_floorDiv_7cf53 at hq
  refine lv_iload_n hx hb dJ9_floorDiv_7cf53_0 rfl (lv_at hl 0 rfl) ?_
  refine lv_iload_n hx hb dJ9_floorDiv_7cf53_1 rfl (lv_at hl 1 rfl) ?_
  refine zz_guard hq (fun hne hq => ?_)
  refine lv_idiv hx hb dJ9_floorDiv_7cf53_2 hne ?_
  refine zz_nmI hq (fun x4 hq => ?_)
  refine lv_istore_n (lv' := [(2, .int x4), (0, .int x0), (1, .int x1)]) hx hb dJ9_floorDiv_7cf53_3 rfl hl (by decide) rfl (fun ls hl => ?_)
  refine lv_iload_n hx hb dJ9_floorDiv_7cf53_4 rfl (lv_at hl 1 rfl) ?_
  refine lv_iload_n hx hb dJ9_floorDiv_7cf53_5 rfl (lv_at hl 2 rfl) ?_
  refine lv_ixor hx hb dJ9_floorDiv_7cf53_6 ?_
  refine zz_if_ge (tgt := 21) hx hb dJ9_floorDiv_7cf53_7 (by decide) hq (fun hq => ?_) (fun hq => ?_)
  · refine lv_iload_n hx hb dJ9_floorDiv_7cf53_21 rfl (lv_at hl 0 rfl) ?_
    exact zz_iret S hB hr hlocks dJ9_floorDiv_7cf53_22 hq
  · refine lv_iload_n hx hb dJ9_floorDiv_7cf53_10 rfl (lv_at hl 0 rfl) ?_
    refine lv_iload_n hx hb dJ9_floorDiv_7cf53_11 rfl (lv_at hl 2 rfl) ?_
    refine lv_imul hx hb dJ9_floorDiv_7cf53_12 ?_
    refine lv_iload_n hx hb dJ9_floorDiv_7cf53_13 rfl (lv_at hl 1 rfl) ?_
    refine zz_icmp_eq (tgt := 21) hx hb dJ9_floorDiv_7cf53_14 (by decide) hq (fun hq => ?_) (fun hq => ?_)
    · refine lv_iload_n hx hb dJ9_floorDiv_7cf53_21 rfl (lv_at hl 0 rfl) ?_
      exact zz_iret S hB hr hlocks dJ9_floorDiv_7cf53_22 hq
    · refine lv_iload_n hx hb dJ9_floorDiv_7cf53_17 rfl (lv_at hl 0 rfl) ?_
      refine lv_iconst (v := 1) hx hb dJ9_floorDiv_7cf53_18 (by decide) ?_
      refine lv_isub hx hb dJ9_floorDiv_7cf53_19 ?_
      exact zz_iret S hB hr hlocks dJ9_floorDiv_7cf53_20 hq
def f_X6_center (T : zT) (N : Nat) (s0 : zS) (a0 : Nat) (x1 : Int32) : Option (Int32 × zS) :=
  zz1 (T.1 a0 = 6) <|
  zb2 (f_X6_start T N s0 a0 x1) fun x5 s4 =>
  zb2 (f_X6_size T N s4 a0 x1) fun x7 s6 =>
  zb2 (f_J9_floorDiv_7cf53 T N s6 x7 (2 : Int32)) fun x9 s8 =>
  some (x5 + x9, s8)
theorem k_X6_center (T : zT) (N : Nat) (s0 : zS) (a0 : Nat) (x1 : Int32) : ∀ q, f_X6_center T N s0 a0 x1 = some q → T.1 a0 = 6 := by
  intro q h
  unfold f_X6_center at h
  exact zz_guard h (fun h _ => h)
set_option maxHeartbeats 4000000 in
set_option maxRecDepth 100000 in
theorem c_X6_center (l : Launch) (D : va_G) (cy : Nat → ClassId) (T : zT) (hT : zok T) (ad : Nat → Nat) (N : Nat) (s0 : zS) (sz : Nat) (a0 : Nat) (x1 : Int32) : ∀ (r0 : Int32) (σ0 : zS), f_X6_center T N s0 a0 x1 = some (r0, σ0) → Met l yX6_center wsX6_center ({ frames := 1, cells := 0, slots := 0, locals := 22 }) (va_Pc [.ref (ad a0), .int x1] (zPre D cy T ad s0 sz)) (va_Qi (fun (r2 : Int32) (σ2 : zS) => r2 = r0 ∧ σ2 = σ0) (zAt D cy T ad (zA T ad sz)) (zA T ad sz)) 0 0 (zA T ad sz) := by
  intro r0 σ0 hq
  refine Met.ofW (cc := cX6_center) (maxL := 2) (ret := (some .int)) (by decide) rfl ?_
  intro p e s m args below meth c s₁ B hml hv
  obtain ⟨hargs, hsz, hP, hK, hD0, hN⟩ := hv
  have hx := B.exec
  have hb := B.bytes
  have hr := B.returns
  have hts := atoms_spec (ws := wsX6_center) B.pre
  have hown : s.vm.findClass RX6 = some m.cls := findClass_of_methodNamed B.named
  have hlocks := B.notSynchronized
  have S : CallFix p m c cX6_center 2 s args wsX6_center RX6 := ⟨hx, hb, hml, hown, hts⟩
  subst hsz
  have hB : zB D cy T ad (zA T ad s.heap.size) s.heap s0 s.heap [] s := zz_entry hP hK hD0 hN
  obtain ⟨ls, hent, hl⟩ := zz_ent m hargs (n := 2) (Nat.le_of_ble_eq_true rfl)
  rw [hent]
  have hl : lv_has ls 2 [(0, .ref (ad a0)), (1, .int x1)] := hl
  unfold f_X6_center at hq
  refine zz_guard hq (fun hk0 hq => ?_)
  refine lv_aload_n hx hb dX6_center_0 rfl (lv_at hl 0 rfl) ?_
  refine lv_iload_n hx hb dX6_center_1 rfl (lv_at hl 1 rfl) ?_
  refine zz_callVi S hT hB (As := [.int x1]) (b := a0) (o := f_X6_start T N s0 a0 x1) (c_X6_start l D cy T hT ad N s0 _ a0 x1) (cwV 1 hts (gV wSub wd_11 wd_12 wd_13 wd_14 wd_15) rfl rfl rfl (by decide +kernel) ⟨Nat.le_of_ble_eq_true rfl, Nat.le_of_ble_eq_true rfl⟩) (F := TX6) (NF := 8) 6 rfl (by decide) (k_X6_start T N s0 a0 x1) rfl hl.1 rfl (Nat.le_of_ble_eq_true rfl) dX6_center_2 hq (fun x5 s4 H locs hq hB => ?_)
  refine lv_aload_n hx hb dX6_center_5 rfl (lv_at hl 0 rfl) ?_
  refine lv_iload_n hx hb dX6_center_6 rfl (lv_at hl 1 rfl) ?_
  refine zz_callVi S hT hB (As := [.int x1]) (b := a0) (o := f_X6_size T N s4 a0 x1) (c_X6_size l D cy T hT ad N s4 _ a0 x1) (cwV 1 hts (gV wSub wd_16 wd_17 wd_18 wd_14 wd_19) rfl rfl rfl (by decide +kernel) ⟨Nat.le_of_ble_eq_true rfl, Nat.le_of_ble_eq_true rfl⟩) (F := TX6) (NF := 8) 6 rfl (by decide) (k_X6_size T N s4 a0 x1) rfl hl.1 rfl (Nat.le_of_ble_eq_true rfl) dX6_center_7 hq (fun x7 s6 H locs hq hB => ?_)
  refine lv_iconst (v := 2) hx hb dX6_center_10 (by decide) ?_
  refine zz_callSi S hT hB (As := [.int x7, .int (2 : Int32)]) (o := f_J9_floorDiv_7cf53 T N s6 x7 (2 : Int32)) (c_J9_floorDiv_7cf53 l D cy T hT ad N s6 _ x7 (2 : Int32)) (va_cwS 2 hts (gS wSub wd_20 wd_21 wd_22 wd_23) rfl rfl rfl (by decide +kernel) ⟨Nat.le_of_ble_eq_true rfl, Nat.le_of_ble_eq_true rfl⟩) rfl hl.1 rfl (Nat.le_of_ble_eq_true rfl) dX6_center_11 hq (fun x9 s8 H locs hq hB => ?_)
  refine lv_iadd hx hb dX6_center_14 ?_
  exact zz_iret S hB hr hlocks dX6_center_15 hq
def f_X6_end (T : zT) (N : Nat) (s0 : zS) (a0 : Nat) (x1 : Int32) : Option (Int32 × zS) :=
  zz1 (T.1 a0 = 6) <|
  zb2 (f_X6_start T N s0 a0 x1) fun x5 s4 =>
  zb2 (f_X6_size T N s4 a0 x1) fun x7 s6 =>
  some (x5 + x7, s6)
theorem k_X6_end (T : zT) (N : Nat) (s0 : zS) (a0 : Nat) (x1 : Int32) : ∀ q, f_X6_end T N s0 a0 x1 = some q → T.1 a0 = 6 := by
  intro q h
  unfold f_X6_end at h
  exact zz_guard h (fun h _ => h)
set_option maxHeartbeats 4000000 in
set_option maxRecDepth 100000 in
theorem c_X6_end (l : Launch) (D : va_G) (cy : Nat → ClassId) (T : zT) (hT : zok T) (ad : Nat → Nat) (N : Nat) (s0 : zS) (sz : Nat) (a0 : Nat) (x1 : Int32) : ∀ (r0 : Int32) (σ0 : zS), f_X6_end T N s0 a0 x1 = some (r0, σ0) → Met l yX6_end wsX6_end ({ frames := 1, cells := 0, slots := 0, locals := 21 }) (va_Pc [.ref (ad a0), .int x1] (zPre D cy T ad s0 sz)) (va_Qi (fun (r2 : Int32) (σ2 : zS) => r2 = r0 ∧ σ2 = σ0) (zAt D cy T ad (zA T ad sz)) (zA T ad sz)) 0 0 (zA T ad sz) := by
  intro r0 σ0 hq
  refine Met.ofW (cc := cX6_end) (maxL := 2) (ret := (some .int)) (by decide) rfl ?_
  intro p e s m args below meth c s₁ B hml hv
  obtain ⟨hargs, hsz, hP, hK, hD0, hN⟩ := hv
  have hx := B.exec
  have hb := B.bytes
  have hr := B.returns
  have hts := atoms_spec (ws := wsX6_end) B.pre
  have hown : s.vm.findClass RX6 = some m.cls := findClass_of_methodNamed B.named
  have hlocks := B.notSynchronized
  have S : CallFix p m c cX6_end 2 s args wsX6_end RX6 := ⟨hx, hb, hml, hown, hts⟩
  subst hsz
  have hB : zB D cy T ad (zA T ad s.heap.size) s.heap s0 s.heap [] s := zz_entry hP hK hD0 hN
  obtain ⟨ls, hent, hl⟩ := zz_ent m hargs (n := 2) (Nat.le_of_ble_eq_true rfl)
  rw [hent]
  have hl : lv_has ls 2 [(0, .ref (ad a0)), (1, .int x1)] := hl
  unfold f_X6_end at hq
  refine zz_guard hq (fun hk0 hq => ?_)
  refine lv_aload_n hx hb dX6_end_0 rfl (lv_at hl 0 rfl) ?_
  refine lv_iload_n hx hb dX6_end_1 rfl (lv_at hl 1 rfl) ?_
  refine zz_callVi S hT hB (As := [.int x1]) (b := a0) (o := f_X6_start T N s0 a0 x1) (c_X6_start l D cy T hT ad N s0 _ a0 x1) (cwV 1 hts (gV wSub wd_11 wd_12 wd_13 wd_14 wd_15) rfl rfl rfl (by decide +kernel) ⟨Nat.le_of_ble_eq_true rfl, Nat.le_of_ble_eq_true rfl⟩) (F := TX6) (NF := 8) 6 rfl (by decide) (k_X6_start T N s0 a0 x1) rfl hl.1 rfl (Nat.le_of_ble_eq_true rfl) dX6_end_2 hq (fun x5 s4 H locs hq hB => ?_)
  refine lv_aload_n hx hb dX6_end_5 rfl (lv_at hl 0 rfl) ?_
  refine lv_iload_n hx hb dX6_end_6 rfl (lv_at hl 1 rfl) ?_
  refine zz_callVi S hT hB (As := [.int x1]) (b := a0) (o := f_X6_size T N s4 a0 x1) (c_X6_size l D cy T hT ad N s4 _ a0 x1) (cwV 1 hts (gV wSub wd_16 wd_17 wd_18 wd_14 wd_19) rfl rfl rfl (by decide +kernel) ⟨Nat.le_of_ble_eq_true rfl, Nat.le_of_ble_eq_true rfl⟩) (F := TX6) (NF := 8) 6 rfl (by decide) (k_X6_size T N s4 a0 x1) rfl hl.1 rfl (Nat.le_of_ble_eq_true rfl) dX6_end_7 hq (fun x7 s6 H locs hq hB => ?_)
  refine lv_iadd hx hb dX6_end_10 ?_
  exact zz_iret S hB hr hlocks dX6_end_11 hq
def f_X6_portPlace_J37 (T : zT) (N : Nat) (s0 : zS) (a0 : Nat) (x2 : Int32) : Option (Int32 × zS) :=
  zb2 (f_X6_end T N s0 a0 x2) fun x7 s6 =>
  some (x7, s6)
def f_X6_portPlace_J15 (T : zT) (N : Nat) (s0 : zS) (a0 : Nat) (x1 : Int32) (x2 : Int32) (x5 : Int32) : Option (Int32 × zS) :=
  if x2 = x5 then (
    if x1 = (1 : Int32) then (
      f_X6_portPlace_J37 T N s0 a0 x2)
    else (
      if ¬ x1 = (2 : Int32) then (
        zb2 (f_X6_start T N s0 a0 x2) fun x9 s8 =>
        some (x9, s8))
      else (
        f_X6_portPlace_J37 T N s0 a0 x2)))
  else (
    zb2 (f_X6_center T N s0 a0 x2) fun x11 s10 =>
    some (x11, s10))
def f_X6_portPlace (T : zT) (N : Nat) (s0 : zS) (a0 : Nat) (x1 : Int32) (x2 : Int32) : Option (Int32 × zS) :=
  zz1 (T.1 a0 = 6) <|
  if x1 = (1 : Int32) then (
    f_X6_portPlace_J15 T N s0 a0 x1 x2 (0 : Int32))
  else (
    if ¬ x1 = (3 : Int32) then (
      f_X6_portPlace_J15 T N s0 a0 x1 x2 (1 : Int32))
    else (
      f_X6_portPlace_J15 T N s0 a0 x1 x2 (0 : Int32)))
theorem k_X6_portPlace (T : zT) (N : Nat) (s0 : zS) (a0 : Nat) (x1 : Int32) (x2 : Int32) : ∀ q, f_X6_portPlace T N s0 a0 x1 x2 = some q → T.1 a0 = 6 := by
  intro q h
  unfold f_X6_portPlace at h
  exact zz_guard h (fun h _ => h)
set_option maxHeartbeats 4000000 in
set_option maxRecDepth 100000 in
theorem c_X6_portPlace (l : Launch) (D : va_G) (cy : Nat → ClassId) (T : zT) (hT : zok T) (ad : Nat → Nat) (N : Nat) (s0 : zS) (sz : Nat) (a0 : Nat) (x1 : Int32) (x2 : Int32) : ∀ (r0 : Int32) (σ0 : zS), f_X6_portPlace T N s0 a0 x1 x2 = some (r0, σ0) → Met l yX6_portPlace wsX6_portPlace ({ frames := 2, cells := 0, slots := 0, locals := 43 }) (va_Pc [.ref (ad a0), .int x1, .int x2] (zPre D cy T ad s0 sz)) (va_Qi (fun (r2 : Int32) (σ2 : zS) => r2 = r0 ∧ σ2 = σ0) (zAt D cy T ad (zA T ad sz)) (zA T ad sz)) 0 0 (zA T ad sz) := by
  intro r0 σ0 hq
  refine Met.ofW (cc := cX6_portPlace) (maxL := 4) (ret := (some .int)) (by decide) rfl ?_
  intro p e s m args below meth c s₁ B hml hv
  obtain ⟨hargs, hsz, hP, hK, hD0, hN⟩ := hv
  have hx := B.exec
  have hb := B.bytes
  have hr := B.returns
  have hts := atoms_spec (ws := wsX6_portPlace) B.pre
  have hown : s.vm.findClass RX6 = some m.cls := findClass_of_methodNamed B.named
  have hlocks := B.notSynchronized
  have S : CallFix p m c cX6_portPlace 4 s args wsX6_portPlace RX6 := ⟨hx, hb, hml, hown, hts⟩
  subst hsz
  have hB : zB D cy T ad (zA T ad s.heap.size) s.heap s0 s.heap [] s := zz_entry hP hK hD0 hN
  obtain ⟨ls, hent, hl⟩ := zz_ent m hargs (n := 4) (Nat.le_of_ble_eq_true rfl)
  rw [hent]
  have hl : lv_has ls 4 [(0, .ref (ad a0)), (1, .int x1), (2, .int x2)] := hl
  unfold f_X6_portPlace at hq
  refine zz_guard hq (fun hk0 hq => ?_)
  refine lv_iload_n hx hb dX6_portPlace_0 rfl (lv_at hl 1 rfl) ?_
  refine lv_iconst (v := 1) hx hb dX6_portPlace_1 (by decide) ?_
  have J15 : ∀ (x5 : Int32) (H : Heap) (locs : List Loc) (ls : Array Slot), f_X6_portPlace_J15 T N s0 a0 x1 x2 x5 = some (r0, σ0) → zB D cy T ad (zA T ad s.heap.size) s.heap s0 H locs s → lv_has ls 4 [(0, .ref (ad a0)), (1, .int x1), (2, .int x2)] → W p l e (headSpec wsX6_portPlace ({ frames := 2, cells := 0, slots := 0, locals := 43 } : Room)).room s m args below meth c H locs 0 0 (MQ below (va_Qi (fun (r2 : Int32) (σ2 : zS) => r2 = r0 ∧ σ2 = σ0) (zAt D cy T ad (zA T ad s.heap.size)) (zA T ad s.heap.size)) args s 0 0 (zA T ad s.heap.size)) (F0 m 15 ls [.int x5]) := by
    intro x5 H locs ls hq hB hl
    unfold f_X6_portPlace_J15 at hq
    refine lv_istore_n (lv' := [(3, .int x5), (0, .ref (ad a0)), (1, .int x1), (2, .int x2)]) hx hb dX6_portPlace_15 rfl hl (by decide) rfl (fun ls hl => ?_)
    refine lv_iload_n hx hb dX6_portPlace_16 rfl (lv_at hl 3 rfl) ?_
    refine lv_iload_n hx hb dX6_portPlace_17 rfl (lv_at hl 0 rfl) ?_
    refine zz_icmp_eq (tgt := 27) hx hb dX6_portPlace_18 (by decide) hq (fun hq => ?_) (fun hq => ?_)
    · refine lv_iload_n hx hb dX6_portPlace_27 rfl (lv_at hl 2 rfl) ?_
      refine lv_iconst (v := 1) hx hb dX6_portPlace_28 (by decide) ?_
      have J37 : ∀ (H : Heap) (locs : List Loc) (ls : Array Slot), f_X6_portPlace_J37 T N s0 a0 x2 = some (r0, σ0) → zB D cy T ad (zA T ad s.heap.size) s.heap s0 H locs s → lv_has ls 4 [(0, .ref (ad a0)), (2, .int x2)] → W p l e (headSpec wsX6_portPlace ({ frames := 2, cells := 0, slots := 0, locals := 43 } : Room)).room s m args below meth c H locs 0 0 (MQ below (va_Qi (fun (r2 : Int32) (σ2 : zS) => r2 = r0 ∧ σ2 = σ0) (zAt D cy T ad (zA T ad s.heap.size)) (zA T ad s.heap.size)) args s 0 0 (zA T ad s.heap.size)) (F0 m 37 ls []) := by
        intro H locs ls hq hB hl
        unfold f_X6_portPlace_J37 at hq
        refine lv_aload_n hx hb dX6_portPlace_37 rfl (lv_at hl 0 rfl) ?_
        refine lv_iload_n hx hb dX6_portPlace_38 rfl (lv_at hl 1 rfl) ?_
        refine zz_callVi S hT hB (As := [.int x2]) (b := a0) (o := f_X6_end T N s0 a0 x2) (c_X6_end l D cy T hT ad N s0 _ a0 x2) (cwV 1 hts (gV wSub wd_24 wd_25 wd_26 wd_14 wd_27) rfl rfl rfl (by decide +kernel) ⟨Nat.le_of_ble_eq_true rfl, Nat.le_of_ble_eq_true rfl⟩) (F := TX6) (NF := 8) 6 rfl (by decide) (k_X6_end T N s0 a0 x2) rfl hl.1 rfl (Nat.le_of_ble_eq_true rfl) dX6_portPlace_39 hq (fun x7 s6 H locs hq hB => ?_)
        refine lv_goto (tgt := 50) hx hb dX6_portPlace_42 (by decide) ?_
        exact zz_iret S hB hr hlocks dX6_portPlace_50 hq
      refine zz_icmp_eq (tgt := 37) hx hb dX6_portPlace_29 (by decide) hq (fun hq => ?_) (fun hq => ?_)
      · exact J37  _ _ _ hq hB (lv_sub hl [1, 3] rfl)
      · refine lv_iload_n hx hb dX6_portPlace_32 rfl (lv_at hl 2 rfl) ?_
        refine lv_iconst (v := 2) hx hb dX6_portPlace_33 (by decide) ?_
        refine zz_icmp_ne (tgt := 45) hx hb dX6_portPlace_34 (by decide) hq (fun hq => ?_) (fun hq => ?_)
        · refine lv_aload_n hx hb dX6_portPlace_45 rfl (lv_at hl 1 rfl) ?_
          refine lv_iload_n hx hb dX6_portPlace_46 rfl (lv_at hl 3 rfl) ?_
          refine zz_callVi S hT hB (As := [.int x2]) (b := a0) (o := f_X6_start T N s0 a0 x2) (c_X6_start l D cy T hT ad N s0 _ a0 x2) (cwV 1 hts (gV wSub wd_11 wd_12 wd_13 wd_14 wd_15) rfl rfl rfl (by decide +kernel) ⟨Nat.le_of_ble_eq_true rfl, Nat.le_of_ble_eq_true rfl⟩) (F := TX6) (NF := 8) 6 rfl (by decide) (k_X6_start T N s0 a0 x2) rfl hl.1 rfl (Nat.le_of_ble_eq_true rfl) dX6_portPlace_47 hq (fun x9 s8 H locs hq hB => ?_)
          exact zz_iret S hB hr hlocks dX6_portPlace_50 hq
        · exact J37  _ _ _ hq hB (lv_sub hl [1, 3] rfl)
    · refine lv_aload_n hx hb dX6_portPlace_21 rfl (lv_at hl 1 rfl) ?_
      refine lv_iload_n hx hb dX6_portPlace_22 rfl (lv_at hl 3 rfl) ?_
      refine zz_callVi S hT hB (As := [.int x2]) (b := a0) (o := f_X6_center T N s0 a0 x2) (c_X6_center l D cy T hT ad N s0 _ a0 x2) (cwV 1 hts (gV wSub wd_28 wd_29 wd_30 wd_14 wd_31) rfl rfl rfl (by decide +kernel) ⟨Nat.le_of_ble_eq_true rfl, Nat.le_of_ble_eq_true rfl⟩) (F := TX6) (NF := 8) 6 rfl (by decide) (k_X6_center T N s0 a0 x2) rfl hl.1 rfl (Nat.le_of_ble_eq_true rfl) dX6_portPlace_23 hq (fun x11 s10 H locs hq hB => ?_)
      exact zz_iret S hB hr hlocks dX6_portPlace_26 hq
  refine zz_icmp_eq (tgt := 10) hx hb dX6_portPlace_2 (by decide) hq (fun hq => ?_) (fun hq => ?_)
  · refine lv_iconst (v := 0) hx hb dX6_portPlace_10 (by decide) ?_
    refine lv_goto (tgt := 15) hx hb dX6_portPlace_11 (by decide) ?_
    exact J15 (0 : Int32) _ _ _ hq hB (lv_sub hl [0, 1, 2] rfl)
  · refine lv_iload_n hx hb dX6_portPlace_5 rfl (lv_at hl 1 rfl) ?_
    refine lv_iconst (v := 3) hx hb dX6_portPlace_6 (by decide) ?_
    refine zz_icmp_ne (tgt := 14) hx hb dX6_portPlace_7 (by decide) hq (fun hq => ?_) (fun hq => ?_)
    · refine lv_iconst (v := 1) hx hb dX6_portPlace_14 (by decide) ?_
      exact J15 (1 : Int32) _ _ _ hq hB (lv_sub hl [0, 1, 2] rfl)
    · refine lv_iconst (v := 0) hx hb dX6_portPlace_10 (by decide) ?_
      refine lv_goto (tgt := 15) hx hb dX6_portPlace_11 (by decide) ?_
      exact J15 (0 : Int32) _ _ _ hq hB (lv_sub hl [0, 1, 2] rfl)
def f_X0_place_J96 (T : zT) (N : Nat) (a0 : Nat) (x2 : Int32) (x3 : Int32) (x20 : Int32) (x23 : Int32) (s24 : zS) (x27 : Int32) : Option (Int32 × zS) :=
  (gI T s24 a0 0 4).bind fun x28 =>
  if ¬ x28 = (1 : Int32) then (
    if ¬ x3 = x27 then (
      if ¬ x2 = (1 : Int32) then (
        some (x23, s24))
      else (
        some (x20, s24)))
    else (
      zb2 (f_J9_floorDiv_7cf53 T N s24 (x20 + x23) (2 : Int32)) fun x30 s29 =>
      some (x30, s29)))
  else (
    if ¬ x3 = x27 then (
      some (x20, s24))
    else (
      some (x23, s24)))
def f_X0_place (T : zT) (N : Nat) (s0 : zS) (a0 : Nat) (a1 : Nat) (x2 : Int32) (x3 : Int32) : Option (Int32 × zS) :=
  zz1 (T.1 a0 = 0) <|
  (gI T s0 a0 0 0).bind fun x6 =>
  zb2 (f_X7_find T N s0 a1 x6) fun o8 s7 => zo o8 (
    (gI T s7 a0 0 2).bind fun x10 =>
    zb2 (f_X7_find T N s7 a1 x10) fun o12 s11 => zo o12 (
      some ((-1000000 : Int32), s11))
    fun a13 => (
      some ((-1000000 : Int32), s11)))
  fun a9 => (
    (gI T s7 a0 0 2).bind fun x14 =>
    zb2 (f_X7_find T N s7 a1 x14) fun o16 s15 => zo o16 (
      some ((-1000000 : Int32), s15))
    fun a17 => (
      (gI T s15 a0 0 1).bind fun x18 =>
      zb2 (f_X6_portPlace T N s15 a9 x18 x3) fun x20 s19 =>
      (gI T s19 a0 0 3).bind fun x21 =>
      zb2 (f_X6_portPlace T N s19 a17 x21 x3) fun x23 s22 =>
      if 0 < x2 then (
        zb2 (f_X0_lastPoint T N s22 a0) fun x25 s24 =>
        if x2 < x25 then (
          (gI T s24 a0 0 1).bind fun x26 =>
          if x26 = (1 : Int32) then (
            f_X0_place_J96 T N a0 x2 x3 x20 x23 s24 (0 : Int32))
          else (
            (gI T s24 a0 0 1).bind fun x31 =>
            if ¬ x31 = (3 : Int32) then (
              f_X0_place_J96 T N a0 x2 x3 x20 x23 s24 (1 : Int32))
            else (
              f_X0_place_J96 T N a0 x2 x3 x20 x23 s24 (0 : Int32))))
        else (
          some (x23, s24)))
      else (
        some (x20, s22))))
theorem k_X0_place (T : zT) (N : Nat) (s0 : zS) (a0 : Nat) (a1 : Nat) (x2 : Int32) (x3 : Int32) : ∀ q, f_X0_place T N s0 a0 a1 x2 x3 = some q → T.1 a0 = 0 := by
  intro q h
  unfold f_X0_place at h
  exact zz_guard h (fun h _ => h)
set_option maxHeartbeats 4000000 in
set_option maxRecDepth 100000 in
theorem c_X0_place (l : Launch) (D : va_G) (cy : Nat → ClassId) (T : zT) (hT : zok T) (ad : Nat → Nat) (N : Nat) (s0 : zS) (sz : Nat) (a0 : Nat) (a1 : Nat) (x2 : Int32) (x3 : Int32) : ∀ (r0 : Int32) (σ0 : zS), f_X0_place T N s0 a0 a1 x2 x3 = some (r0, σ0) → Met l yX0_place wsX0_place ({ frames := 3, cells := 0, slots := 0, locals := 66 }) (va_Pc [.ref (ad a0), .ref (ad a1), .int x2, .int x3] (zPre D cy T ad s0 sz)) (va_Qi (fun (r2 : Int32) (σ2 : zS) => r2 = r0 ∧ σ2 = σ0) (zAt D cy T ad (zA T ad sz)) (zA T ad sz)) 0 0 (zA T ad sz) := by
  intro r0 σ0 hq
  refine Met.ofW (cc := cX0_place) (maxL := 9) (ret := (some .int)) (by decide) rfl ?_
  intro p e s m args below meth c s₁ B hml hv
  obtain ⟨hargs, hsz, hP, hK, hD0, hN⟩ := hv
  have hx := B.exec
  have hb := B.bytes
  have hr := B.returns
  have hts := atoms_spec (ws := wsX0_place) B.pre
  have hown : s.vm.findClass RX0 = some m.cls := findClass_of_methodNamed B.named
  have hlocks := B.notSynchronized
  have S : CallFix p m c cX0_place 9 s args wsX0_place RX0 := ⟨hx, hb, hml, hown, hts⟩
  subst hsz
  have hB : zB D cy T ad (zA T ad s.heap.size) s.heap s0 s.heap [] s := zz_entry hP hK hD0 hN
  obtain ⟨ls, hent, hl⟩ := zz_ent m hargs (n := 9) (Nat.le_of_ble_eq_true rfl)
  rw [hent]
  have hl : lv_has ls 9 [(0, .ref (ad a0)), (1, .ref (ad a1)), (2, .int x2), (3, .int x3)] := hl
  have iwX0 : ∀ w ∈ u_ws RX0 TX0 5, w ∈ wsX0_place := fun w h => wS (inWX0 w h)
  unfold f_X0_place at hq
  refine zz_guard hq (fun hk0 hq => ?_)
  refine lv_aload_n hx hb dX0_place_0 rfl (lv_at hl 1 rfl) ?_
  refine lv_aload_n hx hb dX0_place_1 rfl (lv_at hl 0 rfl) ?_
  refine zz_get S hT hB (C := RX0) (ref := "DiagramDesk$Connector") (F := TX0) (N := 5) (index := 9) 0 0 iwX0 rfl (by decide) (by decide) rfl rfl (wS wd_0) (fun _ h9 => h9) dX0_place_2 hq (fun x6 hq => ?_)
  refine zz_callVq S hT hB (As := [.int x6]) (b := a1) (o := f_X7_find T N s0 a1 x6) (c_X7_find l D cy T hT ad N s0 _ a1 x6) (cwV 1 hts (gV wSub wd_32 wd_33 wd_34 wd_35 wd_36) rfl rfl rfl (by decide +kernel) ⟨Nat.le_of_ble_eq_true rfl, Nat.le_of_ble_eq_true rfl⟩) (F := TX7) (NF := 3) 7 rfl (by decide) (k_X7_find T N s0 a1 x6) rfl hl.1 rfl (Nat.le_of_ble_eq_true rfl) dX0_place_5 hq (fun s7 H locs hq hB => ?_) (fun a9 s7 H locs hq hB => ?_)
  · refine lv_astoreN (lv' := [(4, .null), (0, .ref (ad a0)), (1, .ref (ad a1)), (2, .int x2), (3, .int x3)]) hx hb dX0_place_8 hl (by decide) rfl (fun ls hl => ?_)
    refine lv_aload_n hx hb dX0_place_10 rfl (lv_at hl 2 rfl) ?_
    refine lv_aload_n hx hb dX0_place_11 rfl (lv_at hl 1 rfl) ?_
    refine zz_get S hT hB (C := RX0) (ref := "DiagramDesk$Connector") (F := TX0) (N := 5) (index := 18) 0 2 iwX0 rfl (by decide) (by decide) rfl rfl (wS wd_2) (fun _ h9 => h9) dX0_place_12 hq (fun x10 hq => ?_)
    refine zz_callVq S hT hB (As := [.int x10]) (b := a1) (o := f_X7_find T N s7 a1 x10) (c_X7_find l D cy T hT ad N s7 _ a1 x10) (cwV 1 hts (gV wSub wd_32 wd_33 wd_34 wd_35 wd_36) rfl rfl rfl (by decide +kernel) ⟨Nat.le_of_ble_eq_true rfl, Nat.le_of_ble_eq_true rfl⟩) (F := TX7) (NF := 3) 7 rfl (by decide) (k_X7_find T N s7 a1 x10) rfl hl.1 rfl (Nat.le_of_ble_eq_true rfl) dX0_place_15 hq (fun s11 H locs hq hB => ?_) (fun a13 s11 H locs hq hB => ?_)
    · refine lv_astoreN (lv' := [(5, .null), (4, .null), (0, .ref (ad a0)), (1, .ref (ad a1)), (2, .int x2), (3, .int x3)]) hx hb dX0_place_18 hl (by decide) rfl (fun ls hl => ?_)
      refine lv_aloadN hx hb dX0_place_20 (lv_at hl 1 rfl) ?_
      refine lv_ifnullN (tgt := 30) hx hb dX0_place_22 (by decide) ?_
      refine lv_ldc (v := -1000000) hx hb hown (hts _ (wS wd_37)) dX0_place_30 ?_
      exact zz_iret S hB hr hlocks dX0_place_32 hq
    · refine lv_astore (lv' := [(5, .ref (ad a13)), (4, .null), (0, .ref (ad a0)), (1, .ref (ad a1)), (2, .int x2), (3, .int x3)]) hx hb dX0_place_18 hl (by decide) rfl (fun ls hl => ?_)
      refine lv_aloadN hx hb dX0_place_20 (lv_at hl 1 rfl) ?_
      refine lv_ifnullN (tgt := 30) hx hb dX0_place_22 (by decide) ?_
      refine lv_ldc (v := -1000000) hx hb hown (hts _ (wS wd_37)) dX0_place_30 ?_
      exact zz_iret S hB hr hlocks dX0_place_32 hq
  · refine lv_astore (lv' := [(4, .ref (ad a9)), (0, .ref (ad a0)), (1, .ref (ad a1)), (2, .int x2), (3, .int x3)]) hx hb dX0_place_8 hl (by decide) rfl (fun ls hl => ?_)
    refine lv_aload_n hx hb dX0_place_10 rfl (lv_at hl 2 rfl) ?_
    refine lv_aload_n hx hb dX0_place_11 rfl (lv_at hl 1 rfl) ?_
    refine zz_get S hT hB (C := RX0) (ref := "DiagramDesk$Connector") (F := TX0) (N := 5) (index := 18) 0 2 iwX0 rfl (by decide) (by decide) rfl rfl (wS wd_2) (fun _ h9 => h9) dX0_place_12 hq (fun x14 hq => ?_)
    refine zz_callVq S hT hB (As := [.int x14]) (b := a1) (o := f_X7_find T N s7 a1 x14) (c_X7_find l D cy T hT ad N s7 _ a1 x14) (cwV 1 hts (gV wSub wd_32 wd_33 wd_34 wd_35 wd_36) rfl rfl rfl (by decide +kernel) ⟨Nat.le_of_ble_eq_true rfl, Nat.le_of_ble_eq_true rfl⟩) (F := TX7) (NF := 3) 7 rfl (by decide) (k_X7_find T N s7 a1 x14) rfl hl.1 rfl (Nat.le_of_ble_eq_true rfl) dX0_place_15 hq (fun s15 H locs hq hB => ?_) (fun a17 s15 H locs hq hB => ?_)
    · refine lv_astoreN (lv' := [(5, .null), (4, .ref (ad a9)), (0, .ref (ad a0)), (1, .ref (ad a1)), (2, .int x2), (3, .int x3)]) hx hb dX0_place_18 hl (by decide) rfl (fun ls hl => ?_)
      refine lv_aload hx hb dX0_place_20 (lv_at hl 1 rfl) ?_
      refine lv_ifnull hx hb dX0_place_22 ?_
      refine lv_aloadN hx hb dX0_place_25 (lv_at hl 0 rfl) ?_
      refine lv_ifnonnullN hx hb dX0_place_27 ?_
      refine lv_ldc (v := -1000000) hx hb hown (hts _ (wS wd_37)) dX0_place_30 ?_
      exact zz_iret S hB hr hlocks dX0_place_32 hq
    · refine lv_astore (lv' := [(5, .ref (ad a17)), (4, .ref (ad a9)), (0, .ref (ad a0)), (1, .ref (ad a1)), (2, .int x2), (3, .int x3)]) hx hb dX0_place_18 hl (by decide) rfl (fun ls hl => ?_)
      refine lv_aload hx hb dX0_place_20 (lv_at hl 1 rfl) ?_
      refine lv_ifnull hx hb dX0_place_22 ?_
      refine lv_aload hx hb dX0_place_25 (lv_at hl 0 rfl) ?_
      refine lv_ifnonnull (tgt := 33) hx hb dX0_place_27 (by decide) ?_
      refine lv_aload hx hb dX0_place_33 (lv_at hl 1 rfl) ?_
      refine lv_aload_n hx hb dX0_place_35 rfl (lv_at hl 2 rfl) ?_
      refine zz_get S hT hB (C := RX0) (ref := "DiagramDesk$Connector") (F := TX0) (N := 5) (index := 15) 0 1 iwX0 rfl (by decide) (by decide) rfl rfl (wS wd_1) (fun _ h9 => h9) dX0_place_36 hq (fun x18 hq => ?_)
      refine lv_iload_n hx hb dX0_place_39 rfl (lv_at hl 5 rfl) ?_
      refine zz_callVi S hT hB (As := [.int x18, .int x3]) (b := a9) (o := f_X6_portPlace T N s15 a9 x18 x3) (c_X6_portPlace l D cy T hT ad N s15 _ a9 x18 x3) (cwV 2 hts (gV wSub wd_38 wd_39 wd_40 wd_14 wd_41) rfl rfl rfl (by decide +kernel) ⟨Nat.le_of_ble_eq_true rfl, Nat.le_of_ble_eq_true rfl⟩) (F := TX6) (NF := 8) 6 rfl (by decide) (k_X6_portPlace T N s15 a9 x18 x3) rfl hl.1 rfl (Nat.le_of_ble_eq_true rfl) dX0_place_40 hq (fun x20 s19 H locs hq hB => ?_)
      refine lv_istore (lv' := [(6, .int x20), (5, .ref (ad a17)), (4, .ref (ad a9)), (0, .ref (ad a0)), (1, .ref (ad a1)), (2, .int x2), (3, .int x3)]) hx hb dX0_place_43 hl (by decide) rfl (fun ls hl => ?_)
      refine lv_aload hx hb dX0_place_45 (lv_at hl 1 rfl) ?_
      refine lv_aload_n hx hb dX0_place_47 rfl (lv_at hl 3 rfl) ?_
      refine zz_get S hT hB (C := RX0) (ref := "DiagramDesk$Connector") (F := TX0) (N := 5) (index := 21) 0 3 iwX0 rfl (by decide) (by decide) rfl rfl (wS wd_3) (fun _ h9 => h9) dX0_place_48 hq (fun x21 hq => ?_)
      refine lv_iload_n hx hb dX0_place_51 rfl (lv_at hl 6 rfl) ?_
      refine zz_callVi S hT hB (As := [.int x21, .int x3]) (b := a17) (o := f_X6_portPlace T N s19 a17 x21 x3) (c_X6_portPlace l D cy T hT ad N s19 _ a17 x21 x3) (cwV 2 hts (gV wSub wd_38 wd_39 wd_40 wd_14 wd_41) rfl rfl rfl (by decide +kernel) ⟨Nat.le_of_ble_eq_true rfl, Nat.le_of_ble_eq_true rfl⟩) (F := TX6) (NF := 8) 6 rfl (by decide) (k_X6_portPlace T N s19 a17 x21 x3) rfl hl.1 rfl (Nat.le_of_ble_eq_true rfl) dX0_place_52 hq (fun x23 s22 H locs hq hB => ?_)
      refine lv_istore (lv' := [(7, .int x23), (6, .int x20), (5, .ref (ad a17)), (4, .ref (ad a9)), (0, .ref (ad a0)), (1, .ref (ad a1)), (2, .int x2), (3, .int x3)]) hx hb dX0_place_55 hl (by decide) rfl (fun ls hl => ?_)
      refine lv_iload_n hx hb dX0_place_57 rfl (lv_at hl 6 rfl) ?_
      refine zz_if_gt (tgt := 64) hx hb dX0_place_58 (by decide) hq (fun hq => ?_) (fun hq => ?_)
      · refine lv_iload_n hx hb dX0_place_64 rfl (lv_at hl 6 rfl) ?_
        refine lv_aload_n hx hb dX0_place_65 rfl (lv_at hl 4 rfl) ?_
        refine zz_callVi S hT hB (As := []) (b := a0) (o := f_X0_lastPoint T N s22 a0) (c_X0_lastPoint l D cy T hT ad N s22 _ a0) (cwV 0 hts (gV wSub wd_42 wd_43 wd_44 wd_45 wd_46) rfl rfl rfl (by decide +kernel) ⟨Nat.le_of_ble_eq_true rfl, Nat.le_of_ble_eq_true rfl⟩) (F := TX0) (NF := 5) 0 rfl (by decide) (k_X0_lastPoint T N s22 a0) rfl hl.1 rfl (Nat.le_of_ble_eq_true rfl) dX0_place_66 hq (fun x25 s24 H locs hq hB => ?_)
        refine zz_icmp_lt (tgt := 75) hx hb dX0_place_69 (by decide) hq (fun hq => ?_) (fun hq => ?_)
        · refine lv_aload_n hx hb dX0_place_75 rfl (lv_at hl 4 rfl) ?_
          refine zz_get S hT hB (C := RX0) (ref := "DiagramDesk$Connector") (F := TX0) (N := 5) (index := 15) 0 1 iwX0 rfl (by decide) (by decide) rfl rfl (wS wd_1) (fun _ h9 => h9) dX0_place_76 hq (fun x26 hq => ?_)
          refine lv_iconst (v := 1) hx hb dX0_place_79 (by decide) ?_
          have J96 : ∀ (x27 : Int32) (H : Heap) (locs : List Loc) (ls : Array Slot), f_X0_place_J96 T N a0 x2 x3 x20 x23 s24 x27 = some (r0, σ0) → zB D cy T ad (zA T ad s.heap.size) s.heap s24 H locs s → lv_has ls 9 [(0, .ref (ad a0)), (2, .int x2), (3, .int x3), (6, .int x20), (7, .int x23)] → W p l e (headSpec wsX0_place ({ frames := 3, cells := 0, slots := 0, locals := 66 } : Room)).room s m args below meth c H locs 0 0 (MQ below (va_Qi (fun (r2 : Int32) (σ2 : zS) => r2 = r0 ∧ σ2 = σ0) (zAt D cy T ad (zA T ad s.heap.size)) (zA T ad s.heap.size)) args s 0 0 (zA T ad s.heap.size)) (F0 m 96 ls [.int x27]) := by
            intro x27 H locs ls hq hB hl
            unfold f_X0_place_J96 at hq
            refine lv_istore (lv' := [(8, .int x27), (0, .ref (ad a0)), (2, .int x2), (3, .int x3), (6, .int x20), (7, .int x23)]) hx hb dX0_place_96 hl (by decide) rfl (fun ls hl => ?_)
            refine lv_aload_n hx hb dX0_place_98 rfl (lv_at hl 1 rfl) ?_
            refine zz_get S hT hB (C := RX0) (ref := "DiagramDesk$Connector") (F := TX0) (N := 5) (index := 24) 0 4 iwX0 rfl (by decide) (by decide) rfl rfl (wS wd_4) (fun _ h9 => h9) dX0_place_99 hq (fun x28 hq => ?_)
            refine lv_iconst (v := 1) hx hb dX0_place_102 (by decide) ?_
            refine zz_icmp_ne (tgt := 120) hx hb dX0_place_103 (by decide) hq (fun hq => ?_) (fun hq => ?_)
            · refine lv_iload_n hx hb dX0_place_120 rfl (lv_at hl 3 rfl) ?_
              refine lv_iload hx hb dX0_place_121 (lv_at hl 0 rfl) ?_
              refine zz_icmp_ne (tgt := 136) hx hb dX0_place_123 (by decide) hq (fun hq => ?_) (fun hq => ?_)
              · refine lv_iload_n hx hb dX0_place_136 rfl (lv_at hl 2 rfl) ?_
                refine lv_iconst (v := 1) hx hb dX0_place_137 (by decide) ?_
                refine zz_icmp_ne (tgt := 146) hx hb dX0_place_138 (by decide) hq (fun hq => ?_) (fun hq => ?_)
                · refine lv_iload hx hb dX0_place_146 (lv_at hl 5 rfl) ?_
                  exact zz_iret S hB hr hlocks dX0_place_148 hq
                · refine lv_iload hx hb dX0_place_141 (lv_at hl 4 rfl) ?_
                  refine lv_goto (tgt := 148) hx hb dX0_place_143 (by decide) ?_
                  exact zz_iret S hB hr hlocks dX0_place_148 hq
              · refine lv_iload hx hb dX0_place_126 (lv_at hl 4 rfl) ?_
                refine lv_iload hx hb dX0_place_128 (lv_at hl 5 rfl) ?_
                refine lv_iadd hx hb dX0_place_130 ?_
                refine lv_iconst (v := 2) hx hb dX0_place_131 (by decide) ?_
                refine zz_callSi S hT hB (As := [.int (x20 + x23), .int (2 : Int32)]) (o := f_J9_floorDiv_7cf53 T N s24 (x20 + x23) (2 : Int32)) (c_J9_floorDiv_7cf53 l D cy T hT ad N s24 _ (x20 + x23) (2 : Int32)) (va_cwS 2 hts (gS wSub wd_47 wd_21 wd_22 wd_23) rfl rfl rfl (by decide +kernel) ⟨Nat.le_of_ble_eq_true rfl, Nat.le_of_ble_eq_true rfl⟩) rfl hl.1 rfl (Nat.le_of_ble_eq_true rfl) dX0_place_132 hq (fun x30 s29 H locs hq hB => ?_)
                exact zz_iret S hB hr hlocks dX0_place_135 hq
            · refine lv_iload_n hx hb dX0_place_106 rfl (lv_at hl 3 rfl) ?_
              refine lv_iload hx hb dX0_place_107 (lv_at hl 0 rfl) ?_
              refine zz_icmp_ne (tgt := 117) hx hb dX0_place_109 (by decide) hq (fun hq => ?_) (fun hq => ?_)
              · refine lv_iload hx hb dX0_place_117 (lv_at hl 4 rfl) ?_
                exact zz_iret S hB hr hlocks dX0_place_119 hq
              · refine lv_iload hx hb dX0_place_112 (lv_at hl 5 rfl) ?_
                refine lv_goto (tgt := 119) hx hb dX0_place_114 (by decide) ?_
                exact zz_iret S hB hr hlocks dX0_place_119 hq
          refine zz_icmp_eq (tgt := 91) hx hb dX0_place_80 (by decide) hq (fun hq => ?_) (fun hq => ?_)
          · refine lv_iconst (v := 0) hx hb dX0_place_91 (by decide) ?_
            refine lv_goto (tgt := 96) hx hb dX0_place_92 (by decide) ?_
            exact J96 (0 : Int32) _ _ _ hq hB (lv_sub hl [4, 6, 7, 1, 0] rfl)
          · refine lv_aload_n hx hb dX0_place_83 rfl (lv_at hl 4 rfl) ?_
            refine zz_get S hT hB (C := RX0) (ref := "DiagramDesk$Connector") (F := TX0) (N := 5) (index := 15) 0 1 iwX0 rfl (by decide) (by decide) rfl rfl (wS wd_1) (fun _ h9 => h9) dX0_place_84 hq (fun x31 hq => ?_)
            refine lv_iconst (v := 3) hx hb dX0_place_87 (by decide) ?_
            refine zz_icmp_ne (tgt := 95) hx hb dX0_place_88 (by decide) hq (fun hq => ?_) (fun hq => ?_)
            · refine lv_iconst (v := 1) hx hb dX0_place_95 (by decide) ?_
              exact J96 (1 : Int32) _ _ _ hq hB (lv_sub hl [4, 6, 7, 1, 0] rfl)
            · refine lv_iconst (v := 0) hx hb dX0_place_91 (by decide) ?_
              refine lv_goto (tgt := 96) hx hb dX0_place_92 (by decide) ?_
              exact J96 (0 : Int32) _ _ _ hq hB (lv_sub hl [4, 6, 7, 1, 0] rfl)
        · refine lv_iload hx hb dX0_place_72 (lv_at hl 0 rfl) ?_
          exact zz_iret S hB hr hlocks dX0_place_74 hq
      · refine lv_iload hx hb dX0_place_61 (lv_at hl 1 rfl) ?_
        exact zz_iret S hB hr hlocks dX0_place_63 hq
def f_X0_extent_L4 (T : zT) (N : Nat) (a0 : Nat) (a1 : Nat) (k4 : Int32 → Int32 → zS → Option (Int32 × zS)) (x4 : Int32) (x5 : Int32) (s6 : zS) : Option (Int32 × zS) :=
  zb2 (f_X0_lastPoint T N s6 a0) fun x8 s7 =>
  if x8 ≤ x5 then (
    some (x4, s7))
  else (
    zb2 (f_X0_place T N s7 a0 a1 (x5 + (1 : Int32)) (0 : Int32)) fun x10 s9 =>
    zb2 (f_X0_place T N s9 a0 a1 x5 (0 : Int32)) fun x12 s11 =>
    zn (if 0 ≤ (x10 - x12) then (x10 - x12) else 0 - (x10 - x12)) fun x13 =>
    zn (x4 + x13) fun x14 =>
    zb2 (f_X0_place T N s11 a0 a1 (x5 + (1 : Int32)) (1 : Int32)) fun x16 s15 =>
    zb2 (f_X0_place T N s15 a0 a1 x5 (1 : Int32)) fun x18 s17 =>
    zn (if 0 ≤ (x16 - x18) then (x16 - x18) else 0 - (x16 - x18)) fun x19 =>
    zn (x14 + x19) fun x20 =>
    zn (x5 + (1 : Int32)) fun x21 =>
    k4 x20 x21 s17)
def f_X0_extent (T : zT) (N : Nat) (s0 : zS) (a0 : Nat) (a1 : Nat) : Option (Int32 × zS) :=
  zz1 (T.1 a0 = 0) <|
  zl3 (f_X0_extent_L4 T N a0 a1) N (0 : Int32) (0 : Int32) s0
theorem k_X0_extent (T : zT) (N : Nat) (s0 : zS) (a0 : Nat) (a1 : Nat) : ∀ q, f_X0_extent T N s0 a0 a1 = some q → T.1 a0 = 0 := by
  intro q h
  unfold f_X0_extent at h
  exact zz_guard h (fun h _ => h)
set_option maxHeartbeats 4000000 in
set_option maxRecDepth 100000 in
theorem c_X0_extent (l : Launch) (D : va_G) (cy : Nat → ClassId) (T : zT) (hT : zok T) (ad : Nat → Nat) (N : Nat) (s0 : zS) (sz : Nat) (a0 : Nat) (a1 : Nat) : ∀ (r0 : Int32) (σ0 : zS), f_X0_extent T N s0 a0 a1 = some (r0, σ0) → Met l yX0_extent wsX0_extent ({ frames := 4, cells := 0, slots := 0, locals := 94 }) (va_Pc [.ref (ad a0), .ref (ad a1)] (zPre D cy T ad s0 sz)) (va_Qi (fun (r2 : Int32) (σ2 : zS) => r2 = r0 ∧ σ2 = σ0) (zAt D cy T ad (zA T ad sz)) (zA T ad sz)) 0 0 (zA T ad sz) := by
  intro r0 σ0 hq
  refine Met.ofW (cc := cX0_extent) (maxL := 4) (ret := (some .int)) (by decide) rfl ?_
  intro p e s m args below meth c s₁ B hml hv
  obtain ⟨hargs, hsz, hP, hK, hD0, hN⟩ := hv
  have hx := B.exec
  have hb := B.bytes
  have hr := B.returns
  have hts := atoms_spec (ws := wsX0_extent) B.pre
  have hown : s.vm.findClass RX0 = some m.cls := findClass_of_methodNamed B.named
  have hlocks := B.notSynchronized
  have S : CallFix p m c cX0_extent 4 s args wsX0_extent RX0 := ⟨hx, hb, hml, hown, hts⟩
  subst hsz
  have hB : zB D cy T ad (zA T ad s.heap.size) s.heap s0 s.heap [] s := zz_entry hP hK hD0 hN
  obtain ⟨ls, hent, hl⟩ := zz_ent m hargs (n := 4) (Nat.le_of_ble_eq_true rfl)
  rw [hent]
  have hl : lv_has ls 4 [(0, .ref (ad a0)), (1, .ref (ad a1))] := hl
  unfold f_X0_extent at hq
  refine zz_guard hq (fun hk0 hq => ?_)
  refine lv_iconst (v := 0) hx hb dX0_extent_0 (by decide) ?_
  refine lv_istore_n (lv' := [(2, .int (0 : Int32)), (0, .ref (ad a0)), (1, .ref (ad a1))]) hx hb dX0_extent_1 rfl hl (by decide) rfl (fun ls hl => ?_)
  refine lv_iconst (v := 0) hx hb dX0_extent_2 (by decide) ?_
  refine lv_istore_n (lv' := [(3, .int (0 : Int32)), (2, .int (0 : Int32)), (0, .ref (ad a0)), (1, .ref (ad a1))]) hx hb dX0_extent_3 rfl hl (by decide) rfl (fun ls hl => ?_)
  have L4 : ∀ (n : Nat) (x4 : Int32) (x5 : Int32) (s6 : zS) (H : Heap) (locs : List Loc) (ls : Array Slot), zl3 (f_X0_extent_L4 T N a0 a1) n x4 x5 s6 = some (r0, σ0) → zB D cy T ad (zA T ad s.heap.size) s.heap s6 H locs s → lv_has ls 4 [(0, .ref (ad a0)), (1, .ref (ad a1)), (2, .int x4), (3, .int x5)] → W p l e (headSpec wsX0_extent ({ frames := 4, cells := 0, slots := 0, locals := 94 } : Room)).room s m args below meth c H locs 0 0 (MQ below (va_Qi (fun (r2 : Int32) (σ2 : zS) => r2 = r0 ∧ σ2 = σ0) (zAt D cy T ad (zA T ad s.heap.size)) (zA T ad s.heap.size)) args s 0 0 (zA T ad s.heap.size)) (F0 m 4 ls []) := by
    intro n
    induction n with
    | zero => intro x4 x5 s6 H locs ls hq; exact zz_none hq
    | succ n ih4 =>
      intro x4 x5 s6 H locs ls hq hB hl
      rw [zl3] at hq
      generalize zl3 (f_X0_extent_L4 T N a0 a1) n = k4 at ih4 hq
      unfold f_X0_extent_L4 at hq
      refine lv_iload_n hx hb dX0_extent_4 rfl (lv_at hl 3 rfl) ?_
      refine lv_aload_n hx hb dX0_extent_5 rfl (lv_at hl 0 rfl) ?_
      refine zz_callVi S hT hB (As := []) (b := a0) (o := f_X0_lastPoint T N s6 a0) (c_X0_lastPoint l D cy T hT ad N s6 _ a0) (cwV 0 hts (gV wSub wd_42 wd_43 wd_44 wd_45 wd_46) rfl rfl rfl (by decide +kernel) ⟨Nat.le_of_ble_eq_true rfl, Nat.le_of_ble_eq_true rfl⟩) (F := TX0) (NF := 5) 0 rfl (by decide) (k_X0_lastPoint T N s6 a0) rfl hl.1 rfl (Nat.le_of_ble_eq_true rfl) dX0_extent_6 hq (fun x8 s7 H locs hq hB => ?_)
      refine zz_icmp_ge (tgt := 64) hx hb dX0_extent_9 (by decide) hq (fun hq => ?_) (fun hq => ?_)
      · refine lv_iload_n hx hb dX0_extent_64 rfl (lv_at hl 2 rfl) ?_
        exact zz_iret S hB hr hlocks dX0_extent_65 hq
      · refine lv_iload_n hx hb dX0_extent_12 rfl (lv_at hl 2 rfl) ?_
        refine lv_aload_n hx hb dX0_extent_13 rfl (lv_at hl 0 rfl) ?_
        refine lv_aload_n hx hb dX0_extent_14 rfl (lv_at hl 1 rfl) ?_
        refine lv_iload_n hx hb dX0_extent_15 rfl (lv_at hl 3 rfl) ?_
        refine lv_iconst (v := 1) hx hb dX0_extent_16 (by decide) ?_
        refine lv_iadd hx hb dX0_extent_17 ?_
        refine lv_iconst (v := 0) hx hb dX0_extent_18 (by decide) ?_
        refine zz_callVi S hT hB (As := [.ref (ad a1), .int (x5 + (1 : Int32)), .int (0 : Int32)]) (b := a0) (o := f_X0_place T N s7 a0 a1 (x5 + (1 : Int32)) (0 : Int32)) (c_X0_place l D cy T hT ad N s7 _ a0 a1 (x5 + (1 : Int32)) (0 : Int32)) (cwV 3 hts (gV wSub wd_48 wd_49 wd_50 wd_45 wd_51) rfl rfl rfl (by decide +kernel) ⟨Nat.le_of_ble_eq_true rfl, Nat.le_of_ble_eq_true rfl⟩) (F := TX0) (NF := 5) 0 rfl (by decide) (k_X0_place T N s7 a0 a1 (x5 + (1 : Int32)) (0 : Int32)) rfl hl.1 rfl (Nat.le_of_ble_eq_true rfl) dX0_extent_19 hq (fun x10 s9 H locs hq hB => ?_)
        refine lv_aload_n hx hb dX0_extent_22 rfl (lv_at hl 0 rfl) ?_
        refine lv_aload_n hx hb dX0_extent_23 rfl (lv_at hl 1 rfl) ?_
        refine lv_iload_n hx hb dX0_extent_24 rfl (lv_at hl 3 rfl) ?_
        refine lv_iconst (v := 0) hx hb dX0_extent_25 (by decide) ?_
        refine zz_callVi S hT hB (As := [.ref (ad a1), .int x5, .int (0 : Int32)]) (b := a0) (o := f_X0_place T N s9 a0 a1 x5 (0 : Int32)) (c_X0_place l D cy T hT ad N s9 _ a0 a1 x5 (0 : Int32)) (cwV 3 hts (gV wSub wd_48 wd_49 wd_50 wd_45 wd_51) rfl rfl rfl (by decide +kernel) ⟨Nat.le_of_ble_eq_true rfl, Nat.le_of_ble_eq_true rfl⟩) (F := TX0) (NF := 5) 0 rfl (by decide) (k_X0_place T N s9 a0 a1 x5 (0 : Int32)) rfl hl.1 rfl (Nat.le_of_ble_eq_true rfl) dX0_extent_26 hq (fun x12 s11 H locs hq hB => ?_)
        refine lv_isub hx hb dX0_extent_29 ?_
        refine zz_abs S hl.1 (wS wd_52) (wS wd_53) (wS wd_54) (wS wd_55) (Nat.le_of_ble_eq_true rfl) (Nat.le_of_ble_eq_true rfl) dX0_extent_30 ?_
        refine zz_nmI hq (fun x13 hq => ?_)
        refine lv_iadd hx hb dX0_extent_33 ?_
        refine zz_nmI hq (fun x14 hq => ?_)
        refine lv_istore_n (lv' := [(2, .int x14), (0, .ref (ad a0)), (1, .ref (ad a1)), (3, .int x5)]) hx hb dX0_extent_34 rfl hl (by decide) rfl (fun ls hl => ?_)
        refine lv_iload_n hx hb dX0_extent_35 rfl (lv_at hl 0 rfl) ?_
        refine lv_aload_n hx hb dX0_extent_36 rfl (lv_at hl 1 rfl) ?_
        refine lv_aload_n hx hb dX0_extent_37 rfl (lv_at hl 2 rfl) ?_
        refine lv_iload_n hx hb dX0_extent_38 rfl (lv_at hl 3 rfl) ?_
        refine lv_iconst (v := 1) hx hb dX0_extent_39 (by decide) ?_
        refine lv_iadd hx hb dX0_extent_40 ?_
        refine lv_iconst (v := 1) hx hb dX0_extent_41 (by decide) ?_
        refine zz_callVi S hT hB (As := [.ref (ad a1), .int (x5 + (1 : Int32)), .int (1 : Int32)]) (b := a0) (o := f_X0_place T N s11 a0 a1 (x5 + (1 : Int32)) (1 : Int32)) (c_X0_place l D cy T hT ad N s11 _ a0 a1 (x5 + (1 : Int32)) (1 : Int32)) (cwV 3 hts (gV wSub wd_48 wd_49 wd_50 wd_45 wd_51) rfl rfl rfl (by decide +kernel) ⟨Nat.le_of_ble_eq_true rfl, Nat.le_of_ble_eq_true rfl⟩) (F := TX0) (NF := 5) 0 rfl (by decide) (k_X0_place T N s11 a0 a1 (x5 + (1 : Int32)) (1 : Int32)) rfl hl.1 rfl (Nat.le_of_ble_eq_true rfl) dX0_extent_42 hq (fun x16 s15 H locs hq hB => ?_)
        refine lv_aload_n hx hb dX0_extent_45 rfl (lv_at hl 1 rfl) ?_
        refine lv_aload_n hx hb dX0_extent_46 rfl (lv_at hl 2 rfl) ?_
        refine lv_iload_n hx hb dX0_extent_47 rfl (lv_at hl 3 rfl) ?_
        refine lv_iconst (v := 1) hx hb dX0_extent_48 (by decide) ?_
        refine zz_callVi S hT hB (As := [.ref (ad a1), .int x5, .int (1 : Int32)]) (b := a0) (o := f_X0_place T N s15 a0 a1 x5 (1 : Int32)) (c_X0_place l D cy T hT ad N s15 _ a0 a1 x5 (1 : Int32)) (cwV 3 hts (gV wSub wd_48 wd_49 wd_50 wd_45 wd_51) rfl rfl rfl (by decide +kernel) ⟨Nat.le_of_ble_eq_true rfl, Nat.le_of_ble_eq_true rfl⟩) (F := TX0) (NF := 5) 0 rfl (by decide) (k_X0_place T N s15 a0 a1 x5 (1 : Int32)) rfl hl.1 rfl (Nat.le_of_ble_eq_true rfl) dX0_extent_49 hq (fun x18 s17 H locs hq hB => ?_)
        refine lv_isub hx hb dX0_extent_52 ?_
        refine zz_abs S hl.1 (wS wd_52) (wS wd_53) (wS wd_54) (wS wd_55) (Nat.le_of_ble_eq_true rfl) (Nat.le_of_ble_eq_true rfl) dX0_extent_53 ?_
        refine zz_nmI hq (fun x19 hq => ?_)
        refine lv_iadd hx hb dX0_extent_56 ?_
        refine zz_nmI hq (fun x20 hq => ?_)
        refine lv_istore_n (lv' := [(2, .int x20), (0, .ref (ad a0)), (1, .ref (ad a1)), (3, .int x5)]) hx hb dX0_extent_57 rfl hl (by decide) rfl (fun ls hl => ?_)
        refine zz_nmV hq (fun x21 ex21 hq => ?_)
        refine lv_iinc (v := x21) (lv' := [(3, .int x21), (2, .int x20), (0, .ref (ad a0)), (1, .ref (ad a1))]) hx hb dX0_extent_58 hl (k := 3) rfl (by rw [ex21]; rfl) (by decide) rfl (fun ls hl => ?_)
        refine lv_goto (tgt := 4) hx hb dX0_extent_61 (by decide) ?_
        exact ih4 x20 x21 s17 _ _ _ hq hB (lv_sub hl [2, 3, 1, 0] rfl)
  exact L4 N (0 : Int32) (0 : Int32) s0 _ _ _ hq hB (lv_sub hl [2, 3, 1, 0] rfl)
def f_X6_hasCornersOnBothSides (T : zT) (N : Nat) (s0 : zS) (a0 : Nat) (x1 : Int32) (x2 : Int32) (x3 : Int32) (x4 : Int32) : Option (Int32 × zS) :=
  zz1 (T.1 a0 = 6) <|
  zn ((x3 - x1).toInt64) fun y7 =>
  zn ((x4 - x2).toInt64) fun y8 =>
  (gI T s0 a0 6 2).bind fun x9 =>
  zn (y8 * ((x9 - x1).toInt64)) fun y10 =>
  zb2 (f_X6_end T N s0 a0 (0 : Int32)) fun x12 s11 =>
  zn (y8 * ((x12 - x1).toInt64)) fun y13 =>
  (gI T s11 a0 6 3).bind fun x14 =>
  zn (y7 * ((x14 - x2).toInt64)) fun y15 =>
  zb2 (f_X6_end T N s11 a0 (1 : Int32)) fun x17 s16 =>
  zn (y7 * ((x17 - x2).toInt64)) fun y18 =>
  zn (if y18 < y15 then y18 else y15) fun y19 =>
  zn (if y13 < y10 then y10 else y13) fun y20 =>
  zn (y19 - y20) fun y21 =>
  zn (if y18 < y15 then y15 else y18) fun y22 =>
  zn (if y13 < y10 then y13 else y10) fun y23 =>
  zn (y22 - y23) fun y24 =>
  if 0 ≤ (lg_cmp y21 (0 : Int64)) then (
    rZ (0 : Int32) s16)
  else (
    if (lg_cmp y24 (0 : Int64)) ≤ 0 then (
      rZ (0 : Int32) s16)
    else (
      rZ (1 : Int32) s16))
theorem k_X6_hasCornersOnBothSides (T : zT) (N : Nat) (s0 : zS) (a0 : Nat) (x1 : Int32) (x2 : Int32) (x3 : Int32) (x4 : Int32) : ∀ q, f_X6_hasCornersOnBothSides T N s0 a0 x1 x2 x3 x4 = some q → T.1 a0 = 6 := by
  intro q h
  unfold f_X6_hasCornersOnBothSides at h
  exact zz_guard h (fun h _ => h)
set_option maxHeartbeats 4000000 in
set_option maxRecDepth 100000 in
theorem c_X6_hasCornersOnBothSides (l : Launch) (D : va_G) (cy : Nat → ClassId) (T : zT) (hT : zok T) (ad : Nat → Nat) (N : Nat) (s0 : zS) (sz : Nat) (a0 : Nat) (x1 : Int32) (x2 : Int32) (x3 : Int32) (x4 : Int32) : ∀ (r0 : Int32) (σ0 : zS), f_X6_hasCornersOnBothSides T N s0 a0 x1 x2 x3 x4 = some (r0, σ0) → Met l yX6_hasCornersOnBothSides wsX6_hasCornersOnBothSides ({ frames := 2, cells := 0, slots := 0, locals := 42 }) (va_Pc [.ref (ad a0), .int x1, .int x2, .int x3, .int x4] (zPre D cy T ad s0 sz)) (va_Qi (fun (r2 : Int32) (σ2 : zS) => r2 = r0 ∧ σ2 = σ0) (zAt D cy T ad (zA T ad sz)) (zA T ad sz)) 0 0 (zA T ad sz) := by
  intro r0 σ0 hq
  refine Met.ofW (cc := cX6_hasCornersOnBothSides) (maxL := 21) (ret := (some .boolean)) (by decide) rfl ?_
  intro p e s m args below meth c s₁ B hml hv
  obtain ⟨hargs, hsz, hP, hK, hD0, hN⟩ := hv
  have hx := B.exec
  have hb := B.bytes
  have hr := B.returns
  have hts := atoms_spec (ws := wsX6_hasCornersOnBothSides) B.pre
  have hown : s.vm.findClass RX6 = some m.cls := findClass_of_methodNamed B.named
  have hlocks := B.notSynchronized
  have S : CallFix p m c cX6_hasCornersOnBothSides 21 s args wsX6_hasCornersOnBothSides RX6 := ⟨hx, hb, hml, hown, hts⟩
  subst hsz
  have hB : zB D cy T ad (zA T ad s.heap.size) s.heap s0 s.heap [] s := zz_entry hP hK hD0 hN
  obtain ⟨ls, hent, hl⟩ := zz_ent m hargs (n := 21) (Nat.le_of_ble_eq_true rfl)
  rw [hent]
  have hl : lv_has ls 21 [(0, .ref (ad a0)), (1, .int x1), (2, .int x2), (3, .int x3), (4, .int x4)] := hl
  have iwX6 : ∀ w ∈ u_ws RX6 TX6 8, w ∈ wsX6_hasCornersOnBothSides := fun w h => wS (inWX6 w h)
  unfold f_X6_hasCornersOnBothSides at hq
  refine zz_guard hq (fun hk0 hq => ?_)
  refine lv_iload_n hx hb dX6_hasCornersOnBothSides_0 rfl (lv_at hl 3 rfl) ?_
  refine lv_iload_n hx hb dX6_hasCornersOnBothSides_1 rfl (lv_at hl 1 rfl) ?_
  refine lv_isub hx hb dX6_hasCornersOnBothSides_2 ?_
  refine lv_i2l (v := (x3 - x1).toInt64) hx hb dX6_hasCornersOnBothSides_3 rfl ?_
  refine zz_nmJ hq (fun y7 hq => ?_)
  refine lv_lstore (lv' := [(5, .long y7), (0, .ref (ad a0)), (1, .int x1), (2, .int x2), (3, .int x3), (4, .int x4)]) hx hb dX6_hasCornersOnBothSides_4 hl (by decide) rfl (fun ls hl => ?_)
  refine lv_iload hx hb dX6_hasCornersOnBothSides_6 (lv_at hl 5 rfl) ?_
  refine lv_iload_n hx hb dX6_hasCornersOnBothSides_8 rfl (lv_at hl 3 rfl) ?_
  refine lv_isub hx hb dX6_hasCornersOnBothSides_9 ?_
  refine lv_i2l (v := (x4 - x2).toInt64) hx hb dX6_hasCornersOnBothSides_10 rfl ?_
  refine zz_nmJ hq (fun y8 hq => ?_)
  refine lv_lstore (lv' := [(7, .long y8), (5, .long y7), (0, .ref (ad a0)), (1, .int x1), (2, .int x2), (3, .int x3), (4, .int x4)]) hx hb dX6_hasCornersOnBothSides_11 hl (by decide) rfl (fun ls hl => ?_)
  refine lv_lload hx hb dX6_hasCornersOnBothSides_13 (lv_at hl 0 rfl) ?_
  refine lv_aload_n hx hb dX6_hasCornersOnBothSides_15 rfl (lv_at hl 2 rfl) ?_
  refine zz_get S hT hB (C := RX6) (ref := "DiagramDesk$Shape") (F := TX6) (N := 8) (index := 19) 6 2 iwX6 rfl (by decide) (by decide) rfl rfl (wS wd_8) (fun _ h9 => h9) dX6_hasCornersOnBothSides_16 hq (fun x9 hq => ?_)
  refine lv_iload_n hx hb dX6_hasCornersOnBothSides_19 rfl (lv_at hl 3 rfl) ?_
  refine lv_isub hx hb dX6_hasCornersOnBothSides_20 ?_
  refine lv_i2l (v := (x9 - x1).toInt64) hx hb dX6_hasCornersOnBothSides_21 rfl ?_
  refine lv_lmul hx hb dX6_hasCornersOnBothSides_22 ?_
  refine zz_nmJ hq (fun y10 hq => ?_)
  refine lv_lstore (lv' := [(9, .long y10), (7, .long y8), (5, .long y7), (0, .ref (ad a0)), (1, .int x1), (2, .int x2), (3, .int x3), (4, .int x4)]) hx hb dX6_hasCornersOnBothSides_23 hl (by decide) rfl (fun ls hl => ?_)
  refine lv_lload hx hb dX6_hasCornersOnBothSides_25 (lv_at hl 1 rfl) ?_
  refine lv_aload_n hx hb dX6_hasCornersOnBothSides_27 rfl (lv_at hl 3 rfl) ?_
  refine lv_iconst (v := 0) hx hb dX6_hasCornersOnBothSides_28 (by decide) ?_
  refine zz_callVi S hT hB (As := [.int (0 : Int32)]) (b := a0) (o := f_X6_end T N s0 a0 (0 : Int32)) (c_X6_end l D cy T hT ad N s0 _ a0 (0 : Int32)) (cwV 1 hts (gV wSub wd_24 wd_25 wd_26 wd_14 wd_27) rfl rfl rfl (by decide +kernel) ⟨Nat.le_of_ble_eq_true rfl, Nat.le_of_ble_eq_true rfl⟩) (F := TX6) (NF := 8) 6 rfl (by decide) (k_X6_end T N s0 a0 (0 : Int32)) rfl hl.1 rfl (Nat.le_of_ble_eq_true rfl) dX6_hasCornersOnBothSides_29 hq (fun x12 s11 H locs hq hB => ?_)
  refine lv_iload_n hx hb dX6_hasCornersOnBothSides_32 rfl (lv_at hl 4 rfl) ?_
  refine lv_isub hx hb dX6_hasCornersOnBothSides_33 ?_
  refine lv_i2l (v := (x12 - x1).toInt64) hx hb dX6_hasCornersOnBothSides_34 rfl ?_
  refine lv_lmul hx hb dX6_hasCornersOnBothSides_35 ?_
  refine zz_nmJ hq (fun y13 hq => ?_)
  refine lv_lstore (lv' := [(11, .long y13), (9, .long y10), (7, .long y8), (5, .long y7), (0, .ref (ad a0)), (1, .int x1), (2, .int x2), (3, .int x3), (4, .int x4)]) hx hb dX6_hasCornersOnBothSides_36 hl (by decide) rfl (fun ls hl => ?_)
  refine lv_lload hx hb dX6_hasCornersOnBothSides_38 (lv_at hl 3 rfl) ?_
  refine lv_aload_n hx hb dX6_hasCornersOnBothSides_40 rfl (lv_at hl 4 rfl) ?_
  refine zz_get S hT hB (C := RX6) (ref := "DiagramDesk$Shape") (F := TX6) (N := 8) (index := 22) 6 3 iwX6 rfl (by decide) (by decide) rfl rfl (wS wd_7) (fun _ h9 => h9) dX6_hasCornersOnBothSides_41 hq (fun x14 hq => ?_)
  refine lv_iload_n hx hb dX6_hasCornersOnBothSides_44 rfl (lv_at hl 6 rfl) ?_
  refine lv_isub hx hb dX6_hasCornersOnBothSides_45 ?_
  refine lv_i2l (v := (x14 - x2).toInt64) hx hb dX6_hasCornersOnBothSides_46 rfl ?_
  refine lv_lmul hx hb dX6_hasCornersOnBothSides_47 ?_
  refine zz_nmJ hq (fun y15 hq => ?_)
  refine lv_lstore (lv' := [(13, .long y15), (11, .long y13), (9, .long y10), (7, .long y8), (5, .long y7), (0, .ref (ad a0)), (1, .int x1), (2, .int x2), (3, .int x3), (4, .int x4)]) hx hb dX6_hasCornersOnBothSides_48 hl (by decide) rfl (fun ls hl => ?_)
  refine lv_lload hx hb dX6_hasCornersOnBothSides_50 (lv_at hl 4 rfl) ?_
  refine lv_aload_n hx hb dX6_hasCornersOnBothSides_52 rfl (lv_at hl 5 rfl) ?_
  refine lv_iconst (v := 1) hx hb dX6_hasCornersOnBothSides_53 (by decide) ?_
  refine zz_callVi S hT hB (As := [.int (1 : Int32)]) (b := a0) (o := f_X6_end T N s11 a0 (1 : Int32)) (c_X6_end l D cy T hT ad N s11 _ a0 (1 : Int32)) (cwV 1 hts (gV wSub wd_24 wd_25 wd_26 wd_14 wd_27) rfl rfl rfl (by decide +kernel) ⟨Nat.le_of_ble_eq_true rfl, Nat.le_of_ble_eq_true rfl⟩) (F := TX6) (NF := 8) 6 rfl (by decide) (k_X6_end T N s11 a0 (1 : Int32)) rfl hl.1 rfl (Nat.le_of_ble_eq_true rfl) dX6_hasCornersOnBothSides_54 hq (fun x17 s16 H locs hq hB => ?_)
  refine lv_iload_n hx hb dX6_hasCornersOnBothSides_57 rfl (lv_at hl 7 rfl) ?_
  refine lv_isub hx hb dX6_hasCornersOnBothSides_58 ?_
  refine lv_i2l (v := (x17 - x2).toInt64) hx hb dX6_hasCornersOnBothSides_59 rfl ?_
  refine lv_lmul hx hb dX6_hasCornersOnBothSides_60 ?_
  refine zz_nmJ hq (fun y18 hq => ?_)
  refine lv_lstore (lv' := [(15, .long y18), (13, .long y15), (11, .long y13), (9, .long y10), (7, .long y8), (5, .long y7), (0, .ref (ad a0)), (1, .int x1), (2, .int x2), (3, .int x3), (4, .int x4)]) hx hb dX6_hasCornersOnBothSides_61 hl (by decide) rfl (fun ls hl => ?_)
  refine lv_lload hx hb dX6_hasCornersOnBothSides_63 (lv_at hl 1 rfl) ?_
  refine lv_lload hx hb dX6_hasCornersOnBothSides_65 (lv_at hl 0 rfl) ?_
  refine zz_minl S hl.1 (wS wd_56) (wS wd_57) (wS wd_54) (wS wd_58) (Nat.le_of_ble_eq_true rfl) (Nat.le_of_ble_eq_true rfl) dX6_hasCornersOnBothSides_67 ?_
  refine zz_nmJ hq (fun y19 hq => ?_)
  refine lv_lload hx hb dX6_hasCornersOnBothSides_70 (lv_at hl 3 rfl) ?_
  refine lv_lload hx hb dX6_hasCornersOnBothSides_72 (lv_at hl 2 rfl) ?_
  refine zz_maxl S hl.1 (wS wd_59) (wS wd_60) (wS wd_54) (wS wd_61) (Nat.le_of_ble_eq_true rfl) (Nat.le_of_ble_eq_true rfl) dX6_hasCornersOnBothSides_74 ?_
  refine zz_nmJ hq (fun y20 hq => ?_)
  refine lv_lsub hx hb dX6_hasCornersOnBothSides_77 ?_
  refine zz_nmJ hq (fun y21 hq => ?_)
  refine lv_lstore (lv' := [(17, .long y21), (15, .long y18), (13, .long y15), (11, .long y13), (9, .long y10), (7, .long y8), (5, .long y7), (0, .ref (ad a0)), (1, .int x1), (2, .int x2), (3, .int x3), (4, .int x4)]) hx hb dX6_hasCornersOnBothSides_78 hl (by decide) rfl (fun ls hl => ?_)
  refine lv_lload hx hb dX6_hasCornersOnBothSides_80 (lv_at hl 2 rfl) ?_
  refine lv_lload hx hb dX6_hasCornersOnBothSides_82 (lv_at hl 1 rfl) ?_
  refine zz_maxl S hl.1 (wS wd_59) (wS wd_60) (wS wd_54) (wS wd_61) (Nat.le_of_ble_eq_true rfl) (Nat.le_of_ble_eq_true rfl) dX6_hasCornersOnBothSides_84 ?_
  refine zz_nmJ hq (fun y22 hq => ?_)
  refine lv_lload hx hb dX6_hasCornersOnBothSides_87 (lv_at hl 4 rfl) ?_
  refine lv_lload hx hb dX6_hasCornersOnBothSides_89 (lv_at hl 3 rfl) ?_
  refine zz_minl S hl.1 (wS wd_56) (wS wd_57) (wS wd_54) (wS wd_58) (Nat.le_of_ble_eq_true rfl) (Nat.le_of_ble_eq_true rfl) dX6_hasCornersOnBothSides_91 ?_
  refine zz_nmJ hq (fun y23 hq => ?_)
  refine lv_lsub hx hb dX6_hasCornersOnBothSides_94 ?_
  refine zz_nmJ hq (fun y24 hq => ?_)
  refine lv_lstore (lv' := [(19, .long y24), (17, .long y21), (15, .long y18), (13, .long y15), (11, .long y13), (9, .long y10), (7, .long y8), (5, .long y7), (0, .ref (ad a0)), (1, .int x1), (2, .int x2), (3, .int x3), (4, .int x4)]) hx hb dX6_hasCornersOnBothSides_95 hl (by decide) rfl (fun ls hl => ?_)
  refine lv_lload hx hb dX6_hasCornersOnBothSides_97 (lv_at hl 1 rfl) ?_
  refine lv_lconst (v := 0) hx hb dX6_hasCornersOnBothSides_99 (by decide) ?_
  refine W.lcmp hx hb dX6_hasCornersOnBothSides_100 ?_
  refine zz_if_ge (tgt := 115) hx hb dX6_hasCornersOnBothSides_101 (by decide) hq (fun hq => ?_) (fun hq => ?_)
  · refine lv_iconst (v := 0) hx hb dX6_hasCornersOnBothSides_115 (by decide) ?_
    exact zz_zret S hB hr hlocks dX6_hasCornersOnBothSides_116 hq
  · refine lv_lload hx hb dX6_hasCornersOnBothSides_104 (lv_at hl 0 rfl) ?_
    refine lv_lconst (v := 0) hx hb dX6_hasCornersOnBothSides_106 (by decide) ?_
    refine W.lcmp hx hb dX6_hasCornersOnBothSides_107 ?_
    refine zz_if_le (tgt := 115) hx hb dX6_hasCornersOnBothSides_108 (by decide) hq (fun hq => ?_) (fun hq => ?_)
    · refine lv_iconst (v := 0) hx hb dX6_hasCornersOnBothSides_115 (by decide) ?_
      exact zz_zret S hB hr hlocks dX6_hasCornersOnBothSides_116 hq
    · refine lv_iconst (v := 1) hx hb dX6_hasCornersOnBothSides_111 (by decide) ?_
      refine lv_goto (tgt := 116) hx hb dX6_hasCornersOnBothSides_112 (by decide) ?_
      exact zz_zret S hB hr hlocks dX6_hasCornersOnBothSides_116 hq
def f_X6_isCrossed (T : zT) (N : Nat) (s0 : zS) (a0 : Nat) (x1 : Int32) (x2 : Int32) (x3 : Int32) (x4 : Int32) : Option (Int32 × zS) :=
  zz1 (T.1 a0 = 6) <|
  zn (if x1 < x3 then x3 else x1) fun x7 =>
  (gI T s0 a0 6 2).bind fun x8 =>
  if x7 ≤ x8 then (
    rZ (0 : Int32) s0)
  else (
    zn (if x3 < x1 then x3 else x1) fun x9 =>
    zb2 (f_X6_end T N s0 a0 (0 : Int32)) fun x11 s10 =>
    if x9 < x11 then (
      zn (if x2 < x4 then x4 else x2) fun x12 =>
      (gI T s10 a0 6 3).bind fun x13 =>
      if x12 ≤ x13 then (
        rZ (0 : Int32) s10)
      else (
        zn (if x4 < x2 then x4 else x2) fun x14 =>
        zb2 (f_X6_end T N s10 a0 (1 : Int32)) fun x16 s15 =>
        if x14 < x16 then (
          if x1 = x3 then (
            rZ (1 : Int32) s15)
          else (
            if x2 = x4 then (
              rZ (1 : Int32) s15)
            else (
              zb2 (f_X6_hasCornersOnBothSides T N s15 a0 x1 x2 x3 x4) fun x18 s17 =>
              if x18 = 0 then (
                rZ (0 : Int32) s17)
              else (
                rZ (1 : Int32) s17))))
        else (
          rZ (0 : Int32) s15)))
    else (
      rZ (0 : Int32) s10))
theorem k_X6_isCrossed (T : zT) (N : Nat) (s0 : zS) (a0 : Nat) (x1 : Int32) (x2 : Int32) (x3 : Int32) (x4 : Int32) : ∀ q, f_X6_isCrossed T N s0 a0 x1 x2 x3 x4 = some q → T.1 a0 = 6 := by
  intro q h
  unfold f_X6_isCrossed at h
  exact zz_guard h (fun h _ => h)
set_option maxHeartbeats 4000000 in
set_option maxRecDepth 100000 in
theorem c_X6_isCrossed (l : Launch) (D : va_G) (cy : Nat → ClassId) (T : zT) (hT : zok T) (ad : Nat → Nat) (N : Nat) (s0 : zS) (sz : Nat) (a0 : Nat) (x1 : Int32) (x2 : Int32) (x3 : Int32) (x4 : Int32) : ∀ (r0 : Int32) (σ0 : zS), f_X6_isCrossed T N s0 a0 x1 x2 x3 x4 = some (r0, σ0) → Met l yX6_isCrossed wsX6_isCrossed ({ frames := 3, cells := 0, slots := 0, locals := 82 }) (va_Pc [.ref (ad a0), .int x1, .int x2, .int x3, .int x4] (zPre D cy T ad s0 sz)) (va_Qi (fun (r2 : Int32) (σ2 : zS) => r2 = r0 ∧ σ2 = σ0) (zAt D cy T ad (zA T ad sz)) (zA T ad sz)) 0 0 (zA T ad sz) := by
  intro r0 σ0 hq
  refine Met.ofW (cc := cX6_isCrossed) (maxL := 5) (ret := (some .boolean)) (by decide) rfl ?_
  intro p e s m args below meth c s₁ B hml hv
  obtain ⟨hargs, hsz, hP, hK, hD0, hN⟩ := hv
  have hx := B.exec
  have hb := B.bytes
  have hr := B.returns
  have hts := atoms_spec (ws := wsX6_isCrossed) B.pre
  have hown : s.vm.findClass RX6 = some m.cls := findClass_of_methodNamed B.named
  have hlocks := B.notSynchronized
  have S : CallFix p m c cX6_isCrossed 5 s args wsX6_isCrossed RX6 := ⟨hx, hb, hml, hown, hts⟩
  subst hsz
  have hB : zB D cy T ad (zA T ad s.heap.size) s.heap s0 s.heap [] s := zz_entry hP hK hD0 hN
  obtain ⟨ls, hent, hl⟩ := zz_ent m hargs (n := 5) (Nat.le_of_ble_eq_true rfl)
  rw [hent]
  have hl : lv_has ls 5 [(0, .ref (ad a0)), (1, .int x1), (2, .int x2), (3, .int x3), (4, .int x4)] := hl
  have iwX6 : ∀ w ∈ u_ws RX6 TX6 8, w ∈ wsX6_isCrossed := fun w h => wS (inWX6 w h)
  unfold f_X6_isCrossed at hq
  refine zz_guard hq (fun hk0 hq => ?_)
  refine lv_iload_n hx hb dX6_isCrossed_0 rfl (lv_at hl 1 rfl) ?_
  refine lv_iload_n hx hb dX6_isCrossed_1 rfl (lv_at hl 3 rfl) ?_
  refine zz_max S hl.1 (wS wd_62) (wS wd_63) (wS wd_54) (wS wd_64) (Nat.le_of_ble_eq_true rfl) (Nat.le_of_ble_eq_true rfl) dX6_isCrossed_2 ?_
  refine zz_nmI hq (fun x7 hq => ?_)
  refine lv_aload_n hx hb dX6_isCrossed_5 rfl (lv_at hl 0 rfl) ?_
  refine zz_get S hT hB (C := RX6) (ref := "DiagramDesk$Shape") (F := TX6) (N := 8) (index := 19) 6 2 iwX6 rfl (by decide) (by decide) rfl rfl (wS wd_8) (fun _ h9 => h9) dX6_isCrossed_6 hq (fun x8 hq => ?_)
  refine zz_icmp_le (tgt := 25) hx hb dX6_isCrossed_9 (by decide) hq (fun hq => ?_) (fun hq => ?_)
  · refine lv_iconst (v := 0) hx hb dX6_isCrossed_25 (by decide) ?_
    exact zz_zret S hB hr hlocks dX6_isCrossed_26 hq
  · refine lv_iload_n hx hb dX6_isCrossed_12 rfl (lv_at hl 1 rfl) ?_
    refine lv_iload_n hx hb dX6_isCrossed_13 rfl (lv_at hl 3 rfl) ?_
    refine zz_min S hl.1 (wS wd_65) (wS wd_66) (wS wd_54) (wS wd_67) (Nat.le_of_ble_eq_true rfl) (Nat.le_of_ble_eq_true rfl) dX6_isCrossed_14 ?_
    refine zz_nmI hq (fun x9 hq => ?_)
    refine lv_aload_n hx hb dX6_isCrossed_17 rfl (lv_at hl 0 rfl) ?_
    refine lv_iconst (v := 0) hx hb dX6_isCrossed_18 (by decide) ?_
    refine zz_callVi S hT hB (As := [.int (0 : Int32)]) (b := a0) (o := f_X6_end T N s0 a0 (0 : Int32)) (c_X6_end l D cy T hT ad N s0 _ a0 (0 : Int32)) (cwV 1 hts (gV wSub wd_24 wd_25 wd_26 wd_14 wd_27) rfl rfl rfl (by decide +kernel) ⟨Nat.le_of_ble_eq_true rfl, Nat.le_of_ble_eq_true rfl⟩) (F := TX6) (NF := 8) 6 rfl (by decide) (k_X6_end T N s0 a0 (0 : Int32)) rfl hl.1 rfl (Nat.le_of_ble_eq_true rfl) dX6_isCrossed_19 hq (fun x11 s10 H locs hq hB => ?_)
    refine zz_icmp_lt (tgt := 27) hx hb dX6_isCrossed_22 (by decide) hq (fun hq => ?_) (fun hq => ?_)
    · refine lv_iload_n hx hb dX6_isCrossed_27 rfl (lv_at hl 2 rfl) ?_
      refine lv_iload hx hb dX6_isCrossed_28 (lv_at hl 4 rfl) ?_
      refine zz_max S hl.1 (wS wd_62) (wS wd_63) (wS wd_54) (wS wd_64) (Nat.le_of_ble_eq_true rfl) (Nat.le_of_ble_eq_true rfl) dX6_isCrossed_30 ?_
      refine zz_nmI hq (fun x12 hq => ?_)
      refine lv_aload_n hx hb dX6_isCrossed_33 rfl (lv_at hl 0 rfl) ?_
      refine zz_get S hT hB (C := RX6) (ref := "DiagramDesk$Shape") (F := TX6) (N := 8) (index := 22) 6 3 iwX6 rfl (by decide) (by decide) rfl rfl (wS wd_7) (fun _ h9 => h9) dX6_isCrossed_34 hq (fun x13 hq => ?_)
      refine zz_icmp_le (tgt := 54) hx hb dX6_isCrossed_37 (by decide) hq (fun hq => ?_) (fun hq => ?_)
      · refine lv_iconst (v := 0) hx hb dX6_isCrossed_54 (by decide) ?_
        exact zz_zret S hB hr hlocks dX6_isCrossed_55 hq
      · refine lv_iload_n hx hb dX6_isCrossed_40 rfl (lv_at hl 2 rfl) ?_
        refine lv_iload hx hb dX6_isCrossed_41 (lv_at hl 4 rfl) ?_
        refine zz_min S hl.1 (wS wd_65) (wS wd_66) (wS wd_54) (wS wd_67) (Nat.le_of_ble_eq_true rfl) (Nat.le_of_ble_eq_true rfl) dX6_isCrossed_43 ?_
        refine zz_nmI hq (fun x14 hq => ?_)
        refine lv_aload_n hx hb dX6_isCrossed_46 rfl (lv_at hl 0 rfl) ?_
        refine lv_iconst (v := 1) hx hb dX6_isCrossed_47 (by decide) ?_
        refine zz_callVi S hT hB (As := [.int (1 : Int32)]) (b := a0) (o := f_X6_end T N s10 a0 (1 : Int32)) (c_X6_end l D cy T hT ad N s10 _ a0 (1 : Int32)) (cwV 1 hts (gV wSub wd_24 wd_25 wd_26 wd_14 wd_27) rfl rfl rfl (by decide +kernel) ⟨Nat.le_of_ble_eq_true rfl, Nat.le_of_ble_eq_true rfl⟩) (F := TX6) (NF := 8) 6 rfl (by decide) (k_X6_end T N s10 a0 (1 : Int32)) rfl hl.1 rfl (Nat.le_of_ble_eq_true rfl) dX6_isCrossed_48 hq (fun x16 s15 H locs hq hB => ?_)
        refine zz_icmp_lt (tgt := 56) hx hb dX6_isCrossed_51 (by decide) hq (fun hq => ?_) (fun hq => ?_)
        · refine lv_iload_n hx hb dX6_isCrossed_56 rfl (lv_at hl 1 rfl) ?_
          refine lv_iload_n hx hb dX6_isCrossed_57 rfl (lv_at hl 3 rfl) ?_
          refine zz_icmp_eq (tgt := 79) hx hb dX6_isCrossed_58 (by decide) hq (fun hq => ?_) (fun hq => ?_)
          · refine lv_iconst (v := 1) hx hb dX6_isCrossed_79 (by decide) ?_
            refine lv_goto (tgt := 84) hx hb dX6_isCrossed_80 (by decide) ?_
            exact zz_zret S hB hr hlocks dX6_isCrossed_84 hq
          · refine lv_iload_n hx hb dX6_isCrossed_61 rfl (lv_at hl 2 rfl) ?_
            refine lv_iload hx hb dX6_isCrossed_62 (lv_at hl 4 rfl) ?_
            refine zz_icmp_eq (tgt := 79) hx hb dX6_isCrossed_64 (by decide) hq (fun hq => ?_) (fun hq => ?_)
            · refine lv_iconst (v := 1) hx hb dX6_isCrossed_79 (by decide) ?_
              refine lv_goto (tgt := 84) hx hb dX6_isCrossed_80 (by decide) ?_
              exact zz_zret S hB hr hlocks dX6_isCrossed_84 hq
            · refine lv_aload_n hx hb dX6_isCrossed_67 rfl (lv_at hl 0 rfl) ?_
              refine lv_iload_n hx hb dX6_isCrossed_68 rfl (lv_at hl 1 rfl) ?_
              refine lv_iload_n hx hb dX6_isCrossed_69 rfl (lv_at hl 2 rfl) ?_
              refine lv_iload_n hx hb dX6_isCrossed_70 rfl (lv_at hl 3 rfl) ?_
              refine lv_iload hx hb dX6_isCrossed_71 (lv_at hl 4 rfl) ?_
              refine zz_callVi S hT hB (As := [.int x1, .int x2, .int x3, .int x4]) (b := a0) (o := f_X6_hasCornersOnBothSides T N s15 a0 x1 x2 x3 x4) (c_X6_hasCornersOnBothSides l D cy T hT ad N s15 _ a0 x1 x2 x3 x4) (cwV 4 hts (gV wSub wd_68 wd_69 wd_70 wd_14 wd_71) rfl rfl rfl (by decide +kernel) ⟨Nat.le_of_ble_eq_true rfl, Nat.le_of_ble_eq_true rfl⟩) (F := TX6) (NF := 8) 6 rfl (by decide) (k_X6_hasCornersOnBothSides T N s15 a0 x1 x2 x3 x4) rfl hl.1 rfl (Nat.le_of_ble_eq_true rfl) dX6_isCrossed_73 hq (fun x18 s17 H locs hq hB => ?_)
              refine zz_if_eq (tgt := 83) hx hb dX6_isCrossed_76 (by decide) hq (fun hq => ?_) (fun hq => ?_)
              · refine lv_iconst (v := 0) hx hb dX6_isCrossed_83 (by decide) ?_
                exact zz_zret S hB hr hlocks dX6_isCrossed_84 hq
              · refine lv_iconst (v := 1) hx hb dX6_isCrossed_79 (by decide) ?_
                refine lv_goto (tgt := 84) hx hb dX6_isCrossed_80 (by decide) ?_
                exact zz_zret S hB hr hlocks dX6_isCrossed_84 hq
        · refine lv_iconst (v := 0) hx hb dX6_isCrossed_54 (by decide) ?_
          exact zz_zret S hB hr hlocks dX6_isCrossed_55 hq
    · refine lv_iconst (v := 0) hx hb dX6_isCrossed_25 (by decide) ?_
      exact zz_zret S hB hr hlocks dX6_isCrossed_26 hq
def f_X0_crossed_L55 (T : zT) (N : Nat) (a0 : Nat) (a1 : Nat) (x5 : Int32) (k4 : Int32 → Int32 → zS → Option (Int32 × zS)) (x10 : Int32) (x12 : Int32) (x14 : Int32) (x16 : Int32) (k55 : Int32 → Int32 → zS → Option (Int32 × zS)) (x17 : Int32) (x18 : Int32) (s19 : zS) : Option (Int32 × zS) :=
  if (20 : Int32) ≤ x18 then (
    zn (x5 + (1 : Int32)) fun x20 =>
    k4 x17 x20 s19)
  else (
    zb2 (f_X7_find T N s19 a1 x18) fun o22 s21 => zo o22 (
      zn (x18 + (1 : Int32)) fun x24 =>
      k55 x17 x24 s21)
    fun a23 => (
      zb2 (f_X0_isAt T N s21 a0 x18) fun x26 s25 =>
      if ¬ x26 = 0 then (
        zn (x18 + (1 : Int32)) fun x27 =>
        k55 x17 x27 s25)
      else (
        zb2 (f_X6_isCrossed T N s25 a23 x10 x12 x14 x16) fun x29 s28 =>
        if x29 = 0 then (
          zn (x18 + (1 : Int32)) fun x30 =>
          k55 x17 x30 s28)
        else (
          zn (x17 ||| ((1 : Int32) <<< (x18 &&& 31))) fun x31 =>
          zn (x18 + (1 : Int32)) fun x32 =>
          k55 x31 x32 s28))))
def f_X0_crossed_L4 (T : zT) (N : Nat) (a0 : Nat) (a1 : Nat) (k4 : Int32 → Int32 → zS → Option (Int32 × zS)) (x4 : Int32) (x5 : Int32) (s6 : zS) : Option (Int32 × zS) :=
  zb2 (f_X0_lastPoint T N s6 a0) fun x8 s7 =>
  if x8 ≤ x5 then (
    some (x4, s7))
  else (
    zb2 (f_X0_place T N s7 a0 a1 x5 (0 : Int32)) fun x10 s9 =>
    zb2 (f_X0_place T N s9 a0 a1 x5 (1 : Int32)) fun x12 s11 =>
    zb2 (f_X0_place T N s11 a0 a1 (x5 + (1 : Int32)) (0 : Int32)) fun x14 s13 =>
    zb2 (f_X0_place T N s13 a0 a1 (x5 + (1 : Int32)) (1 : Int32)) fun x16 s15 =>
    zl3 (f_X0_crossed_L55 T N a0 a1 x5 k4 x10 x12 x14 x16) N x4 (0 : Int32) s15)
def f_X0_crossed (T : zT) (N : Nat) (s0 : zS) (a0 : Nat) (a1 : Nat) : Option (Int32 × zS) :=
  zz1 (T.1 a0 = 0) <|
  zl3 (f_X0_crossed_L4 T N a0 a1) N (0 : Int32) (0 : Int32) s0
theorem k_X0_crossed (T : zT) (N : Nat) (s0 : zS) (a0 : Nat) (a1 : Nat) : ∀ q, f_X0_crossed T N s0 a0 a1 = some q → T.1 a0 = 0 := by
  intro q h
  unfold f_X0_crossed at h
  exact zz_guard h (fun h _ => h)
set_option maxHeartbeats 4000000 in
set_option maxRecDepth 100000 in
theorem c_X0_crossed (l : Launch) (D : va_G) (cy : Nat → ClassId) (T : zT) (hT : zok T) (ad : Nat → Nat) (N : Nat) (s0 : zS) (sz : Nat) (a0 : Nat) (a1 : Nat) : ∀ (r0 : Int32) (σ0 : zS), f_X0_crossed T N s0 a0 a1 = some (r0, σ0) → Met l yX0_crossed wsX0_crossed ({ frames := 4, cells := 0, slots := 0, locals := 106 }) (va_Pc [.ref (ad a0), .ref (ad a1)] (zPre D cy T ad s0 sz)) (va_Qi (fun (r2 : Int32) (σ2 : zS) => r2 = r0 ∧ σ2 = σ0) (zAt D cy T ad (zA T ad sz)) (zA T ad sz)) 0 0 (zA T ad sz) := by
  intro r0 σ0 hq
  refine Met.ofW (cc := cX0_crossed) (maxL := 10) (ret := (some .int)) (by decide) rfl ?_
  intro p e s m args below meth c s₁ B hml hv
  obtain ⟨hargs, hsz, hP, hK, hD0, hN⟩ := hv
  have hx := B.exec
  have hb := B.bytes
  have hr := B.returns
  have hts := atoms_spec (ws := wsX0_crossed) B.pre
  have hown : s.vm.findClass RX0 = some m.cls := findClass_of_methodNamed B.named
  have hlocks := B.notSynchronized
  have S : CallFix p m c cX0_crossed 10 s args wsX0_crossed RX0 := ⟨hx, hb, hml, hown, hts⟩
  subst hsz
  have hB : zB D cy T ad (zA T ad s.heap.size) s.heap s0 s.heap [] s := zz_entry hP hK hD0 hN
  obtain ⟨ls, hent, hl⟩ := zz_ent m hargs (n := 10) (Nat.le_of_ble_eq_true rfl)
  rw [hent]
  have hl : lv_has ls 10 [(0, .ref (ad a0)), (1, .ref (ad a1))] := hl
  unfold f_X0_crossed at hq
  refine zz_guard hq (fun hk0 hq => ?_)
  refine lv_iconst (v := 0) hx hb dX0_crossed_0 (by decide) ?_
  refine lv_istore_n (lv' := [(2, .int (0 : Int32)), (0, .ref (ad a0)), (1, .ref (ad a1))]) hx hb dX0_crossed_1 rfl hl (by decide) rfl (fun ls hl => ?_)
  refine lv_iconst (v := 0) hx hb dX0_crossed_2 (by decide) ?_
  refine lv_istore_n (lv' := [(3, .int (0 : Int32)), (2, .int (0 : Int32)), (0, .ref (ad a0)), (1, .ref (ad a1))]) hx hb dX0_crossed_3 rfl hl (by decide) rfl (fun ls hl => ?_)
  have L4 : ∀ (n : Nat) (x4 : Int32) (x5 : Int32) (s6 : zS) (H : Heap) (locs : List Loc) (ls : Array Slot), zl3 (f_X0_crossed_L4 T N a0 a1) n x4 x5 s6 = some (r0, σ0) → zB D cy T ad (zA T ad s.heap.size) s.heap s6 H locs s → lv_has ls 10 [(0, .ref (ad a0)), (1, .ref (ad a1)), (2, .int x4), (3, .int x5)] → W p l e (headSpec wsX0_crossed ({ frames := 4, cells := 0, slots := 0, locals := 106 } : Room)).room s m args below meth c H locs 0 0 (MQ below (va_Qi (fun (r2 : Int32) (σ2 : zS) => r2 = r0 ∧ σ2 = σ0) (zAt D cy T ad (zA T ad s.heap.size)) (zA T ad s.heap.size)) args s 0 0 (zA T ad s.heap.size)) (F0 m 4 ls []) := by
    intro n
    induction n with
    | zero => intro x4 x5 s6 H locs ls hq; exact zz_none hq
    | succ n ih4 =>
      intro x4 x5 s6 H locs ls hq hB hl
      rw [zl3] at hq
      generalize zl3 (f_X0_crossed_L4 T N a0 a1) n = k4 at ih4 hq
      unfold f_X0_crossed_L4 at hq
      refine lv_iload_n hx hb dX0_crossed_4 rfl (lv_at hl 3 rfl) ?_
      refine lv_aload_n hx hb dX0_crossed_5 rfl (lv_at hl 0 rfl) ?_
      refine zz_callVi S hT hB (As := []) (b := a0) (o := f_X0_lastPoint T N s6 a0) (c_X0_lastPoint l D cy T hT ad N s6 _ a0) (cwV 0 hts (gV wSub wd_42 wd_43 wd_44 wd_45 wd_46) rfl rfl rfl (by decide +kernel) ⟨Nat.le_of_ble_eq_true rfl, Nat.le_of_ble_eq_true rfl⟩) (F := TX0) (NF := 5) 0 rfl (by decide) (k_X0_lastPoint T N s6 a0) rfl hl.1 rfl (Nat.le_of_ble_eq_true rfl) dX0_crossed_6 hq (fun x8 s7 H locs hq hB => ?_)
      refine zz_icmp_ge (tgt := 119) hx hb dX0_crossed_9 (by decide) hq (fun hq => ?_) (fun hq => ?_)
      · refine lv_iload_n hx hb dX0_crossed_119 rfl (lv_at hl 2 rfl) ?_
        exact zz_iret S hB hr hlocks dX0_crossed_120 hq
      · refine lv_aload_n hx hb dX0_crossed_12 rfl (lv_at hl 0 rfl) ?_
        refine lv_aload_n hx hb dX0_crossed_13 rfl (lv_at hl 1 rfl) ?_
        refine lv_iload_n hx hb dX0_crossed_14 rfl (lv_at hl 3 rfl) ?_
        refine lv_iconst (v := 0) hx hb dX0_crossed_15 (by decide) ?_
        refine zz_callVi S hT hB (As := [.ref (ad a1), .int x5, .int (0 : Int32)]) (b := a0) (o := f_X0_place T N s7 a0 a1 x5 (0 : Int32)) (c_X0_place l D cy T hT ad N s7 _ a0 a1 x5 (0 : Int32)) (cwV 3 hts (gV wSub wd_48 wd_49 wd_50 wd_45 wd_51) rfl rfl rfl (by decide +kernel) ⟨Nat.le_of_ble_eq_true rfl, Nat.le_of_ble_eq_true rfl⟩) (F := TX0) (NF := 5) 0 rfl (by decide) (k_X0_place T N s7 a0 a1 x5 (0 : Int32)) rfl hl.1 rfl (Nat.le_of_ble_eq_true rfl) dX0_crossed_16 hq (fun x10 s9 H locs hq hB => ?_)
        refine lv_istore (lv' := [(4, .int x10), (0, .ref (ad a0)), (1, .ref (ad a1)), (2, .int x4), (3, .int x5)]) hx hb dX0_crossed_19 hl (by decide) rfl (fun ls hl => ?_)
        refine lv_aload_n hx hb dX0_crossed_21 rfl (lv_at hl 1 rfl) ?_
        refine lv_aload_n hx hb dX0_crossed_22 rfl (lv_at hl 2 rfl) ?_
        refine lv_iload_n hx hb dX0_crossed_23 rfl (lv_at hl 4 rfl) ?_
        refine lv_iconst (v := 1) hx hb dX0_crossed_24 (by decide) ?_
        refine zz_callVi S hT hB (As := [.ref (ad a1), .int x5, .int (1 : Int32)]) (b := a0) (o := f_X0_place T N s9 a0 a1 x5 (1 : Int32)) (c_X0_place l D cy T hT ad N s9 _ a0 a1 x5 (1 : Int32)) (cwV 3 hts (gV wSub wd_48 wd_49 wd_50 wd_45 wd_51) rfl rfl rfl (by decide +kernel) ⟨Nat.le_of_ble_eq_true rfl, Nat.le_of_ble_eq_true rfl⟩) (F := TX0) (NF := 5) 0 rfl (by decide) (k_X0_place T N s9 a0 a1 x5 (1 : Int32)) rfl hl.1 rfl (Nat.le_of_ble_eq_true rfl) dX0_crossed_25 hq (fun x12 s11 H locs hq hB => ?_)
        refine lv_istore (lv' := [(5, .int x12), (4, .int x10), (0, .ref (ad a0)), (1, .ref (ad a1)), (2, .int x4), (3, .int x5)]) hx hb dX0_crossed_28 hl (by decide) rfl (fun ls hl => ?_)
        refine lv_aload_n hx hb dX0_crossed_30 rfl (lv_at hl 2 rfl) ?_
        refine lv_aload_n hx hb dX0_crossed_31 rfl (lv_at hl 3 rfl) ?_
        refine lv_iload_n hx hb dX0_crossed_32 rfl (lv_at hl 5 rfl) ?_
        refine lv_iconst (v := 1) hx hb dX0_crossed_33 (by decide) ?_
        refine lv_iadd hx hb dX0_crossed_34 ?_
        refine lv_iconst (v := 0) hx hb dX0_crossed_35 (by decide) ?_
        refine zz_callVi S hT hB (As := [.ref (ad a1), .int (x5 + (1 : Int32)), .int (0 : Int32)]) (b := a0) (o := f_X0_place T N s11 a0 a1 (x5 + (1 : Int32)) (0 : Int32)) (c_X0_place l D cy T hT ad N s11 _ a0 a1 (x5 + (1 : Int32)) (0 : Int32)) (cwV 3 hts (gV wSub wd_48 wd_49 wd_50 wd_45 wd_51) rfl rfl rfl (by decide +kernel) ⟨Nat.le_of_ble_eq_true rfl, Nat.le_of_ble_eq_true rfl⟩) (F := TX0) (NF := 5) 0 rfl (by decide) (k_X0_place T N s11 a0 a1 (x5 + (1 : Int32)) (0 : Int32)) rfl hl.1 rfl (Nat.le_of_ble_eq_true rfl) dX0_crossed_36 hq (fun x14 s13 H locs hq hB => ?_)
        refine lv_istore (lv' := [(6, .int x14), (5, .int x12), (4, .int x10), (0, .ref (ad a0)), (1, .ref (ad a1)), (2, .int x4), (3, .int x5)]) hx hb dX0_crossed_39 hl (by decide) rfl (fun ls hl => ?_)
        refine lv_aload_n hx hb dX0_crossed_41 rfl (lv_at hl 3 rfl) ?_
        refine lv_aload_n hx hb dX0_crossed_42 rfl (lv_at hl 4 rfl) ?_
        refine lv_iload_n hx hb dX0_crossed_43 rfl (lv_at hl 6 rfl) ?_
        refine lv_iconst (v := 1) hx hb dX0_crossed_44 (by decide) ?_
        refine lv_iadd hx hb dX0_crossed_45 ?_
        refine lv_iconst (v := 1) hx hb dX0_crossed_46 (by decide) ?_
        refine zz_callVi S hT hB (As := [.ref (ad a1), .int (x5 + (1 : Int32)), .int (1 : Int32)]) (b := a0) (o := f_X0_place T N s13 a0 a1 (x5 + (1 : Int32)) (1 : Int32)) (c_X0_place l D cy T hT ad N s13 _ a0 a1 (x5 + (1 : Int32)) (1 : Int32)) (cwV 3 hts (gV wSub wd_48 wd_49 wd_50 wd_45 wd_51) rfl rfl rfl (by decide +kernel) ⟨Nat.le_of_ble_eq_true rfl, Nat.le_of_ble_eq_true rfl⟩) (F := TX0) (NF := 5) 0 rfl (by decide) (k_X0_place T N s13 a0 a1 (x5 + (1 : Int32)) (1 : Int32)) rfl hl.1 rfl (Nat.le_of_ble_eq_true rfl) dX0_crossed_47 hq (fun x16 s15 H locs hq hB => ?_)
        refine lv_istore (lv' := [(7, .int x16), (6, .int x14), (5, .int x12), (4, .int x10), (0, .ref (ad a0)), (1, .ref (ad a1)), (2, .int x4), (3, .int x5)]) hx hb dX0_crossed_50 hl (by decide) rfl (fun ls hl => ?_)
        refine lv_iconst (v := 0) hx hb dX0_crossed_52 (by decide) ?_
        refine lv_istore (lv' := [(8, .int (0 : Int32)), (7, .int x16), (6, .int x14), (5, .int x12), (4, .int x10), (0, .ref (ad a0)), (1, .ref (ad a1)), (2, .int x4), (3, .int x5)]) hx hb dX0_crossed_53 hl (by decide) rfl (fun ls hl => ?_)
        have L55 : ∀ (n : Nat) (x17 : Int32) (x18 : Int32) (s19 : zS) (H : Heap) (locs : List Loc) (ls : Array Slot), zl3 (f_X0_crossed_L55 T N a0 a1 x5 k4 x10 x12 x14 x16) n x17 x18 s19 = some (r0, σ0) → zB D cy T ad (zA T ad s.heap.size) s.heap s19 H locs s → lv_has ls 10 [(0, .ref (ad a0)), (1, .ref (ad a1)), (2, .int x17), (3, .int x5), (4, .int x10), (5, .int x12), (6, .int x14), (7, .int x16), (8, .int x18)] → W p l e (headSpec wsX0_crossed ({ frames := 4, cells := 0, slots := 0, locals := 106 } : Room)).room s m args below meth c H locs 0 0 (MQ below (va_Qi (fun (r2 : Int32) (σ2 : zS) => r2 = r0 ∧ σ2 = σ0) (zAt D cy T ad (zA T ad s.heap.size)) (zA T ad s.heap.size)) args s 0 0 (zA T ad s.heap.size)) (F0 m 55 ls []) := by
          intro n
          induction n with
          | zero => intro x17 x18 s19 H locs ls hq; exact zz_none hq
          | succ n ih55 =>
            intro x17 x18 s19 H locs ls hq hB hl
            rw [zl3] at hq
            generalize zl3 (f_X0_crossed_L55 T N a0 a1 x5 k4 x10 x12 x14 x16) n = k55 at ih55 hq
            unfold f_X0_crossed_L55 at hq
            refine lv_iload hx hb dX0_crossed_55 (lv_at hl 8 rfl) ?_
            refine lv_bipush (v := 20) hx hb dX0_crossed_57 (by decide) ?_
            refine zz_icmp_ge (tgt := 113) hx hb dX0_crossed_59 (by decide) hq (fun hq => ?_) (fun hq => ?_)
            · refine zz_nmV hq (fun x20 ex20 hq => ?_)
              refine lv_iinc (v := x20) (lv' := [(3, .int x20), (0, .ref (ad a0)), (1, .ref (ad a1)), (2, .int x17), (4, .int x10), (5, .int x12), (6, .int x14), (7, .int x16), (8, .int x18)]) hx hb dX0_crossed_113 hl (k := 3) rfl (by rw [ex20]; rfl) (by decide) rfl (fun ls hl => ?_)
              refine lv_goto (tgt := 4) hx hb dX0_crossed_116 (by decide) ?_
              exact ih4 x17 x20 s19 _ _ _ hq hB (lv_sub hl [1, 2, 3, 0] rfl)
            · refine lv_aload_n hx hb dX0_crossed_62 rfl (lv_at hl 1 rfl) ?_
              refine lv_iload hx hb dX0_crossed_63 (lv_at hl 8 rfl) ?_
              refine zz_callVq S hT hB (As := [.int x18]) (b := a1) (o := f_X7_find T N s19 a1 x18) (c_X7_find l D cy T hT ad N s19 _ a1 x18) (cwV 1 hts (gV wSub wd_32 wd_33 wd_34 wd_35 wd_36) rfl rfl rfl (by decide +kernel) ⟨Nat.le_of_ble_eq_true rfl, Nat.le_of_ble_eq_true rfl⟩) (F := TX7) (NF := 3) 7 rfl (by decide) (k_X7_find T N s19 a1 x18) rfl hl.1 rfl (Nat.le_of_ble_eq_true rfl) dX0_crossed_65 hq (fun s21 H locs hq hB => ?_) (fun a23 s21 H locs hq hB => ?_)
              · refine lv_astoreN (lv' := [(9, .null), (0, .ref (ad a0)), (1, .ref (ad a1)), (2, .int x17), (3, .int x5), (4, .int x10), (5, .int x12), (6, .int x14), (7, .int x16), (8, .int x18)]) hx hb dX0_crossed_68 hl (by decide) rfl (fun ls hl => ?_)
                refine lv_aloadN hx hb dX0_crossed_70 (lv_at hl 0 rfl) ?_
                refine lv_ifnullN (tgt := 107) hx hb dX0_crossed_72 (by decide) ?_
                refine zz_nmV hq (fun x24 ex24 hq => ?_)
                refine lv_iinc (v := x24) (lv' := [(8, .int x24), (9, .null), (0, .ref (ad a0)), (1, .ref (ad a1)), (2, .int x17), (3, .int x5), (4, .int x10), (5, .int x12), (6, .int x14), (7, .int x16)]) hx hb dX0_crossed_107 hl (k := 9) rfl (by rw [ex24]; rfl) (by decide) rfl (fun ls hl => ?_)
                refine lv_goto (tgt := 55) hx hb dX0_crossed_110 (by decide) ?_
                exact ih55 x17 x24 s21 _ _ _ hq hB (lv_sub hl [2, 3, 4, 5, 6, 7, 8, 9, 0] rfl)
              · refine lv_astore (lv' := [(9, .ref (ad a23)), (0, .ref (ad a0)), (1, .ref (ad a1)), (2, .int x17), (3, .int x5), (4, .int x10), (5, .int x12), (6, .int x14), (7, .int x16), (8, .int x18)]) hx hb dX0_crossed_68 hl (by decide) rfl (fun ls hl => ?_)
                refine lv_aload hx hb dX0_crossed_70 (lv_at hl 0 rfl) ?_
                refine lv_ifnull hx hb dX0_crossed_72 ?_
                refine lv_aload_n hx hb dX0_crossed_75 rfl (lv_at hl 1 rfl) ?_
                refine lv_iload hx hb dX0_crossed_76 (lv_at hl 9 rfl) ?_
                refine zz_callVi S hT hB (As := [.int x18]) (b := a0) (o := f_X0_isAt T N s21 a0 x18) (c_X0_isAt l D cy T hT ad N s21 _ a0 x18) (cwV 1 hts (gV wSub wd_72 wd_73 wd_74 wd_45 wd_75) rfl rfl rfl (by decide +kernel) ⟨Nat.le_of_ble_eq_true rfl, Nat.le_of_ble_eq_true rfl⟩) (F := TX0) (NF := 5) 0 rfl (by decide) (k_X0_isAt T N s21 a0 x18) rfl hl.1 rfl (Nat.le_of_ble_eq_true rfl) dX0_crossed_78 hq (fun x26 s25 H locs hq hB => ?_)
                refine zz_if_ne (tgt := 107) hx hb dX0_crossed_81 (by decide) hq (fun hq => ?_) (fun hq => ?_)
                · refine zz_nmV hq (fun x27 ex27 hq => ?_)
                  refine lv_iinc (v := x27) (lv' := [(8, .int x27), (9, .ref (ad a23)), (0, .ref (ad a0)), (1, .ref (ad a1)), (2, .int x17), (3, .int x5), (4, .int x10), (5, .int x12), (6, .int x14), (7, .int x16)]) hx hb dX0_crossed_107 hl (k := 9) rfl (by rw [ex27]; rfl) (by decide) rfl (fun ls hl => ?_)
                  refine lv_goto (tgt := 55) hx hb dX0_crossed_110 (by decide) ?_
                  exact ih55 x17 x27 s25 _ _ _ hq hB (lv_sub hl [2, 3, 4, 5, 6, 7, 8, 9, 0] rfl)
                · refine lv_aload hx hb dX0_crossed_84 (lv_at hl 0 rfl) ?_
                  refine lv_iload hx hb dX0_crossed_86 (lv_at hl 5 rfl) ?_
                  refine lv_iload hx hb dX0_crossed_88 (lv_at hl 6 rfl) ?_
                  refine lv_iload hx hb dX0_crossed_90 (lv_at hl 7 rfl) ?_
                  refine lv_iload hx hb dX0_crossed_92 (lv_at hl 8 rfl) ?_
                  refine zz_callVi S hT hB (As := [.int x10, .int x12, .int x14, .int x16]) (b := a23) (o := f_X6_isCrossed T N s25 a23 x10 x12 x14 x16) (c_X6_isCrossed l D cy T hT ad N s25 _ a23 x10 x12 x14 x16) (cwV 4 hts (gV wSub wd_76 wd_77 wd_78 wd_14 wd_79) rfl rfl rfl (by decide +kernel) ⟨Nat.le_of_ble_eq_true rfl, Nat.le_of_ble_eq_true rfl⟩) (F := TX6) (NF := 8) 6 rfl (by decide) (k_X6_isCrossed T N s25 a23 x10 x12 x14 x16) rfl hl.1 rfl (Nat.le_of_ble_eq_true rfl) dX0_crossed_94 hq (fun x29 s28 H locs hq hB => ?_)
                  refine zz_if_eq (tgt := 107) hx hb dX0_crossed_97 (by decide) hq (fun hq => ?_) (fun hq => ?_)
                  · refine zz_nmV hq (fun x30 ex30 hq => ?_)
                    refine lv_iinc (v := x30) (lv' := [(8, .int x30), (9, .ref (ad a23)), (0, .ref (ad a0)), (1, .ref (ad a1)), (2, .int x17), (3, .int x5), (4, .int x10), (5, .int x12), (6, .int x14), (7, .int x16)]) hx hb dX0_crossed_107 hl (k := 9) rfl (by rw [ex30]; rfl) (by decide) rfl (fun ls hl => ?_)
                    refine lv_goto (tgt := 55) hx hb dX0_crossed_110 (by decide) ?_
                    exact ih55 x17 x30 s28 _ _ _ hq hB (lv_sub hl [2, 3, 4, 5, 6, 7, 8, 9, 0] rfl)
                  · refine lv_iload_n hx hb dX0_crossed_100 rfl (lv_at hl 3 rfl) ?_
                    refine lv_iconst (v := 1) hx hb dX0_crossed_101 (by decide) ?_
                    refine lv_iload hx hb dX0_crossed_102 (lv_at hl 9 rfl) ?_
                    refine lv_ishl hx hb dX0_crossed_104 ?_
                    refine lv_ior hx hb dX0_crossed_105 ?_
                    refine zz_nmI hq (fun x31 hq => ?_)
                    refine lv_istore_n (lv' := [(2, .int x31), (9, .ref (ad a23)), (0, .ref (ad a0)), (1, .ref (ad a1)), (3, .int x5), (4, .int x10), (5, .int x12), (6, .int x14), (7, .int x16), (8, .int x18)]) hx hb dX0_crossed_106 rfl hl (by decide) rfl (fun ls hl => ?_)
                    refine zz_nmV hq (fun x32 ex32 hq => ?_)
                    refine lv_iinc (v := x32) (lv' := [(8, .int x32), (2, .int x31), (9, .ref (ad a23)), (0, .ref (ad a0)), (1, .ref (ad a1)), (3, .int x5), (4, .int x10), (5, .int x12), (6, .int x14), (7, .int x16)]) hx hb dX0_crossed_107 hl (k := 9) rfl (by rw [ex32]; rfl) (by decide) rfl (fun ls hl => ?_)
                    refine lv_goto (tgt := 55) hx hb dX0_crossed_110 (by decide) ?_
                    exact ih55 x31 x32 s28 _ _ _ hq hB (lv_sub hl [3, 4, 1, 5, 6, 7, 8, 9, 0] rfl)
        exact L55 N x4 (0 : Int32) s15 _ _ _ hq hB (lv_sub hl [5, 6, 7, 8, 4, 3, 2, 1, 0] rfl)
  exact L4 N (0 : Int32) (0 : Int32) s0 _ _ _ hq hB (lv_sub hl [2, 3, 1, 0] rfl)
def f_X1_copy_L2 (T : zT) (N : Nat) (a0 : Nat) (a1 : Nat) (k2 : Int32 → zS → Option zS) (x4 : Int32) (s5 : zS) : Option zS :=
  (gR T s5 a0 1 0).bind fun a6 =>
  (aL T a6 15).bind fun x7 =>
  if x7 ≤ x4 then (
    (gI T s5 a1 1 1).bind fun x8 =>
    (pI T s5 a0 1 1 x8).bind fun s9 =>
    some s9)
  else (
    (gR T s5 a1 1 0).bind fun a10 =>
    (aL T a10 15).bind fun x11 =>
    if x11 ≤ x4 then (
      (gI T s5 a1 1 1).bind fun x12 =>
      (pI T s5 a0 1 1 x12).bind fun s13 =>
      some s13)
    else (
      (gR T s5 a0 1 0).bind fun a14 =>
      (aR T s5 a14 15 x4).bind fun a15 =>
      (gR T s5 a1 1 0).bind fun a16 =>
      (aR T s5 a16 15 x4).bind fun a17 =>
      (gR T s5 a0 1 0).bind fun a18 =>
      (aR T s5 a18 15 x4).bind fun a19 =>
      (gR T s5 a1 1 0).bind fun a20 =>
      (aR T s5 a20 15 x4).bind fun a21 =>
      (f_X0_copy T N s5 a19 a21).bind fun s22 =>
      zn (x4 + (1 : Int32)) fun x23 =>
      k2 x23 s22))
def f_X1_copy (T : zT) (N : Nat) (s0 : zS) (a0 : Nat) (a1 : Nat) : Option zS :=
  zz1 (T.1 a0 = 1) <|
  zl2 (f_X1_copy_L2 T N a0 a1) N (0 : Int32) s0
theorem k_X1_copy (T : zT) (N : Nat) (s0 : zS) (a0 : Nat) (a1 : Nat) : ∀ q, f_X1_copy T N s0 a0 a1 = some q → T.1 a0 = 1 := by
  intro q h
  unfold f_X1_copy at h
  exact zz_guard h (fun h _ => h)
set_option maxHeartbeats 4000000 in
set_option maxRecDepth 100000 in
theorem c_X1_copy (l : Launch) (D : va_G) (cy : Nat → ClassId) (T : zT) (hT : zok T) (ad : Nat → Nat) (N : Nat) (s0 : zS) (sz : Nat) (a0 : Nat) (a1 : Nat) : ∀ (σ0 : zS), f_X1_copy T N s0 a0 a1 = some σ0 → Met l yX1_copy wsX1_copy ({ frames := 1, cells := 0, slots := 0, locals := 21 }) (va_Pc [.ref (ad a0), .ref (ad a1)] (zPre D cy T ad s0 sz)) (va_Qv (fun σ2 : zS => σ2 = σ0) (zAt D cy T ad (zA T ad sz)) (zA T ad sz)) 0 0 (zA T ad sz) := by
  intro σ0 hq
  refine Met.ofW (cc := cX1_copy) (maxL := 3) (ret := none) (by decide) rfl ?_
  intro p e s m args below meth c s₁ B hml hv
  obtain ⟨hargs, hsz, hP, hK, hD0, hN⟩ := hv
  have hx := B.exec
  have hb := B.bytes
  have hr := B.returns
  have hts := atoms_spec (ws := wsX1_copy) B.pre
  have hown : s.vm.findClass RX1 = some m.cls := findClass_of_methodNamed B.named
  have hlocks := B.notSynchronized
  have S : CallFix p m c cX1_copy 3 s args wsX1_copy RX1 := ⟨hx, hb, hml, hown, hts⟩
  subst hsz
  have hB : zB D cy T ad (zA T ad s.heap.size) s.heap s0 s.heap [] s := zz_entry hP hK hD0 hN
  obtain ⟨ls, hent, hl⟩ := zz_ent m hargs (n := 3) (Nat.le_of_ble_eq_true rfl)
  rw [hent]
  have hl : lv_has ls 3 [(0, .ref (ad a0)), (1, .ref (ad a1))] := hl
  have iwX1 : ∀ w ∈ u_ws RX1 TX1 2, w ∈ wsX1_copy := fun w h => wS (inWX1 w h)
  unfold f_X1_copy at hq
  refine zz_guard hq (fun hk0 hq => ?_)
  refine lv_iconst (v := 0) hx hb dX1_copy_0 (by decide) ?_
  refine lv_istore_n (lv' := [(2, .int (0 : Int32)), (0, .ref (ad a0)), (1, .ref (ad a1))]) hx hb dX1_copy_1 rfl hl (by decide) rfl (fun ls hl => ?_)
  have L2 : ∀ (n : Nat) (x4 : Int32) (s5 : zS) (H : Heap) (locs : List Loc) (ls : Array Slot), zl2 (f_X1_copy_L2 T N a0 a1) n x4 s5 = some σ0 → zB D cy T ad (zA T ad s.heap.size) s.heap s5 H locs s → lv_has ls 3 [(0, .ref (ad a0)), (1, .ref (ad a1)), (2, .int x4)] → W p l e (headSpec wsX1_copy ({ frames := 1, cells := 0, slots := 0, locals := 21 } : Room)).room s m args below meth c H locs 0 0 (MQ below (va_Qv (fun σ2 : zS => σ2 = σ0) (zAt D cy T ad (zA T ad s.heap.size)) (zA T ad s.heap.size)) args s 0 0 (zA T ad s.heap.size)) (F0 m 2 ls []) := by
    intro n
    induction n with
    | zero => intro x4 s5 H locs ls hq; exact zz_none hq
    | succ n ih2 =>
      intro x4 s5 H locs ls hq hB hl
      rw [zl2] at hq
      generalize zl2 (f_X1_copy_L2 T N a0 a1) n = k2 at ih2 hq
      unfold f_X1_copy_L2 at hq
      refine lv_iload_n hx hb dX1_copy_2 rfl (lv_at hl 2 rfl) ?_
      refine lv_aload_n hx hb dX1_copy_3 rfl (lv_at hl 0 rfl) ?_
      refine zz_getR S hT hB (C := RX1) (ref := "DiagramDesk$Connectors") (F := TX1) (N := 2) (index := 11) 1 0 iwX1 rfl (by decide) (by decide) rfl rfl (wS wd_80) (fun _ h9 => h9) dX1_copy_4 hq (fun a6 hq => ?_)
      refine zz_alen S hT hB 15 (by decide) (by decide) dX1_copy_7 hq (fun x7 hq => ?_)
      refine zz_icmp_ge (tgt := 59) hx hb dX1_copy_8 (by decide) hq (fun hq => ?_) (fun hq => ?_)
      · refine lv_aload_n hx hb dX1_copy_59 rfl (lv_at hl 0 rfl) ?_
        refine lv_aload_n hx hb dX1_copy_60 rfl (lv_at hl 1 rfl) ?_
        refine zz_get S hT hB (C := RX1) (ref := "DiagramDesk$Connectors") (F := TX1) (N := 2) (index := 22) 1 1 iwX1 rfl (by decide) (by decide) rfl rfl (wS wd_81) (fun _ h9 => h9) dX1_copy_61 hq (fun x8 hq => ?_)
        refine zz_put S hT hB (C := RX1) (ref := "DiagramDesk$Connectors") (F := TX1) (N := 2) (index := 22) 1 1 iwX1 tyX1 tyX1_ok nmX1 rfl (by decide) (by decide) rfl rfl (wS wd_81) (fun _ h9 => h9) rfl (by decide +kernel) dX1_copy_64 hq (fun s9 H locs hq hB => ?_)
        exact zz_vret S hB hr hlocks dX1_copy_67 hq
      · refine lv_iload_n hx hb dX1_copy_11 rfl (lv_at hl 2 rfl) ?_
        refine lv_aload_n hx hb dX1_copy_12 rfl (lv_at hl 1 rfl) ?_
        refine zz_getR S hT hB (C := RX1) (ref := "DiagramDesk$Connectors") (F := TX1) (N := 2) (index := 11) 1 0 iwX1 rfl (by decide) (by decide) rfl rfl (wS wd_80) (fun _ h9 => h9) dX1_copy_13 hq (fun a10 hq => ?_)
        refine zz_alen S hT hB 15 (by decide) (by decide) dX1_copy_16 hq (fun x11 hq => ?_)
        refine zz_icmp_ge (tgt := 59) hx hb dX1_copy_17 (by decide) hq (fun hq => ?_) (fun hq => ?_)
        · refine lv_aload_n hx hb dX1_copy_59 rfl (lv_at hl 0 rfl) ?_
          refine lv_aload_n hx hb dX1_copy_60 rfl (lv_at hl 1 rfl) ?_
          refine zz_get S hT hB (C := RX1) (ref := "DiagramDesk$Connectors") (F := TX1) (N := 2) (index := 22) 1 1 iwX1 rfl (by decide) (by decide) rfl rfl (wS wd_81) (fun _ h9 => h9) dX1_copy_61 hq (fun x12 hq => ?_)
          refine zz_put S hT hB (C := RX1) (ref := "DiagramDesk$Connectors") (F := TX1) (N := 2) (index := 22) 1 1 iwX1 tyX1 tyX1_ok nmX1 rfl (by decide) (by decide) rfl rfl (wS wd_81) (fun _ h9 => h9) rfl (by decide +kernel) dX1_copy_64 hq (fun s13 H locs hq hB => ?_)
          exact zz_vret S hB hr hlocks dX1_copy_67 hq
        · refine lv_aload_n hx hb dX1_copy_20 rfl (lv_at hl 0 rfl) ?_
          refine zz_getR S hT hB (C := RX1) (ref := "DiagramDesk$Connectors") (F := TX1) (N := 2) (index := 11) 1 0 iwX1 rfl (by decide) (by decide) rfl rfl (wS wd_80) (fun _ h9 => h9) dX1_copy_21 hq (fun a14 hq => ?_)
          refine lv_iload_n hx hb dX1_copy_24 rfl (lv_at hl 2 rfl) ?_
          refine zz_aldR S hT hB 15 2 rfl (by decide) (by decide) dX1_copy_25 hq (fun a15 hq => ?_)
          refine lv_ifnull hx hb dX1_copy_26 ?_
          refine lv_aload_n hx hb dX1_copy_29 rfl (lv_at hl 1 rfl) ?_
          refine zz_getR S hT hB (C := RX1) (ref := "DiagramDesk$Connectors") (F := TX1) (N := 2) (index := 11) 1 0 iwX1 rfl (by decide) (by decide) rfl rfl (wS wd_80) (fun _ h9 => h9) dX1_copy_30 hq (fun a16 hq => ?_)
          refine lv_iload_n hx hb dX1_copy_33 rfl (lv_at hl 2 rfl) ?_
          refine zz_aldR S hT hB 15 2 rfl (by decide) (by decide) dX1_copy_34 hq (fun a17 hq => ?_)
          refine lv_ifnull hx hb dX1_copy_35 ?_
          refine lv_aload_n hx hb dX1_copy_38 rfl (lv_at hl 0 rfl) ?_
          refine zz_getR S hT hB (C := RX1) (ref := "DiagramDesk$Connectors") (F := TX1) (N := 2) (index := 11) 1 0 iwX1 rfl (by decide) (by decide) rfl rfl (wS wd_80) (fun _ h9 => h9) dX1_copy_39 hq (fun a18 hq => ?_)
          refine lv_iload_n hx hb dX1_copy_42 rfl (lv_at hl 2 rfl) ?_
          refine zz_aldR S hT hB 15 2 rfl (by decide) (by decide) dX1_copy_43 hq (fun a19 hq => ?_)
          refine lv_aload_n hx hb dX1_copy_44 rfl (lv_at hl 1 rfl) ?_
          refine zz_getR S hT hB (C := RX1) (ref := "DiagramDesk$Connectors") (F := TX1) (N := 2) (index := 11) 1 0 iwX1 rfl (by decide) (by decide) rfl rfl (wS wd_80) (fun _ h9 => h9) dX1_copy_45 hq (fun a20 hq => ?_)
          refine lv_iload_n hx hb dX1_copy_48 rfl (lv_at hl 2 rfl) ?_
          refine zz_aldR S hT hB 15 2 rfl (by decide) (by decide) dX1_copy_49 hq (fun a21 hq => ?_)
          refine zz_callVv S hT hB (As := [.ref (ad a21)]) (b := a19) (o := f_X0_copy T N s5 a19 a21) (c_X0_copy l D cy T hT ad N s5 _ a19 a21) (cwV 1 hts (gV wSub wd_82 wd_83 wd_84 wd_45 wd_85) rfl rfl rfl (by decide +kernel) ⟨Nat.le_of_ble_eq_true rfl, Nat.le_of_ble_eq_true rfl⟩) (F := TX0) (NF := 5) 0 rfl (by decide) (k_X0_copy T N s5 a19 a21) rfl hl.1 rfl (Nat.le_of_ble_eq_true rfl) dX1_copy_50 hq (fun s22 H locs hq hB => ?_)
          refine zz_nmV hq (fun x23 ex23 hq => ?_)
          refine lv_iinc (v := x23) (lv' := [(2, .int x23), (0, .ref (ad a0)), (1, .ref (ad a1))]) hx hb dX1_copy_53 hl (k := 2) rfl (by rw [ex23]; rfl) (by decide) rfl (fun ls hl => ?_)
          refine lv_goto (tgt := 2) hx hb dX1_copy_56 (by decide) ?_
          exact ih2 x23 s22 _ _ _ hq hB (lv_sub hl [1, 2, 0] rfl)
  exact L2 N (0 : Int32) s0 _ _ _ hq hB (lv_sub hl [1, 2, 0] rfl)
def f_X1_find (T : zT) (N : Nat) (s0 : zS) (a0 : Nat) (x1 : Int32) : Option (Option Nat × zS) :=
  zz1 (T.1 a0 = 1) <|
  if x1 < 0 then (
    some (none, s0))
  else (
    (gI T s0 a0 1 1).bind fun x4 =>
    if x4 ≤ x1 then (
      some (none, s0))
    else (
      (gR T s0 a0 1 0).bind fun a5 =>
      (aL T a5 15).bind fun x6 =>
      if x1 < x6 then (
        (gR T s0 a0 1 0).bind fun a7 =>
        (aR T s0 a7 15 x1).bind fun a8 =>
        some (some a8, s0))
      else (
        some (none, s0))))
theorem k_X1_find (T : zT) (N : Nat) (s0 : zS) (a0 : Nat) (x1 : Int32) : ∀ q, f_X1_find T N s0 a0 x1 = some q → T.1 a0 = 1 := by
  intro q h
  unfold f_X1_find at h
  exact zz_guard h (fun h _ => h)
set_option maxHeartbeats 4000000 in
set_option maxRecDepth 100000 in
theorem c_X1_find (l : Launch) (D : va_G) (cy : Nat → ClassId) (T : zT) (hT : zok T) (ad : Nat → Nat) (N : Nat) (s0 : zS) (sz : Nat) (a0 : Nat) (x1 : Int32) : ∀ (r0 : Option Nat) (σ0 : zS), f_X1_find T N s0 a0 x1 = some (r0, σ0) → Met l yX1_find wsX1_find ({ frames := 0, cells := 0, slots := 0, locals := 0 }) (va_Pc [.ref (ad a0), .int x1] (zPre D cy T ad s0 sz)) (va_Qq (fun (r2 : Option Nat) (σ2 : zS) => r2 = r0.map ad ∧ σ2 = σ0) (zAt D cy T ad (zA T ad sz)) (zA T ad sz)) 0 0 (zA T ad sz) := by
  intro r0 σ0 hq
  refine Met.ofW (cc := cX1_find) (maxL := 2) (ret := (some (.object "DiagramDesk$Connector"))) (by decide) rfl ?_
  intro p e s m args below meth c s₁ B hml hv
  obtain ⟨hargs, hsz, hP, hK, hD0, hN⟩ := hv
  have hx := B.exec
  have hb := B.bytes
  have hr := B.returns
  have hts := atoms_spec (ws := wsX1_find) B.pre
  have hown : s.vm.findClass RX1 = some m.cls := findClass_of_methodNamed B.named
  have hlocks := B.notSynchronized
  have S : CallFix p m c cX1_find 2 s args wsX1_find RX1 := ⟨hx, hb, hml, hown, hts⟩
  subst hsz
  have hB : zB D cy T ad (zA T ad s.heap.size) s.heap s0 s.heap [] s := zz_entry hP hK hD0 hN
  obtain ⟨ls, hent, hl⟩ := zz_ent m hargs (n := 2) (Nat.le_of_ble_eq_true rfl)
  rw [hent]
  have hl : lv_has ls 2 [(0, .ref (ad a0)), (1, .int x1)] := hl
  have iwX1 : ∀ w ∈ u_ws RX1 TX1 2, w ∈ wsX1_find := fun w h => wS (inWX1 w h)
  unfold f_X1_find at hq
  refine zz_guard hq (fun hk0 hq => ?_)
  refine lv_iload_n hx hb dX1_find_0 rfl (lv_at hl 1 rfl) ?_
  refine zz_if_lt (tgt := 21) hx hb dX1_find_1 (by decide) hq (fun hq => ?_) (fun hq => ?_)
  · refine lv_null hx hb dX1_find_21 ?_
    exact zz_aretN S hB hr hlocks dX1_find_22 hq
  · refine lv_iload_n hx hb dX1_find_4 rfl (lv_at hl 1 rfl) ?_
    refine lv_aload_n hx hb dX1_find_5 rfl (lv_at hl 0 rfl) ?_
    refine zz_get S hT hB (C := RX1) (ref := "DiagramDesk$Connectors") (F := TX1) (N := 2) (index := 22) 1 1 iwX1 rfl (by decide) (by decide) rfl rfl (wS wd_81) (fun _ h9 => h9) dX1_find_6 hq (fun x4 hq => ?_)
    refine zz_icmp_ge (tgt := 21) hx hb dX1_find_9 (by decide) hq (fun hq => ?_) (fun hq => ?_)
    · refine lv_null hx hb dX1_find_21 ?_
      exact zz_aretN S hB hr hlocks dX1_find_22 hq
    · refine lv_iload_n hx hb dX1_find_12 rfl (lv_at hl 1 rfl) ?_
      refine lv_aload_n hx hb dX1_find_13 rfl (lv_at hl 0 rfl) ?_
      refine zz_getR S hT hB (C := RX1) (ref := "DiagramDesk$Connectors") (F := TX1) (N := 2) (index := 11) 1 0 iwX1 rfl (by decide) (by decide) rfl rfl (wS wd_80) (fun _ h9 => h9) dX1_find_14 hq (fun a5 hq => ?_)
      refine zz_alen S hT hB 15 (by decide) (by decide) dX1_find_17 hq (fun x6 hq => ?_)
      refine zz_icmp_lt (tgt := 23) hx hb dX1_find_18 (by decide) hq (fun hq => ?_) (fun hq => ?_)
      · refine lv_aload_n hx hb dX1_find_23 rfl (lv_at hl 0 rfl) ?_
        refine zz_getR S hT hB (C := RX1) (ref := "DiagramDesk$Connectors") (F := TX1) (N := 2) (index := 11) 1 0 iwX1 rfl (by decide) (by decide) rfl rfl (wS wd_80) (fun _ h9 => h9) dX1_find_24 hq (fun a7 hq => ?_)
        refine lv_iload_n hx hb dX1_find_27 rfl (lv_at hl 1 rfl) ?_
        refine zz_aldR S hT hB 15 2 rfl (by decide) (by decide) dX1_find_28 hq (fun a8 hq => ?_)
        exact zz_aret S hB hr hlocks dX1_find_29 hq
      · refine lv_null hx hb dX1_find_21 ?_
        exact zz_aretN S hB hr hlocks dX1_find_22 hq
def f_X1_add (T : zT) (N : Nat) (s0 : zS) (a0 : Nat) (x1 : Int32) (x2 : Int32) (x3 : Int32) (x4 : Int32) (x5 : Int32) : Option (Int32 × zS) :=
  zz1 (T.1 a0 = 1) <|
  (gI T s0 a0 1 1).bind fun x8 =>
  if x8 < 0 then (
    some ((-3 : Int32), s0))
  else (
    (gR T s0 a0 1 0).bind fun a9 =>
    (aL T a9 15).bind fun x10 =>
    if x10 ≤ x8 then (
      some ((-3 : Int32), s0))
    else (
      (gR T s0 a0 1 0).bind fun a11 =>
      (aR T s0 a11 15 x8).bind fun a12 =>
      (gR T s0 a0 1 0).bind fun a13 =>
      (aR T s0 a13 15 x8).bind fun a14 =>
      (pI T s0 a14 0 0 x1).bind fun s15 =>
      (pI T s15 a14 0 1 x2).bind fun s16 =>
      (pI T s16 a14 0 2 x3).bind fun s17 =>
      (pI T s17 a14 0 3 x4).bind fun s18 =>
      (pI T s18 a14 0 4 x5).bind fun s19 =>
      (gI T s19 a0 1 1).bind fun x20 =>
      (pI T s19 a0 1 1 (x20 + (1 : Int32))).bind fun s21 =>
      some (x8, s21)))
theorem k_X1_add (T : zT) (N : Nat) (s0 : zS) (a0 : Nat) (x1 : Int32) (x2 : Int32) (x3 : Int32) (x4 : Int32) (x5 : Int32) : ∀ q, f_X1_add T N s0 a0 x1 x2 x3 x4 x5 = some q → T.1 a0 = 1 := by
  intro q h
  unfold f_X1_add at h
  exact zz_guard h (fun h _ => h)
set_option maxHeartbeats 4000000 in
set_option maxRecDepth 100000 in
theorem c_X1_add (l : Launch) (D : va_G) (cy : Nat → ClassId) (T : zT) (hT : zok T) (ad : Nat → Nat) (N : Nat) (s0 : zS) (sz : Nat) (a0 : Nat) (x1 : Int32) (x2 : Int32) (x3 : Int32) (x4 : Int32) (x5 : Int32) : ∀ (r0 : Int32) (σ0 : zS), f_X1_add T N s0 a0 x1 x2 x3 x4 x5 = some (r0, σ0) → Met l yX1_add wsX1_add ({ frames := 0, cells := 0, slots := 0, locals := 0 }) (va_Pc [.ref (ad a0), .int x1, .int x2, .int x3, .int x4, .int x5] (zPre D cy T ad s0 sz)) (va_Qi (fun (r2 : Int32) (σ2 : zS) => r2 = r0 ∧ σ2 = σ0) (zAt D cy T ad (zA T ad sz)) (zA T ad sz)) 0 0 (zA T ad sz) := by
  intro r0 σ0 hq
  refine Met.ofW (cc := cX1_add) (maxL := 8) (ret := (some .int)) (by decide) rfl ?_
  intro p e s m args below meth c s₁ B hml hv
  obtain ⟨hargs, hsz, hP, hK, hD0, hN⟩ := hv
  have hx := B.exec
  have hb := B.bytes
  have hr := B.returns
  have hts := atoms_spec (ws := wsX1_add) B.pre
  have hown : s.vm.findClass RX1 = some m.cls := findClass_of_methodNamed B.named
  have hlocks := B.notSynchronized
  have S : CallFix p m c cX1_add 8 s args wsX1_add RX1 := ⟨hx, hb, hml, hown, hts⟩
  subst hsz
  have hB : zB D cy T ad (zA T ad s.heap.size) s.heap s0 s.heap [] s := zz_entry hP hK hD0 hN
  obtain ⟨ls, hent, hl⟩ := zz_ent m hargs (n := 8) (Nat.le_of_ble_eq_true rfl)
  rw [hent]
  have hl : lv_has ls 8 [(0, .ref (ad a0)), (1, .int x1), (2, .int x2), (3, .int x3), (4, .int x4), (5, .int x5)] := hl
  have iwX1 : ∀ w ∈ u_ws RX1 TX1 2, w ∈ wsX1_add := fun w h => wS (inWX1 w h)
  have iwX0 : ∀ w ∈ u_ws RX0 TX0 5, w ∈ wsX1_add := fun w h => wS (inWX0 w h)
  unfold f_X1_add at hq
  refine zz_guard hq (fun hk0 hq => ?_)
  refine lv_aload_n hx hb dX1_add_0 rfl (lv_at hl 0 rfl) ?_
  refine zz_get S hT hB (C := RX1) (ref := "DiagramDesk$Connectors") (F := TX1) (N := 2) (index := 22) 1 1 iwX1 rfl (by decide) (by decide) rfl rfl (wS wd_81) (fun _ h9 => h9) dX1_add_1 hq (fun x8 hq => ?_)
  refine lv_istore (lv' := [(6, .int x8), (0, .ref (ad a0)), (1, .int x1), (2, .int x2), (3, .int x3), (4, .int x4), (5, .int x5)]) hx hb dX1_add_4 hl (by decide) rfl (fun ls hl => ?_)
  refine lv_iload hx hb dX1_add_6 (lv_at hl 0 rfl) ?_
  refine zz_if_lt (tgt := 31) hx hb dX1_add_8 (by decide) hq (fun hq => ?_) (fun hq => ?_)
  · refine lv_bipush (v := -3) hx hb dX1_add_31 (by decide) ?_
    exact zz_iret S hB hr hlocks dX1_add_33 hq
  · refine lv_iload hx hb dX1_add_11 (lv_at hl 0 rfl) ?_
    refine lv_aload_n hx hb dX1_add_13 rfl (lv_at hl 1 rfl) ?_
    refine zz_getR S hT hB (C := RX1) (ref := "DiagramDesk$Connectors") (F := TX1) (N := 2) (index := 11) 1 0 iwX1 rfl (by decide) (by decide) rfl rfl (wS wd_80) (fun _ h9 => h9) dX1_add_14 hq (fun a9 hq => ?_)
    refine zz_alen S hT hB 15 (by decide) (by decide) dX1_add_17 hq (fun x10 hq => ?_)
    refine zz_icmp_ge (tgt := 31) hx hb dX1_add_18 (by decide) hq (fun hq => ?_) (fun hq => ?_)
    · refine lv_bipush (v := -3) hx hb dX1_add_31 (by decide) ?_
      exact zz_iret S hB hr hlocks dX1_add_33 hq
    · refine lv_aload_n hx hb dX1_add_21 rfl (lv_at hl 1 rfl) ?_
      refine zz_getR S hT hB (C := RX1) (ref := "DiagramDesk$Connectors") (F := TX1) (N := 2) (index := 11) 1 0 iwX1 rfl (by decide) (by decide) rfl rfl (wS wd_80) (fun _ h9 => h9) dX1_add_22 hq (fun a11 hq => ?_)
      refine lv_iload hx hb dX1_add_25 (lv_at hl 0 rfl) ?_
      refine zz_aldR S hT hB 15 2 rfl (by decide) (by decide) dX1_add_27 hq (fun a12 hq => ?_)
      refine lv_ifnonnull (tgt := 34) hx hb dX1_add_28 (by decide) ?_
      refine lv_aload_n hx hb dX1_add_34 rfl (lv_at hl 1 rfl) ?_
      refine zz_getR S hT hB (C := RX1) (ref := "DiagramDesk$Connectors") (F := TX1) (N := 2) (index := 11) 1 0 iwX1 rfl (by decide) (by decide) rfl rfl (wS wd_80) (fun _ h9 => h9) dX1_add_35 hq (fun a13 hq => ?_)
      refine lv_iload hx hb dX1_add_38 (lv_at hl 0 rfl) ?_
      refine zz_aldR S hT hB 15 2 rfl (by decide) (by decide) dX1_add_40 hq (fun a14 hq => ?_)
      refine lv_astore (lv' := [(7, .ref (ad a14)), (6, .int x8), (0, .ref (ad a0)), (1, .int x1), (2, .int x2), (3, .int x3), (4, .int x4), (5, .int x5)]) hx hb dX1_add_41 hl (by decide) rfl (fun ls hl => ?_)
      refine lv_aload hx hb dX1_add_43 (lv_at hl 0 rfl) ?_
      refine lv_iload_n hx hb dX1_add_45 rfl (lv_at hl 3 rfl) ?_
      refine zz_put S hT hB (C := RX0) (ref := "DiagramDesk$Connector") (F := TX0) (N := 5) (index := 26) 0 0 iwX0 tyX0 tyX0_ok nmX0 rfl (by decide) (by decide) rfl rfl (wS wd_86) (fun _ h9 => h9) rfl (by decide +kernel) dX1_add_46 hq (fun s15 H locs hq hB => ?_)
      refine lv_aload hx hb dX1_add_49 (lv_at hl 0 rfl) ?_
      refine lv_iload_n hx hb dX1_add_51 rfl (lv_at hl 4 rfl) ?_
      refine zz_put S hT hB (C := RX0) (ref := "DiagramDesk$Connector") (F := TX0) (N := 5) (index := 29) 0 1 iwX0 tyX0 tyX0_ok nmX0 rfl (by decide) (by decide) rfl rfl (wS wd_87) (fun _ h9 => h9) rfl (by decide +kernel) dX1_add_52 hq (fun s16 H locs hq hB => ?_)
      refine lv_aload hx hb dX1_add_55 (lv_at hl 0 rfl) ?_
      refine lv_iload_n hx hb dX1_add_57 rfl (lv_at hl 5 rfl) ?_
      refine zz_put S hT hB (C := RX0) (ref := "DiagramDesk$Connector") (F := TX0) (N := 5) (index := 32) 0 2 iwX0 tyX0 tyX0_ok nmX0 rfl (by decide) (by decide) rfl rfl (wS wd_88) (fun _ h9 => h9) rfl (by decide +kernel) dX1_add_58 hq (fun s17 H locs hq hB => ?_)
      refine lv_aload hx hb dX1_add_61 (lv_at hl 0 rfl) ?_
      refine lv_iload hx hb dX1_add_63 (lv_at hl 6 rfl) ?_
      refine zz_put S hT hB (C := RX0) (ref := "DiagramDesk$Connector") (F := TX0) (N := 5) (index := 35) 0 3 iwX0 tyX0 tyX0_ok nmX0 rfl (by decide) (by decide) rfl rfl (wS wd_89) (fun _ h9 => h9) rfl (by decide +kernel) dX1_add_65 hq (fun s18 H locs hq hB => ?_)
      refine lv_aload hx hb dX1_add_68 (lv_at hl 0 rfl) ?_
      refine lv_iload hx hb dX1_add_70 (lv_at hl 7 rfl) ?_
      refine zz_put S hT hB (C := RX0) (ref := "DiagramDesk$Connector") (F := TX0) (N := 5) (index := 38) 0 4 iwX0 tyX0 tyX0_ok nmX0 rfl (by decide) (by decide) rfl rfl (wS wd_90) (fun _ h9 => h9) rfl (by decide +kernel) dX1_add_72 hq (fun s19 H locs hq hB => ?_)
      refine lv_aload_n hx hb dX1_add_75 rfl (lv_at hl 2 rfl) ?_
      refine lv_dup hx hb dX1_add_76 rfl ?_
      refine zz_get S hT hB (C := RX1) (ref := "DiagramDesk$Connectors") (F := TX1) (N := 2) (index := 22) 1 1 iwX1 rfl (by decide) (by decide) rfl rfl (wS wd_81) (fun _ h9 => h9) dX1_add_77 hq (fun x20 hq => ?_)
      refine lv_iconst (v := 1) hx hb dX1_add_80 (by decide) ?_
      refine lv_iadd hx hb dX1_add_81 ?_
      refine zz_put S hT hB (C := RX1) (ref := "DiagramDesk$Connectors") (F := TX1) (N := 2) (index := 22) 1 1 iwX1 tyX1 tyX1_ok nmX1 rfl (by decide) (by decide) rfl rfl (wS wd_81) (fun _ h9 => h9) rfl (by decide +kernel) dX1_add_82 hq (fun s21 H locs hq hB => ?_)
      refine lv_iload hx hb dX1_add_85 (lv_at hl 1 rfl) ?_
      exact zz_iret S hB hr hlocks dX1_add_87 hq
def f_X1_drop_L2 (T : zT) (N : Nat) (a0 : Nat) (k2 : Int32 → zS → Option zS) (x4 : Int32) (s5 : zS) : Option zS :=
  (gI T s5 a0 1 1).bind fun x6 =>
  if x6 ≤ (x4 + (1 : Int32)) then (
    (gI T s5 a0 1 1).bind fun x7 =>
    (pI T s5 a0 1 1 (x7 - (1 : Int32))).bind fun s8 =>
    some s8)
  else (
    zb2 (f_X1_find T N s5 a0 x4) fun o10 s9 => zo o10 (
      zb2 (f_X1_find T N s9 a0 (x4 + (1 : Int32))) fun o13 s12 => zo o13 (
        zn (x4 + (1 : Int32)) fun x15 =>
        k2 x15 s12)
      fun a14 => (
        zn (x4 + (1 : Int32)) fun x16 =>
        k2 x16 s12))
    fun a11 => (
      zb2 (f_X1_find T N s9 a0 (x4 + (1 : Int32))) fun o18 s17 => zo o18 (
        zn (x4 + (1 : Int32)) fun x20 =>
        k2 x20 s17)
      fun a19 => (
        (f_X0_copy T N s17 a11 a19).bind fun s21 =>
        zn (x4 + (1 : Int32)) fun x22 =>
        k2 x22 s21)))
def f_X1_drop (T : zT) (N : Nat) (s0 : zS) (a0 : Nat) (x1 : Int32) : Option zS :=
  zz1 (T.1 a0 = 1) <|
  zl2 (f_X1_drop_L2 T N a0) N x1 s0
theorem k_X1_drop (T : zT) (N : Nat) (s0 : zS) (a0 : Nat) (x1 : Int32) : ∀ q, f_X1_drop T N s0 a0 x1 = some q → T.1 a0 = 1 := by
  intro q h
  unfold f_X1_drop at h
  exact zz_guard h (fun h _ => h)
set_option maxHeartbeats 4000000 in
set_option maxRecDepth 100000 in
theorem c_X1_drop (l : Launch) (D : va_G) (cy : Nat → ClassId) (T : zT) (hT : zok T) (ad : Nat → Nat) (N : Nat) (s0 : zS) (sz : Nat) (a0 : Nat) (x1 : Int32) : ∀ (σ0 : zS), f_X1_drop T N s0 a0 x1 = some σ0 → Met l yX1_drop wsX1_drop ({ frames := 1, cells := 0, slots := 0, locals := 21 }) (va_Pc [.ref (ad a0), .int x1] (zPre D cy T ad s0 sz)) (va_Qv (fun σ2 : zS => σ2 = σ0) (zAt D cy T ad (zA T ad sz)) (zA T ad sz)) 0 0 (zA T ad sz) := by
  intro σ0 hq
  refine Met.ofW (cc := cX1_drop) (maxL := 5) (ret := none) (by decide) rfl ?_
  intro p e s m args below meth c s₁ B hml hv
  obtain ⟨hargs, hsz, hP, hK, hD0, hN⟩ := hv
  have hx := B.exec
  have hb := B.bytes
  have hr := B.returns
  have hts := atoms_spec (ws := wsX1_drop) B.pre
  have hown : s.vm.findClass RX1 = some m.cls := findClass_of_methodNamed B.named
  have hlocks := B.notSynchronized
  have S : CallFix p m c cX1_drop 5 s args wsX1_drop RX1 := ⟨hx, hb, hml, hown, hts⟩
  subst hsz
  have hB : zB D cy T ad (zA T ad s.heap.size) s.heap s0 s.heap [] s := zz_entry hP hK hD0 hN
  obtain ⟨ls, hent, hl⟩ := zz_ent m hargs (n := 5) (Nat.le_of_ble_eq_true rfl)
  rw [hent]
  have hl : lv_has ls 5 [(0, .ref (ad a0)), (1, .int x1)] := hl
  have iwX1 : ∀ w ∈ u_ws RX1 TX1 2, w ∈ wsX1_drop := fun w h => wS (inWX1 w h)
  unfold f_X1_drop at hq
  refine zz_guard hq (fun hk0 hq => ?_)
  refine lv_iload_n hx hb dX1_drop_0 rfl (lv_at hl 1 rfl) ?_
  refine lv_istore_n (lv' := [(2, .int x1), (0, .ref (ad a0)), (1, .int x1)]) hx hb dX1_drop_1 rfl hl (by decide) rfl (fun ls hl => ?_)
  have L2 : ∀ (n : Nat) (x4 : Int32) (s5 : zS) (H : Heap) (locs : List Loc) (ls : Array Slot), zl2 (f_X1_drop_L2 T N a0) n x4 s5 = some σ0 → zB D cy T ad (zA T ad s.heap.size) s.heap s5 H locs s → lv_has ls 5 [(0, .ref (ad a0)), (2, .int x4)] → W p l e (headSpec wsX1_drop ({ frames := 1, cells := 0, slots := 0, locals := 21 } : Room)).room s m args below meth c H locs 0 0 (MQ below (va_Qv (fun σ2 : zS => σ2 = σ0) (zAt D cy T ad (zA T ad s.heap.size)) (zA T ad s.heap.size)) args s 0 0 (zA T ad s.heap.size)) (F0 m 2 ls []) := by
    intro n
    induction n with
    | zero => intro x4 s5 H locs ls hq; exact zz_none hq
    | succ n ih2 =>
      intro x4 s5 H locs ls hq hB hl
      rw [zl2] at hq
      generalize zl2 (f_X1_drop_L2 T N a0) n = k2 at ih2 hq
      unfold f_X1_drop_L2 at hq
      refine lv_iload_n hx hb dX1_drop_2 rfl (lv_at hl 1 rfl) ?_
      refine lv_iconst (v := 1) hx hb dX1_drop_3 (by decide) ?_
      refine lv_iadd hx hb dX1_drop_4 ?_
      refine lv_aload_n hx hb dX1_drop_5 rfl (lv_at hl 0 rfl) ?_
      refine zz_get S hT hB (C := RX1) (ref := "DiagramDesk$Connectors") (F := TX1) (N := 2) (index := 22) 1 1 iwX1 rfl (by decide) (by decide) rfl rfl (wS wd_81) (fun _ h9 => h9) dX1_drop_6 hq (fun x6 hq => ?_)
      refine zz_icmp_ge (tgt := 48) hx hb dX1_drop_9 (by decide) hq (fun hq => ?_) (fun hq => ?_)
      · refine lv_aload_n hx hb dX1_drop_48 rfl (lv_at hl 0 rfl) ?_
        refine lv_dup hx hb dX1_drop_49 rfl ?_
        refine zz_get S hT hB (C := RX1) (ref := "DiagramDesk$Connectors") (F := TX1) (N := 2) (index := 22) 1 1 iwX1 rfl (by decide) (by decide) rfl rfl (wS wd_81) (fun _ h9 => h9) dX1_drop_50 hq (fun x7 hq => ?_)
        refine lv_iconst (v := 1) hx hb dX1_drop_53 (by decide) ?_
        refine lv_isub hx hb dX1_drop_54 ?_
        refine zz_put S hT hB (C := RX1) (ref := "DiagramDesk$Connectors") (F := TX1) (N := 2) (index := 22) 1 1 iwX1 tyX1 tyX1_ok nmX1 rfl (by decide) (by decide) rfl rfl (wS wd_81) (fun _ h9 => h9) rfl (by decide +kernel) dX1_drop_55 hq (fun s8 H locs hq hB => ?_)
        exact zz_vret S hB hr hlocks dX1_drop_58 hq
      · refine lv_aload_n hx hb dX1_drop_12 rfl (lv_at hl 0 rfl) ?_
        refine lv_iload_n hx hb dX1_drop_13 rfl (lv_at hl 1 rfl) ?_
        refine zz_callVq S hT hB (As := [.int x4]) (b := a0) (o := f_X1_find T N s5 a0 x4) (c_X1_find l D cy T hT ad N s5 _ a0 x4) (cwV 1 hts (gV wSub wd_91 wd_92 wd_93 wd_94 wd_95) rfl rfl rfl (by decide +kernel) ⟨Nat.le_of_ble_eq_true rfl, Nat.le_of_ble_eq_true rfl⟩) (F := TX1) (NF := 2) 1 rfl (by decide) (k_X1_find T N s5 a0 x4) rfl hl.1 rfl (Nat.le_of_ble_eq_true rfl) dX1_drop_14 hq (fun s9 H locs hq hB => ?_) (fun a11 s9 H locs hq hB => ?_)
        · refine lv_astore_nN (lv' := [(3, .null), (0, .ref (ad a0)), (2, .int x4)]) hx hb dX1_drop_17 rfl hl (by decide) rfl (fun ls hl => ?_)
          refine lv_aload_n hx hb dX1_drop_18 rfl (lv_at hl 1 rfl) ?_
          refine lv_iload_n hx hb dX1_drop_19 rfl (lv_at hl 2 rfl) ?_
          refine lv_iconst (v := 1) hx hb dX1_drop_20 (by decide) ?_
          refine lv_iadd hx hb dX1_drop_21 ?_
          refine zz_callVq S hT hB (As := [.int (x4 + (1 : Int32))]) (b := a0) (o := f_X1_find T N s9 a0 (x4 + (1 : Int32))) (c_X1_find l D cy T hT ad N s9 _ a0 (x4 + (1 : Int32))) (cwV 1 hts (gV wSub wd_91 wd_92 wd_93 wd_94 wd_95) rfl rfl rfl (by decide +kernel) ⟨Nat.le_of_ble_eq_true rfl, Nat.le_of_ble_eq_true rfl⟩) (F := TX1) (NF := 2) 1 rfl (by decide) (k_X1_find T N s9 a0 (x4 + (1 : Int32))) rfl hl.1 rfl (Nat.le_of_ble_eq_true rfl) dX1_drop_22 hq (fun s12 H locs hq hB => ?_) (fun a14 s12 H locs hq hB => ?_)
          · refine lv_astoreN (lv' := [(4, .null), (3, .null), (0, .ref (ad a0)), (2, .int x4)]) hx hb dX1_drop_25 hl (by decide) rfl (fun ls hl => ?_)
            refine lv_aload_nN hx hb dX1_drop_27 rfl (lv_at hl 1 rfl) ?_
            refine lv_ifnullN (tgt := 42) hx hb dX1_drop_28 (by decide) ?_
            refine zz_nmV hq (fun x15 ex15 hq => ?_)
            refine lv_iinc (v := x15) (lv' := [(2, .int x15), (4, .null), (3, .null), (0, .ref (ad a0))]) hx hb dX1_drop_42 hl (k := 3) rfl (by rw [ex15]; rfl) (by decide) rfl (fun ls hl => ?_)
            refine lv_goto (tgt := 2) hx hb dX1_drop_45 (by decide) ?_
            exact ih2 x15 s12 _ _ _ hq hB (lv_sub hl [3, 0] rfl)
          · refine lv_astore (lv' := [(4, .ref (ad a14)), (3, .null), (0, .ref (ad a0)), (2, .int x4)]) hx hb dX1_drop_25 hl (by decide) rfl (fun ls hl => ?_)
            refine lv_aload_nN hx hb dX1_drop_27 rfl (lv_at hl 1 rfl) ?_
            refine lv_ifnullN (tgt := 42) hx hb dX1_drop_28 (by decide) ?_
            refine zz_nmV hq (fun x16 ex16 hq => ?_)
            refine lv_iinc (v := x16) (lv' := [(2, .int x16), (4, .ref (ad a14)), (3, .null), (0, .ref (ad a0))]) hx hb dX1_drop_42 hl (k := 3) rfl (by rw [ex16]; rfl) (by decide) rfl (fun ls hl => ?_)
            refine lv_goto (tgt := 2) hx hb dX1_drop_45 (by decide) ?_
            exact ih2 x16 s12 _ _ _ hq hB (lv_sub hl [3, 0] rfl)
        · refine lv_astore_n (lv' := [(3, .ref (ad a11)), (0, .ref (ad a0)), (2, .int x4)]) hx hb dX1_drop_17 rfl hl (by decide) rfl (fun ls hl => ?_)
          refine lv_aload_n hx hb dX1_drop_18 rfl (lv_at hl 1 rfl) ?_
          refine lv_iload_n hx hb dX1_drop_19 rfl (lv_at hl 2 rfl) ?_
          refine lv_iconst (v := 1) hx hb dX1_drop_20 (by decide) ?_
          refine lv_iadd hx hb dX1_drop_21 ?_
          refine zz_callVq S hT hB (As := [.int (x4 + (1 : Int32))]) (b := a0) (o := f_X1_find T N s9 a0 (x4 + (1 : Int32))) (c_X1_find l D cy T hT ad N s9 _ a0 (x4 + (1 : Int32))) (cwV 1 hts (gV wSub wd_91 wd_92 wd_93 wd_94 wd_95) rfl rfl rfl (by decide +kernel) ⟨Nat.le_of_ble_eq_true rfl, Nat.le_of_ble_eq_true rfl⟩) (F := TX1) (NF := 2) 1 rfl (by decide) (k_X1_find T N s9 a0 (x4 + (1 : Int32))) rfl hl.1 rfl (Nat.le_of_ble_eq_true rfl) dX1_drop_22 hq (fun s17 H locs hq hB => ?_) (fun a19 s17 H locs hq hB => ?_)
          · refine lv_astoreN (lv' := [(4, .null), (3, .ref (ad a11)), (0, .ref (ad a0)), (2, .int x4)]) hx hb dX1_drop_25 hl (by decide) rfl (fun ls hl => ?_)
            refine lv_aload_n hx hb dX1_drop_27 rfl (lv_at hl 1 rfl) ?_
            refine lv_ifnull hx hb dX1_drop_28 ?_
            refine lv_aloadN hx hb dX1_drop_31 (lv_at hl 0 rfl) ?_
            refine lv_ifnullN (tgt := 42) hx hb dX1_drop_33 (by decide) ?_
            refine zz_nmV hq (fun x20 ex20 hq => ?_)
            refine lv_iinc (v := x20) (lv' := [(2, .int x20), (4, .null), (3, .ref (ad a11)), (0, .ref (ad a0))]) hx hb dX1_drop_42 hl (k := 3) rfl (by rw [ex20]; rfl) (by decide) rfl (fun ls hl => ?_)
            refine lv_goto (tgt := 2) hx hb dX1_drop_45 (by decide) ?_
            exact ih2 x20 s17 _ _ _ hq hB (lv_sub hl [3, 0] rfl)
          · refine lv_astore (lv' := [(4, .ref (ad a19)), (3, .ref (ad a11)), (0, .ref (ad a0)), (2, .int x4)]) hx hb dX1_drop_25 hl (by decide) rfl (fun ls hl => ?_)
            refine lv_aload_n hx hb dX1_drop_27 rfl (lv_at hl 1 rfl) ?_
            refine lv_ifnull hx hb dX1_drop_28 ?_
            refine lv_aload hx hb dX1_drop_31 (lv_at hl 0 rfl) ?_
            refine lv_ifnull hx hb dX1_drop_33 ?_
            refine lv_aload_n hx hb dX1_drop_36 rfl (lv_at hl 1 rfl) ?_
            refine lv_aload hx hb dX1_drop_37 (lv_at hl 0 rfl) ?_
            refine zz_callVv S hT hB (As := [.ref (ad a19)]) (b := a11) (o := f_X0_copy T N s17 a11 a19) (c_X0_copy l D cy T hT ad N s17 _ a11 a19) (cwV 1 hts (gV wSub wd_82 wd_83 wd_84 wd_45 wd_85) rfl rfl rfl (by decide +kernel) ⟨Nat.le_of_ble_eq_true rfl, Nat.le_of_ble_eq_true rfl⟩) (F := TX0) (NF := 5) 0 rfl (by decide) (k_X0_copy T N s17 a11 a19) rfl hl.1 rfl (Nat.le_of_ble_eq_true rfl) dX1_drop_39 hq (fun s21 H locs hq hB => ?_)
            refine zz_nmV hq (fun x22 ex22 hq => ?_)
            refine lv_iinc (v := x22) (lv' := [(2, .int x22), (4, .ref (ad a19)), (3, .ref (ad a11)), (0, .ref (ad a0))]) hx hb dX1_drop_42 hl (k := 3) rfl (by rw [ex22]; rfl) (by decide) rfl (fun ls hl => ?_)
            refine lv_goto (tgt := 2) hx hb dX1_drop_45 (by decide) ?_
            exact ih2 x22 s21 _ _ _ hq hB (lv_sub hl [3, 0] rfl)
  exact L2 N x1 s0 _ _ _ hq hB (lv_sub hl [1, 0] rfl)
def f_X1_dropAt_L10 (T : zT) (N : Nat) (a0 : Nat) (x1 : Int32) (k10 : Int32 → Int32 → zS → Option (Int32 × zS)) (x7 : Int32) (x8 : Int32) (s9 : zS) : Option (Int32 × zS) :=
  if x8 < 0 then (
    some (x7, s9))
  else (
    zb2 (f_X1_find T N s9 a0 x8) fun o11 s10 => zo o11 (
      zn (x8 + (-1 : Int32)) fun x13 =>
      k10 x7 x13 s10)
    fun a12 => (
      zb2 (f_X0_isAt T N s10 a12 x1) fun x15 s14 =>
      if x15 = 0 then (
        zn (x8 + (-1 : Int32)) fun x16 =>
        k10 x7 x16 s14)
      else (
        (f_X1_drop T N s14 a0 x8).bind fun s17 =>
        zn (x7 + (1 : Int32)) fun x18 =>
        zn (x8 + (-1 : Int32)) fun x19 =>
        k10 x18 x19 s17)))
def f_X1_dropAt (T : zT) (N : Nat) (s0 : zS) (a0 : Nat) (x1 : Int32) : Option (Int32 × zS) :=
  zz1 (T.1 a0 = 1) <|
  (gR T s0 a0 1 0).bind fun a4 =>
  (aL T a4 15).bind fun x5 =>
  zn (x5 - (1 : Int32)) fun x6 =>
  zl3 (f_X1_dropAt_L10 T N a0 x1) N (0 : Int32) x6 s0
theorem k_X1_dropAt (T : zT) (N : Nat) (s0 : zS) (a0 : Nat) (x1 : Int32) : ∀ q, f_X1_dropAt T N s0 a0 x1 = some q → T.1 a0 = 1 := by
  intro q h
  unfold f_X1_dropAt at h
  exact zz_guard h (fun h _ => h)
set_option maxHeartbeats 4000000 in
set_option maxRecDepth 100000 in
theorem c_X1_dropAt (l : Launch) (D : va_G) (cy : Nat → ClassId) (T : zT) (hT : zok T) (ad : Nat → Nat) (N : Nat) (s0 : zS) (sz : Nat) (a0 : Nat) (x1 : Int32) : ∀ (r0 : Int32) (σ0 : zS), f_X1_dropAt T N s0 a0 x1 = some (r0, σ0) → Met l yX1_dropAt wsX1_dropAt ({ frames := 2, cells := 0, slots := 0, locals := 45 }) (va_Pc [.ref (ad a0), .int x1] (zPre D cy T ad s0 sz)) (va_Qi (fun (r2 : Int32) (σ2 : zS) => r2 = r0 ∧ σ2 = σ0) (zAt D cy T ad (zA T ad sz)) (zA T ad sz)) 0 0 (zA T ad sz) := by
  intro r0 σ0 hq
  refine Met.ofW (cc := cX1_dropAt) (maxL := 5) (ret := (some .int)) (by decide) rfl ?_
  intro p e s m args below meth c s₁ B hml hv
  obtain ⟨hargs, hsz, hP, hK, hD0, hN⟩ := hv
  have hx := B.exec
  have hb := B.bytes
  have hr := B.returns
  have hts := atoms_spec (ws := wsX1_dropAt) B.pre
  have hown : s.vm.findClass RX1 = some m.cls := findClass_of_methodNamed B.named
  have hlocks := B.notSynchronized
  have S : CallFix p m c cX1_dropAt 5 s args wsX1_dropAt RX1 := ⟨hx, hb, hml, hown, hts⟩
  subst hsz
  have hB : zB D cy T ad (zA T ad s.heap.size) s.heap s0 s.heap [] s := zz_entry hP hK hD0 hN
  obtain ⟨ls, hent, hl⟩ := zz_ent m hargs (n := 5) (Nat.le_of_ble_eq_true rfl)
  rw [hent]
  have hl : lv_has ls 5 [(0, .ref (ad a0)), (1, .int x1)] := hl
  have iwX1 : ∀ w ∈ u_ws RX1 TX1 2, w ∈ wsX1_dropAt := fun w h => wS (inWX1 w h)
  unfold f_X1_dropAt at hq
  refine zz_guard hq (fun hk0 hq => ?_)
  refine lv_iconst (v := 0) hx hb dX1_dropAt_0 (by decide) ?_
  refine lv_istore_n (lv' := [(2, .int (0 : Int32)), (0, .ref (ad a0)), (1, .int x1)]) hx hb dX1_dropAt_1 rfl hl (by decide) rfl (fun ls hl => ?_)
  refine lv_aload_n hx hb dX1_dropAt_2 rfl (lv_at hl 1 rfl) ?_
  refine zz_getR S hT hB (C := RX1) (ref := "DiagramDesk$Connectors") (F := TX1) (N := 2) (index := 11) 1 0 iwX1 rfl (by decide) (by decide) rfl rfl (wS wd_80) (fun _ h9 => h9) dX1_dropAt_3 hq (fun a4 hq => ?_)
  refine zz_alen S hT hB 15 (by decide) (by decide) dX1_dropAt_6 hq (fun x5 hq => ?_)
  refine lv_iconst (v := 1) hx hb dX1_dropAt_7 (by decide) ?_
  refine lv_isub hx hb dX1_dropAt_8 ?_
  refine zz_nmI hq (fun x6 hq => ?_)
  refine lv_istore_n (lv' := [(3, .int x6), (2, .int (0 : Int32)), (0, .ref (ad a0)), (1, .int x1)]) hx hb dX1_dropAt_9 rfl hl (by decide) rfl (fun ls hl => ?_)
  have L10 : ∀ (n : Nat) (x7 : Int32) (x8 : Int32) (s9 : zS) (H : Heap) (locs : List Loc) (ls : Array Slot), zl3 (f_X1_dropAt_L10 T N a0 x1) n x7 x8 s9 = some (r0, σ0) → zB D cy T ad (zA T ad s.heap.size) s.heap s9 H locs s → lv_has ls 5 [(0, .ref (ad a0)), (1, .int x1), (2, .int x7), (3, .int x8)] → W p l e (headSpec wsX1_dropAt ({ frames := 2, cells := 0, slots := 0, locals := 45 } : Room)).room s m args below meth c H locs 0 0 (MQ below (va_Qi (fun (r2 : Int32) (σ2 : zS) => r2 = r0 ∧ σ2 = σ0) (zAt D cy T ad (zA T ad s.heap.size)) (zA T ad s.heap.size)) args s 0 0 (zA T ad s.heap.size)) (F0 m 10 ls []) := by
    intro n
    induction n with
    | zero => intro x7 x8 s9 H locs ls hq; exact zz_none hq
    | succ n ih10 =>
      intro x7 x8 s9 H locs ls hq hB hl
      rw [zl3] at hq
      generalize zl3 (f_X1_dropAt_L10 T N a0 x1) n = k10 at ih10 hq
      unfold f_X1_dropAt_L10 at hq
      refine lv_iload_n hx hb dX1_dropAt_10 rfl (lv_at hl 3 rfl) ?_
      refine zz_if_lt (tgt := 49) hx hb dX1_dropAt_11 (by decide) hq (fun hq => ?_) (fun hq => ?_)
      · refine lv_iload_n hx hb dX1_dropAt_49 rfl (lv_at hl 2 rfl) ?_
        exact zz_iret S hB hr hlocks dX1_dropAt_50 hq
      · refine lv_aload_n hx hb dX1_dropAt_14 rfl (lv_at hl 0 rfl) ?_
        refine lv_iload_n hx hb dX1_dropAt_15 rfl (lv_at hl 3 rfl) ?_
        refine zz_callVq S hT hB (As := [.int x8]) (b := a0) (o := f_X1_find T N s9 a0 x8) (c_X1_find l D cy T hT ad N s9 _ a0 x8) (cwV 1 hts (gV wSub wd_91 wd_92 wd_93 wd_94 wd_95) rfl rfl rfl (by decide +kernel) ⟨Nat.le_of_ble_eq_true rfl, Nat.le_of_ble_eq_true rfl⟩) (F := TX1) (NF := 2) 1 rfl (by decide) (k_X1_find T N s9 a0 x8) rfl hl.1 rfl (Nat.le_of_ble_eq_true rfl) dX1_dropAt_16 hq (fun s10 H locs hq hB => ?_) (fun a12 s10 H locs hq hB => ?_)
        · refine lv_astoreN (lv' := [(4, .null), (0, .ref (ad a0)), (1, .int x1), (2, .int x7), (3, .int x8)]) hx hb dX1_dropAt_19 hl (by decide) rfl (fun ls hl => ?_)
          refine lv_aloadN hx hb dX1_dropAt_21 (lv_at hl 0 rfl) ?_
          refine lv_ifnullN (tgt := 43) hx hb dX1_dropAt_23 (by decide) ?_
          refine zz_nmV hq (fun x13 ex13 hq => ?_)
          refine lv_iinc (v := x13) (lv' := [(3, .int x13), (4, .null), (0, .ref (ad a0)), (1, .int x1), (2, .int x7)]) hx hb dX1_dropAt_43 hl (k := 4) rfl (by rw [ex13]; rfl) (by decide) rfl (fun ls hl => ?_)
          refine lv_goto (tgt := 10) hx hb dX1_dropAt_46 (by decide) ?_
          exact ih10 x7 x13 s10 _ _ _ hq hB (lv_sub hl [2, 3, 4, 0] rfl)
        · refine lv_astore (lv' := [(4, .ref (ad a12)), (0, .ref (ad a0)), (1, .int x1), (2, .int x7), (3, .int x8)]) hx hb dX1_dropAt_19 hl (by decide) rfl (fun ls hl => ?_)
          refine lv_aload hx hb dX1_dropAt_21 (lv_at hl 0 rfl) ?_
          refine lv_ifnull hx hb dX1_dropAt_23 ?_
          refine lv_aload hx hb dX1_dropAt_26 (lv_at hl 0 rfl) ?_
          refine lv_iload_n hx hb dX1_dropAt_28 rfl (lv_at hl 2 rfl) ?_
          refine zz_callVi S hT hB (As := [.int x1]) (b := a12) (o := f_X0_isAt T N s10 a12 x1) (c_X0_isAt l D cy T hT ad N s10 _ a12 x1) (cwV 1 hts (gV wSub wd_96 wd_73 wd_74 wd_45 wd_75) rfl rfl rfl (by decide +kernel) ⟨Nat.le_of_ble_eq_true rfl, Nat.le_of_ble_eq_true rfl⟩) (F := TX0) (NF := 5) 0 rfl (by decide) (k_X0_isAt T N s10 a12 x1) rfl hl.1 rfl (Nat.le_of_ble_eq_true rfl) dX1_dropAt_29 hq (fun x15 s14 H locs hq hB => ?_)
          refine zz_if_eq (tgt := 43) hx hb dX1_dropAt_32 (by decide) hq (fun hq => ?_) (fun hq => ?_)
          · refine zz_nmV hq (fun x16 ex16 hq => ?_)
            refine lv_iinc (v := x16) (lv' := [(3, .int x16), (4, .ref (ad a12)), (0, .ref (ad a0)), (1, .int x1), (2, .int x7)]) hx hb dX1_dropAt_43 hl (k := 4) rfl (by rw [ex16]; rfl) (by decide) rfl (fun ls hl => ?_)
            refine lv_goto (tgt := 10) hx hb dX1_dropAt_46 (by decide) ?_
            exact ih10 x7 x16 s14 _ _ _ hq hB (lv_sub hl [2, 3, 4, 0] rfl)
          · refine lv_aload_n hx hb dX1_dropAt_35 rfl (lv_at hl 1 rfl) ?_
            refine lv_iload_n hx hb dX1_dropAt_36 rfl (lv_at hl 4 rfl) ?_
            refine zz_callVv S hT hB (As := [.int x8]) (b := a0) (o := f_X1_drop T N s14 a0 x8) (c_X1_drop l D cy T hT ad N s14 _ a0 x8) (cwV 1 hts (gV wSub wd_97 wd_98 wd_99 wd_94 wd_100) rfl rfl rfl (by decide +kernel) ⟨Nat.le_of_ble_eq_true rfl, Nat.le_of_ble_eq_true rfl⟩) (F := TX1) (NF := 2) 1 rfl (by decide) (k_X1_drop T N s14 a0 x8) rfl hl.1 rfl (Nat.le_of_ble_eq_true rfl) dX1_dropAt_37 hq (fun s17 H locs hq hB => ?_)
            refine zz_nmV hq (fun x18 ex18 hq => ?_)
            refine lv_iinc (v := x18) (lv' := [(2, .int x18), (4, .ref (ad a12)), (0, .ref (ad a0)), (1, .int x1), (3, .int x8)]) hx hb dX1_dropAt_40 hl (k := 3) rfl (by rw [ex18]; rfl) (by decide) rfl (fun ls hl => ?_)
            refine zz_nmV hq (fun x19 ex19 hq => ?_)
            refine lv_iinc (v := x19) (lv' := [(3, .int x19), (2, .int x18), (4, .ref (ad a12)), (0, .ref (ad a0)), (1, .int x1)]) hx hb dX1_dropAt_43 hl (k := 4) rfl (by rw [ex19]; rfl) (by decide) rfl (fun ls hl => ?_)
            refine lv_goto (tgt := 10) hx hb dX1_dropAt_46 (by decide) ?_
            exact ih10 x18 x19 s17 _ _ _ hq hB (lv_sub hl [3, 4, 1, 0] rfl)
  exact L10 N (0 : Int32) x6 s0 _ _ _ hq hB (lv_sub hl [2, 3, 1, 0] rfl)
def f_X1_countAt_L4 (T : zT) (N : Nat) (a0 : Nat) (x1 : Int32) (k4 : Int32 → Int32 → zS → Option (Int32 × zS)) (x4 : Int32) (x5 : Int32) (s6 : zS) : Option (Int32 × zS) :=
  (gR T s6 a0 1 0).bind fun a7 =>
  (aL T a7 15).bind fun x8 =>
  if x8 ≤ x5 then (
    some (x4, s6))
  else (
    zb2 (f_X1_find T N s6 a0 x5) fun o10 s9 => zo o10 (
      zn (x5 + (1 : Int32)) fun x12 =>
      k4 x4 x12 s9)
    fun a11 => (
      zb2 (f_X0_isAt T N s9 a11 x1) fun x14 s13 =>
      if x14 = 0 then (
        zn (x5 + (1 : Int32)) fun x15 =>
        k4 x4 x15 s13)
      else (
        zn (x4 + (1 : Int32)) fun x16 =>
        zn (x5 + (1 : Int32)) fun x17 =>
        k4 x16 x17 s13)))
def f_X1_countAt (T : zT) (N : Nat) (s0 : zS) (a0 : Nat) (x1 : Int32) : Option (Int32 × zS) :=
  zz1 (T.1 a0 = 1) <|
  zl3 (f_X1_countAt_L4 T N a0 x1) N (0 : Int32) (0 : Int32) s0
theorem k_X1_countAt (T : zT) (N : Nat) (s0 : zS) (a0 : Nat) (x1 : Int32) : ∀ q, f_X1_countAt T N s0 a0 x1 = some q → T.1 a0 = 1 := by
  intro q h
  unfold f_X1_countAt at h
  exact zz_guard h (fun h _ => h)
set_option maxHeartbeats 4000000 in
set_option maxRecDepth 100000 in
theorem c_X1_countAt (l : Launch) (D : va_G) (cy : Nat → ClassId) (T : zT) (hT : zok T) (ad : Nat → Nat) (N : Nat) (s0 : zS) (sz : Nat) (a0 : Nat) (x1 : Int32) : ∀ (r0 : Int32) (σ0 : zS), f_X1_countAt T N s0 a0 x1 = some (r0, σ0) → Met l yX1_countAt wsX1_countAt ({ frames := 1, cells := 0, slots := 0, locals := 21 }) (va_Pc [.ref (ad a0), .int x1] (zPre D cy T ad s0 sz)) (va_Qi (fun (r2 : Int32) (σ2 : zS) => r2 = r0 ∧ σ2 = σ0) (zAt D cy T ad (zA T ad sz)) (zA T ad sz)) 0 0 (zA T ad sz) := by
  intro r0 σ0 hq
  refine Met.ofW (cc := cX1_countAt) (maxL := 5) (ret := (some .int)) (by decide) rfl ?_
  intro p e s m args below meth c s₁ B hml hv
  obtain ⟨hargs, hsz, hP, hK, hD0, hN⟩ := hv
  have hx := B.exec
  have hb := B.bytes
  have hr := B.returns
  have hts := atoms_spec (ws := wsX1_countAt) B.pre
  have hown : s.vm.findClass RX1 = some m.cls := findClass_of_methodNamed B.named
  have hlocks := B.notSynchronized
  have S : CallFix p m c cX1_countAt 5 s args wsX1_countAt RX1 := ⟨hx, hb, hml, hown, hts⟩
  subst hsz
  have hB : zB D cy T ad (zA T ad s.heap.size) s.heap s0 s.heap [] s := zz_entry hP hK hD0 hN
  obtain ⟨ls, hent, hl⟩ := zz_ent m hargs (n := 5) (Nat.le_of_ble_eq_true rfl)
  rw [hent]
  have hl : lv_has ls 5 [(0, .ref (ad a0)), (1, .int x1)] := hl
  have iwX1 : ∀ w ∈ u_ws RX1 TX1 2, w ∈ wsX1_countAt := fun w h => wS (inWX1 w h)
  unfold f_X1_countAt at hq
  refine zz_guard hq (fun hk0 hq => ?_)
  refine lv_iconst (v := 0) hx hb dX1_countAt_0 (by decide) ?_
  refine lv_istore_n (lv' := [(2, .int (0 : Int32)), (0, .ref (ad a0)), (1, .int x1)]) hx hb dX1_countAt_1 rfl hl (by decide) rfl (fun ls hl => ?_)
  refine lv_iconst (v := 0) hx hb dX1_countAt_2 (by decide) ?_
  refine lv_istore_n (lv' := [(3, .int (0 : Int32)), (2, .int (0 : Int32)), (0, .ref (ad a0)), (1, .int x1)]) hx hb dX1_countAt_3 rfl hl (by decide) rfl (fun ls hl => ?_)
  have L4 : ∀ (n : Nat) (x4 : Int32) (x5 : Int32) (s6 : zS) (H : Heap) (locs : List Loc) (ls : Array Slot), zl3 (f_X1_countAt_L4 T N a0 x1) n x4 x5 s6 = some (r0, σ0) → zB D cy T ad (zA T ad s.heap.size) s.heap s6 H locs s → lv_has ls 5 [(0, .ref (ad a0)), (1, .int x1), (2, .int x4), (3, .int x5)] → W p l e (headSpec wsX1_countAt ({ frames := 1, cells := 0, slots := 0, locals := 21 } : Room)).room s m args below meth c H locs 0 0 (MQ below (va_Qi (fun (r2 : Int32) (σ2 : zS) => r2 = r0 ∧ σ2 = σ0) (zAt D cy T ad (zA T ad s.heap.size)) (zA T ad s.heap.size)) args s 0 0 (zA T ad s.heap.size)) (F0 m 4 ls []) := by
    intro n
    induction n with
    | zero => intro x4 x5 s6 H locs ls hq; exact zz_none hq
    | succ n ih4 =>
      intro x4 x5 s6 H locs ls hq hB hl
      rw [zl3] at hq
      generalize zl3 (f_X1_countAt_L4 T N a0 x1) n = k4 at ih4 hq
      unfold f_X1_countAt_L4 at hq
      refine lv_iload_n hx hb dX1_countAt_4 rfl (lv_at hl 3 rfl) ?_
      refine lv_aload_n hx hb dX1_countAt_5 rfl (lv_at hl 0 rfl) ?_
      refine zz_getR S hT hB (C := RX1) (ref := "DiagramDesk$Connectors") (F := TX1) (N := 2) (index := 11) 1 0 iwX1 rfl (by decide) (by decide) rfl rfl (wS wd_80) (fun _ h9 => h9) dX1_countAt_6 hq (fun a7 hq => ?_)
      refine zz_alen S hT hB 15 (by decide) (by decide) dX1_countAt_9 hq (fun x8 hq => ?_)
      refine zz_icmp_ge (tgt := 43) hx hb dX1_countAt_10 (by decide) hq (fun hq => ?_) (fun hq => ?_)
      · refine lv_iload_n hx hb dX1_countAt_43 rfl (lv_at hl 2 rfl) ?_
        exact zz_iret S hB hr hlocks dX1_countAt_44 hq
      · refine lv_aload_n hx hb dX1_countAt_13 rfl (lv_at hl 0 rfl) ?_
        refine lv_iload_n hx hb dX1_countAt_14 rfl (lv_at hl 3 rfl) ?_
        refine zz_callVq S hT hB (As := [.int x5]) (b := a0) (o := f_X1_find T N s6 a0 x5) (c_X1_find l D cy T hT ad N s6 _ a0 x5) (cwV 1 hts (gV wSub wd_91 wd_92 wd_93 wd_94 wd_95) rfl rfl rfl (by decide +kernel) ⟨Nat.le_of_ble_eq_true rfl, Nat.le_of_ble_eq_true rfl⟩) (F := TX1) (NF := 2) 1 rfl (by decide) (k_X1_find T N s6 a0 x5) rfl hl.1 rfl (Nat.le_of_ble_eq_true rfl) dX1_countAt_15 hq (fun s9 H locs hq hB => ?_) (fun a11 s9 H locs hq hB => ?_)
        · refine lv_astoreN (lv' := [(4, .null), (0, .ref (ad a0)), (1, .int x1), (2, .int x4), (3, .int x5)]) hx hb dX1_countAt_18 hl (by decide) rfl (fun ls hl => ?_)
          refine lv_aloadN hx hb dX1_countAt_20 (lv_at hl 0 rfl) ?_
          refine lv_ifnullN (tgt := 37) hx hb dX1_countAt_22 (by decide) ?_
          refine zz_nmV hq (fun x12 ex12 hq => ?_)
          refine lv_iinc (v := x12) (lv' := [(3, .int x12), (4, .null), (0, .ref (ad a0)), (1, .int x1), (2, .int x4)]) hx hb dX1_countAt_37 hl (k := 4) rfl (by rw [ex12]; rfl) (by decide) rfl (fun ls hl => ?_)
          refine lv_goto (tgt := 4) hx hb dX1_countAt_40 (by decide) ?_
          exact ih4 x4 x12 s9 _ _ _ hq hB (lv_sub hl [2, 3, 4, 0] rfl)
        · refine lv_astore (lv' := [(4, .ref (ad a11)), (0, .ref (ad a0)), (1, .int x1), (2, .int x4), (3, .int x5)]) hx hb dX1_countAt_18 hl (by decide) rfl (fun ls hl => ?_)
          refine lv_aload hx hb dX1_countAt_20 (lv_at hl 0 rfl) ?_
          refine lv_ifnull hx hb dX1_countAt_22 ?_
          refine lv_aload hx hb dX1_countAt_25 (lv_at hl 0 rfl) ?_
          refine lv_iload_n hx hb dX1_countAt_27 rfl (lv_at hl 2 rfl) ?_
          refine zz_callVi S hT hB (As := [.int x1]) (b := a11) (o := f_X0_isAt T N s9 a11 x1) (c_X0_isAt l D cy T hT ad N s9 _ a11 x1) (cwV 1 hts (gV wSub wd_96 wd_73 wd_74 wd_45 wd_75) rfl rfl rfl (by decide +kernel) ⟨Nat.le_of_ble_eq_true rfl, Nat.le_of_ble_eq_true rfl⟩) (F := TX0) (NF := 5) 0 rfl (by decide) (k_X0_isAt T N s9 a11 x1) rfl hl.1 rfl (Nat.le_of_ble_eq_true rfl) dX1_countAt_28 hq (fun x14 s13 H locs hq hB => ?_)
          refine zz_if_eq (tgt := 37) hx hb dX1_countAt_31 (by decide) hq (fun hq => ?_) (fun hq => ?_)
          · refine zz_nmV hq (fun x15 ex15 hq => ?_)
            refine lv_iinc (v := x15) (lv' := [(3, .int x15), (4, .ref (ad a11)), (0, .ref (ad a0)), (1, .int x1), (2, .int x4)]) hx hb dX1_countAt_37 hl (k := 4) rfl (by rw [ex15]; rfl) (by decide) rfl (fun ls hl => ?_)
            refine lv_goto (tgt := 4) hx hb dX1_countAt_40 (by decide) ?_
            exact ih4 x4 x15 s13 _ _ _ hq hB (lv_sub hl [2, 3, 4, 0] rfl)
          · refine zz_nmV hq (fun x16 ex16 hq => ?_)
            refine lv_iinc (v := x16) (lv' := [(2, .int x16), (4, .ref (ad a11)), (0, .ref (ad a0)), (1, .int x1), (3, .int x5)]) hx hb dX1_countAt_34 hl (k := 3) rfl (by rw [ex16]; rfl) (by decide) rfl (fun ls hl => ?_)
            refine zz_nmV hq (fun x17 ex17 hq => ?_)
            refine lv_iinc (v := x17) (lv' := [(3, .int x17), (2, .int x16), (4, .ref (ad a11)), (0, .ref (ad a0)), (1, .int x1)]) hx hb dX1_countAt_37 hl (k := 4) rfl (by rw [ex17]; rfl) (by decide) rfl (fun ls hl => ?_)
            refine lv_goto (tgt := 4) hx hb dX1_countAt_40 (by decide) ?_
            exact ih4 x16 x17 s13 _ _ _ hq hB (lv_sub hl [3, 4, 1, 0] rfl)
  exact L4 N (0 : Int32) (0 : Int32) s0 _ _ _ hq hB (lv_sub hl [2, 3, 1, 0] rfl)
