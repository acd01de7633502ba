def f_X6_start (T : zT) (N : Nat) (s0 : zS) (a0 : Nat) (x1 : Int32) : Option (Int32 × zS) :=
  zz1 (T.1 a0 = 6) <|
  if ¬ x1 = 0 then (
    (gI T s0 a0 6 3).bind fun x4 =>
    some (x4, s0))
  else (
    (gI T s0 a0 6 2).bind fun x5 =>
    some (x5, s0))
theorem k_X6_start (T : zT) (N : Nat) (s0 : zS) (a0 : Nat) (x1 : Int32) : ∀ q, f_X6_start T N s0 a0 x1 = some q → T.1 a0 = 6 := by
  intro q h
  unfold f_X6_start at h
  exact zz_guard h (fun h _ => h)
set_option maxHeartbeats 4000000 in
set_option maxRecDepth 100000 in
theorem c_X6_start (l : Launch) (D : va_G) (cy : Nat → ClassId) (T : zT) (hT : zok T) (ad : Nat → Nat) (N : Nat) (s0 : zS) (sz : Nat) (a0 : Nat) (x1 : Int32) : ∀ (r0 : Int32) (σ0 : zS), f_X6_start T N s0 a0 x1 = some (r0, σ0) → Met l yX6_start wsX6_start ({ frames := 0, cells := 0, slots := 0, locals := 0 }) (va_Pc [.ref (ad a0), .int x1] (zPre D cy T ad s0 sz)) (va_Qi (fun (r2 : Int32) (σ2 : zS) => r2 = r0 ∧ σ2 = σ0) (zAt D cy T ad (zA T ad sz)) (zA T ad sz)) 0 0 (zA T ad sz) := by
  intro r0 σ0 hq
  refine Met.ofW (cc := cX6_start) (maxL := 2) (ret := (some .int)) (by decide) rfl ?_
  intro p e s m args below meth c s₁ B hml hv
  obtain ⟨hargs, hsz, hP, hK, hD0, hN⟩ := hv
  have hx := B.exec
  have hb := B.bytes
  have hr := B.returns
  have hts := atoms_spec (ws := wsX6_start) B.pre
  have hown : s.vm.findClass RX6 = some m.cls := findClass_of_methodNamed B.named
  have hlocks := B.notSynchronized
  have S : CallFix p m c cX6_start 2 s args wsX6_start RX6 := ⟨hx, hb, hml, hown, hts⟩
  subst hsz
  have hB : zB D cy T ad (zA T ad s.heap.size) s.heap s0 s.heap [] s := zz_entry hP hK hD0 hN
  obtain ⟨ls, hent, hl⟩ := zz_ent m hargs (n := 2) (Nat.le_of_ble_eq_true rfl)
  rw [hent]
  have hl : lv_has ls 2 [(0, .ref (ad a0)), (1, .int x1)] := hl
  have iwX6 : ∀ w ∈ u_ws RX6 TX6 8, w ∈ wsX6_start := by decide +kernel
  have lk0 : Cond.fieldLink RX6 22 "DiagramDesk$Shape" "top" "I" ∈ wsX6_start := by decide +kernel
  have lk1 : Cond.fieldLink RX6 19 "DiagramDesk$Shape" "left" "I" ∈ wsX6_start := by decide +kernel
  unfold f_X6_start at hq
  refine zz_guard hq (fun hk0 hq => ?_)
  refine lv_iload_n hx hb dX6_start_0 rfl (lv_at hl 1 rfl) ?_
  refine zz_if_ne (tgt := 11) hx hb dX6_start_1 (by decide) hq (fun hq => ?_) (fun hq => ?_)
  · refine lv_aload_n hx hb dX6_start_11 rfl (lv_at hl 0 rfl) ?_
    refine zz_get S hT hB (C := RX6) (ref := "DiagramDesk$Shape") (F := TX6) (N := 8) (index := 22) 6 3 iwX6 rfl (by decide) (by decide) rfl rfl lk0 (fun _ h9 => h9) dX6_start_12 hq (fun x4 hq => ?_)
    exact zz_iret S hB hr hlocks dX6_start_15 hq
  · refine lv_aload_n hx hb dX6_start_4 rfl (lv_at hl 0 rfl) ?_
    refine zz_get S hT hB (C := RX6) (ref := "DiagramDesk$Shape") (F := TX6) (N := 8) (index := 19) 6 2 iwX6 rfl (by decide) (by decide) rfl rfl lk1 (fun _ h9 => h9) dX6_start_5 hq (fun x5 hq => ?_)
    refine lv_goto (tgt := 15) hx hb dX6_start_8 (by decide) ?_
    exact zz_iret S hB hr hlocks dX6_start_15 hq
def f_X6_size (T : zT) (N : Nat) (s0 : zS) (a0 : Nat) (x1 : Int32) : Option (Int32 × zS) :=
  zz1 (T.1 a0 = 6) <|
  if ¬ x1 = 0 then (
    (gI T s0 a0 6 5).bind fun x4 =>
    some (x4, s0))
  else (
    (gI T s0 a0 6 4).bind fun x5 =>
    some (x5, s0))
theorem k_X6_size (T : zT) (N : Nat) (s0 : zS) (a0 : Nat) (x1 : Int32) : ∀ q, f_X6_size T N s0 a0 x1 = some q → T.1 a0 = 6 := by
  intro q h
  unfold f_X6_size at h
  exact zz_guard h (fun h _ => h)
set_option maxHeartbeats 4000000 in
set_option maxRecDepth 100000 in
theorem c_X6_size (l : Launch) (D : va_G) (cy : Nat → ClassId) (T : zT) (hT : zok T) (ad : Nat → Nat) (N : Nat) (s0 : zS) (sz : Nat) (a0 : Nat) (x1 : Int32) : ∀ (r0 : Int32) (σ0 : zS), f_X6_size T N s0 a0 x1 = some (r0, σ0) → Met l yX6_size wsX6_size ({ frames := 0, cells := 0, slots := 0, locals := 0 }) (va_Pc [.ref (ad a0), .int x1] (zPre D cy T ad s0 sz)) (va_Qi (fun (r2 : Int32) (σ2 : zS) => r2 = r0 ∧ σ2 = σ0) (zAt D cy T ad (zA T ad sz)) (zA T ad sz)) 0 0 (zA T ad sz) := by
  intro r0 σ0 hq
  refine Met.ofW (cc := cX6_size) (maxL := 2) (ret := (some .int)) (by decide) rfl ?_
  intro p e s m args below meth c s₁ B hml hv
  obtain ⟨hargs, hsz, hP, hK, hD0, hN⟩ := hv
  have hx := B.exec
  have hb := B.bytes
  have hr := B.returns
  have hts := atoms_spec (ws := wsX6_size) B.pre
  have hown : s.vm.findClass RX6 = some m.cls := findClass_of_methodNamed B.named
  have hlocks := B.notSynchronized
  have S : CallFix p m c cX6_size 2 s args wsX6_size RX6 := ⟨hx, hb, hml, hown, hts⟩
  subst hsz
  have hB : zB D cy T ad (zA T ad s.heap.size) s.heap s0 s.heap [] s := zz_entry hP hK hD0 hN
  obtain ⟨ls, hent, hl⟩ := zz_ent m hargs (n := 2) (Nat.le_of_ble_eq_true rfl)
  rw [hent]
  have hl : lv_has ls 2 [(0, .ref (ad a0)), (1, .int x1)] := hl
  have iwX6 : ∀ w ∈ u_ws RX6 TX6 8, w ∈ wsX6_size := by decide +kernel
  have lk0 : Cond.fieldLink RX6 28 "DiagramDesk$Shape" "height" "I" ∈ wsX6_size := by decide +kernel
  have lk1 : Cond.fieldLink RX6 25 "DiagramDesk$Shape" "width" "I" ∈ wsX6_size := by decide +kernel
  unfold f_X6_size at hq
  refine zz_guard hq (fun hk0 hq => ?_)
  refine lv_iload_n hx hb dX6_size_0 rfl (lv_at hl 1 rfl) ?_
  refine zz_if_ne (tgt := 11) hx hb dX6_size_1 (by decide) hq (fun hq => ?_) (fun hq => ?_)
  · refine lv_aload_n hx hb dX6_size_11 rfl (lv_at hl 0 rfl) ?_
    refine zz_get S hT hB (C := RX6) (ref := "DiagramDesk$Shape") (F := TX6) (N := 8) (index := 28) 6 5 iwX6 rfl (by decide) (by decide) rfl rfl lk0 (fun _ h9 => h9) dX6_size_12 hq (fun x4 hq => ?_)
    exact zz_iret S hB hr hlocks dX6_size_15 hq
  · refine lv_aload_n hx hb dX6_size_4 rfl (lv_at hl 0 rfl) ?_
    refine zz_get S hT hB (C := RX6) (ref := "DiagramDesk$Shape") (F := TX6) (N := 8) (index := 25) 6 4 iwX6 rfl (by decide) (by decide) rfl rfl lk1 (fun _ h9 => h9) dX6_size_5 hq (fun x5 hq => ?_)
    refine lv_goto (tgt := 15) hx hb dX6_size_8 (by decide) ?_
    exact zz_iret S hB hr hlocks dX6_size_15 hq
def f_J9_floorDiv_7cf53 (T : zT) (N : Nat) (s0 : zS) (x0 : Int32) (x1 : Int32) : Option (Int32 × zS) :=
  zz1 (¬ x1 = 0) <|
  zn (x0 / x1) fun x4 =>
  if 0 ≤ (x0 ^^^ x1) then (
    some (x4, s0))
  else (
    if (x4 * x1) = x0 then (
      some (x4, s0))
    else (
      some (x4 - (1 : Int32), s0)))
set_option maxHeartbeats 4000000 in
set_option maxRecDepth 100000 in
theorem c_J9_floorDiv_7cf53 (l : Launch) (D : va_G) (cy : Nat → ClassId) (T : zT) (hT : zok T) (ad : Nat → Nat) (N : Nat) (s0 : zS) (sz : Nat) (x0 : Int32) (x1 : Int32) : ∀ (r0 : Int32) (σ0 : zS), f_J9_floorDiv_7cf53 T N s0 x0 x1 = some (r0, σ0) → Met l yJ9_floorDiv_7cf53 wsJ9_floorDiv_7cf53 ({ frames := 0, cells := 0, slots := 0, locals := 0 }) (va_Pc [.int x0, .int x1] (zPre D cy T ad s0 sz)) (va_Qi (fun (r2 : Int32) (σ2 : zS) => r2 = r0 ∧ σ2 = σ0) (zAt D cy T ad (zA T ad sz)) (zA T ad sz)) 0 0 (zA T ad sz) := by
  intro r0 σ0 hq
  refine Met.ofW (cc := cJ9_floorDiv_7cf53) (maxL := 3) (ret := (some .int)) (by decide) rfl ?_
  intro p e s m args below meth c s₁ B hml hv
  obtain ⟨hargs, hsz, hP, hK, hD0, hN⟩ := hv
  have hx := B.exec
  have hb := B.bytes
  have hr := B.returns
  have hts := atoms_spec (ws := wsJ9_floorDiv_7cf53) B.pre
  have hown : s.vm.findClass RJ9 = some m.cls := findClass_of_methodNamed B.named
  have hlocks := B.notSynchronized
  have S : CallFix p m c cJ9_floorDiv_7cf53 3 s args wsJ9_floorDiv_7cf53 RJ9 := ⟨hx, hb, hml, hown, hts⟩
  subst hsz
  have hB : zB D cy T ad (zA T ad s.heap.size) s.heap s0 s.heap [] s := zz_entry hP hK hD0 hN
  obtain ⟨ls, hent, hl⟩ := zz_ent m hargs (n := 3) (Nat.le_of_ble_eq_true rfl)
  rw [hent]
  have hl : lv_has ls 3 [(0, .int x0), (1, .int x1)] := hl
  unfold f_J9_floorDiv_7cf53 at hq
  refine lv_iload_n hx hb dJ9_floorDiv_7cf53_0 rfl (lv_at hl 0 rfl) ?_
  refine lv_iload_n hx hb dJ9_floorDiv_7cf53_1 rfl (lv_at hl 1 rfl) ?_
  refine zz_guard hq (fun hne hq => ?_)
  refine lv_idiv hx hb dJ9_floorDiv_7cf53_2 hne ?_
  refine zz_nmI hq (fun x4 hq => ?_)
  refine lv_istore_n (lv' := [(2, .int x4), (0, .int x0), (1, .int x1)]) hx hb dJ9_floorDiv_7cf53_3 rfl hl (by decide) rfl (fun ls hl => ?_)
  refine lv_iload_n hx hb dJ9_floorDiv_7cf53_4 rfl (lv_at hl 1 rfl) ?_
  refine lv_iload_n hx hb dJ9_floorDiv_7cf53_5 rfl (lv_at hl 2 rfl) ?_
  refine lv_ixor hx hb dJ9_floorDiv_7cf53_6 ?_
  refine zz_if_ge (tgt := 21) hx hb dJ9_floorDiv_7cf53_7 (by decide) hq (fun hq => ?_) (fun hq => ?_)
  · refine lv_iload_n hx hb dJ9_floorDiv_7cf53_21 rfl (lv_at hl 0 rfl) ?_
    exact zz_iret S hB hr hlocks dJ9_floorDiv_7cf53_22 hq
  · refine lv_iload_n hx hb dJ9_floorDiv_7cf53_10 rfl (lv_at hl 0 rfl) ?_
    refine lv_iload_n hx hb dJ9_floorDiv_7cf53_11 rfl (lv_at hl 2 rfl) ?_
    refine lv_imul hx hb dJ9_floorDiv_7cf53_12 ?_
    refine lv_iload_n hx hb dJ9_floorDiv_7cf53_13 rfl (lv_at hl 1 rfl) ?_
    refine zz_icmp_eq (tgt := 21) hx hb dJ9_floorDiv_7cf53_14 (by decide) hq (fun hq => ?_) (fun hq => ?_)
    · refine lv_iload_n hx hb dJ9_floorDiv_7cf53_21 rfl (lv_at hl 0 rfl) ?_
      exact zz_iret S hB hr hlocks dJ9_floorDiv_7cf53_22 hq
    · refine lv_iload_n hx hb dJ9_floorDiv_7cf53_17 rfl (lv_at hl 0 rfl) ?_
      refine lv_iconst (v := 1) hx hb dJ9_floorDiv_7cf53_18 (by decide) ?_
      refine lv_isub hx hb dJ9_floorDiv_7cf53_19 ?_
      exact zz_iret S hB hr hlocks dJ9_floorDiv_7cf53_20 hq
def f_X6_center (T : zT) (N : Nat) (s0 : zS) (a0 : Nat) (x1 : Int32) : Option (Int32 × zS) :=
  zz1 (T.1 a0 = 6) <|
  zb2 (f_X6_start T N s0 a0 x1) fun x5 s4 =>
  zb2 (f_X6_size T N s4 a0 x1) fun x7 s6 =>
  zb2 (f_J9_floorDiv_7cf53 T N s6 x7 (2 : Int32)) fun x9 s8 =>
  some (x5 + x9, s8)
theorem k_X6_center (T : zT) (N : Nat) (s0 : zS) (a0 : Nat) (x1 : Int32) : ∀ q, f_X6_center T N s0 a0 x1 = some q → T.1 a0 = 6 := by
  intro q h
  unfold f_X6_center at h
  exact zz_guard h (fun h _ => h)
set_option maxHeartbeats 4000000 in
set_option maxRecDepth 100000 in
theorem c_X6_center (l : Launch) (D : va_G) (cy : Nat → ClassId) (T : zT) (hT : zok T) (ad : Nat → Nat) (N : Nat) (s0 : zS) (sz : Nat) (a0 : Nat) (x1 : Int32) : ∀ (r0 : Int32) (σ0 : zS), f_X6_center T N s0 a0 x1 = some (r0, σ0) → Met l yX6_center wsX6_center ({ frames := 1, cells := 0, slots := 0, locals := 22 }) (va_Pc [.ref (ad a0), .int x1] (zPre D cy T ad s0 sz)) (va_Qi (fun (r2 : Int32) (σ2 : zS) => r2 = r0 ∧ σ2 = σ0) (zAt D cy T ad (zA T ad sz)) (zA T ad sz)) 0 0 (zA T ad sz) := by
  intro r0 σ0 hq
  refine Met.ofW (cc := cX6_center) (maxL := 2) (ret := (some .int)) (by decide) rfl ?_
  intro p e s m args below meth c s₁ B hml hv
  obtain ⟨hargs, hsz, hP, hK, hD0, hN⟩ := hv
  have hx := B.exec
  have hb := B.bytes
  have hr := B.returns
  have hts := atoms_spec (ws := wsX6_center) B.pre
  have hown : s.vm.findClass RX6 = some m.cls := findClass_of_methodNamed B.named
  have hlocks := B.notSynchronized
  have S : CallFix p m c cX6_center 2 s args wsX6_center RX6 := ⟨hx, hb, hml, hown, hts⟩
  subst hsz
  have hB : zB D cy T ad (zA T ad s.heap.size) s.heap s0 s.heap [] s := zz_entry hP hK hD0 hN
  obtain ⟨ls, hent, hl⟩ := zz_ent m hargs (n := 2) (Nat.le_of_ble_eq_true rfl)
  rw [hent]
  have hl : lv_has ls 2 [(0, .ref (ad a0)), (1, .int x1)] := hl
  unfold f_X6_center at hq
  refine zz_guard hq (fun hk0 hq => ?_)
  refine lv_aload_n hx hb dX6_center_0 rfl (lv_at hl 0 rfl) ?_
  refine lv_iload_n hx hb dX6_center_1 rfl (lv_at hl 1 rfl) ?_
  refine zz_callVi S hT hB (As := [.int x1]) (b := a0) (o := f_X6_start T N s0 a0 x1) (c_X6_start l D cy T hT ad N s0 _ a0 x1) (cwV 1 hts gX6_center_X6_start rfl rfl rfl (by decide +kernel) ⟨Nat.le_of_ble_eq_true rfl, Nat.le_of_ble_eq_true rfl⟩) (F := TX6) (NF := 8) 6 rfl (by decide) (k_X6_start T N s0 a0 x1) rfl hl.1 rfl (Nat.le_of_ble_eq_true rfl) dX6_center_2 hq (fun x5 s4 H locs hq hB => ?_)
  refine lv_aload_n hx hb dX6_center_5 rfl (lv_at hl 0 rfl) ?_
  refine lv_iload_n hx hb dX6_center_6 rfl (lv_at hl 1 rfl) ?_
  refine zz_callVi S hT hB (As := [.int x1]) (b := a0) (o := f_X6_size T N s4 a0 x1) (c_X6_size l D cy T hT ad N s4 _ a0 x1) (cwV 1 hts gX6_center_X6_size rfl rfl rfl (by decide +kernel) ⟨Nat.le_of_ble_eq_true rfl, Nat.le_of_ble_eq_true rfl⟩) (F := TX6) (NF := 8) 6 rfl (by decide) (k_X6_size T N s4 a0 x1) rfl hl.1 rfl (Nat.le_of_ble_eq_true rfl) dX6_center_7 hq (fun x7 s6 H locs hq hB => ?_)
  refine lv_iconst (v := 2) hx hb dX6_center_10 (by decide) ?_
  refine zz_callSi S hT hB (As := [.int x7, .int (2 : Int32)]) (o := f_J9_floorDiv_7cf53 T N s6 x7 (2 : Int32)) (c_J9_floorDiv_7cf53 l D cy T hT ad N s6 _ x7 (2 : Int32)) (va_cwS 2 hts gX6_center_J9_floorDiv_7cf53 rfl rfl rfl (by decide +kernel) ⟨Nat.le_of_ble_eq_true rfl, Nat.le_of_ble_eq_true rfl⟩) rfl hl.1 rfl (Nat.le_of_ble_eq_true rfl) dX6_center_11 hq (fun x9 s8 H locs hq hB => ?_)
  refine lv_iadd hx hb dX6_center_14 ?_
  exact zz_iret S hB hr hlocks dX6_center_15 hq
def f_X7_find (T : zT) (N : Nat) (s0 : zS) (a0 : Nat) (x1 : Int32) : Option (Option Nat × zS) :=
  zz1 (T.1 a0 = 7) <|
  if x1 < 0 then (
    some (none, s0))
  else (
    (gR T s0 a0 7 0).bind fun a4 =>
    (aL T a4 17).bind fun x5 =>
    if x1 < x5 then (
      (gR T s0 a0 7 0).bind fun a6 =>
      (aR T s0 a6 17 x1).bind fun a7 =>
      (gI T s0 a7 6 0).bind fun x8 =>
      if x8 = 0 then (
        some (none, s0))
      else (
        some (some a7, s0)))
    else (
      some (none, s0)))
theorem k_X7_find (T : zT) (N : Nat) (s0 : zS) (a0 : Nat) (x1 : Int32) : ∀ q, f_X7_find T N s0 a0 x1 = some q → T.1 a0 = 7 := by
  intro q h
  unfold f_X7_find at h
  exact zz_guard h (fun h _ => h)
set_option maxHeartbeats 4000000 in
set_option maxRecDepth 100000 in
theorem c_X7_find (l : Launch) (D : va_G) (cy : Nat → ClassId) (T : zT) (hT : zok T) (ad : Nat → Nat) (N : Nat) (s0 : zS) (sz : Nat) (a0 : Nat) (x1 : Int32) : ∀ (r0 : Option Nat) (σ0 : zS), f_X7_find T N s0 a0 x1 = some (r0, σ0) → Met l yX7_find wsX7_find ({ frames := 0, cells := 0, slots := 0, locals := 0 }) (va_Pc [.ref (ad a0), .int x1] (zPre D cy T ad s0 sz)) (va_Qq (fun (r2 : Option Nat) (σ2 : zS) => r2 = r0.map ad ∧ σ2 = σ0) (zAt D cy T ad (zA T ad sz)) (zA T ad sz)) 0 0 (zA T ad sz) := by
  intro r0 σ0 hq
  refine Met.ofW (cc := cX7_find) (maxL := 3) (ret := (some (.object "DiagramDesk$Shape"))) (by decide) rfl ?_
  intro p e s m args below meth c s₁ B hml hv
  obtain ⟨hargs, hsz, hP, hK, hD0, hN⟩ := hv
  have hx := B.exec
  have hb := B.bytes
  have hr := B.returns
  have hts := atoms_spec (ws := wsX7_find) B.pre
  have hown : s.vm.findClass RX7 = some m.cls := findClass_of_methodNamed B.named
  have hlocks := B.notSynchronized
  have S : CallFix p m c cX7_find 3 s args wsX7_find RX7 := ⟨hx, hb, hml, hown, hts⟩
  subst hsz
  have hB : zB D cy T ad (zA T ad s.heap.size) s.heap s0 s.heap [] s := zz_entry hP hK hD0 hN
  obtain ⟨ls, hent, hl⟩ := zz_ent m hargs (n := 3) (Nat.le_of_ble_eq_true rfl)
  rw [hent]
  have hl : lv_has ls 3 [(0, .ref (ad a0)), (1, .int x1)] := hl
  have iwX7 : ∀ w ∈ u_ws RX7 TX7 3, w ∈ wsX7_find := by decide +kernel
  have iwX6 : ∀ w ∈ u_ws RX6 TX6 8, w ∈ wsX7_find := by decide +kernel
  have lk0 : Cond.fieldLink RX7 11 "DiagramDesk$Shapes" "row" "[LDiagramDesk$Shape;" ∈ wsX7_find := by decide +kernel
  have lk1 : Cond.fieldLink RX7 29 "DiagramDesk$Shape" "there" "Z" ∈ wsX7_find := by decide +kernel
  unfold f_X7_find at hq
  refine zz_guard hq (fun hk0 hq => ?_)
  refine lv_iload_n hx hb dX7_find_0 rfl (lv_at hl 1 rfl) ?_
  refine zz_if_lt (tgt := 13) hx hb dX7_find_1 (by decide) hq (fun hq => ?_) (fun hq => ?_)
  · refine lv_null hx hb dX7_find_13 ?_
    exact zz_aretN S hB hr hlocks dX7_find_14 hq
  · refine lv_iload_n hx hb dX7_find_4 rfl (lv_at hl 1 rfl) ?_
    refine lv_aload_n hx hb dX7_find_5 rfl (lv_at hl 0 rfl) ?_
    refine zz_getR S hT hB (C := RX7) (ref := "DiagramDesk$Shapes") (F := TX7) (N := 3) (index := 11) 7 0 iwX7 rfl (by decide) (by decide) rfl rfl lk0 (fun _ h9 => h9) dX7_find_6 hq (fun a4 hq => ?_)
    refine zz_alen S hT hB 17 (by decide) (by decide) dX7_find_9 hq (fun x5 hq => ?_)
    refine zz_icmp_lt (tgt := 15) hx hb dX7_find_10 (by decide) hq (fun hq => ?_) (fun hq => ?_)
    · refine lv_aload_n hx hb dX7_find_15 rfl (lv_at hl 0 rfl) ?_
      refine zz_getR S hT hB (C := RX7) (ref := "DiagramDesk$Shapes") (F := TX7) (N := 3) (index := 11) 7 0 iwX7 rfl (by decide) (by decide) rfl rfl lk0 (fun _ h9 => h9) dX7_find_16 hq (fun a6 hq => ?_)
      refine lv_iload_n hx hb dX7_find_19 rfl (lv_at hl 1 rfl) ?_
      refine zz_aldR S hT hB 17 4 rfl (by decide) (by decide) dX7_find_20 hq (fun a7 hq => ?_)
      refine lv_astore_n (lv' := [(2, .ref (ad a7)), (0, .ref (ad a0)), (1, .int x1)]) hx hb dX7_find_21 rfl hl (by decide) rfl (fun ls hl => ?_)
      refine lv_aload_n hx hb dX7_find_22 rfl (lv_at hl 0 rfl) ?_
      refine lv_ifnull hx hb dX7_find_23 ?_
      refine lv_aload_n hx hb dX7_find_26 rfl (lv_at hl 0 rfl) ?_
      refine zz_get S hT hB (C := RX6) (ref := "DiagramDesk$Shape") (F := TX6) (N := 8) (index := 29) 6 0 iwX6 rfl (by decide) (by decide) rfl rfl lk1 (fun _ h9 => h9) dX7_find_27 hq (fun x8 hq => ?_)
      refine zz_if_eq (tgt := 37) hx hb dX7_find_30 (by decide) hq (fun hq => ?_) (fun hq => ?_)
      · refine lv_null hx hb dX7_find_37 ?_
        exact zz_aretN S hB hr hlocks dX7_find_38 hq
      · refine lv_aload_n hx hb dX7_find_33 rfl (lv_at hl 0 rfl) ?_
        refine lv_goto (tgt := 38) hx hb dX7_find_34 (by decide) ?_
        exact zz_aret S hB hr hlocks dX7_find_38 hq
    · refine lv_null hx hb dX7_find_13 ?_
      exact zz_aretN S hB hr hlocks dX7_find_14 hq
def f_X11_hasBit (T : zT) (N : Nat) (s0 : zS) (x0 : Int32) (x1 : Int32) : Option (Int32 × zS) :=
  if ((x0 >>> (x1 &&& 31)) &&& (1 : Int32)) = 0 then (
    rZ (0 : Int32) s0)
  else (
    rZ (1 : Int32) s0)
set_option maxHeartbeats 4000000 in
set_option maxRecDepth 100000 in
theorem c_X11_hasBit (l : Launch) (D : va_G) (cy : Nat → ClassId) (T : zT) (hT : zok T) (ad : Nat → Nat) (N : Nat) (s0 : zS) (sz : Nat) (x0 : Int32) (x1 : Int32) : ∀ (r0 : Int32) (σ0 : zS), f_X11_hasBit T N s0 x0 x1 = some (r0, σ0) → Met l yX11_hasBit wsX11_hasBit ({ frames := 0, cells := 0, slots := 0, locals := 0 }) (va_Pc [.int x0, .int x1] (zPre D cy T ad s0 sz)) (va_Qi (fun (r2 : Int32) (σ2 : zS) => r2 = r0 ∧ σ2 = σ0) (zAt D cy T ad (zA T ad sz)) (zA T ad sz)) 0 0 (zA T ad sz) := by
  intro r0 σ0 hq
  refine Met.ofW (cc := cX11_hasBit) (maxL := 2) (ret := (some .boolean)) (by decide) rfl ?_
  intro p e s m args below meth c s₁ B hml hv
  obtain ⟨hargs, hsz, hP, hK, hD0, hN⟩ := hv
  have hx := B.exec
  have hb := B.bytes
  have hr := B.returns
  have hts := atoms_spec (ws := wsX11_hasBit) B.pre
  have hown : s.vm.findClass RX11 = some m.cls := findClass_of_methodNamed B.named
  have hlocks := B.notSynchronized
  have S : CallFix p m c cX11_hasBit 2 s args wsX11_hasBit RX11 := ⟨hx, hb, hml, hown, hts⟩
  subst hsz
  have hB : zB D cy T ad (zA T ad s.heap.size) s.heap s0 s.heap [] s := zz_entry hP hK hD0 hN
  obtain ⟨ls, hent, hl⟩ := zz_ent m hargs (n := 2) (Nat.le_of_ble_eq_true rfl)
  rw [hent]
  have hl : lv_has ls 2 [(0, .int x0), (1, .int x1)] := hl
  unfold f_X11_hasBit at hq
  refine lv_iload_n hx hb dX11_hasBit_0 rfl (lv_at hl 0 rfl) ?_
  refine lv_iload_n hx hb dX11_hasBit_1 rfl (lv_at hl 1 rfl) ?_
  refine lv_ishr hx hb dX11_hasBit_2 ?_
  refine lv_iconst (v := 1) hx hb dX11_hasBit_3 (by decide) ?_
  refine lv_iand hx hb dX11_hasBit_4 ?_
  refine zz_if_eq (tgt := 12) hx hb dX11_hasBit_5 (by decide) hq (fun hq => ?_) (fun hq => ?_)
  · refine lv_iconst (v := 0) hx hb dX11_hasBit_12 (by decide) ?_
    exact zz_zret S hB hr hlocks dX11_hasBit_13 hq
  · refine lv_iconst (v := 1) hx hb dX11_hasBit_8 (by decide) ?_
    refine lv_goto (tgt := 13) hx hb dX11_hasBit_9 (by decide) ?_
    exact zz_zret S hB hr hlocks dX11_hasBit_13 hq
def f_X7_low_L6 (T : zT) (N : Nat) (a0 : Nat) (x1 : Int32) (x2 : Int32) (k6 : Int32 → Int32 → zS → Option (Int32 × zS)) (x5 : Int32) (x6 : Int32) (s7 : zS) : Option (Int32 × zS) :=
  (gR T s7 a0 7 0).bind fun a8 =>
  (aL T a8 17).bind fun x9 =>
  if x9 ≤ x6 then (
    some (x5, s7))
  else (
    zb2 (f_X7_find T N s7 a0 x6) fun o11 s10 => zo o11 (
      zn (x6 + (1 : Int32)) fun x13 =>
      k6 x5 x13 s10)
    fun a12 => (
      zb2 (f_X11_hasBit T N s10 x1 x6) fun x15 s14 =>
      if x15 = 0 then (
        zn (x6 + (1 : Int32)) fun x16 =>
        k6 x5 x16 s14)
      else (
        zb2 (f_X6_start T N s14 a12 x2) fun x18 s17 =>
        zn (if x18 < x5 then x18 else x5) fun x19 =>
        zn (x6 + (1 : Int32)) fun x20 =>
        k6 x19 x20 s17)))
def f_X7_low (T : zT) (N : Nat) (s0 : zS) (a0 : Nat) (x1 : Int32) (x2 : Int32) : Option (Int32 × zS) :=
  zz1 (T.1 a0 = 7) <|
  zl3 (f_X7_low_L6 T N a0 x1 x2) N (2147483647 : Int32) (0 : Int32) s0
theorem k_X7_low (T : zT) (N : Nat) (s0 : zS) (a0 : Nat) (x1 : Int32) (x2 : Int32) : ∀ q, f_X7_low T N s0 a0 x1 x2 = some q → T.1 a0 = 7 := by
  intro q h
  unfold f_X7_low at h
  exact zz_guard h (fun h _ => h)
set_option maxHeartbeats 4000000 in
set_option maxRecDepth 100000 in
theorem c_X7_low (l : Launch) (D : va_G) (cy : Nat → ClassId) (T : zT) (hT : zok T) (ad : Nat → Nat) (N : Nat) (s0 : zS) (sz : Nat) (a0 : Nat) (x1 : Int32) (x2 : Int32) : ∀ (r0 : Int32) (σ0 : zS), f_X7_low T N s0 a0 x1 x2 = some (r0, σ0) → Met l yX7_low wsX7_low ({ frames := 1, cells := 0, slots := 0, locals := 24 }) (va_Pc [.ref (ad a0), .int x1, .int x2] (zPre D cy T ad s0 sz)) (va_Qi (fun (r2 : Int32) (σ2 : zS) => r2 = r0 ∧ σ2 = σ0) (zAt D cy T ad (zA T ad sz)) (zA T ad sz)) 0 0 (zA T ad sz) := by
  intro r0 σ0 hq
  refine Met.ofW (cc := cX7_low) (maxL := 6) (ret := (some .int)) (by decide) rfl ?_
  intro p e s m args below meth c s₁ B hml hv
  obtain ⟨hargs, hsz, hP, hK, hD0, hN⟩ := hv
  have hx := B.exec
  have hb := B.bytes
  have hr := B.returns
  have hts := atoms_spec (ws := wsX7_low) B.pre
  have hown : s.vm.findClass RX7 = some m.cls := findClass_of_methodNamed B.named
  have hlocks := B.notSynchronized
  have S : CallFix p m c cX7_low 6 s args wsX7_low RX7 := ⟨hx, hb, hml, hown, hts⟩
  subst hsz
  have hB : zB D cy T ad (zA T ad s.heap.size) s.heap s0 s.heap [] s := zz_entry hP hK hD0 hN
  obtain ⟨ls, hent, hl⟩ := zz_ent m hargs (n := 6) (Nat.le_of_ble_eq_true rfl)
  rw [hent]
  have hl : lv_has ls 6 [(0, .ref (ad a0)), (1, .int x1), (2, .int x2)] := hl
  have iwX7 : ∀ w ∈ u_ws RX7 TX7 3, w ∈ wsX7_low := by decide +kernel
  have lk0 : Cond.constant RX7 73 (2147483647) ∈ wsX7_low := by decide +kernel
  have lk1 : Cond.fieldLink RX7 11 "DiagramDesk$Shapes" "row" "[LDiagramDesk$Shape;" ∈ wsX7_low := by decide +kernel
  have lk2 : Cond.initialized RX11 ∈ wsX7_low := by decide +kernel
  have lk3 : Cond.static yX11_hasBit ∈ wsX7_low := by decide +kernel
  have lk4 : Cond.methodLink RX7 81 Lib.Math.min.name ∈ wsX7_low := by decide +kernel
  have lk5 : Cond.static Lib.Math.min.name ∈ wsX7_low := by decide +kernel
  have lk6 : Cond.initialized "java/lang/Math" ∈ wsX7_low := by decide +kernel
  have lk7 : Cond.code Lib.Math.min.name Lib.Math.min.code 2 (some .int) ∈ wsX7_low := by decide +kernel
  unfold f_X7_low at hq
  refine zz_guard hq (fun hk0 hq => ?_)
  refine lv_ldc (v := 2147483647) hx hb hown (hts _ lk0) dX7_low_0 ?_
  refine lv_istore_n (lv' := [(3, .int (2147483647 : Int32)), (0, .ref (ad a0)), (1, .int x1), (2, .int x2)]) hx hb dX7_low_2 rfl hl (by decide) rfl (fun ls hl => ?_)
  refine lv_iconst (v := 0) hx hb dX7_low_3 (by decide) ?_
  refine lv_istore (lv' := [(4, .int (0 : Int32)), (3, .int (2147483647 : Int32)), (0, .ref (ad a0)), (1, .int x1), (2, .int x2)]) hx hb dX7_low_4 hl (by decide) rfl (fun ls hl => ?_)
  have L6 : ∀ (n : Nat) (x5 : Int32) (x6 : Int32) (s7 : zS) (H : Heap) (locs : List Loc) (ls : Array Slot), zl3 (f_X7_low_L6 T N a0 x1 x2) n x5 x6 s7 = some (r0, σ0) → zB D cy T ad (zA T ad s.heap.size) s.heap s7 H locs s → lv_has ls 6 [(0, .ref (ad a0)), (1, .int x1), (2, .int x2), (3, .int x5), (4, .int x6)] → W p l e (headSpec wsX7_low ({ frames := 1, cells := 0, slots := 0, locals := 24 } : Room)).room s m args below meth c H locs 0 0 (MQ below (va_Qi (fun (r2 : Int32) (σ2 : zS) => r2 = r0 ∧ σ2 = σ0) (zAt D cy T ad (zA T ad s.heap.size)) (zA T ad s.heap.size)) args s 0 0 (zA T ad s.heap.size)) (F0 m 6 ls []) := by
    intro n
    induction n with
    | zero => intro x5 x6 s7 H locs ls hq; exact zz_none hq
    | succ n ih6 =>
      intro x5 x6 s7 H locs ls hq hB hl
      rw [zl3] at hq
      generalize zl3 (f_X7_low_L6 T N a0 x1 x2) n = k6 at ih6 hq
      unfold f_X7_low_L6 at hq
      refine lv_iload hx hb dX7_low_6 (lv_at hl 4 rfl) ?_
      refine lv_aload_n hx hb dX7_low_8 rfl (lv_at hl 0 rfl) ?_
      refine zz_getR S hT hB (C := RX7) (ref := "DiagramDesk$Shapes") (F := TX7) (N := 3) (index := 11) 7 0 iwX7 rfl (by decide) (by decide) rfl rfl lk1 (fun _ h9 => h9) dX7_low_9 hq (fun a8 hq => ?_)
      refine zz_alen S hT hB 17 (by decide) (by decide) dX7_low_12 hq (fun x9 hq => ?_)
      refine zz_icmp_ge (tgt := 55) hx hb dX7_low_13 (by decide) hq (fun hq => ?_) (fun hq => ?_)
      · refine lv_iload_n hx hb dX7_low_55 rfl (lv_at hl 3 rfl) ?_
        exact zz_iret S hB hr hlocks dX7_low_56 hq
      · refine lv_aload_n hx hb dX7_low_16 rfl (lv_at hl 0 rfl) ?_
        refine lv_iload hx hb dX7_low_17 (lv_at hl 4 rfl) ?_
        refine zz_callVq S hT hB (As := [.int x6]) (b := a0) (o := f_X7_find T N s7 a0 x6) (c_X7_find l D cy T hT ad N s7 _ a0 x6) (cwV 1 hts gX7_low_X7_find rfl rfl rfl (by decide +kernel) ⟨Nat.le_of_ble_eq_true rfl, Nat.le_of_ble_eq_true rfl⟩) (F := TX7) (NF := 3) 7 rfl (by decide) (k_X7_find T N s7 a0 x6) rfl hl.1 rfl (Nat.le_of_ble_eq_true rfl) dX7_low_19 hq (fun s10 H locs hq hB => ?_) (fun a12 s10 H locs hq hB => ?_)
        · refine lv_astoreN (lv' := [(5, .null), (0, .ref (ad a0)), (1, .int x1), (2, .int x2), (3, .int x5), (4, .int x6)]) hx hb dX7_low_22 hl (by decide) rfl (fun ls hl => ?_)
          refine lv_aloadN hx hb dX7_low_24 (lv_at hl 0 rfl) ?_
          refine lv_ifnullN (tgt := 49) hx hb dX7_low_26 (by decide) ?_
          refine zz_nmV hq (fun x13 ex13 hq => ?_)
          refine lv_iinc (v := x13) (lv' := [(4, .int x13), (5, .null), (0, .ref (ad a0)), (1, .int x1), (2, .int x2), (3, .int x5)]) hx hb dX7_low_49 hl (k := 5) rfl (by rw [ex13]; rfl) (by decide) rfl (fun ls hl => ?_)
          refine lv_goto (tgt := 6) hx hb dX7_low_52 (by decide) ?_
          exact ih6 x5 x13 s10 _ _ _ hq hB (lv_sub hl [2, 3, 4, 5, 0] rfl)
        · refine lv_astore (lv' := [(5, .ref (ad a12)), (0, .ref (ad a0)), (1, .int x1), (2, .int x2), (3, .int x5), (4, .int x6)]) hx hb dX7_low_22 hl (by decide) rfl (fun ls hl => ?_)
          refine lv_aload hx hb dX7_low_24 (lv_at hl 0 rfl) ?_
          refine lv_ifnull hx hb dX7_low_26 ?_
          refine lv_iload_n hx hb dX7_low_29 rfl (lv_at hl 2 rfl) ?_
          refine lv_iload hx hb dX7_low_30 (lv_at hl 5 rfl) ?_
          refine zz_callNi S hT hB (As := [.int x1, .int x6]) (o := f_X11_hasBit T N s10 x1 x6) (c_X11_hasBit l D cy T hT ad N s10 _ x1 x6) ⟨va_cnB (host := "DiagramDesk") 2 hts gX7_low_X11_hasBit_n74 rfl rfl rfl (zN_at hN 12 rfl) (hts _ lk2) (by decide +kernel) ⟨Nat.le_of_ble_eq_true rfl, Nat.le_of_ble_eq_true rfl⟩, hts _ lk3, trivial⟩ rfl hl.1 rfl (Nat.le_of_ble_eq_true rfl) dX7_low_32 hq (fun x15 s14 H locs hq hB => ?_)
          refine zz_if_eq (tgt := 49) hx hb dX7_low_35 (by decide) hq (fun hq => ?_) (fun hq => ?_)
          · refine zz_nmV hq (fun x16 ex16 hq => ?_)
            refine lv_iinc (v := x16) (lv' := [(4, .int x16), (5, .ref (ad a12)), (0, .ref (ad a0)), (1, .int x1), (2, .int x2), (3, .int x5)]) hx hb dX7_low_49 hl (k := 5) rfl (by rw [ex16]; rfl) (by decide) rfl (fun ls hl => ?_)
            refine lv_goto (tgt := 6) hx hb dX7_low_52 (by decide) ?_
            exact ih6 x5 x16 s14 _ _ _ hq hB (lv_sub hl [2, 3, 4, 5, 0] rfl)
          · refine lv_iload_n hx hb dX7_low_38 rfl (lv_at hl 4 rfl) ?_
            refine lv_aload hx hb dX7_low_39 (lv_at hl 0 rfl) ?_
            refine lv_iload_n hx hb dX7_low_41 rfl (lv_at hl 3 rfl) ?_
            refine zz_callVi S hT hB (As := [.int x2]) (b := a12) (o := f_X6_start T N s14 a12 x2) (c_X6_start l D cy T hT ad N s14 _ a12 x2) (cwV 1 hts gX7_low_X6_start rfl rfl rfl (by decide +kernel) ⟨Nat.le_of_ble_eq_true rfl, Nat.le_of_ble_eq_true rfl⟩) (F := TX6) (NF := 8) 6 rfl (by decide) (k_X6_start T N s14 a12 x2) rfl hl.1 rfl (Nat.le_of_ble_eq_true rfl) dX7_low_42 hq (fun x18 s17 H locs hq hB => ?_)
            refine zz_min S hl.1 lk4 lk5 lk6 lk7 (Nat.le_of_ble_eq_true rfl) (Nat.le_of_ble_eq_true rfl) dX7_low_45 ?_
            refine zz_nmI hq (fun x19 hq => ?_)
            refine lv_istore_n (lv' := [(3, .int x19), (5, .ref (ad a12)), (0, .ref (ad a0)), (1, .int x1), (2, .int x2), (4, .int x6)]) hx hb dX7_low_48 rfl hl (by decide) rfl (fun ls hl => ?_)
            refine zz_nmV hq (fun x20 ex20 hq => ?_)
            refine lv_iinc (v := x20) (lv' := [(4, .int x20), (3, .int x19), (5, .ref (ad a12)), (0, .ref (ad a0)), (1, .int x1), (2, .int x2)]) hx hb dX7_low_49 hl (k := 5) rfl (by rw [ex20]; rfl) (by decide) rfl (fun ls hl => ?_)
            refine lv_goto (tgt := 6) hx hb dX7_low_52 (by decide) ?_
            exact ih6 x19 x20 s17 _ _ _ hq hB (lv_sub hl [3, 4, 5, 1, 0] rfl)
  exact L6 N (2147483647 : Int32) (0 : Int32) s0 _ _ _ hq hB (lv_sub hl [2, 3, 4, 1, 0] rfl)
def f_X3_has (T : zT) (N : Nat) (s0 : zS) (a0 : Nat) (x1 : Int32) : Option (Int32 × zS) :=
  zz1 (T.1 a0 = 3) <|
  if x1 < 0 then (
    rZ (0 : Int32) s0)
  else (
    (gR T s0 a0 3 0).bind fun a4 =>
    (aL T a4 14).bind fun x5 =>
    if x5 ≤ x1 then (
      rZ (0 : Int32) s0)
    else (
      (gR T s0 a0 3 0).bind fun a6 =>
      (aI T s0 a6 14 x1).bind fun x7 =>
      if x7 = 0 then (
        rZ (0 : Int32) s0)
      else (
        rZ (1 : Int32) s0)))
theorem k_X3_has (T : zT) (N : Nat) (s0 : zS) (a0 : Nat) (x1 : Int32) : ∀ q, f_X3_has T N s0 a0 x1 = some q → T.1 a0 = 3 := by
  intro q h
  unfold f_X3_has at h
  exact zz_guard h (fun h _ => h)
set_option maxHeartbeats 4000000 in
set_option maxRecDepth 100000 in
theorem c_X3_has (l : Launch) (D : va_G) (cy : Nat → ClassId) (T : zT) (hT : zok T) (ad : Nat → Nat) (N : Nat) (s0 : zS) (sz : Nat) (a0 : Nat) (x1 : Int32) : ∀ (r0 : Int32) (σ0 : zS), f_X3_has T N s0 a0 x1 = some (r0, σ0) → Met l yX3_has wsX3_has ({ frames := 0, cells := 0, slots := 0, locals := 0 }) (va_Pc [.ref (ad a0), .int x1] (zPre D cy T ad s0 sz)) (va_Qi (fun (r2 : Int32) (σ2 : zS) => r2 = r0 ∧ σ2 = σ0) (zAt D cy T ad (zA T ad sz)) (zA T ad sz)) 0 0 (zA T ad sz) := by
  intro r0 σ0 hq
  refine Met.ofW (cc := cX3_has) (maxL := 2) (ret := (some .boolean)) (by decide) rfl ?_
  intro p e s m args below meth c s₁ B hml hv
  obtain ⟨hargs, hsz, hP, hK, hD0, hN⟩ := hv
  have hx := B.exec
  have hb := B.bytes
  have hr := B.returns
  have hts := atoms_spec (ws := wsX3_has) B.pre
  have hown : s.vm.findClass RX3 = some m.cls := findClass_of_methodNamed B.named
  have hlocks := B.notSynchronized
  have S : CallFix p m c cX3_has 2 s args wsX3_has RX3 := ⟨hx, hb, hml, hown, hts⟩
  subst hsz
  have hB : zB D cy T ad (zA T ad s.heap.size) s.heap s0 s.heap [] s := zz_entry hP hK hD0 hN
  obtain ⟨ls, hent, hl⟩ := zz_ent m hargs (n := 2) (Nat.le_of_ble_eq_true rfl)
  rw [hent]
  have hl : lv_has ls 2 [(0, .ref (ad a0)), (1, .int x1)] := hl
  have iwX3 : ∀ w ∈ u_ws RX3 TX3 2, w ∈ wsX3_has := by decide +kernel
  have lk0 : Cond.fieldLink RX3 9 "DiagramDesk$Groups" "there" "[Z" ∈ wsX3_has := by decide +kernel
  unfold f_X3_has at hq
  refine zz_guard hq (fun hk0 hq => ?_)
  refine lv_iload_n hx hb dX3_has_0 rfl (lv_at hl 1 rfl) ?_
  refine zz_if_lt (tgt := 26) hx hb dX3_has_1 (by decide) hq (fun hq => ?_) (fun hq => ?_)
  · refine lv_iconst (v := 0) hx hb dX3_has_26 (by decide) ?_
    exact zz_zret S hB hr hlocks dX3_has_27 hq
  · refine lv_iload_n hx hb dX3_has_4 rfl (lv_at hl 1 rfl) ?_
    refine lv_aload_n hx hb dX3_has_5 rfl (lv_at hl 0 rfl) ?_
    refine zz_getR S hT hB (C := RX3) (ref := "DiagramDesk$Groups") (F := TX3) (N := 2) (index := 9) 3 0 iwX3 rfl (by decide) (by decide) rfl rfl lk0 (fun _ h9 => h9) dX3_has_6 hq (fun a4 hq => ?_)
    refine zz_alen S hT hB 14 (by decide) (by decide) dX3_has_9 hq (fun x5 hq => ?_)
    refine zz_icmp_ge (tgt := 26) hx hb dX3_has_10 (by decide) hq (fun hq => ?_) (fun hq => ?_)
    · refine lv_iconst (v := 0) hx hb dX3_has_26 (by decide) ?_
      exact zz_zret S hB hr hlocks dX3_has_27 hq
    · refine lv_aload_n hx hb dX3_has_13 rfl (lv_at hl 0 rfl) ?_
      refine zz_getR S hT hB (C := RX3) (ref := "DiagramDesk$Groups") (F := TX3) (N := 2) (index := 9) 3 0 iwX3 rfl (by decide) (by decide) rfl rfl lk0 (fun _ h9 => h9) dX3_has_14 hq (fun a6 hq => ?_)
      refine lv_iload_n hx hb dX3_has_17 rfl (lv_at hl 1 rfl) ?_
      refine zz_aldZ S hT hB dX3_has_18 hq (fun x7 hq => ?_)
      refine zz_if_eq (tgt := 26) hx hb dX3_has_19 (by decide) hq (fun hq => ?_) (fun hq => ?_)
      · refine lv_iconst (v := 0) hx hb dX3_has_26 (by decide) ?_
        exact zz_zret S hB hr hlocks dX3_has_27 hq
      · refine lv_iconst (v := 1) hx hb dX3_has_22 (by decide) ?_
        refine lv_goto (tgt := 27) hx hb dX3_has_23 (by decide) ?_
        exact zz_zret S hB hr hlocks dX3_has_27 hq
def f_X3_homeOf (T : zT) (N : Nat) (s0 : zS) (a0 : Nat) (x1 : Int32) : Option (Int32 × zS) :=
  zz1 (T.1 a0 = 3) <|
  zb2 (f_X3_has T N s0 a0 x1) fun x5 s4 =>
  if x5 = 0 then (
    some ((-1000000 : Int32), s4))
  else (
    (gR T s4 a0 3 1).bind fun a6 =>
    (aL T a6 13).bind fun x7 =>
    if x7 ≤ x1 then (
      some ((-1000000 : Int32), s4))
    else (
      (gR T s4 a0 3 1).bind fun a8 =>
      (aI T s4 a8 13 x1).bind fun x9 =>
      some (x9, s4)))
theorem k_X3_homeOf (T : zT) (N : Nat) (s0 : zS) (a0 : Nat) (x1 : Int32) : ∀ q, f_X3_homeOf T N s0 a0 x1 = some q → T.1 a0 = 3 := by
  intro q h
  unfold f_X3_homeOf at h
  exact zz_guard h (fun h _ => h)
set_option maxHeartbeats 4000000 in
set_option maxRecDepth 100000 in
theorem c_X3_homeOf (l : Launch) (D : va_G) (cy : Nat → ClassId) (T : zT) (hT : zok T) (ad : Nat → Nat) (N : Nat) (s0 : zS) (sz : Nat) (a0 : Nat) (x1 : Int32) : ∀ (r0 : Int32) (σ0 : zS), f_X3_homeOf T N s0 a0 x1 = some (r0, σ0) → Met l yX3_homeOf wsX3_homeOf ({ frames := 1, cells := 0, slots := 0, locals := 21 }) (va_Pc [.ref (ad a0), .int x1] (zPre D cy T ad s0 sz)) (va_Qi (fun (r2 : Int32) (σ2 : zS) => r2 = r0 ∧ σ2 = σ0) (zAt D cy T ad (zA T ad sz)) (zA T ad sz)) 0 0 (zA T ad sz) := by
  intro r0 σ0 hq
  refine Met.ofW (cc := cX3_homeOf) (maxL := 2) (ret := (some .int)) (by decide) rfl ?_
  intro p e s m args below meth c s₁ B hml hv
  obtain ⟨hargs, hsz, hP, hK, hD0, hN⟩ := hv
  have hx := B.exec
  have hb := B.bytes
  have hr := B.returns
  have hts := atoms_spec (ws := wsX3_homeOf) B.pre
  have hown : s.vm.findClass RX3 = some m.cls := findClass_of_methodNamed B.named
  have hlocks := B.notSynchronized
  have S : CallFix p m c cX3_homeOf 2 s args wsX3_homeOf RX3 := ⟨hx, hb, hml, hown, hts⟩
  subst hsz
  have hB : zB D cy T ad (zA T ad s.heap.size) s.heap s0 s.heap [] s := zz_entry hP hK hD0 hN
  obtain ⟨ls, hent, hl⟩ := zz_ent m hargs (n := 2) (Nat.le_of_ble_eq_true rfl)
  rw [hent]
  have hl : lv_has ls 2 [(0, .ref (ad a0)), (1, .int x1)] := hl
  have iwX3 : ∀ w ∈ u_ws RX3 TX3 2, w ∈ wsX3_homeOf := by decide +kernel
  have lk0 : Cond.constant RX3 31 (-1000000) ∈ wsX3_homeOf := by decide +kernel
  have lk1 : Cond.fieldLink RX3 15 "DiagramDesk$Groups" "homes" "[I" ∈ wsX3_homeOf := by decide +kernel
  unfold f_X3_homeOf at hq
  refine zz_guard hq (fun hk0 hq => ?_)
  refine lv_aload_n hx hb dX3_homeOf_0 rfl (lv_at hl 0 rfl) ?_
  refine lv_iload_n hx hb dX3_homeOf_1 rfl (lv_at hl 1 rfl) ?_
  refine zz_callVi S hT hB (As := [.int x1]) (b := a0) (o := f_X3_has T N s0 a0 x1) (c_X3_has l D cy T hT ad N s0 _ a0 x1) (cwV 1 hts gX3_homeOf_X3_has rfl rfl rfl (by decide +kernel) ⟨Nat.le_of_ble_eq_true rfl, Nat.le_of_ble_eq_true rfl⟩) (F := TX3) (NF := 2) 3 rfl (by decide) (k_X3_has T N s0 a0 x1) rfl hl.1 rfl (Nat.le_of_ble_eq_true rfl) dX3_homeOf_2 hq (fun x5 s4 H locs hq hB => ?_)
  refine zz_if_eq (tgt := 26) hx hb dX3_homeOf_5 (by decide) hq (fun hq => ?_) (fun hq => ?_)
  · refine lv_ldc (v := -1000000) hx hb hown (hts _ lk0) dX3_homeOf_26 ?_
    exact zz_iret S hB hr hlocks dX3_homeOf_28 hq
  · refine lv_iload_n hx hb dX3_homeOf_8 rfl (lv_at hl 1 rfl) ?_
    refine lv_aload_n hx hb dX3_homeOf_9 rfl (lv_at hl 0 rfl) ?_
    refine zz_getR S hT hB (C := RX3) (ref := "DiagramDesk$Groups") (F := TX3) (N := 2) (index := 15) 3 1 iwX3 rfl (by decide) (by decide) rfl rfl lk1 (fun _ h9 => h9) dX3_homeOf_10 hq (fun a6 hq => ?_)
    refine zz_alen S hT hB 13 (by decide) (by decide) dX3_homeOf_13 hq (fun x7 hq => ?_)
    refine zz_icmp_ge (tgt := 26) hx hb dX3_homeOf_14 (by decide) hq (fun hq => ?_) (fun hq => ?_)
    · refine lv_ldc (v := -1000000) hx hb hown (hts _ lk0) dX3_homeOf_26 ?_
      exact zz_iret S hB hr hlocks dX3_homeOf_28 hq
    · refine lv_aload_n hx hb dX3_homeOf_17 rfl (lv_at hl 0 rfl) ?_
      refine zz_getR S hT hB (C := RX3) (ref := "DiagramDesk$Groups") (F := TX3) (N := 2) (index := 15) 3 1 iwX3 rfl (by decide) (by decide) rfl rfl lk1 (fun _ h9 => h9) dX3_homeOf_18 hq (fun a8 hq => ?_)
      refine lv_iload_n hx hb dX3_homeOf_21 rfl (lv_at hl 1 rfl) ?_
      refine zz_ald S hT hB dX3_homeOf_22 hq (fun x9 hq => ?_)
      refine lv_goto (tgt := 28) hx hb dX3_homeOf_23 (by decide) ?_
      exact zz_iret S hB hr hlocks dX3_homeOf_28 hq
def f_X3_outermost_L4 (T : zT) (N : Nat) (a0 : Nat) (k4 : Int32 → Int32 → zS → Option (Int32 × zS)) (x4 : Int32) (x5 : Int32) (s6 : zS) : Option (Int32 × zS) :=
  if (8 : Int32) ≤ x5 then (
    some (x4, s6))
  else (
    zb2 (f_X3_homeOf T N s6 a0 x4) fun x8 s7 =>
    if x8 = (-1000000 : Int32) then (
      some (x4, s7))
    else (
      zb2 (f_X3_homeOf T N s7 a0 x4) fun x10 s9 =>
      zn (x5 + (1 : Int32)) fun x11 =>
      k4 x10 x11 s9))
def f_X3_outermost (T : zT) (N : Nat) (s0 : zS) (a0 : Nat) (x1 : Int32) : Option (Int32 × zS) :=
  zz1 (T.1 a0 = 3) <|
  zl3 (f_X3_outermost_L4 T N a0) N x1 (0 : Int32) s0
theorem k_X3_outermost (T : zT) (N : Nat) (s0 : zS) (a0 : Nat) (x1 : Int32) : ∀ q, f_X3_outermost T N s0 a0 x1 = some q → T.1 a0 = 3 := by
  intro q h
  unfold f_X3_outermost at h
  exact zz_guard h (fun h _ => h)
set_option maxHeartbeats 4000000 in
set_option maxRecDepth 100000 in
theorem c_X3_outermost (l : Launch) (D : va_G) (cy : Nat → ClassId) (T : zT) (hT : zok T) (ad : Nat → Nat) (N : Nat) (s0 : zS) (sz : Nat) (a0 : Nat) (x1 : Int32) : ∀ (r0 : Int32) (σ0 : zS), f_X3_outermost T N s0 a0 x1 = some (r0, σ0) → Met l yX3_outermost wsX3_outermost ({ frames := 2, cells := 0, slots := 0, locals := 42 }) (va_Pc [.ref (ad a0), .int x1] (zPre D cy T ad s0 sz)) (va_Qi (fun (r2 : Int32) (σ2 : zS) => r2 = r0 ∧ σ2 = σ0) (zAt D cy T ad (zA T ad sz)) (zA T ad sz)) 0 0 (zA T ad sz) := by
  intro r0 σ0 hq
  refine Met.ofW (cc := cX3_outermost) (maxL := 4) (ret := (some .int)) (by decide) rfl ?_
  intro p e s m args below meth c s₁ B hml hv
  obtain ⟨hargs, hsz, hP, hK, hD0, hN⟩ := hv
  have hx := B.exec
  have hb := B.bytes
  have hr := B.returns
  have hts := atoms_spec (ws := wsX3_outermost) B.pre
  have hown : s.vm.findClass RX3 = some m.cls := findClass_of_methodNamed B.named
  have hlocks := B.notSynchronized
  have S : CallFix p m c cX3_outermost 4 s args wsX3_outermost RX3 := ⟨hx, hb, hml, hown, hts⟩
  subst hsz
  have hB : zB D cy T ad (zA T ad s.heap.size) s.heap s0 s.heap [] s := zz_entry hP hK hD0 hN
  obtain ⟨ls, hent, hl⟩ := zz_ent m hargs (n := 4) (Nat.le_of_ble_eq_true rfl)
  rw [hent]
  have hl : lv_has ls 4 [(0, .ref (ad a0)), (1, .int x1)] := hl
  have lk0 : Cond.constant RX3 31 (-1000000) ∈ wsX3_outermost := by decide +kernel
  unfold f_X3_outermost at hq
  refine zz_guard hq (fun hk0 hq => ?_)
  refine lv_iload_n hx hb dX3_outermost_0 rfl (lv_at hl 1 rfl) ?_
  refine lv_istore_n (lv' := [(2, .int x1), (0, .ref (ad a0)), (1, .int x1)]) hx hb dX3_outermost_1 rfl hl (by decide) rfl (fun ls hl => ?_)
  refine lv_iconst (v := 0) hx hb dX3_outermost_2 (by decide) ?_
  refine lv_istore_n (lv' := [(3, .int (0 : Int32)), (2, .int x1), (0, .ref (ad a0)), (1, .int x1)]) hx hb dX3_outermost_3 rfl hl (by decide) rfl (fun ls hl => ?_)
  have L4 : ∀ (n : Nat) (x4 : Int32) (x5 : Int32) (s6 : zS) (H : Heap) (locs : List Loc) (ls : Array Slot), zl3 (f_X3_outermost_L4 T N a0) n x4 x5 s6 = some (r0, σ0) → zB D cy T ad (zA T ad s.heap.size) s.heap s6 H locs s → lv_has ls 4 [(0, .ref (ad a0)), (2, .int x4), (3, .int x5)] → W p l e (headSpec wsX3_outermost ({ frames := 2, cells := 0, slots := 0, locals := 42 } : Room)).room s m args below meth c H locs 0 0 (MQ below (va_Qi (fun (r2 : Int32) (σ2 : zS) => r2 = r0 ∧ σ2 = σ0) (zAt D cy T ad (zA T ad s.heap.size)) (zA T ad s.heap.size)) args s 0 0 (zA T ad s.heap.size)) (F0 m 4 ls []) := by
    intro n
    induction n with
    | zero => intro x4 x5 s6 H locs ls hq; exact zz_none hq
    | succ n ih4 =>
      intro x4 x5 s6 H locs ls hq hB hl
      rw [zl3] at hq
      generalize zl3 (f_X3_outermost_L4 T N a0) n = k4 at ih4 hq
      unfold f_X3_outermost_L4 at hq
      refine lv_iload_n hx hb dX3_outermost_4 rfl (lv_at hl 2 rfl) ?_
      refine lv_bipush (v := 8) hx hb dX3_outermost_5 (by decide) ?_
      refine zz_icmp_ge (tgt := 32) hx hb dX3_outermost_7 (by decide) hq (fun hq => ?_) (fun hq => ?_)
      · refine lv_iload_n hx hb dX3_outermost_32 rfl (lv_at hl 1 rfl) ?_
        exact zz_iret S hB hr hlocks dX3_outermost_33 hq
      · refine lv_aload_n hx hb dX3_outermost_10 rfl (lv_at hl 0 rfl) ?_
        refine lv_iload_n hx hb dX3_outermost_11 rfl (lv_at hl 1 rfl) ?_
        refine zz_callVi S hT hB (As := [.int x4]) (b := a0) (o := f_X3_homeOf T N s6 a0 x4) (c_X3_homeOf l D cy T hT ad N s6 _ a0 x4) (cwV 1 hts gX3_outermost_X3_homeOf rfl rfl rfl (by decide +kernel) ⟨Nat.le_of_ble_eq_true rfl, Nat.le_of_ble_eq_true rfl⟩) (F := TX3) (NF := 2) 3 rfl (by decide) (k_X3_homeOf T N s6 a0 x4) rfl hl.1 rfl (Nat.le_of_ble_eq_true rfl) dX3_outermost_12 hq (fun x8 s7 H locs hq hB => ?_)
        refine lv_ldc (v := -1000000) hx hb hown (hts _ lk0) dX3_outermost_15 ?_
        refine zz_icmp_eq (tgt := 32) hx hb dX3_outermost_17 (by decide) hq (fun hq => ?_) (fun hq => ?_)
        · refine lv_iload_n hx hb dX3_outermost_32 rfl (lv_at hl 1 rfl) ?_
          exact zz_iret S hB hr hlocks dX3_outermost_33 hq
        · refine lv_aload_n hx hb dX3_outermost_20 rfl (lv_at hl 0 rfl) ?_
          refine lv_iload_n hx hb dX3_outermost_21 rfl (lv_at hl 1 rfl) ?_
          refine zz_callVi S hT hB (As := [.int x4]) (b := a0) (o := f_X3_homeOf T N s7 a0 x4) (c_X3_homeOf l D cy T hT ad N s7 _ a0 x4) (cwV 1 hts gX3_outermost_X3_homeOf rfl rfl rfl (by decide +kernel) ⟨Nat.le_of_ble_eq_true rfl, Nat.le_of_ble_eq_true rfl⟩) (F := TX3) (NF := 2) 3 rfl (by decide) (k_X3_homeOf T N s7 a0 x4) rfl hl.1 rfl (Nat.le_of_ble_eq_true rfl) dX3_outermost_22 hq (fun x10 s9 H locs hq hB => ?_)
          refine lv_istore_n (lv' := [(2, .int x10), (0, .ref (ad a0)), (3, .int x5)]) hx hb dX3_outermost_25 rfl hl (by decide) rfl (fun ls hl => ?_)
          refine zz_nmV hq (fun x11 ex11 hq => ?_)
          refine lv_iinc (v := x11) (lv' := [(3, .int x11), (2, .int x10), (0, .ref (ad a0))]) hx hb dX3_outermost_26 hl (k := 2) rfl (by rw [ex11]; rfl) (by decide) rfl (fun ls hl => ?_)
          refine lv_goto (tgt := 4) hx hb dX3_outermost_29 (by decide) ?_
          exact ih4 x10 x11 s9 _ _ _ hq hB (lv_sub hl [2, 1, 0] rfl)
  exact L4 N x1 (0 : Int32) s0 _ _ _ hq hB (lv_sub hl [2, 1, 0] rfl)
def f_X4_add (T : zT) (N : Nat) (s0 : zS) (a0 : Nat) (x1 : Int32) (x2 : Int32) : Option zS :=
  zz1 (T.1 a0 = 4) <|
  (gI T s0 a0 4 2).bind fun x5 =>
  if x5 < 0 then (
    some s0)
  else (
    (gI T s0 a0 4 2).bind fun x6 =>
    (gR T s0 a0 4 0).bind fun a7 =>
    (aL T a7 13).bind fun x8 =>
    if x8 ≤ x6 then (
      some s0)
    else (
      (gI T s0 a0 4 2).bind fun x9 =>
      (gR T s0 a0 4 1).bind fun a10 =>
      (aL T a10 13).bind fun x11 =>
      if x11 ≤ x9 then (
        some s0)
      else (
        (gR T s0 a0 4 0).bind fun a12 =>
        (gI T s0 a0 4 2).bind fun x13 =>
        (sI T s0 a12 x13 x1).bind fun s14 =>
        (gR T s14 a0 4 1).bind fun a15 =>
        (gI T s14 a0 4 2).bind fun x16 =>
        (sI T s14 a15 x16 x2).bind fun s17 =>
        (gI T s17 a0 4 2).bind fun x18 =>
        (pI T s17 a0 4 2 (x18 + (1 : Int32))).bind fun s19 =>
        some s19)))
theorem k_X4_add (T : zT) (N : Nat) (s0 : zS) (a0 : Nat) (x1 : Int32) (x2 : Int32) : ∀ q, f_X4_add T N s0 a0 x1 x2 = some q → T.1 a0 = 4 := by
  intro q h
  unfold f_X4_add at h
  exact zz_guard h (fun h _ => h)
set_option maxHeartbeats 4000000 in
set_option maxRecDepth 100000 in
theorem c_X4_add (l : Launch) (D : va_G) (cy : Nat → ClassId) (T : zT) (hT : zok T) (ad : Nat → Nat) (N : Nat) (s0 : zS) (sz : Nat) (a0 : Nat) (x1 : Int32) (x2 : Int32) : ∀ (σ0 : zS), f_X4_add T N s0 a0 x1 x2 = some σ0 → Met l yX4_add wsX4_add ({ frames := 0, cells := 0, slots := 0, locals := 0 }) (va_Pc [.ref (ad a0), .int x1, .int x2] (zPre D cy T ad s0 sz)) (va_Qv (fun σ2 : zS => σ2 = σ0) (zAt D cy T ad (zA T ad sz)) (zA T ad sz)) 0 0 (zA T ad sz) := by
  intro σ0 hq
  refine Met.ofW (cc := cX4_add) (maxL := 3) (ret := none) (by decide) rfl ?_
  intro p e s m args below meth c s₁ B hml hv
  obtain ⟨hargs, hsz, hP, hK, hD0, hN⟩ := hv
  have hx := B.exec
  have hb := B.bytes
  have hr := B.returns
  have hts := atoms_spec (ws := wsX4_add) B.pre
  have hown : s.vm.findClass RX4 = some m.cls := findClass_of_methodNamed B.named
  have hlocks := B.notSynchronized
  have S : CallFix p m c cX4_add 3 s args wsX4_add RX4 := ⟨hx, hb, hml, hown, hts⟩
  subst hsz
  have hB : zB D cy T ad (zA T ad s.heap.size) s.heap s0 s.heap [] s := zz_entry hP hK hD0 hN
  obtain ⟨ls, hent, hl⟩ := zz_ent m hargs (n := 3) (Nat.le_of_ble_eq_true rfl)
  rw [hent]
  have hl : lv_has ls 3 [(0, .ref (ad a0)), (1, .int x1), (2, .int x2)] := hl
  have iwX4 : ∀ w ∈ u_ws RX4 TX4 5, w ∈ wsX4_add := by decide +kernel
  have lk0 : Cond.fieldLink RX4 22 "DiagramDesk$Guides" "count" "I" ∈ wsX4_add := by decide +kernel
  have lk1 : Cond.fieldLink RX4 9 "DiagramDesk$Guides" "axes" "[I" ∈ wsX4_add := by decide +kernel
  have lk2 : Cond.fieldLink RX4 15 "DiagramDesk$Guides" "places" "[I" ∈ wsX4_add := by decide +kernel
  unfold f_X4_add at hq
  refine zz_guard hq (fun hk0 hq => ?_)
  refine lv_aload_n hx hb dX4_add_0 rfl (lv_at hl 0 rfl) ?_
  refine zz_get S hT hB (C := RX4) (ref := "DiagramDesk$Guides") (F := TX4) (N := 5) (index := 22) 4 2 iwX4 rfl (by decide) (by decide) rfl rfl lk0 (fun _ h9 => h9) dX4_add_1 hq (fun x5 hq => ?_)
  refine zz_if_lt (tgt := 61) hx hb dX4_add_4 (by decide) hq (fun hq => ?_) (fun hq => ?_)
  · exact zz_vret S hB hr hlocks dX4_add_61 hq
  · refine lv_aload_n hx hb dX4_add_7 rfl (lv_at hl 0 rfl) ?_
    refine zz_get S hT hB (C := RX4) (ref := "DiagramDesk$Guides") (F := TX4) (N := 5) (index := 22) 4 2 iwX4 rfl (by decide) (by decide) rfl rfl lk0 (fun _ h9 => h9) dX4_add_8 hq (fun x6 hq => ?_)
    refine lv_aload_n hx hb dX4_add_11 rfl (lv_at hl 0 rfl) ?_
    refine zz_getR S hT hB (C := RX4) (ref := "DiagramDesk$Guides") (F := TX4) (N := 5) (index := 9) 4 0 iwX4 rfl (by decide) (by decide) rfl rfl lk1 (fun _ h9 => h9) dX4_add_12 hq (fun a7 hq => ?_)
    refine zz_alen S hT hB 13 (by decide) (by decide) dX4_add_15 hq (fun x8 hq => ?_)
    refine zz_icmp_ge (tgt := 61) hx hb dX4_add_16 (by decide) hq (fun hq => ?_) (fun hq => ?_)
    · exact zz_vret S hB hr hlocks dX4_add_61 hq
    · refine lv_aload_n hx hb dX4_add_19 rfl (lv_at hl 0 rfl) ?_
      refine zz_get S hT hB (C := RX4) (ref := "DiagramDesk$Guides") (F := TX4) (N := 5) (index := 22) 4 2 iwX4 rfl (by decide) (by decide) rfl rfl lk0 (fun _ h9 => h9) dX4_add_20 hq (fun x9 hq => ?_)
      refine lv_aload_n hx hb dX4_add_23 rfl (lv_at hl 0 rfl) ?_
      refine zz_getR S hT hB (C := RX4) (ref := "DiagramDesk$Guides") (F := TX4) (N := 5) (index := 15) 4 1 iwX4 rfl (by decide) (by decide) rfl rfl lk2 (fun _ h9 => h9) dX4_add_24 hq (fun a10 hq => ?_)
      refine zz_alen S hT hB 13 (by decide) (by decide) dX4_add_27 hq (fun x11 hq => ?_)
      refine zz_icmp_ge (tgt := 61) hx hb dX4_add_28 (by decide) hq (fun hq => ?_) (fun hq => ?_)
      · exact zz_vret S hB hr hlocks dX4_add_61 hq
      · refine lv_aload_n hx hb dX4_add_31 rfl (lv_at hl 0 rfl) ?_
        refine zz_getR S hT hB (C := RX4) (ref := "DiagramDesk$Guides") (F := TX4) (N := 5) (index := 9) 4 0 iwX4 rfl (by decide) (by decide) rfl rfl lk1 (fun _ h9 => h9) dX4_add_32 hq (fun a12 hq => ?_)
        refine lv_aload_n hx hb dX4_add_35 rfl (lv_at hl 0 rfl) ?_
        refine zz_get S hT hB (C := RX4) (ref := "DiagramDesk$Guides") (F := TX4) (N := 5) (index := 22) 4 2 iwX4 rfl (by decide) (by decide) rfl rfl lk0 (fun _ h9 => h9) dX4_add_36 hq (fun x13 hq => ?_)
        refine lv_iload_n hx hb dX4_add_39 rfl (lv_at hl 1 rfl) ?_
        refine zz_ast S hT hB dX4_add_40 hq (fun s14 H locs hq hB => ?_)
        refine lv_aload_n hx hb dX4_add_41 rfl (lv_at hl 0 rfl) ?_
        refine zz_getR S hT hB (C := RX4) (ref := "DiagramDesk$Guides") (F := TX4) (N := 5) (index := 15) 4 1 iwX4 rfl (by decide) (by decide) rfl rfl lk2 (fun _ h9 => h9) dX4_add_42 hq (fun a15 hq => ?_)
        refine lv_aload_n hx hb dX4_add_45 rfl (lv_at hl 0 rfl) ?_
        refine zz_get S hT hB (C := RX4) (ref := "DiagramDesk$Guides") (F := TX4) (N := 5) (index := 22) 4 2 iwX4 rfl (by decide) (by decide) rfl rfl lk0 (fun _ h9 => h9) dX4_add_46 hq (fun x16 hq => ?_)
        refine lv_iload_n hx hb dX4_add_49 rfl (lv_at hl 2 rfl) ?_
        refine zz_ast S hT hB dX4_add_50 hq (fun s17 H locs hq hB => ?_)
        refine lv_aload_n hx hb dX4_add_51 rfl (lv_at hl 0 rfl) ?_
        refine lv_dup hx hb dX4_add_52 rfl ?_
        refine zz_get S hT hB (C := RX4) (ref := "DiagramDesk$Guides") (F := TX4) (N := 5) (index := 22) 4 2 iwX4 rfl (by decide) (by decide) rfl rfl lk0 (fun _ h9 => h9) dX4_add_53 hq (fun x18 hq => ?_)
        refine lv_iconst (v := 1) hx hb dX4_add_56 (by decide) ?_
        refine lv_iadd hx hb dX4_add_57 ?_
        refine zz_put S hT hB (C := RX4) (ref := "DiagramDesk$Guides") (F := TX4) (N := 5) (index := 22) 4 2 iwX4 tyX4 tyX4_ok nmX4 rfl (by decide) (by decide) rfl rfl lk0 (fun _ h9 => h9) rfl (by decide +kernel) dX4_add_58 hq (fun s19 H locs hq hB => ?_)
        exact zz_vret S hB hr hlocks dX4_add_61 hq
def f_X11_isWithin (T : zT) (N : Nat) (s0 : zS) (x0 : Int32) (x1 : Int32) (x2 : Int32) : Option (Int32 × zS) :=
  if x0 < x1 then (
    rZ (0 : Int32) s0)
  else (
    if x2 < x0 then (
      rZ (0 : Int32) s0)
    else (
      rZ (1 : Int32) s0))
set_option maxHeartbeats 4000000 in
set_option maxRecDepth 100000 in
theorem c_X11_isWithin (l : Launch) (D : va_G) (cy : Nat → ClassId) (T : zT) (hT : zok T) (ad : Nat → Nat) (N : Nat) (s0 : zS) (sz : Nat) (x0 : Int32) (x1 : Int32) (x2 : Int32) : ∀ (r0 : Int32) (σ0 : zS), f_X11_isWithin T N s0 x0 x1 x2 = some (r0, σ0) → Met l yX11_isWithin wsX11_isWithin ({ frames := 0, cells := 0, slots := 0, locals := 0 }) (va_Pc [.int x0, .int x1, .int x2] (zPre D cy T ad s0 sz)) (va_Qi (fun (r2 : Int32) (σ2 : zS) => r2 = r0 ∧ σ2 = σ0) (zAt D cy T ad (zA T ad sz)) (zA T ad sz)) 0 0 (zA T ad sz) := by
  intro r0 σ0 hq
  refine Met.ofW (cc := cX11_isWithin) (maxL := 3) (ret := (some .boolean)) (by decide) rfl ?_
  intro p e s m args below meth c s₁ B hml hv
  obtain ⟨hargs, hsz, hP, hK, hD0, hN⟩ := hv
  have hx := B.exec
  have hb := B.bytes
  have hr := B.returns
  have hts := atoms_spec (ws := wsX11_isWithin) B.pre
  have hown : s.vm.findClass RX11 = some m.cls := findClass_of_methodNamed B.named
  have hlocks := B.notSynchronized
  have S : CallFix p m c cX11_isWithin 3 s args wsX11_isWithin RX11 := ⟨hx, hb, hml, hown, hts⟩
  subst hsz
  have hB : zB D cy T ad (zA T ad s.heap.size) s.heap s0 s.heap [] s := zz_entry hP hK hD0 hN
  obtain ⟨ls, hent, hl⟩ := zz_ent m hargs (n := 3) (Nat.le_of_ble_eq_true rfl)
  rw [hent]
  have hl : lv_has ls 3 [(0, .int x0), (1, .int x1), (2, .int x2)] := hl
  unfold f_X11_isWithin at hq
  refine lv_iload_n hx hb dX11_isWithin_0 rfl (lv_at hl 0 rfl) ?_
  refine lv_iload_n hx hb dX11_isWithin_1 rfl (lv_at hl 1 rfl) ?_
  refine zz_icmp_lt (tgt := 14) hx hb dX11_isWithin_2 (by decide) hq (fun hq => ?_) (fun hq => ?_)
  · refine lv_iconst (v := 0) hx hb dX11_isWithin_14 (by decide) ?_
    exact zz_zret S hB hr hlocks dX11_isWithin_15 hq
  · refine lv_iload_n hx hb dX11_isWithin_5 rfl (lv_at hl 0 rfl) ?_
    refine lv_iload_n hx hb dX11_isWithin_6 rfl (lv_at hl 2 rfl) ?_
    refine zz_icmp_gt (tgt := 14) hx hb dX11_isWithin_7 (by decide) hq (fun hq => ?_) (fun hq => ?_)
    · refine lv_iconst (v := 0) hx hb dX11_isWithin_14 (by decide) ?_
      exact zz_zret S hB hr hlocks dX11_isWithin_15 hq
    · refine lv_iconst (v := 1) hx hb dX11_isWithin_10 (by decide) ?_
      refine lv_goto (tgt := 15) hx hb dX11_isWithin_11 (by decide) ?_
      exact zz_zret S hB hr hlocks dX11_isWithin_15 hq
def f_X6_holds_J54 (T : zT) (N : Nat) (s0 : zS) (a0 : Nat) (x1 : Int32) (x2 : Int32) : Option (Int32 × zS) :=
  (gI T s0 a0 6 2).bind fun x6 =>
  (gI T s0 a0 6 4).bind fun x7 =>
  zn (if 0 < ((((2 : Int64) * ((x1).toInt64)) - ((2 : Int64) * ((x6).toInt64))) - ((x7).toInt64)) then ((((2 : Int64) * ((x1).toInt64)) - ((2 : Int64) * ((x6).toInt64))) - ((x7).toInt64)) else -((((2 : Int64) * ((x1).toInt64)) - ((2 : Int64) * ((x6).toInt64))) - ((x7).toInt64))) fun y8 =>
  (gI T s0 a0 6 3).bind fun x9 =>
  (gI T s0 a0 6 5).bind fun x10 =>
  zn (if 0 < ((((2 : Int64) * ((x2).toInt64)) - ((2 : Int64) * ((x9).toInt64))) - ((x10).toInt64)) then ((((2 : Int64) * ((x2).toInt64)) - ((2 : Int64) * ((x9).toInt64))) - ((x10).toInt64)) else -((((2 : Int64) * ((x2).toInt64)) - ((2 : Int64) * ((x9).toInt64))) - ((x10).toInt64))) fun y11 =>
  (gI T s0 a0 6 4).bind fun x12 =>
  zn ((x12).toInt64) fun y13 =>
  (gI T s0 a0 6 5).bind fun x14 =>
  zn ((x14).toInt64) fun y15 =>
  (gI T s0 a0 6 1).bind fun x16 =>
  if ¬ x16 = (1 : Int32) then (
    if 0 < (lg_cmp ((y8 * y15) + (y11 * y13)) (y13 * y15)) then (
      rZ (0 : Int32) s0)
    else (
      rZ (1 : Int32) s0))
  else (
    if 0 < (lg_cmp ((((y8 * y8) * y15) * y15) + (((y11 * y11) * y13) * y13)) (((y13 * y13) * y15) * y15)) then (
      rZ (0 : Int32) s0)
    else (
      rZ (1 : Int32) s0))
def f_X6_holds (T : zT) (N : Nat) (s0 : zS) (a0 : Nat) (x1 : Int32) (x2 : Int32) : Option (Int32 × zS) :=
  zz1 (T.1 a0 = 6) <|
  (gI T s0 a0 6 1).bind fun x5 =>
  if x5 = (1 : Int32) then (
    f_X6_holds_J54 T N s0 a0 x1 x2)
  else (
    (gI T s0 a0 6 1).bind fun x17 =>
    if x17 = (2 : Int32) then (
      f_X6_holds_J54 T N s0 a0 x1 x2)
    else (
      (gI T s0 a0 6 2).bind fun x18 =>
      zb2 (f_X6_end T N s0 a0 (0 : Int32)) fun x20 s19 =>
      zb2 (f_X11_isWithin T N s19 x1 x18 x20) fun x22 s21 =>
      if x22 = 0 then (
        rZ (0 : Int32) s21)
      else (
        (gI T s21 a0 6 3).bind fun x23 =>
        zb2 (f_X6_end T N s21 a0 (1 : Int32)) fun x25 s24 =>
        zb2 (f_X11_isWithin T N s24 x2 x23 x25) fun x27 s26 =>
        if x27 = 0 then (
          rZ (0 : Int32) s26)
        else (
          rZ (1 : Int32) s26))))
theorem k_X6_holds (T : zT) (N : Nat) (s0 : zS) (a0 : Nat) (x1 : Int32) (x2 : Int32) : ∀ q, f_X6_holds T N s0 a0 x1 x2 = some q → T.1 a0 = 6 := by
  intro q h
  unfold f_X6_holds at h
  exact zz_guard h (fun h _ => h)
set_option maxHeartbeats 4000000 in
set_option maxRecDepth 100000 in
theorem c_X6_holds (l : Launch) (D : va_G) (cy : Nat → ClassId) (T : zT) (hT : zok T) (ad : Nat → Nat) (N : Nat) (s0 : zS) (sz : Nat) (a0 : Nat) (x1 : Int32) (x2 : Int32) : ∀ (r0 : Int32) (σ0 : zS), f_X6_holds T N s0 a0 x1 x2 = some (r0, σ0) → Met l yX6_holds wsX6_holds ({ frames := 2, cells := 0, slots := 0, locals := 42 }) (va_Pc [.ref (ad a0), .int x1, .int x2] (zPre D cy T ad s0 sz)) (va_Qi (fun (r2 : Int32) (σ2 : zS) => r2 = r0 ∧ σ2 = σ0) (zAt D cy T ad (zA T ad sz)) (zA T ad sz)) 0 0 (zA T ad sz) := by
  intro r0 σ0 hq
  refine Met.ofW (cc := cX6_holds) (maxL := 11) (ret := (some .boolean)) (by decide) rfl ?_
  intro p e s m args below meth c s₁ B hml hv
  obtain ⟨hargs, hsz, hP, hK, hD0, hN⟩ := hv
  have hx := B.exec
  have hb := B.bytes
  have hr := B.returns
  have hts := atoms_spec (ws := wsX6_holds) B.pre
  have hown : s.vm.findClass RX6 = some m.cls := findClass_of_methodNamed B.named
  have hlocks := B.notSynchronized
  have S : CallFix p m c cX6_holds 11 s args wsX6_holds RX6 := ⟨hx, hb, hml, hown, hts⟩
  subst hsz
  have hB : zB D cy T ad (zA T ad s.heap.size) s.heap s0 s.heap [] s := zz_entry hP hK hD0 hN
  obtain ⟨ls, hent, hl⟩ := zz_ent m hargs (n := 11) (Nat.le_of_ble_eq_true rfl)
  rw [hent]
  have hl : lv_has ls 11 [(0, .ref (ad a0)), (1, .int x1), (2, .int x2)] := hl
  have iwX6 : ∀ w ∈ u_ws RX6 TX6 8, w ∈ wsX6_holds := by decide +kernel
  have lk0 : Cond.fieldLink RX6 15 "DiagramDesk$Shape" "kind" "I" ∈ wsX6_holds := by decide +kernel
  have lk1 : Cond.constantLong RX6 60 (2) ∈ wsX6_holds := by decide +kernel
  have lk2 : Cond.fieldLink RX6 19 "DiagramDesk$Shape" "left" "I" ∈ wsX6_holds := by decide +kernel
  have lk3 : Cond.fieldLink RX6 25 "DiagramDesk$Shape" "width" "I" ∈ wsX6_holds := by decide +kernel
  have lk4 : Cond.methodLink RX6 62 Lib.MathLoose.abs_long.x ∈ wsX6_holds := by decide +kernel
  have lk5 : Cond.static Lib.MathLoose.abs_long.x ∈ wsX6_holds := by decide +kernel
  have lk6 : Cond.initialized "java/lang/Math" ∈ wsX6_holds := by decide +kernel
  have lk7 : Cond.code Lib.MathLoose.abs_long.x Lib.MathLoose.abs_long.code 2 (some .long) ∈ wsX6_holds := by decide +kernel
  have lk8 : Cond.fieldLink RX6 22 "DiagramDesk$Shape" "top" "I" ∈ wsX6_holds := by decide +kernel
  have lk9 : Cond.fieldLink RX6 28 "DiagramDesk$Shape" "height" "I" ∈ wsX6_holds := by decide +kernel
  have lk10 : Cond.initialized RX11 ∈ wsX6_holds := by decide +kernel
  have lk11 : Cond.static yX11_isWithin ∈ wsX6_holds := by decide +kernel
  unfold f_X6_holds at hq
  refine zz_guard hq (fun hk0 hq => ?_)
  refine lv_aload_n hx hb dX6_holds_0 rfl (lv_at hl 0 rfl) ?_
  refine zz_get S hT hB (C := RX6) (ref := "DiagramDesk$Shape") (F := TX6) (N := 8) (index := 15) 6 1 iwX6 rfl (by decide) (by decide) rfl rfl lk0 (fun _ h9 => h9) dX6_holds_1 hq (fun x5 hq => ?_)
  refine lv_iconst (v := 1) hx hb dX6_holds_4 (by decide) ?_
  have J54 : ∀ (H : Heap) (locs : List Loc) (ls : Array Slot), f_X6_holds_J54 T N s0 a0 x1 x2 = some (r0, σ0) → zB D cy T ad (zA T ad s.heap.size) s.heap s0 H locs s → lv_has ls 11 [(0, .ref (ad a0)), (1, .int x1), (2, .int x2)] → W p l e (headSpec wsX6_holds ({ frames := 2, cells := 0, slots := 0, locals := 42 } : Room)).room s m args below meth c H locs 0 0 (MQ below (va_Qi (fun (r2 : Int32) (σ2 : zS) => r2 = r0 ∧ σ2 = σ0) (zAt D cy T ad (zA T ad s.heap.size)) (zA T ad s.heap.size)) args s 0 0 (zA T ad s.heap.size)) (F0 m 54 ls []) := by
    intro H locs ls hq hB hl
    unfold f_X6_holds_J54 at hq
    refine lv_ldc2 (v := 2) hx hb hown (hts _ lk1) dX6_holds_54 ?_
    refine lv_iload_n hx hb dX6_holds_57 rfl (lv_at hl 1 rfl) ?_
    refine lv_i2l (v := (x1).toInt64) hx hb dX6_holds_58 rfl ?_
    refine lv_lmul hx hb dX6_holds_59 ?_
    refine lv_ldc2 (v := 2) hx hb hown (hts _ lk1) dX6_holds_60 ?_
    refine lv_aload_n hx hb dX6_holds_63 rfl (lv_at hl 0 rfl) ?_
    refine zz_get S hT hB (C := RX6) (ref := "DiagramDesk$Shape") (F := TX6) (N := 8) (index := 19) 6 2 iwX6 rfl (by decide) (by decide) rfl rfl lk2 (fun _ h9 => h9) dX6_holds_64 hq (fun x6 hq => ?_)
    refine lv_i2l (v := (x6).toInt64) hx hb dX6_holds_67 rfl ?_
    refine lv_lmul hx hb dX6_holds_68 ?_
    refine lv_lsub hx hb dX6_holds_69 ?_
    refine lv_aload_n hx hb dX6_holds_70 rfl (lv_at hl 0 rfl) ?_
    refine zz_get S hT hB (C := RX6) (ref := "DiagramDesk$Shape") (F := TX6) (N := 8) (index := 25) 6 4 iwX6 rfl (by decide) (by decide) rfl rfl lk3 (fun _ h9 => h9) dX6_holds_71 hq (fun x7 hq => ?_)
    refine lv_i2l (v := (x7).toInt64) hx hb dX6_holds_74 rfl ?_
    refine lv_lsub hx hb dX6_holds_75 ?_
    refine zz_absl S hl.1 lk4 lk5 lk6 lk7 (Nat.le_of_ble_eq_true rfl) (Nat.le_of_ble_eq_true rfl) dX6_holds_76 ?_
    refine zz_nmJ hq (fun y8 hq => ?_)
    refine lv_lstore_n (lv' := [(3, .long y8), (0, .ref (ad a0)), (1, .int x1), (2, .int x2)]) hx hb dX6_holds_79 rfl hl (by decide) rfl (fun ls hl => ?_)
    refine lv_ldc2 (v := 2) hx hb hown (hts _ lk1) dX6_holds_80 ?_
    refine lv_iload_n hx hb dX6_holds_83 rfl (lv_at hl 3 rfl) ?_
    refine lv_i2l (v := (x2).toInt64) hx hb dX6_holds_84 rfl ?_
    refine lv_lmul hx hb dX6_holds_85 ?_
    refine lv_ldc2 (v := 2) hx hb hown (hts _ lk1) dX6_holds_86 ?_
    refine lv_aload_n hx hb dX6_holds_89 rfl (lv_at hl 1 rfl) ?_
    refine zz_get S hT hB (C := RX6) (ref := "DiagramDesk$Shape") (F := TX6) (N := 8) (index := 22) 6 3 iwX6 rfl (by decide) (by decide) rfl rfl lk8 (fun _ h9 => h9) dX6_holds_90 hq (fun x9 hq => ?_)
    refine lv_i2l (v := (x9).toInt64) hx hb dX6_holds_93 rfl ?_
    refine lv_lmul hx hb dX6_holds_94 ?_
    refine lv_lsub hx hb dX6_holds_95 ?_
    refine lv_aload_n hx hb dX6_holds_96 rfl (lv_at hl 1 rfl) ?_
    refine zz_get S hT hB (C := RX6) (ref := "DiagramDesk$Shape") (F := TX6) (N := 8) (index := 28) 6 5 iwX6 rfl (by decide) (by decide) rfl rfl lk9 (fun _ h9 => h9) dX6_holds_97 hq (fun x10 hq => ?_)
    refine lv_i2l (v := (x10).toInt64) hx hb dX6_holds_100 rfl ?_
    refine lv_lsub hx hb dX6_holds_101 ?_
    refine zz_absl S hl.1 lk4 lk5 lk6 lk7 (Nat.le_of_ble_eq_true rfl) (Nat.le_of_ble_eq_true rfl) dX6_holds_102 ?_
    refine zz_nmJ hq (fun y11 hq => ?_)
    refine lv_lstore (lv' := [(5, .long y11), (3, .long y8), (0, .ref (ad a0)), (1, .int x1), (2, .int x2)]) hx hb dX6_holds_105 hl (by decide) rfl (fun ls hl => ?_)
    refine lv_aload_n hx hb dX6_holds_107 rfl (lv_at hl 2 rfl) ?_
    refine zz_get S hT hB (C := RX6) (ref := "DiagramDesk$Shape") (F := TX6) (N := 8) (index := 25) 6 4 iwX6 rfl (by decide) (by decide) rfl rfl lk3 (fun _ h9 => h9) dX6_holds_108 hq (fun x12 hq => ?_)
    refine lv_i2l (v := (x12).toInt64) hx hb dX6_holds_111 rfl ?_
    refine zz_nmJ hq (fun y13 hq => ?_)
    refine lv_lstore (lv' := [(7, .long y13), (5, .long y11), (3, .long y8), (0, .ref (ad a0)), (1, .int x1), (2, .int x2)]) hx hb dX6_holds_112 hl (by decide) rfl (fun ls hl => ?_)
    refine lv_aload_n hx hb dX6_holds_114 rfl (lv_at hl 3 rfl) ?_
    refine zz_get S hT hB (C := RX6) (ref := "DiagramDesk$Shape") (F := TX6) (N := 8) (index := 28) 6 5 iwX6 rfl (by decide) (by decide) rfl rfl lk9 (fun _ h9 => h9) dX6_holds_115 hq (fun x14 hq => ?_)
    refine lv_i2l (v := (x14).toInt64) hx hb dX6_holds_118 rfl ?_
    refine zz_nmJ hq (fun y15 hq => ?_)
    refine lv_lstore (lv' := [(9, .long y15), (7, .long y13), (5, .long y11), (3, .long y8), (0, .ref (ad a0)), (1, .int x1), (2, .int x2)]) hx hb dX6_holds_119 hl (by decide) rfl (fun ls hl => ?_)
    refine lv_aload_n hx hb dX6_holds_121 rfl (lv_at hl 4 rfl) ?_
    refine zz_get S hT hB (C := RX6) (ref := "DiagramDesk$Shape") (F := TX6) (N := 8) (index := 15) 6 1 iwX6 rfl (by decide) (by decide) rfl rfl lk0 (fun _ h9 => h9) dX6_holds_122 hq (fun x16 hq => ?_)
    refine lv_iconst (v := 1) hx hb dX6_holds_125 (by decide) ?_
    refine zz_icmp_ne (tgt := 171) hx hb dX6_holds_126 (by decide) hq (fun hq => ?_) (fun hq => ?_)
    · refine lv_lload_n hx hb dX6_holds_171 rfl (lv_at hl 3 rfl) ?_
      refine lv_lload hx hb dX6_holds_172 (lv_at hl 0 rfl) ?_
      refine lv_lmul hx hb dX6_holds_174 ?_
      refine lv_lload hx hb dX6_holds_175 (lv_at hl 2 rfl) ?_
      refine lv_lload hx hb dX6_holds_177 (lv_at hl 1 rfl) ?_
      refine lv_lmul hx hb dX6_holds_179 ?_
      refine lv_ladd hx hb dX6_holds_180 ?_
      refine lv_lload hx hb dX6_holds_181 (lv_at hl 1 rfl) ?_
      refine lv_lload hx hb dX6_holds_183 (lv_at hl 0 rfl) ?_
      refine lv_lmul hx hb dX6_holds_185 ?_
      refine W.lcmp hx hb dX6_holds_186 ?_
      refine zz_if_gt (tgt := 194) hx hb dX6_holds_187 (by decide) hq (fun hq => ?_) (fun hq => ?_)
      · refine lv_iconst (v := 0) hx hb dX6_holds_194 (by decide) ?_
        exact zz_zret S hB hr hlocks dX6_holds_195 hq
      · refine lv_iconst (v := 1) hx hb dX6_holds_190 (by decide) ?_
        refine lv_goto (tgt := 195) hx hb dX6_holds_191 (by decide) ?_
        exact zz_zret S hB hr hlocks dX6_holds_195 hq
    · refine lv_lload_n hx hb dX6_holds_129 rfl (lv_at hl 3 rfl) ?_
      refine lv_lload_n hx hb dX6_holds_130 rfl (lv_at hl 3 rfl) ?_
      refine lv_lmul hx hb dX6_holds_131 ?_
      refine lv_lload hx hb dX6_holds_132 (lv_at hl 0 rfl) ?_
      refine lv_lmul hx hb dX6_holds_134 ?_
      refine lv_lload hx hb dX6_holds_135 (lv_at hl 0 rfl) ?_
      refine lv_lmul hx hb dX6_holds_137 ?_
      refine lv_lload hx hb dX6_holds_138 (lv_at hl 2 rfl) ?_
      refine lv_lload hx hb dX6_holds_140 (lv_at hl 2 rfl) ?_
      refine lv_lmul hx hb dX6_holds_142 ?_
      refine lv_lload hx hb dX6_holds_143 (lv_at hl 1 rfl) ?_
      refine lv_lmul hx hb dX6_holds_145 ?_
      refine lv_lload hx hb dX6_holds_146 (lv_at hl 1 rfl) ?_
      refine lv_lmul hx hb dX6_holds_148 ?_
      refine lv_ladd hx hb dX6_holds_149 ?_
      refine lv_lload hx hb dX6_holds_150 (lv_at hl 1 rfl) ?_
      refine lv_lload hx hb dX6_holds_152 (lv_at hl 1 rfl) ?_
      refine lv_lmul hx hb dX6_holds_154 ?_
      refine lv_lload hx hb dX6_holds_155 (lv_at hl 0 rfl) ?_
      refine lv_lmul hx hb dX6_holds_157 ?_
      refine lv_lload hx hb dX6_holds_158 (lv_at hl 0 rfl) ?_
      refine lv_lmul hx hb dX6_holds_160 ?_
      refine W.lcmp hx hb dX6_holds_161 ?_
      refine zz_if_gt (tgt := 169) hx hb dX6_holds_162 (by decide) hq (fun hq => ?_) (fun hq => ?_)
      · refine lv_iconst (v := 0) hx hb dX6_holds_169 (by decide) ?_
        exact zz_zret S hB hr hlocks dX6_holds_170 hq
      · refine lv_iconst (v := 1) hx hb dX6_holds_165 (by decide) ?_
        refine lv_goto (tgt := 170) hx hb dX6_holds_166 (by decide) ?_
        exact zz_zret S hB hr hlocks dX6_holds_170 hq
  refine zz_icmp_eq (tgt := 54) hx hb dX6_holds_5 (by decide) hq (fun hq => ?_) (fun hq => ?_)
  · exact J54  _ _ _ hq hB (lv_sub hl [0, 1, 2] rfl)
  · refine lv_aload_n hx hb dX6_holds_8 rfl (lv_at hl 0 rfl) ?_
    refine zz_get S hT hB (C := RX6) (ref := "DiagramDesk$Shape") (F := TX6) (N := 8) (index := 15) 6 1 iwX6 rfl (by decide) (by decide) rfl rfl lk0 (fun _ h9 => h9) dX6_holds_9 hq (fun x17 hq => ?_)
    refine lv_iconst (v := 2) hx hb dX6_holds_12 (by decide) ?_
    refine zz_icmp_eq (tgt := 54) hx hb dX6_holds_13 (by decide) hq (fun hq => ?_) (fun hq => ?_)
    · exact J54  _ _ _ hq hB (lv_sub hl [0, 1, 2] rfl)
    · refine lv_iload_n hx hb dX6_holds_16 rfl (lv_at hl 1 rfl) ?_
      refine lv_aload_n hx hb dX6_holds_17 rfl (lv_at hl 0 rfl) ?_
      refine zz_get S hT hB (C := RX6) (ref := "DiagramDesk$Shape") (F := TX6) (N := 8) (index := 19) 6 2 iwX6 rfl (by decide) (by decide) rfl rfl lk2 (fun _ h9 => h9) dX6_holds_18 hq (fun x18 hq => ?_)
      refine lv_aload_n hx hb dX6_holds_21 rfl (lv_at hl 0 rfl) ?_
      refine lv_iconst (v := 0) hx hb dX6_holds_22 (by decide) ?_
      refine zz_callVi S hT hB (As := [.int (0 : Int32)]) (b := a0) (o := f_X6_end T N s0 a0 (0 : Int32)) (c_X6_end l D cy T hT ad N s0 _ a0 (0 : Int32)) (cwV 1 hts gX6_holds_X6_end rfl rfl rfl (by decide +kernel) ⟨Nat.le_of_ble_eq_true rfl, Nat.le_of_ble_eq_true rfl⟩) (F := TX6) (NF := 8) 6 rfl (by decide) (k_X6_end T N s0 a0 (0 : Int32)) rfl hl.1 rfl (Nat.le_of_ble_eq_true rfl) dX6_holds_23 hq (fun x20 s19 H locs hq hB => ?_)
      refine zz_callNi S hT hB (As := [.int x1, .int x18, .int x20]) (o := f_X11_isWithin T N s19 x1 x18 x20) (c_X11_isWithin l D cy T hT ad N s19 _ x1 x18 x20) ⟨va_cnB (host := "DiagramDesk") 3 hts gX6_holds_X11_isWithin_n56 rfl rfl rfl (zN_at hN 9 rfl) (hts _ lk10) (by decide +kernel) ⟨Nat.le_of_ble_eq_true rfl, Nat.le_of_ble_eq_true rfl⟩, hts _ lk11, trivial⟩ rfl hl.1 rfl (Nat.le_of_ble_eq_true rfl) dX6_holds_26 hq (fun x22 s21 H locs hq hB => ?_)
      refine zz_if_eq (tgt := 52) hx hb dX6_holds_29 (by decide) hq (fun hq => ?_) (fun hq => ?_)
      · refine lv_iconst (v := 0) hx hb dX6_holds_52 (by decide) ?_
        exact zz_zret S hB hr hlocks dX6_holds_53 hq
      · refine lv_iload_n hx hb dX6_holds_32 rfl (lv_at hl 2 rfl) ?_
        refine lv_aload_n hx hb dX6_holds_33 rfl (lv_at hl 0 rfl) ?_
        refine zz_get S hT hB (C := RX6) (ref := "DiagramDesk$Shape") (F := TX6) (N := 8) (index := 22) 6 3 iwX6 rfl (by decide) (by decide) rfl rfl lk8 (fun _ h9 => h9) dX6_holds_34 hq (fun x23 hq => ?_)
        refine lv_aload_n hx hb dX6_holds_37 rfl (lv_at hl 0 rfl) ?_
        refine lv_iconst (v := 1) hx hb dX6_holds_38 (by decide) ?_
        refine zz_callVi S hT hB (As := [.int (1 : Int32)]) (b := a0) (o := f_X6_end T N s21 a0 (1 : Int32)) (c_X6_end l D cy T hT ad N s21 _ a0 (1 : Int32)) (cwV 1 hts gX6_holds_X6_end rfl rfl rfl (by decide +kernel) ⟨Nat.le_of_ble_eq_true rfl, Nat.le_of_ble_eq_true rfl⟩) (F := TX6) (NF := 8) 6 rfl (by decide) (k_X6_end T N s21 a0 (1 : Int32)) rfl hl.1 rfl (Nat.le_of_ble_eq_true rfl) dX6_holds_39 hq (fun x25 s24 H locs hq hB => ?_)
        refine zz_callNi S hT hB (As := [.int x2, .int x23, .int x25]) (o := f_X11_isWithin T N s24 x2 x23 x25) (c_X11_isWithin l D cy T hT ad N s24 _ x2 x23 x25) ⟨va_cnB (host := "DiagramDesk") 3 hts gX6_holds_X11_isWithin_n56 rfl rfl rfl (zN_at hN 9 rfl) (hts _ lk10) (by decide +kernel) ⟨Nat.le_of_ble_eq_true rfl, Nat.le_of_ble_eq_true rfl⟩, hts _ lk11, trivial⟩ rfl hl.1 rfl (Nat.le_of_ble_eq_true rfl) dX6_holds_42 hq (fun x27 s26 H locs hq hB => ?_)
        refine zz_if_eq (tgt := 52) hx hb dX6_holds_45 (by decide) hq (fun hq => ?_) (fun hq => ?_)
        · refine lv_iconst (v := 0) hx hb dX6_holds_52 (by decide) ?_
          exact zz_zret S hB hr hlocks dX6_holds_53 hq
        · refine lv_iconst (v := 1) hx hb dX6_holds_48 (by decide) ?_
          refine lv_goto (tgt := 53) hx hb dX6_holds_49 (by decide) ?_
          exact zz_zret S hB hr hlocks dX6_holds_53 hq
def f_X6_copy (T : zT) (N : Nat) (s0 : zS) (a0 : Nat) (a1 : Nat) : Option zS :=
  zz1 (T.1 a0 = 6) <|
  (gI T s0 a1 6 0).bind fun x4 =>
  (pZ T s0 a0 6 0 x4).bind fun s5 =>
  (gI T s5 a1 6 1).bind fun x6 =>
  (pI T s5 a0 6 1 x6).bind fun s7 =>
  (gI T s7 a1 6 2).bind fun x8 =>
  (pI T s7 a0 6 2 x8).bind fun s9 =>
  (gI T s9 a1 6 3).bind fun x10 =>
  (pI T s9 a0 6 3 x10).bind fun s11 =>
  (gI T s11 a1 6 4).bind fun x12 =>
  (pI T s11 a0 6 4 x12).bind fun s13 =>
  (gI T s13 a1 6 5).bind fun x14 =>
  (pI T s13 a0 6 5 x14).bind fun s15 =>
  (gI T s15 a1 6 6).bind fun x16 =>
  (pI T s15 a0 6 6 x16).bind fun s17 =>
  (gI T s17 a1 6 7).bind fun x18 =>
  (pI T s17 a0 6 7 x18).bind fun s19 =>
  some s19
theorem k_X6_copy (T : zT) (N : Nat) (s0 : zS) (a0 : Nat) (a1 : Nat) : ∀ q, f_X6_copy T N s0 a0 a1 = some q → T.1 a0 = 6 := by
  intro q h
  unfold f_X6_copy at h
  exact zz_guard h (fun h _ => h)
set_option maxHeartbeats 4000000 in
set_option maxRecDepth 100000 in
theorem c_X6_copy (l : Launch) (D : va_G) (cy : Nat → ClassId) (T : zT) (hT : zok T) (ad : Nat → Nat) (N : Nat) (s0 : zS) (sz : Nat) (a0 : Nat) (a1 : Nat) : ∀ (σ0 : zS), f_X6_copy T N s0 a0 a1 = some σ0 → Met l yX6_copy wsX6_copy ({ frames := 0, cells := 0, slots := 0, locals := 0 }) (va_Pc [.ref (ad a0), .ref (ad a1)] (zPre D cy T ad s0 sz)) (va_Qv (fun σ2 : zS => σ2 = σ0) (zAt D cy T ad (zA T ad sz)) (zA T ad sz)) 0 0 (zA T ad sz) := by
  intro σ0 hq
  refine Met.ofW (cc := cX6_copy) (maxL := 2) (ret := none) (by decide) rfl ?_
  intro p e s m args below meth c s₁ B hml hv
  obtain ⟨hargs, hsz, hP, hK, hD0, hN⟩ := hv
  have hx := B.exec
  have hb := B.bytes
  have hr := B.returns
  have hts := atoms_spec (ws := wsX6_copy) B.pre
  have hown : s.vm.findClass RX6 = some m.cls := findClass_of_methodNamed B.named
  have hlocks := B.notSynchronized
  have S : CallFix p m c cX6_copy 2 s args wsX6_copy RX6 := ⟨hx, hb, hml, hown, hts⟩
  subst hsz
  have hB : zB D cy T ad (zA T ad s.heap.size) s.heap s0 s.heap [] s := zz_entry hP hK hD0 hN
  obtain ⟨ls, hent, hl⟩ := zz_ent m hargs (n := 2) (Nat.le_of_ble_eq_true rfl)
  rw [hent]
  have hl : lv_has ls 2 [(0, .ref (ad a0)), (1, .ref (ad a1))] := hl
  have iwX6 : ∀ w ∈ u_ws RX6 TX6 8, w ∈ wsX6_copy := by decide +kernel
  have lk0 : Cond.fieldLink RX6 9 "DiagramDesk$Shape" "there" "Z" ∈ wsX6_copy := by decide +kernel
  have lk1 : Cond.fieldLink RX6 15 "DiagramDesk$Shape" "kind" "I" ∈ wsX6_copy := by decide +kernel
  have lk2 : Cond.fieldLink RX6 19 "DiagramDesk$Shape" "left" "I" ∈ wsX6_copy := by decide +kernel
  have lk3 : Cond.fieldLink RX6 22 "DiagramDesk$Shape" "top" "I" ∈ wsX6_copy := by decide +kernel
  have lk4 : Cond.fieldLink RX6 25 "DiagramDesk$Shape" "width" "I" ∈ wsX6_copy := by decide +kernel
  have lk5 : Cond.fieldLink RX6 28 "DiagramDesk$Shape" "height" "I" ∈ wsX6_copy := by decide +kernel
  have lk6 : Cond.fieldLink RX6 31 "DiagramDesk$Shape" "depth" "I" ∈ wsX6_copy := by decide +kernel
  have lk7 : Cond.fieldLink RX6 34 "DiagramDesk$Shape" "home" "I" ∈ wsX6_copy := by decide +kernel
  unfold f_X6_copy at hq
  refine zz_guard hq (fun hk0 hq => ?_)
  refine lv_aload_n hx hb dX6_copy_0 rfl (lv_at hl 0 rfl) ?_
  refine lv_aload_n hx hb dX6_copy_1 rfl (lv_at hl 1 rfl) ?_
  refine zz_get S hT hB (C := RX6) (ref := "DiagramDesk$Shape") (F := TX6) (N := 8) (index := 9) 6 0 iwX6 rfl (by decide) (by decide) rfl rfl lk0 (fun _ h9 => h9) dX6_copy_2 hq (fun x4 hq => ?_)
  refine zz_putZ S hT hB (C := RX6) (ref := "DiagramDesk$Shape") (F := TX6) (N := 8) (index := 9) 6 0 iwX6 tyX6 tyX6_ok nmX6 rfl (by decide) (by decide) rfl rfl lk0 (fun _ h9 => h9) rfl (by decide +kernel) dX6_copy_5 hq (fun s5 H locs hq hB => ?_)
  refine lv_aload_n hx hb dX6_copy_8 rfl (lv_at hl 0 rfl) ?_
  refine lv_aload_n hx hb dX6_copy_9 rfl (lv_at hl 1 rfl) ?_
  refine zz_get S hT hB (C := RX6) (ref := "DiagramDesk$Shape") (F := TX6) (N := 8) (index := 15) 6 1 iwX6 rfl (by decide) (by decide) rfl rfl lk1 (fun _ h9 => h9) dX6_copy_10 hq (fun x6 hq => ?_)
  refine zz_put S hT hB (C := RX6) (ref := "DiagramDesk$Shape") (F := TX6) (N := 8) (index := 15) 6 1 iwX6 tyX6 tyX6_ok nmX6 rfl (by decide) (by decide) rfl rfl lk1 (fun _ h9 => h9) rfl (by decide +kernel) dX6_copy_13 hq (fun s7 H locs hq hB => ?_)
  refine lv_aload_n hx hb dX6_copy_16 rfl (lv_at hl 0 rfl) ?_
  refine lv_aload_n hx hb dX6_copy_17 rfl (lv_at hl 1 rfl) ?_
  refine zz_get S hT hB (C := RX6) (ref := "DiagramDesk$Shape") (F := TX6) (N := 8) (index := 19) 6 2 iwX6 rfl (by decide) (by decide) rfl rfl lk2 (fun _ h9 => h9) dX6_copy_18 hq (fun x8 hq => ?_)
  refine zz_put S hT hB (C := RX6) (ref := "DiagramDesk$Shape") (F := TX6) (N := 8) (index := 19) 6 2 iwX6 tyX6 tyX6_ok nmX6 rfl (by decide) (by decide) rfl rfl lk2 (fun _ h9 => h9) rfl (by decide +kernel) dX6_copy_21 hq (fun s9 H locs hq hB => ?_)
  refine lv_aload_n hx hb dX6_copy_24 rfl (lv_at hl 0 rfl) ?_
  refine lv_aload_n hx hb dX6_copy_25 rfl (lv_at hl 1 rfl) ?_
  refine zz_get S hT hB (C := RX6) (ref := "DiagramDesk$Shape") (F := TX6) (N := 8) (index := 22) 6 3 iwX6 rfl (by decide) (by decide) rfl rfl lk3 (fun _ h9 => h9) dX6_copy_26 hq (fun x10 hq => ?_)
  refine zz_put S hT hB (C := RX6) (ref := "DiagramDesk$Shape") (F := TX6) (N := 8) (index := 22) 6 3 iwX6 tyX6 tyX6_ok nmX6 rfl (by decide) (by decide) rfl rfl lk3 (fun _ h9 => h9) rfl (by decide +kernel) dX6_copy_29 hq (fun s11 H locs hq hB => ?_)
  refine lv_aload_n hx hb dX6_copy_32 rfl (lv_at hl 0 rfl) ?_
  refine lv_aload_n hx hb dX6_copy_33 rfl (lv_at hl 1 rfl) ?_
  refine zz_get S hT hB (C := RX6) (ref := "DiagramDesk$Shape") (F := TX6) (N := 8) (index := 25) 6 4 iwX6 rfl (by decide) (by decide) rfl rfl lk4 (fun _ h9 => h9) dX6_copy_34 hq (fun x12 hq => ?_)
  refine zz_put S hT hB (C := RX6) (ref := "DiagramDesk$Shape") (F := TX6) (N := 8) (index := 25) 6 4 iwX6 tyX6 tyX6_ok nmX6 rfl (by decide) (by decide) rfl rfl lk4 (fun _ h9 => h9) rfl (by decide +kernel) dX6_copy_37 hq (fun s13 H locs hq hB => ?_)
  refine lv_aload_n hx hb dX6_copy_40 rfl (lv_at hl 0 rfl) ?_
  refine lv_aload_n hx hb dX6_copy_41 rfl (lv_at hl 1 rfl) ?_
  refine zz_get S hT hB (C := RX6) (ref := "DiagramDesk$Shape") (F := TX6) (N := 8) (index := 28) 6 5 iwX6 rfl (by decide) (by decide) rfl rfl lk5 (fun _ h9 => h9) dX6_copy_42 hq (fun x14 hq => ?_)
  refine zz_put S hT hB (C := RX6) (ref := "DiagramDesk$Shape") (F := TX6) (N := 8) (index := 28) 6 5 iwX6 tyX6 tyX6_ok nmX6 rfl (by decide) (by decide) rfl rfl lk5 (fun _ h9 => h9) rfl (by decide +kernel) dX6_copy_45 hq (fun s15 H locs hq hB => ?_)
  refine lv_aload_n hx hb dX6_copy_48 rfl (lv_at hl 0 rfl) ?_
  refine lv_aload_n hx hb dX6_copy_49 rfl (lv_at hl 1 rfl) ?_
  refine zz_get S hT hB (C := RX6) (ref := "DiagramDesk$Shape") (F := TX6) (N := 8) (index := 31) 6 6 iwX6 rfl (by decide) (by decide) rfl rfl lk6 (fun _ h9 => h9) dX6_copy_50 hq (fun x16 hq => ?_)
  refine zz_put S hT hB (C := RX6) (ref := "DiagramDesk$Shape") (F := TX6) (N := 8) (index := 31) 6 6 iwX6 tyX6 tyX6_ok nmX6 rfl (by decide) (by decide) rfl rfl lk6 (fun _ h9 => h9) rfl (by decide +kernel) dX6_copy_53 hq (fun s17 H locs hq hB => ?_)
  refine lv_aload_n hx hb dX6_copy_56 rfl (lv_at hl 0 rfl) ?_
  refine lv_aload_n hx hb dX6_copy_57 rfl (lv_at hl 1 rfl) ?_
  refine zz_get S hT hB (C := RX6) (ref := "DiagramDesk$Shape") (F := TX6) (N := 8) (index := 34) 6 7 iwX6 rfl (by decide) (by decide) rfl rfl lk7 (fun _ h9 => h9) dX6_copy_58 hq (fun x18 hq => ?_)
  refine zz_put S hT hB (C := RX6) (ref := "DiagramDesk$Shape") (F := TX6) (N := 8) (index := 34) 6 7 iwX6 tyX6 tyX6_ok nmX6 rfl (by decide) (by decide) rfl rfl lk7 (fun _ h9 => h9) rfl (by decide +kernel) dX6_copy_61 hq (fun s19 H locs hq hB => ?_)
  exact zz_vret S hB hr hlocks dX6_copy_64 hq
def f_X9_code (T : zT) (N : Nat) (s0 : zS) (a0 : Nat) : Option (Int32 × zS) :=
  zz1 (T.1 a0 = 9) <|
  (gI T s0 a0 9 4).bind fun x3 =>
  if x3 < 0 then (
    some ((-1000000 : Int32), s0))
  else (
    (gI T s0 a0 9 4).bind fun x4 =>
    (gI T s0 a0 9 2).bind fun x5 =>
    if x5 ≤ x4 then (
      some ((-1000000 : Int32), s0))
    else (
      (gI T s0 a0 9 4).bind fun x6 =>
      (gR T s0 a0 9 0).bind fun a7 =>
      (aL T a7 13).bind fun x8 =>
      if x8 ≤ x6 then (
        some ((-1000000 : Int32), s0))
      else (
        (gR T s0 a0 9 0).bind fun a9 =>
        (gI T s0 a0 9 4).bind fun x10 =>
        (aI T s0 a9 13 x10).bind fun x11 =>
        some (x11, s0))))
theorem k_X9_code (T : zT) (N : Nat) (s0 : zS) (a0 : Nat) : ∀ q, f_X9_code T N s0 a0 = some q → T.1 a0 = 9 := by
  intro q h
  unfold f_X9_code at h
  exact zz_guard h (fun h _ => h)
set_option maxHeartbeats 4000000 in
set_option maxRecDepth 100000 in
theorem c_X9_code (l : Launch) (D : va_G) (cy : Nat → ClassId) (T : zT) (hT : zok T) (ad : Nat → Nat) (N : Nat) (s0 : zS) (sz : Nat) (a0 : Nat) : ∀ (r0 : Int32) (σ0 : zS), f_X9_code T N s0 a0 = some (r0, σ0) → Met l yX9_code wsX9_code ({ frames := 0, cells := 0, slots := 0, locals := 0 }) (va_Pc [.ref (ad a0)] (zPre D cy T ad s0 sz)) (va_Qi (fun (r2 : Int32) (σ2 : zS) => r2 = r0 ∧ σ2 = σ0) (zAt D cy T ad (zA T ad sz)) (zA T ad sz)) 0 0 (zA T ad sz) := by
  intro r0 σ0 hq
  refine Met.ofW (cc := cX9_code) (maxL := 1) (ret := (some .int)) (by decide) rfl ?_
  intro p e s m args below meth c s₁ B hml hv
  obtain ⟨hargs, hsz, hP, hK, hD0, hN⟩ := hv
  have hx := B.exec
  have hb := B.bytes
  have hr := B.returns
  have hts := atoms_spec (ws := wsX9_code) B.pre
  have hown : s.vm.findClass RX9 = some m.cls := findClass_of_methodNamed B.named
  have hlocks := B.notSynchronized
  have S : CallFix p m c cX9_code 1 s args wsX9_code RX9 := ⟨hx, hb, hml, hown, hts⟩
  subst hsz
  have hB : zB D cy T ad (zA T ad s.heap.size) s.heap s0 s.heap [] s := zz_entry hP hK hD0 hN
  obtain ⟨ls, hent, hl⟩ := zz_ent m hargs (n := 1) (Nat.le_of_ble_eq_true rfl)
  rw [hent]
  have hl : lv_has ls 1 [(0, .ref (ad a0))] := hl
  have iwX9 : ∀ w ∈ u_ws RX9 TX9 7, w ∈ wsX9_code := by decide +kernel
  have lk0 : Cond.fieldLink RX9 26 "DiagramDesk$Text" "place" "I" ∈ wsX9_code := by decide +kernel
  have lk1 : Cond.constant RX9 29 (-1000000) ∈ wsX9_code := by decide +kernel
  have lk2 : Cond.fieldLink RX9 22 "DiagramDesk$Text" "count" "I" ∈ wsX9_code := by decide +kernel
  have lk3 : Cond.fieldLink RX9 9 "DiagramDesk$Text" "codes" "[I" ∈ wsX9_code := by decide +kernel
  unfold f_X9_code at hq
  refine zz_guard hq (fun hk0 hq => ?_)
  refine lv_aload_n hx hb dX9_code_0 rfl (lv_at hl 0 rfl) ?_
  refine zz_get S hT hB (C := RX9) (ref := "DiagramDesk$Text") (F := TX9) (N := 7) (index := 26) 9 4 iwX9 rfl (by decide) (by decide) rfl rfl lk0 (fun _ h9 => h9) dX9_code_1 hq (fun x3 hq => ?_)
  refine zz_if_lt (tgt := 42) hx hb dX9_code_4 (by decide) hq (fun hq => ?_) (fun hq => ?_)
  · refine lv_ldc (v := -1000000) hx hb hown (hts _ lk1) dX9_code_42 ?_
    exact zz_iret S hB hr hlocks dX9_code_44 hq
  · refine lv_aload_n hx hb dX9_code_7 rfl (lv_at hl 0 rfl) ?_
    refine zz_get S hT hB (C := RX9) (ref := "DiagramDesk$Text") (F := TX9) (N := 7) (index := 26) 9 4 iwX9 rfl (by decide) (by decide) rfl rfl lk0 (fun _ h9 => h9) dX9_code_8 hq (fun x4 hq => ?_)
    refine lv_aload_n hx hb dX9_code_11 rfl (lv_at hl 0 rfl) ?_
    refine zz_get S hT hB (C := RX9) (ref := "DiagramDesk$Text") (F := TX9) (N := 7) (index := 22) 9 2 iwX9 rfl (by decide) (by decide) rfl rfl lk2 (fun _ h9 => h9) dX9_code_12 hq (fun x5 hq => ?_)
    refine zz_icmp_ge (tgt := 42) hx hb dX9_code_15 (by decide) hq (fun hq => ?_) (fun hq => ?_)
    · refine lv_ldc (v := -1000000) hx hb hown (hts _ lk1) dX9_code_42 ?_
      exact zz_iret S hB hr hlocks dX9_code_44 hq
    · refine lv_aload_n hx hb dX9_code_18 rfl (lv_at hl 0 rfl) ?_
      refine zz_get S hT hB (C := RX9) (ref := "DiagramDesk$Text") (F := TX9) (N := 7) (index := 26) 9 4 iwX9 rfl (by decide) (by decide) rfl rfl lk0 (fun _ h9 => h9) dX9_code_19 hq (fun x6 hq => ?_)
      refine lv_aload_n hx hb dX9_code_22 rfl (lv_at hl 0 rfl) ?_
      refine zz_getR S hT hB (C := RX9) (ref := "DiagramDesk$Text") (F := TX9) (N := 7) (index := 9) 9 0 iwX9 rfl (by decide) (by decide) rfl rfl lk3 (fun _ h9 => h9) dX9_code_23 hq (fun a7 hq => ?_)
      refine zz_alen S hT hB 13 (by decide) (by decide) dX9_code_26 hq (fun x8 hq => ?_)
      refine zz_icmp_ge (tgt := 42) hx hb dX9_code_27 (by decide) hq (fun hq => ?_) (fun hq => ?_)
      · refine lv_ldc (v := -1000000) hx hb hown (hts _ lk1) dX9_code_42 ?_
        exact zz_iret S hB hr hlocks dX9_code_44 hq
      · refine lv_aload_n hx hb dX9_code_30 rfl (lv_at hl 0 rfl) ?_
        refine zz_getR S hT hB (C := RX9) (ref := "DiagramDesk$Text") (F := TX9) (N := 7) (index := 9) 9 0 iwX9 rfl (by decide) (by decide) rfl rfl lk3 (fun _ h9 => h9) dX9_code_31 hq (fun a9 hq => ?_)
        refine lv_aload_n hx hb dX9_code_34 rfl (lv_at hl 0 rfl) ?_
        refine zz_get S hT hB (C := RX9) (ref := "DiagramDesk$Text") (F := TX9) (N := 7) (index := 26) 9 4 iwX9 rfl (by decide) (by decide) rfl rfl lk0 (fun _ h9 => h9) dX9_code_35 hq (fun x10 hq => ?_)
        refine zz_ald S hT hB dX9_code_38 hq (fun x11 hq => ?_)
        refine lv_goto (tgt := 44) hx hb dX9_code_39 (by decide) ?_
        exact zz_iret S hB hr hlocks dX9_code_44 hq
