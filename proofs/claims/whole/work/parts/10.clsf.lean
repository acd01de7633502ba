def f_X11_connectors (T : zT) (N : Nat) (s0 : zS) (a0 : Nat) : Option (Int32 × zS) :=
  zz1 (T.1 a0 = 11) <|
  (gR T s0 a0 11 0).bind fun a3 =>
  (gR T s0 a3 2 1).bind fun a4 =>
  (gI T s0 a4 1 1).bind fun x5 =>
  some (x5, s0)
theorem k_X11_connectors (T : zT) (N : Nat) (s0 : zS) (a0 : Nat) : ∀ q, f_X11_connectors T N s0 a0 = some q → T.1 a0 = 11 := by
  intro q h
  unfold f_X11_connectors at h
  exact zz_guard h (fun h _ => h)
set_option maxHeartbeats 4000000 in
set_option maxRecDepth 100000 in
theorem c_X11_connectors (l : Launch) (D : va_G) (cy : Nat → ClassId) (T : zT) (hT : zok T) (ad : Nat → Nat) (N : Nat) (s0 : zS) (sz : Nat) (a0 : Nat) : ∀ (r0 : Int32) (σ0 : zS), f_X11_connectors T N s0 a0 = some (r0, σ0) → Met l yX11_connectors wsX11_connectors ({ frames := 0, cells := 0, slots := 0, locals := 0 }) (va_Pc [.ref (ad a0)] (zPre D cy T ad s0 sz)) (va_Qi (fun (r2 : Int32) (σ2 : zS) => r2 = r0 ∧ σ2 = σ0) (zAt D cy T ad (zA T ad sz)) (zA T ad sz)) 0 0 (zA T ad sz) := by
  intro r0 σ0 hq
  refine Met.ofW (cc := cX11_connectors) (maxL := 1) (ret := (some .int)) (by decide) rfl ?_
  intro p e s m args below meth c s₁ B hml hv
  obtain ⟨hargs, hsz, hP, hK, hD0, hN⟩ := hv
  have hx := B.exec
  have hb := B.bytes
  have hr := B.returns
  have hts := atoms_spec (ws := wsX11_connectors) B.pre
  have hown : s.vm.findClass RX11 = some m.cls := findClass_of_methodNamed B.named
  have hlocks := B.notSynchronized
  have S : CallFix p m c cX11_connectors 1 s args wsX11_connectors RX11 := ⟨hx, hb, hml, hown, hts⟩
  subst hsz
  have hB : zB D cy T ad (zA T ad s.heap.size) s.heap s0 s.heap [] s := zz_entry hP hK hD0 hN
  obtain ⟨ls, hent, hl⟩ := zz_ent m hargs (n := 1) (Nat.le_of_ble_eq_true rfl)
  rw [hent]
  have hl : lv_has ls 1 [(0, .ref (ad a0))] := hl
  have iwX11 : ∀ w ∈ u_ws RX11 TX11 5, w ∈ wsX11_connectors := by decide +kernel
  have iwX2 : ∀ w ∈ u_ws RX2 TX2 4, w ∈ wsX11_connectors := by decide +kernel
  have iwX1 : ∀ w ∈ u_ws RX1 TX1 2, w ∈ wsX11_connectors := by decide +kernel
  have lk0 : Cond.fieldLink RX11 10 "DiagramDesk" "now" "LDiagramDesk$Diagram;" ∈ wsX11_connectors := by decide +kernel
  have lk1 : Cond.fieldLink RX11 89 "DiagramDesk$Diagram" "connectors" "LDiagramDesk$Connectors;" ∈ wsX11_connectors := by decide +kernel
  have lk2 : Cond.fieldLink RX11 153 "DiagramDesk$Connectors" "count" "I" ∈ wsX11_connectors := by decide +kernel
  unfold f_X11_connectors at hq
  refine zz_guard hq (fun hk0 hq => ?_)
  refine lv_aload_n hx hb dX11_connectors_0 rfl (lv_at hl 0 rfl) ?_
  refine zz_getR S hT hB (C := RX11) (ref := "DiagramDesk") (F := TX11) (N := 5) (index := 10) 11 0 iwX11 rfl (by decide) (by decide) rfl rfl lk0 (fun _ h9 => h9) dX11_connectors_1 hq (fun a3 hq => ?_)
  refine zz_getR S hT hB (C := RX2) (ref := "DiagramDesk$Diagram") (F := TX2) (N := 4) (index := 89) 2 1 iwX2 rfl (by decide) (by decide) rfl rfl lk1 (fun _ h9 => h9) dX11_connectors_4 hq (fun a4 hq => ?_)
  refine zz_get S hT hB (C := RX1) (ref := "DiagramDesk$Connectors") (F := TX1) (N := 2) (index := 153) 1 1 iwX1 rfl (by decide) (by decide) rfl rfl lk2 (fun _ h9 => h9) dX11_connectors_7 hq (fun x5 hq => ?_)
  exact zz_iret S hB hr hlocks dX11_connectors_10 hq
def f_X11_point (T : zT) (N : Nat) (s0 : zS) (a0 : Nat) (x1 : Int32) (x2 : Int32) (x3 : Int32) : Option (Int32 × zS) :=
  zz1 (T.1 a0 = 11) <|
  (gR T s0 a0 11 0).bind fun a6 =>
  (gR T s0 a6 2 1).bind fun a7 =>
  zb2 (f_X1_find T N s0 a7 x1) fun o9 s8 => zo o9 (
    some ((-1000000 : Int32), s8))
  fun a10 => (
    zb2 (f_X0_lastPoint T N s8 a10) fun x12 s11 =>
    zb2 (f_X11_isWithin T N s11 x2 (0 : Int32) x12) fun x14 s13 =>
    if x14 = 0 then (
      some ((-1000000 : Int32), s13))
    else (
      zb2 (f_X11_isAxis T N s13 x3) fun x16 s15 =>
      if ¬ x16 = 0 then (
        (gR T s15 a0 11 0).bind fun a17 =>
        (gR T s15 a17 2 0).bind fun a18 =>
        zb2 (f_X0_place T N s15 a10 a18 x2 x3) fun x20 s19 =>
        some (x20, s19))
      else (
        some ((-1000000 : Int32), s15))))
theorem k_X11_point (T : zT) (N : Nat) (s0 : zS) (a0 : Nat) (x1 : Int32) (x2 : Int32) (x3 : Int32) : ∀ q, f_X11_point T N s0 a0 x1 x2 x3 = some q → T.1 a0 = 11 := by
  intro q h
  unfold f_X11_point at h
  exact zz_guard h (fun h _ => h)
set_option maxHeartbeats 4000000 in
set_option maxRecDepth 100000 in
theorem c_X11_point (l : Launch) (D : va_G) (cy : Nat → ClassId) (T : zT) (hT : zok T) (ad : Nat → Nat) (N : Nat) (s0 : zS) (sz : Nat) (a0 : Nat) (x1 : Int32) (x2 : Int32) (x3 : Int32) : ∀ (r0 : Int32) (σ0 : zS), f_X11_point T N s0 a0 x1 x2 x3 = some (r0, σ0) → Met l yX11_point wsX11_point ({ frames := 4, cells := 0, slots := 0, locals := 94 }) (va_Pc [.ref (ad a0), .int x1, .int x2, .int x3] (zPre D cy T ad s0 sz)) (va_Qi (fun (r2 : Int32) (σ2 : zS) => r2 = r0 ∧ σ2 = σ0) (zAt D cy T ad (zA T ad sz)) (zA T ad sz)) 0 0 (zA T ad sz) := by
  intro r0 σ0 hq
  refine Met.ofW (cc := cX11_point) (maxL := 5) (ret := (some .int)) (by decide) rfl ?_
  intro p e s m args below meth c s₁ B hml hv
  obtain ⟨hargs, hsz, hP, hK, hD0, hN⟩ := hv
  have hx := B.exec
  have hb := B.bytes
  have hr := B.returns
  have hts := atoms_spec (ws := wsX11_point) B.pre
  have hown : s.vm.findClass RX11 = some m.cls := findClass_of_methodNamed B.named
  have hlocks := B.notSynchronized
  have S : CallFix p m c cX11_point 5 s args wsX11_point RX11 := ⟨hx, hb, hml, hown, hts⟩
  subst hsz
  have hB : zB D cy T ad (zA T ad s.heap.size) s.heap s0 s.heap [] s := zz_entry hP hK hD0 hN
  obtain ⟨ls, hent, hl⟩ := zz_ent m hargs (n := 5) (Nat.le_of_ble_eq_true rfl)
  rw [hent]
  have hl : lv_has ls 5 [(0, .ref (ad a0)), (1, .int x1), (2, .int x2), (3, .int x3)] := hl
  have iwX11 : ∀ w ∈ u_ws RX11 TX11 5, w ∈ wsX11_point := by decide +kernel
  have iwX2 : ∀ w ∈ u_ws RX2 TX2 4, w ∈ wsX11_point := by decide +kernel
  have lk0 : Cond.fieldLink RX11 10 "DiagramDesk" "now" "LDiagramDesk$Diagram;" ∈ wsX11_point := by decide +kernel
  have lk1 : Cond.fieldLink RX11 89 "DiagramDesk$Diagram" "connectors" "LDiagramDesk$Connectors;" ∈ wsX11_point := by decide +kernel
  have lk2 : Cond.constant RX11 98 (-1000000) ∈ wsX11_point := by decide +kernel
  have lk3 : Cond.fieldLink RX11 55 "DiagramDesk$Diagram" "shapes" "LDiagramDesk$Shapes;" ∈ wsX11_point := by decide +kernel
  unfold f_X11_point at hq
  refine zz_guard hq (fun hk0 hq => ?_)
  refine lv_aload_n hx hb dX11_point_0 rfl (lv_at hl 0 rfl) ?_
  refine zz_getR S hT hB (C := RX11) (ref := "DiagramDesk") (F := TX11) (N := 5) (index := 10) 11 0 iwX11 rfl (by decide) (by decide) rfl rfl lk0 (fun _ h9 => h9) dX11_point_1 hq (fun a6 hq => ?_)
  refine zz_getR S hT hB (C := RX2) (ref := "DiagramDesk$Diagram") (F := TX2) (N := 4) (index := 89) 2 1 iwX2 rfl (by decide) (by decide) rfl rfl lk1 (fun _ h9 => h9) dX11_point_4 hq (fun a7 hq => ?_)
  refine lv_iload_n hx hb dX11_point_7 rfl (lv_at hl 1 rfl) ?_
  refine zz_callVq S hT hB (As := [.int x1]) (b := a7) (o := f_X1_find T N s0 a7 x1) (c_X1_find l D cy T hT ad N s0 _ a7 x1) (cwV 1 hts gX11_point_X1_find rfl rfl rfl (by decide +kernel) ⟨Nat.le_of_ble_eq_true rfl, Nat.le_of_ble_eq_true rfl⟩) (F := TX1) (NF := 2) 1 rfl (by decide) (k_X1_find T N s0 a7 x1) rfl hl.1 rfl (Nat.le_of_ble_eq_true rfl) dX11_point_8 hq (fun s8 H locs hq hB => ?_) (fun a10 s8 H locs hq hB => ?_)
  · refine lv_astoreN (lv' := [(4, .null), (0, .ref (ad a0)), (1, .int x1), (2, .int x2), (3, .int x3)]) hx hb dX11_point_11 hl (by decide) rfl (fun ls hl => ?_)
    refine lv_aloadN hx hb dX11_point_13 (lv_at hl 0 rfl) ?_
    refine lv_ifnullN (tgt := 38) hx hb dX11_point_15 (by decide) ?_
    refine lv_ldc (v := -1000000) hx hb hown (hts _ lk2) dX11_point_38 ?_
    exact zz_iret S hB hr hlocks dX11_point_40 hq
  · refine lv_astore (lv' := [(4, .ref (ad a10)), (0, .ref (ad a0)), (1, .int x1), (2, .int x2), (3, .int x3)]) hx hb dX11_point_11 hl (by decide) rfl (fun ls hl => ?_)
    refine lv_aload hx hb dX11_point_13 (lv_at hl 0 rfl) ?_
    refine lv_ifnull hx hb dX11_point_15 ?_
    refine lv_iload_n hx hb dX11_point_18 rfl (lv_at hl 3 rfl) ?_
    refine lv_iconst (v := 0) hx hb dX11_point_19 (by decide) ?_
    refine lv_aload hx hb dX11_point_20 (lv_at hl 0 rfl) ?_
    refine zz_callVi S hT hB (As := []) (b := a10) (o := f_X0_lastPoint T N s8 a10) (c_X0_lastPoint l D cy T hT ad N s8 _ a10) (cwV 0 hts gX11_point_X0_lastPoint rfl rfl rfl (by decide +kernel) ⟨Nat.le_of_ble_eq_true rfl, Nat.le_of_ble_eq_true rfl⟩) (F := TX0) (NF := 5) 0 rfl (by decide) (k_X0_lastPoint T N s8 a10) rfl hl.1 rfl (Nat.le_of_ble_eq_true rfl) dX11_point_22 hq (fun x12 s11 H locs hq hB => ?_)
    refine zz_callSi S hT hB (As := [.int x2, .int (0 : Int32), .int x12]) (o := f_X11_isWithin T N s11 x2 (0 : Int32) x12) (c_X11_isWithin l D cy T hT ad N s11 _ x2 (0 : Int32) x12) (va_cwS 3 hts gX11_point_X11_isWithin rfl rfl rfl (by decide +kernel) ⟨Nat.le_of_ble_eq_true rfl, Nat.le_of_ble_eq_true rfl⟩) rfl hl.1 rfl (Nat.le_of_ble_eq_true rfl) dX11_point_25 hq (fun x14 s13 H locs hq hB => ?_)
    refine zz_if_eq (tgt := 38) hx hb dX11_point_28 (by decide) hq (fun hq => ?_) (fun hq => ?_)
    · refine lv_ldc (v := -1000000) hx hb hown (hts _ lk2) dX11_point_38 ?_
      exact zz_iret S hB hr hlocks dX11_point_40 hq
    · refine lv_iload_n hx hb dX11_point_31 rfl (lv_at hl 4 rfl) ?_
      refine zz_callSi S hT hB (As := [.int x3]) (o := f_X11_isAxis T N s13 x3) (c_X11_isAxis l D cy T hT ad N s13 _ x3) (va_cwS 1 hts gX11_point_X11_isAxis rfl rfl rfl (by decide +kernel) ⟨Nat.le_of_ble_eq_true rfl, Nat.le_of_ble_eq_true rfl⟩) rfl hl.1 rfl (Nat.le_of_ble_eq_true rfl) dX11_point_32 hq (fun x16 s15 H locs hq hB => ?_)
      refine zz_if_ne (tgt := 41) hx hb dX11_point_35 (by decide) hq (fun hq => ?_) (fun hq => ?_)
      · refine lv_aload hx hb dX11_point_41 (lv_at hl 0 rfl) ?_
        refine lv_aload_n hx hb dX11_point_43 rfl (lv_at hl 1 rfl) ?_
        refine zz_getR S hT hB (C := RX11) (ref := "DiagramDesk") (F := TX11) (N := 5) (index := 10) 11 0 iwX11 rfl (by decide) (by decide) rfl rfl lk0 (fun _ h9 => h9) dX11_point_44 hq (fun a17 hq => ?_)
        refine zz_getR S hT hB (C := RX2) (ref := "DiagramDesk$Diagram") (F := TX2) (N := 4) (index := 55) 2 0 iwX2 rfl (by decide) (by decide) rfl rfl lk3 (fun _ h9 => h9) dX11_point_47 hq (fun a18 hq => ?_)
        refine lv_iload_n hx hb dX11_point_50 rfl (lv_at hl 3 rfl) ?_
        refine lv_iload_n hx hb dX11_point_51 rfl (lv_at hl 4 rfl) ?_
        refine zz_callVi S hT hB (As := [.ref (ad a18), .int x2, .int x3]) (b := a10) (o := f_X0_place T N s15 a10 a18 x2 x3) (c_X0_place l D cy T hT ad N s15 _ a10 a18 x2 x3) (cwV 3 hts gX11_point_X0_place rfl rfl rfl (by decide +kernel) ⟨Nat.le_of_ble_eq_true rfl, Nat.le_of_ble_eq_true rfl⟩) (F := TX0) (NF := 5) 0 rfl (by decide) (k_X0_place T N s15 a10 a18 x2 x3) rfl hl.1 rfl (Nat.le_of_ble_eq_true rfl) dX11_point_52 hq (fun x20 s19 H locs hq hB => ?_)
        exact zz_iret S hB hr hlocks dX11_point_55 hq
      · refine lv_ldc (v := -1000000) hx hb hown (hts _ lk2) dX11_point_38 ?_
        exact zz_iret S hB hr hlocks dX11_point_40 hq
def f_X11_length (T : zT) (N : Nat) (s0 : zS) (a0 : Nat) (x1 : Int32) : Option (Int32 × zS) :=
  zz1 (T.1 a0 = 11) <|
  (gR T s0 a0 11 0).bind fun a4 =>
  (gR T s0 a4 2 1).bind fun a5 =>
  zb2 (f_X1_find T N s0 a5 x1) fun o7 s6 => zo o7 (
    some ((-1 : Int32), s6))
  fun a8 => (
    (gR T s6 a0 11 0).bind fun a9 =>
    (gR T s6 a9 2 0).bind fun a10 =>
    zb2 (f_X0_extent T N s6 a8 a10) fun x12 s11 =>
    some (x12, s11))
theorem k_X11_length (T : zT) (N : Nat) (s0 : zS) (a0 : Nat) (x1 : Int32) : ∀ q, f_X11_length T N s0 a0 x1 = some q → T.1 a0 = 11 := by
  intro q h
  unfold f_X11_length at h
  exact zz_guard h (fun h _ => h)
set_option maxHeartbeats 4000000 in
set_option maxRecDepth 100000 in
theorem c_X11_length (l : Launch) (D : va_G) (cy : Nat → ClassId) (T : zT) (hT : zok T) (ad : Nat → Nat) (N : Nat) (s0 : zS) (sz : Nat) (a0 : Nat) (x1 : Int32) : ∀ (r0 : Int32) (σ0 : zS), f_X11_length T N s0 a0 x1 = some (r0, σ0) → Met l yX11_length wsX11_length ({ frames := 5, cells := 0, slots := 0, locals := 117 }) (va_Pc [.ref (ad a0), .int x1] (zPre D cy T ad s0 sz)) (va_Qi (fun (r2 : Int32) (σ2 : zS) => r2 = r0 ∧ σ2 = σ0) (zAt D cy T ad (zA T ad sz)) (zA T ad sz)) 0 0 (zA T ad sz) := by
  intro r0 σ0 hq
  refine Met.ofW (cc := cX11_length) (maxL := 3) (ret := (some .int)) (by decide) rfl ?_
  intro p e s m args below meth c s₁ B hml hv
  obtain ⟨hargs, hsz, hP, hK, hD0, hN⟩ := hv
  have hx := B.exec
  have hb := B.bytes
  have hr := B.returns
  have hts := atoms_spec (ws := wsX11_length) B.pre
  have hown : s.vm.findClass RX11 = some m.cls := findClass_of_methodNamed B.named
  have hlocks := B.notSynchronized
  have S : CallFix p m c cX11_length 3 s args wsX11_length RX11 := ⟨hx, hb, hml, hown, hts⟩
  subst hsz
  have hB : zB D cy T ad (zA T ad s.heap.size) s.heap s0 s.heap [] s := zz_entry hP hK hD0 hN
  obtain ⟨ls, hent, hl⟩ := zz_ent m hargs (n := 3) (Nat.le_of_ble_eq_true rfl)
  rw [hent]
  have hl : lv_has ls 3 [(0, .ref (ad a0)), (1, .int x1)] := hl
  have iwX11 : ∀ w ∈ u_ws RX11 TX11 5, w ∈ wsX11_length := by decide +kernel
  have iwX2 : ∀ w ∈ u_ws RX2 TX2 4, w ∈ wsX11_length := by decide +kernel
  have lk0 : Cond.fieldLink RX11 10 "DiagramDesk" "now" "LDiagramDesk$Diagram;" ∈ wsX11_length := by decide +kernel
  have lk1 : Cond.fieldLink RX11 89 "DiagramDesk$Diagram" "connectors" "LDiagramDesk$Connectors;" ∈ wsX11_length := by decide +kernel
  have lk2 : Cond.fieldLink RX11 55 "DiagramDesk$Diagram" "shapes" "LDiagramDesk$Shapes;" ∈ wsX11_length := by decide +kernel
  unfold f_X11_length at hq
  refine zz_guard hq (fun hk0 hq => ?_)
  refine lv_aload_n hx hb dX11_length_0 rfl (lv_at hl 0 rfl) ?_
  refine zz_getR S hT hB (C := RX11) (ref := "DiagramDesk") (F := TX11) (N := 5) (index := 10) 11 0 iwX11 rfl (by decide) (by decide) rfl rfl lk0 (fun _ h9 => h9) dX11_length_1 hq (fun a4 hq => ?_)
  refine zz_getR S hT hB (C := RX2) (ref := "DiagramDesk$Diagram") (F := TX2) (N := 4) (index := 89) 2 1 iwX2 rfl (by decide) (by decide) rfl rfl lk1 (fun _ h9 => h9) dX11_length_4 hq (fun a5 hq => ?_)
  refine lv_iload_n hx hb dX11_length_7 rfl (lv_at hl 1 rfl) ?_
  refine zz_callVq S hT hB (As := [.int x1]) (b := a5) (o := f_X1_find T N s0 a5 x1) (c_X1_find l D cy T hT ad N s0 _ a5 x1) (cwV 1 hts gX11_length_X1_find rfl rfl rfl (by decide +kernel) ⟨Nat.le_of_ble_eq_true rfl, Nat.le_of_ble_eq_true rfl⟩) (F := TX1) (NF := 2) 1 rfl (by decide) (k_X1_find T N s0 a5 x1) rfl hl.1 rfl (Nat.le_of_ble_eq_true rfl) dX11_length_8 hq (fun s6 H locs hq hB => ?_) (fun a8 s6 H locs hq hB => ?_)
  · refine lv_astore_nN (lv' := [(2, .null), (0, .ref (ad a0)), (1, .int x1)]) hx hb dX11_length_11 rfl hl (by decide) rfl (fun ls hl => ?_)
    refine lv_aload_nN hx hb dX11_length_12 rfl (lv_at hl 0 rfl) ?_
    refine lv_ifnonnullN hx hb dX11_length_13 ?_
    refine lv_iconst (v := -1) hx hb dX11_length_16 (by decide) ?_
    refine lv_goto (tgt := 31) hx hb dX11_length_17 (by decide) ?_
    exact zz_iret S hB hr hlocks dX11_length_31 hq
  · refine lv_astore_n (lv' := [(2, .ref (ad a8)), (0, .ref (ad a0)), (1, .int x1)]) hx hb dX11_length_11 rfl hl (by decide) rfl (fun ls hl => ?_)
    refine lv_aload_n hx hb dX11_length_12 rfl (lv_at hl 0 rfl) ?_
    refine lv_ifnonnull (tgt := 20) hx hb dX11_length_13 (by decide) ?_
    refine lv_aload_n hx hb dX11_length_20 rfl (lv_at hl 0 rfl) ?_
    refine lv_aload_n hx hb dX11_length_21 rfl (lv_at hl 1 rfl) ?_
    refine zz_getR S hT hB (C := RX11) (ref := "DiagramDesk") (F := TX11) (N := 5) (index := 10) 11 0 iwX11 rfl (by decide) (by decide) rfl rfl lk0 (fun _ h9 => h9) dX11_length_22 hq (fun a9 hq => ?_)
    refine zz_getR S hT hB (C := RX2) (ref := "DiagramDesk$Diagram") (F := TX2) (N := 4) (index := 55) 2 0 iwX2 rfl (by decide) (by decide) rfl rfl lk2 (fun _ h9 => h9) dX11_length_25 hq (fun a10 hq => ?_)
    refine zz_callVi S hT hB (As := [.ref (ad a10)]) (b := a8) (o := f_X0_extent T N s6 a8 a10) (c_X0_extent l D cy T hT ad N s6 _ a8 a10) (cwV 1 hts gX11_length_X0_extent rfl rfl rfl (by decide +kernel) ⟨Nat.le_of_ble_eq_true rfl, Nat.le_of_ble_eq_true rfl⟩) (F := TX0) (NF := 5) 0 rfl (by decide) (k_X0_extent T N s6 a8 a10) rfl hl.1 rfl (Nat.le_of_ble_eq_true rfl) dX11_length_28 hq (fun x12 s11 H locs hq hB => ?_)
    exact zz_iret S hB hr hlocks dX11_length_31 hq
def f_X11_through (T : zT) (N : Nat) (s0 : zS) (a0 : Nat) (x1 : Int32) : Option (Int32 × zS) :=
  zz1 (T.1 a0 = 11) <|
  (gR T s0 a0 11 0).bind fun a4 =>
  (gR T s0 a4 2 1).bind fun a5 =>
  zb2 (f_X1_find T N s0 a5 x1) fun o7 s6 => zo o7 (
    some ((-1 : Int32), s6))
  fun a8 => (
    (gR T s6 a0 11 0).bind fun a9 =>
    (gR T s6 a9 2 0).bind fun a10 =>
    zb2 (f_X0_crossed T N s6 a8 a10) fun x12 s11 =>
    some (x12, s11))
theorem k_X11_through (T : zT) (N : Nat) (s0 : zS) (a0 : Nat) (x1 : Int32) : ∀ q, f_X11_through T N s0 a0 x1 = some q → T.1 a0 = 11 := by
  intro q h
  unfold f_X11_through at h
  exact zz_guard h (fun h _ => h)
set_option maxHeartbeats 4000000 in
set_option maxRecDepth 100000 in
theorem c_X11_through (l : Launch) (D : va_G) (cy : Nat → ClassId) (T : zT) (hT : zok T) (ad : Nat → Nat) (N : Nat) (s0 : zS) (sz : Nat) (a0 : Nat) (x1 : Int32) : ∀ (r0 : Int32) (σ0 : zS), f_X11_through T N s0 a0 x1 = some (r0, σ0) → Met l yX11_through wsX11_through ({ frames := 5, cells := 0, slots := 0, locals := 135 }) (va_Pc [.ref (ad a0), .int x1] (zPre D cy T ad s0 sz)) (va_Qi (fun (r2 : Int32) (σ2 : zS) => r2 = r0 ∧ σ2 = σ0) (zAt D cy T ad (zA T ad sz)) (zA T ad sz)) 0 0 (zA T ad sz) := by
  intro r0 σ0 hq
  refine Met.ofW (cc := cX11_through) (maxL := 3) (ret := (some .int)) (by decide) rfl ?_
  intro p e s m args below meth c s₁ B hml hv
  obtain ⟨hargs, hsz, hP, hK, hD0, hN⟩ := hv
  have hx := B.exec
  have hb := B.bytes
  have hr := B.returns
  have hts := atoms_spec (ws := wsX11_through) B.pre
  have hown : s.vm.findClass RX11 = some m.cls := findClass_of_methodNamed B.named
  have hlocks := B.notSynchronized
  have S : CallFix p m c cX11_through 3 s args wsX11_through RX11 := ⟨hx, hb, hml, hown, hts⟩
  subst hsz
  have hB : zB D cy T ad (zA T ad s.heap.size) s.heap s0 s.heap [] s := zz_entry hP hK hD0 hN
  obtain ⟨ls, hent, hl⟩ := zz_ent m hargs (n := 3) (Nat.le_of_ble_eq_true rfl)
  rw [hent]
  have hl : lv_has ls 3 [(0, .ref (ad a0)), (1, .int x1)] := hl
  have iwX11 : ∀ w ∈ u_ws RX11 TX11 5, w ∈ wsX11_through := by decide +kernel
  have iwX2 : ∀ w ∈ u_ws RX2 TX2 4, w ∈ wsX11_through := by decide +kernel
  have lk0 : Cond.fieldLink RX11 10 "DiagramDesk" "now" "LDiagramDesk$Diagram;" ∈ wsX11_through := by decide +kernel
  have lk1 : Cond.fieldLink RX11 89 "DiagramDesk$Diagram" "connectors" "LDiagramDesk$Connectors;" ∈ wsX11_through := by decide +kernel
  have lk2 : Cond.fieldLink RX11 55 "DiagramDesk$Diagram" "shapes" "LDiagramDesk$Shapes;" ∈ wsX11_through := by decide +kernel
  unfold f_X11_through at hq
  refine zz_guard hq (fun hk0 hq => ?_)
  refine lv_aload_n hx hb dX11_through_0 rfl (lv_at hl 0 rfl) ?_
  refine zz_getR S hT hB (C := RX11) (ref := "DiagramDesk") (F := TX11) (N := 5) (index := 10) 11 0 iwX11 rfl (by decide) (by decide) rfl rfl lk0 (fun _ h9 => h9) dX11_through_1 hq (fun a4 hq => ?_)
  refine zz_getR S hT hB (C := RX2) (ref := "DiagramDesk$Diagram") (F := TX2) (N := 4) (index := 89) 2 1 iwX2 rfl (by decide) (by decide) rfl rfl lk1 (fun _ h9 => h9) dX11_through_4 hq (fun a5 hq => ?_)
  refine lv_iload_n hx hb dX11_through_7 rfl (lv_at hl 1 rfl) ?_
  refine zz_callVq S hT hB (As := [.int x1]) (b := a5) (o := f_X1_find T N s0 a5 x1) (c_X1_find l D cy T hT ad N s0 _ a5 x1) (cwV 1 hts gX11_through_X1_find rfl rfl rfl (by decide +kernel) ⟨Nat.le_of_ble_eq_true rfl, Nat.le_of_ble_eq_true rfl⟩) (F := TX1) (NF := 2) 1 rfl (by decide) (k_X1_find T N s0 a5 x1) rfl hl.1 rfl (Nat.le_of_ble_eq_true rfl) dX11_through_8 hq (fun s6 H locs hq hB => ?_) (fun a8 s6 H locs hq hB => ?_)
  · refine lv_astore_nN (lv' := [(2, .null), (0, .ref (ad a0)), (1, .int x1)]) hx hb dX11_through_11 rfl hl (by decide) rfl (fun ls hl => ?_)
    refine lv_aload_nN hx hb dX11_through_12 rfl (lv_at hl 0 rfl) ?_
    refine lv_ifnonnullN hx hb dX11_through_13 ?_
    refine lv_iconst (v := -1) hx hb dX11_through_16 (by decide) ?_
    refine lv_goto (tgt := 31) hx hb dX11_through_17 (by decide) ?_
    exact zz_iret S hB hr hlocks dX11_through_31 hq
  · refine lv_astore_n (lv' := [(2, .ref (ad a8)), (0, .ref (ad a0)), (1, .int x1)]) hx hb dX11_through_11 rfl hl (by decide) rfl (fun ls hl => ?_)
    refine lv_aload_n hx hb dX11_through_12 rfl (lv_at hl 0 rfl) ?_
    refine lv_ifnonnull (tgt := 20) hx hb dX11_through_13 (by decide) ?_
    refine lv_aload_n hx hb dX11_through_20 rfl (lv_at hl 0 rfl) ?_
    refine lv_aload_n hx hb dX11_through_21 rfl (lv_at hl 1 rfl) ?_
    refine zz_getR S hT hB (C := RX11) (ref := "DiagramDesk") (F := TX11) (N := 5) (index := 10) 11 0 iwX11 rfl (by decide) (by decide) rfl rfl lk0 (fun _ h9 => h9) dX11_through_22 hq (fun a9 hq => ?_)
    refine zz_getR S hT hB (C := RX2) (ref := "DiagramDesk$Diagram") (F := TX2) (N := 4) (index := 55) 2 0 iwX2 rfl (by decide) (by decide) rfl rfl lk2 (fun _ h9 => h9) dX11_through_25 hq (fun a10 hq => ?_)
    refine zz_callVi S hT hB (As := [.ref (ad a10)]) (b := a8) (o := f_X0_crossed T N s6 a8 a10) (c_X0_crossed l D cy T hT ad N s6 _ a8 a10) (cwV 1 hts gX11_through_X0_crossed rfl rfl rfl (by decide +kernel) ⟨Nat.le_of_ble_eq_true rfl, Nat.le_of_ble_eq_true rfl⟩) (F := TX0) (NF := 5) 0 rfl (by decide) (k_X0_crossed T N s6 a8 a10) rfl hl.1 rfl (Nat.le_of_ble_eq_true rfl) dX11_through_28 hq (fun x12 s11 H locs hq hB => ?_)
    exact zz_iret S hB hr hlocks dX11_through_31 hq
def f_J6_bitCount_0f7a4 (T : zT) (N : Nat) (s0 : zS) (x0 : Int32) : Option (Int32 × zS) :=
  zn (x0 - ((((x0).toUInt32 >>> (((1 : Int32)).toUInt32 &&& Int32.toUInt32 31)).toInt32) &&& (1431655765 : Int32))) fun x3 =>
  zn ((x3 &&& (858993459 : Int32)) + ((((x3).toUInt32 >>> (((2 : Int32)).toUInt32 &&& Int32.toUInt32 31)).toInt32) &&& (858993459 : Int32))) fun x4 =>
  zn ((x4 + (((x4).toUInt32 >>> (((4 : Int32)).toUInt32 &&& Int32.toUInt32 31)).toInt32)) &&& (252645135 : Int32)) fun x5 =>
  zn (x5 + (((x5).toUInt32 >>> (((8 : Int32)).toUInt32 &&& Int32.toUInt32 31)).toInt32)) fun x6 =>
  zn (x6 + (((x6).toUInt32 >>> (((16 : Int32)).toUInt32 &&& Int32.toUInt32 31)).toInt32)) fun x7 =>
  some (x7 &&& (63 : Int32), s0)
set_option maxHeartbeats 4000000 in
set_option maxRecDepth 100000 in
theorem c_J6_bitCount_0f7a4 (l : Launch) (D : va_G) (cy : Nat → ClassId) (T : zT) (hT : zok T) (ad : Nat → Nat) (N : Nat) (s0 : zS) (sz : Nat) (x0 : Int32) : ∀ (r0 : Int32) (σ0 : zS), f_J6_bitCount_0f7a4 T N s0 x0 = some (r0, σ0) → Met l yJ6_bitCount_0f7a4 wsJ6_bitCount_0f7a4 ({ frames := 0, cells := 0, slots := 0, locals := 0 }) (va_Pc [.int x0] (zPre D cy T ad s0 sz)) (va_Qi (fun (r2 : Int32) (σ2 : zS) => r2 = r0 ∧ σ2 = σ0) (zAt D cy T ad (zA T ad sz)) (zA T ad sz)) 0 0 (zA T ad sz) := by
  intro r0 σ0 hq
  refine zz_ofWF (cc := cJ6_bitCount_0f7a4) (maxL := 1) (ret := (some .int)) (by decide +kernel) rfl ?_
  intro p e s m args below meth c s₁ B hml hv
  obtain ⟨hargs, hsz, hP, hK, hD0, hN⟩ := hv
  have hx := B.exec
  have hb := B.bytes
  have hr := B.returns
  have hts := atoms_spec (ws := wsJ6_bitCount_0f7a4) B.pre
  have hown : s.vm.findClass RJ6 = some m.cls := findClass_of_methodNamed B.named
  have hlocks := B.notSynchronized
  have S : CallFix p m c cJ6_bitCount_0f7a4 1 s args wsJ6_bitCount_0f7a4 RJ6 := ⟨hx, hb, hml, hown, hts⟩
  subst hsz
  have hB : zB D cy T ad (zA T ad s.heap.size) s.heap s0 s.heap [] s := zz_entry hP hK hD0 hN
  obtain ⟨ls, hent, hl⟩ := zz_ent m hargs (n := 1) (Nat.le_of_ble_eq_true rfl)
  rw [hent]
  have hl : lv_has ls 1 [(0, .int x0)] := hl
  have lk0 : Cond.constant RJ6 265 (1431655765) ∈ wsJ6_bitCount_0f7a4 := by decide +kernel
  have lk1 : Cond.constant RJ6 266 (858993459) ∈ wsJ6_bitCount_0f7a4 := by decide +kernel
  have lk2 : Cond.constant RJ6 267 (252645135) ∈ wsJ6_bitCount_0f7a4 := by decide +kernel
  unfold f_J6_bitCount_0f7a4 at hq
  refine lv_iload_n hx hb dJ6_bitCount_0f7a4_0 rfl (lv_at hl 0 rfl) ?_
  refine lv_iload_n hx hb dJ6_bitCount_0f7a4_1 rfl (lv_at hl 0 rfl) ?_
  refine lv_iconst (v := 1) hx hb dJ6_bitCount_0f7a4_2 (by decide) ?_
  refine lv_iushr (v := ((x0).toUInt32 >>> (((1 : Int32)).toUInt32 &&& Int32.toUInt32 31)).toInt32) hx hb dJ6_bitCount_0f7a4_3 rfl ?_
  refine lv_ldcw (v := 1431655765) hx hb hown (hts _ lk0) dJ6_bitCount_0f7a4_4 ?_
  refine lv_iand hx hb dJ6_bitCount_0f7a4_7 ?_
  refine lv_isub hx hb dJ6_bitCount_0f7a4_8 ?_
  refine zz_nmI hq (fun x3 hq => ?_)
  refine lv_istore_n (lv' := [(0, .int x3)]) hx hb dJ6_bitCount_0f7a4_9 rfl hl (by decide) rfl (fun ls hl => ?_)
  refine lv_iload_n hx hb dJ6_bitCount_0f7a4_10 rfl (lv_at hl 0 rfl) ?_
  refine lv_ldcw (v := 858993459) hx hb hown (hts _ lk1) dJ6_bitCount_0f7a4_11 ?_
  refine lv_iand hx hb dJ6_bitCount_0f7a4_14 ?_
  refine lv_iload_n hx hb dJ6_bitCount_0f7a4_15 rfl (lv_at hl 0 rfl) ?_
  refine lv_iconst (v := 2) hx hb dJ6_bitCount_0f7a4_16 (by decide) ?_
  refine lv_iushr (v := ((x3).toUInt32 >>> (((2 : Int32)).toUInt32 &&& Int32.toUInt32 31)).toInt32) hx hb dJ6_bitCount_0f7a4_17 rfl ?_
  refine lv_ldcw (v := 858993459) hx hb hown (hts _ lk1) dJ6_bitCount_0f7a4_18 ?_
  refine lv_iand hx hb dJ6_bitCount_0f7a4_21 ?_
  refine lv_iadd hx hb dJ6_bitCount_0f7a4_22 ?_
  refine zz_nmI hq (fun x4 hq => ?_)
  refine lv_istore_n (lv' := [(0, .int x4)]) hx hb dJ6_bitCount_0f7a4_23 rfl hl (by decide) rfl (fun ls hl => ?_)
  refine lv_iload_n hx hb dJ6_bitCount_0f7a4_24 rfl (lv_at hl 0 rfl) ?_
  refine lv_iload_n hx hb dJ6_bitCount_0f7a4_25 rfl (lv_at hl 0 rfl) ?_
  refine lv_iconst (v := 4) hx hb dJ6_bitCount_0f7a4_26 (by decide) ?_
  refine lv_iushr (v := ((x4).toUInt32 >>> (((4 : Int32)).toUInt32 &&& Int32.toUInt32 31)).toInt32) hx hb dJ6_bitCount_0f7a4_27 rfl ?_
  refine lv_iadd hx hb dJ6_bitCount_0f7a4_28 ?_
  refine lv_ldcw (v := 252645135) hx hb hown (hts _ lk2) dJ6_bitCount_0f7a4_29 ?_
  refine lv_iand hx hb dJ6_bitCount_0f7a4_32 ?_
  refine zz_nmI hq (fun x5 hq => ?_)
  refine lv_istore_n (lv' := [(0, .int x5)]) hx hb dJ6_bitCount_0f7a4_33 rfl hl (by decide) rfl (fun ls hl => ?_)
  refine lv_iload_n hx hb dJ6_bitCount_0f7a4_34 rfl (lv_at hl 0 rfl) ?_
  refine lv_iload_n hx hb dJ6_bitCount_0f7a4_35 rfl (lv_at hl 0 rfl) ?_
  refine lv_bipush (v := 8) hx hb dJ6_bitCount_0f7a4_36 (by decide) ?_
  refine lv_iushr (v := ((x5).toUInt32 >>> (((8 : Int32)).toUInt32 &&& Int32.toUInt32 31)).toInt32) hx hb dJ6_bitCount_0f7a4_38 rfl ?_
  refine lv_iadd hx hb dJ6_bitCount_0f7a4_39 ?_
  refine zz_nmI hq (fun x6 hq => ?_)
  refine lv_istore_n (lv' := [(0, .int x6)]) hx hb dJ6_bitCount_0f7a4_40 rfl hl (by decide) rfl (fun ls hl => ?_)
  refine lv_iload_n hx hb dJ6_bitCount_0f7a4_41 rfl (lv_at hl 0 rfl) ?_
  refine lv_iload_n hx hb dJ6_bitCount_0f7a4_42 rfl (lv_at hl 0 rfl) ?_
  refine lv_bipush (v := 16) hx hb dJ6_bitCount_0f7a4_43 (by decide) ?_
  refine lv_iushr (v := ((x6).toUInt32 >>> (((16 : Int32)).toUInt32 &&& Int32.toUInt32 31)).toInt32) hx hb dJ6_bitCount_0f7a4_45 rfl ?_
  refine lv_iadd hx hb dJ6_bitCount_0f7a4_46 ?_
  refine zz_nmI hq (fun x7 hq => ?_)
  refine lv_istore_n (lv' := [(0, .int x7)]) hx hb dJ6_bitCount_0f7a4_47 rfl hl (by decide) rfl (fun ls hl => ?_)
  refine lv_iload_n hx hb dJ6_bitCount_0f7a4_48 rfl (lv_at hl 0 rfl) ?_
  refine lv_bipush (v := 63) hx hb dJ6_bitCount_0f7a4_49 (by decide) ?_
  refine lv_iand hx hb dJ6_bitCount_0f7a4_51 ?_
  exact zz_iret S hB hr hlocks dJ6_bitCount_0f7a4_52 hq
def f_X11_select_J83 (T : zT) (N : Nat) (a0 : Nat) (s16 : zS) : Option (Int32 × zS) :=
  (gR T s16 a0 11 0).bind fun a17 =>
  (gR T s16 a17 2 0).bind fun a18 =>
  (gI T s16 a18 7 2).bind fun x19 =>
  zb2 (f_J6_bitCount_0f7a4 T N s16 x19) fun x21 s20 =>
  some (x21, s20)
def f_X11_select (T : zT) (N : Nat) (s0 : zS) (a0 : Nat) (x1 : Int32) (x2 : Int32) : Option (Int32 × zS) :=
  zz1 (T.1 a0 = 11) <|
  (gR T s0 a0 11 0).bind fun a5 =>
  (gR T s0 a5 2 0).bind fun a6 =>
  zb2 (f_X7_find T N s0 a6 x1) fun o8 s7 => zo o8 (
    some ((-1 : Int32), s7))
  fun a9 => (
    (gR T s7 a0 11 1).bind fun a10 =>
    (gR T s7 a0 11 0).bind fun a11 =>
    (f_X5_keep T N s7 a10 a11).bind fun s12 =>
    (gR T s12 a0 11 0).bind fun a13 =>
    zb2 (f_X2_unitOf T N s12 a13 x1 a9) fun x15 s14 =>
    if x2 = 0 then (
      (gR T s14 a0 11 0).bind fun a22 =>
      (gR T s14 a22 2 0).bind fun a23 =>
      (gI T s14 a23 7 2).bind fun x24 =>
      (pI T s14 a23 7 2 (x24 &&& (x15 ^^^ (-1 : Int32)))).bind fun s25 =>
      f_X11_select_J83 T N a0 s25)
    else (
      (gR T s14 a0 11 0).bind fun a26 =>
      (gR T s14 a26 2 0).bind fun a27 =>
      (gI T s14 a27 7 2).bind fun x28 =>
      (pI T s14 a27 7 2 (x28 ||| x15)).bind fun s29 =>
      f_X11_select_J83 T N a0 s29))
theorem k_X11_select (T : zT) (N : Nat) (s0 : zS) (a0 : Nat) (x1 : Int32) (x2 : Int32) : ∀ q, f_X11_select T N s0 a0 x1 x2 = some q → T.1 a0 = 11 := by
  intro q h
  unfold f_X11_select at h
  exact zz_guard h (fun h _ => h)
set_option maxHeartbeats 4000000 in
set_option maxRecDepth 100000 in
theorem c_X11_select (l : Launch) (D : va_G) (cy : Nat → ClassId) (T : zT) (hT : zok T) (ad : Nat → Nat) (N : Nat) (s0 : zS) (sz : Nat) (a0 : Nat) (x1 : Int32) (x2 : Int32) : ∀ (r0 : Int32) (σ0 : zS), f_X11_select T N s0 a0 x1 x2 = some (r0, σ0) → Met l yX11_select wsX11_select ({ frames := 5, cells := 0, slots := 0, locals := 113 }) (va_Pc [.ref (ad a0), .int x1, .int x2] (zPre D cy T ad s0 sz)) (va_Qi (fun (r2 : Int32) (σ2 : zS) => r2 = r0 ∧ σ2 = σ0) (zAt D cy T ad (zA T ad sz)) (zA T ad sz)) 0 0 (zA T ad sz) := by
  intro r0 σ0 hq
  refine Met.ofW (cc := cX11_select) (maxL := 5) (ret := (some .int)) (by decide) rfl ?_
  intro p e s m args below meth c s₁ B hml hv
  obtain ⟨hargs, hsz, hP, hK, hD0, hN⟩ := hv
  have hx := B.exec
  have hb := B.bytes
  have hr := B.returns
  have hts := atoms_spec (ws := wsX11_select) B.pre
  have hown : s.vm.findClass RX11 = some m.cls := findClass_of_methodNamed B.named
  have hlocks := B.notSynchronized
  have S : CallFix p m c cX11_select 5 s args wsX11_select RX11 := ⟨hx, hb, hml, hown, hts⟩
  subst hsz
  have hB : zB D cy T ad (zA T ad s.heap.size) s.heap s0 s.heap [] s := zz_entry hP hK hD0 hN
  obtain ⟨ls, hent, hl⟩ := zz_ent m hargs (n := 5) (Nat.le_of_ble_eq_true rfl)
  rw [hent]
  have hl : lv_has ls 5 [(0, .ref (ad a0)), (1, .int x1), (2, .int x2)] := hl
  have iwX11 : ∀ w ∈ u_ws RX11 TX11 5, w ∈ wsX11_select := by decide +kernel
  have iwX2 : ∀ w ∈ u_ws RX2 TX2 4, w ∈ wsX11_select := by decide +kernel
  have iwX7 : ∀ w ∈ u_ws RX7 TX7 3, w ∈ wsX11_select := by decide +kernel
  have lk0 : Cond.fieldLink RX11 10 "DiagramDesk" "now" "LDiagramDesk$Diagram;" ∈ wsX11_select := by decide +kernel
  have lk1 : Cond.fieldLink RX11 55 "DiagramDesk$Diagram" "shapes" "LDiagramDesk$Shapes;" ∈ wsX11_select := by decide +kernel
  have lk2 : Cond.fieldLink RX11 19 "DiagramDesk" "history" "LDiagramDesk$History;" ∈ wsX11_select := by decide +kernel
  have lk3 : Cond.fieldLink RX11 108 "DiagramDesk$Shapes" "chosen" "I" ∈ wsX11_select := by decide +kernel
  unfold f_X11_select at hq
  refine zz_guard hq (fun hk0 hq => ?_)
  refine lv_aload_n hx hb dX11_select_0 rfl (lv_at hl 0 rfl) ?_
  refine zz_getR S hT hB (C := RX11) (ref := "DiagramDesk") (F := TX11) (N := 5) (index := 10) 11 0 iwX11 rfl (by decide) (by decide) rfl rfl lk0 (fun _ h9 => h9) dX11_select_1 hq (fun a5 hq => ?_)
  refine zz_getR S hT hB (C := RX2) (ref := "DiagramDesk$Diagram") (F := TX2) (N := 4) (index := 55) 2 0 iwX2 rfl (by decide) (by decide) rfl rfl lk1 (fun _ h9 => h9) dX11_select_4 hq (fun a6 hq => ?_)
  refine lv_iload_n hx hb dX11_select_7 rfl (lv_at hl 1 rfl) ?_
  refine zz_callVq S hT hB (As := [.int x1]) (b := a6) (o := f_X7_find T N s0 a6 x1) (c_X7_find l D cy T hT ad N s0 _ a6 x1) (cwV 1 hts gX11_select_X7_find rfl rfl rfl (by decide +kernel) ⟨Nat.le_of_ble_eq_true rfl, Nat.le_of_ble_eq_true rfl⟩) (F := TX7) (NF := 3) 7 rfl (by decide) (k_X7_find T N s0 a6 x1) rfl hl.1 rfl (Nat.le_of_ble_eq_true rfl) dX11_select_8 hq (fun s7 H locs hq hB => ?_) (fun a9 s7 H locs hq hB => ?_)
  · refine lv_astore_nN (lv' := [(3, .null), (0, .ref (ad a0)), (1, .int x1), (2, .int x2)]) hx hb dX11_select_11 rfl hl (by decide) rfl (fun ls hl => ?_)
    refine lv_aload_nN hx hb dX11_select_12 rfl (lv_at hl 0 rfl) ?_
    refine lv_ifnonnullN hx hb dX11_select_13 ?_
    refine lv_iconst (v := -1) hx hb dX11_select_16 (by decide) ?_
    exact zz_iret S hB hr hlocks dX11_select_17 hq
  · refine lv_astore_n (lv' := [(3, .ref (ad a9)), (0, .ref (ad a0)), (1, .int x1), (2, .int x2)]) hx hb dX11_select_11 rfl hl (by decide) rfl (fun ls hl => ?_)
    refine lv_aload_n hx hb dX11_select_12 rfl (lv_at hl 0 rfl) ?_
    refine lv_ifnonnull (tgt := 18) hx hb dX11_select_13 (by decide) ?_
    refine lv_aload_n hx hb dX11_select_18 rfl (lv_at hl 1 rfl) ?_
    refine zz_getR S hT hB (C := RX11) (ref := "DiagramDesk") (F := TX11) (N := 5) (index := 19) 11 1 iwX11 rfl (by decide) (by decide) rfl rfl lk2 (fun _ h9 => h9) dX11_select_19 hq (fun a10 hq => ?_)
    refine lv_aload_n hx hb dX11_select_22 rfl (lv_at hl 1 rfl) ?_
    refine zz_getR S hT hB (C := RX11) (ref := "DiagramDesk") (F := TX11) (N := 5) (index := 10) 11 0 iwX11 rfl (by decide) (by decide) rfl rfl lk0 (fun _ h9 => h9) dX11_select_23 hq (fun a11 hq => ?_)
    refine zz_callVv S hT hB (As := [.ref (ad a11)]) (b := a10) (o := f_X5_keep T N s7 a10 a11) (c_X5_keep l D cy T hT ad N s7 _ a10 a11) (cwV 1 hts gX11_select_X5_keep rfl rfl rfl (by decide +kernel) ⟨Nat.le_of_ble_eq_true rfl, Nat.le_of_ble_eq_true rfl⟩) (F := TX5) (NF := 2) 5 rfl (by decide) (k_X5_keep T N s7 a10 a11) rfl hl.1 rfl (Nat.le_of_ble_eq_true rfl) dX11_select_26 hq (fun s12 H locs hq hB => ?_)
    refine lv_aload_n hx hb dX11_select_29 rfl (lv_at hl 1 rfl) ?_
    refine zz_getR S hT hB (C := RX11) (ref := "DiagramDesk") (F := TX11) (N := 5) (index := 10) 11 0 iwX11 rfl (by decide) (by decide) rfl rfl lk0 (fun _ h9 => h9) dX11_select_30 hq (fun a13 hq => ?_)
    refine lv_iload_n hx hb dX11_select_33 rfl (lv_at hl 2 rfl) ?_
    refine lv_aload_n hx hb dX11_select_34 rfl (lv_at hl 0 rfl) ?_
    refine zz_callVi S hT hB (As := [.int x1, .ref (ad a9)]) (b := a13) (o := f_X2_unitOf T N s12 a13 x1 a9) (c_X2_unitOf l D cy T hT ad N s12 _ a13 x1 a9) (cwV 2 hts gX11_select_X2_unitOf rfl rfl rfl (by decide +kernel) ⟨Nat.le_of_ble_eq_true rfl, Nat.le_of_ble_eq_true rfl⟩) (F := TX2) (NF := 4) 2 rfl (by decide) (k_X2_unitOf T N s12 a13 x1 a9) rfl hl.1 rfl (Nat.le_of_ble_eq_true rfl) dX11_select_35 hq (fun x15 s14 H locs hq hB => ?_)
    refine lv_istore (lv' := [(4, .int x15), (3, .ref (ad a9)), (0, .ref (ad a0)), (1, .int x1), (2, .int x2)]) hx hb dX11_select_38 hl (by decide) rfl (fun ls hl => ?_)
    refine lv_iload_n hx hb dX11_select_40 rfl (lv_at hl 4 rfl) ?_
    have J83 : ∀ (s16 : zS) (H : Heap) (locs : List Loc) (ls : Array Slot), f_X11_select_J83 T N a0 s16 = some (r0, σ0) → zB D cy T ad (zA T ad s.heap.size) s.heap s16 H locs s → lv_has ls 5 [(0, .ref (ad a0))] → W p l e (headSpec wsX11_select ({ frames := 5, cells := 0, slots := 0, locals := 113 } : Room)).room s m args below meth c H locs 0 0 (MQ below (va_Qi (fun (r2 : Int32) (σ2 : zS) => r2 = r0 ∧ σ2 = σ0) (zAt D cy T ad (zA T ad s.heap.size)) (zA T ad s.heap.size)) args s 0 0 (zA T ad s.heap.size)) (F0 m 83 ls []) := by
      intro s16 H locs ls hq hB hl
      unfold f_X11_select_J83 at hq
      refine lv_aload_n hx hb dX11_select_83 rfl (lv_at hl 0 rfl) ?_
      refine zz_getR S hT hB (C := RX11) (ref := "DiagramDesk") (F := TX11) (N := 5) (index := 10) 11 0 iwX11 rfl (by decide) (by decide) rfl rfl lk0 (fun _ h9 => h9) dX11_select_84 hq (fun a17 hq => ?_)
      refine zz_getR S hT hB (C := RX2) (ref := "DiagramDesk$Diagram") (F := TX2) (N := 4) (index := 55) 2 0 iwX2 rfl (by decide) (by decide) rfl rfl lk1 (fun _ h9 => h9) dX11_select_87 hq (fun a18 hq => ?_)
      refine zz_get S hT hB (C := RX7) (ref := "DiagramDesk$Shapes") (F := TX7) (N := 3) (index := 108) 7 2 iwX7 rfl (by decide) (by decide) rfl rfl lk3 (fun _ h9 => h9) dX11_select_90 hq (fun x19 hq => ?_)
      refine zz_callSi S hT hB (As := [.int x19]) (o := f_J6_bitCount_0f7a4 T N s16 x19) (c_J6_bitCount_0f7a4 l D cy T hT ad N s16 _ x19) (va_cwS 1 hts gX11_select_J6_bitCount_0f7a4 rfl rfl rfl (by decide +kernel) ⟨Nat.le_of_ble_eq_true rfl, Nat.le_of_ble_eq_true rfl⟩) rfl hl.1 rfl (Nat.le_of_ble_eq_true rfl) dX11_select_93 hq (fun x21 s20 H locs hq hB => ?_)
      exact zz_iret S hB hr hlocks dX11_select_96 hq
    refine zz_if_eq (tgt := 64) hx hb dX11_select_41 (by decide) hq (fun hq => ?_) (fun hq => ?_)
    · refine lv_aload_n hx hb dX11_select_64 rfl (lv_at hl 2 rfl) ?_
      refine zz_getR S hT hB (C := RX11) (ref := "DiagramDesk") (F := TX11) (N := 5) (index := 10) 11 0 iwX11 rfl (by decide) (by decide) rfl rfl lk0 (fun _ h9 => h9) dX11_select_65 hq (fun a22 hq => ?_)
      refine zz_getR S hT hB (C := RX2) (ref := "DiagramDesk$Diagram") (F := TX2) (N := 4) (index := 55) 2 0 iwX2 rfl (by decide) (by decide) rfl rfl lk1 (fun _ h9 => h9) dX11_select_68 hq (fun a23 hq => ?_)
      refine lv_dup hx hb dX11_select_71 rfl ?_
      refine zz_get S hT hB (C := RX7) (ref := "DiagramDesk$Shapes") (F := TX7) (N := 3) (index := 108) 7 2 iwX7 rfl (by decide) (by decide) rfl rfl lk3 (fun _ h9 => h9) dX11_select_72 hq (fun x24 hq => ?_)
      refine lv_iload hx hb dX11_select_75 (lv_at hl 0 rfl) ?_
      refine lv_iconst (v := -1) hx hb dX11_select_77 (by decide) ?_
      refine lv_ixor hx hb dX11_select_78 ?_
      refine lv_iand hx hb dX11_select_79 ?_
      refine zz_put S hT hB (C := RX7) (ref := "DiagramDesk$Shapes") (F := TX7) (N := 3) (index := 108) 7 2 iwX7 tyX7 tyX7_ok nmX7 rfl (by decide) (by decide) rfl rfl lk3 (fun _ h9 => h9) rfl (by decide +kernel) dX11_select_80 hq (fun s25 H locs hq hB => ?_)
      exact J83 s25 _ _ _ hq hB (lv_sub hl [2] rfl)
    · refine lv_aload_n hx hb dX11_select_44 rfl (lv_at hl 2 rfl) ?_
      refine zz_getR S hT hB (C := RX11) (ref := "DiagramDesk") (F := TX11) (N := 5) (index := 10) 11 0 iwX11 rfl (by decide) (by decide) rfl rfl lk0 (fun _ h9 => h9) dX11_select_45 hq (fun a26 hq => ?_)
      refine zz_getR S hT hB (C := RX2) (ref := "DiagramDesk$Diagram") (F := TX2) (N := 4) (index := 55) 2 0 iwX2 rfl (by decide) (by decide) rfl rfl lk1 (fun _ h9 => h9) dX11_select_48 hq (fun a27 hq => ?_)
      refine lv_dup hx hb dX11_select_51 rfl ?_
      refine zz_get S hT hB (C := RX7) (ref := "DiagramDesk$Shapes") (F := TX7) (N := 3) (index := 108) 7 2 iwX7 rfl (by decide) (by decide) rfl rfl lk3 (fun _ h9 => h9) dX11_select_52 hq (fun x28 hq => ?_)
      refine lv_iload hx hb dX11_select_55 (lv_at hl 0 rfl) ?_
      refine lv_ior hx hb dX11_select_57 ?_
      refine zz_put S hT hB (C := RX7) (ref := "DiagramDesk$Shapes") (F := TX7) (N := 3) (index := 108) 7 2 iwX7 tyX7 tyX7_ok nmX7 rfl (by decide) (by decide) rfl rfl lk3 (fun _ h9 => h9) rfl (by decide +kernel) dX11_select_58 hq (fun s29 H locs hq hB => ?_)
      refine lv_goto (tgt := 83) hx hb dX11_select_61 (by decide) ?_
      exact J83 s29 _ _ _ hq hB (lv_sub hl [2] rfl)
def f_X11_selected (T : zT) (N : Nat) (s0 : zS) (a0 : Nat) : Option (Int32 × zS) :=
  zz1 (T.1 a0 = 11) <|
  (gR T s0 a0 11 0).bind fun a3 =>
  (gR T s0 a3 2 0).bind fun a4 =>
  (gI T s0 a4 7 2).bind fun x5 =>
  some (x5, s0)
theorem k_X11_selected (T : zT) (N : Nat) (s0 : zS) (a0 : Nat) : ∀ q, f_X11_selected T N s0 a0 = some q → T.1 a0 = 11 := by
  intro q h
  unfold f_X11_selected at h
  exact zz_guard h (fun h _ => h)
set_option maxHeartbeats 4000000 in
set_option maxRecDepth 100000 in
theorem c_X11_selected (l : Launch) (D : va_G) (cy : Nat → ClassId) (T : zT) (hT : zok T) (ad : Nat → Nat) (N : Nat) (s0 : zS) (sz : Nat) (a0 : Nat) : ∀ (r0 : Int32) (σ0 : zS), f_X11_selected T N s0 a0 = some (r0, σ0) → Met l yX11_selected wsX11_selected ({ frames := 0, cells := 0, slots := 0, locals := 0 }) (va_Pc [.ref (ad a0)] (zPre D cy T ad s0 sz)) (va_Qi (fun (r2 : Int32) (σ2 : zS) => r2 = r0 ∧ σ2 = σ0) (zAt D cy T ad (zA T ad sz)) (zA T ad sz)) 0 0 (zA T ad sz) := by
  intro r0 σ0 hq
  refine Met.ofW (cc := cX11_selected) (maxL := 1) (ret := (some .int)) (by decide) rfl ?_
  intro p e s m args below meth c s₁ B hml hv
  obtain ⟨hargs, hsz, hP, hK, hD0, hN⟩ := hv
  have hx := B.exec
  have hb := B.bytes
  have hr := B.returns
  have hts := atoms_spec (ws := wsX11_selected) B.pre
  have hown : s.vm.findClass RX11 = some m.cls := findClass_of_methodNamed B.named
  have hlocks := B.notSynchronized
  have S : CallFix p m c cX11_selected 1 s args wsX11_selected RX11 := ⟨hx, hb, hml, hown, hts⟩
  subst hsz
  have hB : zB D cy T ad (zA T ad s.heap.size) s.heap s0 s.heap [] s := zz_entry hP hK hD0 hN
  obtain ⟨ls, hent, hl⟩ := zz_ent m hargs (n := 1) (Nat.le_of_ble_eq_true rfl)
  rw [hent]
  have hl : lv_has ls 1 [(0, .ref (ad a0))] := hl
  have iwX11 : ∀ w ∈ u_ws RX11 TX11 5, w ∈ wsX11_selected := by decide +kernel
  have iwX2 : ∀ w ∈ u_ws RX2 TX2 4, w ∈ wsX11_selected := by decide +kernel
  have iwX7 : ∀ w ∈ u_ws RX7 TX7 3, w ∈ wsX11_selected := by decide +kernel
  have lk0 : Cond.fieldLink RX11 10 "DiagramDesk" "now" "LDiagramDesk$Diagram;" ∈ wsX11_selected := by decide +kernel
  have lk1 : Cond.fieldLink RX11 55 "DiagramDesk$Diagram" "shapes" "LDiagramDesk$Shapes;" ∈ wsX11_selected := by decide +kernel
  have lk2 : Cond.fieldLink RX11 108 "DiagramDesk$Shapes" "chosen" "I" ∈ wsX11_selected := by decide +kernel
  unfold f_X11_selected at hq
  refine zz_guard hq (fun hk0 hq => ?_)
  refine lv_aload_n hx hb dX11_selected_0 rfl (lv_at hl 0 rfl) ?_
  refine zz_getR S hT hB (C := RX11) (ref := "DiagramDesk") (F := TX11) (N := 5) (index := 10) 11 0 iwX11 rfl (by decide) (by decide) rfl rfl lk0 (fun _ h9 => h9) dX11_selected_1 hq (fun a3 hq => ?_)
  refine zz_getR S hT hB (C := RX2) (ref := "DiagramDesk$Diagram") (F := TX2) (N := 4) (index := 55) 2 0 iwX2 rfl (by decide) (by decide) rfl rfl lk1 (fun _ h9 => h9) dX11_selected_4 hq (fun a4 hq => ?_)
  refine zz_get S hT hB (C := RX7) (ref := "DiagramDesk$Shapes") (F := TX7) (N := 3) (index := 108) 7 2 iwX7 rfl (by decide) (by decide) rfl rfl lk2 (fun _ h9 => h9) dX11_selected_7 hq (fun x5 hq => ?_)
  exact zz_iret S hB hr hlocks dX11_selected_10 hq
def f_X11_group (T : zT) (N : Nat) (s0 : zS) (a0 : Nat) : Option (Int32 × zS) :=
  zz1 (T.1 a0 = 11) <|
  (gR T s0 a0 11 3).bind fun a3 =>
  (gR T s0 a0 11 0).bind fun a4 =>
  (f_X10_gather T N s0 a3 a4).bind fun s5 =>
  (gR T s5 a0 11 3).bind fun a6 =>
  (gI T s5 a6 10 2).bind fun x7 =>
  if (2 : Int32) ≤ x7 then (
    (gR T s5 a0 11 0).bind fun a8 =>
    (gR T s5 a8 2 2).bind fun a9 =>
    zb2 (f_X3_firstFree T N s5 a9) fun x11 s10 =>
    if ¬ x11 = (-1000000 : Int32) then (
      (gR T s10 a0 11 1).bind fun a12 =>
      (gR T s10 a0 11 0).bind fun a13 =>
      (f_X5_keep T N s10 a12 a13).bind fun s14 =>
      (gR T s14 a0 11 0).bind fun a15 =>
      (f_X2_joinChosen T N s14 a15 x11).bind fun s16 =>
      some (x11, s16))
    else (
      some ((-3 : Int32), s10)))
  else (
    some ((-2 : Int32), s5))
theorem k_X11_group (T : zT) (N : Nat) (s0 : zS) (a0 : Nat) : ∀ q, f_X11_group T N s0 a0 = some q → T.1 a0 = 11 := by
  intro q h
  unfold f_X11_group at h
  exact zz_guard h (fun h _ => h)
set_option maxHeartbeats 4000000 in
set_option maxRecDepth 100000 in
theorem c_X11_group (l : Launch) (D : va_G) (cy : Nat → ClassId) (T : zT) (hT : zok T) (ad : Nat → Nat) (N : Nat) (s0 : zS) (sz : Nat) (a0 : Nat) : ∀ (r0 : Int32) (σ0 : zS), f_X11_group T N s0 a0 = some (r0, σ0) → Met l yX11_group wsX11_group ({ frames := 6, cells := 0, slots := 0, locals := 138 }) (va_Pc [.ref (ad a0)] (zPre D cy T ad s0 sz)) (va_Qi (fun (r2 : Int32) (σ2 : zS) => r2 = r0 ∧ σ2 = σ0) (zAt D cy T ad (zA T ad sz)) (zA T ad sz)) 0 0 (zA T ad sz) := by
  intro r0 σ0 hq
  refine Met.ofW (cc := cX11_group) (maxL := 2) (ret := (some .int)) (by decide) rfl ?_
  intro p e s m args below meth c s₁ B hml hv
  obtain ⟨hargs, hsz, hP, hK, hD0, hN⟩ := hv
  have hx := B.exec
  have hb := B.bytes
  have hr := B.returns
  have hts := atoms_spec (ws := wsX11_group) B.pre
  have hown : s.vm.findClass RX11 = some m.cls := findClass_of_methodNamed B.named
  have hlocks := B.notSynchronized
  have S : CallFix p m c cX11_group 2 s args wsX11_group RX11 := ⟨hx, hb, hml, hown, hts⟩
  subst hsz
  have hB : zB D cy T ad (zA T ad s.heap.size) s.heap s0 s.heap [] s := zz_entry hP hK hD0 hN
  obtain ⟨ls, hent, hl⟩ := zz_ent m hargs (n := 2) (Nat.le_of_ble_eq_true rfl)
  rw [hent]
  have hl : lv_has ls 2 [(0, .ref (ad a0))] := hl
  have iwX11 : ∀ w ∈ u_ws RX11 TX11 5, w ∈ wsX11_group := by decide +kernel
  have iwX10 : ∀ w ∈ u_ws RX10 TX10 3, w ∈ wsX11_group := by decide +kernel
  have iwX2 : ∀ w ∈ u_ws RX2 TX2 4, w ∈ wsX11_group := by decide +kernel
  have lk0 : Cond.fieldLink RX11 33 "DiagramDesk" "units" "LDiagramDesk$Units;" ∈ wsX11_group := by decide +kernel
  have lk1 : Cond.fieldLink RX11 10 "DiagramDesk" "now" "LDiagramDesk$Diagram;" ∈ wsX11_group := by decide +kernel
  have lk2 : Cond.fieldLink RX11 191 "DiagramDesk$Units" "count" "I" ∈ wsX11_group := by decide +kernel
  have lk3 : Cond.fieldLink RX11 121 "DiagramDesk$Diagram" "groups" "LDiagramDesk$Groups;" ∈ wsX11_group := by decide +kernel
  have lk4 : Cond.constant RX11 98 (-1000000) ∈ wsX11_group := by decide +kernel
  have lk5 : Cond.fieldLink RX11 19 "DiagramDesk" "history" "LDiagramDesk$History;" ∈ wsX11_group := by decide +kernel
  unfold f_X11_group at hq
  refine zz_guard hq (fun hk0 hq => ?_)
  refine lv_aload_n hx hb dX11_group_0 rfl (lv_at hl 0 rfl) ?_
  refine zz_getR S hT hB (C := RX11) (ref := "DiagramDesk") (F := TX11) (N := 5) (index := 33) 11 3 iwX11 rfl (by decide) (by decide) rfl rfl lk0 (fun _ h9 => h9) dX11_group_1 hq (fun a3 hq => ?_)
  refine lv_aload_n hx hb dX11_group_4 rfl (lv_at hl 0 rfl) ?_
  refine zz_getR S hT hB (C := RX11) (ref := "DiagramDesk") (F := TX11) (N := 5) (index := 10) 11 0 iwX11 rfl (by decide) (by decide) rfl rfl lk1 (fun _ h9 => h9) dX11_group_5 hq (fun a4 hq => ?_)
  refine zz_callVv S hT hB (As := [.ref (ad a4)]) (b := a3) (o := f_X10_gather T N s0 a3 a4) (c_X10_gather l D cy T hT ad N s0 _ a3 a4) (cwV 1 hts gX11_group_X10_gather rfl rfl rfl (by decide +kernel) ⟨Nat.le_of_ble_eq_true rfl, Nat.le_of_ble_eq_true rfl⟩) (F := TX10) (NF := 3) 10 rfl (by decide) (k_X10_gather T N s0 a3 a4) rfl hl.1 rfl (Nat.le_of_ble_eq_true rfl) dX11_group_8 hq (fun s5 H locs hq hB => ?_)
  refine lv_aload_n hx hb dX11_group_11 rfl (lv_at hl 0 rfl) ?_
  refine zz_getR S hT hB (C := RX11) (ref := "DiagramDesk") (F := TX11) (N := 5) (index := 33) 11 3 iwX11 rfl (by decide) (by decide) rfl rfl lk0 (fun _ h9 => h9) dX11_group_12 hq (fun a6 hq => ?_)
  refine zz_get S hT hB (C := RX10) (ref := "DiagramDesk$Units") (F := TX10) (N := 3) (index := 191) 10 2 iwX10 rfl (by decide) (by decide) rfl rfl lk2 (fun _ h9 => h9) dX11_group_15 hq (fun x7 hq => ?_)
  refine lv_iconst (v := 2) hx hb dX11_group_18 (by decide) ?_
  refine zz_icmp_ge (tgt := 25) hx hb dX11_group_19 (by decide) hq (fun hq => ?_) (fun hq => ?_)
  · refine lv_aload_n hx hb dX11_group_25 rfl (lv_at hl 0 rfl) ?_
    refine zz_getR S hT hB (C := RX11) (ref := "DiagramDesk") (F := TX11) (N := 5) (index := 10) 11 0 iwX11 rfl (by decide) (by decide) rfl rfl lk1 (fun _ h9 => h9) dX11_group_26 hq (fun a8 hq => ?_)
    refine zz_getR S hT hB (C := RX2) (ref := "DiagramDesk$Diagram") (F := TX2) (N := 4) (index := 121) 2 2 iwX2 rfl (by decide) (by decide) rfl rfl lk3 (fun _ h9 => h9) dX11_group_29 hq (fun a9 hq => ?_)
    refine zz_callVi S hT hB (As := []) (b := a9) (o := f_X3_firstFree T N s5 a9) (c_X3_firstFree l D cy T hT ad N s5 _ a9) (cwV 0 hts gX11_group_X3_firstFree rfl rfl rfl (by decide +kernel) ⟨Nat.le_of_ble_eq_true rfl, Nat.le_of_ble_eq_true rfl⟩) (F := TX3) (NF := 2) 3 rfl (by decide) (k_X3_firstFree T N s5 a9) rfl hl.1 rfl (Nat.le_of_ble_eq_true rfl) dX11_group_32 hq (fun x11 s10 H locs hq hB => ?_)
    refine lv_istore_n (lv' := [(1, .int x11), (0, .ref (ad a0))]) hx hb dX11_group_35 rfl hl (by decide) rfl (fun ls hl => ?_)
    refine lv_iload_n hx hb dX11_group_36 rfl (lv_at hl 0 rfl) ?_
    refine lv_ldc (v := -1000000) hx hb hown (hts _ lk4) dX11_group_37 ?_
    refine zz_icmp_ne (tgt := 45) hx hb dX11_group_39 (by decide) hq (fun hq => ?_) (fun hq => ?_)
    · refine lv_aload_n hx hb dX11_group_45 rfl (lv_at hl 1 rfl) ?_
      refine zz_getR S hT hB (C := RX11) (ref := "DiagramDesk") (F := TX11) (N := 5) (index := 19) 11 1 iwX11 rfl (by decide) (by decide) rfl rfl lk5 (fun _ h9 => h9) dX11_group_46 hq (fun a12 hq => ?_)
      refine lv_aload_n hx hb dX11_group_49 rfl (lv_at hl 1 rfl) ?_
      refine zz_getR S hT hB (C := RX11) (ref := "DiagramDesk") (F := TX11) (N := 5) (index := 10) 11 0 iwX11 rfl (by decide) (by decide) rfl rfl lk1 (fun _ h9 => h9) dX11_group_50 hq (fun a13 hq => ?_)
      refine zz_callVv S hT hB (As := [.ref (ad a13)]) (b := a12) (o := f_X5_keep T N s10 a12 a13) (c_X5_keep l D cy T hT ad N s10 _ a12 a13) (cwV 1 hts gX11_group_X5_keep rfl rfl rfl (by decide +kernel) ⟨Nat.le_of_ble_eq_true rfl, Nat.le_of_ble_eq_true rfl⟩) (F := TX5) (NF := 2) 5 rfl (by decide) (k_X5_keep T N s10 a12 a13) rfl hl.1 rfl (Nat.le_of_ble_eq_true rfl) dX11_group_53 hq (fun s14 H locs hq hB => ?_)
      refine lv_aload_n hx hb dX11_group_56 rfl (lv_at hl 1 rfl) ?_
      refine zz_getR S hT hB (C := RX11) (ref := "DiagramDesk") (F := TX11) (N := 5) (index := 10) 11 0 iwX11 rfl (by decide) (by decide) rfl rfl lk1 (fun _ h9 => h9) dX11_group_57 hq (fun a15 hq => ?_)
      refine lv_iload_n hx hb dX11_group_60 rfl (lv_at hl 0 rfl) ?_
      refine zz_callVv S hT hB (As := [.int x11]) (b := a15) (o := f_X2_joinChosen T N s14 a15 x11) (c_X2_joinChosen l D cy T hT ad N s14 _ a15 x11) (cwV 1 hts gX11_group_X2_joinChosen rfl rfl rfl (by decide +kernel) ⟨Nat.le_of_ble_eq_true rfl, Nat.le_of_ble_eq_true rfl⟩) (F := TX2) (NF := 4) 2 rfl (by decide) (k_X2_joinChosen T N s14 a15 x11) rfl hl.1 rfl (Nat.le_of_ble_eq_true rfl) dX11_group_61 hq (fun s16 H locs hq hB => ?_)
      refine lv_iload_n hx hb dX11_group_64 rfl (lv_at hl 0 rfl) ?_
      exact zz_iret S hB hr hlocks dX11_group_65 hq
    · refine lv_bipush (v := -3) hx hb dX11_group_42 (by decide) ?_
      exact zz_iret S hB hr hlocks dX11_group_44 hq
  · refine lv_bipush (v := -2) hx hb dX11_group_22 (by decide) ?_
    exact zz_iret S hB hr hlocks dX11_group_24 hq
def f_X11_ungroup (T : zT) (N : Nat) (s0 : zS) (a0 : Nat) (x1 : Int32) : Option (Int32 × zS) :=
  zz1 (T.1 a0 = 11) <|
  (gR T s0 a0 11 0).bind fun a4 =>
  (gR T s0 a4 2 2).bind fun a5 =>
  zb2 (f_X3_has T N s0 a5 x1) fun x7 s6 =>
  if ¬ x7 = 0 then (
    (gR T s6 a0 11 1).bind fun a8 =>
    (gR T s6 a0 11 0).bind fun a9 =>
    (f_X5_keep T N s6 a8 a9).bind fun s10 =>
    (gR T s10 a0 11 0).bind fun a11 =>
    zb2 (f_X2_endGroup T N s10 a11 x1) fun x13 s12 =>
    some (x13, s12))
  else (
    some ((-1 : Int32), s6))
theorem k_X11_ungroup (T : zT) (N : Nat) (s0 : zS) (a0 : Nat) (x1 : Int32) : ∀ q, f_X11_ungroup T N s0 a0 x1 = some q → T.1 a0 = 11 := by
  intro q h
  unfold f_X11_ungroup at h
  exact zz_guard h (fun h _ => h)
set_option maxHeartbeats 4000000 in
set_option maxRecDepth 100000 in
theorem c_X11_ungroup (l : Launch) (D : va_G) (cy : Nat → ClassId) (T : zT) (hT : zok T) (ad : Nat → Nat) (N : Nat) (s0 : zS) (sz : Nat) (a0 : Nat) (x1 : Int32) : ∀ (r0 : Int32) (σ0 : zS), f_X11_ungroup T N s0 a0 x1 = some (r0, σ0) → Met l yX11_ungroup wsX11_ungroup ({ frames := 5, cells := 0, slots := 0, locals := 106 }) (va_Pc [.ref (ad a0), .int x1] (zPre D cy T ad s0 sz)) (va_Qi (fun (r2 : Int32) (σ2 : zS) => r2 = r0 ∧ σ2 = σ0) (zAt D cy T ad (zA T ad sz)) (zA T ad sz)) 0 0 (zA T ad sz) := by
  intro r0 σ0 hq
  refine Met.ofW (cc := cX11_ungroup) (maxL := 2) (ret := (some .int)) (by decide) rfl ?_
  intro p e s m args below meth c s₁ B hml hv
  obtain ⟨hargs, hsz, hP, hK, hD0, hN⟩ := hv
  have hx := B.exec
  have hb := B.bytes
  have hr := B.returns
  have hts := atoms_spec (ws := wsX11_ungroup) B.pre
  have hown : s.vm.findClass RX11 = some m.cls := findClass_of_methodNamed B.named
  have hlocks := B.notSynchronized
  have S : CallFix p m c cX11_ungroup 2 s args wsX11_ungroup RX11 := ⟨hx, hb, hml, hown, hts⟩
  subst hsz
  have hB : zB D cy T ad (zA T ad s.heap.size) s.heap s0 s.heap [] s := zz_entry hP hK hD0 hN
  obtain ⟨ls, hent, hl⟩ := zz_ent m hargs (n := 2) (Nat.le_of_ble_eq_true rfl)
  rw [hent]
  have hl : lv_has ls 2 [(0, .ref (ad a0)), (1, .int x1)] := hl
  have iwX11 : ∀ w ∈ u_ws RX11 TX11 5, w ∈ wsX11_ungroup := by decide +kernel
  have iwX2 : ∀ w ∈ u_ws RX2 TX2 4, w ∈ wsX11_ungroup := by decide +kernel
  have lk0 : Cond.fieldLink RX11 10 "DiagramDesk" "now" "LDiagramDesk$Diagram;" ∈ wsX11_ungroup := by decide +kernel
  have lk1 : Cond.fieldLink RX11 121 "DiagramDesk$Diagram" "groups" "LDiagramDesk$Groups;" ∈ wsX11_ungroup := by decide +kernel
  have lk2 : Cond.fieldLink RX11 19 "DiagramDesk" "history" "LDiagramDesk$History;" ∈ wsX11_ungroup := by decide +kernel
  unfold f_X11_ungroup at hq
  refine zz_guard hq (fun hk0 hq => ?_)
  refine lv_aload_n hx hb dX11_ungroup_0 rfl (lv_at hl 0 rfl) ?_
  refine zz_getR S hT hB (C := RX11) (ref := "DiagramDesk") (F := TX11) (N := 5) (index := 10) 11 0 iwX11 rfl (by decide) (by decide) rfl rfl lk0 (fun _ h9 => h9) dX11_ungroup_1 hq (fun a4 hq => ?_)
  refine zz_getR S hT hB (C := RX2) (ref := "DiagramDesk$Diagram") (F := TX2) (N := 4) (index := 121) 2 2 iwX2 rfl (by decide) (by decide) rfl rfl lk1 (fun _ h9 => h9) dX11_ungroup_4 hq (fun a5 hq => ?_)
  refine lv_iload_n hx hb dX11_ungroup_7 rfl (lv_at hl 1 rfl) ?_
  refine zz_callVi S hT hB (As := [.int x1]) (b := a5) (o := f_X3_has T N s0 a5 x1) (c_X3_has l D cy T hT ad N s0 _ a5 x1) (cwV 1 hts gX11_ungroup_X3_has rfl rfl rfl (by decide +kernel) ⟨Nat.le_of_ble_eq_true rfl, Nat.le_of_ble_eq_true rfl⟩) (F := TX3) (NF := 2) 3 rfl (by decide) (k_X3_has T N s0 a5 x1) rfl hl.1 rfl (Nat.le_of_ble_eq_true rfl) dX11_ungroup_8 hq (fun x7 s6 H locs hq hB => ?_)
  refine zz_if_ne (tgt := 16) hx hb dX11_ungroup_11 (by decide) hq (fun hq => ?_) (fun hq => ?_)
  · refine lv_aload_n hx hb dX11_ungroup_16 rfl (lv_at hl 0 rfl) ?_
    refine zz_getR S hT hB (C := RX11) (ref := "DiagramDesk") (F := TX11) (N := 5) (index := 19) 11 1 iwX11 rfl (by decide) (by decide) rfl rfl lk2 (fun _ h9 => h9) dX11_ungroup_17 hq (fun a8 hq => ?_)
    refine lv_aload_n hx hb dX11_ungroup_20 rfl (lv_at hl 0 rfl) ?_
    refine zz_getR S hT hB (C := RX11) (ref := "DiagramDesk") (F := TX11) (N := 5) (index := 10) 11 0 iwX11 rfl (by decide) (by decide) rfl rfl lk0 (fun _ h9 => h9) dX11_ungroup_21 hq (fun a9 hq => ?_)
    refine zz_callVv S hT hB (As := [.ref (ad a9)]) (b := a8) (o := f_X5_keep T N s6 a8 a9) (c_X5_keep l D cy T hT ad N s6 _ a8 a9) (cwV 1 hts gX11_ungroup_X5_keep rfl rfl rfl (by decide +kernel) ⟨Nat.le_of_ble_eq_true rfl, Nat.le_of_ble_eq_true rfl⟩) (F := TX5) (NF := 2) 5 rfl (by decide) (k_X5_keep T N s6 a8 a9) rfl hl.1 rfl (Nat.le_of_ble_eq_true rfl) dX11_ungroup_24 hq (fun s10 H locs hq hB => ?_)
    refine lv_aload_n hx hb dX11_ungroup_27 rfl (lv_at hl 0 rfl) ?_
    refine zz_getR S hT hB (C := RX11) (ref := "DiagramDesk") (F := TX11) (N := 5) (index := 10) 11 0 iwX11 rfl (by decide) (by decide) rfl rfl lk0 (fun _ h9 => h9) dX11_ungroup_28 hq (fun a11 hq => ?_)
    refine lv_iload_n hx hb dX11_ungroup_31 rfl (lv_at hl 1 rfl) ?_
    refine zz_callVi S hT hB (As := [.int x1]) (b := a11) (o := f_X2_endGroup T N s10 a11 x1) (c_X2_endGroup l D cy T hT ad N s10 _ a11 x1) (cwV 1 hts gX11_ungroup_X2_endGroup rfl rfl rfl (by decide +kernel) ⟨Nat.le_of_ble_eq_true rfl, Nat.le_of_ble_eq_true rfl⟩) (F := TX2) (NF := 4) 2 rfl (by decide) (k_X2_endGroup T N s10 a11 x1) rfl hl.1 rfl (Nat.le_of_ble_eq_true rfl) dX11_ungroup_32 hq (fun x13 s12 H locs hq hB => ?_)
    exact zz_iret S hB hr hlocks dX11_ungroup_35 hq
  · refine lv_iconst (v := -1) hx hb dX11_ungroup_14 (by decide) ?_
    exact zz_iret S hB hr hlocks dX11_ungroup_15 hq
def f_X11_shapesOf (T : zT) (N : Nat) (s0 : zS) (a0 : Nat) (x1 : Int32) : Option (Int32 × zS) :=
  zz1 (T.1 a0 = 11) <|
  (gR T s0 a0 11 0).bind fun a4 =>
  (gR T s0 a4 2 2).bind fun a5 =>
  zb2 (f_X3_has T N s0 a5 x1) fun x7 s6 =>
  if x7 = 0 then (
    some ((-1 : Int32), s6))
  else (
    (gR T s6 a0 11 0).bind fun a8 =>
    zb2 (f_X2_shapesIn T N s6 a8 x1) fun x10 s9 =>
    some (x10, s9))
theorem k_X11_shapesOf (T : zT) (N : Nat) (s0 : zS) (a0 : Nat) (x1 : Int32) : ∀ q, f_X11_shapesOf T N s0 a0 x1 = some q → T.1 a0 = 11 := by
  intro q h
  unfold f_X11_shapesOf at h
  exact zz_guard h (fun h _ => h)
set_option maxHeartbeats 4000000 in
set_option maxRecDepth 100000 in
theorem c_X11_shapesOf (l : Launch) (D : va_G) (cy : Nat → ClassId) (T : zT) (hT : zok T) (ad : Nat → Nat) (N : Nat) (s0 : zS) (sz : Nat) (a0 : Nat) (x1 : Int32) : ∀ (r0 : Int32) (σ0 : zS), f_X11_shapesOf T N s0 a0 x1 = some (r0, σ0) → Met l yX11_shapesOf wsX11_shapesOf ({ frames := 4, cells := 0, slots := 0, locals := 90 }) (va_Pc [.ref (ad a0), .int x1] (zPre D cy T ad s0 sz)) (va_Qi (fun (r2 : Int32) (σ2 : zS) => r2 = r0 ∧ σ2 = σ0) (zAt D cy T ad (zA T ad sz)) (zA T ad sz)) 0 0 (zA T ad sz) := by
  intro r0 σ0 hq
  refine Met.ofW (cc := cX11_shapesOf) (maxL := 2) (ret := (some .int)) (by decide) rfl ?_
  intro p e s m args below meth c s₁ B hml hv
  obtain ⟨hargs, hsz, hP, hK, hD0, hN⟩ := hv
  have hx := B.exec
  have hb := B.bytes
  have hr := B.returns
  have hts := atoms_spec (ws := wsX11_shapesOf) B.pre
  have hown : s.vm.findClass RX11 = some m.cls := findClass_of_methodNamed B.named
  have hlocks := B.notSynchronized
  have S : CallFix p m c cX11_shapesOf 2 s args wsX11_shapesOf RX11 := ⟨hx, hb, hml, hown, hts⟩
  subst hsz
  have hB : zB D cy T ad (zA T ad s.heap.size) s.heap s0 s.heap [] s := zz_entry hP hK hD0 hN
  obtain ⟨ls, hent, hl⟩ := zz_ent m hargs (n := 2) (Nat.le_of_ble_eq_true rfl)
  rw [hent]
  have hl : lv_has ls 2 [(0, .ref (ad a0)), (1, .int x1)] := hl
  have iwX11 : ∀ w ∈ u_ws RX11 TX11 5, w ∈ wsX11_shapesOf := by decide +kernel
  have iwX2 : ∀ w ∈ u_ws RX2 TX2 4, w ∈ wsX11_shapesOf := by decide +kernel
  have lk0 : Cond.fieldLink RX11 10 "DiagramDesk" "now" "LDiagramDesk$Diagram;" ∈ wsX11_shapesOf := by decide +kernel
  have lk1 : Cond.fieldLink RX11 121 "DiagramDesk$Diagram" "groups" "LDiagramDesk$Groups;" ∈ wsX11_shapesOf := by decide +kernel
  unfold f_X11_shapesOf at hq
  refine zz_guard hq (fun hk0 hq => ?_)
  refine lv_aload_n hx hb dX11_shapesOf_0 rfl (lv_at hl 0 rfl) ?_
  refine zz_getR S hT hB (C := RX11) (ref := "DiagramDesk") (F := TX11) (N := 5) (index := 10) 11 0 iwX11 rfl (by decide) (by decide) rfl rfl lk0 (fun _ h9 => h9) dX11_shapesOf_1 hq (fun a4 hq => ?_)
  refine zz_getR S hT hB (C := RX2) (ref := "DiagramDesk$Diagram") (F := TX2) (N := 4) (index := 121) 2 2 iwX2 rfl (by decide) (by decide) rfl rfl lk1 (fun _ h9 => h9) dX11_shapesOf_4 hq (fun a5 hq => ?_)
  refine lv_iload_n hx hb dX11_shapesOf_7 rfl (lv_at hl 1 rfl) ?_
  refine zz_callVi S hT hB (As := [.int x1]) (b := a5) (o := f_X3_has T N s0 a5 x1) (c_X3_has l D cy T hT ad N s0 _ a5 x1) (cwV 1 hts gX11_shapesOf_X3_has rfl rfl rfl (by decide +kernel) ⟨Nat.le_of_ble_eq_true rfl, Nat.le_of_ble_eq_true rfl⟩) (F := TX3) (NF := 2) 3 rfl (by decide) (k_X3_has T N s0 a5 x1) rfl hl.1 rfl (Nat.le_of_ble_eq_true rfl) dX11_shapesOf_8 hq (fun x7 s6 H locs hq hB => ?_)
  refine zz_if_eq (tgt := 25) hx hb dX11_shapesOf_11 (by decide) hq (fun hq => ?_) (fun hq => ?_)
  · refine lv_iconst (v := -1) hx hb dX11_shapesOf_25 (by decide) ?_
    exact zz_iret S hB hr hlocks dX11_shapesOf_26 hq
  · refine lv_aload_n hx hb dX11_shapesOf_14 rfl (lv_at hl 0 rfl) ?_
    refine zz_getR S hT hB (C := RX11) (ref := "DiagramDesk") (F := TX11) (N := 5) (index := 10) 11 0 iwX11 rfl (by decide) (by decide) rfl rfl lk0 (fun _ h9 => h9) dX11_shapesOf_15 hq (fun a8 hq => ?_)
    refine lv_iload_n hx hb dX11_shapesOf_18 rfl (lv_at hl 1 rfl) ?_
    refine zz_callVi S hT hB (As := [.int x1]) (b := a8) (o := f_X2_shapesIn T N s6 a8 x1) (c_X2_shapesIn l D cy T hT ad N s6 _ a8 x1) (cwV 1 hts gX11_shapesOf_X2_shapesIn rfl rfl rfl (by decide +kernel) ⟨Nat.le_of_ble_eq_true rfl, Nat.le_of_ble_eq_true rfl⟩) (F := TX2) (NF := 4) 2 rfl (by decide) (k_X2_shapesIn T N s6 a8 x1) rfl hl.1 rfl (Nat.le_of_ble_eq_true rfl) dX11_shapesOf_19 hq (fun x10 s9 H locs hq hB => ?_)
    refine lv_goto (tgt := 26) hx hb dX11_shapesOf_22 (by decide) ?_
    exact zz_iret S hB hr hlocks dX11_shapesOf_26 hq
def f_X11_isWay (T : zT) (N : Nat) (s0 : zS) (x0 : Int32) : Option (Int32 × zS) :=
  zb2 (f_X11_isWithin T N s0 x0 (-20000 : Int32) (20000 : Int32)) fun x4 s3 =>
  rZ x4 s3
set_option maxHeartbeats 4000000 in
set_option maxRecDepth 100000 in
theorem c_X11_isWay (l : Launch) (D : va_G) (cy : Nat → ClassId) (T : zT) (hT : zok T) (ad : Nat → Nat) (N : Nat) (s0 : zS) (sz : Nat) (x0 : Int32) : ∀ (r0 : Int32) (σ0 : zS), f_X11_isWay T N s0 x0 = some (r0, σ0) → Met l yX11_isWay wsX11_isWay ({ frames := 1, cells := 0, slots := 0, locals := 22 }) (va_Pc [.int x0] (zPre D cy T ad s0 sz)) (va_Qi (fun (r2 : Int32) (σ2 : zS) => r2 = r0 ∧ σ2 = σ0) (zAt D cy T ad (zA T ad sz)) (zA T ad sz)) 0 0 (zA T ad sz) := by
  intro r0 σ0 hq
  refine Met.ofW (cc := cX11_isWay) (maxL := 1) (ret := (some .boolean)) (by decide) rfl ?_
  intro p e s m args below meth c s₁ B hml hv
  obtain ⟨hargs, hsz, hP, hK, hD0, hN⟩ := hv
  have hx := B.exec
  have hb := B.bytes
  have hr := B.returns
  have hts := atoms_spec (ws := wsX11_isWay) B.pre
  have hown : s.vm.findClass RX11 = some m.cls := findClass_of_methodNamed B.named
  have hlocks := B.notSynchronized
  have S : CallFix p m c cX11_isWay 1 s args wsX11_isWay RX11 := ⟨hx, hb, hml, hown, hts⟩
  subst hsz
  have hB : zB D cy T ad (zA T ad s.heap.size) s.heap s0 s.heap [] s := zz_entry hP hK hD0 hN
  obtain ⟨ls, hent, hl⟩ := zz_ent m hargs (n := 1) (Nat.le_of_ble_eq_true rfl)
  rw [hent]
  have hl : lv_has ls 1 [(0, .int x0)] := hl
  unfold f_X11_isWay at hq
  refine lv_iload_n hx hb dX11_isWay_0 rfl (lv_at hl 0 rfl) ?_
  refine lv_sipush (v := -20000) hx hb dX11_isWay_1 (by decide) ?_
  refine lv_sipush (v := 20000) hx hb dX11_isWay_4 (by decide) ?_
  refine zz_callSi S hT hB (As := [.int x0, .int (-20000 : Int32), .int (20000 : Int32)]) (o := f_X11_isWithin T N s0 x0 (-20000 : Int32) (20000 : Int32)) (c_X11_isWithin l D cy T hT ad N s0 _ x0 (-20000 : Int32) (20000 : Int32)) (va_cwS 3 hts gX11_isWay_X11_isWithin rfl rfl rfl (by decide +kernel) ⟨Nat.le_of_ble_eq_true rfl, Nat.le_of_ble_eq_true rfl⟩) rfl hl.1 rfl (Nat.le_of_ble_eq_true rfl) dX11_isWay_7 hq (fun x4 s3 H locs hq hB => ?_)
  exact zz_zret S hB hr hlocks dX11_isWay_10 hq
def f_X11_canShiftChosen (T : zT) (N : Nat) (s0 : zS) (a0 : Nat) (x1 : Int32) (x2 : Int32) : Option (Int32 × zS) :=
  zz1 (T.1 a0 = 11) <|
  (gR T s0 a0 11 0).bind fun a5 =>
  (gR T s0 a5 2 0).bind fun a6 =>
  (gI T s0 a6 7 2).bind fun x7 =>
  (gR T s0 a0 11 0).bind fun a8 =>
  (gR T s0 a8 2 0).bind fun a9 =>
  zb2 (f_X7_canShift T N s0 a9 x7 (0 : Int32) x1) fun x11 s10 =>
  if x11 = 0 then (
    rZ (0 : Int32) s10)
  else (
    (gR T s10 a0 11 0).bind fun a12 =>
    (gR T s10 a12 2 0).bind fun a13 =>
    zb2 (f_X7_canShift T N s10 a13 x7 (1 : Int32) x2) fun x15 s14 =>
    if x15 = 0 then (
      rZ (0 : Int32) s14)
    else (
      rZ (1 : Int32) s14))
theorem k_X11_canShiftChosen (T : zT) (N : Nat) (s0 : zS) (a0 : Nat) (x1 : Int32) (x2 : Int32) : ∀ q, f_X11_canShiftChosen T N s0 a0 x1 x2 = some q → T.1 a0 = 11 := by
  intro q h
  unfold f_X11_canShiftChosen at h
  exact zz_guard h (fun h _ => h)
set_option maxHeartbeats 4000000 in
set_option maxRecDepth 100000 in
theorem c_X11_canShiftChosen (l : Launch) (D : va_G) (cy : Nat → ClassId) (T : zT) (hT : zok T) (ad : Nat → Nat) (N : Nat) (s0 : zS) (sz : Nat) (a0 : Nat) (x1 : Int32) (x2 : Int32) : ∀ (r0 : Int32) (σ0 : zS), f_X11_canShiftChosen T N s0 a0 x1 x2 = some (r0, σ0) → Met l yX11_canShiftChosen wsX11_canShiftChosen ({ frames := 3, cells := 0, slots := 0, locals := 67 }) (va_Pc [.ref (ad a0), .int x1, .int x2] (zPre D cy T ad s0 sz)) (va_Qi (fun (r2 : Int32) (σ2 : zS) => r2 = r0 ∧ σ2 = σ0) (zAt D cy T ad (zA T ad sz)) (zA T ad sz)) 0 0 (zA T ad sz) := by
  intro r0 σ0 hq
  refine Met.ofW (cc := cX11_canShiftChosen) (maxL := 4) (ret := (some .boolean)) (by decide) rfl ?_
  intro p e s m args below meth c s₁ B hml hv
  obtain ⟨hargs, hsz, hP, hK, hD0, hN⟩ := hv
  have hx := B.exec
  have hb := B.bytes
  have hr := B.returns
  have hts := atoms_spec (ws := wsX11_canShiftChosen) B.pre
  have hown : s.vm.findClass RX11 = some m.cls := findClass_of_methodNamed B.named
  have hlocks := B.notSynchronized
  have S : CallFix p m c cX11_canShiftChosen 4 s args wsX11_canShiftChosen RX11 := ⟨hx, hb, hml, hown, hts⟩
  subst hsz
  have hB : zB D cy T ad (zA T ad s.heap.size) s.heap s0 s.heap [] s := zz_entry hP hK hD0 hN
  obtain ⟨ls, hent, hl⟩ := zz_ent m hargs (n := 4) (Nat.le_of_ble_eq_true rfl)
  rw [hent]
  have hl : lv_has ls 4 [(0, .ref (ad a0)), (1, .int x1), (2, .int x2)] := hl
  have iwX11 : ∀ w ∈ u_ws RX11 TX11 5, w ∈ wsX11_canShiftChosen := by decide +kernel
  have iwX2 : ∀ w ∈ u_ws RX2 TX2 4, w ∈ wsX11_canShiftChosen := by decide +kernel
  have iwX7 : ∀ w ∈ u_ws RX7 TX7 3, w ∈ wsX11_canShiftChosen := by decide +kernel
  have lk0 : Cond.fieldLink RX11 10 "DiagramDesk" "now" "LDiagramDesk$Diagram;" ∈ wsX11_canShiftChosen := by decide +kernel
  have lk1 : Cond.fieldLink RX11 55 "DiagramDesk$Diagram" "shapes" "LDiagramDesk$Shapes;" ∈ wsX11_canShiftChosen := by decide +kernel
  have lk2 : Cond.fieldLink RX11 108 "DiagramDesk$Shapes" "chosen" "I" ∈ wsX11_canShiftChosen := by decide +kernel
  unfold f_X11_canShiftChosen at hq
  refine zz_guard hq (fun hk0 hq => ?_)
  refine lv_aload_n hx hb dX11_canShiftChosen_0 rfl (lv_at hl 0 rfl) ?_
  refine zz_getR S hT hB (C := RX11) (ref := "DiagramDesk") (F := TX11) (N := 5) (index := 10) 11 0 iwX11 rfl (by decide) (by decide) rfl rfl lk0 (fun _ h9 => h9) dX11_canShiftChosen_1 hq (fun a5 hq => ?_)
  refine zz_getR S hT hB (C := RX2) (ref := "DiagramDesk$Diagram") (F := TX2) (N := 4) (index := 55) 2 0 iwX2 rfl (by decide) (by decide) rfl rfl lk1 (fun _ h9 => h9) dX11_canShiftChosen_4 hq (fun a6 hq => ?_)
  refine zz_get S hT hB (C := RX7) (ref := "DiagramDesk$Shapes") (F := TX7) (N := 3) (index := 108) 7 2 iwX7 rfl (by decide) (by decide) rfl rfl lk2 (fun _ h9 => h9) dX11_canShiftChosen_7 hq (fun x7 hq => ?_)
  refine lv_istore_n (lv' := [(3, .int x7), (0, .ref (ad a0)), (1, .int x1), (2, .int x2)]) hx hb dX11_canShiftChosen_10 rfl hl (by decide) rfl (fun ls hl => ?_)
  refine lv_aload_n hx hb dX11_canShiftChosen_11 rfl (lv_at hl 1 rfl) ?_
  refine zz_getR S hT hB (C := RX11) (ref := "DiagramDesk") (F := TX11) (N := 5) (index := 10) 11 0 iwX11 rfl (by decide) (by decide) rfl rfl lk0 (fun _ h9 => h9) dX11_canShiftChosen_12 hq (fun a8 hq => ?_)
  refine zz_getR S hT hB (C := RX2) (ref := "DiagramDesk$Diagram") (F := TX2) (N := 4) (index := 55) 2 0 iwX2 rfl (by decide) (by decide) rfl rfl lk1 (fun _ h9 => h9) dX11_canShiftChosen_15 hq (fun a9 hq => ?_)
  refine lv_iload_n hx hb dX11_canShiftChosen_18 rfl (lv_at hl 0 rfl) ?_
  refine lv_iconst (v := 0) hx hb dX11_canShiftChosen_19 (by decide) ?_
  refine lv_iload_n hx hb dX11_canShiftChosen_20 rfl (lv_at hl 2 rfl) ?_
  refine zz_callVi S hT hB (As := [.int x7, .int (0 : Int32), .int x1]) (b := a9) (o := f_X7_canShift T N s0 a9 x7 (0 : Int32) x1) (c_X7_canShift l D cy T hT ad N s0 _ a9 x7 (0 : Int32) x1) (cwV 3 hts gX11_canShiftChosen_X7_canShift rfl rfl rfl (by decide +kernel) ⟨Nat.le_of_ble_eq_true rfl, Nat.le_of_ble_eq_true rfl⟩) (F := TX7) (NF := 3) 7 rfl (by decide) (k_X7_canShift T N s0 a9 x7 (0 : Int32) x1) rfl hl.1 rfl (Nat.le_of_ble_eq_true rfl) dX11_canShiftChosen_21 hq (fun x11 s10 H locs hq hB => ?_)
  refine zz_if_eq (tgt := 47) hx hb dX11_canShiftChosen_24 (by decide) hq (fun hq => ?_) (fun hq => ?_)
  · refine lv_iconst (v := 0) hx hb dX11_canShiftChosen_47 (by decide) ?_
    exact zz_zret S hB hr hlocks dX11_canShiftChosen_48 hq
  · refine lv_aload_n hx hb dX11_canShiftChosen_27 rfl (lv_at hl 1 rfl) ?_
    refine zz_getR S hT hB (C := RX11) (ref := "DiagramDesk") (F := TX11) (N := 5) (index := 10) 11 0 iwX11 rfl (by decide) (by decide) rfl rfl lk0 (fun _ h9 => h9) dX11_canShiftChosen_28 hq (fun a12 hq => ?_)
    refine zz_getR S hT hB (C := RX2) (ref := "DiagramDesk$Diagram") (F := TX2) (N := 4) (index := 55) 2 0 iwX2 rfl (by decide) (by decide) rfl rfl lk1 (fun _ h9 => h9) dX11_canShiftChosen_31 hq (fun a13 hq => ?_)
    refine lv_iload_n hx hb dX11_canShiftChosen_34 rfl (lv_at hl 0 rfl) ?_
    refine lv_iconst (v := 1) hx hb dX11_canShiftChosen_35 (by decide) ?_
    refine lv_iload_n hx hb dX11_canShiftChosen_36 rfl (lv_at hl 3 rfl) ?_
    refine zz_callVi S hT hB (As := [.int x7, .int (1 : Int32), .int x2]) (b := a13) (o := f_X7_canShift T N s10 a13 x7 (1 : Int32) x2) (c_X7_canShift l D cy T hT ad N s10 _ a13 x7 (1 : Int32) x2) (cwV 3 hts gX11_canShiftChosen_X7_canShift rfl rfl rfl (by decide +kernel) ⟨Nat.le_of_ble_eq_true rfl, Nat.le_of_ble_eq_true rfl⟩) (F := TX7) (NF := 3) 7 rfl (by decide) (k_X7_canShift T N s10 a13 x7 (1 : Int32) x2) rfl hl.1 rfl (Nat.le_of_ble_eq_true rfl) dX11_canShiftChosen_37 hq (fun x15 s14 H locs hq hB => ?_)
    refine zz_if_eq (tgt := 47) hx hb dX11_canShiftChosen_40 (by decide) hq (fun hq => ?_) (fun hq => ?_)
    · refine lv_iconst (v := 0) hx hb dX11_canShiftChosen_47 (by decide) ?_
      exact zz_zret S hB hr hlocks dX11_canShiftChosen_48 hq
    · refine lv_iconst (v := 1) hx hb dX11_canShiftChosen_43 (by decide) ?_
      refine lv_goto (tgt := 48) hx hb dX11_canShiftChosen_44 (by decide) ?_
      exact zz_zret S hB hr hlocks dX11_canShiftChosen_48 hq
def f_X11_shiftChosen (T : zT) (N : Nat) (s0 : zS) (a0 : Nat) (x1 : Int32) (x2 : Int32) : Option zS :=
  zz1 (T.1 a0 = 11) <|
  (gR T s0 a0 11 0).bind fun a5 =>
  (gR T s0 a5 2 0).bind fun a6 =>
  (gR T s0 a0 11 0).bind fun a7 =>
  (gR T s0 a7 2 0).bind fun a8 =>
  (gI T s0 a8 7 2).bind fun x9 =>
  (f_X7_shift T N s0 a6 x9 (0 : Int32) x1).bind fun s10 =>
  (gR T s10 a0 11 0).bind fun a11 =>
  (gR T s10 a11 2 0).bind fun a12 =>
  (gR T s10 a0 11 0).bind fun a13 =>
  (gR T s10 a13 2 0).bind fun a14 =>
  (gI T s10 a14 7 2).bind fun x15 =>
  (f_X7_shift T N s10 a12 x15 (1 : Int32) x2).bind fun s16 =>
  some s16
theorem k_X11_shiftChosen (T : zT) (N : Nat) (s0 : zS) (a0 : Nat) (x1 : Int32) (x2 : Int32) : ∀ q, f_X11_shiftChosen T N s0 a0 x1 x2 = some q → T.1 a0 = 11 := by
  intro q h
  unfold f_X11_shiftChosen at h
  exact zz_guard h (fun h _ => h)
set_option maxHeartbeats 4000000 in
set_option maxRecDepth 100000 in
theorem c_X11_shiftChosen (l : Launch) (D : va_G) (cy : Nat → ClassId) (T : zT) (hT : zok T) (ad : Nat → Nat) (N : Nat) (s0 : zS) (sz : Nat) (a0 : Nat) (x1 : Int32) (x2 : Int32) : ∀ (σ0 : zS), f_X11_shiftChosen T N s0 a0 x1 x2 = some σ0 → Met l yX11_shiftChosen wsX11_shiftChosen ({ frames := 2, cells := 0, slots := 0, locals := 47 }) (va_Pc [.ref (ad a0), .int x1, .int x2] (zPre D cy T ad s0 sz)) (va_Qv (fun σ2 : zS => σ2 = σ0) (zAt D cy T ad (zA T ad sz)) (zA T ad sz)) 0 0 (zA T ad sz) := by
  intro σ0 hq
  refine Met.ofW (cc := cX11_shiftChosen) (maxL := 3) (ret := none) (by decide) rfl ?_
  intro p e s m args below meth c s₁ B hml hv
  obtain ⟨hargs, hsz, hP, hK, hD0, hN⟩ := hv
  have hx := B.exec
  have hb := B.bytes
  have hr := B.returns
  have hts := atoms_spec (ws := wsX11_shiftChosen) B.pre
  have hown : s.vm.findClass RX11 = some m.cls := findClass_of_methodNamed B.named
  have hlocks := B.notSynchronized
  have S : CallFix p m c cX11_shiftChosen 3 s args wsX11_shiftChosen RX11 := ⟨hx, hb, hml, hown, hts⟩
  subst hsz
  have hB : zB D cy T ad (zA T ad s.heap.size) s.heap s0 s.heap [] s := zz_entry hP hK hD0 hN
  obtain ⟨ls, hent, hl⟩ := zz_ent m hargs (n := 3) (Nat.le_of_ble_eq_true rfl)
  rw [hent]
  have hl : lv_has ls 3 [(0, .ref (ad a0)), (1, .int x1), (2, .int x2)] := hl
  have iwX11 : ∀ w ∈ u_ws RX11 TX11 5, w ∈ wsX11_shiftChosen := by decide +kernel
  have iwX2 : ∀ w ∈ u_ws RX2 TX2 4, w ∈ wsX11_shiftChosen := by decide +kernel
  have iwX7 : ∀ w ∈ u_ws RX7 TX7 3, w ∈ wsX11_shiftChosen := by decide +kernel
  have lk0 : Cond.fieldLink RX11 10 "DiagramDesk" "now" "LDiagramDesk$Diagram;" ∈ wsX11_shiftChosen := by decide +kernel
  have lk1 : Cond.fieldLink RX11 55 "DiagramDesk$Diagram" "shapes" "LDiagramDesk$Shapes;" ∈ wsX11_shiftChosen := by decide +kernel
  have lk2 : Cond.fieldLink RX11 108 "DiagramDesk$Shapes" "chosen" "I" ∈ wsX11_shiftChosen := by decide +kernel
  unfold f_X11_shiftChosen at hq
  refine zz_guard hq (fun hk0 hq => ?_)
  refine lv_aload_n hx hb dX11_shiftChosen_0 rfl (lv_at hl 0 rfl) ?_
  refine zz_getR S hT hB (C := RX11) (ref := "DiagramDesk") (F := TX11) (N := 5) (index := 10) 11 0 iwX11 rfl (by decide) (by decide) rfl rfl lk0 (fun _ h9 => h9) dX11_shiftChosen_1 hq (fun a5 hq => ?_)
  refine zz_getR S hT hB (C := RX2) (ref := "DiagramDesk$Diagram") (F := TX2) (N := 4) (index := 55) 2 0 iwX2 rfl (by decide) (by decide) rfl rfl lk1 (fun _ h9 => h9) dX11_shiftChosen_4 hq (fun a6 hq => ?_)
  refine lv_aload_n hx hb dX11_shiftChosen_7 rfl (lv_at hl 0 rfl) ?_
  refine zz_getR S hT hB (C := RX11) (ref := "DiagramDesk") (F := TX11) (N := 5) (index := 10) 11 0 iwX11 rfl (by decide) (by decide) rfl rfl lk0 (fun _ h9 => h9) dX11_shiftChosen_8 hq (fun a7 hq => ?_)
  refine zz_getR S hT hB (C := RX2) (ref := "DiagramDesk$Diagram") (F := TX2) (N := 4) (index := 55) 2 0 iwX2 rfl (by decide) (by decide) rfl rfl lk1 (fun _ h9 => h9) dX11_shiftChosen_11 hq (fun a8 hq => ?_)
  refine zz_get S hT hB (C := RX7) (ref := "DiagramDesk$Shapes") (F := TX7) (N := 3) (index := 108) 7 2 iwX7 rfl (by decide) (by decide) rfl rfl lk2 (fun _ h9 => h9) dX11_shiftChosen_14 hq (fun x9 hq => ?_)
  refine lv_iconst (v := 0) hx hb dX11_shiftChosen_17 (by decide) ?_
  refine lv_iload_n hx hb dX11_shiftChosen_18 rfl (lv_at hl 1 rfl) ?_
  refine zz_callVv S hT hB (As := [.int x9, .int (0 : Int32), .int x1]) (b := a6) (o := f_X7_shift T N s0 a6 x9 (0 : Int32) x1) (c_X7_shift l D cy T hT ad N s0 _ a6 x9 (0 : Int32) x1) (cwV 3 hts gX11_shiftChosen_X7_shift rfl rfl rfl (by decide +kernel) ⟨Nat.le_of_ble_eq_true rfl, Nat.le_of_ble_eq_true rfl⟩) (F := TX7) (NF := 3) 7 rfl (by decide) (k_X7_shift T N s0 a6 x9 (0 : Int32) x1) rfl hl.1 rfl (Nat.le_of_ble_eq_true rfl) dX11_shiftChosen_19 hq (fun s10 H locs hq hB => ?_)
  refine lv_aload_n hx hb dX11_shiftChosen_22 rfl (lv_at hl 0 rfl) ?_
  refine zz_getR S hT hB (C := RX11) (ref := "DiagramDesk") (F := TX11) (N := 5) (index := 10) 11 0 iwX11 rfl (by decide) (by decide) rfl rfl lk0 (fun _ h9 => h9) dX11_shiftChosen_23 hq (fun a11 hq => ?_)
  refine zz_getR S hT hB (C := RX2) (ref := "DiagramDesk$Diagram") (F := TX2) (N := 4) (index := 55) 2 0 iwX2 rfl (by decide) (by decide) rfl rfl lk1 (fun _ h9 => h9) dX11_shiftChosen_26 hq (fun a12 hq => ?_)
  refine lv_aload_n hx hb dX11_shiftChosen_29 rfl (lv_at hl 0 rfl) ?_
  refine zz_getR S hT hB (C := RX11) (ref := "DiagramDesk") (F := TX11) (N := 5) (index := 10) 11 0 iwX11 rfl (by decide) (by decide) rfl rfl lk0 (fun _ h9 => h9) dX11_shiftChosen_30 hq (fun a13 hq => ?_)
  refine zz_getR S hT hB (C := RX2) (ref := "DiagramDesk$Diagram") (F := TX2) (N := 4) (index := 55) 2 0 iwX2 rfl (by decide) (by decide) rfl rfl lk1 (fun _ h9 => h9) dX11_shiftChosen_33 hq (fun a14 hq => ?_)
  refine zz_get S hT hB (C := RX7) (ref := "DiagramDesk$Shapes") (F := TX7) (N := 3) (index := 108) 7 2 iwX7 rfl (by decide) (by decide) rfl rfl lk2 (fun _ h9 => h9) dX11_shiftChosen_36 hq (fun x15 hq => ?_)
  refine lv_iconst (v := 1) hx hb dX11_shiftChosen_39 (by decide) ?_
  refine lv_iload_n hx hb dX11_shiftChosen_40 rfl (lv_at hl 2 rfl) ?_
  refine zz_callVv S hT hB (As := [.int x15, .int (1 : Int32), .int x2]) (b := a12) (o := f_X7_shift T N s10 a12 x15 (1 : Int32) x2) (c_X7_shift l D cy T hT ad N s10 _ a12 x15 (1 : Int32) x2) (cwV 3 hts gX11_shiftChosen_X7_shift rfl rfl rfl (by decide +kernel) ⟨Nat.le_of_ble_eq_true rfl, Nat.le_of_ble_eq_true rfl⟩) (F := TX7) (NF := 3) 7 rfl (by decide) (k_X7_shift T N s10 a12 x15 (1 : Int32) x2) rfl hl.1 rfl (Nat.le_of_ble_eq_true rfl) dX11_shiftChosen_41 hq (fun s16 H locs hq hB => ?_)
  exact zz_vret S hB hr hlocks dX11_shiftChosen_44 hq
def f_X11_move (T : zT) (N : Nat) (s0 : zS) (a0 : Nat) (x1 : Int32) (x2 : Int32) : Option (Int32 × zS) :=
  zz1 (T.1 a0 = 11) <|
  zb2 (f_X11_isWay T N s0 x1) fun x6 s5 =>
  if x6 = 0 then (
    some ((-1 : Int32), s5))
  else (
    zb2 (f_X11_isWay T N s5 x2) fun x8 s7 =>
    if ¬ x8 = 0 then (
      (gR T s7 a0 11 0).bind fun a9 =>
      (gR T s7 a9 2 0).bind fun a10 =>
      (gI T s7 a10 7 2).bind fun x11 =>
      if ¬ x11 = 0 then (
        zb2 (f_X11_canShiftChosen T N s7 a0 x1 x2) fun x13 s12 =>
        if ¬ x13 = 0 then (
          (gR T s12 a0 11 1).bind fun a14 =>
          (gR T s12 a0 11 0).bind fun a15 =>
          (f_X5_keep T N s12 a14 a15).bind fun s16 =>
          (f_X11_shiftChosen T N s16 a0 x1 x2).bind fun s17 =>
          (gR T s17 a0 11 0).bind fun a18 =>
          (gR T s17 a18 2 1).bind fun a19 =>
          (gR T s17 a0 11 0).bind fun a20 =>
          (gR T s17 a20 2 0).bind fun a21 =>
          (gI T s17 a21 7 2).bind fun x22 =>
          zb2 (f_X1_countHalfIn T N s17 a19 x22) fun x24 s23 =>
          some (x24, s23))
        else (
          some ((-4 : Int32), s12)))
      else (
        some ((-2 : Int32), s7)))
    else (
      some ((-1 : Int32), s7)))
theorem k_X11_move (T : zT) (N : Nat) (s0 : zS) (a0 : Nat) (x1 : Int32) (x2 : Int32) : ∀ q, f_X11_move T N s0 a0 x1 x2 = some q → T.1 a0 = 11 := by
  intro q h
  unfold f_X11_move at h
  exact zz_guard h (fun h _ => h)
set_option maxHeartbeats 4000000 in
set_option maxRecDepth 100000 in
theorem c_X11_move (l : Launch) (D : va_G) (cy : Nat → ClassId) (T : zT) (hT : zok T) (ad : Nat → Nat) (N : Nat) (s0 : zS) (sz : Nat) (a0 : Nat) (x1 : Int32) (x2 : Int32) : ∀ (r0 : Int32) (σ0 : zS), f_X11_move T N s0 a0 x1 x2 = some (r0, σ0) → Met l yX11_move wsX11_move ({ frames := 5, cells := 0, slots := 0, locals := 106 }) (va_Pc [.ref (ad a0), .int x1, .int x2] (zPre D cy T ad s0 sz)) (va_Qi (fun (r2 : Int32) (σ2 : zS) => r2 = r0 ∧ σ2 = σ0) (zAt D cy T ad (zA T ad sz)) (zA T ad sz)) 0 0 (zA T ad sz) := by
  intro r0 σ0 hq
  refine Met.ofW (cc := cX11_move) (maxL := 3) (ret := (some .int)) (by decide) rfl ?_
  intro p e s m args below meth c s₁ B hml hv
  obtain ⟨hargs, hsz, hP, hK, hD0, hN⟩ := hv
  have hx := B.exec
  have hb := B.bytes
  have hr := B.returns
  have hts := atoms_spec (ws := wsX11_move) B.pre
  have hown : s.vm.findClass RX11 = some m.cls := findClass_of_methodNamed B.named
  have hlocks := B.notSynchronized
  have S : CallFix p m c cX11_move 3 s args wsX11_move RX11 := ⟨hx, hb, hml, hown, hts⟩
  subst hsz
  have hB : zB D cy T ad (zA T ad s.heap.size) s.heap s0 s.heap [] s := zz_entry hP hK hD0 hN
  obtain ⟨ls, hent, hl⟩ := zz_ent m hargs (n := 3) (Nat.le_of_ble_eq_true rfl)
  rw [hent]
  have hl : lv_has ls 3 [(0, .ref (ad a0)), (1, .int x1), (2, .int x2)] := hl
  have iwX11 : ∀ w ∈ u_ws RX11 TX11 5, w ∈ wsX11_move := by decide +kernel
  have iwX2 : ∀ w ∈ u_ws RX2 TX2 4, w ∈ wsX11_move := by decide +kernel
  have iwX7 : ∀ w ∈ u_ws RX7 TX7 3, w ∈ wsX11_move := by decide +kernel
  have lk0 : Cond.fieldLink RX11 10 "DiagramDesk" "now" "LDiagramDesk$Diagram;" ∈ wsX11_move := by decide +kernel
  have lk1 : Cond.fieldLink RX11 55 "DiagramDesk$Diagram" "shapes" "LDiagramDesk$Shapes;" ∈ wsX11_move := by decide +kernel
  have lk2 : Cond.fieldLink RX11 108 "DiagramDesk$Shapes" "chosen" "I" ∈ wsX11_move := by decide +kernel
  have lk3 : Cond.fieldLink RX11 19 "DiagramDesk" "history" "LDiagramDesk$History;" ∈ wsX11_move := by decide +kernel
  have lk4 : Cond.fieldLink RX11 89 "DiagramDesk$Diagram" "connectors" "LDiagramDesk$Connectors;" ∈ wsX11_move := by decide +kernel
  unfold f_X11_move at hq
  refine zz_guard hq (fun hk0 hq => ?_)
  refine lv_iload_n hx hb dX11_move_0 rfl (lv_at hl 1 rfl) ?_
  refine zz_callSi S hT hB (As := [.int x1]) (o := f_X11_isWay T N s0 x1) (c_X11_isWay l D cy T hT ad N s0 _ x1) (va_cwS 1 hts gX11_move_X11_isWay rfl rfl rfl (by decide +kernel) ⟨Nat.le_of_ble_eq_true rfl, Nat.le_of_ble_eq_true rfl⟩) rfl hl.1 rfl (Nat.le_of_ble_eq_true rfl) dX11_move_1 hq (fun x6 s5 H locs hq hB => ?_)
  refine zz_if_eq (tgt := 14) hx hb dX11_move_4 (by decide) hq (fun hq => ?_) (fun hq => ?_)
  · refine lv_iconst (v := -1) hx hb dX11_move_14 (by decide) ?_
    exact zz_iret S hB hr hlocks dX11_move_15 hq
  · refine lv_iload_n hx hb dX11_move_7 rfl (lv_at hl 2 rfl) ?_
    refine zz_callSi S hT hB (As := [.int x2]) (o := f_X11_isWay T N s5 x2) (c_X11_isWay l D cy T hT ad N s5 _ x2) (va_cwS 1 hts gX11_move_X11_isWay rfl rfl rfl (by decide +kernel) ⟨Nat.le_of_ble_eq_true rfl, Nat.le_of_ble_eq_true rfl⟩) rfl hl.1 rfl (Nat.le_of_ble_eq_true rfl) dX11_move_8 hq (fun x8 s7 H locs hq hB => ?_)
    refine zz_if_ne (tgt := 16) hx hb dX11_move_11 (by decide) hq (fun hq => ?_) (fun hq => ?_)
    · refine lv_aload_n hx hb dX11_move_16 rfl (lv_at hl 0 rfl) ?_
      refine zz_getR S hT hB (C := RX11) (ref := "DiagramDesk") (F := TX11) (N := 5) (index := 10) 11 0 iwX11 rfl (by decide) (by decide) rfl rfl lk0 (fun _ h9 => h9) dX11_move_17 hq (fun a9 hq => ?_)
      refine zz_getR S hT hB (C := RX2) (ref := "DiagramDesk$Diagram") (F := TX2) (N := 4) (index := 55) 2 0 iwX2 rfl (by decide) (by decide) rfl rfl lk1 (fun _ h9 => h9) dX11_move_20 hq (fun a10 hq => ?_)
      refine zz_get S hT hB (C := RX7) (ref := "DiagramDesk$Shapes") (F := TX7) (N := 3) (index := 108) 7 2 iwX7 rfl (by decide) (by decide) rfl rfl lk2 (fun _ h9 => h9) dX11_move_23 hq (fun x11 hq => ?_)
      refine zz_if_ne (tgt := 32) hx hb dX11_move_26 (by decide) hq (fun hq => ?_) (fun hq => ?_)
      · refine lv_aload_n hx hb dX11_move_32 rfl (lv_at hl 0 rfl) ?_
        refine lv_iload_n hx hb dX11_move_33 rfl (lv_at hl 1 rfl) ?_
        refine lv_iload_n hx hb dX11_move_34 rfl (lv_at hl 2 rfl) ?_
        refine zz_callVi S hT hB (As := [.int x1, .int x2]) (b := a0) (o := f_X11_canShiftChosen T N s7 a0 x1 x2) (c_X11_canShiftChosen l D cy T hT ad N s7 _ a0 x1 x2) (cwV 2 hts gX11_move_X11_canShiftChosen rfl rfl rfl (by decide +kernel) ⟨Nat.le_of_ble_eq_true rfl, Nat.le_of_ble_eq_true rfl⟩) (F := TX11) (NF := 5) 11 rfl (by decide) (k_X11_canShiftChosen T N s7 a0 x1 x2) rfl hl.1 rfl (Nat.le_of_ble_eq_true rfl) dX11_move_35 hq (fun x13 s12 H locs hq hB => ?_)
        refine zz_if_ne (tgt := 44) hx hb dX11_move_38 (by decide) hq (fun hq => ?_) (fun hq => ?_)
        · refine lv_aload_n hx hb dX11_move_44 rfl (lv_at hl 0 rfl) ?_
          refine zz_getR S hT hB (C := RX11) (ref := "DiagramDesk") (F := TX11) (N := 5) (index := 19) 11 1 iwX11 rfl (by decide) (by decide) rfl rfl lk3 (fun _ h9 => h9) dX11_move_45 hq (fun a14 hq => ?_)
          refine lv_aload_n hx hb dX11_move_48 rfl (lv_at hl 0 rfl) ?_
          refine zz_getR S hT hB (C := RX11) (ref := "DiagramDesk") (F := TX11) (N := 5) (index := 10) 11 0 iwX11 rfl (by decide) (by decide) rfl rfl lk0 (fun _ h9 => h9) dX11_move_49 hq (fun a15 hq => ?_)
          refine zz_callVv S hT hB (As := [.ref (ad a15)]) (b := a14) (o := f_X5_keep T N s12 a14 a15) (c_X5_keep l D cy T hT ad N s12 _ a14 a15) (cwV 1 hts gX11_move_X5_keep rfl rfl rfl (by decide +kernel) ⟨Nat.le_of_ble_eq_true rfl, Nat.le_of_ble_eq_true rfl⟩) (F := TX5) (NF := 2) 5 rfl (by decide) (k_X5_keep T N s12 a14 a15) rfl hl.1 rfl (Nat.le_of_ble_eq_true rfl) dX11_move_52 hq (fun s16 H locs hq hB => ?_)
          refine lv_aload_n hx hb dX11_move_55 rfl (lv_at hl 0 rfl) ?_
          refine lv_iload_n hx hb dX11_move_56 rfl (lv_at hl 1 rfl) ?_
          refine lv_iload_n hx hb dX11_move_57 rfl (lv_at hl 2 rfl) ?_
          refine zz_callVv S hT hB (As := [.int x1, .int x2]) (b := a0) (o := f_X11_shiftChosen T N s16 a0 x1 x2) (c_X11_shiftChosen l D cy T hT ad N s16 _ a0 x1 x2) (cwV 2 hts gX11_move_X11_shiftChosen rfl rfl rfl (by decide +kernel) ⟨Nat.le_of_ble_eq_true rfl, Nat.le_of_ble_eq_true rfl⟩) (F := TX11) (NF := 5) 11 rfl (by decide) (k_X11_shiftChosen T N s16 a0 x1 x2) rfl hl.1 rfl (Nat.le_of_ble_eq_true rfl) dX11_move_58 hq (fun s17 H locs hq hB => ?_)
          refine lv_aload_n hx hb dX11_move_61 rfl (lv_at hl 0 rfl) ?_
          refine zz_getR S hT hB (C := RX11) (ref := "DiagramDesk") (F := TX11) (N := 5) (index := 10) 11 0 iwX11 rfl (by decide) (by decide) rfl rfl lk0 (fun _ h9 => h9) dX11_move_62 hq (fun a18 hq => ?_)
          refine zz_getR S hT hB (C := RX2) (ref := "DiagramDesk$Diagram") (F := TX2) (N := 4) (index := 89) 2 1 iwX2 rfl (by decide) (by decide) rfl rfl lk4 (fun _ h9 => h9) dX11_move_65 hq (fun a19 hq => ?_)
          refine lv_aload_n hx hb dX11_move_68 rfl (lv_at hl 0 rfl) ?_
          refine zz_getR S hT hB (C := RX11) (ref := "DiagramDesk") (F := TX11) (N := 5) (index := 10) 11 0 iwX11 rfl (by decide) (by decide) rfl rfl lk0 (fun _ h9 => h9) dX11_move_69 hq (fun a20 hq => ?_)
          refine zz_getR S hT hB (C := RX2) (ref := "DiagramDesk$Diagram") (F := TX2) (N := 4) (index := 55) 2 0 iwX2 rfl (by decide) (by decide) rfl rfl lk1 (fun _ h9 => h9) dX11_move_72 hq (fun a21 hq => ?_)
          refine zz_get S hT hB (C := RX7) (ref := "DiagramDesk$Shapes") (F := TX7) (N := 3) (index := 108) 7 2 iwX7 rfl (by decide) (by decide) rfl rfl lk2 (fun _ h9 => h9) dX11_move_75 hq (fun x22 hq => ?_)
          refine zz_callVi S hT hB (As := [.int x22]) (b := a19) (o := f_X1_countHalfIn T N s17 a19 x22) (c_X1_countHalfIn l D cy T hT ad N s17 _ a19 x22) (cwV 1 hts gX11_move_X1_countHalfIn rfl rfl rfl (by decide +kernel) ⟨Nat.le_of_ble_eq_true rfl, Nat.le_of_ble_eq_true rfl⟩) (F := TX1) (NF := 2) 1 rfl (by decide) (k_X1_countHalfIn T N s17 a19 x22) rfl hl.1 rfl (Nat.le_of_ble_eq_true rfl) dX11_move_78 hq (fun x24 s23 H locs hq hB => ?_)
          exact zz_iret S hB hr hlocks dX11_move_81 hq
        · refine lv_bipush (v := -4) hx hb dX11_move_41 (by decide) ?_
          exact zz_iret S hB hr hlocks dX11_move_43 hq
      · refine lv_bipush (v := -2) hx hb dX11_move_29 (by decide) ?_
        exact zz_iret S hB hr hlocks dX11_move_31 hq
    · refine lv_iconst (v := -1) hx hb dX11_move_14 (by decide) ?_
      exact zz_iret S hB hr hlocks dX11_move_15 hq
def f_X11_drag (T : zT) (N : Nat) (s0 : zS) (a0 : Nat) (x1 : Int32) (x2 : Int32) : Option (Int32 × zS) :=
  zz1 (T.1 a0 = 11) <|
  zb2 (f_X11_isWay T N s0 x1) fun x6 s5 =>
  if x6 = 0 then (
    some ((-1 : Int32), s5))
  else (
    zb2 (f_X11_isWay T N s5 x2) fun x8 s7 =>
    if ¬ x8 = 0 then (
      (gR T s7 a0 11 0).bind fun a9 =>
      (gR T s7 a9 2 0).bind fun a10 =>
      (gI T s7 a10 7 2).bind fun x11 =>
      if ¬ x11 = 0 then (
        (gR T s7 a0 11 4).bind fun a12 =>
        (gR T s7 a0 11 0).bind fun a13 =>
        (f_X8_search T N s7 a12 a13 (0 : Int32) x1).bind fun s14 =>
        (gR T s14 a0 11 4).bind fun a15 =>
        (gI T s14 a15 8 0).bind fun x16 =>
        (gR T s14 a0 11 4).bind fun a17 =>
        (gI T s14 a17 8 1).bind fun x18 =>
        zn (x1 + x18) fun x19 =>
        (gR T s14 a0 11 4).bind fun a20 =>
        (gR T s14 a0 11 0).bind fun a21 =>
        (f_X8_search T N s14 a20 a21 (1 : Int32) x2).bind fun s22 =>
        (gR T s22 a0 11 4).bind fun a23 =>
        (gI T s22 a23 8 0).bind fun x24 =>
        (gR T s22 a0 11 4).bind fun a25 =>
        (gI T s22 a25 8 1).bind fun x26 =>
        zn (x2 + x26) fun x27 =>
        zb2 (f_X11_canShiftChosen T N s22 a0 x19 x27) fun x29 s28 =>
        if ¬ x29 = 0 then (
          (gR T s28 a0 11 1).bind fun a30 =>
          (gR T s28 a0 11 0).bind fun a31 =>
          (f_X5_keep T N s28 a30 a31).bind fun s32 =>
          (f_X11_shiftChosen T N s32 a0 x19 x27).bind fun s33 =>
          some (x16 + ((10 : Int32) * x24), s33))
        else (
          some ((-4 : Int32), s28)))
      else (
        some ((-2 : Int32), s7)))
    else (
      some ((-1 : Int32), s7)))
theorem k_X11_drag (T : zT) (N : Nat) (s0 : zS) (a0 : Nat) (x1 : Int32) (x2 : Int32) : ∀ q, f_X11_drag T N s0 a0 x1 x2 = some q → T.1 a0 = 11 := by
  intro q h
  unfold f_X11_drag at h
  exact zz_guard h (fun h _ => h)
set_option maxHeartbeats 4000000 in
set_option maxRecDepth 100000 in
theorem c_X11_drag (l : Launch) (D : va_G) (cy : Nat → ClassId) (T : zT) (hT : zok T) (ad : Nat → Nat) (N : Nat) (s0 : zS) (sz : Nat) (a0 : Nat) (x1 : Int32) (x2 : Int32) : ∀ (r0 : Int32) (σ0 : zS), f_X11_drag T N s0 a0 x1 x2 = some (r0, σ0) → Met l yX11_drag wsX11_drag ({ frames := 5, cells := 0, slots := 0, locals := 121 }) (va_Pc [.ref (ad a0), .int x1, .int x2] (zPre D cy T ad s0 sz)) (va_Qi (fun (r2 : Int32) (σ2 : zS) => r2 = r0 ∧ σ2 = σ0) (zAt D cy T ad (zA T ad sz)) (zA T ad sz)) 0 0 (zA T ad sz) := by
  intro r0 σ0 hq
  refine Met.ofW (cc := cX11_drag) (maxL := 7) (ret := (some .int)) (by decide) rfl ?_
  intro p e s m args below meth c s₁ B hml hv
  obtain ⟨hargs, hsz, hP, hK, hD0, hN⟩ := hv
  have hx := B.exec
  have hb := B.bytes
  have hr := B.returns
  have hts := atoms_spec (ws := wsX11_drag) B.pre
  have hown : s.vm.findClass RX11 = some m.cls := findClass_of_methodNamed B.named
  have hlocks := B.notSynchronized
  have S : CallFix p m c cX11_drag 7 s args wsX11_drag RX11 := ⟨hx, hb, hml, hown, hts⟩
  subst hsz
  have hB : zB D cy T ad (zA T ad s.heap.size) s.heap s0 s.heap [] s := zz_entry hP hK hD0 hN
  obtain ⟨ls, hent, hl⟩ := zz_ent m hargs (n := 7) (Nat.le_of_ble_eq_true rfl)
  rw [hent]
  have hl : lv_has ls 7 [(0, .ref (ad a0)), (1, .int x1), (2, .int x2)] := hl
  have iwX11 : ∀ w ∈ u_ws RX11 TX11 5, w ∈ wsX11_drag := by decide +kernel
  have iwX2 : ∀ w ∈ u_ws RX2 TX2 4, w ∈ wsX11_drag := by decide +kernel
  have iwX7 : ∀ w ∈ u_ws RX7 TX7 3, w ∈ wsX11_drag := by decide +kernel
  have iwX8 : ∀ w ∈ u_ws RX8 TX8 3, w ∈ wsX11_drag := by decide +kernel
  have lk0 : Cond.fieldLink RX11 10 "DiagramDesk" "now" "LDiagramDesk$Diagram;" ∈ wsX11_drag := by decide +kernel
  have lk1 : Cond.fieldLink RX11 55 "DiagramDesk$Diagram" "shapes" "LDiagramDesk$Shapes;" ∈ wsX11_drag := by decide +kernel
  have lk2 : Cond.fieldLink RX11 108 "DiagramDesk$Shapes" "chosen" "I" ∈ wsX11_drag := by decide +kernel
  have lk3 : Cond.fieldLink RX11 40 "DiagramDesk" "snap" "LDiagramDesk$Snap;" ∈ wsX11_drag := by decide +kernel
  have lk4 : Cond.fieldLink RX11 224 "DiagramDesk$Snap" "aim" "I" ∈ wsX11_drag := by decide +kernel
  have lk5 : Cond.fieldLink RX11 227 "DiagramDesk$Snap" "correction" "I" ∈ wsX11_drag := by decide +kernel
  have lk6 : Cond.fieldLink RX11 19 "DiagramDesk" "history" "LDiagramDesk$History;" ∈ wsX11_drag := by decide +kernel
  unfold f_X11_drag at hq
  refine zz_guard hq (fun hk0 hq => ?_)
  refine lv_iload_n hx hb dX11_drag_0 rfl (lv_at hl 1 rfl) ?_
  refine zz_callSi S hT hB (As := [.int x1]) (o := f_X11_isWay T N s0 x1) (c_X11_isWay l D cy T hT ad N s0 _ x1) (va_cwS 1 hts gX11_drag_X11_isWay rfl rfl rfl (by decide +kernel) ⟨Nat.le_of_ble_eq_true rfl, Nat.le_of_ble_eq_true rfl⟩) rfl hl.1 rfl (Nat.le_of_ble_eq_true rfl) dX11_drag_1 hq (fun x6 s5 H locs hq hB => ?_)
  refine zz_if_eq (tgt := 14) hx hb dX11_drag_4 (by decide) hq (fun hq => ?_) (fun hq => ?_)
  · refine lv_iconst (v := -1) hx hb dX11_drag_14 (by decide) ?_
    exact zz_iret S hB hr hlocks dX11_drag_15 hq
  · refine lv_iload_n hx hb dX11_drag_7 rfl (lv_at hl 2 rfl) ?_
    refine zz_callSi S hT hB (As := [.int x2]) (o := f_X11_isWay T N s5 x2) (c_X11_isWay l D cy T hT ad N s5 _ x2) (va_cwS 1 hts gX11_drag_X11_isWay rfl rfl rfl (by decide +kernel) ⟨Nat.le_of_ble_eq_true rfl, Nat.le_of_ble_eq_true rfl⟩) rfl hl.1 rfl (Nat.le_of_ble_eq_true rfl) dX11_drag_8 hq (fun x8 s7 H locs hq hB => ?_)
    refine zz_if_ne (tgt := 16) hx hb dX11_drag_11 (by decide) hq (fun hq => ?_) (fun hq => ?_)
    · refine lv_aload_n hx hb dX11_drag_16 rfl (lv_at hl 0 rfl) ?_
      refine zz_getR S hT hB (C := RX11) (ref := "DiagramDesk") (F := TX11) (N := 5) (index := 10) 11 0 iwX11 rfl (by decide) (by decide) rfl rfl lk0 (fun _ h9 => h9) dX11_drag_17 hq (fun a9 hq => ?_)
      refine zz_getR S hT hB (C := RX2) (ref := "DiagramDesk$Diagram") (F := TX2) (N := 4) (index := 55) 2 0 iwX2 rfl (by decide) (by decide) rfl rfl lk1 (fun _ h9 => h9) dX11_drag_20 hq (fun a10 hq => ?_)
      refine zz_get S hT hB (C := RX7) (ref := "DiagramDesk$Shapes") (F := TX7) (N := 3) (index := 108) 7 2 iwX7 rfl (by decide) (by decide) rfl rfl lk2 (fun _ h9 => h9) dX11_drag_23 hq (fun x11 hq => ?_)
      refine zz_if_ne (tgt := 32) hx hb dX11_drag_26 (by decide) hq (fun hq => ?_) (fun hq => ?_)
      · refine lv_aload_n hx hb dX11_drag_32 rfl (lv_at hl 0 rfl) ?_
        refine zz_getR S hT hB (C := RX11) (ref := "DiagramDesk") (F := TX11) (N := 5) (index := 40) 11 4 iwX11 rfl (by decide) (by decide) rfl rfl lk3 (fun _ h9 => h9) dX11_drag_33 hq (fun a12 hq => ?_)
        refine lv_aload_n hx hb dX11_drag_36 rfl (lv_at hl 0 rfl) ?_
        refine zz_getR S hT hB (C := RX11) (ref := "DiagramDesk") (F := TX11) (N := 5) (index := 10) 11 0 iwX11 rfl (by decide) (by decide) rfl rfl lk0 (fun _ h9 => h9) dX11_drag_37 hq (fun a13 hq => ?_)
        refine lv_iconst (v := 0) hx hb dX11_drag_40 (by decide) ?_
        refine lv_iload_n hx hb dX11_drag_41 rfl (lv_at hl 1 rfl) ?_
        refine zz_callVv S hT hB (As := [.ref (ad a13), .int (0 : Int32), .int x1]) (b := a12) (o := f_X8_search T N s7 a12 a13 (0 : Int32) x1) (c_X8_search l D cy T hT ad N s7 _ a12 a13 (0 : Int32) x1) (cwV 3 hts gX11_drag_X8_search rfl rfl rfl (by decide +kernel) ⟨Nat.le_of_ble_eq_true rfl, Nat.le_of_ble_eq_true rfl⟩) (F := TX8) (NF := 3) 8 rfl (by decide) (k_X8_search T N s7 a12 a13 (0 : Int32) x1) rfl hl.1 rfl (Nat.le_of_ble_eq_true rfl) dX11_drag_42 hq (fun s14 H locs hq hB => ?_)
        refine lv_aload_n hx hb dX11_drag_45 rfl (lv_at hl 0 rfl) ?_
        refine zz_getR S hT hB (C := RX11) (ref := "DiagramDesk") (F := TX11) (N := 5) (index := 40) 11 4 iwX11 rfl (by decide) (by decide) rfl rfl lk3 (fun _ h9 => h9) dX11_drag_46 hq (fun a15 hq => ?_)
        refine zz_get S hT hB (C := RX8) (ref := "DiagramDesk$Snap") (F := TX8) (N := 3) (index := 224) 8 0 iwX8 rfl (by decide) (by decide) rfl rfl lk4 (fun _ h9 => h9) dX11_drag_49 hq (fun x16 hq => ?_)
        refine lv_istore_n (lv' := [(3, .int x16), (0, .ref (ad a0)), (1, .int x1), (2, .int x2)]) hx hb dX11_drag_52 rfl hl (by decide) rfl (fun ls hl => ?_)
        refine lv_iload_n hx hb dX11_drag_53 rfl (lv_at hl 2 rfl) ?_
        refine lv_aload_n hx hb dX11_drag_54 rfl (lv_at hl 1 rfl) ?_
        refine zz_getR S hT hB (C := RX11) (ref := "DiagramDesk") (F := TX11) (N := 5) (index := 40) 11 4 iwX11 rfl (by decide) (by decide) rfl rfl lk3 (fun _ h9 => h9) dX11_drag_55 hq (fun a17 hq => ?_)
        refine zz_get S hT hB (C := RX8) (ref := "DiagramDesk$Snap") (F := TX8) (N := 3) (index := 227) 8 1 iwX8 rfl (by decide) (by decide) rfl rfl lk5 (fun _ h9 => h9) dX11_drag_58 hq (fun x18 hq => ?_)
        refine lv_iadd hx hb dX11_drag_61 ?_
        refine zz_nmI hq (fun x19 hq => ?_)
        refine lv_istore (lv' := [(4, .int x19), (3, .int x16), (0, .ref (ad a0)), (1, .int x1), (2, .int x2)]) hx hb dX11_drag_62 hl (by decide) rfl (fun ls hl => ?_)
        refine lv_aload_n hx hb dX11_drag_64 rfl (lv_at hl 2 rfl) ?_
        refine zz_getR S hT hB (C := RX11) (ref := "DiagramDesk") (F := TX11) (N := 5) (index := 40) 11 4 iwX11 rfl (by decide) (by decide) rfl rfl lk3 (fun _ h9 => h9) dX11_drag_65 hq (fun a20 hq => ?_)
        refine lv_aload_n hx hb dX11_drag_68 rfl (lv_at hl 2 rfl) ?_
        refine zz_getR S hT hB (C := RX11) (ref := "DiagramDesk") (F := TX11) (N := 5) (index := 10) 11 0 iwX11 rfl (by decide) (by decide) rfl rfl lk0 (fun _ h9 => h9) dX11_drag_69 hq (fun a21 hq => ?_)
        refine lv_iconst (v := 1) hx hb dX11_drag_72 (by decide) ?_
        refine lv_iload_n hx hb dX11_drag_73 rfl (lv_at hl 4 rfl) ?_
        refine zz_callVv S hT hB (As := [.ref (ad a21), .int (1 : Int32), .int x2]) (b := a20) (o := f_X8_search T N s14 a20 a21 (1 : Int32) x2) (c_X8_search l D cy T hT ad N s14 _ a20 a21 (1 : Int32) x2) (cwV 3 hts gX11_drag_X8_search rfl rfl rfl (by decide +kernel) ⟨Nat.le_of_ble_eq_true rfl, Nat.le_of_ble_eq_true rfl⟩) (F := TX8) (NF := 3) 8 rfl (by decide) (k_X8_search T N s14 a20 a21 (1 : Int32) x2) rfl hl.1 rfl (Nat.le_of_ble_eq_true rfl) dX11_drag_74 hq (fun s22 H locs hq hB => ?_)
        refine lv_aload_n hx hb dX11_drag_77 rfl (lv_at hl 2 rfl) ?_
        refine zz_getR S hT hB (C := RX11) (ref := "DiagramDesk") (F := TX11) (N := 5) (index := 40) 11 4 iwX11 rfl (by decide) (by decide) rfl rfl lk3 (fun _ h9 => h9) dX11_drag_78 hq (fun a23 hq => ?_)
        refine zz_get S hT hB (C := RX8) (ref := "DiagramDesk$Snap") (F := TX8) (N := 3) (index := 224) 8 0 iwX8 rfl (by decide) (by decide) rfl rfl lk4 (fun _ h9 => h9) dX11_drag_81 hq (fun x24 hq => ?_)
        refine lv_istore (lv' := [(5, .int x24), (4, .int x19), (3, .int x16), (0, .ref (ad a0)), (1, .int x1), (2, .int x2)]) hx hb dX11_drag_84 hl (by decide) rfl (fun ls hl => ?_)
        refine lv_iload_n hx hb dX11_drag_86 rfl (lv_at hl 5 rfl) ?_
        refine lv_aload_n hx hb dX11_drag_87 rfl (lv_at hl 3 rfl) ?_
        refine zz_getR S hT hB (C := RX11) (ref := "DiagramDesk") (F := TX11) (N := 5) (index := 40) 11 4 iwX11 rfl (by decide) (by decide) rfl rfl lk3 (fun _ h9 => h9) dX11_drag_88 hq (fun a25 hq => ?_)
        refine zz_get S hT hB (C := RX8) (ref := "DiagramDesk$Snap") (F := TX8) (N := 3) (index := 227) 8 1 iwX8 rfl (by decide) (by decide) rfl rfl lk5 (fun _ h9 => h9) dX11_drag_91 hq (fun x26 hq => ?_)
        refine lv_iadd hx hb dX11_drag_94 ?_
        refine zz_nmI hq (fun x27 hq => ?_)
        refine lv_istore (lv' := [(6, .int x27), (5, .int x24), (4, .int x19), (3, .int x16), (0, .ref (ad a0)), (1, .int x1), (2, .int x2)]) hx hb dX11_drag_95 hl (by decide) rfl (fun ls hl => ?_)
        refine lv_aload_n hx hb dX11_drag_97 rfl (lv_at hl 4 rfl) ?_
        refine lv_iload hx hb dX11_drag_98 (lv_at hl 2 rfl) ?_
        refine lv_iload hx hb dX11_drag_100 (lv_at hl 0 rfl) ?_
        refine zz_callVi S hT hB (As := [.int x19, .int x27]) (b := a0) (o := f_X11_canShiftChosen T N s22 a0 x19 x27) (c_X11_canShiftChosen l D cy T hT ad N s22 _ a0 x19 x27) (cwV 2 hts gX11_drag_X11_canShiftChosen rfl rfl rfl (by decide +kernel) ⟨Nat.le_of_ble_eq_true rfl, Nat.le_of_ble_eq_true rfl⟩) (F := TX11) (NF := 5) 11 rfl (by decide) (k_X11_canShiftChosen T N s22 a0 x19 x27) rfl hl.1 rfl (Nat.le_of_ble_eq_true rfl) dX11_drag_102 hq (fun x29 s28 H locs hq hB => ?_)
        refine zz_if_ne (tgt := 111) hx hb dX11_drag_105 (by decide) hq (fun hq => ?_) (fun hq => ?_)
        · refine lv_aload_n hx hb dX11_drag_111 rfl (lv_at hl 4 rfl) ?_
          refine zz_getR S hT hB (C := RX11) (ref := "DiagramDesk") (F := TX11) (N := 5) (index := 19) 11 1 iwX11 rfl (by decide) (by decide) rfl rfl lk6 (fun _ h9 => h9) dX11_drag_112 hq (fun a30 hq => ?_)
          refine lv_aload_n hx hb dX11_drag_115 rfl (lv_at hl 4 rfl) ?_
          refine zz_getR S hT hB (C := RX11) (ref := "DiagramDesk") (F := TX11) (N := 5) (index := 10) 11 0 iwX11 rfl (by decide) (by decide) rfl rfl lk0 (fun _ h9 => h9) dX11_drag_116 hq (fun a31 hq => ?_)
          refine zz_callVv S hT hB (As := [.ref (ad a31)]) (b := a30) (o := f_X5_keep T N s28 a30 a31) (c_X5_keep l D cy T hT ad N s28 _ a30 a31) (cwV 1 hts gX11_drag_X5_keep rfl rfl rfl (by decide +kernel) ⟨Nat.le_of_ble_eq_true rfl, Nat.le_of_ble_eq_true rfl⟩) (F := TX5) (NF := 2) 5 rfl (by decide) (k_X5_keep T N s28 a30 a31) rfl hl.1 rfl (Nat.le_of_ble_eq_true rfl) dX11_drag_119 hq (fun s32 H locs hq hB => ?_)
          refine lv_aload_n hx hb dX11_drag_122 rfl (lv_at hl 4 rfl) ?_
          refine lv_iload hx hb dX11_drag_123 (lv_at hl 2 rfl) ?_
          refine lv_iload hx hb dX11_drag_125 (lv_at hl 0 rfl) ?_
          refine zz_callVv S hT hB (As := [.int x19, .int x27]) (b := a0) (o := f_X11_shiftChosen T N s32 a0 x19 x27) (c_X11_shiftChosen l D cy T hT ad N s32 _ a0 x19 x27) (cwV 2 hts gX11_drag_X11_shiftChosen rfl rfl rfl (by decide +kernel) ⟨Nat.le_of_ble_eq_true rfl, Nat.le_of_ble_eq_true rfl⟩) (F := TX11) (NF := 5) 11 rfl (by decide) (k_X11_shiftChosen T N s32 a0 x19 x27) rfl hl.1 rfl (Nat.le_of_ble_eq_true rfl) dX11_drag_127 hq (fun s33 H locs hq hB => ?_)
          refine lv_iload_n hx hb dX11_drag_130 rfl (lv_at hl 3 rfl) ?_
          refine lv_bipush (v := 10) hx hb dX11_drag_131 (by decide) ?_
          refine lv_iload hx hb dX11_drag_133 (lv_at hl 1 rfl) ?_
          refine lv_imul hx hb dX11_drag_135 ?_
          refine lv_iadd hx hb dX11_drag_136 ?_
          exact zz_iret S hB hr hlocks dX11_drag_137 hq
        · refine lv_bipush (v := -4) hx hb dX11_drag_108 (by decide) ?_
          exact zz_iret S hB hr hlocks dX11_drag_110 hq
      · refine lv_bipush (v := -2) hx hb dX11_drag_29 (by decide) ?_
        exact zz_iret S hB hr hlocks dX11_drag_31 hq
    · refine lv_iconst (v := -1) hx hb dX11_drag_14 (by decide) ?_
      exact zz_iret S hB hr hlocks dX11_drag_15 hq
def f_X11_correction_J55 (T : zT) (N : Nat) (a0 : Nat) (x3 : Int32) (s10 : zS) (a15 : Nat) (a16 : Nat) (x17 : Int32) : Option (Int32 × zS) :=
  (f_X8_search T N s10 a15 a16 x3 x17).bind fun s18 =>
  (gR T s18 a0 11 4).bind fun a19 =>
  (gI T s18 a19 8 1).bind fun x20 =>
  some (x20, s18)
def f_X11_correction (T : zT) (N : Nat) (s0 : zS) (a0 : Nat) (x1 : Int32) (x2 : Int32) (x3 : Int32) : Option (Int32 × zS) :=
  zz1 (T.1 a0 = 11) <|
  zb2 (f_X11_isWay T N s0 x1) fun x7 s6 =>
  if x7 = 0 then (
    some ((-1000000 : Int32), s6))
  else (
    zb2 (f_X11_isWay T N s6 x2) fun x9 s8 =>
    if x9 = 0 then (
      some ((-1000000 : Int32), s8))
    else (
      zb2 (f_X11_isAxis T N s8 x3) fun x11 s10 =>
      if x11 = 0 then (
        some ((-1000000 : Int32), s10))
      else (
        (gR T s10 a0 11 0).bind fun a12 =>
        (gR T s10 a12 2 0).bind fun a13 =>
        (gI T s10 a13 7 2).bind fun x14 =>
        if ¬ x14 = 0 then (
          (gR T s10 a0 11 4).bind fun a15 =>
          (gR T s10 a0 11 0).bind fun a16 =>
          if ¬ x3 = 0 then (
            f_X11_correction_J55 T N a0 x3 s10 a15 a16 x2)
          else (
            f_X11_correction_J55 T N a0 x3 s10 a15 a16 x1))
        else (
          some ((-1000000 : Int32), s10)))))
theorem k_X11_correction (T : zT) (N : Nat) (s0 : zS) (a0 : Nat) (x1 : Int32) (x2 : Int32) (x3 : Int32) : ∀ q, f_X11_correction T N s0 a0 x1 x2 x3 = some q → T.1 a0 = 11 := by
  intro q h
  unfold f_X11_correction at h
  exact zz_guard h (fun h _ => h)
set_option maxHeartbeats 4000000 in
set_option maxRecDepth 100000 in
theorem c_X11_correction (l : Launch) (D : va_G) (cy : Nat → ClassId) (T : zT) (hT : zok T) (ad : Nat → Nat) (N : Nat) (s0 : zS) (sz : Nat) (a0 : Nat) (x1 : Int32) (x2 : Int32) (x3 : Int32) : ∀ (r0 : Int32) (σ0 : zS), f_X11_correction T N s0 a0 x1 x2 x3 = some (r0, σ0) → Met l yX11_correction wsX11_correction ({ frames := 5, cells := 0, slots := 0, locals := 121 }) (va_Pc [.ref (ad a0), .int x1, .int x2, .int x3] (zPre D cy T ad s0 sz)) (va_Qi (fun (r2 : Int32) (σ2 : zS) => r2 = r0 ∧ σ2 = σ0) (zAt D cy T ad (zA T ad sz)) (zA T ad sz)) 0 0 (zA T ad sz) := by
  intro r0 σ0 hq
  refine Met.ofW (cc := cX11_correction) (maxL := 4) (ret := (some .int)) (by decide) rfl ?_
  intro p e s m args below meth c s₁ B hml hv
  obtain ⟨hargs, hsz, hP, hK, hD0, hN⟩ := hv
  have hx := B.exec
  have hb := B.bytes
  have hr := B.returns
  have hts := atoms_spec (ws := wsX11_correction) B.pre
  have hown : s.vm.findClass RX11 = some m.cls := findClass_of_methodNamed B.named
  have hlocks := B.notSynchronized
  have S : CallFix p m c cX11_correction 4 s args wsX11_correction RX11 := ⟨hx, hb, hml, hown, hts⟩
  subst hsz
  have hB : zB D cy T ad (zA T ad s.heap.size) s.heap s0 s.heap [] s := zz_entry hP hK hD0 hN
  obtain ⟨ls, hent, hl⟩ := zz_ent m hargs (n := 4) (Nat.le_of_ble_eq_true rfl)
  rw [hent]
  have hl : lv_has ls 4 [(0, .ref (ad a0)), (1, .int x1), (2, .int x2), (3, .int x3)] := hl
  have iwX11 : ∀ w ∈ u_ws RX11 TX11 5, w ∈ wsX11_correction := by decide +kernel
  have iwX2 : ∀ w ∈ u_ws RX2 TX2 4, w ∈ wsX11_correction := by decide +kernel
  have iwX7 : ∀ w ∈ u_ws RX7 TX7 3, w ∈ wsX11_correction := by decide +kernel
  have iwX8 : ∀ w ∈ u_ws RX8 TX8 3, w ∈ wsX11_correction := by decide +kernel
  have lk0 : Cond.constant RX11 98 (-1000000) ∈ wsX11_correction := by decide +kernel
  have lk1 : Cond.fieldLink RX11 10 "DiagramDesk" "now" "LDiagramDesk$Diagram;" ∈ wsX11_correction := by decide +kernel
  have lk2 : Cond.fieldLink RX11 55 "DiagramDesk$Diagram" "shapes" "LDiagramDesk$Shapes;" ∈ wsX11_correction := by decide +kernel
  have lk3 : Cond.fieldLink RX11 108 "DiagramDesk$Shapes" "chosen" "I" ∈ wsX11_correction := by decide +kernel
  have lk4 : Cond.fieldLink RX11 40 "DiagramDesk" "snap" "LDiagramDesk$Snap;" ∈ wsX11_correction := by decide +kernel
  have lk5 : Cond.fieldLink RX11 227 "DiagramDesk$Snap" "correction" "I" ∈ wsX11_correction := by decide +kernel
  unfold f_X11_correction at hq
  refine zz_guard hq (fun hk0 hq => ?_)
  refine lv_iload_n hx hb dX11_correction_0 rfl (lv_at hl 1 rfl) ?_
  refine zz_callSi S hT hB (As := [.int x1]) (o := f_X11_isWay T N s0 x1) (c_X11_isWay l D cy T hT ad N s0 _ x1) (va_cwS 1 hts gX11_correction_X11_isWay rfl rfl rfl (by decide +kernel) ⟨Nat.le_of_ble_eq_true rfl, Nat.le_of_ble_eq_true rfl⟩) rfl hl.1 rfl (Nat.le_of_ble_eq_true rfl) dX11_correction_1 hq (fun x7 s6 H locs hq hB => ?_)
  refine zz_if_eq (tgt := 34) hx hb dX11_correction_4 (by decide) hq (fun hq => ?_) (fun hq => ?_)
  · refine lv_ldc (v := -1000000) hx hb hown (hts _ lk0) dX11_correction_34 ?_
    exact zz_iret S hB hr hlocks dX11_correction_36 hq
  · refine lv_iload_n hx hb dX11_correction_7 rfl (lv_at hl 2 rfl) ?_
    refine zz_callSi S hT hB (As := [.int x2]) (o := f_X11_isWay T N s6 x2) (c_X11_isWay l D cy T hT ad N s6 _ x2) (va_cwS 1 hts gX11_correction_X11_isWay rfl rfl rfl (by decide +kernel) ⟨Nat.le_of_ble_eq_true rfl, Nat.le_of_ble_eq_true rfl⟩) rfl hl.1 rfl (Nat.le_of_ble_eq_true rfl) dX11_correction_8 hq (fun x9 s8 H locs hq hB => ?_)
    refine zz_if_eq (tgt := 34) hx hb dX11_correction_11 (by decide) hq (fun hq => ?_) (fun hq => ?_)
    · refine lv_ldc (v := -1000000) hx hb hown (hts _ lk0) dX11_correction_34 ?_
      exact zz_iret S hB hr hlocks dX11_correction_36 hq
    · refine lv_iload_n hx hb dX11_correction_14 rfl (lv_at hl 3 rfl) ?_
      refine zz_callSi S hT hB (As := [.int x3]) (o := f_X11_isAxis T N s8 x3) (c_X11_isAxis l D cy T hT ad N s8 _ x3) (va_cwS 1 hts gX11_correction_X11_isAxis rfl rfl rfl (by decide +kernel) ⟨Nat.le_of_ble_eq_true rfl, Nat.le_of_ble_eq_true rfl⟩) rfl hl.1 rfl (Nat.le_of_ble_eq_true rfl) dX11_correction_15 hq (fun x11 s10 H locs hq hB => ?_)
      refine zz_if_eq (tgt := 34) hx hb dX11_correction_18 (by decide) hq (fun hq => ?_) (fun hq => ?_)
      · refine lv_ldc (v := -1000000) hx hb hown (hts _ lk0) dX11_correction_34 ?_
        exact zz_iret S hB hr hlocks dX11_correction_36 hq
      · refine lv_aload_n hx hb dX11_correction_21 rfl (lv_at hl 0 rfl) ?_
        refine zz_getR S hT hB (C := RX11) (ref := "DiagramDesk") (F := TX11) (N := 5) (index := 10) 11 0 iwX11 rfl (by decide) (by decide) rfl rfl lk1 (fun _ h9 => h9) dX11_correction_22 hq (fun a12 hq => ?_)
        refine zz_getR S hT hB (C := RX2) (ref := "DiagramDesk$Diagram") (F := TX2) (N := 4) (index := 55) 2 0 iwX2 rfl (by decide) (by decide) rfl rfl lk2 (fun _ h9 => h9) dX11_correction_25 hq (fun a13 hq => ?_)
        refine zz_get S hT hB (C := RX7) (ref := "DiagramDesk$Shapes") (F := TX7) (N := 3) (index := 108) 7 2 iwX7 rfl (by decide) (by decide) rfl rfl lk3 (fun _ h9 => h9) dX11_correction_28 hq (fun x14 hq => ?_)
        refine zz_if_ne (tgt := 37) hx hb dX11_correction_31 (by decide) hq (fun hq => ?_) (fun hq => ?_)
        · refine lv_aload_n hx hb dX11_correction_37 rfl (lv_at hl 0 rfl) ?_
          refine zz_getR S hT hB (C := RX11) (ref := "DiagramDesk") (F := TX11) (N := 5) (index := 40) 11 4 iwX11 rfl (by decide) (by decide) rfl rfl lk4 (fun _ h9 => h9) dX11_correction_38 hq (fun a15 hq => ?_)
          refine lv_aload_n hx hb dX11_correction_41 rfl (lv_at hl 0 rfl) ?_
          refine zz_getR S hT hB (C := RX11) (ref := "DiagramDesk") (F := TX11) (N := 5) (index := 10) 11 0 iwX11 rfl (by decide) (by decide) rfl rfl lk1 (fun _ h9 => h9) dX11_correction_42 hq (fun a16 hq => ?_)
          refine lv_iload_n hx hb dX11_correction_45 rfl (lv_at hl 3 rfl) ?_
          refine lv_iload_n hx hb dX11_correction_46 rfl (lv_at hl 3 rfl) ?_
          have J55 : ∀ (x17 : Int32) (H : Heap) (locs : List Loc) (ls : Array Slot), f_X11_correction_J55 T N a0 x3 s10 a15 a16 x17 = some (r0, σ0) → zB D cy T ad (zA T ad s.heap.size) s.heap s10 H locs s → lv_has ls 4 [(0, .ref (ad a0))] → W p l e (headSpec wsX11_correction ({ frames := 5, cells := 0, slots := 0, locals := 121 } : Room)).room s m args below meth c H locs 0 0 (MQ below (va_Qi (fun (r2 : Int32) (σ2 : zS) => r2 = r0 ∧ σ2 = σ0) (zAt D cy T ad (zA T ad s.heap.size)) (zA T ad s.heap.size)) args s 0 0 (zA T ad s.heap.size)) (F0 m 55 ls [.int x17, .int x3, .ref (ad a16), .ref (ad a15)]) := by
            intro x17 H locs ls hq hB hl
            unfold f_X11_correction_J55 at hq
            refine zz_callVv S hT hB (As := [.ref (ad a16), .int x3, .int x17]) (b := a15) (o := f_X8_search T N s10 a15 a16 x3 x17) (c_X8_search l D cy T hT ad N s10 _ a15 a16 x3 x17) (cwV 3 hts gX11_correction_X8_search rfl rfl rfl (by decide +kernel) ⟨Nat.le_of_ble_eq_true rfl, Nat.le_of_ble_eq_true rfl⟩) (F := TX8) (NF := 3) 8 rfl (by decide) (k_X8_search T N s10 a15 a16 x3 x17) rfl hl.1 rfl (Nat.le_of_ble_eq_true rfl) dX11_correction_55 hq (fun s18 H locs hq hB => ?_)
            refine lv_aload_n hx hb dX11_correction_58 rfl (lv_at hl 0 rfl) ?_
            refine zz_getR S hT hB (C := RX11) (ref := "DiagramDesk") (F := TX11) (N := 5) (index := 40) 11 4 iwX11 rfl (by decide) (by decide) rfl rfl lk4 (fun _ h9 => h9) dX11_correction_59 hq (fun a19 hq => ?_)
            refine zz_get S hT hB (C := RX8) (ref := "DiagramDesk$Snap") (F := TX8) (N := 3) (index := 227) 8 1 iwX8 rfl (by decide) (by decide) rfl rfl lk5 (fun _ h9 => h9) dX11_correction_62 hq (fun x20 hq => ?_)
            exact zz_iret S hB hr hlocks dX11_correction_65 hq
          refine zz_if_ne (tgt := 54) hx hb dX11_correction_47 (by decide) hq (fun hq => ?_) (fun hq => ?_)
          · refine lv_iload_n hx hb dX11_correction_54 rfl (lv_at hl 2 rfl) ?_
            exact J55 x2 _ _ _ hq hB (lv_sub hl [0] rfl)
          · refine lv_iload_n hx hb dX11_correction_50 rfl (lv_at hl 1 rfl) ?_
            refine lv_goto (tgt := 55) hx hb dX11_correction_51 (by decide) ?_
            exact J55 x1 _ _ _ hq hB (lv_sub hl [0] rfl)
        · refine lv_ldc (v := -1000000) hx hb hown (hts _ lk0) dX11_correction_34 ?_
          exact zz_iret S hB hr hlocks dX11_correction_36 hq
def f_X11_align_J70 (T : zT) (N : Nat) (a0 : Nat) (s8 : zS) (x11 : Int32) (a12 : Nat) (a14 : Nat) (x15 : Int32) : Option (Int32 × zS) :=
  (f_X10_planAlignment T N s8 a12 a14 x11 x15).bind fun s16 =>
  (gR T s16 a0 11 3).bind fun a17 =>
  (gR T s16 a0 11 0).bind fun a18 =>
  (gR T s16 a18 2 0).bind fun a19 =>
  zb2 (f_X10_canShift T N s16 a17 a19 x11) fun x21 s20 =>
  if ¬ x21 = 0 then (
    (gR T s20 a0 11 1).bind fun a22 =>
    (gR T s20 a0 11 0).bind fun a23 =>
    (f_X5_keep T N s20 a22 a23).bind fun s24 =>
    (gR T s24 a0 11 3).bind fun a25 =>
    (gR T s24 a0 11 0).bind fun a26 =>
    (gR T s24 a26 2 0).bind fun a27 =>
    zb2 (f_X10_shift T N s24 a25 a27 x11) fun x29 s28 =>
    some (x29, s28))
  else (
    some ((-4 : Int32), s20))
def f_X11_align_J46 (T : zT) (N : Nat) (a0 : Nat) (x1 : Int32) (s8 : zS) (x11 : Int32) : Option (Int32 × zS) :=
  (gR T s8 a0 11 3).bind fun a12 =>
  (gR T s8 a0 11 0).bind fun a13 =>
  (gR T s8 a13 2 0).bind fun a14 =>
  if ¬ x11 = 0 then (
    f_X11_align_J70 T N a0 s8 x11 a12 a14 (x1 - (3 : Int32)))
  else (
    f_X11_align_J70 T N a0 s8 x11 a12 a14 x1)
def f_X11_align (T : zT) (N : Nat) (s0 : zS) (a0 : Nat) (x1 : Int32) : Option (Int32 × zS) :=
  zz1 (T.1 a0 = 11) <|
  zb2 (f_X11_isWithin T N s0 x1 (0 : Int32) (5 : Int32)) fun x5 s4 =>
  if ¬ x5 = 0 then (
    (gR T s4 a0 11 3).bind fun a6 =>
    (gR T s4 a0 11 0).bind fun a7 =>
    (f_X10_gather T N s4 a6 a7).bind fun s8 =>
    (gR T s8 a0 11 3).bind fun a9 =>
    (gI T s8 a9 10 2).bind fun x10 =>
    if (2 : Int32) ≤ x10 then (
      if (3 : Int32) ≤ x1 then (
        f_X11_align_J46 T N a0 x1 s8 (1 : Int32))
      else (
        f_X11_align_J46 T N a0 x1 s8 (0 : Int32)))
    else (
      some ((-2 : Int32), s8)))
  else (
    some ((-1 : Int32), s4))
theorem k_X11_align (T : zT) (N : Nat) (s0 : zS) (a0 : Nat) (x1 : Int32) : ∀ q, f_X11_align T N s0 a0 x1 = some q → T.1 a0 = 11 := by
  intro q h
  unfold f_X11_align at h
  exact zz_guard h (fun h _ => h)
set_option maxHeartbeats 4000000 in
set_option maxRecDepth 100000 in
theorem c_X11_align (l : Launch) (D : va_G) (cy : Nat → ClassId) (T : zT) (hT : zok T) (ad : Nat → Nat) (N : Nat) (s0 : zS) (sz : Nat) (a0 : Nat) (x1 : Int32) : ∀ (r0 : Int32) (σ0 : zS), f_X11_align T N s0 a0 x1 = some (r0, σ0) → Met l yX11_align wsX11_align ({ frames := 6, cells := 0, slots := 0, locals := 138 }) (va_Pc [.ref (ad a0), .int x1] (zPre D cy T ad s0 sz)) (va_Qi (fun (r2 : Int32) (σ2 : zS) => r2 = r0 ∧ σ2 = σ0) (zAt D cy T ad (zA T ad sz)) (zA T ad sz)) 0 0 (zA T ad sz) := by
  intro r0 σ0 hq
  refine Met.ofW (cc := cX11_align) (maxL := 3) (ret := (some .int)) (by decide) rfl ?_
  intro p e s m args below meth c s₁ B hml hv
  obtain ⟨hargs, hsz, hP, hK, hD0, hN⟩ := hv
  have hx := B.exec
  have hb := B.bytes
  have hr := B.returns
  have hts := atoms_spec (ws := wsX11_align) B.pre
  have hown : s.vm.findClass RX11 = some m.cls := findClass_of_methodNamed B.named
  have hlocks := B.notSynchronized
  have S : CallFix p m c cX11_align 3 s args wsX11_align RX11 := ⟨hx, hb, hml, hown, hts⟩
  subst hsz
  have hB : zB D cy T ad (zA T ad s.heap.size) s.heap s0 s.heap [] s := zz_entry hP hK hD0 hN
  obtain ⟨ls, hent, hl⟩ := zz_ent m hargs (n := 3) (Nat.le_of_ble_eq_true rfl)
  rw [hent]
  have hl : lv_has ls 3 [(0, .ref (ad a0)), (1, .int x1)] := hl
  have iwX11 : ∀ w ∈ u_ws RX11 TX11 5, w ∈ wsX11_align := by decide +kernel
  have iwX10 : ∀ w ∈ u_ws RX10 TX10 3, w ∈ wsX11_align := by decide +kernel
  have iwX2 : ∀ w ∈ u_ws RX2 TX2 4, w ∈ wsX11_align := by decide +kernel
  have lk0 : Cond.fieldLink RX11 33 "DiagramDesk" "units" "LDiagramDesk$Units;" ∈ wsX11_align := by decide +kernel
  have lk1 : Cond.fieldLink RX11 10 "DiagramDesk" "now" "LDiagramDesk$Diagram;" ∈ wsX11_align := by decide +kernel
  have lk2 : Cond.fieldLink RX11 191 "DiagramDesk$Units" "count" "I" ∈ wsX11_align := by decide +kernel
  have lk3 : Cond.fieldLink RX11 55 "DiagramDesk$Diagram" "shapes" "LDiagramDesk$Shapes;" ∈ wsX11_align := by decide +kernel
  have lk4 : Cond.fieldLink RX11 19 "DiagramDesk" "history" "LDiagramDesk$History;" ∈ wsX11_align := by decide +kernel
  unfold f_X11_align at hq
  refine zz_guard hq (fun hk0 hq => ?_)
  refine lv_iload_n hx hb dX11_align_0 rfl (lv_at hl 1 rfl) ?_
  refine lv_iconst (v := 0) hx hb dX11_align_1 (by decide) ?_
  refine lv_iconst (v := 5) hx hb dX11_align_2 (by decide) ?_
  refine zz_callSi S hT hB (As := [.int x1, .int (0 : Int32), .int (5 : Int32)]) (o := f_X11_isWithin T N s0 x1 (0 : Int32) (5 : Int32)) (c_X11_isWithin l D cy T hT ad N s0 _ x1 (0 : Int32) (5 : Int32)) (va_cwS 3 hts gX11_align_X11_isWithin rfl rfl rfl (by decide +kernel) ⟨Nat.le_of_ble_eq_true rfl, Nat.le_of_ble_eq_true rfl⟩) rfl hl.1 rfl (Nat.le_of_ble_eq_true rfl) dX11_align_3 hq (fun x5 s4 H locs hq hB => ?_)
  refine zz_if_ne (tgt := 11) hx hb dX11_align_6 (by decide) hq (fun hq => ?_) (fun hq => ?_)
  · refine lv_aload_n hx hb dX11_align_11 rfl (lv_at hl 0 rfl) ?_
    refine zz_getR S hT hB (C := RX11) (ref := "DiagramDesk") (F := TX11) (N := 5) (index := 33) 11 3 iwX11 rfl (by decide) (by decide) rfl rfl lk0 (fun _ h9 => h9) dX11_align_12 hq (fun a6 hq => ?_)
    refine lv_aload_n hx hb dX11_align_15 rfl (lv_at hl 0 rfl) ?_
    refine zz_getR S hT hB (C := RX11) (ref := "DiagramDesk") (F := TX11) (N := 5) (index := 10) 11 0 iwX11 rfl (by decide) (by decide) rfl rfl lk1 (fun _ h9 => h9) dX11_align_16 hq (fun a7 hq => ?_)
    refine zz_callVv S hT hB (As := [.ref (ad a7)]) (b := a6) (o := f_X10_gather T N s4 a6 a7) (c_X10_gather l D cy T hT ad N s4 _ a6 a7) (cwV 1 hts gX11_align_X10_gather rfl rfl rfl (by decide +kernel) ⟨Nat.le_of_ble_eq_true rfl, Nat.le_of_ble_eq_true rfl⟩) (F := TX10) (NF := 3) 10 rfl (by decide) (k_X10_gather T N s4 a6 a7) rfl hl.1 rfl (Nat.le_of_ble_eq_true rfl) dX11_align_19 hq (fun s8 H locs hq hB => ?_)
    refine lv_aload_n hx hb dX11_align_22 rfl (lv_at hl 0 rfl) ?_
    refine zz_getR S hT hB (C := RX11) (ref := "DiagramDesk") (F := TX11) (N := 5) (index := 33) 11 3 iwX11 rfl (by decide) (by decide) rfl rfl lk0 (fun _ h9 => h9) dX11_align_23 hq (fun a9 hq => ?_)
    refine zz_get S hT hB (C := RX10) (ref := "DiagramDesk$Units") (F := TX10) (N := 3) (index := 191) 10 2 iwX10 rfl (by decide) (by decide) rfl rfl lk2 (fun _ h9 => h9) dX11_align_26 hq (fun x10 hq => ?_)
    refine lv_iconst (v := 2) hx hb dX11_align_29 (by decide) ?_
    refine zz_icmp_ge (tgt := 36) hx hb dX11_align_30 (by decide) hq (fun hq => ?_) (fun hq => ?_)
    · refine lv_iload_n hx hb dX11_align_36 rfl (lv_at hl 1 rfl) ?_
      refine lv_iconst (v := 3) hx hb dX11_align_37 (by decide) ?_
      have J46 : ∀ (x11 : Int32) (H : Heap) (locs : List Loc) (ls : Array Slot), f_X11_align_J46 T N a0 x1 s8 x11 = some (r0, σ0) → zB D cy T ad (zA T ad s.heap.size) s.heap s8 H locs s → lv_has ls 3 [(0, .ref (ad a0)), (1, .int x1)] → W p l e (headSpec wsX11_align ({ frames := 6, cells := 0, slots := 0, locals := 138 } : Room)).room s m args below meth c H locs 0 0 (MQ below (va_Qi (fun (r2 : Int32) (σ2 : zS) => r2 = r0 ∧ σ2 = σ0) (zAt D cy T ad (zA T ad s.heap.size)) (zA T ad s.heap.size)) args s 0 0 (zA T ad s.heap.size)) (F0 m 46 ls [.int x11]) := by
        intro x11 H locs ls hq hB hl
        unfold f_X11_align_J46 at hq
        refine lv_istore_n (lv' := [(2, .int x11), (0, .ref (ad a0)), (1, .int x1)]) hx hb dX11_align_46 rfl hl (by decide) rfl (fun ls hl => ?_)
        refine lv_aload_n hx hb dX11_align_47 rfl (lv_at hl 1 rfl) ?_
        refine zz_getR S hT hB (C := RX11) (ref := "DiagramDesk") (F := TX11) (N := 5) (index := 33) 11 3 iwX11 rfl (by decide) (by decide) rfl rfl lk0 (fun _ h9 => h9) dX11_align_48 hq (fun a12 hq => ?_)
        refine lv_aload_n hx hb dX11_align_51 rfl (lv_at hl 1 rfl) ?_
        refine zz_getR S hT hB (C := RX11) (ref := "DiagramDesk") (F := TX11) (N := 5) (index := 10) 11 0 iwX11 rfl (by decide) (by decide) rfl rfl lk1 (fun _ h9 => h9) dX11_align_52 hq (fun a13 hq => ?_)
        refine zz_getR S hT hB (C := RX2) (ref := "DiagramDesk$Diagram") (F := TX2) (N := 4) (index := 55) 2 0 iwX2 rfl (by decide) (by decide) rfl rfl lk3 (fun _ h9 => h9) dX11_align_55 hq (fun a14 hq => ?_)
        refine lv_iload_n hx hb dX11_align_58 rfl (lv_at hl 0 rfl) ?_
        refine lv_iload_n hx hb dX11_align_59 rfl (lv_at hl 0 rfl) ?_
        have J70 : ∀ (x15 : Int32) (H : Heap) (locs : List Loc) (ls : Array Slot), f_X11_align_J70 T N a0 s8 x11 a12 a14 x15 = some (r0, σ0) → zB D cy T ad (zA T ad s.heap.size) s.heap s8 H locs s → lv_has ls 3 [(0, .ref (ad a0)), (2, .int x11)] → W p l e (headSpec wsX11_align ({ frames := 6, cells := 0, slots := 0, locals := 138 } : Room)).room s m args below meth c H locs 0 0 (MQ below (va_Qi (fun (r2 : Int32) (σ2 : zS) => r2 = r0 ∧ σ2 = σ0) (zAt D cy T ad (zA T ad s.heap.size)) (zA T ad s.heap.size)) args s 0 0 (zA T ad s.heap.size)) (F0 m 70 ls [.int x15, .int x11, .ref (ad a14), .ref (ad a12)]) := by
          intro x15 H locs ls hq hB hl
          unfold f_X11_align_J70 at hq
          refine zz_callVv S hT hB (As := [.ref (ad a14), .int x11, .int x15]) (b := a12) (o := f_X10_planAlignment T N s8 a12 a14 x11 x15) (c_X10_planAlignment l D cy T hT ad N s8 _ a12 a14 x11 x15) (cwV 3 hts gX11_align_X10_planAlignment rfl rfl rfl (by decide +kernel) ⟨Nat.le_of_ble_eq_true rfl, Nat.le_of_ble_eq_true rfl⟩) (F := TX10) (NF := 3) 10 rfl (by decide) (k_X10_planAlignment T N s8 a12 a14 x11 x15) rfl hl.1 rfl (Nat.le_of_ble_eq_true rfl) dX11_align_70 hq (fun s16 H locs hq hB => ?_)
          refine lv_aload_n hx hb dX11_align_73 rfl (lv_at hl 0 rfl) ?_
          refine zz_getR S hT hB (C := RX11) (ref := "DiagramDesk") (F := TX11) (N := 5) (index := 33) 11 3 iwX11 rfl (by decide) (by decide) rfl rfl lk0 (fun _ h9 => h9) dX11_align_74 hq (fun a17 hq => ?_)
          refine lv_aload_n hx hb dX11_align_77 rfl (lv_at hl 0 rfl) ?_
          refine zz_getR S hT hB (C := RX11) (ref := "DiagramDesk") (F := TX11) (N := 5) (index := 10) 11 0 iwX11 rfl (by decide) (by decide) rfl rfl lk1 (fun _ h9 => h9) dX11_align_78 hq (fun a18 hq => ?_)
          refine zz_getR S hT hB (C := RX2) (ref := "DiagramDesk$Diagram") (F := TX2) (N := 4) (index := 55) 2 0 iwX2 rfl (by decide) (by decide) rfl rfl lk3 (fun _ h9 => h9) dX11_align_81 hq (fun a19 hq => ?_)
          refine lv_iload_n hx hb dX11_align_84 rfl (lv_at hl 1 rfl) ?_
          refine zz_callVi S hT hB (As := [.ref (ad a19), .int x11]) (b := a17) (o := f_X10_canShift T N s16 a17 a19 x11) (c_X10_canShift l D cy T hT ad N s16 _ a17 a19 x11) (cwV 2 hts gX11_align_X10_canShift rfl rfl rfl (by decide +kernel) ⟨Nat.le_of_ble_eq_true rfl, Nat.le_of_ble_eq_true rfl⟩) (F := TX10) (NF := 3) 10 rfl (by decide) (k_X10_canShift T N s16 a17 a19 x11) rfl hl.1 rfl (Nat.le_of_ble_eq_true rfl) dX11_align_85 hq (fun x21 s20 H locs hq hB => ?_)
          refine zz_if_ne (tgt := 94) hx hb dX11_align_88 (by decide) hq (fun hq => ?_) (fun hq => ?_)
          · refine lv_aload_n hx hb dX11_align_94 rfl (lv_at hl 0 rfl) ?_
            refine zz_getR S hT hB (C := RX11) (ref := "DiagramDesk") (F := TX11) (N := 5) (index := 19) 11 1 iwX11 rfl (by decide) (by decide) rfl rfl lk4 (fun _ h9 => h9) dX11_align_95 hq (fun a22 hq => ?_)
            refine lv_aload_n hx hb dX11_align_98 rfl (lv_at hl 0 rfl) ?_
            refine zz_getR S hT hB (C := RX11) (ref := "DiagramDesk") (F := TX11) (N := 5) (index := 10) 11 0 iwX11 rfl (by decide) (by decide) rfl rfl lk1 (fun _ h9 => h9) dX11_align_99 hq (fun a23 hq => ?_)
            refine zz_callVv S hT hB (As := [.ref (ad a23)]) (b := a22) (o := f_X5_keep T N s20 a22 a23) (c_X5_keep l D cy T hT ad N s20 _ a22 a23) (cwV 1 hts gX11_align_X5_keep rfl rfl rfl (by decide +kernel) ⟨Nat.le_of_ble_eq_true rfl, Nat.le_of_ble_eq_true rfl⟩) (F := TX5) (NF := 2) 5 rfl (by decide) (k_X5_keep T N s20 a22 a23) rfl hl.1 rfl (Nat.le_of_ble_eq_true rfl) dX11_align_102 hq (fun s24 H locs hq hB => ?_)
            refine lv_aload_n hx hb dX11_align_105 rfl (lv_at hl 0 rfl) ?_
            refine zz_getR S hT hB (C := RX11) (ref := "DiagramDesk") (F := TX11) (N := 5) (index := 33) 11 3 iwX11 rfl (by decide) (by decide) rfl rfl lk0 (fun _ h9 => h9) dX11_align_106 hq (fun a25 hq => ?_)
            refine lv_aload_n hx hb dX11_align_109 rfl (lv_at hl 0 rfl) ?_
            refine zz_getR S hT hB (C := RX11) (ref := "DiagramDesk") (F := TX11) (N := 5) (index := 10) 11 0 iwX11 rfl (by decide) (by decide) rfl rfl lk1 (fun _ h9 => h9) dX11_align_110 hq (fun a26 hq => ?_)
            refine zz_getR S hT hB (C := RX2) (ref := "DiagramDesk$Diagram") (F := TX2) (N := 4) (index := 55) 2 0 iwX2 rfl (by decide) (by decide) rfl rfl lk3 (fun _ h9 => h9) dX11_align_113 hq (fun a27 hq => ?_)
            refine lv_iload_n hx hb dX11_align_116 rfl (lv_at hl 1 rfl) ?_
            refine zz_callVi S hT hB (As := [.ref (ad a27), .int x11]) (b := a25) (o := f_X10_shift T N s24 a25 a27 x11) (c_X10_shift l D cy T hT ad N s24 _ a25 a27 x11) (cwV 2 hts gX11_align_X10_shift rfl rfl rfl (by decide +kernel) ⟨Nat.le_of_ble_eq_true rfl, Nat.le_of_ble_eq_true rfl⟩) (F := TX10) (NF := 3) 10 rfl (by decide) (k_X10_shift T N s24 a25 a27 x11) rfl hl.1 rfl (Nat.le_of_ble_eq_true rfl) dX11_align_117 hq (fun x29 s28 H locs hq hB => ?_)
            exact zz_iret S hB hr hlocks dX11_align_120 hq
          · refine lv_bipush (v := -4) hx hb dX11_align_91 (by decide) ?_
            exact zz_iret S hB hr hlocks dX11_align_93 hq
        refine zz_if_ne (tgt := 67) hx hb dX11_align_60 (by decide) hq (fun hq => ?_) (fun hq => ?_)
        · refine lv_iload_n hx hb dX11_align_67 rfl (lv_at hl 2 rfl) ?_
          refine lv_iconst (v := 3) hx hb dX11_align_68 (by decide) ?_
          refine lv_isub hx hb dX11_align_69 ?_
          exact J70 (x1 - (3 : Int32)) _ _ _ hq hB (lv_sub hl [1, 0] rfl)
        · refine lv_iload_n hx hb dX11_align_63 rfl (lv_at hl 2 rfl) ?_
          refine lv_goto (tgt := 70) hx hb dX11_align_64 (by decide) ?_
          exact J70 x1 _ _ _ hq hB (lv_sub hl [1, 0] rfl)
      refine zz_icmp_ge (tgt := 45) hx hb dX11_align_38 (by decide) hq (fun hq => ?_) (fun hq => ?_)
      · refine lv_iconst (v := 1) hx hb dX11_align_45 (by decide) ?_
        exact J46 (1 : Int32) _ _ _ hq hB (lv_sub hl [0, 1] rfl)
      · refine lv_iconst (v := 0) hx hb dX11_align_41 (by decide) ?_
        refine lv_goto (tgt := 46) hx hb dX11_align_42 (by decide) ?_
        exact J46 (0 : Int32) _ _ _ hq hB (lv_sub hl [0, 1] rfl)
    · refine lv_bipush (v := -2) hx hb dX11_align_33 (by decide) ?_
      exact zz_iret S hB hr hlocks dX11_align_35 hq
  · refine lv_iconst (v := -1) hx hb dX11_align_9 (by decide) ?_
    exact zz_iret S hB hr hlocks dX11_align_10 hq
def f_X11_distribute (T : zT) (N : Nat) (s0 : zS) (a0 : Nat) (x1 : Int32) : Option (Int32 × zS) :=
  zz1 (T.1 a0 = 11) <|
  zb2 (f_X11_isAxis T N s0 x1) fun x5 s4 =>
  if ¬ x5 = 0 then (
    (gR T s4 a0 11 3).bind fun a6 =>
    (gR T s4 a0 11 0).bind fun a7 =>
    (f_X10_gather T N s4 a6 a7).bind fun s8 =>
    (gR T s8 a0 11 3).bind fun a9 =>
    (gI T s8 a9 10 2).bind fun x10 =>
    if (3 : Int32) ≤ x10 then (
      (gR T s8 a0 11 3).bind fun a11 =>
      (gR T s8 a0 11 0).bind fun a12 =>
      (gR T s8 a12 2 0).bind fun a13 =>
      zb2 (f_X10_planDistribution T N s8 a11 a13 x1) fun x15 s14 =>
      (gR T s14 a0 11 3).bind fun a16 =>
      (gR T s14 a0 11 0).bind fun a17 =>
      (gR T s14 a17 2 0).bind fun a18 =>
      zb2 (f_X10_canShift T N s14 a16 a18 x1) fun x20 s19 =>
      if ¬ x20 = 0 then (
        (gR T s19 a0 11 1).bind fun a21 =>
        (gR T s19 a0 11 0).bind fun a22 =>
        (f_X5_keep T N s19 a21 a22).bind fun s23 =>
        (gR T s23 a0 11 3).bind fun a24 =>
        (gR T s23 a0 11 0).bind fun a25 =>
        (gR T s23 a25 2 0).bind fun a26 =>
        zb2 (f_X10_shift T N s23 a24 a26 x1) fun x28 s27 =>
        some (x15, s27))
      else (
        some ((-1000000 : Int32), s19)))
    else (
      some ((-1000000 : Int32), s8)))
  else (
    some ((-1000000 : Int32), s4))
theorem k_X11_distribute (T : zT) (N : Nat) (s0 : zS) (a0 : Nat) (x1 : Int32) : ∀ q, f_X11_distribute T N s0 a0 x1 = some q → T.1 a0 = 11 := by
  intro q h
  unfold f_X11_distribute at h
  exact zz_guard h (fun h _ => h)
set_option maxHeartbeats 4000000 in
set_option maxRecDepth 100000 in
theorem c_X11_distribute (l : Launch) (D : va_G) (cy : Nat → ClassId) (T : zT) (hT : zok T) (ad : Nat → Nat) (N : Nat) (s0 : zS) (sz : Nat) (a0 : Nat) (x1 : Int32) : ∀ (r0 : Int32) (σ0 : zS), f_X11_distribute T N s0 a0 x1 = some (r0, σ0) → Met l yX11_distribute wsX11_distribute ({ frames := 6, cells := 0, slots := 0, locals := 138 }) (va_Pc [.ref (ad a0), .int x1] (zPre D cy T ad s0 sz)) (va_Qi (fun (r2 : Int32) (σ2 : zS) => r2 = r0 ∧ σ2 = σ0) (zAt D cy T ad (zA T ad sz)) (zA T ad sz)) 0 0 (zA T ad sz) := by
  intro r0 σ0 hq
  refine Met.ofW (cc := cX11_distribute) (maxL := 3) (ret := (some .int)) (by decide) rfl ?_
  intro p e s m args below meth c s₁ B hml hv
  obtain ⟨hargs, hsz, hP, hK, hD0, hN⟩ := hv
  have hx := B.exec
  have hb := B.bytes
  have hr := B.returns
  have hts := atoms_spec (ws := wsX11_distribute) B.pre
  have hown : s.vm.findClass RX11 = some m.cls := findClass_of_methodNamed B.named
  have hlocks := B.notSynchronized
  have S : CallFix p m c cX11_distribute 3 s args wsX11_distribute RX11 := ⟨hx, hb, hml, hown, hts⟩
  subst hsz
  have hB : zB D cy T ad (zA T ad s.heap.size) s.heap s0 s.heap [] s := zz_entry hP hK hD0 hN
  obtain ⟨ls, hent, hl⟩ := zz_ent m hargs (n := 3) (Nat.le_of_ble_eq_true rfl)
  rw [hent]
  have hl : lv_has ls 3 [(0, .ref (ad a0)), (1, .int x1)] := hl
  have iwX11 : ∀ w ∈ u_ws RX11 TX11 5, w ∈ wsX11_distribute := by decide +kernel
  have iwX10 : ∀ w ∈ u_ws RX10 TX10 3, w ∈ wsX11_distribute := by decide +kernel
  have iwX2 : ∀ w ∈ u_ws RX2 TX2 4, w ∈ wsX11_distribute := by decide +kernel
  have lk0 : Cond.fieldLink RX11 33 "DiagramDesk" "units" "LDiagramDesk$Units;" ∈ wsX11_distribute := by decide +kernel
  have lk1 : Cond.fieldLink RX11 10 "DiagramDesk" "now" "LDiagramDesk$Diagram;" ∈ wsX11_distribute := by decide +kernel
  have lk2 : Cond.fieldLink RX11 191 "DiagramDesk$Units" "count" "I" ∈ wsX11_distribute := by decide +kernel
  have lk3 : Cond.fieldLink RX11 55 "DiagramDesk$Diagram" "shapes" "LDiagramDesk$Shapes;" ∈ wsX11_distribute := by decide +kernel
  have lk4 : Cond.fieldLink RX11 19 "DiagramDesk" "history" "LDiagramDesk$History;" ∈ wsX11_distribute := by decide +kernel
  have lk5 : Cond.constant RX11 98 (-1000000) ∈ wsX11_distribute := by decide +kernel
  unfold f_X11_distribute at hq
  refine zz_guard hq (fun hk0 hq => ?_)
  refine lv_iload_n hx hb dX11_distribute_0 rfl (lv_at hl 1 rfl) ?_
  refine zz_callSi S hT hB (As := [.int x1]) (o := f_X11_isAxis T N s0 x1) (c_X11_isAxis l D cy T hT ad N s0 _ x1) (va_cwS 1 hts gX11_distribute_X11_isAxis rfl rfl rfl (by decide +kernel) ⟨Nat.le_of_ble_eq_true rfl, Nat.le_of_ble_eq_true rfl⟩) rfl hl.1 rfl (Nat.le_of_ble_eq_true rfl) dX11_distribute_1 hq (fun x5 s4 H locs hq hB => ?_)
  refine zz_if_ne (tgt := 10) hx hb dX11_distribute_4 (by decide) hq (fun hq => ?_) (fun hq => ?_)
  · refine lv_aload_n hx hb dX11_distribute_10 rfl (lv_at hl 0 rfl) ?_
    refine zz_getR S hT hB (C := RX11) (ref := "DiagramDesk") (F := TX11) (N := 5) (index := 33) 11 3 iwX11 rfl (by decide) (by decide) rfl rfl lk0 (fun _ h9 => h9) dX11_distribute_11 hq (fun a6 hq => ?_)
    refine lv_aload_n hx hb dX11_distribute_14 rfl (lv_at hl 0 rfl) ?_
    refine zz_getR S hT hB (C := RX11) (ref := "DiagramDesk") (F := TX11) (N := 5) (index := 10) 11 0 iwX11 rfl (by decide) (by decide) rfl rfl lk1 (fun _ h9 => h9) dX11_distribute_15 hq (fun a7 hq => ?_)
    refine zz_callVv S hT hB (As := [.ref (ad a7)]) (b := a6) (o := f_X10_gather T N s4 a6 a7) (c_X10_gather l D cy T hT ad N s4 _ a6 a7) (cwV 1 hts gX11_distribute_X10_gather rfl rfl rfl (by decide +kernel) ⟨Nat.le_of_ble_eq_true rfl, Nat.le_of_ble_eq_true rfl⟩) (F := TX10) (NF := 3) 10 rfl (by decide) (k_X10_gather T N s4 a6 a7) rfl hl.1 rfl (Nat.le_of_ble_eq_true rfl) dX11_distribute_18 hq (fun s8 H locs hq hB => ?_)
    refine lv_aload_n hx hb dX11_distribute_21 rfl (lv_at hl 0 rfl) ?_
    refine zz_getR S hT hB (C := RX11) (ref := "DiagramDesk") (F := TX11) (N := 5) (index := 33) 11 3 iwX11 rfl (by decide) (by decide) rfl rfl lk0 (fun _ h9 => h9) dX11_distribute_22 hq (fun a9 hq => ?_)
    refine zz_get S hT hB (C := RX10) (ref := "DiagramDesk$Units") (F := TX10) (N := 3) (index := 191) 10 2 iwX10 rfl (by decide) (by decide) rfl rfl lk2 (fun _ h9 => h9) dX11_distribute_25 hq (fun x10 hq => ?_)
    refine lv_iconst (v := 3) hx hb dX11_distribute_28 (by decide) ?_
    refine zz_icmp_ge (tgt := 35) hx hb dX11_distribute_29 (by decide) hq (fun hq => ?_) (fun hq => ?_)
    · refine lv_aload_n hx hb dX11_distribute_35 rfl (lv_at hl 0 rfl) ?_
      refine zz_getR S hT hB (C := RX11) (ref := "DiagramDesk") (F := TX11) (N := 5) (index := 33) 11 3 iwX11 rfl (by decide) (by decide) rfl rfl lk0 (fun _ h9 => h9) dX11_distribute_36 hq (fun a11 hq => ?_)
      refine lv_aload_n hx hb dX11_distribute_39 rfl (lv_at hl 0 rfl) ?_
      refine zz_getR S hT hB (C := RX11) (ref := "DiagramDesk") (F := TX11) (N := 5) (index := 10) 11 0 iwX11 rfl (by decide) (by decide) rfl rfl lk1 (fun _ h9 => h9) dX11_distribute_40 hq (fun a12 hq => ?_)
      refine zz_getR S hT hB (C := RX2) (ref := "DiagramDesk$Diagram") (F := TX2) (N := 4) (index := 55) 2 0 iwX2 rfl (by decide) (by decide) rfl rfl lk3 (fun _ h9 => h9) dX11_distribute_43 hq (fun a13 hq => ?_)
      refine lv_iload_n hx hb dX11_distribute_46 rfl (lv_at hl 1 rfl) ?_
      refine zz_callVi S hT hB (As := [.ref (ad a13), .int x1]) (b := a11) (o := f_X10_planDistribution T N s8 a11 a13 x1) (c_X10_planDistribution l D cy T hT ad N s8 _ a11 a13 x1) (cwV 2 hts gX11_distribute_X10_planDistribution rfl rfl rfl (by decide +kernel) ⟨Nat.le_of_ble_eq_true rfl, Nat.le_of_ble_eq_true rfl⟩) (F := TX10) (NF := 3) 10 rfl (by decide) (k_X10_planDistribution T N s8 a11 a13 x1) rfl hl.1 rfl (Nat.le_of_ble_eq_true rfl) dX11_distribute_47 hq (fun x15 s14 H locs hq hB => ?_)
      refine lv_istore_n (lv' := [(2, .int x15), (0, .ref (ad a0)), (1, .int x1)]) hx hb dX11_distribute_50 rfl hl (by decide) rfl (fun ls hl => ?_)
      refine lv_aload_n hx hb dX11_distribute_51 rfl (lv_at hl 1 rfl) ?_
      refine zz_getR S hT hB (C := RX11) (ref := "DiagramDesk") (F := TX11) (N := 5) (index := 33) 11 3 iwX11 rfl (by decide) (by decide) rfl rfl lk0 (fun _ h9 => h9) dX11_distribute_52 hq (fun a16 hq => ?_)
      refine lv_aload_n hx hb dX11_distribute_55 rfl (lv_at hl 1 rfl) ?_
      refine zz_getR S hT hB (C := RX11) (ref := "DiagramDesk") (F := TX11) (N := 5) (index := 10) 11 0 iwX11 rfl (by decide) (by decide) rfl rfl lk1 (fun _ h9 => h9) dX11_distribute_56 hq (fun a17 hq => ?_)
      refine zz_getR S hT hB (C := RX2) (ref := "DiagramDesk$Diagram") (F := TX2) (N := 4) (index := 55) 2 0 iwX2 rfl (by decide) (by decide) rfl rfl lk3 (fun _ h9 => h9) dX11_distribute_59 hq (fun a18 hq => ?_)
      refine lv_iload_n hx hb dX11_distribute_62 rfl (lv_at hl 2 rfl) ?_
      refine zz_callVi S hT hB (As := [.ref (ad a18), .int x1]) (b := a16) (o := f_X10_canShift T N s14 a16 a18 x1) (c_X10_canShift l D cy T hT ad N s14 _ a16 a18 x1) (cwV 2 hts gX11_distribute_X10_canShift rfl rfl rfl (by decide +kernel) ⟨Nat.le_of_ble_eq_true rfl, Nat.le_of_ble_eq_true rfl⟩) (F := TX10) (NF := 3) 10 rfl (by decide) (k_X10_canShift T N s14 a16 a18 x1) rfl hl.1 rfl (Nat.le_of_ble_eq_true rfl) dX11_distribute_63 hq (fun x20 s19 H locs hq hB => ?_)
      refine zz_if_ne (tgt := 72) hx hb dX11_distribute_66 (by decide) hq (fun hq => ?_) (fun hq => ?_)
      · refine lv_aload_n hx hb dX11_distribute_72 rfl (lv_at hl 1 rfl) ?_
        refine zz_getR S hT hB (C := RX11) (ref := "DiagramDesk") (F := TX11) (N := 5) (index := 19) 11 1 iwX11 rfl (by decide) (by decide) rfl rfl lk4 (fun _ h9 => h9) dX11_distribute_73 hq (fun a21 hq => ?_)
        refine lv_aload_n hx hb dX11_distribute_76 rfl (lv_at hl 1 rfl) ?_
        refine zz_getR S hT hB (C := RX11) (ref := "DiagramDesk") (F := TX11) (N := 5) (index := 10) 11 0 iwX11 rfl (by decide) (by decide) rfl rfl lk1 (fun _ h9 => h9) dX11_distribute_77 hq (fun a22 hq => ?_)
        refine zz_callVv S hT hB (As := [.ref (ad a22)]) (b := a21) (o := f_X5_keep T N s19 a21 a22) (c_X5_keep l D cy T hT ad N s19 _ a21 a22) (cwV 1 hts gX11_distribute_X5_keep rfl rfl rfl (by decide +kernel) ⟨Nat.le_of_ble_eq_true rfl, Nat.le_of_ble_eq_true rfl⟩) (F := TX5) (NF := 2) 5 rfl (by decide) (k_X5_keep T N s19 a21 a22) rfl hl.1 rfl (Nat.le_of_ble_eq_true rfl) dX11_distribute_80 hq (fun s23 H locs hq hB => ?_)
        refine lv_aload_n hx hb dX11_distribute_83 rfl (lv_at hl 1 rfl) ?_
        refine zz_getR S hT hB (C := RX11) (ref := "DiagramDesk") (F := TX11) (N := 5) (index := 33) 11 3 iwX11 rfl (by decide) (by decide) rfl rfl lk0 (fun _ h9 => h9) dX11_distribute_84 hq (fun a24 hq => ?_)
        refine lv_aload_n hx hb dX11_distribute_87 rfl (lv_at hl 1 rfl) ?_
        refine zz_getR S hT hB (C := RX11) (ref := "DiagramDesk") (F := TX11) (N := 5) (index := 10) 11 0 iwX11 rfl (by decide) (by decide) rfl rfl lk1 (fun _ h9 => h9) dX11_distribute_88 hq (fun a25 hq => ?_)
        refine zz_getR S hT hB (C := RX2) (ref := "DiagramDesk$Diagram") (F := TX2) (N := 4) (index := 55) 2 0 iwX2 rfl (by decide) (by decide) rfl rfl lk3 (fun _ h9 => h9) dX11_distribute_91 hq (fun a26 hq => ?_)
        refine lv_iload_n hx hb dX11_distribute_94 rfl (lv_at hl 2 rfl) ?_
        refine zz_callVi S hT hB (As := [.ref (ad a26), .int x1]) (b := a24) (o := f_X10_shift T N s23 a24 a26 x1) (c_X10_shift l D cy T hT ad N s23 _ a24 a26 x1) (cwV 2 hts gX11_distribute_X10_shift rfl rfl rfl (by decide +kernel) ⟨Nat.le_of_ble_eq_true rfl, Nat.le_of_ble_eq_true rfl⟩) (F := TX10) (NF := 3) 10 rfl (by decide) (k_X10_shift T N s23 a24 a26 x1) rfl hl.1 rfl (Nat.le_of_ble_eq_true rfl) dX11_distribute_95 hq (fun x28 s27 H locs hq hB => ?_)
        refine lv_pop hx hb dX11_distribute_98 rfl ?_
        refine lv_iload_n hx hb dX11_distribute_99 rfl (lv_at hl 0 rfl) ?_
        exact zz_iret S hB hr hlocks dX11_distribute_100 hq
      · refine lv_ldc (v := -1000000) hx hb hown (hts _ lk5) dX11_distribute_69 ?_
        exact zz_iret S hB hr hlocks dX11_distribute_71 hq
    · refine lv_ldc (v := -1000000) hx hb hown (hts _ lk5) dX11_distribute_32 ?_
      exact zz_iret S hB hr hlocks dX11_distribute_34 hq
  · refine lv_ldc (v := -1000000) hx hb hown (hts _ lk5) dX11_distribute_7 ?_
    exact zz_iret S hB hr hlocks dX11_distribute_9 hq
def f_X11_addGuide (T : zT) (N : Nat) (s0 : zS) (a0 : Nat) (x1 : Int32) (x2 : Int32) : Option (Int32 × zS) :=
  zz1 (T.1 a0 = 11) <|
  zb2 (f_X11_isAxis T N s0 x1) fun x6 s5 =>
  if x6 = 0 then (
    some ((-1 : Int32), s5))
  else (
    zb2 (f_X11_isCoordinate T N s5 x2) fun x8 s7 =>
    if ¬ x8 = 0 then (
      (gR T s7 a0 11 0).bind fun a9 =>
      (gR T s7 a9 2 3).bind fun a10 =>
      (gI T s7 a10 4 2).bind fun x11 =>
      if x11 < (10 : Int32) then (
        (gR T s7 a0 11 1).bind fun a12 =>
        (gR T s7 a0 11 0).bind fun a13 =>
        (f_X5_keep T N s7 a12 a13).bind fun s14 =>
        (gR T s14 a0 11 0).bind fun a15 =>
        (gR T s14 a15 2 3).bind fun a16 =>
        (f_X4_add T N s14 a16 x1 x2).bind fun s17 =>
        (gR T s17 a0 11 0).bind fun a18 =>
        (gR T s17 a18 2 3).bind fun a19 =>
        (gI T s17 a19 4 2).bind fun x20 =>
        some (x20, s17))
      else (
        some ((-3 : Int32), s7)))
    else (
      some ((-1 : Int32), s7)))
theorem k_X11_addGuide (T : zT) (N : Nat) (s0 : zS) (a0 : Nat) (x1 : Int32) (x2 : Int32) : ∀ q, f_X11_addGuide T N s0 a0 x1 x2 = some q → T.1 a0 = 11 := by
  intro q h
  unfold f_X11_addGuide at h
  exact zz_guard h (fun h _ => h)
set_option maxHeartbeats 4000000 in
set_option maxRecDepth 100000 in
theorem c_X11_addGuide (l : Launch) (D : va_G) (cy : Nat → ClassId) (T : zT) (hT : zok T) (ad : Nat → Nat) (N : Nat) (s0 : zS) (sz : Nat) (a0 : Nat) (x1 : Int32) (x2 : Int32) : ∀ (r0 : Int32) (σ0 : zS), f_X11_addGuide T N s0 a0 x1 x2 = some (r0, σ0) → Met l yX11_addGuide wsX11_addGuide ({ frames := 5, cells := 0, slots := 0, locals := 106 }) (va_Pc [.ref (ad a0), .int x1, .int x2] (zPre D cy T ad s0 sz)) (va_Qi (fun (r2 : Int32) (σ2 : zS) => r2 = r0 ∧ σ2 = σ0) (zAt D cy T ad (zA T ad sz)) (zA T ad sz)) 0 0 (zA T ad sz) := by
  intro r0 σ0 hq
  refine Met.ofW (cc := cX11_addGuide) (maxL := 3) (ret := (some .int)) (by decide) rfl ?_
  intro p e s m args below meth c s₁ B hml hv
  obtain ⟨hargs, hsz, hP, hK, hD0, hN⟩ := hv
  have hx := B.exec
  have hb := B.bytes
  have hr := B.returns
  have hts := atoms_spec (ws := wsX11_addGuide) B.pre
  have hown : s.vm.findClass RX11 = some m.cls := findClass_of_methodNamed B.named
  have hlocks := B.notSynchronized
  have S : CallFix p m c cX11_addGuide 3 s args wsX11_addGuide RX11 := ⟨hx, hb, hml, hown, hts⟩
  subst hsz
  have hB : zB D cy T ad (zA T ad s.heap.size) s.heap s0 s.heap [] s := zz_entry hP hK hD0 hN
  obtain ⟨ls, hent, hl⟩ := zz_ent m hargs (n := 3) (Nat.le_of_ble_eq_true rfl)
  rw [hent]
  have hl : lv_has ls 3 [(0, .ref (ad a0)), (1, .int x1), (2, .int x2)] := hl
  have iwX11 : ∀ w ∈ u_ws RX11 TX11 5, w ∈ wsX11_addGuide := by decide +kernel
  have iwX2 : ∀ w ∈ u_ws RX2 TX2 4, w ∈ wsX11_addGuide := by decide +kernel
  have iwX4 : ∀ w ∈ u_ws RX4 TX4 5, w ∈ wsX11_addGuide := by decide +kernel
  have lk0 : Cond.fieldLink RX11 10 "DiagramDesk" "now" "LDiagramDesk$Diagram;" ∈ wsX11_addGuide := by decide +kernel
  have lk1 : Cond.fieldLink RX11 250 "DiagramDesk$Diagram" "guides" "LDiagramDesk$Guides;" ∈ wsX11_addGuide := by decide +kernel
  have lk2 : Cond.fieldLink RX11 254 "DiagramDesk$Guides" "count" "I" ∈ wsX11_addGuide := by decide +kernel
  have lk3 : Cond.fieldLink RX11 19 "DiagramDesk" "history" "LDiagramDesk$History;" ∈ wsX11_addGuide := by decide +kernel
  unfold f_X11_addGuide at hq
  refine zz_guard hq (fun hk0 hq => ?_)
  refine lv_iload_n hx hb dX11_addGuide_0 rfl (lv_at hl 1 rfl) ?_
  refine zz_callSi S hT hB (As := [.int x1]) (o := f_X11_isAxis T N s0 x1) (c_X11_isAxis l D cy T hT ad N s0 _ x1) (va_cwS 1 hts gX11_addGuide_X11_isAxis rfl rfl rfl (by decide +kernel) ⟨Nat.le_of_ble_eq_true rfl, Nat.le_of_ble_eq_true rfl⟩) rfl hl.1 rfl (Nat.le_of_ble_eq_true rfl) dX11_addGuide_1 hq (fun x6 s5 H locs hq hB => ?_)
  refine zz_if_eq (tgt := 14) hx hb dX11_addGuide_4 (by decide) hq (fun hq => ?_) (fun hq => ?_)
  · refine lv_iconst (v := -1) hx hb dX11_addGuide_14 (by decide) ?_
    exact zz_iret S hB hr hlocks dX11_addGuide_15 hq
  · refine lv_iload_n hx hb dX11_addGuide_7 rfl (lv_at hl 2 rfl) ?_
    refine zz_callSi S hT hB (As := [.int x2]) (o := f_X11_isCoordinate T N s5 x2) (c_X11_isCoordinate l D cy T hT ad N s5 _ x2) (va_cwS 1 hts gX11_addGuide_X11_isCoordinate rfl rfl rfl (by decide +kernel) ⟨Nat.le_of_ble_eq_true rfl, Nat.le_of_ble_eq_true rfl⟩) rfl hl.1 rfl (Nat.le_of_ble_eq_true rfl) dX11_addGuide_8 hq (fun x8 s7 H locs hq hB => ?_)
    refine zz_if_ne (tgt := 16) hx hb dX11_addGuide_11 (by decide) hq (fun hq => ?_) (fun hq => ?_)
    · refine lv_aload_n hx hb dX11_addGuide_16 rfl (lv_at hl 0 rfl) ?_
      refine zz_getR S hT hB (C := RX11) (ref := "DiagramDesk") (F := TX11) (N := 5) (index := 10) 11 0 iwX11 rfl (by decide) (by decide) rfl rfl lk0 (fun _ h9 => h9) dX11_addGuide_17 hq (fun a9 hq => ?_)
      refine zz_getR S hT hB (C := RX2) (ref := "DiagramDesk$Diagram") (F := TX2) (N := 4) (index := 250) 2 3 iwX2 rfl (by decide) (by decide) rfl rfl lk1 (fun _ h9 => h9) dX11_addGuide_20 hq (fun a10 hq => ?_)
      refine zz_get S hT hB (C := RX4) (ref := "DiagramDesk$Guides") (F := TX4) (N := 5) (index := 254) 4 2 iwX4 rfl (by decide) (by decide) rfl rfl lk2 (fun _ h9 => h9) dX11_addGuide_23 hq (fun x11 hq => ?_)
      refine lv_bipush (v := 10) hx hb dX11_addGuide_26 (by decide) ?_
      refine zz_icmp_lt (tgt := 34) hx hb dX11_addGuide_28 (by decide) hq (fun hq => ?_) (fun hq => ?_)
      · refine lv_aload_n hx hb dX11_addGuide_34 rfl (lv_at hl 0 rfl) ?_
        refine zz_getR S hT hB (C := RX11) (ref := "DiagramDesk") (F := TX11) (N := 5) (index := 19) 11 1 iwX11 rfl (by decide) (by decide) rfl rfl lk3 (fun _ h9 => h9) dX11_addGuide_35 hq (fun a12 hq => ?_)
        refine lv_aload_n hx hb dX11_addGuide_38 rfl (lv_at hl 0 rfl) ?_
        refine zz_getR S hT hB (C := RX11) (ref := "DiagramDesk") (F := TX11) (N := 5) (index := 10) 11 0 iwX11 rfl (by decide) (by decide) rfl rfl lk0 (fun _ h9 => h9) dX11_addGuide_39 hq (fun a13 hq => ?_)
        refine zz_callVv S hT hB (As := [.ref (ad a13)]) (b := a12) (o := f_X5_keep T N s7 a12 a13) (c_X5_keep l D cy T hT ad N s7 _ a12 a13) (cwV 1 hts gX11_addGuide_X5_keep rfl rfl rfl (by decide +kernel) ⟨Nat.le_of_ble_eq_true rfl, Nat.le_of_ble_eq_true rfl⟩) (F := TX5) (NF := 2) 5 rfl (by decide) (k_X5_keep T N s7 a12 a13) rfl hl.1 rfl (Nat.le_of_ble_eq_true rfl) dX11_addGuide_42 hq (fun s14 H locs hq hB => ?_)
        refine lv_aload_n hx hb dX11_addGuide_45 rfl (lv_at hl 0 rfl) ?_
        refine zz_getR S hT hB (C := RX11) (ref := "DiagramDesk") (F := TX11) (N := 5) (index := 10) 11 0 iwX11 rfl (by decide) (by decide) rfl rfl lk0 (fun _ h9 => h9) dX11_addGuide_46 hq (fun a15 hq => ?_)
        refine zz_getR S hT hB (C := RX2) (ref := "DiagramDesk$Diagram") (F := TX2) (N := 4) (index := 250) 2 3 iwX2 rfl (by decide) (by decide) rfl rfl lk1 (fun _ h9 => h9) dX11_addGuide_49 hq (fun a16 hq => ?_)
        refine lv_iload_n hx hb dX11_addGuide_52 rfl (lv_at hl 1 rfl) ?_
        refine lv_iload_n hx hb dX11_addGuide_53 rfl (lv_at hl 2 rfl) ?_
        refine zz_callVv S hT hB (As := [.int x1, .int x2]) (b := a16) (o := f_X4_add T N s14 a16 x1 x2) (c_X4_add l D cy T hT ad N s14 _ a16 x1 x2) (cwV 2 hts gX11_addGuide_X4_add rfl rfl rfl (by decide +kernel) ⟨Nat.le_of_ble_eq_true rfl, Nat.le_of_ble_eq_true rfl⟩) (F := TX4) (NF := 5) 4 rfl (by decide) (k_X4_add T N s14 a16 x1 x2) rfl hl.1 rfl (Nat.le_of_ble_eq_true rfl) dX11_addGuide_54 hq (fun s17 H locs hq hB => ?_)
        refine lv_aload_n hx hb dX11_addGuide_57 rfl (lv_at hl 0 rfl) ?_
        refine zz_getR S hT hB (C := RX11) (ref := "DiagramDesk") (F := TX11) (N := 5) (index := 10) 11 0 iwX11 rfl (by decide) (by decide) rfl rfl lk0 (fun _ h9 => h9) dX11_addGuide_58 hq (fun a18 hq => ?_)
        refine zz_getR S hT hB (C := RX2) (ref := "DiagramDesk$Diagram") (F := TX2) (N := 4) (index := 250) 2 3 iwX2 rfl (by decide) (by decide) rfl rfl lk1 (fun _ h9 => h9) dX11_addGuide_61 hq (fun a19 hq => ?_)
        refine zz_get S hT hB (C := RX4) (ref := "DiagramDesk$Guides") (F := TX4) (N := 5) (index := 254) 4 2 iwX4 rfl (by decide) (by decide) rfl rfl lk2 (fun _ h9 => h9) dX11_addGuide_64 hq (fun x20 hq => ?_)
        exact zz_iret S hB hr hlocks dX11_addGuide_67 hq
      · refine lv_bipush (v := -3) hx hb dX11_addGuide_31 (by decide) ?_
        exact zz_iret S hB hr hlocks dX11_addGuide_33 hq
    · refine lv_iconst (v := -1) hx hb dX11_addGuide_14 (by decide) ?_
      exact zz_iret S hB hr hlocks dX11_addGuide_15 hq
def f_X11_clearGuides (T : zT) (N : Nat) (s0 : zS) (a0 : Nat) : Option (Int32 × zS) :=
  zz1 (T.1 a0 = 11) <|
  (gR T s0 a0 11 1).bind fun a3 =>
  (gR T s0 a0 11 0).bind fun a4 =>
  (f_X5_keep T N s0 a3 a4).bind fun s5 =>
  (gR T s5 a0 11 0).bind fun a6 =>
  (gR T s5 a6 2 3).bind fun a7 =>
  (gI T s5 a7 4 2).bind fun x8 =>
  (gR T s5 a0 11 0).bind fun a9 =>
  (gR T s5 a9 2 3).bind fun a10 =>
  (pI T s5 a10 4 2 (0 : Int32)).bind fun s11 =>
  some (x8, s11)
theorem k_X11_clearGuides (T : zT) (N : Nat) (s0 : zS) (a0 : Nat) : ∀ q, f_X11_clearGuides T N s0 a0 = some q → T.1 a0 = 11 := by
  intro q h
  unfold f_X11_clearGuides at h
  exact zz_guard h (fun h _ => h)
set_option maxHeartbeats 4000000 in
set_option maxRecDepth 100000 in
theorem c_X11_clearGuides (l : Launch) (D : va_G) (cy : Nat → ClassId) (T : zT) (hT : zok T) (ad : Nat → Nat) (N : Nat) (s0 : zS) (sz : Nat) (a0 : Nat) : ∀ (r0 : Int32) (σ0 : zS), f_X11_clearGuides T N s0 a0 = some (r0, σ0) → Met l yX11_clearGuides wsX11_clearGuides ({ frames := 5, cells := 0, slots := 0, locals := 106 }) (va_Pc [.ref (ad a0)] (zPre D cy T ad s0 sz)) (va_Qi (fun (r2 : Int32) (σ2 : zS) => r2 = r0 ∧ σ2 = σ0) (zAt D cy T ad (zA T ad sz)) (zA T ad sz)) 0 0 (zA T ad sz) := by
  intro r0 σ0 hq
  refine Met.ofW (cc := cX11_clearGuides) (maxL := 2) (ret := (some .int)) (by decide) rfl ?_
  intro p e s m args below meth c s₁ B hml hv
  obtain ⟨hargs, hsz, hP, hK, hD0, hN⟩ := hv
  have hx := B.exec
  have hb := B.bytes
  have hr := B.returns
  have hts := atoms_spec (ws := wsX11_clearGuides) B.pre
  have hown : s.vm.findClass RX11 = some m.cls := findClass_of_methodNamed B.named
  have hlocks := B.notSynchronized
  have S : CallFix p m c cX11_clearGuides 2 s args wsX11_clearGuides RX11 := ⟨hx, hb, hml, hown, hts⟩
  subst hsz
  have hB : zB D cy T ad (zA T ad s.heap.size) s.heap s0 s.heap [] s := zz_entry hP hK hD0 hN
  obtain ⟨ls, hent, hl⟩ := zz_ent m hargs (n := 2) (Nat.le_of_ble_eq_true rfl)
  rw [hent]
  have hl : lv_has ls 2 [(0, .ref (ad a0))] := hl
  have iwX11 : ∀ w ∈ u_ws RX11 TX11 5, w ∈ wsX11_clearGuides := by decide +kernel
  have iwX2 : ∀ w ∈ u_ws RX2 TX2 4, w ∈ wsX11_clearGuides := by decide +kernel
  have iwX4 : ∀ w ∈ u_ws RX4 TX4 5, w ∈ wsX11_clearGuides := by decide +kernel
  have lk0 : Cond.fieldLink RX11 19 "DiagramDesk" "history" "LDiagramDesk$History;" ∈ wsX11_clearGuides := by decide +kernel
  have lk1 : Cond.fieldLink RX11 10 "DiagramDesk" "now" "LDiagramDesk$Diagram;" ∈ wsX11_clearGuides := by decide +kernel
  have lk2 : Cond.fieldLink RX11 250 "DiagramDesk$Diagram" "guides" "LDiagramDesk$Guides;" ∈ wsX11_clearGuides := by decide +kernel
  have lk3 : Cond.fieldLink RX11 254 "DiagramDesk$Guides" "count" "I" ∈ wsX11_clearGuides := by decide +kernel
  unfold f_X11_clearGuides at hq
  refine zz_guard hq (fun hk0 hq => ?_)
  refine lv_aload_n hx hb dX11_clearGuides_0 rfl (lv_at hl 0 rfl) ?_
  refine zz_getR S hT hB (C := RX11) (ref := "DiagramDesk") (F := TX11) (N := 5) (index := 19) 11 1 iwX11 rfl (by decide) (by decide) rfl rfl lk0 (fun _ h9 => h9) dX11_clearGuides_1 hq (fun a3 hq => ?_)
  refine lv_aload_n hx hb dX11_clearGuides_4 rfl (lv_at hl 0 rfl) ?_
  refine zz_getR S hT hB (C := RX11) (ref := "DiagramDesk") (F := TX11) (N := 5) (index := 10) 11 0 iwX11 rfl (by decide) (by decide) rfl rfl lk1 (fun _ h9 => h9) dX11_clearGuides_5 hq (fun a4 hq => ?_)
  refine zz_callVv S hT hB (As := [.ref (ad a4)]) (b := a3) (o := f_X5_keep T N s0 a3 a4) (c_X5_keep l D cy T hT ad N s0 _ a3 a4) (cwV 1 hts gX11_clearGuides_X5_keep rfl rfl rfl (by decide +kernel) ⟨Nat.le_of_ble_eq_true rfl, Nat.le_of_ble_eq_true rfl⟩) (F := TX5) (NF := 2) 5 rfl (by decide) (k_X5_keep T N s0 a3 a4) rfl hl.1 rfl (Nat.le_of_ble_eq_true rfl) dX11_clearGuides_8 hq (fun s5 H locs hq hB => ?_)
  refine lv_aload_n hx hb dX11_clearGuides_11 rfl (lv_at hl 0 rfl) ?_
  refine zz_getR S hT hB (C := RX11) (ref := "DiagramDesk") (F := TX11) (N := 5) (index := 10) 11 0 iwX11 rfl (by decide) (by decide) rfl rfl lk1 (fun _ h9 => h9) dX11_clearGuides_12 hq (fun a6 hq => ?_)
  refine zz_getR S hT hB (C := RX2) (ref := "DiagramDesk$Diagram") (F := TX2) (N := 4) (index := 250) 2 3 iwX2 rfl (by decide) (by decide) rfl rfl lk2 (fun _ h9 => h9) dX11_clearGuides_15 hq (fun a7 hq => ?_)
  refine zz_get S hT hB (C := RX4) (ref := "DiagramDesk$Guides") (F := TX4) (N := 5) (index := 254) 4 2 iwX4 rfl (by decide) (by decide) rfl rfl lk3 (fun _ h9 => h9) dX11_clearGuides_18 hq (fun x8 hq => ?_)
  refine lv_istore_n (lv' := [(1, .int x8), (0, .ref (ad a0))]) hx hb dX11_clearGuides_21 rfl hl (by decide) rfl (fun ls hl => ?_)
  refine lv_aload_n hx hb dX11_clearGuides_22 rfl (lv_at hl 1 rfl) ?_
  refine zz_getR S hT hB (C := RX11) (ref := "DiagramDesk") (F := TX11) (N := 5) (index := 10) 11 0 iwX11 rfl (by decide) (by decide) rfl rfl lk1 (fun _ h9 => h9) dX11_clearGuides_23 hq (fun a9 hq => ?_)
  refine zz_getR S hT hB (C := RX2) (ref := "DiagramDesk$Diagram") (F := TX2) (N := 4) (index := 250) 2 3 iwX2 rfl (by decide) (by decide) rfl rfl lk2 (fun _ h9 => h9) dX11_clearGuides_26 hq (fun a10 hq => ?_)
  refine lv_iconst (v := 0) hx hb dX11_clearGuides_29 (by decide) ?_
  refine zz_put S hT hB (C := RX4) (ref := "DiagramDesk$Guides") (F := TX4) (N := 5) (index := 254) 4 2 iwX4 tyX4 tyX4_ok nmX4 rfl (by decide) (by decide) rfl rfl lk3 (fun _ h9 => h9) rfl (by decide +kernel) dX11_clearGuides_30 hq (fun s11 H locs hq hB => ?_)
  refine lv_iload_n hx hb dX11_clearGuides_33 rfl (lv_at hl 0 rfl) ?_
  exact zz_iret S hB hr hlocks dX11_clearGuides_34 hq
def f_X11_setGrid (T : zT) (N : Nat) (s0 : zS) (a0 : Nat) (x1 : Int32) : Option (Int32 × zS) :=
  zz1 (T.1 a0 = 11) <|
  zb2 (f_X11_isWithin T N s0 x1 (0 : Int32) (100 : Int32)) fun x5 s4 =>
  if ¬ x5 = 0 then (
    (gR T s4 a0 11 1).bind fun a6 =>
    (gR T s4 a0 11 0).bind fun a7 =>
    (f_X5_keep T N s4 a6 a7).bind fun s8 =>
    (gR T s8 a0 11 0).bind fun a9 =>
    (gR T s8 a9 2 3).bind fun a10 =>
    (gI T s8 a10 4 3).bind fun x11 =>
    (gR T s8 a0 11 0).bind fun a12 =>
    (gR T s8 a12 2 3).bind fun a13 =>
    (pI T s8 a13 4 3 x1).bind fun s14 =>
    some (x11, s14))
  else (
    some ((-1 : Int32), s4))
theorem k_X11_setGrid (T : zT) (N : Nat) (s0 : zS) (a0 : Nat) (x1 : Int32) : ∀ q, f_X11_setGrid T N s0 a0 x1 = some q → T.1 a0 = 11 := by
  intro q h
  unfold f_X11_setGrid at h
  exact zz_guard h (fun h _ => h)
set_option maxHeartbeats 4000000 in
set_option maxRecDepth 100000 in
theorem c_X11_setGrid (l : Launch) (D : va_G) (cy : Nat → ClassId) (T : zT) (hT : zok T) (ad : Nat → Nat) (N : Nat) (s0 : zS) (sz : Nat) (a0 : Nat) (x1 : Int32) : ∀ (r0 : Int32) (σ0 : zS), f_X11_setGrid T N s0 a0 x1 = some (r0, σ0) → Met l yX11_setGrid wsX11_setGrid ({ frames := 5, cells := 0, slots := 0, locals := 106 }) (va_Pc [.ref (ad a0), .int x1] (zPre D cy T ad s0 sz)) (va_Qi (fun (r2 : Int32) (σ2 : zS) => r2 = r0 ∧ σ2 = σ0) (zAt D cy T ad (zA T ad sz)) (zA T ad sz)) 0 0 (zA T ad sz) := by
  intro r0 σ0 hq
  refine Met.ofW (cc := cX11_setGrid) (maxL := 3) (ret := (some .int)) (by decide) rfl ?_
  intro p e s m args below meth c s₁ B hml hv
  obtain ⟨hargs, hsz, hP, hK, hD0, hN⟩ := hv
  have hx := B.exec
  have hb := B.bytes
  have hr := B.returns
  have hts := atoms_spec (ws := wsX11_setGrid) B.pre
  have hown : s.vm.findClass RX11 = some m.cls := findClass_of_methodNamed B.named
  have hlocks := B.notSynchronized
  have S : CallFix p m c cX11_setGrid 3 s args wsX11_setGrid RX11 := ⟨hx, hb, hml, hown, hts⟩
  subst hsz
  have hB : zB D cy T ad (zA T ad s.heap.size) s.heap s0 s.heap [] s := zz_entry hP hK hD0 hN
  obtain ⟨ls, hent, hl⟩ := zz_ent m hargs (n := 3) (Nat.le_of_ble_eq_true rfl)
  rw [hent]
  have hl : lv_has ls 3 [(0, .ref (ad a0)), (1, .int x1)] := hl
  have iwX11 : ∀ w ∈ u_ws RX11 TX11 5, w ∈ wsX11_setGrid := by decide +kernel
  have iwX2 : ∀ w ∈ u_ws RX2 TX2 4, w ∈ wsX11_setGrid := by decide +kernel
  have iwX4 : ∀ w ∈ u_ws RX4 TX4 5, w ∈ wsX11_setGrid := by decide +kernel
  have lk0 : Cond.fieldLink RX11 19 "DiagramDesk" "history" "LDiagramDesk$History;" ∈ wsX11_setGrid := by decide +kernel
  have lk1 : Cond.fieldLink RX11 10 "DiagramDesk" "now" "LDiagramDesk$Diagram;" ∈ wsX11_setGrid := by decide +kernel
  have lk2 : Cond.fieldLink RX11 250 "DiagramDesk$Diagram" "guides" "LDiagramDesk$Guides;" ∈ wsX11_setGrid := by decide +kernel
  have lk3 : Cond.fieldLink RX11 259 "DiagramDesk$Guides" "grid" "I" ∈ wsX11_setGrid := by decide +kernel
  unfold f_X11_setGrid at hq
  refine zz_guard hq (fun hk0 hq => ?_)
  refine lv_iload_n hx hb dX11_setGrid_0 rfl (lv_at hl 1 rfl) ?_
  refine lv_iconst (v := 0) hx hb dX11_setGrid_1 (by decide) ?_
  refine lv_bipush (v := 100) hx hb dX11_setGrid_2 (by decide) ?_
  refine zz_callSi S hT hB (As := [.int x1, .int (0 : Int32), .int (100 : Int32)]) (o := f_X11_isWithin T N s0 x1 (0 : Int32) (100 : Int32)) (c_X11_isWithin l D cy T hT ad N s0 _ x1 (0 : Int32) (100 : Int32)) (va_cwS 3 hts gX11_setGrid_X11_isWithin rfl rfl rfl (by decide +kernel) ⟨Nat.le_of_ble_eq_true rfl, Nat.le_of_ble_eq_true rfl⟩) rfl hl.1 rfl (Nat.le_of_ble_eq_true rfl) dX11_setGrid_4 hq (fun x5 s4 H locs hq hB => ?_)
  refine zz_if_ne (tgt := 12) hx hb dX11_setGrid_7 (by decide) hq (fun hq => ?_) (fun hq => ?_)
  · refine lv_aload_n hx hb dX11_setGrid_12 rfl (lv_at hl 0 rfl) ?_
    refine zz_getR S hT hB (C := RX11) (ref := "DiagramDesk") (F := TX11) (N := 5) (index := 19) 11 1 iwX11 rfl (by decide) (by decide) rfl rfl lk0 (fun _ h9 => h9) dX11_setGrid_13 hq (fun a6 hq => ?_)
    refine lv_aload_n hx hb dX11_setGrid_16 rfl (lv_at hl 0 rfl) ?_
    refine zz_getR S hT hB (C := RX11) (ref := "DiagramDesk") (F := TX11) (N := 5) (index := 10) 11 0 iwX11 rfl (by decide) (by decide) rfl rfl lk1 (fun _ h9 => h9) dX11_setGrid_17 hq (fun a7 hq => ?_)
    refine zz_callVv S hT hB (As := [.ref (ad a7)]) (b := a6) (o := f_X5_keep T N s4 a6 a7) (c_X5_keep l D cy T hT ad N s4 _ a6 a7) (cwV 1 hts gX11_setGrid_X5_keep rfl rfl rfl (by decide +kernel) ⟨Nat.le_of_ble_eq_true rfl, Nat.le_of_ble_eq_true rfl⟩) (F := TX5) (NF := 2) 5 rfl (by decide) (k_X5_keep T N s4 a6 a7) rfl hl.1 rfl (Nat.le_of_ble_eq_true rfl) dX11_setGrid_20 hq (fun s8 H locs hq hB => ?_)
    refine lv_aload_n hx hb dX11_setGrid_23 rfl (lv_at hl 0 rfl) ?_
    refine zz_getR S hT hB (C := RX11) (ref := "DiagramDesk") (F := TX11) (N := 5) (index := 10) 11 0 iwX11 rfl (by decide) (by decide) rfl rfl lk1 (fun _ h9 => h9) dX11_setGrid_24 hq (fun a9 hq => ?_)
    refine zz_getR S hT hB (C := RX2) (ref := "DiagramDesk$Diagram") (F := TX2) (N := 4) (index := 250) 2 3 iwX2 rfl (by decide) (by decide) rfl rfl lk2 (fun _ h9 => h9) dX11_setGrid_27 hq (fun a10 hq => ?_)
    refine zz_get S hT hB (C := RX4) (ref := "DiagramDesk$Guides") (F := TX4) (N := 5) (index := 259) 4 3 iwX4 rfl (by decide) (by decide) rfl rfl lk3 (fun _ h9 => h9) dX11_setGrid_30 hq (fun x11 hq => ?_)
    refine lv_istore_n (lv' := [(2, .int x11), (0, .ref (ad a0)), (1, .int x1)]) hx hb dX11_setGrid_33 rfl hl (by decide) rfl (fun ls hl => ?_)
    refine lv_aload_n hx hb dX11_setGrid_34 rfl (lv_at hl 1 rfl) ?_
    refine zz_getR S hT hB (C := RX11) (ref := "DiagramDesk") (F := TX11) (N := 5) (index := 10) 11 0 iwX11 rfl (by decide) (by decide) rfl rfl lk1 (fun _ h9 => h9) dX11_setGrid_35 hq (fun a12 hq => ?_)
    refine zz_getR S hT hB (C := RX2) (ref := "DiagramDesk$Diagram") (F := TX2) (N := 4) (index := 250) 2 3 iwX2 rfl (by decide) (by decide) rfl rfl lk2 (fun _ h9 => h9) dX11_setGrid_38 hq (fun a13 hq => ?_)
    refine lv_iload_n hx hb dX11_setGrid_41 rfl (lv_at hl 2 rfl) ?_
    refine zz_put S hT hB (C := RX4) (ref := "DiagramDesk$Guides") (F := TX4) (N := 5) (index := 259) 4 3 iwX4 tyX4 tyX4_ok nmX4 rfl (by decide) (by decide) rfl rfl lk3 (fun _ h9 => h9) rfl (by decide +kernel) dX11_setGrid_42 hq (fun s14 H locs hq hB => ?_)
    refine lv_iload_n hx hb dX11_setGrid_45 rfl (lv_at hl 0 rfl) ?_
    exact zz_iret S hB hr hlocks dX11_setGrid_46 hq
  · refine lv_iconst (v := -1) hx hb dX11_setGrid_10 (by decide) ?_
    exact zz_iret S hB hr hlocks dX11_setGrid_11 hq
def f_X11_setTolerance (T : zT) (N : Nat) (s0 : zS) (a0 : Nat) (x1 : Int32) : Option (Int32 × zS) :=
  zz1 (T.1 a0 = 11) <|
  zb2 (f_X11_isWithin T N s0 x1 (0 : Int32) (50 : Int32)) fun x5 s4 =>
  if ¬ x5 = 0 then (
    (gR T s4 a0 11 1).bind fun a6 =>
    (gR T s4 a0 11 0).bind fun a7 =>
    (f_X5_keep T N s4 a6 a7).bind fun s8 =>
    (gR T s8 a0 11 0).bind fun a9 =>
    (gR T s8 a9 2 3).bind fun a10 =>
    (gI T s8 a10 4 4).bind fun x11 =>
    (gR T s8 a0 11 0).bind fun a12 =>
    (gR T s8 a12 2 3).bind fun a13 =>
    (pI T s8 a13 4 4 x1).bind fun s14 =>
    some (x11, s14))
  else (
    some ((-1 : Int32), s4))
theorem k_X11_setTolerance (T : zT) (N : Nat) (s0 : zS) (a0 : Nat) (x1 : Int32) : ∀ q, f_X11_setTolerance T N s0 a0 x1 = some q → T.1 a0 = 11 := by
  intro q h
  unfold f_X11_setTolerance at h
  exact zz_guard h (fun h _ => h)
set_option maxHeartbeats 4000000 in
set_option maxRecDepth 100000 in
theorem c_X11_setTolerance (l : Launch) (D : va_G) (cy : Nat → ClassId) (T : zT) (hT : zok T) (ad : Nat → Nat) (N : Nat) (s0 : zS) (sz : Nat) (a0 : Nat) (x1 : Int32) : ∀ (r0 : Int32) (σ0 : zS), f_X11_setTolerance T N s0 a0 x1 = some (r0, σ0) → Met l yX11_setTolerance wsX11_setTolerance ({ frames := 5, cells := 0, slots := 0, locals := 106 }) (va_Pc [.ref (ad a0), .int x1] (zPre D cy T ad s0 sz)) (va_Qi (fun (r2 : Int32) (σ2 : zS) => r2 = r0 ∧ σ2 = σ0) (zAt D cy T ad (zA T ad sz)) (zA T ad sz)) 0 0 (zA T ad sz) := by
  intro r0 σ0 hq
  refine Met.ofW (cc := cX11_setTolerance) (maxL := 3) (ret := (some .int)) (by decide) rfl ?_
  intro p e s m args below meth c s₁ B hml hv
  obtain ⟨hargs, hsz, hP, hK, hD0, hN⟩ := hv
  have hx := B.exec
  have hb := B.bytes
  have hr := B.returns
  have hts := atoms_spec (ws := wsX11_setTolerance) B.pre
  have hown : s.vm.findClass RX11 = some m.cls := findClass_of_methodNamed B.named
  have hlocks := B.notSynchronized
  have S : CallFix p m c cX11_setTolerance 3 s args wsX11_setTolerance RX11 := ⟨hx, hb, hml, hown, hts⟩
  subst hsz
  have hB : zB D cy T ad (zA T ad s.heap.size) s.heap s0 s.heap [] s := zz_entry hP hK hD0 hN
  obtain ⟨ls, hent, hl⟩ := zz_ent m hargs (n := 3) (Nat.le_of_ble_eq_true rfl)
  rw [hent]
  have hl : lv_has ls 3 [(0, .ref (ad a0)), (1, .int x1)] := hl
  have iwX11 : ∀ w ∈ u_ws RX11 TX11 5, w ∈ wsX11_setTolerance := by decide +kernel
  have iwX2 : ∀ w ∈ u_ws RX2 TX2 4, w ∈ wsX11_setTolerance := by decide +kernel
  have iwX4 : ∀ w ∈ u_ws RX4 TX4 5, w ∈ wsX11_setTolerance := by decide +kernel
  have lk0 : Cond.fieldLink RX11 19 "DiagramDesk" "history" "LDiagramDesk$History;" ∈ wsX11_setTolerance := by decide +kernel
  have lk1 : Cond.fieldLink RX11 10 "DiagramDesk" "now" "LDiagramDesk$Diagram;" ∈ wsX11_setTolerance := by decide +kernel
  have lk2 : Cond.fieldLink RX11 250 "DiagramDesk$Diagram" "guides" "LDiagramDesk$Guides;" ∈ wsX11_setTolerance := by decide +kernel
  have lk3 : Cond.fieldLink RX11 262 "DiagramDesk$Guides" "tolerance" "I" ∈ wsX11_setTolerance := by decide +kernel
  unfold f_X11_setTolerance at hq
  refine zz_guard hq (fun hk0 hq => ?_)
  refine lv_iload_n hx hb dX11_setTolerance_0 rfl (lv_at hl 1 rfl) ?_
  refine lv_iconst (v := 0) hx hb dX11_setTolerance_1 (by decide) ?_
  refine lv_bipush (v := 50) hx hb dX11_setTolerance_2 (by decide) ?_
  refine zz_callSi S hT hB (As := [.int x1, .int (0 : Int32), .int (50 : Int32)]) (o := f_X11_isWithin T N s0 x1 (0 : Int32) (50 : Int32)) (c_X11_isWithin l D cy T hT ad N s0 _ x1 (0 : Int32) (50 : Int32)) (va_cwS 3 hts gX11_setTolerance_X11_isWithin rfl rfl rfl (by decide +kernel) ⟨Nat.le_of_ble_eq_true rfl, Nat.le_of_ble_eq_true rfl⟩) rfl hl.1 rfl (Nat.le_of_ble_eq_true rfl) dX11_setTolerance_4 hq (fun x5 s4 H locs hq hB => ?_)
  refine zz_if_ne (tgt := 12) hx hb dX11_setTolerance_7 (by decide) hq (fun hq => ?_) (fun hq => ?_)
  · refine lv_aload_n hx hb dX11_setTolerance_12 rfl (lv_at hl 0 rfl) ?_
    refine zz_getR S hT hB (C := RX11) (ref := "DiagramDesk") (F := TX11) (N := 5) (index := 19) 11 1 iwX11 rfl (by decide) (by decide) rfl rfl lk0 (fun _ h9 => h9) dX11_setTolerance_13 hq (fun a6 hq => ?_)
    refine lv_aload_n hx hb dX11_setTolerance_16 rfl (lv_at hl 0 rfl) ?_
    refine zz_getR S hT hB (C := RX11) (ref := "DiagramDesk") (F := TX11) (N := 5) (index := 10) 11 0 iwX11 rfl (by decide) (by decide) rfl rfl lk1 (fun _ h9 => h9) dX11_setTolerance_17 hq (fun a7 hq => ?_)
    refine zz_callVv S hT hB (As := [.ref (ad a7)]) (b := a6) (o := f_X5_keep T N s4 a6 a7) (c_X5_keep l D cy T hT ad N s4 _ a6 a7) (cwV 1 hts gX11_setTolerance_X5_keep rfl rfl rfl (by decide +kernel) ⟨Nat.le_of_ble_eq_true rfl, Nat.le_of_ble_eq_true rfl⟩) (F := TX5) (NF := 2) 5 rfl (by decide) (k_X5_keep T N s4 a6 a7) rfl hl.1 rfl (Nat.le_of_ble_eq_true rfl) dX11_setTolerance_20 hq (fun s8 H locs hq hB => ?_)
    refine lv_aload_n hx hb dX11_setTolerance_23 rfl (lv_at hl 0 rfl) ?_
    refine zz_getR S hT hB (C := RX11) (ref := "DiagramDesk") (F := TX11) (N := 5) (index := 10) 11 0 iwX11 rfl (by decide) (by decide) rfl rfl lk1 (fun _ h9 => h9) dX11_setTolerance_24 hq (fun a9 hq => ?_)
    refine zz_getR S hT hB (C := RX2) (ref := "DiagramDesk$Diagram") (F := TX2) (N := 4) (index := 250) 2 3 iwX2 rfl (by decide) (by decide) rfl rfl lk2 (fun _ h9 => h9) dX11_setTolerance_27 hq (fun a10 hq => ?_)
    refine zz_get S hT hB (C := RX4) (ref := "DiagramDesk$Guides") (F := TX4) (N := 5) (index := 262) 4 4 iwX4 rfl (by decide) (by decide) rfl rfl lk3 (fun _ h9 => h9) dX11_setTolerance_30 hq (fun x11 hq => ?_)
    refine lv_istore_n (lv' := [(2, .int x11), (0, .ref (ad a0)), (1, .int x1)]) hx hb dX11_setTolerance_33 rfl hl (by decide) rfl (fun ls hl => ?_)
    refine lv_aload_n hx hb dX11_setTolerance_34 rfl (lv_at hl 1 rfl) ?_
    refine zz_getR S hT hB (C := RX11) (ref := "DiagramDesk") (F := TX11) (N := 5) (index := 10) 11 0 iwX11 rfl (by decide) (by decide) rfl rfl lk1 (fun _ h9 => h9) dX11_setTolerance_35 hq (fun a12 hq => ?_)
    refine zz_getR S hT hB (C := RX2) (ref := "DiagramDesk$Diagram") (F := TX2) (N := 4) (index := 250) 2 3 iwX2 rfl (by decide) (by decide) rfl rfl lk2 (fun _ h9 => h9) dX11_setTolerance_38 hq (fun a13 hq => ?_)
    refine lv_iload_n hx hb dX11_setTolerance_41 rfl (lv_at hl 2 rfl) ?_
    refine zz_put S hT hB (C := RX4) (ref := "DiagramDesk$Guides") (F := TX4) (N := 5) (index := 262) 4 4 iwX4 tyX4 tyX4_ok nmX4 rfl (by decide) (by decide) rfl rfl lk3 (fun _ h9 => h9) rfl (by decide +kernel) dX11_setTolerance_42 hq (fun s14 H locs hq hB => ?_)
    refine lv_iload_n hx hb dX11_setTolerance_45 rfl (lv_at hl 0 rfl) ?_
    exact zz_iret S hB hr hlocks dX11_setTolerance_46 hq
  · refine lv_iconst (v := -1) hx hb dX11_setTolerance_10 (by decide) ?_
    exact zz_iret S hB hr hlocks dX11_setTolerance_11 hq
def f_X11_type (T : zT) (N : Nat) (s0 : zS) (a0 : Nat) (x1 : Int32) : Option (Int32 × zS) :=
  zz1 (T.1 a0 = 11) <|
  zb2 (f_X11_isWithin T N s0 x1 (32 : Int32) (126 : Int32)) fun x5 s4 =>
  if ¬ x5 = 0 then (
    (gR T s4 a0 11 2).bind fun a6 =>
    zb2 (f_X9_append T N s4 a6 x1) fun x8 s7 =>
    if x8 = 0 then (
      some ((-3 : Int32), s7))
    else (
      (gR T s7 a0 11 2).bind fun a9 =>
      (gI T s7 a9 9 2).bind fun x10 =>
      some (x10, s7)))
  else (
    some ((-1 : Int32), s4))
theorem k_X11_type (T : zT) (N : Nat) (s0 : zS) (a0 : Nat) (x1 : Int32) : ∀ q, f_X11_type T N s0 a0 x1 = some q → T.1 a0 = 11 := by
  intro q h
  unfold f_X11_type at h
  exact zz_guard h (fun h _ => h)
set_option maxHeartbeats 4000000 in
set_option maxRecDepth 100000 in
theorem c_X11_type (l : Launch) (D : va_G) (cy : Nat → ClassId) (T : zT) (hT : zok T) (ad : Nat → Nat) (N : Nat) (s0 : zS) (sz : Nat) (a0 : Nat) (x1 : Int32) : ∀ (r0 : Int32) (σ0 : zS), f_X11_type T N s0 a0 x1 = some (r0, σ0) → Met l yX11_type wsX11_type ({ frames := 1, cells := 0, slots := 0, locals := 22 }) (va_Pc [.ref (ad a0), .int x1] (zPre D cy T ad s0 sz)) (va_Qi (fun (r2 : Int32) (σ2 : zS) => r2 = r0 ∧ σ2 = σ0) (zAt D cy T ad (zA T ad sz)) (zA T ad sz)) 0 0 (zA T ad sz) := by
  intro r0 σ0 hq
  refine Met.ofW (cc := cX11_type) (maxL := 2) (ret := (some .int)) (by decide) rfl ?_
  intro p e s m args below meth c s₁ B hml hv
  obtain ⟨hargs, hsz, hP, hK, hD0, hN⟩ := hv
  have hx := B.exec
  have hb := B.bytes
  have hr := B.returns
  have hts := atoms_spec (ws := wsX11_type) B.pre
  have hown : s.vm.findClass RX11 = some m.cls := findClass_of_methodNamed B.named
  have hlocks := B.notSynchronized
  have S : CallFix p m c cX11_type 2 s args wsX11_type RX11 := ⟨hx, hb, hml, hown, hts⟩
  subst hsz
  have hB : zB D cy T ad (zA T ad s.heap.size) s.heap s0 s.heap [] s := zz_entry hP hK hD0 hN
  obtain ⟨ls, hent, hl⟩ := zz_ent m hargs (n := 2) (Nat.le_of_ble_eq_true rfl)
  rw [hent]
  have hl : lv_has ls 2 [(0, .ref (ad a0)), (1, .int x1)] := hl
  have iwX11 : ∀ w ∈ u_ws RX11 TX11 5, w ∈ wsX11_type := by decide +kernel
  have iwX9 : ∀ w ∈ u_ws RX9 TX9 7, w ∈ wsX11_type := by decide +kernel
  have lk0 : Cond.fieldLink RX11 26 "DiagramDesk" "text" "LDiagramDesk$Text;" ∈ wsX11_type := by decide +kernel
  have lk1 : Cond.fieldLink RX11 268 "DiagramDesk$Text" "count" "I" ∈ wsX11_type := by decide +kernel
  unfold f_X11_type at hq
  refine zz_guard hq (fun hk0 hq => ?_)
  refine lv_iload_n hx hb dX11_type_0 rfl (lv_at hl 1 rfl) ?_
  refine lv_bipush (v := 32) hx hb dX11_type_1 (by decide) ?_
  refine lv_bipush (v := 126) hx hb dX11_type_3 (by decide) ?_
  refine zz_callSi S hT hB (As := [.int x1, .int (32 : Int32), .int (126 : Int32)]) (o := f_X11_isWithin T N s0 x1 (32 : Int32) (126 : Int32)) (c_X11_isWithin l D cy T hT ad N s0 _ x1 (32 : Int32) (126 : Int32)) (va_cwS 3 hts gX11_type_X11_isWithin rfl rfl rfl (by decide +kernel) ⟨Nat.le_of_ble_eq_true rfl, Nat.le_of_ble_eq_true rfl⟩) rfl hl.1 rfl (Nat.le_of_ble_eq_true rfl) dX11_type_5 hq (fun x5 s4 H locs hq hB => ?_)
  refine zz_if_ne (tgt := 13) hx hb dX11_type_8 (by decide) hq (fun hq => ?_) (fun hq => ?_)
  · refine lv_aload_n hx hb dX11_type_13 rfl (lv_at hl 0 rfl) ?_
    refine zz_getR S hT hB (C := RX11) (ref := "DiagramDesk") (F := TX11) (N := 5) (index := 26) 11 2 iwX11 rfl (by decide) (by decide) rfl rfl lk0 (fun _ h9 => h9) dX11_type_14 hq (fun a6 hq => ?_)
    refine lv_iload_n hx hb dX11_type_17 rfl (lv_at hl 1 rfl) ?_
    refine zz_callVi S hT hB (As := [.int x1]) (b := a6) (o := f_X9_append T N s4 a6 x1) (c_X9_append l D cy T hT ad N s4 _ a6 x1) (cwV 1 hts gX11_type_X9_append rfl rfl rfl (by decide +kernel) ⟨Nat.le_of_ble_eq_true rfl, Nat.le_of_ble_eq_true rfl⟩) (F := TX9) (NF := 7) 9 rfl (by decide) (k_X9_append T N s4 a6 x1) rfl hl.1 rfl (Nat.le_of_ble_eq_true rfl) dX11_type_18 hq (fun x8 s7 H locs hq hB => ?_)
    refine zz_if_eq (tgt := 34) hx hb dX11_type_21 (by decide) hq (fun hq => ?_) (fun hq => ?_)
    · refine lv_bipush (v := -3) hx hb dX11_type_34 (by decide) ?_
      exact zz_iret S hB hr hlocks dX11_type_36 hq
    · refine lv_aload_n hx hb dX11_type_24 rfl (lv_at hl 0 rfl) ?_
      refine zz_getR S hT hB (C := RX11) (ref := "DiagramDesk") (F := TX11) (N := 5) (index := 26) 11 2 iwX11 rfl (by decide) (by decide) rfl rfl lk0 (fun _ h9 => h9) dX11_type_25 hq (fun a9 hq => ?_)
      refine zz_get S hT hB (C := RX9) (ref := "DiagramDesk$Text") (F := TX9) (N := 7) (index := 268) 9 2 iwX9 rfl (by decide) (by decide) rfl rfl lk1 (fun _ h9 => h9) dX11_type_28 hq (fun x10 hq => ?_)
      refine lv_goto (tgt := 36) hx hb dX11_type_31 (by decide) ?_
      exact zz_iret S hB hr hlocks dX11_type_36 hq
  · refine lv_iconst (v := -1) hx hb dX11_type_11 (by decide) ?_
    exact zz_iret S hB hr hlocks dX11_type_12 hq
