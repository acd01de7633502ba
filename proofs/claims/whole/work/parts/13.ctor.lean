def f_X6_init (T0 : zT) (N : Nat) (s0 : zS) (a0 : Nat) : Option (zT × zS) :=
  zz1 (T0.1 a0 = 6) <|
  zz1 (0 ≤ 0 ∧ 0 ≤ 0) <|
  some (T0, s0)
set_option maxHeartbeats 4000000 in
set_option maxRecDepth 100000 in
theorem c_X6_init (l : Launch) (D : va_G) (cy : Nat → ClassId) (T0 : zT) (hT : zok T0) {s0 : zS} (hC : zcl T0 s0) (ad0 : Nat → Nat) (N : Nat) (sz : Nat) (a0 : Nat) : ∀ (T9 : zT) (s9 : zS), f_X6_init T0 N s0 a0 = some (T9, s9) → Met l yX6_init wsX6_init ({ frames := 1, cells := 0, slots := 0, locals := 20 }) (va_Pc [.ref (ad0 a0)] (zPre D cy T0 ad0 s0 sz)) (zQn D cy T0 ad0 sz T9 s9) 0 0 (zA T0 ad0 sz) := by
  intro T9 s9 hq
  refine Met.ofW (cc := cX6_init) (maxL := 1) (ret := none) (by decide) rfl ?_
  intro p e s m args below meth c s₁ B hml hv
  obtain ⟨hargs, hsz, hP, hK, hD0, hN⟩ := hv
  have hx := B.exec
  have hb := B.bytes
  have hr := B.returns
  have hts := atoms_spec (ws := wsX6_init) B.pre
  have hown : s.vm.findClass RX6 = some m.cls := findClass_of_methodNamed B.named
  have hlocks := B.notSynchronized
  have hin : meth.name = "<init>" := (name_of_methodNamed B.named B.method).1
  have S : CallFix p m c cX6_init 1 s args wsX6_init RX6 := ⟨hx, hb, hml, hown, hts⟩
  subst hsz
  have hZ : zD D cy T0 ad0 (zA T0 ad0 s.heap.size) s.heap s0 s.heap [] s := ⟨zz_entry hP hK hD0 hN, hT, hC⟩
  obtain ⟨ls, hent, hl⟩ := zz_ent m hargs (n := 1) (Nat.le_of_ble_eq_true rfl)
  rw [hent]
  have hl : lv_has ls 1 [(0, .ref (ad0 a0))] := hl
  unfold f_X6_init at hq
  refine zz_guard hq (fun hk0 hq => ?_)
  have h_a0 : a0 < T0.2.2 := hT a0 (by omega)
  have hG : zG T0 ad0 T0 ad0 := zG_rf
  refine lv_aload_n hx hb dX6_init_0 rfl (lv_at hl 0 rfl) ?_
  refine W.objInit hx hb hown (hts _ (wS wd_801)) (hts _ (wS wd_802)) (hts _ (wS wd_803)) rfl (by rw [hml]; exact hl.1) rfl dX6_init_1 (Nat.le_of_ble_eq_true rfl) (Nat.le_of_ble_eq_true rfl) ?_
  refine W.eq (g2 := F0 m 4 ls []) rfl ?_
  refine zz_guard hq (fun hg hq => ?_)
  exact zz_cret S hZ hG hr hlocks dX6_init_4 hg hq rfl
def f_X0_init (T0 : zT) (N : Nat) (s0 : zS) (a0 : Nat) : Option (zT × zS) :=
  zz1 (T0.1 a0 = 0) <|
  zz1 (0 ≤ 0 ∧ 0 ≤ 0) <|
  some (T0, s0)
set_option maxHeartbeats 4000000 in
set_option maxRecDepth 100000 in
theorem c_X0_init (l : Launch) (D : va_G) (cy : Nat → ClassId) (T0 : zT) (hT : zok T0) {s0 : zS} (hC : zcl T0 s0) (ad0 : Nat → Nat) (N : Nat) (sz : Nat) (a0 : Nat) : ∀ (T9 : zT) (s9 : zS), f_X0_init T0 N s0 a0 = some (T9, s9) → Met l yX0_init wsX0_init ({ frames := 1, cells := 0, slots := 0, locals := 20 }) (va_Pc [.ref (ad0 a0)] (zPre D cy T0 ad0 s0 sz)) (zQn D cy T0 ad0 sz T9 s9) 0 0 (zA T0 ad0 sz) := by
  intro T9 s9 hq
  refine Met.ofW (cc := cX0_init) (maxL := 1) (ret := none) (by decide) rfl ?_
  intro p e s m args below meth c s₁ B hml hv
  obtain ⟨hargs, hsz, hP, hK, hD0, hN⟩ := hv
  have hx := B.exec
  have hb := B.bytes
  have hr := B.returns
  have hts := atoms_spec (ws := wsX0_init) B.pre
  have hown : s.vm.findClass RX0 = some m.cls := findClass_of_methodNamed B.named
  have hlocks := B.notSynchronized
  have hin : meth.name = "<init>" := (name_of_methodNamed B.named B.method).1
  have S : CallFix p m c cX0_init 1 s args wsX0_init RX0 := ⟨hx, hb, hml, hown, hts⟩
  subst hsz
  have hZ : zD D cy T0 ad0 (zA T0 ad0 s.heap.size) s.heap s0 s.heap [] s := ⟨zz_entry hP hK hD0 hN, hT, hC⟩
  obtain ⟨ls, hent, hl⟩ := zz_ent m hargs (n := 1) (Nat.le_of_ble_eq_true rfl)
  rw [hent]
  have hl : lv_has ls 1 [(0, .ref (ad0 a0))] := hl
  unfold f_X0_init at hq
  refine zz_guard hq (fun hk0 hq => ?_)
  have h_a0 : a0 < T0.2.2 := hT a0 (by omega)
  have hG : zG T0 ad0 T0 ad0 := zG_rf
  refine lv_aload_n hx hb dX0_init_0 rfl (lv_at hl 0 rfl) ?_
  refine W.objInit hx hb hown (hts _ (wS wd_804)) (hts _ (wS wd_802)) (hts _ (wS wd_803)) rfl (by rw [hml]; exact hl.1) rfl dX0_init_1 (Nat.le_of_ble_eq_true rfl) (Nat.le_of_ble_eq_true rfl) ?_
  refine W.eq (g2 := F0 m 4 ls []) rfl ?_
  refine zz_guard hq (fun hg hq => ?_)
  exact zz_cret S hZ hG hr hlocks dX0_init_4 hg hq rfl
def f_X8_init (T0 : zT) (N : Nat) (s0 : zS) (a0 : Nat) : Option (zT × zS) :=
  zz1 (T0.1 a0 = 8) <|
  zz1 (0 ≤ 0 ∧ 0 ≤ 0) <|
  some (T0, s0)
set_option maxHeartbeats 4000000 in
set_option maxRecDepth 100000 in
theorem c_X8_init (l : Launch) (D : va_G) (cy : Nat → ClassId) (T0 : zT) (hT : zok T0) {s0 : zS} (hC : zcl T0 s0) (ad0 : Nat → Nat) (N : Nat) (sz : Nat) (a0 : Nat) : ∀ (T9 : zT) (s9 : zS), f_X8_init T0 N s0 a0 = some (T9, s9) → Met l yX8_init wsX8_init ({ frames := 1, cells := 0, slots := 0, locals := 20 }) (va_Pc [.ref (ad0 a0)] (zPre D cy T0 ad0 s0 sz)) (zQn D cy T0 ad0 sz T9 s9) 0 0 (zA T0 ad0 sz) := by
  intro T9 s9 hq
  refine Met.ofW (cc := cX8_init) (maxL := 1) (ret := none) (by decide) rfl ?_
  intro p e s m args below meth c s₁ B hml hv
  obtain ⟨hargs, hsz, hP, hK, hD0, hN⟩ := hv
  have hx := B.exec
  have hb := B.bytes
  have hr := B.returns
  have hts := atoms_spec (ws := wsX8_init) B.pre
  have hown : s.vm.findClass RX8 = some m.cls := findClass_of_methodNamed B.named
  have hlocks := B.notSynchronized
  have hin : meth.name = "<init>" := (name_of_methodNamed B.named B.method).1
  have S : CallFix p m c cX8_init 1 s args wsX8_init RX8 := ⟨hx, hb, hml, hown, hts⟩
  subst hsz
  have hZ : zD D cy T0 ad0 (zA T0 ad0 s.heap.size) s.heap s0 s.heap [] s := ⟨zz_entry hP hK hD0 hN, hT, hC⟩
  obtain ⟨ls, hent, hl⟩ := zz_ent m hargs (n := 1) (Nat.le_of_ble_eq_true rfl)
  rw [hent]
  have hl : lv_has ls 1 [(0, .ref (ad0 a0))] := hl
  unfold f_X8_init at hq
  refine zz_guard hq (fun hk0 hq => ?_)
  have h_a0 : a0 < T0.2.2 := hT a0 (by omega)
  have hG : zG T0 ad0 T0 ad0 := zG_rf
  refine lv_aload_n hx hb dX8_init_0 rfl (lv_at hl 0 rfl) ?_
  refine W.objInit hx hb hown (hts _ (wS wd_805)) (hts _ (wS wd_802)) (hts _ (wS wd_803)) rfl (by rw [hml]; exact hl.1) rfl dX8_init_1 (Nat.le_of_ble_eq_true rfl) (Nat.le_of_ble_eq_true rfl) ?_
  refine W.eq (g2 := F0 m 4 ls []) rfl ?_
  refine zz_guard hq (fun hg hq => ?_)
  exact zz_cret S hZ hG hr hlocks dX8_init_4 hg hq rfl
def f_X3_init (T0 : zT) (N : Nat) (s0 : zS) (a0 : Nat) : Option (zT × zS) :=
  zz1 (T0.1 a0 = 3) <|
  zz1 (1 ≤ 2 ∧ 8 ≤ 16) <|
  zb2 (nO T0 s0 14 8) fun T1 s101 =>
  (pR T1 s101 a0 3 0 T0.2.2).bind fun s102 =>
  zz1 (2 ≤ 2 ∧ 16 ≤ 16) <|
  zb2 (nO T1 s102 13 8) fun T3 s103 =>
  (pR T3 s103 a0 3 1 T1.2.2).bind fun s104 =>
  zz1 (2 ≤ 2 ∧ 16 ≤ 16) <|
  some (T3, s104)
set_option maxHeartbeats 4000000 in
set_option maxRecDepth 100000 in
theorem c_X3_init (l : Launch) (D : va_G) (cy : Nat → ClassId) (T0 : zT) (hT : zok T0) {s0 : zS} (hC : zcl T0 s0) (ad0 : Nat → Nat) (N : Nat) (sz : Nat) (a0 : Nat) : ∀ (T9 : zT) (s9 : zS), f_X3_init T0 N s0 a0 = some (T9, s9) → Met l yX3_init wsX3_init ({ frames := 1, cells := 2, slots := 16, locals := 20 }) (va_Pc [.ref (ad0 a0)] (zPre D cy T0 ad0 s0 sz)) (zQn D cy T0 ad0 sz T9 s9) 2 16 (zA T0 ad0 sz) := by
  intro T9 s9 hq
  refine Met.ofW (cc := cX3_init) (maxL := 1) (ret := none) (by decide) rfl ?_
  intro p e s m args below meth c s₁ B hml hv
  obtain ⟨hargs, hsz, hP, hK, hD0, hN⟩ := hv
  have hx := B.exec
  have hb := B.bytes
  have hr := B.returns
  have hts := atoms_spec (ws := wsX3_init) B.pre
  have hown : s.vm.findClass RX3 = some m.cls := findClass_of_methodNamed B.named
  have hlocks := B.notSynchronized
  have hin : meth.name = "<init>" := (name_of_methodNamed B.named B.method).1
  have S : CallFix p m c cX3_init 1 s args wsX3_init RX3 := ⟨hx, hb, hml, hown, hts⟩
  subst hsz
  have hZ : zD D cy T0 ad0 (zA T0 ad0 s.heap.size) s.heap s0 s.heap [] s := ⟨zz_entry hP hK hD0 hN, hT, hC⟩
  obtain ⟨ls, hent, hl⟩ := zz_ent m hargs (n := 1) (Nat.le_of_ble_eq_true rfl)
  rw [hent]
  have hl : lv_has ls 1 [(0, .ref (ad0 a0))] := hl
  have iwX3 : ∀ w ∈ u_ws RX3 TX3 2, w ∈ wsX3_init := fun w h => wS (inWX3 w h)
  unfold f_X3_init at hq
  refine zz_guard hq (fun hk0 hq => ?_)
  have h_a0 : a0 < T0.2.2 := hT a0 (by omega)
  have hG : zG T0 ad0 T0 ad0 := zG_rf
  refine lv_aload_n hx hb dX3_init_0 rfl (lv_at hl 0 rfl) ?_
  refine W.objInit hx hb hown (hts _ (wS wd_806)) (hts _ (wS wd_802)) (hts _ (wS wd_803)) rfl (by rw [hml]; exact hl.1) rfl dX3_init_1 (Nat.le_of_ble_eq_true rfl) (Nat.le_of_ble_eq_true rfl) ?_
  refine W.eq (g2 := F0 m 4 ls []) rfl ?_
  refine lv_aload_n hx hb dX3_init_4 rfl (lv_at hl 0 rfl) ?_
  refine lv_bipush (v := 8) hx hb dX3_init_5 (by decide) ?_
  refine zz_guard hq (fun hg hq => ?_)
  refine zz_newZ S hZ 8 (wS wd_807) (by decide) (by decide) (by decide) dX3_init_7 hq hg (fun T1 s101 ad1 H hq hGn hn hZ => ?_)
  obtain ⟨h_a0, eq_0⟩ := hGn _ h_a0
  rw [← eq_0]
  rw [← eq_0] at hl
  have hG := zG_tr hG hGn
  have h_T1 := hn
  refine zz_putRF S hZ hin (C := RX3) (F := TX3) (N := 2) (index := 9) 3 0 iwX3 tyX3 tyX3_ok nmX3 rfl (by decide) (by decide) rfl rfl (wS wd_114) (fun _ h9 => h9) rfl rfl (ty := .array (.boolean)) (by decide +kernel) rfl rfl dX3_init_9 hq (fun s102 H locs hq hZ => ?_)
  refine lv_aload_n hx hb dX3_init_12 rfl (lv_at hl 0 rfl) ?_
  refine lv_bipush (v := 8) hx hb dX3_init_13 (by decide) ?_
  refine zz_guard hq (fun hg hq => ?_)
  refine zz_newI S hZ 8 (wS wd_808) (by decide) (by decide) (by decide) dX3_init_15 hq hg (fun T3 s103 ad3 H hq hGn hn hZ => ?_)
  obtain ⟨h_a0, eq_1⟩ := hGn _ h_a0
  rw [← eq_1]
  rw [← eq_1] at hl
  have hG := zG_tr hG hGn
  have h_T3 := hn
  refine zz_putRF S hZ hin (C := RX3) (F := TX3) (N := 2) (index := 15) 3 1 iwX3 tyX3 tyX3_ok nmX3 rfl (by decide) (by decide) rfl rfl (wS wd_121) (fun _ h9 => h9) rfl rfl (ty := .array (.int)) (by decide +kernel) rfl rfl dX3_init_17 hq (fun s104 H locs hq hZ => ?_)
  refine zz_guard hq (fun hg hq => ?_)
  exact zz_cret S hZ hG hr hlocks dX3_init_20 hg hq rfl
def f_X4_init (T0 : zT) (N : Nat) (s0 : zS) (a0 : Nat) : Option (zT × zS) :=
  zz1 (T0.1 a0 = 4) <|
  zz1 (1 ≤ 2 ∧ 10 ≤ 20) <|
  zb2 (nO T0 s0 13 10) fun T1 s101 =>
  (pR T1 s101 a0 4 0 T0.2.2).bind fun s102 =>
  zz1 (2 ≤ 2 ∧ 20 ≤ 20) <|
  zb2 (nO T1 s102 13 10) fun T3 s103 =>
  (pR T3 s103 a0 4 1 T1.2.2).bind fun s104 =>
  (pI T3 s104 a0 4 4 (5 : Int32)).bind fun s105 =>
  zz1 (2 ≤ 2 ∧ 20 ≤ 20) <|
  some (T3, s105)
set_option maxHeartbeats 4000000 in
set_option maxRecDepth 100000 in
theorem c_X4_init (l : Launch) (D : va_G) (cy : Nat → ClassId) (T0 : zT) (hT : zok T0) {s0 : zS} (hC : zcl T0 s0) (ad0 : Nat → Nat) (N : Nat) (sz : Nat) (a0 : Nat) : ∀ (T9 : zT) (s9 : zS), f_X4_init T0 N s0 a0 = some (T9, s9) → Met l yX4_init wsX4_init ({ frames := 1, cells := 2, slots := 20, locals := 20 }) (va_Pc [.ref (ad0 a0)] (zPre D cy T0 ad0 s0 sz)) (zQn D cy T0 ad0 sz T9 s9) 2 20 (zA T0 ad0 sz) := by
  intro T9 s9 hq
  refine Met.ofW (cc := cX4_init) (maxL := 1) (ret := none) (by decide) rfl ?_
  intro p e s m args below meth c s₁ B hml hv
  obtain ⟨hargs, hsz, hP, hK, hD0, hN⟩ := hv
  have hx := B.exec
  have hb := B.bytes
  have hr := B.returns
  have hts := atoms_spec (ws := wsX4_init) B.pre
  have hown : s.vm.findClass RX4 = some m.cls := findClass_of_methodNamed B.named
  have hlocks := B.notSynchronized
  have hin : meth.name = "<init>" := (name_of_methodNamed B.named B.method).1
  have S : CallFix p m c cX4_init 1 s args wsX4_init RX4 := ⟨hx, hb, hml, hown, hts⟩
  subst hsz
  have hZ : zD D cy T0 ad0 (zA T0 ad0 s.heap.size) s.heap s0 s.heap [] s := ⟨zz_entry hP hK hD0 hN, hT, hC⟩
  obtain ⟨ls, hent, hl⟩ := zz_ent m hargs (n := 1) (Nat.le_of_ble_eq_true rfl)
  rw [hent]
  have hl : lv_has ls 1 [(0, .ref (ad0 a0))] := hl
  have iwX4 : ∀ w ∈ u_ws RX4 TX4 5, w ∈ wsX4_init := fun w h => wS (inWX4 w h)
  unfold f_X4_init at hq
  refine zz_guard hq (fun hk0 hq => ?_)
  have h_a0 : a0 < T0.2.2 := hT a0 (by omega)
  have hG : zG T0 ad0 T0 ad0 := zG_rf
  refine lv_aload_n hx hb dX4_init_0 rfl (lv_at hl 0 rfl) ?_
  refine W.objInit hx hb hown (hts _ (wS wd_809)) (hts _ (wS wd_802)) (hts _ (wS wd_803)) rfl (by rw [hml]; exact hl.1) rfl dX4_init_1 (Nat.le_of_ble_eq_true rfl) (Nat.le_of_ble_eq_true rfl) ?_
  refine W.eq (g2 := F0 m 4 ls []) rfl ?_
  refine lv_aload_n hx hb dX4_init_4 rfl (lv_at hl 0 rfl) ?_
  refine lv_bipush (v := 10) hx hb dX4_init_5 (by decide) ?_
  refine zz_guard hq (fun hg hq => ?_)
  refine zz_newI S hZ 10 (wS wd_808) (by decide) (by decide) (by decide) dX4_init_7 hq hg (fun T1 s101 ad1 H hq hGn hn hZ => ?_)
  obtain ⟨h_a0, eq_0⟩ := hGn _ h_a0
  rw [← eq_0]
  rw [← eq_0] at hl
  have hG := zG_tr hG hGn
  have h_T1 := hn
  refine zz_putRF S hZ hin (C := RX4) (F := TX4) (N := 5) (index := 9) 4 0 iwX4 tyX4 tyX4_ok nmX4 rfl (by decide) (by decide) rfl rfl (wS wd_131) (fun _ h9 => h9) rfl rfl (ty := .array (.int)) (by decide +kernel) rfl rfl dX4_init_9 hq (fun s102 H locs hq hZ => ?_)
  refine lv_aload_n hx hb dX4_init_12 rfl (lv_at hl 0 rfl) ?_
  refine lv_bipush (v := 10) hx hb dX4_init_13 (by decide) ?_
  refine zz_guard hq (fun hg hq => ?_)
  refine zz_newI S hZ 10 (wS wd_808) (by decide) (by decide) (by decide) dX4_init_15 hq hg (fun T3 s103 ad3 H hq hGn hn hZ => ?_)
  obtain ⟨h_a0, eq_1⟩ := hGn _ h_a0
  rw [← eq_1]
  rw [← eq_1] at hl
  have hG := zG_tr hG hGn
  have h_T3 := hn
  refine zz_putRF S hZ hin (C := RX4) (F := TX4) (N := 5) (index := 15) 4 1 iwX4 tyX4 tyX4_ok nmX4 rfl (by decide) (by decide) rfl rfl (wS wd_132) (fun _ h9 => h9) rfl rfl (ty := .array (.int)) (by decide +kernel) rfl rfl dX4_init_17 hq (fun s104 H locs hq hZ => ?_)
  refine lv_aload_n hx hb dX4_init_20 rfl (lv_at hl 0 rfl) ?_
  refine lv_iconst (v := 5) hx hb dX4_init_21 (by decide) ?_
  refine zz_putC S hZ (C := RX4) (ref := "DiagramDesk$Guides") (F := TX4) (N := 5) (index := 18) 4 4 iwX4 tyX4 tyX4_ok nmX4 rfl (by decide) (by decide) rfl rfl (wS wd_134) (fun _ h9 => h9) rfl (by decide +kernel) dX4_init_22 hq (fun s105 H locs hq hZ => ?_)
  refine zz_guard hq (fun hg hq => ?_)
  exact zz_cret S hZ hG hr hlocks dX4_init_25 hg hq rfl
def f_X1_init_L15 (N : Nat) (a0 : Nat) (k15 : Int32 → zT → zS → Nat → Nat → Option (zT × zS)) (x6 : Int32) (T3 : zT) (s103 : zS) (n3 z3 : Nat) : Option (zT × zS) :=
  (gR T3 s103 a0 1 0).bind fun a7 =>
  (aL T3 a7 15).bind fun x8 =>
  if x8 ≤ x6 then (
    zz1 (n3 ≤ 21 ∧ z3 ≤ 120) <|
    some (T3, s103))
  else (
    (gR T3 s103 a0 1 0).bind fun a9 =>
    zz1 (n3 + 1 ≤ 21 ∧ z3 + 5 ≤ 120) <|
    zb2 (nO T3 s103 0 0) fun T4 s104 =>
    zz1 (n3 + 1 ≤ 21 ∧ z3 + 5 ≤ 120) <|
    zb2 (f_X0_init T4 N s104 T3.2.2) fun T5 s105 =>
    (sR T5 s105 a9 15 0 x6 T3.2.2).bind fun s106 =>
    zn (x6 + (1 : Int32)) fun x10 =>
    k15 x10 T5 s106 (n3 + 1) (z3 + 5))
def f_X1_init (T0 : zT) (N : Nat) (s0 : zS) (a0 : Nat) : Option (zT × zS) :=
  zz1 (T0.1 a0 = 1) <|
  zz1 (1 ≤ 21 ∧ 20 ≤ 120) <|
  zb2 (nO T0 s0 15 20) fun T1 s101 =>
  (pR T1 s101 a0 1 0 T0.2.2).bind fun s102 =>
  zl5 (f_X1_init_L15 N a0) N (0 : Int32) T1 s102 (1) (20)
set_option maxHeartbeats 4000000 in
set_option maxRecDepth 100000 in
theorem c_X1_init (l : Launch) (D : va_G) (cy : Nat → ClassId) (T0 : zT) (hT : zok T0) {s0 : zS} (hC : zcl T0 s0) (ad0 : Nat → Nat) (N : Nat) (sz : Nat) (a0 : Nat) : ∀ (T9 : zT) (s9 : zS), f_X1_init T0 N s0 a0 = some (T9, s9) → Met l yX1_init wsX1_init ({ frames := 2, cells := 21, slots := 120, locals := 40 }) (va_Pc [.ref (ad0 a0)] (zPre D cy T0 ad0 s0 sz)) (zQn D cy T0 ad0 sz T9 s9) 21 120 (zA T0 ad0 sz) := by
  intro T9 s9 hq
  refine Met.ofW (cc := cX1_init) (maxL := 2) (ret := none) (by decide) rfl ?_
  intro p e s m args below meth c s₁ B hml hv
  obtain ⟨hargs, hsz, hP, hK, hD0, hN⟩ := hv
  have hx := B.exec
  have hb := B.bytes
  have hr := B.returns
  have hts := atoms_spec (ws := wsX1_init) B.pre
  have hown : s.vm.findClass RX1 = some m.cls := findClass_of_methodNamed B.named
  have hlocks := B.notSynchronized
  have hin : meth.name = "<init>" := (name_of_methodNamed B.named B.method).1
  have S : CallFix p m c cX1_init 2 s args wsX1_init RX1 := ⟨hx, hb, hml, hown, hts⟩
  subst hsz
  have hZ : zD D cy T0 ad0 (zA T0 ad0 s.heap.size) s.heap s0 s.heap [] s := ⟨zz_entry hP hK hD0 hN, hT, hC⟩
  obtain ⟨ls, hent, hl⟩ := zz_ent m hargs (n := 2) (Nat.le_of_ble_eq_true rfl)
  rw [hent]
  have hl : lv_has ls 2 [(0, .ref (ad0 a0))] := hl
  have iwX1 : ∀ w ∈ u_ws RX1 TX1 2, w ∈ wsX1_init := fun w h => wS (inWX1 w h)
  have iwX0 : ∀ w ∈ u_ws RX0 TX0 5, w ∈ wsX1_init := fun w h => wS (inWX0 w h)
  unfold f_X1_init at hq
  refine zz_guard hq (fun hk0 hq => ?_)
  have h_a0 : a0 < T0.2.2 := hT a0 (by omega)
  have hG : zG T0 ad0 T0 ad0 := zG_rf
  refine lv_aload_n hx hb dX1_init_0 rfl (lv_at hl 0 rfl) ?_
  refine W.objInit hx hb hown (hts _ (wS wd_810)) (hts _ (wS wd_802)) (hts _ (wS wd_803)) rfl (by rw [hml]; exact hl.1) rfl dX1_init_1 (Nat.le_of_ble_eq_true rfl) (Nat.le_of_ble_eq_true rfl) ?_
  refine W.eq (g2 := F0 m 4 ls []) rfl ?_
  refine lv_aload_n hx hb dX1_init_4 rfl (lv_at hl 0 rfl) ?_
  refine lv_bipush (v := 20) hx hb dX1_init_5 (by decide) ?_
  refine zz_guard hq (fun hg hq => ?_)
  refine zz_newQ S hZ 20 15 2 (C := RX0) rfl (by decide) (wS wd_811) hN.2.1 (by decide) (by decide) (by decide) dX1_init_7 hq hg (fun T1 s101 ad1 H hq hGn hn hZ => ?_)
  obtain ⟨h_a0, eq_0⟩ := hGn _ h_a0
  rw [← eq_0]
  rw [← eq_0] at hl
  have hG := zG_tr hG hGn
  have h_T1 := hn
  refine zz_putRF S hZ hin (C := RX1) (F := TX1) (N := 2) (index := 11) 1 0 iwX1 tyX1 tyX1_ok nmX1 rfl (by decide) (by decide) rfl rfl (wS wd_80) (fun _ h9 => h9) rfl rfl (ty := .array (.object "DiagramDesk$Connector")) (by decide +kernel) rfl rfl dX1_init_10 hq (fun s102 H locs hq hZ => ?_)
  refine lv_iconst (v := 0) hx hb dX1_init_13 (by decide) ?_
  refine lv_istore_n (lv' := [(1, .int (0 : Int32)), (0, .ref (ad1 a0))]) hx hb dX1_init_14 rfl hl (by decide) rfl (fun ls hl => ?_)
  have L15 : ∀ (n : Nat) (x6 : Int32) (T3 : zT) (s103 : zS) (n3 z3 : Nat) (ad3 : Nat → Nat) (H : Heap) (locs : List Loc) (ls : Array Slot), zl5 (f_X1_init_L15 N a0) n x6 T3 s103 n3 z3 = some (T9, s9) → zG T0 ad0 T3 ad3 → zD D cy T3 ad3 (zA T0 ad0 s.heap.size) s.heap s103 H locs s → a0 < T3.2.2 → lv_has ls 2 [(1, .int x6), (0, .ref (ad3 a0))] → W p l e (headSpec wsX1_init ({ frames := 2, cells := 21, slots := 120, locals := 40 } : Room)).room s m args below meth c H locs n3 z3 (MQ below (zQn D cy T0 ad0 s.heap.size T9 s9) args s 21 120 (zA T0 ad0 s.heap.size)) (F0 m 15 ls []) := by
    intro n
    induction n with
    | zero => intro x6 T3 s103 n3 z3 ad3 H locs ls hq; exact zz_none hq
    | succ n ih15 =>
      intro x6 T3 s103 n3 z3 ad3 H locs ls hq hG hZ h_a0 hl
      rw [zl5] at hq
      generalize zl5 (f_X1_init_L15 N a0) n = k15 at ih15 hq
      unfold f_X1_init_L15 at hq
      refine lv_iload_n hx hb dX1_init_15 rfl (lv_at hl 0 rfl) ?_
      refine lv_aload_n hx hb dX1_init_16 rfl (lv_at hl 1 rfl) ?_
      refine zz_getRC S hZ (C := RX1) (ref := "DiagramDesk$Connectors") (F := TX1) (N := 2) (index := 11) 1 0 iwX1 rfl (by decide) (by decide) rfl rfl (wS wd_80) (fun _ h9 => h9) dX1_init_17 hq (fun a7 h_a7 hq => ?_)
      refine zz_alen S hZ.2.1 hZ.1 15 (by decide) (by decide) dX1_init_20 hq (fun x8 hq => ?_)
      refine zz_icmp_ge (tgt := 43) hx hb dX1_init_21 (by decide) hq (fun hq => ?_) (fun hq => ?_)
      · refine zz_guard hq (fun hg hq => ?_)
        exact zz_cret S hZ hG hr hlocks dX1_init_43 hg hq rfl
      · refine lv_aload_n hx hb dX1_init_24 rfl (lv_at hl 1 rfl) ?_
        refine zz_getRC S hZ (C := RX1) (ref := "DiagramDesk$Connectors") (F := TX1) (N := 2) (index := 11) 1 0 iwX1 rfl (by decide) (by decide) rfl rfl (wS wd_80) (fun _ h9 => h9) dX1_init_25 hq (fun a9 h_a9 hq => ?_)
        refine lv_iload_n hx hb dX1_init_28 rfl (lv_at hl 0 rfl) ?_
        refine zz_guard hq (fun hg hq => ?_)
        refine zz_newO S hZ (C := RX0) (F := TX0) (N := 5) (index := 9) 0 iwX0 tyX0 tyX0_ok rfl (by decide) rfl (by intro j hj; rcases (show j = 0 ∨ j = 1 ∨ j = 2 ∨ j = 3 ∨ j = 4 by omega) with rfl | rfl | rfl | rfl | rfl <;> rfl) (wS wd_811) (wS wd_812) (wS wd_45) dX1_init_29 hq hg (fun T4 s104 ad4 H hq hGn hn hZ => ?_)
        obtain ⟨h_a0, eq_1⟩ := hGn _ h_a0
        rw [← eq_1] at hl
        obtain ⟨h_a9, eq_2⟩ := hGn _ h_a9
        rw [← eq_2]
        have hG := zG_tr hG hGn
        have h_T4 := hn
        refine lv_dup hx hb dX1_init_32 rfl ?_
        refine zz_guard hq (fun hg hq => ?_)
        refine zz_callCN S hZ (As := []) (b := T3.2.2) (o := f_X0_init T4 N s104 T3.2.2) (c_X0_init l D cy T4 hZ.2.1 hZ.2.2 ad4 N _ T3.2.2) ⟨va_cnB (host := "DiagramDesk") 0 hts (gN wSub wd_813) rfl rfl rfl (zN_at hN 2 rfl) (hts _ (wS wd_45)) (by decide +kernel) ⟨Nat.le_of_ble_eq_true rfl, Nat.le_of_ble_eq_true rfl⟩, rfl, hts _ (wS wd_814)⟩ rfl hl.1 rfl (Nat.le_of_ble_eq_true rfl) dX1_init_33 hq hg (fun T5 s105 ad5 H locs hq hGn hZ => ?_)
        obtain ⟨h_a0, eq_3⟩ := hGn _ h_a0
        rw [← eq_3] at hl
        obtain ⟨h_a9, eq_4⟩ := hGn _ h_a9
        rw [← eq_4]
        obtain ⟨h_T4, eq_5⟩ := hGn _ h_T4
        rw [← eq_5]
        have hG := zG_tr hG hGn
        refine zz_astRC S hZ 15 0 2 (r := (RX0, TX0, 5)) rfl rfl (by decide) (by decide) (by decide) dX1_init_36 hq (fun s106 H locs hq hZ => ?_)
        refine zz_nmV hq (fun x10 ex10 hq => ?_)
        refine lv_iinc (v := x10) (lv' := [(1, .int x10), (0, .ref (ad5 a0))]) hx hb dX1_init_37 hl (k := 0) rfl (by rw [ex10]; rfl) (by decide) rfl (fun ls hl => ?_)
        refine lv_goto (tgt := 15) hx hb dX1_init_40 (by decide) ?_
        exact ih15 x10 T5 s106 (n3 + 1) (z3 + 5) ad5 _ _ _ hq hG hZ h_a0 (lv_sub hl [0, 1] rfl)
  exact L15 N (0 : Int32) T1 s102 (1) (20) ad1 _ _ _ hq hG hZ h_a0 (lv_sub hl [0, 1] rfl)
def f_X7_init_L15 (N : Nat) (a0 : Nat) (k15 : Int32 → zT → zS → Nat → Nat → Option (zT × zS)) (x6 : Int32) (T3 : zT) (s103 : zS) (n3 z3 : Nat) : Option (zT × zS) :=
  (gR T3 s103 a0 7 0).bind fun a7 =>
  (aL T3 a7 17).bind fun x8 =>
  if x8 ≤ x6 then (
    zz1 (n3 ≤ 21 ∧ z3 ≤ 180) <|
    some (T3, s103))
  else (
    (gR T3 s103 a0 7 0).bind fun a9 =>
    zz1 (n3 + 1 ≤ 21 ∧ z3 + 8 ≤ 180) <|
    zb2 (nO T3 s103 6 0) fun T4 s104 =>
    zz1 (n3 + 1 ≤ 21 ∧ z3 + 8 ≤ 180) <|
    zb2 (f_X6_init T4 N s104 T3.2.2) fun T5 s105 =>
    (sR T5 s105 a9 17 6 x6 T3.2.2).bind fun s106 =>
    zn (x6 + (1 : Int32)) fun x10 =>
    k15 x10 T5 s106 (n3 + 1) (z3 + 8))
def f_X7_init (T0 : zT) (N : Nat) (s0 : zS) (a0 : Nat) : Option (zT × zS) :=
  zz1 (T0.1 a0 = 7) <|
  zz1 (1 ≤ 21 ∧ 20 ≤ 180) <|
  zb2 (nO T0 s0 17 20) fun T1 s101 =>
  (pR T1 s101 a0 7 0 T0.2.2).bind fun s102 =>
  zl5 (f_X7_init_L15 N a0) N (0 : Int32) T1 s102 (1) (20)
set_option maxHeartbeats 4000000 in
set_option maxRecDepth 100000 in
theorem c_X7_init (l : Launch) (D : va_G) (cy : Nat → ClassId) (T0 : zT) (hT : zok T0) {s0 : zS} (hC : zcl T0 s0) (ad0 : Nat → Nat) (N : Nat) (sz : Nat) (a0 : Nat) : ∀ (T9 : zT) (s9 : zS), f_X7_init T0 N s0 a0 = some (T9, s9) → Met l yX7_init wsX7_init ({ frames := 2, cells := 21, slots := 180, locals := 40 }) (va_Pc [.ref (ad0 a0)] (zPre D cy T0 ad0 s0 sz)) (zQn D cy T0 ad0 sz T9 s9) 21 180 (zA T0 ad0 sz) := by
  intro T9 s9 hq
  refine Met.ofW (cc := cX7_init) (maxL := 2) (ret := none) (by decide) rfl ?_
  intro p e s m args below meth c s₁ B hml hv
  obtain ⟨hargs, hsz, hP, hK, hD0, hN⟩ := hv
  have hx := B.exec
  have hb := B.bytes
  have hr := B.returns
  have hts := atoms_spec (ws := wsX7_init) B.pre
  have hown : s.vm.findClass RX7 = some m.cls := findClass_of_methodNamed B.named
  have hlocks := B.notSynchronized
  have hin : meth.name = "<init>" := (name_of_methodNamed B.named B.method).1
  have S : CallFix p m c cX7_init 2 s args wsX7_init RX7 := ⟨hx, hb, hml, hown, hts⟩
  subst hsz
  have hZ : zD D cy T0 ad0 (zA T0 ad0 s.heap.size) s.heap s0 s.heap [] s := ⟨zz_entry hP hK hD0 hN, hT, hC⟩
  obtain ⟨ls, hent, hl⟩ := zz_ent m hargs (n := 2) (Nat.le_of_ble_eq_true rfl)
  rw [hent]
  have hl : lv_has ls 2 [(0, .ref (ad0 a0))] := hl
  have iwX7 : ∀ w ∈ u_ws RX7 TX7 3, w ∈ wsX7_init := fun w h => wS (inWX7 w h)
  have iwX6 : ∀ w ∈ u_ws RX6 TX6 8, w ∈ wsX7_init := fun w h => wS (inWX6 w h)
  unfold f_X7_init at hq
  refine zz_guard hq (fun hk0 hq => ?_)
  have h_a0 : a0 < T0.2.2 := hT a0 (by omega)
  have hG : zG T0 ad0 T0 ad0 := zG_rf
  refine lv_aload_n hx hb dX7_init_0 rfl (lv_at hl 0 rfl) ?_
  refine W.objInit hx hb hown (hts _ (wS wd_815)) (hts _ (wS wd_802)) (hts _ (wS wd_803)) rfl (by rw [hml]; exact hl.1) rfl dX7_init_1 (Nat.le_of_ble_eq_true rfl) (Nat.le_of_ble_eq_true rfl) ?_
  refine W.eq (g2 := F0 m 4 ls []) rfl ?_
  refine lv_aload_n hx hb dX7_init_4 rfl (lv_at hl 0 rfl) ?_
  refine lv_bipush (v := 20) hx hb dX7_init_5 (by decide) ?_
  refine zz_guard hq (fun hg hq => ?_)
  refine zz_newQ S hZ 20 17 4 (C := RX6) rfl (by decide) (wS wd_816) hN.2.2.2 (by decide) (by decide) (by decide) dX7_init_7 hq hg (fun T1 s101 ad1 H hq hGn hn hZ => ?_)
  obtain ⟨h_a0, eq_0⟩ := hGn _ h_a0
  rw [← eq_0]
  rw [← eq_0] at hl
  have hG := zG_tr hG hGn
  have h_T1 := hn
  refine zz_putRF S hZ hin (C := RX7) (F := TX7) (N := 3) (index := 11) 7 0 iwX7 tyX7 tyX7_ok nmX7 rfl (by decide) (by decide) rfl rfl (wS wd_5) (fun _ h9 => h9) rfl rfl (ty := .array (.object "DiagramDesk$Shape")) (by decide +kernel) rfl rfl dX7_init_10 hq (fun s102 H locs hq hZ => ?_)
  refine lv_iconst (v := 0) hx hb dX7_init_13 (by decide) ?_
  refine lv_istore_n (lv' := [(1, .int (0 : Int32)), (0, .ref (ad1 a0))]) hx hb dX7_init_14 rfl hl (by decide) rfl (fun ls hl => ?_)
  have L15 : ∀ (n : Nat) (x6 : Int32) (T3 : zT) (s103 : zS) (n3 z3 : Nat) (ad3 : Nat → Nat) (H : Heap) (locs : List Loc) (ls : Array Slot), zl5 (f_X7_init_L15 N a0) n x6 T3 s103 n3 z3 = some (T9, s9) → zG T0 ad0 T3 ad3 → zD D cy T3 ad3 (zA T0 ad0 s.heap.size) s.heap s103 H locs s → a0 < T3.2.2 → lv_has ls 2 [(1, .int x6), (0, .ref (ad3 a0))] → W p l e (headSpec wsX7_init ({ frames := 2, cells := 21, slots := 180, locals := 40 } : Room)).room s m args below meth c H locs n3 z3 (MQ below (zQn D cy T0 ad0 s.heap.size T9 s9) args s 21 180 (zA T0 ad0 s.heap.size)) (F0 m 15 ls []) := by
    intro n
    induction n with
    | zero => intro x6 T3 s103 n3 z3 ad3 H locs ls hq; exact zz_none hq
    | succ n ih15 =>
      intro x6 T3 s103 n3 z3 ad3 H locs ls hq hG hZ h_a0 hl
      rw [zl5] at hq
      generalize zl5 (f_X7_init_L15 N a0) n = k15 at ih15 hq
      unfold f_X7_init_L15 at hq
      refine lv_iload_n hx hb dX7_init_15 rfl (lv_at hl 0 rfl) ?_
      refine lv_aload_n hx hb dX7_init_16 rfl (lv_at hl 1 rfl) ?_
      refine zz_getRC S hZ (C := RX7) (ref := "DiagramDesk$Shapes") (F := TX7) (N := 3) (index := 11) 7 0 iwX7 rfl (by decide) (by decide) rfl rfl (wS wd_5) (fun _ h9 => h9) dX7_init_17 hq (fun a7 h_a7 hq => ?_)
      refine zz_alen S hZ.2.1 hZ.1 17 (by decide) (by decide) dX7_init_20 hq (fun x8 hq => ?_)
      refine zz_icmp_ge (tgt := 43) hx hb dX7_init_21 (by decide) hq (fun hq => ?_) (fun hq => ?_)
      · refine zz_guard hq (fun hg hq => ?_)
        exact zz_cret S hZ hG hr hlocks dX7_init_43 hg hq rfl
      · refine lv_aload_n hx hb dX7_init_24 rfl (lv_at hl 1 rfl) ?_
        refine zz_getRC S hZ (C := RX7) (ref := "DiagramDesk$Shapes") (F := TX7) (N := 3) (index := 11) 7 0 iwX7 rfl (by decide) (by decide) rfl rfl (wS wd_5) (fun _ h9 => h9) dX7_init_25 hq (fun a9 h_a9 hq => ?_)
        refine lv_iload_n hx hb dX7_init_28 rfl (lv_at hl 0 rfl) ?_
        refine zz_guard hq (fun hg hq => ?_)
        refine zz_newO S hZ (C := RX6) (F := TX6) (N := 8) (index := 9) 6 iwX6 tyX6 tyX6_ok rfl (by decide) rfl (by intro j hj; rcases (show j = 0 ∨ j = 1 ∨ j = 2 ∨ j = 3 ∨ j = 4 ∨ j = 5 ∨ j = 6 ∨ j = 7 by omega) with rfl | rfl | rfl | rfl | rfl | rfl | rfl | rfl <;> rfl) (wS wd_816) (wS wd_817) (wS wd_14) dX7_init_29 hq hg (fun T4 s104 ad4 H hq hGn hn hZ => ?_)
        obtain ⟨h_a0, eq_1⟩ := hGn _ h_a0
        rw [← eq_1] at hl
        obtain ⟨h_a9, eq_2⟩ := hGn _ h_a9
        rw [← eq_2]
        have hG := zG_tr hG hGn
        have h_T4 := hn
        refine lv_dup hx hb dX7_init_32 rfl ?_
        refine zz_guard hq (fun hg hq => ?_)
        refine zz_callCN S hZ (As := []) (b := T3.2.2) (o := f_X6_init T4 N s104 T3.2.2) (c_X6_init l D cy T4 hZ.2.1 hZ.2.2 ad4 N _ T3.2.2) ⟨va_cnB (host := "DiagramDesk") 0 hts (gN wSub wd_818) rfl rfl rfl (zN_at hN 1 rfl) (hts _ (wS wd_14)) (by decide +kernel) ⟨Nat.le_of_ble_eq_true rfl, Nat.le_of_ble_eq_true rfl⟩, rfl, hts _ (wS wd_819)⟩ rfl hl.1 rfl (Nat.le_of_ble_eq_true rfl) dX7_init_33 hq hg (fun T5 s105 ad5 H locs hq hGn hZ => ?_)
        obtain ⟨h_a0, eq_3⟩ := hGn _ h_a0
        rw [← eq_3] at hl
        obtain ⟨h_a9, eq_4⟩ := hGn _ h_a9
        rw [← eq_4]
        obtain ⟨h_T4, eq_5⟩ := hGn _ h_T4
        rw [← eq_5]
        have hG := zG_tr hG hGn
        refine zz_astRC S hZ 17 6 4 (r := (RX6, TX6, 8)) rfl rfl (by decide) (by decide) (by decide) dX7_init_36 hq (fun s106 H locs hq hZ => ?_)
        refine zz_nmV hq (fun x10 ex10 hq => ?_)
        refine lv_iinc (v := x10) (lv' := [(1, .int x10), (0, .ref (ad5 a0))]) hx hb dX7_init_37 hl (k := 0) rfl (by rw [ex10]; rfl) (by decide) rfl (fun ls hl => ?_)
        refine lv_goto (tgt := 15) hx hb dX7_init_40 (by decide) ?_
        exact ih15 x10 T5 s106 (n3 + 1) (z3 + 8) ad5 _ _ _ hq hG hZ h_a0 (lv_sub hl [0, 1] rfl)
  exact L15 N (0 : Int32) T1 s102 (1) (20) ad1 _ _ _ hq hG hZ h_a0 (lv_sub hl [0, 1] rfl)
def f_X2_init (T0 : zT) (N : Nat) (s0 : zS) (a0 : Nat) : Option (zT × zS) :=
  zz1 (T0.1 a0 = 2) <|
  zz1 (1 ≤ 50 ∧ 3 ≤ 348) <|
  zb2 (nO T0 s0 7 0) fun T1 s101 =>
  zz1 (22 ≤ 50 ∧ 183 ≤ 348) <|
  zb2 (f_X7_init T1 N s101 T0.2.2) fun T2 s102 =>
  (pR T2 s102 a0 2 0 T0.2.2).bind fun s103 =>
  zz1 (23 ≤ 50 ∧ 185 ≤ 348) <|
  zb2 (nO T2 s103 1 0) fun T4 s104 =>
  zz1 (44 ≤ 50 ∧ 305 ≤ 348) <|
  zb2 (f_X1_init T4 N s104 T2.2.2) fun T5 s105 =>
  (pR T5 s105 a0 2 1 T2.2.2).bind fun s106 =>
  zz1 (45 ≤ 50 ∧ 307 ≤ 348) <|
  zb2 (nO T5 s106 3 0) fun T7 s107 =>
  zz1 (47 ≤ 50 ∧ 323 ≤ 348) <|
  zb2 (f_X3_init T7 N s107 T5.2.2) fun T8 s108 =>
  (pR T8 s108 a0 2 2 T5.2.2).bind fun s109 =>
  zz1 (48 ≤ 50 ∧ 328 ≤ 348) <|
  zb2 (nO T8 s109 4 0) fun T10 s110 =>
  zz1 (50 ≤ 50 ∧ 348 ≤ 348) <|
  zb2 (f_X4_init T10 N s110 T8.2.2) fun T11 s111 =>
  (pR T11 s111 a0 2 3 T8.2.2).bind fun s112 =>
  zz1 (50 ≤ 50 ∧ 348 ≤ 348) <|
  some (T11, s112)
set_option maxHeartbeats 4000000 in
set_option maxRecDepth 100000 in
theorem c_X2_init (l : Launch) (D : va_G) (cy : Nat → ClassId) (T0 : zT) (hT : zok T0) {s0 : zS} (hC : zcl T0 s0) (ad0 : Nat → Nat) (N : Nat) (sz : Nat) (a0 : Nat) : ∀ (T9 : zT) (s9 : zS), f_X2_init T0 N s0 a0 = some (T9, s9) → Met l yX2_init wsX2_init ({ frames := 3, cells := 50, slots := 348, locals := 61 }) (va_Pc [.ref (ad0 a0)] (zPre D cy T0 ad0 s0 sz)) (zQn D cy T0 ad0 sz T9 s9) 50 348 (zA T0 ad0 sz) := by
  intro T9 s9 hq
  refine Met.ofW (cc := cX2_init) (maxL := 1) (ret := none) (by decide) rfl ?_
  intro p e s m args below meth c s₁ B hml hv
  obtain ⟨hargs, hsz, hP, hK, hD0, hN⟩ := hv
  have hx := B.exec
  have hb := B.bytes
  have hr := B.returns
  have hts := atoms_spec (ws := wsX2_init) B.pre
  have hown : s.vm.findClass RX2 = some m.cls := findClass_of_methodNamed B.named
  have hlocks := B.notSynchronized
  have hin : meth.name = "<init>" := (name_of_methodNamed B.named B.method).1
  have S : CallFix p m c cX2_init 1 s args wsX2_init RX2 := ⟨hx, hb, hml, hown, hts⟩
  subst hsz
  have hZ : zD D cy T0 ad0 (zA T0 ad0 s.heap.size) s.heap s0 s.heap [] s := ⟨zz_entry hP hK hD0 hN, hT, hC⟩
  obtain ⟨ls, hent, hl⟩ := zz_ent m hargs (n := 1) (Nat.le_of_ble_eq_true rfl)
  rw [hent]
  have hl : lv_has ls 1 [(0, .ref (ad0 a0))] := hl
  have iwX7 : ∀ w ∈ u_ws RX7 TX7 3, w ∈ wsX2_init := fun w h => wS (inWX7 w h)
  have iwX2 : ∀ w ∈ u_ws RX2 TX2 4, w ∈ wsX2_init := fun w h => wS (inWX2 w h)
  have iwX1 : ∀ w ∈ u_ws RX1 TX1 2, w ∈ wsX2_init := fun w h => wS (inWX1 w h)
  have iwX3 : ∀ w ∈ u_ws RX3 TX3 2, w ∈ wsX2_init := fun w h => wS (inWX3 w h)
  have iwX4 : ∀ w ∈ u_ws RX4 TX4 5, w ∈ wsX2_init := fun w h => wS (inWX4 w h)
  unfold f_X2_init at hq
  refine zz_guard hq (fun hk0 hq => ?_)
  have h_a0 : a0 < T0.2.2 := hT a0 (by omega)
  have hG : zG T0 ad0 T0 ad0 := zG_rf
  refine lv_aload_n hx hb dX2_init_0 rfl (lv_at hl 0 rfl) ?_
  refine W.objInit hx hb hown (hts _ (wS wd_820)) (hts _ (wS wd_802)) (hts _ (wS wd_803)) rfl (by rw [hml]; exact hl.1) rfl dX2_init_1 (Nat.le_of_ble_eq_true rfl) (Nat.le_of_ble_eq_true rfl) ?_
  refine W.eq (g2 := F0 m 4 ls []) rfl ?_
  refine lv_aload_n hx hb dX2_init_4 rfl (lv_at hl 0 rfl) ?_
  refine zz_guard hq (fun hg hq => ?_)
  refine zz_newO S hZ (C := RX7) (F := TX7) (N := 3) (index := 9) 7 iwX7 tyX7 tyX7_ok rfl (by decide) rfl (by intro j hj; rcases (show j = 0 ∨ j = 1 ∨ j = 2 by omega) with rfl | rfl | rfl <;> rfl) (wS wd_821) (wS wd_822) (wS wd_35) dX2_init_5 hq hg (fun T1 s101 ad1 H hq hGn hn hZ => ?_)
  obtain ⟨h_a0, eq_0⟩ := hGn _ h_a0
  rw [← eq_0]
  rw [← eq_0] at hl
  have hG := zG_tr hG hGn
  have h_T1 := hn
  refine lv_dup hx hb dX2_init_8 rfl ?_
  refine zz_guard hq (fun hg hq => ?_)
  refine zz_callC S hZ (As := []) (b := T0.2.2) (o := f_X7_init T1 N s101 T0.2.2) (c_X7_init l D cy T1 hZ.2.1 hZ.2.2 ad1 N _ T0.2.2) (cwI 0 hts (gN wSub wd_823) rfl rfl rfl (hts _ (wS wd_35)) (hts _ (wS wd_825)) (hts _ (wS wd_824)) rfl (by decide +kernel) ⟨Nat.le_of_ble_eq_true rfl, Nat.le_of_ble_eq_true rfl⟩) rfl hl.1 rfl (Nat.le_of_ble_eq_true rfl) dX2_init_9 hq hg (fun T2 s102 ad2 H locs hq hGn hZ => ?_)
  obtain ⟨h_a0, eq_1⟩ := hGn _ h_a0
  rw [← eq_1]
  rw [← eq_1] at hl
  obtain ⟨h_T1, eq_2⟩ := hGn _ h_T1
  rw [← eq_2]
  have hG := zG_tr hG hGn
  refine zz_putRF S hZ hin (C := RX2) (F := TX2) (N := 4) (index := 12) 2 0 iwX2 tyX2 tyX2_ok nmX2 rfl (by decide) (by decide) rfl rfl (wS wd_140) (fun _ h9 => h9) rfl rfl (ty := .object "DiagramDesk$Shapes") (by decide +kernel) rfl rfl dX2_init_12 hq (fun s103 H locs hq hZ => ?_)
  refine lv_aload_n hx hb dX2_init_15 rfl (lv_at hl 0 rfl) ?_
  refine zz_guard hq (fun hg hq => ?_)
  refine zz_newO S hZ (C := RX1) (F := TX1) (N := 2) (index := 18) 1 iwX1 tyX1 tyX1_ok rfl (by decide) rfl (by intro j hj; rcases (show j = 0 ∨ j = 1 by omega) with rfl | rfl <;> rfl) (wS wd_826) (wS wd_827) (wS wd_94) dX2_init_16 hq hg (fun T4 s104 ad4 H hq hGn hn hZ => ?_)
  obtain ⟨h_a0, eq_3⟩ := hGn _ h_a0
  rw [← eq_3]
  rw [← eq_3] at hl
  have hG := zG_tr hG hGn
  have h_T4 := hn
  refine lv_dup hx hb dX2_init_19 rfl ?_
  refine zz_guard hq (fun hg hq => ?_)
  refine zz_callC S hZ (As := []) (b := T2.2.2) (o := f_X1_init T4 N s104 T2.2.2) (c_X1_init l D cy T4 hZ.2.1 hZ.2.2 ad4 N _ T2.2.2) (cwI 0 hts (gN wSub wd_828) rfl rfl rfl (hts _ (wS wd_94)) (hts _ (wS wd_830)) (hts _ (wS wd_829)) rfl (by decide +kernel) ⟨Nat.le_of_ble_eq_true rfl, Nat.le_of_ble_eq_true rfl⟩) rfl hl.1 rfl (Nat.le_of_ble_eq_true rfl) dX2_init_20 hq hg (fun T5 s105 ad5 H locs hq hGn hZ => ?_)
  obtain ⟨h_a0, eq_4⟩ := hGn _ h_a0
  rw [← eq_4]
  rw [← eq_4] at hl
  obtain ⟨h_T4, eq_5⟩ := hGn _ h_T4
  rw [← eq_5]
  have hG := zG_tr hG hGn
  refine zz_putRF S hZ hin (C := RX2) (F := TX2) (N := 4) (index := 21) 2 1 iwX2 tyX2 tyX2_ok nmX2 rfl (by decide) (by decide) rfl rfl (wS wd_145) (fun _ h9 => h9) rfl rfl (ty := .object "DiagramDesk$Connectors") (by decide +kernel) rfl rfl dX2_init_23 hq (fun s106 H locs hq hZ => ?_)
  refine lv_aload_n hx hb dX2_init_26 rfl (lv_at hl 0 rfl) ?_
  refine zz_guard hq (fun hg hq => ?_)
  refine zz_newO S hZ (C := RX3) (F := TX3) (N := 2) (index := 25) 3 iwX3 tyX3 tyX3_ok rfl (by decide) rfl (by intro j hj; rcases (show j = 0 ∨ j = 1 by omega) with rfl | rfl <;> rfl) (wS wd_831) (wS wd_832) (wS wd_118) dX2_init_27 hq hg (fun T7 s107 ad7 H hq hGn hn hZ => ?_)
  obtain ⟨h_a0, eq_6⟩ := hGn _ h_a0
  rw [← eq_6]
  rw [← eq_6] at hl
  have hG := zG_tr hG hGn
  have h_T7 := hn
  refine lv_dup hx hb dX2_init_30 rfl ?_
  refine zz_guard hq (fun hg hq => ?_)
  refine zz_callCN S hZ (As := []) (b := T5.2.2) (o := f_X3_init T7 N s107 T5.2.2) (c_X3_init l D cy T7 hZ.2.1 hZ.2.2 ad7 N _ T5.2.2) ⟨va_cnB (host := "DiagramDesk") 0 hts (gN wSub wd_833) rfl rfl rfl (zN_at hN 3 rfl) (hts _ (wS wd_118)) (by decide +kernel) ⟨Nat.le_of_ble_eq_true rfl, Nat.le_of_ble_eq_true rfl⟩, rfl, hts _ (wS wd_834)⟩ rfl hl.1 rfl (Nat.le_of_ble_eq_true rfl) dX2_init_31 hq hg (fun T8 s108 ad8 H locs hq hGn hZ => ?_)
  obtain ⟨h_a0, eq_7⟩ := hGn _ h_a0
  rw [← eq_7]
  rw [← eq_7] at hl
  obtain ⟨h_T7, eq_8⟩ := hGn _ h_T7
  rw [← eq_8]
  have hG := zG_tr hG hGn
  refine zz_putRF S hZ hin (C := RX2) (F := TX2) (N := 4) (index := 28) 2 2 iwX2 tyX2 tyX2_ok nmX2 rfl (by decide) (by decide) rfl rfl (wS wd_150) (fun _ h9 => h9) rfl rfl (ty := .object "DiagramDesk$Groups") (by decide +kernel) rfl rfl dX2_init_34 hq (fun s109 H locs hq hZ => ?_)
  refine lv_aload_n hx hb dX2_init_37 rfl (lv_at hl 0 rfl) ?_
  refine zz_guard hq (fun hg hq => ?_)
  refine zz_newO S hZ (C := RX4) (F := TX4) (N := 5) (index := 32) 4 iwX4 tyX4 tyX4_ok rfl (by decide) rfl (by intro j hj; rcases (show j = 0 ∨ j = 1 ∨ j = 2 ∨ j = 3 ∨ j = 4 by omega) with rfl | rfl | rfl | rfl | rfl <;> rfl) (wS wd_835) (wS wd_836) (wS wd_138) dX2_init_38 hq hg (fun T10 s110 ad10 H hq hGn hn hZ => ?_)
  obtain ⟨h_a0, eq_9⟩ := hGn _ h_a0
  rw [← eq_9]
  rw [← eq_9] at hl
  have hG := zG_tr hG hGn
  have h_T10 := hn
  refine lv_dup hx hb dX2_init_41 rfl ?_
  refine zz_guard hq (fun hg hq => ?_)
  refine zz_callCN S hZ (As := []) (b := T8.2.2) (o := f_X4_init T10 N s110 T8.2.2) (c_X4_init l D cy T10 hZ.2.1 hZ.2.2 ad10 N _ T8.2.2) ⟨va_cnB (host := "DiagramDesk") 0 hts (gN wSub wd_837) rfl rfl rfl (zN_at hN 4 rfl) (hts _ (wS wd_138)) (by decide +kernel) ⟨Nat.le_of_ble_eq_true rfl, Nat.le_of_ble_eq_true rfl⟩, rfl, hts _ (wS wd_838)⟩ rfl hl.1 rfl (Nat.le_of_ble_eq_true rfl) dX2_init_42 hq hg (fun T11 s111 ad11 H locs hq hGn hZ => ?_)
  obtain ⟨h_a0, eq_10⟩ := hGn _ h_a0
  rw [← eq_10]
  rw [← eq_10] at hl
  obtain ⟨h_T10, eq_11⟩ := hGn _ h_T10
  rw [← eq_11]
  have hG := zG_tr hG hGn
  refine zz_putRF S hZ hin (C := RX2) (F := TX2) (N := 4) (index := 35) 2 3 iwX2 tyX2 tyX2_ok nmX2 rfl (by decide) (by decide) rfl rfl (wS wd_155) (fun _ h9 => h9) rfl rfl (ty := .object "DiagramDesk$Guides") (by decide +kernel) rfl rfl dX2_init_45 hq (fun s112 H locs hq hZ => ?_)
  refine zz_guard hq (fun hg hq => ?_)
  exact zz_cret S hZ hG hr hlocks dX2_init_48 hg hq rfl
def f_X5_init_L15 (N : Nat) (a0 : Nat) (k15 : Int32 → zT → zS → Nat → Nat → Option (zT × zS)) (x6 : Int32) (T3 : zT) (s103 : zS) (n3 z3 : Nat) : Option (zT × zS) :=
  (gR T3 s103 a0 5 0).bind fun a7 =>
  (aL T3 a7 16).bind fun x8 =>
  if x8 ≤ x6 then (
    zz1 (n3 ≤ 307 ∧ z3 ≤ 2118) <|
    some (T3, s103))
  else (
    (gR T3 s103 a0 5 0).bind fun a9 =>
    zz1 (n3 + 1 ≤ 307 ∧ z3 + 4 ≤ 2118) <|
    zb2 (nO T3 s103 2 0) fun T4 s104 =>
    zz1 (n3 + 1 + 50 ≤ 307 ∧ z3 + 4 + 348 ≤ 2118) <|
    zb2 (f_X2_init T4 N s104 T3.2.2) fun T5 s105 =>
    (sR T5 s105 a9 16 2 x6 T3.2.2).bind fun s106 =>
    zn (x6 + (1 : Int32)) fun x10 =>
    k15 x10 T5 s106 (n3 + 1 + 50) (z3 + 4 + 348))
def f_X5_init (T0 : zT) (N : Nat) (s0 : zS) (a0 : Nat) : Option (zT × zS) :=
  zz1 (T0.1 a0 = 5) <|
  zz1 (1 ≤ 307 ∧ 6 ≤ 2118) <|
  zb2 (nO T0 s0 16 6) fun T1 s101 =>
  (pR T1 s101 a0 5 0 T0.2.2).bind fun s102 =>
  zl5 (f_X5_init_L15 N a0) N (0 : Int32) T1 s102 (1) (6)
set_option maxHeartbeats 4000000 in
set_option maxRecDepth 100000 in
theorem c_X5_init (l : Launch) (D : va_G) (cy : Nat → ClassId) (T0 : zT) (hT : zok T0) {s0 : zS} (hC : zcl T0 s0) (ad0 : Nat → Nat) (N : Nat) (sz : Nat) (a0 : Nat) : ∀ (T9 : zT) (s9 : zS), f_X5_init T0 N s0 a0 = some (T9, s9) → Met l yX5_init wsX5_init ({ frames := 4, cells := 307, slots := 2118, locals := 81 }) (va_Pc [.ref (ad0 a0)] (zPre D cy T0 ad0 s0 sz)) (zQn D cy T0 ad0 sz T9 s9) 307 2118 (zA T0 ad0 sz) := by
  intro T9 s9 hq
  refine Met.ofW (cc := cX5_init) (maxL := 2) (ret := none) (by decide) rfl ?_
  intro p e s m args below meth c s₁ B hml hv
  obtain ⟨hargs, hsz, hP, hK, hD0, hN⟩ := hv
  have hx := B.exec
  have hb := B.bytes
  have hr := B.returns
  have hts := atoms_spec (ws := wsX5_init) B.pre
  have hown : s.vm.findClass RX5 = some m.cls := findClass_of_methodNamed B.named
  have hlocks := B.notSynchronized
  have hin : meth.name = "<init>" := (name_of_methodNamed B.named B.method).1
  have S : CallFix p m c cX5_init 2 s args wsX5_init RX5 := ⟨hx, hb, hml, hown, hts⟩
  subst hsz
  have hZ : zD D cy T0 ad0 (zA T0 ad0 s.heap.size) s.heap s0 s.heap [] s := ⟨zz_entry hP hK hD0 hN, hT, hC⟩
  obtain ⟨ls, hent, hl⟩ := zz_ent m hargs (n := 2) (Nat.le_of_ble_eq_true rfl)
  rw [hent]
  have hl : lv_has ls 2 [(0, .ref (ad0 a0))] := hl
  have iwX5 : ∀ w ∈ u_ws RX5 TX5 2, w ∈ wsX5_init := fun w h => wS (inWX5 w h)
  have iwX2 : ∀ w ∈ u_ws RX2 TX2 4, w ∈ wsX5_init := fun w h => wS (inWX2 w h)
  unfold f_X5_init at hq
  refine zz_guard hq (fun hk0 hq => ?_)
  have h_a0 : a0 < T0.2.2 := hT a0 (by omega)
  have hG : zG T0 ad0 T0 ad0 := zG_rf
  refine lv_aload_n hx hb dX5_init_0 rfl (lv_at hl 0 rfl) ?_
  refine W.objInit hx hb hown (hts _ (wS wd_839)) (hts _ (wS wd_802)) (hts _ (wS wd_803)) rfl (by rw [hml]; exact hl.1) rfl dX5_init_1 (Nat.le_of_ble_eq_true rfl) (Nat.le_of_ble_eq_true rfl) ?_
  refine W.eq (g2 := F0 m 4 ls []) rfl ?_
  refine lv_aload_n hx hb dX5_init_4 rfl (lv_at hl 0 rfl) ?_
  refine lv_bipush (v := 6) hx hb dX5_init_5 (by decide) ?_
  refine zz_guard hq (fun hg hq => ?_)
  refine zz_newQ S hZ 6 16 3 (C := RX2) rfl (by decide) (wS wd_840) hN.2.2.1 (by decide) (by decide) (by decide) dX5_init_7 hq hg (fun T1 s101 ad1 H hq hGn hn hZ => ?_)
  obtain ⟨h_a0, eq_0⟩ := hGn _ h_a0
  rw [← eq_0]
  rw [← eq_0] at hl
  have hG := zG_tr hG hGn
  have h_T1 := hn
  refine zz_putRF S hZ hin (C := RX5) (F := TX5) (N := 2) (index := 11) 5 0 iwX5 tyX5 tyX5_ok nmX5 rfl (by decide) (by decide) rfl rfl (wS wd_210) (fun _ h9 => h9) rfl rfl (ty := .array (.object "DiagramDesk$Diagram")) (by decide +kernel) rfl rfl dX5_init_10 hq (fun s102 H locs hq hZ => ?_)
  refine lv_iconst (v := 0) hx hb dX5_init_13 (by decide) ?_
  refine lv_istore_n (lv' := [(1, .int (0 : Int32)), (0, .ref (ad1 a0))]) hx hb dX5_init_14 rfl hl (by decide) rfl (fun ls hl => ?_)
  have L15 : ∀ (n : Nat) (x6 : Int32) (T3 : zT) (s103 : zS) (n3 z3 : Nat) (ad3 : Nat → Nat) (H : Heap) (locs : List Loc) (ls : Array Slot), zl5 (f_X5_init_L15 N a0) n x6 T3 s103 n3 z3 = some (T9, s9) → zG T0 ad0 T3 ad3 → zD D cy T3 ad3 (zA T0 ad0 s.heap.size) s.heap s103 H locs s → a0 < T3.2.2 → lv_has ls 2 [(1, .int x6), (0, .ref (ad3 a0))] → W p l e (headSpec wsX5_init ({ frames := 4, cells := 307, slots := 2118, locals := 81 } : Room)).room s m args below meth c H locs n3 z3 (MQ below (zQn D cy T0 ad0 s.heap.size T9 s9) args s 307 2118 (zA T0 ad0 s.heap.size)) (F0 m 15 ls []) := by
    intro n
    induction n with
    | zero => intro x6 T3 s103 n3 z3 ad3 H locs ls hq; exact zz_none hq
    | succ n ih15 =>
      intro x6 T3 s103 n3 z3 ad3 H locs ls hq hG hZ h_a0 hl
      rw [zl5] at hq
      generalize zl5 (f_X5_init_L15 N a0) n = k15 at ih15 hq
      unfold f_X5_init_L15 at hq
      refine lv_iload_n hx hb dX5_init_15 rfl (lv_at hl 0 rfl) ?_
      refine lv_aload_n hx hb dX5_init_16 rfl (lv_at hl 1 rfl) ?_
      refine zz_getRC S hZ (C := RX5) (ref := "DiagramDesk$History") (F := TX5) (N := 2) (index := 11) 5 0 iwX5 rfl (by decide) (by decide) rfl rfl (wS wd_210) (fun _ h9 => h9) dX5_init_17 hq (fun a7 h_a7 hq => ?_)
      refine zz_alen S hZ.2.1 hZ.1 16 (by decide) (by decide) dX5_init_20 hq (fun x8 hq => ?_)
      refine zz_icmp_ge (tgt := 43) hx hb dX5_init_21 (by decide) hq (fun hq => ?_) (fun hq => ?_)
      · refine zz_guard hq (fun hg hq => ?_)
        exact zz_cret S hZ hG hr hlocks dX5_init_43 hg hq rfl
      · refine lv_aload_n hx hb dX5_init_24 rfl (lv_at hl 1 rfl) ?_
        refine zz_getRC S hZ (C := RX5) (ref := "DiagramDesk$History") (F := TX5) (N := 2) (index := 11) 5 0 iwX5 rfl (by decide) (by decide) rfl rfl (wS wd_210) (fun _ h9 => h9) dX5_init_25 hq (fun a9 h_a9 hq => ?_)
        refine lv_iload_n hx hb dX5_init_28 rfl (lv_at hl 0 rfl) ?_
        refine zz_guard hq (fun hg hq => ?_)
        refine zz_newO S hZ (C := RX2) (F := TX2) (N := 4) (index := 9) 2 iwX2 tyX2 tyX2_ok rfl (by decide) rfl (by intro j hj; rcases (show j = 0 ∨ j = 1 ∨ j = 2 ∨ j = 3 by omega) with rfl | rfl | rfl | rfl <;> rfl) (wS wd_840) (wS wd_841) (wS wd_174) dX5_init_29 hq hg (fun T4 s104 ad4 H hq hGn hn hZ => ?_)
        obtain ⟨h_a0, eq_1⟩ := hGn _ h_a0
        rw [← eq_1] at hl
        obtain ⟨h_a9, eq_2⟩ := hGn _ h_a9
        rw [← eq_2]
        have hG := zG_tr hG hGn
        have h_T4 := hn
        refine lv_dup hx hb dX5_init_32 rfl ?_
        refine zz_guard hq (fun hg hq => ?_)
        refine zz_callCN S hZ (As := []) (b := T3.2.2) (o := f_X2_init T4 N s104 T3.2.2) (c_X2_init l D cy T4 hZ.2.1 hZ.2.2 ad4 N _ T3.2.2) ⟨va_cnB (host := "DiagramDesk") 0 hts (gN wSub wd_842) rfl rfl rfl (zN_at hN 5 rfl) (hts _ (wS wd_174)) (by decide +kernel) ⟨Nat.le_of_ble_eq_true rfl, Nat.le_of_ble_eq_true rfl⟩, rfl, hts _ (wS wd_843)⟩ rfl hl.1 rfl (Nat.le_of_ble_eq_true rfl) dX5_init_33 hq hg (fun T5 s105 ad5 H locs hq hGn hZ => ?_)
        obtain ⟨h_a0, eq_3⟩ := hGn _ h_a0
        rw [← eq_3] at hl
        obtain ⟨h_a9, eq_4⟩ := hGn _ h_a9
        rw [← eq_4]
        obtain ⟨h_T4, eq_5⟩ := hGn _ h_T4
        rw [← eq_5]
        have hG := zG_tr hG hGn
        refine zz_astRC S hZ 16 2 3 (r := (RX2, TX2, 4)) rfl rfl (by decide) (by decide) (by decide) dX5_init_36 hq (fun s106 H locs hq hZ => ?_)
        refine zz_nmV hq (fun x10 ex10 hq => ?_)
        refine lv_iinc (v := x10) (lv' := [(1, .int x10), (0, .ref (ad5 a0))]) hx hb dX5_init_37 hl (k := 0) rfl (by rw [ex10]; rfl) (by decide) rfl (fun ls hl => ?_)
        refine lv_goto (tgt := 15) hx hb dX5_init_40 (by decide) ?_
        exact ih15 x10 T5 s106 (n3 + 1 + 50) (z3 + 4 + 348) ad5 _ _ _ hq hG hZ h_a0 (lv_sub hl [0, 1] rfl)
  exact L15 N (0 : Int32) T1 s102 (1) (6) ad1 _ _ _ hq hG hZ h_a0 (lv_sub hl [0, 1] rfl)
def f_X9_init_L23 (N : Nat) (a0 : Nat) (k23 : Int32 → zT → zS → Nat → Nat → Option (zT × zS)) (x6 : Int32) (T5 : zT) (s105 : zS) (n5 z5 : Nat) : Option (zT × zS) :=
  (gR T5 s105 a0 9 1).bind fun a7 =>
  (aL T5 a7 17).bind fun x8 =>
  if x8 ≤ x6 then (
    zz1 (n5 ≤ 9 ∧ z5 ≤ 123) <|
    some (T5, s105))
  else (
    (gR T5 s105 a0 9 1).bind fun a9 =>
    zz1 (n5 + 1 ≤ 9 ∧ z5 + 8 ≤ 123) <|
    zb2 (nO T5 s105 6 0) fun T6 s106 =>
    zz1 (n5 + 1 ≤ 9 ∧ z5 + 8 ≤ 123) <|
    zb2 (f_X6_init T6 N s106 T5.2.2) fun T7 s107 =>
    (sR T7 s107 a9 17 6 x6 T5.2.2).bind fun s108 =>
    zn (x6 + (1 : Int32)) fun x10 =>
    k23 x10 T7 s108 (n5 + 1) (z5 + 8))
def f_X9_init (T0 : zT) (N : Nat) (s0 : zS) (a0 : Nat) : Option (zT × zS) :=
  zz1 (T0.1 a0 = 9) <|
  zz1 (1 ≤ 9 ∧ 60 ≤ 123) <|
  zb2 (nO T0 s0 13 60) fun T1 s101 =>
  (pR T1 s101 a0 9 0 T0.2.2).bind fun s102 =>
  zz1 (2 ≤ 9 ∧ 67 ≤ 123) <|
  zb2 (nO T1 s102 17 7) fun T3 s103 =>
  (pR T3 s103 a0 9 1 T1.2.2).bind fun s104 =>
  zl5 (f_X9_init_L23 N a0) N (0 : Int32) T3 s104 (2) (67)
set_option maxHeartbeats 4000000 in
set_option maxRecDepth 100000 in
theorem c_X9_init (l : Launch) (D : va_G) (cy : Nat → ClassId) (T0 : zT) (hT : zok T0) {s0 : zS} (hC : zcl T0 s0) (ad0 : Nat → Nat) (N : Nat) (sz : Nat) (a0 : Nat) : ∀ (T9 : zT) (s9 : zS), f_X9_init T0 N s0 a0 = some (T9, s9) → Met l yX9_init wsX9_init ({ frames := 2, cells := 9, slots := 123, locals := 40 }) (va_Pc [.ref (ad0 a0)] (zPre D cy T0 ad0 s0 sz)) (zQn D cy T0 ad0 sz T9 s9) 9 123 (zA T0 ad0 sz) := by
  intro T9 s9 hq
  refine Met.ofW (cc := cX9_init) (maxL := 2) (ret := none) (by decide) rfl ?_
  intro p e s m args below meth c s₁ B hml hv
  obtain ⟨hargs, hsz, hP, hK, hD0, hN⟩ := hv
  have hx := B.exec
  have hb := B.bytes
  have hr := B.returns
  have hts := atoms_spec (ws := wsX9_init) B.pre
  have hown : s.vm.findClass RX9 = some m.cls := findClass_of_methodNamed B.named
  have hlocks := B.notSynchronized
  have hin : meth.name = "<init>" := (name_of_methodNamed B.named B.method).1
  have S : CallFix p m c cX9_init 2 s args wsX9_init RX9 := ⟨hx, hb, hml, hown, hts⟩
  subst hsz
  have hZ : zD D cy T0 ad0 (zA T0 ad0 s.heap.size) s.heap s0 s.heap [] s := ⟨zz_entry hP hK hD0 hN, hT, hC⟩
  obtain ⟨ls, hent, hl⟩ := zz_ent m hargs (n := 2) (Nat.le_of_ble_eq_true rfl)
  rw [hent]
  have hl : lv_has ls 2 [(0, .ref (ad0 a0))] := hl
  have iwX9 : ∀ w ∈ u_ws RX9 TX9 7, w ∈ wsX9_init := fun w h => wS (inWX9 w h)
  have iwX6 : ∀ w ∈ u_ws RX6 TX6 8, w ∈ wsX9_init := fun w h => wS (inWX6 w h)
  unfold f_X9_init at hq
  refine zz_guard hq (fun hk0 hq => ?_)
  have h_a0 : a0 < T0.2.2 := hT a0 (by omega)
  have hG : zG T0 ad0 T0 ad0 := zG_rf
  refine lv_aload_n hx hb dX9_init_0 rfl (lv_at hl 0 rfl) ?_
  refine W.objInit hx hb hown (hts _ (wS wd_844)) (hts _ (wS wd_802)) (hts _ (wS wd_803)) rfl (by rw [hml]; exact hl.1) rfl dX9_init_1 (Nat.le_of_ble_eq_true rfl) (Nat.le_of_ble_eq_true rfl) ?_
  refine W.eq (g2 := F0 m 4 ls []) rfl ?_
  refine lv_aload_n hx hb dX9_init_4 rfl (lv_at hl 0 rfl) ?_
  refine lv_bipush (v := 60) hx hb dX9_init_5 (by decide) ?_
  refine zz_guard hq (fun hg hq => ?_)
  refine zz_newI S hZ 60 (wS wd_808) (by decide) (by decide) (by decide) dX9_init_7 hq hg (fun T1 s101 ad1 H hq hGn hn hZ => ?_)
  obtain ⟨h_a0, eq_0⟩ := hGn _ h_a0
  rw [← eq_0]
  rw [← eq_0] at hl
  have hG := zG_tr hG hGn
  have h_T1 := hn
  refine zz_putRF S hZ hin (C := RX9) (F := TX9) (N := 7) (index := 9) 9 0 iwX9 tyX9 tyX9_ok nmX9 rfl (by decide) (by decide) rfl rfl (wS wd_307) (fun _ h9 => h9) rfl rfl (ty := .array (.int)) (by decide +kernel) rfl rfl dX9_init_9 hq (fun s102 H locs hq hZ => ?_)
  refine lv_aload_n hx hb dX9_init_12 rfl (lv_at hl 0 rfl) ?_
  refine lv_bipush (v := 7) hx hb dX9_init_13 (by decide) ?_
  refine zz_guard hq (fun hg hq => ?_)
  refine zz_newQ S hZ 7 17 4 (C := RX6) rfl (by decide) (wS wd_845) hN.2.2.2 (by decide) (by decide) (by decide) dX9_init_15 hq hg (fun T3 s103 ad3 H hq hGn hn hZ => ?_)
  obtain ⟨h_a0, eq_1⟩ := hGn _ h_a0
  rw [← eq_1]
  rw [← eq_1] at hl
  have hG := zG_tr hG hGn
  have h_T3 := hn
  refine zz_putRF S hZ hin (C := RX9) (F := TX9) (N := 7) (index := 17) 9 1 iwX9 tyX9 tyX9_ok nmX9 rfl (by decide) (by decide) rfl rfl (wS wd_308) (fun _ h9 => h9) rfl rfl (ty := .array (.object "DiagramDesk$Shape")) (by decide +kernel) rfl rfl dX9_init_18 hq (fun s104 H locs hq hZ => ?_)
  refine lv_iconst (v := 0) hx hb dX9_init_21 (by decide) ?_
  refine lv_istore_n (lv' := [(1, .int (0 : Int32)), (0, .ref (ad3 a0))]) hx hb dX9_init_22 rfl hl (by decide) rfl (fun ls hl => ?_)
  have L23 : ∀ (n : Nat) (x6 : Int32) (T5 : zT) (s105 : zS) (n5 z5 : Nat) (ad5 : Nat → Nat) (H : Heap) (locs : List Loc) (ls : Array Slot), zl5 (f_X9_init_L23 N a0) n x6 T5 s105 n5 z5 = some (T9, s9) → zG T0 ad0 T5 ad5 → zD D cy T5 ad5 (zA T0 ad0 s.heap.size) s.heap s105 H locs s → a0 < T5.2.2 → lv_has ls 2 [(1, .int x6), (0, .ref (ad5 a0))] → W p l e (headSpec wsX9_init ({ frames := 2, cells := 9, slots := 123, locals := 40 } : Room)).room s m args below meth c H locs n5 z5 (MQ below (zQn D cy T0 ad0 s.heap.size T9 s9) args s 9 123 (zA T0 ad0 s.heap.size)) (F0 m 23 ls []) := by
    intro n
    induction n with
    | zero => intro x6 T5 s105 n5 z5 ad5 H locs ls hq; exact zz_none hq
    | succ n ih23 =>
      intro x6 T5 s105 n5 z5 ad5 H locs ls hq hG hZ h_a0 hl
      rw [zl5] at hq
      generalize zl5 (f_X9_init_L23 N a0) n = k23 at ih23 hq
      unfold f_X9_init_L23 at hq
      refine lv_iload_n hx hb dX9_init_23 rfl (lv_at hl 0 rfl) ?_
      refine lv_aload_n hx hb dX9_init_24 rfl (lv_at hl 1 rfl) ?_
      refine zz_getRC S hZ (C := RX9) (ref := "DiagramDesk$Text") (F := TX9) (N := 7) (index := 17) 9 1 iwX9 rfl (by decide) (by decide) rfl rfl (wS wd_308) (fun _ h9 => h9) dX9_init_25 hq (fun a7 h_a7 hq => ?_)
      refine zz_alen S hZ.2.1 hZ.1 17 (by decide) (by decide) dX9_init_28 hq (fun x8 hq => ?_)
      refine zz_icmp_ge (tgt := 51) hx hb dX9_init_29 (by decide) hq (fun hq => ?_) (fun hq => ?_)
      · refine zz_guard hq (fun hg hq => ?_)
        exact zz_cret S hZ hG hr hlocks dX9_init_51 hg hq rfl
      · refine lv_aload_n hx hb dX9_init_32 rfl (lv_at hl 1 rfl) ?_
        refine zz_getRC S hZ (C := RX9) (ref := "DiagramDesk$Text") (F := TX9) (N := 7) (index := 17) 9 1 iwX9 rfl (by decide) (by decide) rfl rfl (wS wd_308) (fun _ h9 => h9) dX9_init_33 hq (fun a9 h_a9 hq => ?_)
        refine lv_iload_n hx hb dX9_init_36 rfl (lv_at hl 0 rfl) ?_
        refine zz_guard hq (fun hg hq => ?_)
        refine zz_newO S hZ (C := RX6) (F := TX6) (N := 8) (index := 15) 6 iwX6 tyX6 tyX6_ok rfl (by decide) rfl (by intro j hj; rcases (show j = 0 ∨ j = 1 ∨ j = 2 ∨ j = 3 ∨ j = 4 ∨ j = 5 ∨ j = 6 ∨ j = 7 by omega) with rfl | rfl | rfl | rfl | rfl | rfl | rfl | rfl <;> rfl) (wS wd_845) (wS wd_817) (wS wd_14) dX9_init_37 hq hg (fun T6 s106 ad6 H hq hGn hn hZ => ?_)
        obtain ⟨h_a0, eq_2⟩ := hGn _ h_a0
        rw [← eq_2] at hl
        obtain ⟨h_a9, eq_3⟩ := hGn _ h_a9
        rw [← eq_3]
        have hG := zG_tr hG hGn
        have h_T6 := hn
        refine lv_dup hx hb dX9_init_40 rfl ?_
        refine zz_guard hq (fun hg hq => ?_)
        refine zz_callCN S hZ (As := []) (b := T5.2.2) (o := f_X6_init T6 N s106 T5.2.2) (c_X6_init l D cy T6 hZ.2.1 hZ.2.2 ad6 N _ T5.2.2) ⟨va_cnB (host := "DiagramDesk") 0 hts (gN wSub wd_818) rfl rfl rfl (zN_at hN 6 rfl) (hts _ (wS wd_14)) (by decide +kernel) ⟨Nat.le_of_ble_eq_true rfl, Nat.le_of_ble_eq_true rfl⟩, rfl, hts _ (wS wd_819)⟩ rfl hl.1 rfl (Nat.le_of_ble_eq_true rfl) dX9_init_41 hq hg (fun T7 s107 ad7 H locs hq hGn hZ => ?_)
        obtain ⟨h_a0, eq_4⟩ := hGn _ h_a0
        rw [← eq_4] at hl
        obtain ⟨h_a9, eq_5⟩ := hGn _ h_a9
        rw [← eq_5]
        obtain ⟨h_T6, eq_6⟩ := hGn _ h_T6
        rw [← eq_6]
        have hG := zG_tr hG hGn
        refine zz_astRC S hZ 17 6 4 (r := (RX6, TX6, 8)) rfl rfl (by decide) (by decide) (by decide) dX9_init_44 hq (fun s108 H locs hq hZ => ?_)
        refine zz_nmV hq (fun x10 ex10 hq => ?_)
        refine lv_iinc (v := x10) (lv' := [(1, .int x10), (0, .ref (ad7 a0))]) hx hb dX9_init_45 hl (k := 0) rfl (by rw [ex10]; rfl) (by decide) rfl (fun ls hl => ?_)
        refine lv_goto (tgt := 23) hx hb dX9_init_48 (by decide) ?_
        exact ih23 x10 T7 s108 (n5 + 1) (z5 + 8) ad7 _ _ _ hq hG hZ h_a0 (lv_sub hl [0, 1] rfl)
  exact L23 N (0 : Int32) T3 s104 (2) (67) ad3 _ _ _ hq hG hZ h_a0 (lv_sub hl [0, 1] rfl)
def f_X10_init (T0 : zT) (N : Nat) (s0 : zS) (a0 : Nat) : Option (zT × zS) :=
  zz1 (T0.1 a0 = 10) <|
  zz1 (1 ≤ 2 ∧ 20 ≤ 40) <|
  zb2 (nO T0 s0 13 20) fun T1 s101 =>
  (pR T1 s101 a0 10 0 T0.2.2).bind fun s102 =>
  zz1 (2 ≤ 2 ∧ 40 ≤ 40) <|
  zb2 (nO T1 s102 13 20) fun T3 s103 =>
  (pR T3 s103 a0 10 1 T1.2.2).bind fun s104 =>
  zz1 (2 ≤ 2 ∧ 40 ≤ 40) <|
  some (T3, s104)
set_option maxHeartbeats 4000000 in
set_option maxRecDepth 100000 in
theorem c_X10_init (l : Launch) (D : va_G) (cy : Nat → ClassId) (T0 : zT) (hT : zok T0) {s0 : zS} (hC : zcl T0 s0) (ad0 : Nat → Nat) (N : Nat) (sz : Nat) (a0 : Nat) : ∀ (T9 : zT) (s9 : zS), f_X10_init T0 N s0 a0 = some (T9, s9) → Met l yX10_init wsX10_init ({ frames := 1, cells := 2, slots := 40, locals := 20 }) (va_Pc [.ref (ad0 a0)] (zPre D cy T0 ad0 s0 sz)) (zQn D cy T0 ad0 sz T9 s9) 2 40 (zA T0 ad0 sz) := by
  intro T9 s9 hq
  refine Met.ofW (cc := cX10_init) (maxL := 1) (ret := none) (by decide) rfl ?_
  intro p e s m args below meth c s₁ B hml hv
  obtain ⟨hargs, hsz, hP, hK, hD0, hN⟩ := hv
  have hx := B.exec
  have hb := B.bytes
  have hr := B.returns
  have hts := atoms_spec (ws := wsX10_init) B.pre
  have hown : s.vm.findClass RX10 = some m.cls := findClass_of_methodNamed B.named
  have hlocks := B.notSynchronized
  have hin : meth.name = "<init>" := (name_of_methodNamed B.named B.method).1
  have S : CallFix p m c cX10_init 1 s args wsX10_init RX10 := ⟨hx, hb, hml, hown, hts⟩
  subst hsz
  have hZ : zD D cy T0 ad0 (zA T0 ad0 s.heap.size) s.heap s0 s.heap [] s := ⟨zz_entry hP hK hD0 hN, hT, hC⟩
  obtain ⟨ls, hent, hl⟩ := zz_ent m hargs (n := 1) (Nat.le_of_ble_eq_true rfl)
  rw [hent]
  have hl : lv_has ls 1 [(0, .ref (ad0 a0))] := hl
  have iwX10 : ∀ w ∈ u_ws RX10 TX10 3, w ∈ wsX10_init := fun w h => wS (inWX10 w h)
  unfold f_X10_init at hq
  refine zz_guard hq (fun hk0 hq => ?_)
  have h_a0 : a0 < T0.2.2 := hT a0 (by omega)
  have hG : zG T0 ad0 T0 ad0 := zG_rf
  refine lv_aload_n hx hb dX10_init_0 rfl (lv_at hl 0 rfl) ?_
  refine W.objInit hx hb hown (hts _ (wS wd_846)) (hts _ (wS wd_802)) (hts _ (wS wd_803)) rfl (by rw [hml]; exact hl.1) rfl dX10_init_1 (Nat.le_of_ble_eq_true rfl) (Nat.le_of_ble_eq_true rfl) ?_
  refine W.eq (g2 := F0 m 4 ls []) rfl ?_
  refine lv_aload_n hx hb dX10_init_4 rfl (lv_at hl 0 rfl) ?_
  refine lv_bipush (v := 20) hx hb dX10_init_5 (by decide) ?_
  refine zz_guard hq (fun hg hq => ?_)
  refine zz_newI S hZ 20 (wS wd_808) (by decide) (by decide) (by decide) dX10_init_7 hq hg (fun T1 s101 ad1 H hq hGn hn hZ => ?_)
  obtain ⟨h_a0, eq_0⟩ := hGn _ h_a0
  rw [← eq_0]
  rw [← eq_0] at hl
  have hG := zG_tr hG hGn
  have h_T1 := hn
  refine zz_putRF S hZ hin (C := RX10) (F := TX10) (N := 3) (index := 9) 10 0 iwX10 tyX10 tyX10_ok nmX10 rfl (by decide) (by decide) rfl rfl (wS wd_342) (fun _ h9 => h9) rfl rfl (ty := .array (.int)) (by decide +kernel) rfl rfl dX10_init_9 hq (fun s102 H locs hq hZ => ?_)
  refine lv_aload_n hx hb dX10_init_12 rfl (lv_at hl 0 rfl) ?_
  refine lv_bipush (v := 20) hx hb dX10_init_13 (by decide) ?_
  refine zz_guard hq (fun hg hq => ?_)
  refine zz_newI S hZ 20 (wS wd_808) (by decide) (by decide) (by decide) dX10_init_15 hq hg (fun T3 s103 ad3 H hq hGn hn hZ => ?_)
  obtain ⟨h_a0, eq_1⟩ := hGn _ h_a0
  rw [← eq_1]
  rw [← eq_1] at hl
  have hG := zG_tr hG hGn
  have h_T3 := hn
  refine zz_putRF S hZ hin (C := RX10) (F := TX10) (N := 3) (index := 15) 10 1 iwX10 tyX10 tyX10_ok nmX10 rfl (by decide) (by decide) rfl rfl (wS wd_355) (fun _ h9 => h9) rfl rfl (ty := .array (.int)) (by decide +kernel) rfl rfl dX10_init_17 hq (fun s104 H locs hq hZ => ?_)
  refine zz_guard hq (fun hg hq => ?_)
  exact zz_cret S hZ hG hr hlocks dX10_init_20 hg hq rfl
def f_X11_init (T0 : zT) (N : Nat) (s0 : zS) (a0 : Nat) : Option (zT × zS) :=
  zz1 (T0.1 a0 = 11) <|
  zz1 (1 ≤ 373 ∧ 4 ≤ 2648) <|
  zb2 (nO T0 s0 2 0) fun T1 s101 =>
  zz1 (51 ≤ 373 ∧ 352 ≤ 2648) <|
  zb2 (f_X2_init T1 N s101 T0.2.2) fun T2 s102 =>
  (pR T2 s102 a0 11 0 T0.2.2).bind fun s103 =>
  zz1 (52 ≤ 373 ∧ 354 ≤ 2648) <|
  zb2 (nO T2 s103 5 0) fun T4 s104 =>
  zz1 (359 ≤ 373 ∧ 2472 ≤ 2648) <|
  zb2 (f_X5_init T4 N s104 T2.2.2) fun T5 s105 =>
  (pR T5 s105 a0 11 1 T2.2.2).bind fun s106 =>
  zz1 (360 ≤ 373 ∧ 2479 ≤ 2648) <|
  zb2 (nO T5 s106 9 0) fun T7 s107 =>
  zz1 (369 ≤ 373 ∧ 2602 ≤ 2648) <|
  zb2 (f_X9_init T7 N s107 T5.2.2) fun T8 s108 =>
  (pR T8 s108 a0 11 2 T5.2.2).bind fun s109 =>
  zz1 (370 ≤ 373 ∧ 2605 ≤ 2648) <|
  zb2 (nO T8 s109 10 0) fun T10 s110 =>
  zz1 (372 ≤ 373 ∧ 2645 ≤ 2648) <|
  zb2 (f_X10_init T10 N s110 T8.2.2) fun T11 s111 =>
  (pR T11 s111 a0 11 3 T8.2.2).bind fun s112 =>
  zz1 (373 ≤ 373 ∧ 2648 ≤ 2648) <|
  zb2 (nO T11 s112 8 0) fun T13 s113 =>
  zz1 (373 ≤ 373 ∧ 2648 ≤ 2648) <|
  zb2 (f_X8_init T13 N s113 T11.2.2) fun T14 s114 =>
  (pR T14 s114 a0 11 4 T11.2.2).bind fun s115 =>
  zz1 (373 ≤ 373 ∧ 2648 ≤ 2648) <|
  some (T14, s115)
set_option maxHeartbeats 4000000 in
set_option maxRecDepth 100000 in
theorem c_X11_init (l : Launch) (D : va_G) (cy : Nat → ClassId) (T0 : zT) (hT : zok T0) {s0 : zS} (hC : zcl T0 s0) (ad0 : Nat → Nat) (N : Nat) (sz : Nat) (a0 : Nat) : ∀ (T9 : zT) (s9 : zS), f_X11_init T0 N s0 a0 = some (T9, s9) → Met l yX11_init wsX11_init ({ frames := 5, cells := 373, slots := 2648, locals := 102 }) (va_Pc [.ref (ad0 a0)] (zPre D cy T0 ad0 s0 sz)) (zQn D cy T0 ad0 sz T9 s9) 373 2648 (zA T0 ad0 sz) := by
  intro T9 s9 hq
  refine Met.ofW (cc := cX11_init) (maxL := 1) (ret := none) (by decide) rfl ?_
  intro p e s m args below meth c s₁ B hml hv
  obtain ⟨hargs, hsz, hP, hK, hD0, hN⟩ := hv
  have hx := B.exec
  have hb := B.bytes
  have hr := B.returns
  have hts := atoms_spec (ws := wsX11_init) B.pre
  have hown : s.vm.findClass RX11 = some m.cls := findClass_of_methodNamed B.named
  have hlocks := B.notSynchronized
  have hin : meth.name = "<init>" := (name_of_methodNamed B.named B.method).1
  have S : CallFix p m c cX11_init 1 s args wsX11_init RX11 := ⟨hx, hb, hml, hown, hts⟩
  subst hsz
  have hZ : zD D cy T0 ad0 (zA T0 ad0 s.heap.size) s.heap s0 s.heap [] s := ⟨zz_entry hP hK hD0 hN, hT, hC⟩
  obtain ⟨ls, hent, hl⟩ := zz_ent m hargs (n := 1) (Nat.le_of_ble_eq_true rfl)
  rw [hent]
  have hl : lv_has ls 1 [(0, .ref (ad0 a0))] := hl
  have iwX2 : ∀ w ∈ u_ws RX2 TX2 4, w ∈ wsX11_init := fun w h => wS (inWX2 w h)
  have iwX11 : ∀ w ∈ u_ws RX11 TX11 5, w ∈ wsX11_init := fun w h => wS (inWX11 w h)
  have iwX5 : ∀ w ∈ u_ws RX5 TX5 2, w ∈ wsX11_init := fun w h => wS (inWX5 w h)
  have iwX9 : ∀ w ∈ u_ws RX9 TX9 7, w ∈ wsX11_init := fun w h => wS (inWX9 w h)
  have iwX10 : ∀ w ∈ u_ws RX10 TX10 3, w ∈ wsX11_init := fun w h => wS (inWX10 w h)
  have iwX8 : ∀ w ∈ u_ws RX8 TX8 3, w ∈ wsX11_init := fun w h => wS (inWX8 w h)
  unfold f_X11_init at hq
  refine zz_guard hq (fun hk0 hq => ?_)
  have h_a0 : a0 < T0.2.2 := hT a0 (by omega)
  have hG : zG T0 ad0 T0 ad0 := zG_rf
  refine lv_aload_n hx hb dX11_init_0 rfl (lv_at hl 0 rfl) ?_
  refine W.objInit hx hb hown (hts _ (wS wd_847)) (hts _ (wS wd_802)) (hts _ (wS wd_803)) rfl (by rw [hml]; exact hl.1) rfl dX11_init_1 (Nat.le_of_ble_eq_true rfl) (Nat.le_of_ble_eq_true rfl) ?_
  refine W.eq (g2 := F0 m 4 ls []) rfl ?_
  refine lv_aload_n hx hb dX11_init_4 rfl (lv_at hl 0 rfl) ?_
  refine zz_guard hq (fun hg hq => ?_)
  refine zz_newO S hZ (C := RX2) (F := TX2) (N := 4) (index := 7) 2 iwX2 tyX2 tyX2_ok rfl (by decide) rfl (by intro j hj; rcases (show j = 0 ∨ j = 1 ∨ j = 2 ∨ j = 3 by omega) with rfl | rfl | rfl | rfl <;> rfl) (wS wd_848) (wS wd_841) (wS wd_174) dX11_init_5 hq hg (fun T1 s101 ad1 H hq hGn hn hZ => ?_)
  obtain ⟨h_a0, eq_0⟩ := hGn _ h_a0
  rw [← eq_0]
  rw [← eq_0] at hl
  have hG := zG_tr hG hGn
  have h_T1 := hn
  refine lv_dup hx hb dX11_init_8 rfl ?_
  refine zz_guard hq (fun hg hq => ?_)
  refine zz_callCN S hZ (As := []) (b := T0.2.2) (o := f_X2_init T1 N s101 T0.2.2) (c_X2_init l D cy T1 hZ.2.1 hZ.2.2 ad1 N _ T0.2.2) ⟨va_cnB (host := "DiagramDesk") 0 hts (gN wSub wd_842) rfl rfl rfl (zN_at hN 0 rfl) (hts _ (wS wd_174)) (by decide +kernel) ⟨Nat.le_of_ble_eq_true rfl, Nat.le_of_ble_eq_true rfl⟩, rfl, hts _ (wS wd_843)⟩ rfl hl.1 rfl (Nat.le_of_ble_eq_true rfl) dX11_init_9 hq hg (fun T2 s102 ad2 H locs hq hGn hZ => ?_)
  obtain ⟨h_a0, eq_1⟩ := hGn _ h_a0
  rw [← eq_1]
  rw [← eq_1] at hl
  obtain ⟨h_T1, eq_2⟩ := hGn _ h_T1
  rw [← eq_2]
  have hG := zG_tr hG hGn
  refine zz_putRF S hZ hin (C := RX11) (F := TX11) (N := 5) (index := 10) 11 0 iwX11 tyX11 tyX11_ok nmX11 rfl (by decide) (by decide) rfl rfl (wS wd_391) (fun _ h9 => h9) rfl rfl (ty := .object "DiagramDesk$Diagram") (by decide +kernel) rfl rfl dX11_init_12 hq (fun s103 H locs hq hZ => ?_)
  refine lv_aload_n hx hb dX11_init_15 rfl (lv_at hl 0 rfl) ?_
  refine zz_guard hq (fun hg hq => ?_)
  refine zz_newO S hZ (C := RX5) (F := TX5) (N := 2) (index := 16) 5 iwX5 tyX5 tyX5_ok rfl (by decide) rfl (by intro j hj; rcases (show j = 0 ∨ j = 1 by omega) with rfl | rfl <;> rfl) (wS wd_849) (wS wd_850) (wS wd_215) dX11_init_16 hq hg (fun T4 s104 ad4 H hq hGn hn hZ => ?_)
  obtain ⟨h_a0, eq_3⟩ := hGn _ h_a0
  rw [← eq_3]
  rw [← eq_3] at hl
  have hG := zG_tr hG hGn
  have h_T4 := hn
  refine lv_dup hx hb dX11_init_19 rfl ?_
  refine zz_guard hq (fun hg hq => ?_)
  refine zz_callC S hZ (As := []) (b := T2.2.2) (o := f_X5_init T4 N s104 T2.2.2) (c_X5_init l D cy T4 hZ.2.1 hZ.2.2 ad4 N _ T2.2.2) (cwI 0 hts (gN wSub wd_851) rfl rfl rfl (hts _ (wS wd_215)) (hts _ (wS wd_853)) (hts _ (wS wd_852)) rfl (by decide +kernel) ⟨Nat.le_of_ble_eq_true rfl, Nat.le_of_ble_eq_true rfl⟩) rfl hl.1 rfl (Nat.le_of_ble_eq_true rfl) dX11_init_20 hq hg (fun T5 s105 ad5 H locs hq hGn hZ => ?_)
  obtain ⟨h_a0, eq_4⟩ := hGn _ h_a0
  rw [← eq_4]
  rw [← eq_4] at hl
  obtain ⟨h_T4, eq_5⟩ := hGn _ h_T4
  rw [← eq_5]
  have hG := zG_tr hG hGn
  refine zz_putRF S hZ hin (C := RX11) (F := TX11) (N := 5) (index := 19) 11 1 iwX11 tyX11 tyX11_ok nmX11 rfl (by decide) (by decide) rfl rfl (wS wd_394) (fun _ h9 => h9) rfl rfl (ty := .object "DiagramDesk$History") (by decide +kernel) rfl rfl dX11_init_23 hq (fun s106 H locs hq hZ => ?_)
  refine lv_aload_n hx hb dX11_init_26 rfl (lv_at hl 0 rfl) ?_
  refine zz_guard hq (fun hg hq => ?_)
  refine zz_newO S hZ (C := RX9) (F := TX9) (N := 7) (index := 23) 9 iwX9 tyX9 tyX9_ok rfl (by decide) rfl (by intro j hj; rcases (show j = 0 ∨ j = 1 ∨ j = 2 ∨ j = 3 ∨ j = 4 ∨ j = 5 ∨ j = 6 by omega) with rfl | rfl | rfl | rfl | rfl | rfl | rfl <;> rfl) (wS wd_854) (wS wd_855) (wS wd_314) dX11_init_27 hq hg (fun T7 s107 ad7 H hq hGn hn hZ => ?_)
  obtain ⟨h_a0, eq_6⟩ := hGn _ h_a0
  rw [← eq_6]
  rw [← eq_6] at hl
  have hG := zG_tr hG hGn
  have h_T7 := hn
  refine lv_dup hx hb dX11_init_30 rfl ?_
  refine zz_guard hq (fun hg hq => ?_)
  refine zz_callC S hZ (As := []) (b := T5.2.2) (o := f_X9_init T7 N s107 T5.2.2) (c_X9_init l D cy T7 hZ.2.1 hZ.2.2 ad7 N _ T5.2.2) (cwI 0 hts (gN wSub wd_856) rfl rfl rfl (hts _ (wS wd_314)) (hts _ (wS wd_858)) (hts _ (wS wd_857)) rfl (by decide +kernel) ⟨Nat.le_of_ble_eq_true rfl, Nat.le_of_ble_eq_true rfl⟩) rfl hl.1 rfl (Nat.le_of_ble_eq_true rfl) dX11_init_31 hq hg (fun T8 s108 ad8 H locs hq hGn hZ => ?_)
  obtain ⟨h_a0, eq_7⟩ := hGn _ h_a0
  rw [← eq_7]
  rw [← eq_7] at hl
  obtain ⟨h_T7, eq_8⟩ := hGn _ h_T7
  rw [← eq_8]
  have hG := zG_tr hG hGn
  refine zz_putRF S hZ hin (C := RX11) (F := TX11) (N := 5) (index := 26) 11 2 iwX11 tyX11 tyX11_ok nmX11 rfl (by decide) (by decide) rfl rfl (wS wd_530) (fun _ h9 => h9) rfl rfl (ty := .object "DiagramDesk$Text") (by decide +kernel) rfl rfl dX11_init_34 hq (fun s109 H locs hq hZ => ?_)
  refine lv_aload_n hx hb dX11_init_37 rfl (lv_at hl 0 rfl) ?_
  refine zz_guard hq (fun hg hq => ?_)
  refine zz_newO S hZ (C := RX10) (F := TX10) (N := 3) (index := 30) 10 iwX10 tyX10 tyX10_ok rfl (by decide) rfl (by intro j hj; rcases (show j = 0 ∨ j = 1 ∨ j = 2 by omega) with rfl | rfl | rfl <;> rfl) (wS wd_859) (wS wd_860) (wS wd_353) dX11_init_38 hq hg (fun T10 s110 ad10 H hq hGn hn hZ => ?_)
  obtain ⟨h_a0, eq_9⟩ := hGn _ h_a0
  rw [← eq_9]
  rw [← eq_9] at hl
  have hG := zG_tr hG hGn
  have h_T10 := hn
  refine lv_dup hx hb dX11_init_41 rfl ?_
  refine zz_guard hq (fun hg hq => ?_)
  refine zz_callCN S hZ (As := []) (b := T8.2.2) (o := f_X10_init T10 N s110 T8.2.2) (c_X10_init l D cy T10 hZ.2.1 hZ.2.2 ad10 N _ T8.2.2) ⟨va_cnB (host := "DiagramDesk") 0 hts (gN wSub wd_861) rfl rfl rfl (zN_at hN 7 rfl) (hts _ (wS wd_353)) (by decide +kernel) ⟨Nat.le_of_ble_eq_true rfl, Nat.le_of_ble_eq_true rfl⟩, rfl, hts _ (wS wd_862)⟩ rfl hl.1 rfl (Nat.le_of_ble_eq_true rfl) dX11_init_42 hq hg (fun T11 s111 ad11 H locs hq hGn hZ => ?_)
  obtain ⟨h_a0, eq_10⟩ := hGn _ h_a0
  rw [← eq_10]
  rw [← eq_10] at hl
  obtain ⟨h_T10, eq_11⟩ := hGn _ h_T10
  rw [← eq_11]
  have hG := zG_tr hG hGn
  refine zz_putRF S hZ hin (C := RX11) (F := TX11) (N := 5) (index := 33) 11 3 iwX11 tyX11 tyX11_ok nmX11 rfl (by decide) (by decide) rfl rfl (wS wd_465) (fun _ h9 => h9) rfl rfl (ty := .object "DiagramDesk$Units") (by decide +kernel) rfl rfl dX11_init_45 hq (fun s112 H locs hq hZ => ?_)
  refine lv_aload_n hx hb dX11_init_48 rfl (lv_at hl 0 rfl) ?_
  refine zz_guard hq (fun hg hq => ?_)
  refine zz_newO S hZ (C := RX8) (F := TX8) (N := 3) (index := 37) 8 iwX8 tyX8 tyX8_ok rfl (by decide) rfl (by intro j hj; rcases (show j = 0 ∨ j = 1 ∨ j = 2 by omega) with rfl | rfl | rfl <;> rfl) (wS wd_863) (wS wd_864) (wS wd_267) dX11_init_49 hq hg (fun T13 s113 ad13 H hq hGn hn hZ => ?_)
  obtain ⟨h_a0, eq_12⟩ := hGn _ h_a0
  rw [← eq_12]
  rw [← eq_12] at hl
  have hG := zG_tr hG hGn
  have h_T13 := hn
  refine lv_dup hx hb dX11_init_52 rfl ?_
  refine zz_guard hq (fun hg hq => ?_)
  refine zz_callCN S hZ (As := []) (b := T11.2.2) (o := f_X8_init T13 N s113 T11.2.2) (c_X8_init l D cy T13 hZ.2.1 hZ.2.2 ad13 N _ T11.2.2) ⟨va_cnB (host := "DiagramDesk") 0 hts (gN wSub wd_865) rfl rfl rfl (zN_at hN 8 rfl) (hts _ (wS wd_267)) (by decide +kernel) ⟨Nat.le_of_ble_eq_true rfl, Nat.le_of_ble_eq_true rfl⟩, rfl, hts _ (wS wd_866)⟩ rfl hl.1 rfl (Nat.le_of_ble_eq_true rfl) dX11_init_53 hq hg (fun T14 s114 ad14 H locs hq hGn hZ => ?_)
  obtain ⟨h_a0, eq_13⟩ := hGn _ h_a0
  rw [← eq_13]
  rw [← eq_13] at hl
  obtain ⟨h_T13, eq_14⟩ := hGn _ h_T13
  rw [← eq_14]
  have hG := zG_tr hG hGn
  refine zz_putRF S hZ hin (C := RX11) (F := TX11) (N := 5) (index := 40) 11 4 iwX11 tyX11 tyX11_ok nmX11 rfl (by decide) (by decide) rfl rfl (wS wd_502) (fun _ h9 => h9) rfl rfl (ty := .object "DiagramDesk$Snap") (by decide +kernel) rfl rfl dX11_init_56 hq (fun s115 H locs hq hZ => ?_)
  refine zz_guard hq (fun hg hq => ?_)
  exact zz_cret S hZ hG hr hlocks dX11_init_59 hg hq rfl
def f_X12_init (T0 : zT) (N : Nat) (s0 : zS) (a0 : Nat) : Option (zT × zS) :=
  zz1 (T0.1 a0 = 12) <|
  zz1 (1 ≤ 15 ∧ 380 ≤ 3032) <|
  zb2 (nO T0 s0 13 380) fun T1 s101 =>
  (pR T1 s101 a0 12 0 T0.2.2).bind fun s102 =>
  zz1 (2 ≤ 15 ∧ 2660 ≤ 3032) <|
  zb2 (nO T1 s102 13 2280) fun T3 s103 =>
  (pR T3 s103 a0 12 1 T1.2.2).bind fun s104 =>
  zz1 (3 ≤ 15 ∧ 2664 ≤ 3032) <|
  zb2 (nO T3 s104 13 4) fun T5 s105 =>
  (pR T5 s105 a0 12 3 T3.2.2).bind fun s106 =>
  zz1 (4 ≤ 15 ∧ 2668 ≤ 3032) <|
  zb2 (nO T5 s106 13 4) fun T7 s107 =>
  (pR T7 s107 a0 12 4 T5.2.2).bind fun s108 =>
  zz1 (5 ≤ 15 ∧ 2688 ≤ 3032) <|
  zb2 (nO T7 s108 13 20) fun T9 s109 =>
  (pR T9 s109 a0 12 6 T7.2.2).bind fun s110 =>
  zz1 (6 ≤ 15 ∧ 2708 ≤ 3032) <|
  zb2 (nO T9 s110 13 20) fun T11 s111 =>
  (pR T11 s111 a0 12 7 T9.2.2).bind fun s112 =>
  zz1 (7 ≤ 15 ∧ 2750 ≤ 3032) <|
  zb2 (nO T11 s112 13 42) fun T13 s113 =>
  (pR T13 s113 a0 12 8 T11.2.2).bind fun s114 =>
  zz1 (8 ≤ 15 ∧ 2792 ≤ 3032) <|
  zb2 (nO T13 s114 13 42) fun T15 s115 =>
  (pR T15 s115 a0 12 9 T13.2.2).bind fun s116 =>
  zz1 (9 ≤ 15 ∧ 2812 ≤ 3032) <|
  zb2 (nO T15 s116 13 20) fun T17 s117 =>
  (pR T17 s117 a0 12 10 T15.2.2).bind fun s118 =>
  zz1 (10 ≤ 15 ∧ 2832 ≤ 3032) <|
  zb2 (nO T17 s118 13 20) fun T19 s119 =>
  (pR T19 s119 a0 12 12 T17.2.2).bind fun s120 =>
  zz1 (11 ≤ 15 ∧ 2852 ≤ 3032) <|
  zb2 (nO T19 s120 13 20) fun T21 s121 =>
  (pR T21 s121 a0 12 13 T19.2.2).bind fun s122 =>
  zz1 (12 ≤ 15 ∧ 2872 ≤ 3032) <|
  zb2 (nO T21 s122 13 20) fun T23 s123 =>
  (pR T23 s123 a0 12 16 T21.2.2).bind fun s124 =>
  zz1 (13 ≤ 15 ∧ 2932 ≤ 3032) <|
  zb2 (nO T23 s124 13 60) fun T25 s125 =>
  (pR T25 s125 a0 12 17 T23.2.2).bind fun s126 =>
  zz1 (14 ≤ 15 ∧ 2952 ≤ 3032) <|
  zb2 (nO T25 s126 13 20) fun T27 s127 =>
  (pR T27 s127 a0 12 22 T25.2.2).bind fun s128 =>
  zz1 (15 ≤ 15 ∧ 3032 ≤ 3032) <|
  zb2 (nO T27 s128 13 80) fun T29 s129 =>
  (pR T29 s129 a0 12 23 T27.2.2).bind fun s130 =>
  (gR T29 s130 a0 12 0).bind fun a6 =>
  (sI T29 s130 a6 (5 : Int32) (5 : Int32)).bind fun s131 =>
  zz1 (15 ≤ 15 ∧ 3032 ≤ 3032) <|
  some (T29, s131)
set_option maxHeartbeats 4000000 in
set_option maxRecDepth 100000 in
theorem c_X12_init (l : Launch) (D : va_G) (cy : Nat → ClassId) (T0 : zT) (hT : zok T0) {s0 : zS} (hC : zcl T0 s0) (ad0 : Nat → Nat) (N : Nat) (sz : Nat) (a0 : Nat) : ∀ (T9 : zT) (s9 : zS), f_X12_init T0 N s0 a0 = some (T9, s9) → Met l yX12_init wsX12_init ({ frames := 1, cells := 15, slots := 3032, locals := 20 }) (va_Pc [.ref (ad0 a0)] (zPre D cy T0 ad0 s0 sz)) (zQn D cy T0 ad0 sz T9 s9) 15 3032 (zA T0 ad0 sz) := by
  intro T9 s9 hq
  refine Met.ofW (cc := cX12_init) (maxL := 1) (ret := none) (by decide) rfl ?_
  intro p e s m args below meth c s₁ B hml hv
  obtain ⟨hargs, hsz, hP, hK, hD0, hN⟩ := hv
  have hx := B.exec
  have hb := B.bytes
  have hr := B.returns
  have hts := atoms_spec (ws := wsX12_init) B.pre
  have hown : s.vm.findClass RX12 = some m.cls := findClass_of_methodNamed B.named
  have hlocks := B.notSynchronized
  have hin : meth.name = "<init>" := (name_of_methodNamed B.named B.method).1
  have S : CallFix p m c cX12_init 1 s args wsX12_init RX12 := ⟨hx, hb, hml, hown, hts⟩
  subst hsz
  have hZ : zD D cy T0 ad0 (zA T0 ad0 s.heap.size) s.heap s0 s.heap [] s := ⟨zz_entry hP hK hD0 hN, hT, hC⟩
  obtain ⟨ls, hent, hl⟩ := zz_ent m hargs (n := 1) (Nat.le_of_ble_eq_true rfl)
  rw [hent]
  have hl : lv_has ls 1 [(0, .ref (ad0 a0))] := hl
  have iwX12 : ∀ w ∈ u_ws RX12 TX12 24, w ∈ wsX12_init := fun w h => wS (inWX12 w h)
  unfold f_X12_init at hq
  refine zz_guard hq (fun hk0 hq => ?_)
  have h_a0 : a0 < T0.2.2 := hT a0 (by omega)
  have hG : zG T0 ad0 T0 ad0 := zG_rf
  refine lv_aload_n hx hb dX12_init_0 rfl (lv_at hl 0 rfl) ?_
  refine W.objInit hx hb hown (hts _ (wS wd_867)) (hts _ (wS wd_802)) (hts _ (wS wd_803)) rfl (by rw [hml]; exact hl.1) rfl dX12_init_1 (Nat.le_of_ble_eq_true rfl) (Nat.le_of_ble_eq_true rfl) ?_
  refine W.eq (g2 := F0 m 4 ls []) rfl ?_
  refine lv_aload_n hx hb dX12_init_4 rfl (lv_at hl 0 rfl) ?_
  refine lv_sipush (v := 380) hx hb dX12_init_5 (by decide) ?_
  refine zz_guard hq (fun hg hq => ?_)
  refine zz_newI S hZ 380 (wS wd_808) (by decide) (by decide) (by decide) dX12_init_8 hq hg (fun T1 s101 ad1 H hq hGn hn hZ => ?_)
  obtain ⟨h_a0, eq_0⟩ := hGn _ h_a0
  rw [← eq_0]
  rw [← eq_0] at hl
  have hG := zG_tr hG hGn
  have h_T1 := hn
  refine zz_putRF S hZ hin (C := RX12) (F := TX12) (N := 24) (index := 7) 12 0 iwX12 tyX12 tyX12_ok nmX12 rfl (by decide) (by decide) rfl rfl (wS wd_569) (fun _ h9 => h9) rfl rfl (ty := .array (.int)) (by decide +kernel) rfl rfl dX12_init_10 hq (fun s102 H locs hq hZ => ?_)
  refine lv_aload_n hx hb dX12_init_13 rfl (lv_at hl 0 rfl) ?_
  refine lv_sipush (v := 2280) hx hb dX12_init_14 (by decide) ?_
  refine zz_guard hq (fun hg hq => ?_)
  refine zz_newI S hZ 2280 (wS wd_808) (by decide) (by decide) (by decide) dX12_init_17 hq hg (fun T3 s103 ad3 H hq hGn hn hZ => ?_)
  obtain ⟨h_a0, eq_1⟩ := hGn _ h_a0
  rw [← eq_1]
  rw [← eq_1] at hl
  have hG := zG_tr hG hGn
  have h_T3 := hn
  refine zz_putRF S hZ hin (C := RX12) (F := TX12) (N := 24) (index := 13) 12 1 iwX12 tyX12 tyX12_ok nmX12 rfl (by decide) (by decide) rfl rfl (wS wd_568) (fun _ h9 => h9) rfl rfl (ty := .array (.int)) (by decide +kernel) rfl rfl dX12_init_19 hq (fun s104 H locs hq hZ => ?_)
  refine lv_aload_n hx hb dX12_init_22 rfl (lv_at hl 0 rfl) ?_
  refine lv_iconst (v := 4) hx hb dX12_init_23 (by decide) ?_
  refine zz_guard hq (fun hg hq => ?_)
  refine zz_newI S hZ 4 (wS wd_808) (by decide) (by decide) (by decide) dX12_init_24 hq hg (fun T5 s105 ad5 H hq hGn hn hZ => ?_)
  obtain ⟨h_a0, eq_2⟩ := hGn _ h_a0
  rw [← eq_2]
  rw [← eq_2] at hl
  have hG := zG_tr hG hGn
  have h_T5 := hn
  refine zz_putRF S hZ hin (C := RX12) (F := TX12) (N := 24) (index := 16) 12 3 iwX12 tyX12 tyX12_ok nmX12 rfl (by decide) (by decide) rfl rfl (wS wd_668) (fun _ h9 => h9) rfl rfl (ty := .array (.int)) (by decide +kernel) rfl rfl dX12_init_26 hq (fun s106 H locs hq hZ => ?_)
  refine lv_aload_n hx hb dX12_init_29 rfl (lv_at hl 0 rfl) ?_
  refine lv_iconst (v := 4) hx hb dX12_init_30 (by decide) ?_
  refine zz_guard hq (fun hg hq => ?_)
  refine zz_newI S hZ 4 (wS wd_808) (by decide) (by decide) (by decide) dX12_init_31 hq hg (fun T7 s107 ad7 H hq hGn hn hZ => ?_)
  obtain ⟨h_a0, eq_3⟩ := hGn _ h_a0
  rw [← eq_3]
  rw [← eq_3] at hl
  have hG := zG_tr hG hGn
  have h_T7 := hn
  refine zz_putRF S hZ hin (C := RX12) (F := TX12) (N := 24) (index := 19) 12 4 iwX12 tyX12 tyX12_ok nmX12 rfl (by decide) (by decide) rfl rfl (wS wd_670) (fun _ h9 => h9) rfl rfl (ty := .array (.int)) (by decide +kernel) rfl rfl dX12_init_33 hq (fun s108 H locs hq hZ => ?_)
  refine lv_aload_n hx hb dX12_init_36 rfl (lv_at hl 0 rfl) ?_
  refine lv_bipush (v := 20) hx hb dX12_init_37 (by decide) ?_
  refine zz_guard hq (fun hg hq => ?_)
  refine zz_newI S hZ 20 (wS wd_808) (by decide) (by decide) (by decide) dX12_init_39 hq hg (fun T9 s109 ad9 H hq hGn hn hZ => ?_)
  obtain ⟨h_a0, eq_4⟩ := hGn _ h_a0
  rw [← eq_4]
  rw [← eq_4] at hl
  have hG := zG_tr hG hGn
  have h_T9 := hn
  refine zz_putRF S hZ hin (C := RX12) (F := TX12) (N := 24) (index := 22) 12 6 iwX12 tyX12 tyX12_ok nmX12 rfl (by decide) (by decide) rfl rfl (wS wd_717) (fun _ h9 => h9) rfl rfl (ty := .array (.int)) (by decide +kernel) rfl rfl dX12_init_41 hq (fun s110 H locs hq hZ => ?_)
  refine lv_aload_n hx hb dX12_init_44 rfl (lv_at hl 0 rfl) ?_
  refine lv_bipush (v := 20) hx hb dX12_init_45 (by decide) ?_
  refine zz_guard hq (fun hg hq => ?_)
  refine zz_newI S hZ 20 (wS wd_808) (by decide) (by decide) (by decide) dX12_init_47 hq hg (fun T11 s111 ad11 H hq hGn hn hZ => ?_)
  obtain ⟨h_a0, eq_5⟩ := hGn _ h_a0
  rw [← eq_5]
  rw [← eq_5] at hl
  have hG := zG_tr hG hGn
  have h_T11 := hn
  refine zz_putRF S hZ hin (C := RX12) (F := TX12) (N := 24) (index := 25) 12 7 iwX12 tyX12 tyX12_ok nmX12 rfl (by decide) (by decide) rfl rfl (wS wd_718) (fun _ h9 => h9) rfl rfl (ty := .array (.int)) (by decide +kernel) rfl rfl dX12_init_49 hq (fun s112 H locs hq hZ => ?_)
  refine lv_aload_n hx hb dX12_init_52 rfl (lv_at hl 0 rfl) ?_
  refine lv_bipush (v := 42) hx hb dX12_init_53 (by decide) ?_
  refine zz_guard hq (fun hg hq => ?_)
  refine zz_newI S hZ 42 (wS wd_808) (by decide) (by decide) (by decide) dX12_init_55 hq hg (fun T13 s113 ad13 H hq hGn hn hZ => ?_)
  obtain ⟨h_a0, eq_6⟩ := hGn _ h_a0
  rw [← eq_6]
  rw [← eq_6] at hl
  have hG := zG_tr hG hGn
  have h_T13 := hn
  refine zz_putRF S hZ hin (C := RX12) (F := TX12) (N := 24) (index := 28) 12 8 iwX12 tyX12 tyX12_ok nmX12 rfl (by decide) (by decide) rfl rfl (wS wd_708) (fun _ h9 => h9) rfl rfl (ty := .array (.int)) (by decide +kernel) rfl rfl dX12_init_57 hq (fun s114 H locs hq hZ => ?_)
  refine lv_aload_n hx hb dX12_init_60 rfl (lv_at hl 0 rfl) ?_
  refine lv_bipush (v := 42) hx hb dX12_init_61 (by decide) ?_
  refine zz_guard hq (fun hg hq => ?_)
  refine zz_newI S hZ 42 (wS wd_808) (by decide) (by decide) (by decide) dX12_init_63 hq hg (fun T15 s115 ad15 H hq hGn hn hZ => ?_)
  obtain ⟨h_a0, eq_7⟩ := hGn _ h_a0
  rw [← eq_7]
  rw [← eq_7] at hl
  have hG := zG_tr hG hGn
  have h_T15 := hn
  refine zz_putRF S hZ hin (C := RX12) (F := TX12) (N := 24) (index := 31) 12 9 iwX12 tyX12 tyX12_ok nmX12 rfl (by decide) (by decide) rfl rfl (wS wd_709) (fun _ h9 => h9) rfl rfl (ty := .array (.int)) (by decide +kernel) rfl rfl dX12_init_65 hq (fun s116 H locs hq hZ => ?_)
  refine lv_aload_n hx hb dX12_init_68 rfl (lv_at hl 0 rfl) ?_
  refine lv_bipush (v := 20) hx hb dX12_init_69 (by decide) ?_
  refine zz_guard hq (fun hg hq => ?_)
  refine zz_newI S hZ 20 (wS wd_808) (by decide) (by decide) (by decide) dX12_init_71 hq hg (fun T17 s117 ad17 H hq hGn hn hZ => ?_)
  obtain ⟨h_a0, eq_8⟩ := hGn _ h_a0
  rw [← eq_8]
  rw [← eq_8] at hl
  have hG := zG_tr hG hGn
  have h_T17 := hn
  refine zz_putRF S hZ hin (C := RX12) (F := TX12) (N := 24) (index := 34) 12 10 iwX12 tyX12 tyX12_ok nmX12 rfl (by decide) (by decide) rfl rfl (wS wd_719) (fun _ h9 => h9) rfl rfl (ty := .array (.int)) (by decide +kernel) rfl rfl dX12_init_73 hq (fun s118 H locs hq hZ => ?_)
  refine lv_aload_n hx hb dX12_init_76 rfl (lv_at hl 0 rfl) ?_
  refine lv_bipush (v := 20) hx hb dX12_init_77 (by decide) ?_
  refine zz_guard hq (fun hg hq => ?_)
  refine zz_newI S hZ 20 (wS wd_808) (by decide) (by decide) (by decide) dX12_init_79 hq hg (fun T19 s119 ad19 H hq hGn hn hZ => ?_)
  obtain ⟨h_a0, eq_9⟩ := hGn _ h_a0
  rw [← eq_9]
  rw [← eq_9] at hl
  have hG := zG_tr hG hGn
  have h_T19 := hn
  refine zz_putRF S hZ hin (C := RX12) (F := TX12) (N := 24) (index := 37) 12 12 iwX12 tyX12 tyX12_ok nmX12 rfl (by decide) (by decide) rfl rfl (wS wd_728) (fun _ h9 => h9) rfl rfl (ty := .array (.int)) (by decide +kernel) rfl rfl dX12_init_81 hq (fun s120 H locs hq hZ => ?_)
  refine lv_aload_n hx hb dX12_init_84 rfl (lv_at hl 0 rfl) ?_
  refine lv_bipush (v := 20) hx hb dX12_init_85 (by decide) ?_
  refine zz_guard hq (fun hg hq => ?_)
  refine zz_newI S hZ 20 (wS wd_808) (by decide) (by decide) (by decide) dX12_init_87 hq hg (fun T21 s121 ad21 H hq hGn hn hZ => ?_)
  obtain ⟨h_a0, eq_10⟩ := hGn _ h_a0
  rw [← eq_10]
  rw [← eq_10] at hl
  have hG := zG_tr hG hGn
  have h_T21 := hn
  refine zz_putRF S hZ hin (C := RX12) (F := TX12) (N := 24) (index := 40) 12 13 iwX12 tyX12 tyX12_ok nmX12 rfl (by decide) (by decide) rfl rfl (wS wd_729) (fun _ h9 => h9) rfl rfl (ty := .array (.int)) (by decide +kernel) rfl rfl dX12_init_89 hq (fun s122 H locs hq hZ => ?_)
  refine lv_aload_n hx hb dX12_init_92 rfl (lv_at hl 0 rfl) ?_
  refine lv_bipush (v := 20) hx hb dX12_init_93 (by decide) ?_
  refine zz_guard hq (fun hg hq => ?_)
  refine zz_newI S hZ 20 (wS wd_808) (by decide) (by decide) (by decide) dX12_init_95 hq hg (fun T23 s123 ad23 H hq hGn hn hZ => ?_)
  obtain ⟨h_a0, eq_11⟩ := hGn _ h_a0
  rw [← eq_11]
  rw [← eq_11] at hl
  have hG := zG_tr hG hGn
  have h_T23 := hn
  refine zz_putRF S hZ hin (C := RX12) (F := TX12) (N := 24) (index := 43) 12 16 iwX12 tyX12 tyX12_ok nmX12 rfl (by decide) (by decide) rfl rfl (wS wd_767) (fun _ h9 => h9) rfl rfl (ty := .array (.int)) (by decide +kernel) rfl rfl dX12_init_97 hq (fun s124 H locs hq hZ => ?_)
  refine lv_aload_n hx hb dX12_init_100 rfl (lv_at hl 0 rfl) ?_
  refine lv_bipush (v := 60) hx hb dX12_init_101 (by decide) ?_
  refine zz_guard hq (fun hg hq => ?_)
  refine zz_newI S hZ 60 (wS wd_808) (by decide) (by decide) (by decide) dX12_init_103 hq hg (fun T25 s125 ad25 H hq hGn hn hZ => ?_)
  obtain ⟨h_a0, eq_12⟩ := hGn _ h_a0
  rw [← eq_12]
  rw [← eq_12] at hl
  have hG := zG_tr hG hGn
  have h_T25 := hn
  refine zz_putRF S hZ hin (C := RX12) (F := TX12) (N := 24) (index := 46) 12 17 iwX12 tyX12 tyX12_ok nmX12 rfl (by decide) (by decide) rfl rfl (wS wd_777) (fun _ h9 => h9) rfl rfl (ty := .array (.int)) (by decide +kernel) rfl rfl dX12_init_105 hq (fun s126 H locs hq hZ => ?_)
  refine lv_aload_n hx hb dX12_init_108 rfl (lv_at hl 0 rfl) ?_
  refine lv_bipush (v := 20) hx hb dX12_init_109 (by decide) ?_
  refine zz_guard hq (fun hg hq => ?_)
  refine zz_newI S hZ 20 (wS wd_808) (by decide) (by decide) (by decide) dX12_init_111 hq hg (fun T27 s127 ad27 H hq hGn hn hZ => ?_)
  obtain ⟨h_a0, eq_13⟩ := hGn _ h_a0
  rw [← eq_13]
  rw [← eq_13] at hl
  have hG := zG_tr hG hGn
  have h_T27 := hn
  refine zz_putRF S hZ hin (C := RX12) (F := TX12) (N := 24) (index := 49) 12 22 iwX12 tyX12 tyX12_ok nmX12 rfl (by decide) (by decide) rfl rfl (wS wd_786) (fun _ h9 => h9) rfl rfl (ty := .array (.int)) (by decide +kernel) rfl rfl dX12_init_113 hq (fun s128 H locs hq hZ => ?_)
  refine lv_aload_n hx hb dX12_init_116 rfl (lv_at hl 0 rfl) ?_
  refine lv_bipush (v := 80) hx hb dX12_init_117 (by decide) ?_
  refine zz_guard hq (fun hg hq => ?_)
  refine zz_newI S hZ 80 (wS wd_808) (by decide) (by decide) (by decide) dX12_init_119 hq hg (fun T29 s129 ad29 H hq hGn hn hZ => ?_)
  obtain ⟨h_a0, eq_14⟩ := hGn _ h_a0
  rw [← eq_14]
  rw [← eq_14] at hl
  have hG := zG_tr hG hGn
  have h_T29 := hn
  refine zz_putRF S hZ hin (C := RX12) (F := TX12) (N := 24) (index := 52) 12 23 iwX12 tyX12 tyX12_ok nmX12 rfl (by decide) (by decide) rfl rfl (wS wd_783) (fun _ h9 => h9) rfl rfl (ty := .array (.int)) (by decide +kernel) rfl rfl dX12_init_121 hq (fun s130 H locs hq hZ => ?_)
  refine lv_aload_n hx hb dX12_init_124 rfl (lv_at hl 0 rfl) ?_
  refine zz_getRC S hZ (C := RX12) (ref := "DiagramDeskModel") (F := TX12) (N := 24) (index := 7) 12 0 iwX12 rfl (by decide) (by decide) rfl rfl (wS wd_569) (fun _ h9 => h9) dX12_init_125 hq (fun a6 h_a6 hq => ?_)
  refine lv_iconst (v := 5) hx hb dX12_init_128 (by decide) ?_
  refine lv_iconst (v := 5) hx hb dX12_init_129 (by decide) ?_
  refine zz_astC S hZ dX12_init_130 hq (fun s131 H locs hq hZ => ?_)
  refine zz_guard hq (fun hg hq => ?_)
  exact zz_cret S hZ hG hr hlocks dX12_init_131 hg hq rfl
