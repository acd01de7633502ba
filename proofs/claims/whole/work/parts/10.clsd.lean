def f_X8_offer (T : zT) (N : Nat) (s0 : zS) (a0 : Nat) (x1 : Int32) (x2 : Int32) : Option zS :=
  zz1 (T.1 a0 = 8) <|
  zn (if 0 ≤ x2 then x2 else 0 - x2) fun x5 =>
  (gI T s0 a0 8 2).bind fun x6 =>
  if x6 < x5 then (
    some s0)
  else (
    (gI T s0 a0 8 0).bind fun x7 =>
    if x1 ≤ x7 then (
      (gI T s0 a0 8 0).bind fun x8 =>
      if x1 < x8 then (
        (pI T s0 a0 8 0 x1).bind fun s9 =>
        (pI T s9 a0 8 1 x2).bind fun s10 =>
        some s10)
      else (
        zb2 (f_X8_isNearer T N s0 a0 x2) fun x12 s11 =>
        if x12 = 0 then (
          some s11)
        else (
          (pI T s11 a0 8 0 x1).bind fun s13 =>
          (pI T s13 a0 8 1 x2).bind fun s14 =>
          some s14)))
    else (
      some s0))
theorem k_X8_offer (T : zT) (N : Nat) (s0 : zS) (a0 : Nat) (x1 : Int32) (x2 : Int32) : ∀ q, f_X8_offer T N s0 a0 x1 x2 = some q → T.1 a0 = 8 := by
  intro q h
  unfold f_X8_offer at h
  exact zz_guard h (fun h _ => h)
set_option maxHeartbeats 4000000 in
set_option maxRecDepth 100000 in
theorem c_X8_offer (l : Launch) (D : va_G) (cy : Nat → ClassId) (T : zT) (hT : zok T) (ad : Nat → Nat) (N : Nat) (s0 : zS) (sz : Nat) (a0 : Nat) (x1 : Int32) (x2 : Int32) : ∀ (σ0 : zS), f_X8_offer T N s0 a0 x1 x2 = some σ0 → Met l yX8_offer wsX8_offer ({ frames := 2, cells := 0, slots := 0, locals := 47 }) (va_Pc [.ref (ad a0), .int x1, .int x2] (zPre D cy T ad s0 sz)) (va_Qv (fun σ2 : zS => σ2 = σ0) (zAt D cy T ad (zA T ad sz)) (zA T ad sz)) 0 0 (zA T ad sz) := by
  intro σ0 hq
  refine Met.ofW (cc := cX8_offer) (maxL := 3) (ret := none) (by decide) rfl ?_
  intro p e s m args below meth c s₁ B hml hv
  obtain ⟨hargs, hsz, hP, hK, hD0, hN⟩ := hv
  have hx := B.exec
  have hb := B.bytes
  have hr := B.returns
  have hts := atoms_spec (ws := wsX8_offer) B.pre
  have hown : s.vm.findClass RX8 = some m.cls := findClass_of_methodNamed B.named
  have hlocks := B.notSynchronized
  have S : CallFix p m c cX8_offer 3 s args wsX8_offer RX8 := ⟨hx, hb, hml, hown, hts⟩
  subst hsz
  have hB : zB D cy T ad (zA T ad s.heap.size) s.heap s0 s.heap [] s := zz_entry hP hK hD0 hN
  obtain ⟨ls, hent, hl⟩ := zz_ent m hargs (n := 3) (Nat.le_of_ble_eq_true rfl)
  rw [hent]
  have hl : lv_has ls 3 [(0, .ref (ad a0)), (1, .int x1), (2, .int x2)] := hl
  have iwX8 : ∀ w ∈ u_ws RX8 TX8 3, w ∈ wsX8_offer := fun w h => wS (inWX8 w h)
  unfold f_X8_offer at hq
  refine zz_guard hq (fun hk0 hq => ?_)
  refine lv_iload_n hx hb dX8_offer_0 rfl (lv_at hl 2 rfl) ?_
  refine zz_abs S hl.1 (wS wd_260) (wS wd_53) (wS wd_54) (wS wd_55) (Nat.le_of_ble_eq_true rfl) (Nat.le_of_ble_eq_true rfl) dX8_offer_1 ?_
  refine zz_nmI hq (fun x5 hq => ?_)
  refine lv_aload_n hx hb dX8_offer_4 rfl (lv_at hl 0 rfl) ?_
  refine zz_get S hT hB (C := RX8) (ref := "DiagramDesk$Snap") (F := TX8) (N := 3) (index := 42) 8 2 iwX8 rfl (by decide) (by decide) rfl rfl (wS wd_262) (fun _ h9 => h9) dX8_offer_5 hq (fun x6 hq => ?_)
  refine zz_icmp_gt (tgt := 19) hx hb dX8_offer_8 (by decide) hq (fun hq => ?_) (fun hq => ?_)
  · exact zz_vret S hB hr hlocks dX8_offer_19 hq
  · refine lv_iload_n hx hb dX8_offer_11 rfl (lv_at hl 1 rfl) ?_
    refine lv_aload_n hx hb dX8_offer_12 rfl (lv_at hl 0 rfl) ?_
    refine zz_get S hT hB (C := RX8) (ref := "DiagramDesk$Snap") (F := TX8) (N := 3) (index := 27) 8 0 iwX8 rfl (by decide) (by decide) rfl rfl (wS wd_263) (fun _ h9 => h9) dX8_offer_13 hq (fun x7 hq => ?_)
    refine zz_icmp_le (tgt := 20) hx hb dX8_offer_16 (by decide) hq (fun hq => ?_) (fun hq => ?_)
    · refine lv_iload_n hx hb dX8_offer_20 rfl (lv_at hl 1 rfl) ?_
      refine lv_aload_n hx hb dX8_offer_21 rfl (lv_at hl 0 rfl) ?_
      refine zz_get S hT hB (C := RX8) (ref := "DiagramDesk$Snap") (F := TX8) (N := 3) (index := 27) 8 0 iwX8 rfl (by decide) (by decide) rfl rfl (wS wd_263) (fun _ h9 => h9) dX8_offer_22 hq (fun x8 hq => ?_)
      refine zz_icmp_lt (tgt := 36) hx hb dX8_offer_25 (by decide) hq (fun hq => ?_) (fun hq => ?_)
      · refine lv_aload_n hx hb dX8_offer_36 rfl (lv_at hl 0 rfl) ?_
        refine lv_iload_n hx hb dX8_offer_37 rfl (lv_at hl 1 rfl) ?_
        refine zz_put S hT hB (C := RX8) (ref := "DiagramDesk$Snap") (F := TX8) (N := 3) (index := 27) 8 0 iwX8 tyX8 tyX8_ok nmX8 rfl (by decide) (by decide) rfl rfl (wS wd_263) (fun _ h9 => h9) rfl (by decide +kernel) dX8_offer_38 hq (fun s9 H locs hq hB => ?_)
        refine lv_aload_n hx hb dX8_offer_41 rfl (lv_at hl 0 rfl) ?_
        refine lv_iload_n hx hb dX8_offer_42 rfl (lv_at hl 2 rfl) ?_
        refine zz_put S hT hB (C := RX8) (ref := "DiagramDesk$Snap") (F := TX8) (N := 3) (index := 30) 8 1 iwX8 tyX8 tyX8_ok nmX8 rfl (by decide) (by decide) rfl rfl (wS wd_261) (fun _ h9 => h9) rfl (by decide +kernel) dX8_offer_43 hq (fun s10 H locs hq hB => ?_)
        exact zz_vret S hB hr hlocks dX8_offer_46 hq
      · refine lv_aload_n hx hb dX8_offer_28 rfl (lv_at hl 0 rfl) ?_
        refine lv_iload_n hx hb dX8_offer_29 rfl (lv_at hl 2 rfl) ?_
        refine zz_callVi S hT hB (As := [.int x2]) (b := a0) (o := f_X8_isNearer T N s0 a0 x2) (c_X8_isNearer l D cy T hT ad N s0 _ a0 x2) (cwV 1 hts (gV wSub wd_264 wd_265 wd_266 wd_267 wd_268) rfl rfl rfl (by decide +kernel) ⟨Nat.le_of_ble_eq_true rfl, Nat.le_of_ble_eq_true rfl⟩) (F := TX8) (NF := 3) 8 rfl (by decide) (k_X8_isNearer T N s0 a0 x2) rfl hl.1 rfl (Nat.le_of_ble_eq_true rfl) dX8_offer_30 hq (fun x12 s11 H locs hq hB => ?_)
        refine zz_if_eq (tgt := 46) hx hb dX8_offer_33 (by decide) hq (fun hq => ?_) (fun hq => ?_)
        · exact zz_vret S hB hr hlocks dX8_offer_46 hq
        · refine lv_aload_n hx hb dX8_offer_36 rfl (lv_at hl 0 rfl) ?_
          refine lv_iload_n hx hb dX8_offer_37 rfl (lv_at hl 1 rfl) ?_
          refine zz_put S hT hB (C := RX8) (ref := "DiagramDesk$Snap") (F := TX8) (N := 3) (index := 27) 8 0 iwX8 tyX8 tyX8_ok nmX8 rfl (by decide) (by decide) rfl rfl (wS wd_263) (fun _ h9 => h9) rfl (by decide +kernel) dX8_offer_38 hq (fun s13 H locs hq hB => ?_)
          refine lv_aload_n hx hb dX8_offer_41 rfl (lv_at hl 0 rfl) ?_
          refine lv_iload_n hx hb dX8_offer_42 rfl (lv_at hl 2 rfl) ?_
          refine zz_put S hT hB (C := RX8) (ref := "DiagramDesk$Snap") (F := TX8) (N := 3) (index := 30) 8 1 iwX8 tyX8 tyX8_ok nmX8 rfl (by decide) (by decide) rfl rfl (wS wd_261) (fun _ h9 => h9) rfl (by decide +kernel) dX8_offer_43 hq (fun s14 H locs hq hB => ?_)
          exact zz_vret S hB hr hlocks dX8_offer_46 hq
    · exact zz_vret S hB hr hlocks dX8_offer_19 hq
def f_X8_offerSides (T : zT) (N : Nat) (s0 : zS) (a0 : Nat) (x1 : Int32) (x2 : Int32) (x3 : Int32) : Option zS :=
  zz1 (T.1 a0 = 8) <|
  (f_X8_offer T N s0 a0 (2 : Int32) (x1 - x3)).bind fun s6 =>
  (f_X8_offer T N s6 a0 (2 : Int32) (x2 - x3)).bind fun s7 =>
  some s7
theorem k_X8_offerSides (T : zT) (N : Nat) (s0 : zS) (a0 : Nat) (x1 : Int32) (x2 : Int32) (x3 : Int32) : ∀ q, f_X8_offerSides T N s0 a0 x1 x2 x3 = some q → T.1 a0 = 8 := by
  intro q h
  unfold f_X8_offerSides at h
  exact zz_guard h (fun h _ => h)
set_option maxHeartbeats 4000000 in
set_option maxRecDepth 100000 in
theorem c_X8_offerSides (l : Launch) (D : va_G) (cy : Nat → ClassId) (T : zT) (hT : zok T) (ad : Nat → Nat) (N : Nat) (s0 : zS) (sz : Nat) (a0 : Nat) (x1 : Int32) (x2 : Int32) (x3 : Int32) : ∀ (σ0 : zS), f_X8_offerSides T N s0 a0 x1 x2 x3 = some σ0 → Met l yX8_offerSides wsX8_offerSides ({ frames := 3, cells := 0, slots := 0, locals := 69 }) (va_Pc [.ref (ad a0), .int x1, .int x2, .int x3] (zPre D cy T ad s0 sz)) (va_Qv (fun σ2 : zS => σ2 = σ0) (zAt D cy T ad (zA T ad sz)) (zA T ad sz)) 0 0 (zA T ad sz) := by
  intro σ0 hq
  refine Met.ofW (cc := cX8_offerSides) (maxL := 4) (ret := none) (by decide) rfl ?_
  intro p e s m args below meth c s₁ B hml hv
  obtain ⟨hargs, hsz, hP, hK, hD0, hN⟩ := hv
  have hx := B.exec
  have hb := B.bytes
  have hr := B.returns
  have hts := atoms_spec (ws := wsX8_offerSides) B.pre
  have hown : s.vm.findClass RX8 = some m.cls := findClass_of_methodNamed B.named
  have hlocks := B.notSynchronized
  have S : CallFix p m c cX8_offerSides 4 s args wsX8_offerSides RX8 := ⟨hx, hb, hml, hown, hts⟩
  subst hsz
  have hB : zB D cy T ad (zA T ad s.heap.size) s.heap s0 s.heap [] s := zz_entry hP hK hD0 hN
  obtain ⟨ls, hent, hl⟩ := zz_ent m hargs (n := 4) (Nat.le_of_ble_eq_true rfl)
  rw [hent]
  have hl : lv_has ls 4 [(0, .ref (ad a0)), (1, .int x1), (2, .int x2), (3, .int x3)] := hl
  unfold f_X8_offerSides at hq
  refine zz_guard hq (fun hk0 hq => ?_)
  refine lv_aload_n hx hb dX8_offerSides_0 rfl (lv_at hl 0 rfl) ?_
  refine lv_iconst (v := 2) hx hb dX8_offerSides_1 (by decide) ?_
  refine lv_iload_n hx hb dX8_offerSides_2 rfl (lv_at hl 1 rfl) ?_
  refine lv_iload_n hx hb dX8_offerSides_3 rfl (lv_at hl 3 rfl) ?_
  refine lv_isub hx hb dX8_offerSides_4 ?_
  refine zz_callVv S hT hB (As := [.int (2 : Int32), .int (x1 - x3)]) (b := a0) (o := f_X8_offer T N s0 a0 (2 : Int32) (x1 - x3)) (c_X8_offer l D cy T hT ad N s0 _ a0 (2 : Int32) (x1 - x3)) (cwV 2 hts (gV wSub wd_269 wd_270 wd_271 wd_267 wd_272) rfl rfl rfl (by decide +kernel) ⟨Nat.le_of_ble_eq_true rfl, Nat.le_of_ble_eq_true rfl⟩) (F := TX8) (NF := 3) 8 rfl (by decide) (k_X8_offer T N s0 a0 (2 : Int32) (x1 - x3)) rfl hl.1 rfl (Nat.le_of_ble_eq_true rfl) dX8_offerSides_5 hq (fun s6 H locs hq hB => ?_)
  refine lv_aload_n hx hb dX8_offerSides_8 rfl (lv_at hl 0 rfl) ?_
  refine lv_iconst (v := 2) hx hb dX8_offerSides_9 (by decide) ?_
  refine lv_iload_n hx hb dX8_offerSides_10 rfl (lv_at hl 2 rfl) ?_
  refine lv_iload_n hx hb dX8_offerSides_11 rfl (lv_at hl 3 rfl) ?_
  refine lv_isub hx hb dX8_offerSides_12 ?_
  refine zz_callVv S hT hB (As := [.int (2 : Int32), .int (x2 - x3)]) (b := a0) (o := f_X8_offer T N s6 a0 (2 : Int32) (x2 - x3)) (c_X8_offer l D cy T hT ad N s6 _ a0 (2 : Int32) (x2 - x3)) (cwV 2 hts (gV wSub wd_269 wd_270 wd_271 wd_267 wd_272) rfl rfl rfl (by decide +kernel) ⟨Nat.le_of_ble_eq_true rfl, Nat.le_of_ble_eq_true rfl⟩) (F := TX8) (NF := 3) 8 rfl (by decide) (k_X8_offer T N s6 a0 (2 : Int32) (x2 - x3)) rfl hl.1 rfl (Nat.le_of_ble_eq_true rfl) dX8_offerSides_13 hq (fun s7 H locs hq hB => ?_)
  exact zz_vret S hB hr hlocks dX8_offerSides_16 hq
def f_J9_floorMod_7cf53 (T : zT) (N : Nat) (s0 : zS) (x0 : Int32) (x1 : Int32) : Option (Int32 × zS) :=
  zz1 (¬ x1 = 0) <|
  zn (x0 - x0 / x1 * x1) fun x4 =>
  if 0 ≤ (x0 ^^^ x1) then (
    some (x4, s0))
  else (
    if x4 = 0 then (
      some (x4, s0))
    else (
      some (x4 + x1, s0)))
set_option maxHeartbeats 4000000 in
set_option maxRecDepth 100000 in
theorem c_J9_floorMod_7cf53 (l : Launch) (D : va_G) (cy : Nat → ClassId) (T : zT) (hT : zok T) (ad : Nat → Nat) (N : Nat) (s0 : zS) (sz : Nat) (x0 : Int32) (x1 : Int32) : ∀ (r0 : Int32) (σ0 : zS), f_J9_floorMod_7cf53 T N s0 x0 x1 = some (r0, σ0) → Met l yJ9_floorMod_7cf53 wsJ9_floorMod_7cf53 ({ frames := 0, cells := 0, slots := 0, locals := 0 }) (va_Pc [.int x0, .int x1] (zPre D cy T ad s0 sz)) (va_Qi (fun (r2 : Int32) (σ2 : zS) => r2 = r0 ∧ σ2 = σ0) (zAt D cy T ad (zA T ad sz)) (zA T ad sz)) 0 0 (zA T ad sz) := by
  intro r0 σ0 hq
  refine zz_ofWF (cc := cJ9_floorMod_7cf53) (maxL := 3) (ret := (some .int)) (by decide +kernel) rfl ?_
  intro p e s m args below meth c s₁ B hml hv
  obtain ⟨hargs, hsz, hP, hK, hD0, hN⟩ := hv
  have hx := B.exec
  have hb := B.bytes
  have hr := B.returns
  have hts := atoms_spec (ws := wsJ9_floorMod_7cf53) B.pre
  have hown : s.vm.findClass RJ9 = some m.cls := findClass_of_methodNamed B.named
  have hlocks := B.notSynchronized
  have S : CallFix p m c cJ9_floorMod_7cf53 3 s args wsJ9_floorMod_7cf53 RJ9 := ⟨hx, hb, hml, hown, hts⟩
  subst hsz
  have hB : zB D cy T ad (zA T ad s.heap.size) s.heap s0 s.heap [] s := zz_entry hP hK hD0 hN
  obtain ⟨ls, hent, hl⟩ := zz_ent m hargs (n := 3) (Nat.le_of_ble_eq_true rfl)
  rw [hent]
  have hl : lv_has ls 3 [(0, .int x0), (1, .int x1)] := hl
  unfold f_J9_floorMod_7cf53 at hq
  refine lv_iload_n hx hb dJ9_floorMod_7cf53_0 rfl (lv_at hl 0 rfl) ?_
  refine lv_iload_n hx hb dJ9_floorMod_7cf53_1 rfl (lv_at hl 1 rfl) ?_
  refine zz_guard hq (fun hne hq => ?_)
  refine lv_irem hx hb dJ9_floorMod_7cf53_2 hne ?_
  refine zz_nmI hq (fun x4 hq => ?_)
  refine lv_istore_n (lv' := [(2, .int x4), (0, .int x0), (1, .int x1)]) hx hb dJ9_floorMod_7cf53_3 rfl hl (by decide) rfl (fun ls hl => ?_)
  refine lv_iload_n hx hb dJ9_floorMod_7cf53_4 rfl (lv_at hl 1 rfl) ?_
  refine lv_iload_n hx hb dJ9_floorMod_7cf53_5 rfl (lv_at hl 2 rfl) ?_
  refine lv_ixor hx hb dJ9_floorMod_7cf53_6 ?_
  refine zz_if_ge (tgt := 18) hx hb dJ9_floorMod_7cf53_7 (by decide) hq (fun hq => ?_) (fun hq => ?_)
  · refine lv_iload_n hx hb dJ9_floorMod_7cf53_18 rfl (lv_at hl 0 rfl) ?_
    exact zz_iret S hB hr hlocks dJ9_floorMod_7cf53_19 hq
  · refine lv_iload_n hx hb dJ9_floorMod_7cf53_10 rfl (lv_at hl 0 rfl) ?_
    refine zz_if_eq (tgt := 18) hx hb dJ9_floorMod_7cf53_11 (by decide) hq (fun hq => ?_) (fun hq => ?_)
    · refine lv_iload_n hx hb dJ9_floorMod_7cf53_18 rfl (lv_at hl 0 rfl) ?_
      exact zz_iret S hB hr hlocks dJ9_floorMod_7cf53_19 hq
    · refine lv_iload_n hx hb dJ9_floorMod_7cf53_14 rfl (lv_at hl 0 rfl) ?_
      refine lv_iload_n hx hb dJ9_floorMod_7cf53_15 rfl (lv_at hl 2 rfl) ?_
      refine lv_iadd hx hb dJ9_floorMod_7cf53_16 ?_
      exact zz_iret S hB hr hlocks dJ9_floorMod_7cf53_17 hq
def f_X8_offerGrid (T : zT) (N : Nat) (s0 : zS) (a0 : Nat) (x1 : Int32) (x2 : Int32) : Option zS :=
  zz1 (T.1 a0 = 8) <|
  if x1 ≤ 0 then (
    some s0)
  else (
    zb2 (f_J9_floorMod_7cf53 T N s0 x2 x1) fun x6 s5 =>
    (f_X8_offer T N s5 a0 (3 : Int32) (-x6)).bind fun s7 =>
    (f_X8_offer T N s7 a0 (3 : Int32) (x1 - x6)).bind fun s8 =>
    some s8)
theorem k_X8_offerGrid (T : zT) (N : Nat) (s0 : zS) (a0 : Nat) (x1 : Int32) (x2 : Int32) : ∀ q, f_X8_offerGrid T N s0 a0 x1 x2 = some q → T.1 a0 = 8 := by
  intro q h
  unfold f_X8_offerGrid at h
  exact zz_guard h (fun h _ => h)
set_option maxHeartbeats 4000000 in
set_option maxRecDepth 100000 in
theorem c_X8_offerGrid (l : Launch) (D : va_G) (cy : Nat → ClassId) (T : zT) (hT : zok T) (ad : Nat → Nat) (N : Nat) (s0 : zS) (sz : Nat) (a0 : Nat) (x1 : Int32) (x2 : Int32) : ∀ (σ0 : zS), f_X8_offerGrid T N s0 a0 x1 x2 = some σ0 → Met l yX8_offerGrid wsX8_offerGrid ({ frames := 3, cells := 0, slots := 0, locals := 69 }) (va_Pc [.ref (ad a0), .int x1, .int x2] (zPre D cy T ad s0 sz)) (va_Qv (fun σ2 : zS => σ2 = σ0) (zAt D cy T ad (zA T ad sz)) (zA T ad sz)) 0 0 (zA T ad sz) := by
  intro σ0 hq
  refine Met.ofW (cc := cX8_offerGrid) (maxL := 4) (ret := none) (by decide) rfl ?_
  intro p e s m args below meth c s₁ B hml hv
  obtain ⟨hargs, hsz, hP, hK, hD0, hN⟩ := hv
  have hx := B.exec
  have hb := B.bytes
  have hr := B.returns
  have hts := atoms_spec (ws := wsX8_offerGrid) B.pre
  have hown : s.vm.findClass RX8 = some m.cls := findClass_of_methodNamed B.named
  have hlocks := B.notSynchronized
  have S : CallFix p m c cX8_offerGrid 4 s args wsX8_offerGrid RX8 := ⟨hx, hb, hml, hown, hts⟩
  subst hsz
  have hB : zB D cy T ad (zA T ad s.heap.size) s.heap s0 s.heap [] s := zz_entry hP hK hD0 hN
  obtain ⟨ls, hent, hl⟩ := zz_ent m hargs (n := 4) (Nat.le_of_ble_eq_true rfl)
  rw [hent]
  have hl : lv_has ls 4 [(0, .ref (ad a0)), (1, .int x1), (2, .int x2)] := hl
  unfold f_X8_offerGrid at hq
  refine zz_guard hq (fun hk0 hq => ?_)
  refine lv_iload_n hx hb dX8_offerGrid_0 rfl (lv_at hl 1 rfl) ?_
  refine zz_if_le (tgt := 25) hx hb dX8_offerGrid_1 (by decide) hq (fun hq => ?_) (fun hq => ?_)
  · exact zz_vret S hB hr hlocks dX8_offerGrid_25 hq
  · refine lv_iload_n hx hb dX8_offerGrid_4 rfl (lv_at hl 2 rfl) ?_
    refine lv_iload_n hx hb dX8_offerGrid_5 rfl (lv_at hl 1 rfl) ?_
    refine zz_callSi S hT hB (As := [.int x2, .int x1]) (o := f_J9_floorMod_7cf53 T N s0 x2 x1) (c_J9_floorMod_7cf53 l D cy T hT ad N s0 _ x2 x1) (va_cwS 2 hts (gS wSub wd_273 wd_274 wd_22 wd_275) rfl rfl rfl (by decide +kernel) ⟨Nat.le_of_ble_eq_true rfl, Nat.le_of_ble_eq_true rfl⟩) rfl hl.1 rfl (Nat.le_of_ble_eq_true rfl) dX8_offerGrid_6 hq (fun x6 s5 H locs hq hB => ?_)
    refine lv_istore_n (lv' := [(3, .int x6), (0, .ref (ad a0)), (1, .int x1), (2, .int x2)]) hx hb dX8_offerGrid_9 rfl hl (by decide) rfl (fun ls hl => ?_)
    refine lv_aload_n hx hb dX8_offerGrid_10 rfl (lv_at hl 1 rfl) ?_
    refine lv_iconst (v := 3) hx hb dX8_offerGrid_11 (by decide) ?_
    refine lv_iload_n hx hb dX8_offerGrid_12 rfl (lv_at hl 0 rfl) ?_
    refine lv_ineg hx hb dX8_offerGrid_13 ?_
    refine zz_callVv S hT hB (As := [.int (3 : Int32), .int (-x6)]) (b := a0) (o := f_X8_offer T N s5 a0 (3 : Int32) (-x6)) (c_X8_offer l D cy T hT ad N s5 _ a0 (3 : Int32) (-x6)) (cwV 2 hts (gV wSub wd_269 wd_270 wd_271 wd_267 wd_272) rfl rfl rfl (by decide +kernel) ⟨Nat.le_of_ble_eq_true rfl, Nat.le_of_ble_eq_true rfl⟩) (F := TX8) (NF := 3) 8 rfl (by decide) (k_X8_offer T N s5 a0 (3 : Int32) (-x6)) rfl hl.1 rfl (Nat.le_of_ble_eq_true rfl) dX8_offerGrid_14 hq (fun s7 H locs hq hB => ?_)
    refine lv_aload_n hx hb dX8_offerGrid_17 rfl (lv_at hl 1 rfl) ?_
    refine lv_iconst (v := 3) hx hb dX8_offerGrid_18 (by decide) ?_
    refine lv_iload_n hx hb dX8_offerGrid_19 rfl (lv_at hl 2 rfl) ?_
    refine lv_iload_n hx hb dX8_offerGrid_20 rfl (lv_at hl 0 rfl) ?_
    refine lv_isub hx hb dX8_offerGrid_21 ?_
    refine zz_callVv S hT hB (As := [.int (3 : Int32), .int (x1 - x6)]) (b := a0) (o := f_X8_offer T N s7 a0 (3 : Int32) (x1 - x6)) (c_X8_offer l D cy T hT ad N s7 _ a0 (3 : Int32) (x1 - x6)) (cwV 2 hts (gV wSub wd_269 wd_270 wd_271 wd_267 wd_272) rfl rfl rfl (by decide +kernel) ⟨Nat.le_of_ble_eq_true rfl, Nat.le_of_ble_eq_true rfl⟩) (F := TX8) (NF := 3) 8 rfl (by decide) (k_X8_offer T N s7 a0 (3 : Int32) (x1 - x6)) rfl hl.1 rfl (Nat.le_of_ble_eq_true rfl) dX8_offerGrid_22 hq (fun s8 H locs hq hB => ?_)
    exact zz_vret S hB hr hlocks dX8_offerGrid_25 hq
def f_X8_search_L153 (T : zT) (N : Nat) (a0 : Nat) (a1 : Nat) (x2 : Int32) (a6 : Nat) (x10 : Int32) (x14 : Int32) (x18 : Int32) (k153 : Int32 → zS → Option zS) (x28 : Int32) (s29 : zS) : Option zS :=
  if (20 : Int32) ≤ x28 then (
    (gR T s29 a1 2 3).bind fun a30 =>
    (gI T s29 a30 4 3).bind fun x31 =>
    (f_X8_offerGrid T N s29 a0 x31 x10).bind fun s32 =>
    some s32)
  else (
    zb2 (f_X7_find T N s29 a6 x28) fun o34 s33 => zo o34 (
      zn (x28 + (1 : Int32)) fun x36 =>
      k153 x36 s33)
    fun a35 => (
      (gI T s33 a6 7 2).bind fun x37 =>
      zb2 (f_X11_hasBit T N s33 x37 x28) fun x39 s38 =>
      if ¬ x39 = 0 then (
        zn (x28 + (1 : Int32)) fun x40 =>
        k153 x40 s38)
      else (
        zb2 (f_X6_center T N s38 a35 x2) fun x42 s41 =>
        (f_X8_offer T N s41 a0 (1 : Int32) (x42 - x14)).bind fun s43 =>
        zb2 (f_X6_start T N s43 a35 x2) fun x45 s44 =>
        zb2 (f_X6_end T N s44 a35 x2) fun x47 s46 =>
        (f_X8_offerSides T N s46 a0 x45 x47 x10).bind fun s48 =>
        zb2 (f_X6_start T N s48 a35 x2) fun x50 s49 =>
        zb2 (f_X6_end T N s49 a35 x2) fun x52 s51 =>
        (f_X8_offerSides T N s51 a0 x50 x52 x18).bind fun s53 =>
        zn (x28 + (1 : Int32)) fun x54 =>
        k153 x54 s53)))
def f_X8_search_L78 (T : zT) (N : Nat) (a0 : Nat) (a1 : Nat) (x2 : Int32) (a6 : Nat) (x10 : Int32) (x14 : Int32) (x18 : Int32) (k78 : Int32 → zS → Option zS) (x24 : Int32) (s25 : zS) : Option zS :=
  (gR T s25 a1 2 3).bind fun a26 =>
  (gI T s25 a26 4 2).bind fun x27 =>
  if x27 ≤ x24 then (
    zl2 (f_X8_search_L153 T N a0 a1 x2 a6 x10 x14 x18) N (0 : Int32) s25)
  else (
    (gR T s25 a1 2 3).bind fun a55 =>
    zb2 (f_X4_isOn T N s25 a55 x24 x2) fun x57 s56 =>
    if x57 = 0 then (
      zn (x24 + (1 : Int32)) fun x58 =>
      k78 x58 s56)
    else (
      (gR T s56 a1 2 3).bind fun a59 =>
      zb2 (f_X4_placeOf T N s56 a59 x24) fun x61 s60 =>
      (f_X8_offer T N s60 a0 (0 : Int32) (x61 - x10)).bind fun s62 =>
      (f_X8_offer T N s62 a0 (0 : Int32) (x61 - x14)).bind fun s63 =>
      (f_X8_offer T N s63 a0 (0 : Int32) (x61 - x18)).bind fun s64 =>
      zn (x24 + (1 : Int32)) fun x65 =>
      k78 x65 s64))
def f_X8_search (T : zT) (N : Nat) (s0 : zS) (a0 : Nat) (a1 : Nat) (x2 : Int32) (x3 : Int32) : Option zS :=
  zz1 (T.1 a0 = 8) <|
  (gR T s0 a1 2 0).bind fun a6 =>
  (gI T s0 a6 7 2).bind fun x7 =>
  zb2 (f_X7_lineOf T N s0 a6 x7 x2 (0 : Int32)) fun x9 s8 =>
  zn (x9 + x3) fun x10 =>
  (gI T s8 a6 7 2).bind fun x11 =>
  zb2 (f_X7_lineOf T N s8 a6 x11 x2 (1 : Int32)) fun x13 s12 =>
  zn (x13 + x3) fun x14 =>
  (gI T s12 a6 7 2).bind fun x15 =>
  zb2 (f_X7_lineOf T N s12 a6 x15 x2 (2 : Int32)) fun x17 s16 =>
  zn (x17 + x3) fun x18 =>
  (pI T s16 a0 8 0 (4 : Int32)).bind fun s19 =>
  (pI T s19 a0 8 1 (0 : Int32)).bind fun s20 =>
  (gR T s20 a1 2 3).bind fun a21 =>
  (gI T s20 a21 4 4).bind fun x22 =>
  (pI T s20 a0 8 2 x22).bind fun s23 =>
  zl2 (f_X8_search_L78 T N a0 a1 x2 a6 x10 x14 x18) N (0 : Int32) s23
theorem k_X8_search (T : zT) (N : Nat) (s0 : zS) (a0 : Nat) (a1 : Nat) (x2 : Int32) (x3 : Int32) : ∀ q, f_X8_search T N s0 a0 a1 x2 x3 = some q → T.1 a0 = 8 := by
  intro q h
  unfold f_X8_search at h
  exact zz_guard h (fun h _ => h)
set_option maxHeartbeats 4000000 in
set_option maxRecDepth 100000 in
theorem c_X8_search (l : Launch) (D : va_G) (cy : Nat → ClassId) (T : zT) (hT : zok T) (ad : Nat → Nat) (N : Nat) (s0 : zS) (sz : Nat) (a0 : Nat) (a1 : Nat) (x2 : Int32) (x3 : Int32) : ∀ (σ0 : zS), f_X8_search T N s0 a0 a1 x2 x3 = some σ0 → Met l yX8_search wsX8_search ({ frames := 4, cells := 0, slots := 0, locals := 92 }) (va_Pc [.ref (ad a0), .ref (ad a1), .int x2, .int x3] (zPre D cy T ad s0 sz)) (va_Qv (fun σ2 : zS => σ2 = σ0) (zAt D cy T ad (zA T ad sz)) (zA T ad sz)) 0 0 (zA T ad sz) := by
  intro σ0 hq
  refine Met.ofW (cc := cX8_search) (maxL := 10) (ret := none) (by decide) rfl ?_
  intro p e s m args below meth c s₁ B hml hv
  obtain ⟨hargs, hsz, hP, hK, hD0, hN⟩ := hv
  have hx := B.exec
  have hb := B.bytes
  have hr := B.returns
  have hts := atoms_spec (ws := wsX8_search) B.pre
  have hown : s.vm.findClass RX8 = some m.cls := findClass_of_methodNamed B.named
  have hlocks := B.notSynchronized
  have S : CallFix p m c cX8_search 10 s args wsX8_search RX8 := ⟨hx, hb, hml, hown, hts⟩
  subst hsz
  have hB : zB D cy T ad (zA T ad s.heap.size) s.heap s0 s.heap [] s := zz_entry hP hK hD0 hN
  obtain ⟨ls, hent, hl⟩ := zz_ent m hargs (n := 10) (Nat.le_of_ble_eq_true rfl)
  rw [hent]
  have hl : lv_has ls 10 [(0, .ref (ad a0)), (1, .ref (ad a1)), (2, .int x2), (3, .int x3)] := hl
  have iwX2 : ∀ w ∈ u_ws RX2 TX2 4, w ∈ wsX8_search := fun w h => wS (inWX2 w h)
  have iwX7 : ∀ w ∈ u_ws RX7 TX7 3, w ∈ wsX8_search := fun w h => wS (inWX7 w h)
  have iwX8 : ∀ w ∈ u_ws RX8 TX8 3, w ∈ wsX8_search := fun w h => wS (inWX8 w h)
  have iwX4 : ∀ w ∈ u_ws RX4 TX4 5, w ∈ wsX8_search := fun w h => wS (inWX4 w h)
  unfold f_X8_search at hq
  refine zz_guard hq (fun hk0 hq => ?_)
  refine lv_aload_n hx hb dX8_search_0 rfl (lv_at hl 1 rfl) ?_
  refine zz_getR S hT hB (C := RX2) (ref := "DiagramDesk$Diagram") (F := TX2) (N := 4) (index := 9) 2 0 iwX2 rfl (by decide) (by decide) rfl rfl (wS wd_276) (fun _ h9 => h9) dX8_search_1 hq (fun a6 hq => ?_)
  refine lv_astore (lv' := [(4, .ref (ad a6)), (0, .ref (ad a0)), (1, .ref (ad a1)), (2, .int x2), (3, .int x3)]) hx hb dX8_search_4 hl (by decide) rfl (fun ls hl => ?_)
  refine lv_aload hx hb dX8_search_6 (lv_at hl 0 rfl) ?_
  refine lv_aload hx hb dX8_search_8 (lv_at hl 0 rfl) ?_
  refine zz_get S hT hB (C := RX7) (ref := "DiagramDesk$Shapes") (F := TX7) (N := 3) (index := 15) 7 2 iwX7 rfl (by decide) (by decide) rfl rfl (wS wd_277) (fun _ h9 => h9) dX8_search_10 hq (fun x7 hq => ?_)
  refine lv_iload_n hx hb dX8_search_13 rfl (lv_at hl 3 rfl) ?_
  refine lv_iconst (v := 0) hx hb dX8_search_14 (by decide) ?_
  refine zz_callVi S hT hB (As := [.int x7, .int x2, .int (0 : Int32)]) (b := a6) (o := f_X7_lineOf T N s0 a6 x7 x2 (0 : Int32)) (c_X7_lineOf l D cy T hT ad N s0 _ a6 x7 x2 (0 : Int32)) (cwV 3 hts (gV wSub wd_278 wd_279 wd_280 wd_35 wd_281) rfl rfl rfl (by decide +kernel) ⟨Nat.le_of_ble_eq_true rfl, Nat.le_of_ble_eq_true rfl⟩) (F := TX7) (NF := 3) 7 rfl (by decide) (k_X7_lineOf T N s0 a6 x7 x2 (0 : Int32)) rfl hl.1 rfl (Nat.le_of_ble_eq_true rfl) dX8_search_15 hq (fun x9 s8 H locs hq hB => ?_)
  refine lv_iload_n hx hb dX8_search_18 rfl (lv_at hl 4 rfl) ?_
  refine lv_iadd hx hb dX8_search_19 ?_
  refine zz_nmI hq (fun x10 hq => ?_)
  refine lv_istore (lv' := [(5, .int x10), (4, .ref (ad a6)), (0, .ref (ad a0)), (1, .ref (ad a1)), (2, .int x2), (3, .int x3)]) hx hb dX8_search_20 hl (by decide) rfl (fun ls hl => ?_)
  refine lv_aload hx hb dX8_search_22 (lv_at hl 1 rfl) ?_
  refine lv_aload hx hb dX8_search_24 (lv_at hl 1 rfl) ?_
  refine zz_get S hT hB (C := RX7) (ref := "DiagramDesk$Shapes") (F := TX7) (N := 3) (index := 15) 7 2 iwX7 rfl (by decide) (by decide) rfl rfl (wS wd_277) (fun _ h9 => h9) dX8_search_26 hq (fun x11 hq => ?_)
  refine lv_iload_n hx hb dX8_search_29 rfl (lv_at hl 4 rfl) ?_
  refine lv_iconst (v := 1) hx hb dX8_search_30 (by decide) ?_
  refine zz_callVi S hT hB (As := [.int x11, .int x2, .int (1 : Int32)]) (b := a6) (o := f_X7_lineOf T N s8 a6 x11 x2 (1 : Int32)) (c_X7_lineOf l D cy T hT ad N s8 _ a6 x11 x2 (1 : Int32)) (cwV 3 hts (gV wSub wd_278 wd_279 wd_280 wd_35 wd_281) rfl rfl rfl (by decide +kernel) ⟨Nat.le_of_ble_eq_true rfl, Nat.le_of_ble_eq_true rfl⟩) (F := TX7) (NF := 3) 7 rfl (by decide) (k_X7_lineOf T N s8 a6 x11 x2 (1 : Int32)) rfl hl.1 rfl (Nat.le_of_ble_eq_true rfl) dX8_search_31 hq (fun x13 s12 H locs hq hB => ?_)
  refine lv_iload_n hx hb dX8_search_34 rfl (lv_at hl 5 rfl) ?_
  refine lv_iadd hx hb dX8_search_35 ?_
  refine zz_nmI hq (fun x14 hq => ?_)
  refine lv_istore (lv' := [(6, .int x14), (5, .int x10), (4, .ref (ad a6)), (0, .ref (ad a0)), (1, .ref (ad a1)), (2, .int x2), (3, .int x3)]) hx hb dX8_search_36 hl (by decide) rfl (fun ls hl => ?_)
  refine lv_aload hx hb dX8_search_38 (lv_at hl 2 rfl) ?_
  refine lv_aload hx hb dX8_search_40 (lv_at hl 2 rfl) ?_
  refine zz_get S hT hB (C := RX7) (ref := "DiagramDesk$Shapes") (F := TX7) (N := 3) (index := 15) 7 2 iwX7 rfl (by decide) (by decide) rfl rfl (wS wd_277) (fun _ h9 => h9) dX8_search_42 hq (fun x15 hq => ?_)
  refine lv_iload_n hx hb dX8_search_45 rfl (lv_at hl 5 rfl) ?_
  refine lv_iconst (v := 2) hx hb dX8_search_46 (by decide) ?_
  refine zz_callVi S hT hB (As := [.int x15, .int x2, .int (2 : Int32)]) (b := a6) (o := f_X7_lineOf T N s12 a6 x15 x2 (2 : Int32)) (c_X7_lineOf l D cy T hT ad N s12 _ a6 x15 x2 (2 : Int32)) (cwV 3 hts (gV wSub wd_278 wd_279 wd_280 wd_35 wd_281) rfl rfl rfl (by decide +kernel) ⟨Nat.le_of_ble_eq_true rfl, Nat.le_of_ble_eq_true rfl⟩) (F := TX7) (NF := 3) 7 rfl (by decide) (k_X7_lineOf T N s12 a6 x15 x2 (2 : Int32)) rfl hl.1 rfl (Nat.le_of_ble_eq_true rfl) dX8_search_47 hq (fun x17 s16 H locs hq hB => ?_)
  refine lv_iload_n hx hb dX8_search_50 rfl (lv_at hl 6 rfl) ?_
  refine lv_iadd hx hb dX8_search_51 ?_
  refine zz_nmI hq (fun x18 hq => ?_)
  refine lv_istore (lv' := [(7, .int x18), (6, .int x14), (5, .int x10), (4, .ref (ad a6)), (0, .ref (ad a0)), (1, .ref (ad a1)), (2, .int x2), (3, .int x3)]) hx hb dX8_search_52 hl (by decide) rfl (fun ls hl => ?_)
  refine lv_aload_n hx hb dX8_search_54 rfl (lv_at hl 4 rfl) ?_
  refine lv_iconst (v := 4) hx hb dX8_search_55 (by decide) ?_
  refine zz_put S hT hB (C := RX8) (ref := "DiagramDesk$Snap") (F := TX8) (N := 3) (index := 27) 8 0 iwX8 tyX8 tyX8_ok nmX8 rfl (by decide) (by decide) rfl rfl (wS wd_263) (fun _ h9 => h9) rfl (by decide +kernel) dX8_search_56 hq (fun s19 H locs hq hB => ?_)
  refine lv_aload_n hx hb dX8_search_59 rfl (lv_at hl 4 rfl) ?_
  refine lv_iconst (v := 0) hx hb dX8_search_60 (by decide) ?_
  refine zz_put S hT hB (C := RX8) (ref := "DiagramDesk$Snap") (F := TX8) (N := 3) (index := 30) 8 1 iwX8 tyX8 tyX8_ok nmX8 rfl (by decide) (by decide) rfl rfl (wS wd_261) (fun _ h9 => h9) rfl (by decide +kernel) dX8_search_61 hq (fun s20 H locs hq hB => ?_)
  refine lv_aload_n hx hb dX8_search_64 rfl (lv_at hl 4 rfl) ?_
  refine lv_aload_n hx hb dX8_search_65 rfl (lv_at hl 5 rfl) ?_
  refine zz_getR S hT hB (C := RX2) (ref := "DiagramDesk$Diagram") (F := TX2) (N := 4) (index := 33) 2 3 iwX2 rfl (by decide) (by decide) rfl rfl (wS wd_282) (fun _ h9 => h9) dX8_search_66 hq (fun a21 hq => ?_)
  refine zz_get S hT hB (C := RX4) (ref := "DiagramDesk$Guides") (F := TX4) (N := 5) (index := 37) 4 4 iwX4 rfl (by decide) (by decide) rfl rfl (wS wd_283) (fun _ h9 => h9) dX8_search_69 hq (fun x22 hq => ?_)
  refine zz_put S hT hB (C := RX8) (ref := "DiagramDesk$Snap") (F := TX8) (N := 3) (index := 42) 8 2 iwX8 tyX8 tyX8_ok nmX8 rfl (by decide) (by decide) rfl rfl (wS wd_262) (fun _ h9 => h9) rfl (by decide +kernel) dX8_search_72 hq (fun s23 H locs hq hB => ?_)
  refine lv_iconst (v := 0) hx hb dX8_search_75 (by decide) ?_
  refine lv_istore (lv' := [(8, .int (0 : Int32)), (7, .int x18), (6, .int x14), (5, .int x10), (4, .ref (ad a6)), (0, .ref (ad a0)), (1, .ref (ad a1)), (2, .int x2), (3, .int x3)]) hx hb dX8_search_76 hl (by decide) rfl (fun ls hl => ?_)
  have L78 : ∀ (n : Nat) (x24 : Int32) (s25 : zS) (H : Heap) (locs : List Loc) (ls : Array Slot), zl2 (f_X8_search_L78 T N a0 a1 x2 a6 x10 x14 x18) n x24 s25 = some σ0 → zB D cy T ad (zA T ad s.heap.size) s.heap s25 H locs s → lv_has ls 10 [(0, .ref (ad a0)), (1, .ref (ad a1)), (2, .int x2), (4, .ref (ad a6)), (5, .int x10), (6, .int x14), (7, .int x18), (8, .int x24)] → W p l e (headSpec wsX8_search ({ frames := 4, cells := 0, slots := 0, locals := 92 } : Room)).room s m args below meth c H locs 0 0 (MQ below (va_Qv (fun σ2 : zS => σ2 = σ0) (zAt D cy T ad (zA T ad s.heap.size)) (zA T ad s.heap.size)) args s 0 0 (zA T ad s.heap.size)) (F0 m 78 ls []) := by
    intro n
    induction n with
    | zero => intro x24 s25 H locs ls hq; exact zz_none hq
    | succ n ih78 =>
      intro x24 s25 H locs ls hq hB hl
      rw [zl2] at hq
      generalize zl2 (f_X8_search_L78 T N a0 a1 x2 a6 x10 x14 x18) n = k78 at ih78 hq
      unfold f_X8_search_L78 at hq
      refine lv_iload hx hb dX8_search_78 (lv_at hl 7 rfl) ?_
      refine lv_aload_n hx hb dX8_search_80 rfl (lv_at hl 1 rfl) ?_
      refine zz_getR S hT hB (C := RX2) (ref := "DiagramDesk$Diagram") (F := TX2) (N := 4) (index := 33) 2 3 iwX2 rfl (by decide) (by decide) rfl rfl (wS wd_282) (fun _ h9 => h9) dX8_search_81 hq (fun a26 hq => ?_)
      refine zz_get S hT hB (C := RX4) (ref := "DiagramDesk$Guides") (F := TX4) (N := 5) (index := 43) 4 2 iwX4 rfl (by decide) (by decide) rfl rfl (wS wd_284) (fun _ h9 => h9) dX8_search_84 hq (fun x27 hq => ?_)
      refine zz_icmp_ge (tgt := 150) hx hb dX8_search_87 (by decide) hq (fun hq => ?_) (fun hq => ?_)
      · refine lv_iconst (v := 0) hx hb dX8_search_150 (by decide) ?_
        refine lv_istore (lv' := [(8, .int (0 : Int32)), (0, .ref (ad a0)), (1, .ref (ad a1)), (2, .int x2), (4, .ref (ad a6)), (5, .int x10), (6, .int x14), (7, .int x18)]) hx hb dX8_search_151 hl (by decide) rfl (fun ls hl => ?_)
        have L153 : ∀ (n : Nat) (x28 : Int32) (s29 : zS) (H : Heap) (locs : List Loc) (ls : Array Slot), zl2 (f_X8_search_L153 T N a0 a1 x2 a6 x10 x14 x18) n x28 s29 = some σ0 → zB D cy T ad (zA T ad s.heap.size) s.heap s29 H locs s → lv_has ls 10 [(0, .ref (ad a0)), (1, .ref (ad a1)), (2, .int x2), (4, .ref (ad a6)), (5, .int x10), (6, .int x14), (7, .int x18), (8, .int x28)] → W p l e (headSpec wsX8_search ({ frames := 4, cells := 0, slots := 0, locals := 92 } : Room)).room s m args below meth c H locs 0 0 (MQ below (va_Qv (fun σ2 : zS => σ2 = σ0) (zAt D cy T ad (zA T ad s.heap.size)) (zA T ad s.heap.size)) args s 0 0 (zA T ad s.heap.size)) (F0 m 153 ls []) := by
          intro n
          induction n with
          | zero => intro x28 s29 H locs ls hq; exact zz_none hq
          | succ n ih153 =>
            intro x28 s29 H locs ls hq hB hl
            rw [zl2] at hq
            generalize zl2 (f_X8_search_L153 T N a0 a1 x2 a6 x10 x14 x18) n = k153 at ih153 hq
            unfold f_X8_search_L153 at hq
            refine lv_iload hx hb dX8_search_153 (lv_at hl 7 rfl) ?_
            refine lv_bipush (v := 20) hx hb dX8_search_155 (by decide) ?_
            refine zz_icmp_ge (tgt := 243) hx hb dX8_search_157 (by decide) hq (fun hq => ?_) (fun hq => ?_)
            · refine lv_aload_n hx hb dX8_search_243 rfl (lv_at hl 0 rfl) ?_
              refine lv_aload_n hx hb dX8_search_244 rfl (lv_at hl 1 rfl) ?_
              refine zz_getR S hT hB (C := RX2) (ref := "DiagramDesk$Diagram") (F := TX2) (N := 4) (index := 33) 2 3 iwX2 rfl (by decide) (by decide) rfl rfl (wS wd_282) (fun _ h9 => h9) dX8_search_245 hq (fun a30 hq => ?_)
              refine zz_get S hT hB (C := RX4) (ref := "DiagramDesk$Guides") (F := TX4) (N := 5) (index := 80) 4 3 iwX4 rfl (by decide) (by decide) rfl rfl (wS wd_285) (fun _ h9 => h9) dX8_search_248 hq (fun x31 hq => ?_)
              refine lv_iload hx hb dX8_search_251 (lv_at hl 4 rfl) ?_
              refine zz_callVv S hT hB (As := [.int x31, .int x10]) (b := a0) (o := f_X8_offerGrid T N s29 a0 x31 x10) (c_X8_offerGrid l D cy T hT ad N s29 _ a0 x31 x10) (cwV 2 hts (gV wSub wd_286 wd_287 wd_288 wd_267 wd_289) rfl rfl rfl (by decide +kernel) ⟨Nat.le_of_ble_eq_true rfl, Nat.le_of_ble_eq_true rfl⟩) (F := TX8) (NF := 3) 8 rfl (by decide) (k_X8_offerGrid T N s29 a0 x31 x10) rfl hl.1 rfl (Nat.le_of_ble_eq_true rfl) dX8_search_253 hq (fun s32 H locs hq hB => ?_)
              exact zz_vret S hB hr hlocks dX8_search_256 hq
            · refine lv_aload hx hb dX8_search_160 (lv_at hl 3 rfl) ?_
              refine lv_iload hx hb dX8_search_162 (lv_at hl 7 rfl) ?_
              refine zz_callVq S hT hB (As := [.int x28]) (b := a6) (o := f_X7_find T N s29 a6 x28) (c_X7_find l D cy T hT ad N s29 _ a6 x28) (cwV 1 hts (gV wSub wd_290 wd_33 wd_34 wd_35 wd_36) rfl rfl rfl (by decide +kernel) ⟨Nat.le_of_ble_eq_true rfl, Nat.le_of_ble_eq_true rfl⟩) (F := TX7) (NF := 3) 7 rfl (by decide) (k_X7_find T N s29 a6 x28) rfl hl.1 rfl (Nat.le_of_ble_eq_true rfl) dX8_search_164 hq (fun s33 H locs hq hB => ?_) (fun a35 s33 H locs hq hB => ?_)
              · refine lv_astoreN (lv' := [(9, .null), (0, .ref (ad a0)), (1, .ref (ad a1)), (2, .int x2), (4, .ref (ad a6)), (5, .int x10), (6, .int x14), (7, .int x18), (8, .int x28)]) hx hb dX8_search_167 hl (by decide) rfl (fun ls hl => ?_)
                refine lv_aloadN hx hb dX8_search_169 (lv_at hl 0 rfl) ?_
                refine lv_ifnullN (tgt := 237) hx hb dX8_search_171 (by decide) ?_
                refine zz_nmV hq (fun x36 ex36 hq => ?_)
                refine lv_iinc (v := x36) (lv' := [(8, .int x36), (9, .null), (0, .ref (ad a0)), (1, .ref (ad a1)), (2, .int x2), (4, .ref (ad a6)), (5, .int x10), (6, .int x14), (7, .int x18)]) hx hb dX8_search_237 hl (k := 8) rfl (by rw [ex36]; rfl) (by decide) rfl (fun ls hl => ?_)
                refine lv_goto (tgt := 153) hx hb dX8_search_240 (by decide) ?_
                exact ih153 x36 s33 _ _ _ hq hB (lv_sub hl [2, 3, 4, 5, 6, 7, 8, 0] rfl)
              · refine lv_astore (lv' := [(9, .ref (ad a35)), (0, .ref (ad a0)), (1, .ref (ad a1)), (2, .int x2), (4, .ref (ad a6)), (5, .int x10), (6, .int x14), (7, .int x18), (8, .int x28)]) hx hb dX8_search_167 hl (by decide) rfl (fun ls hl => ?_)
                refine lv_aload hx hb dX8_search_169 (lv_at hl 0 rfl) ?_
                refine lv_ifnull hx hb dX8_search_171 ?_
                refine lv_aload hx hb dX8_search_174 (lv_at hl 4 rfl) ?_
                refine zz_get S hT hB (C := RX7) (ref := "DiagramDesk$Shapes") (F := TX7) (N := 3) (index := 15) 7 2 iwX7 rfl (by decide) (by decide) rfl rfl (wS wd_277) (fun _ h9 => h9) dX8_search_176 hq (fun x37 hq => ?_)
                refine lv_iload hx hb dX8_search_179 (lv_at hl 8 rfl) ?_
                refine zz_callNi S hT hB (As := [.int x37, .int x28]) (o := f_X11_hasBit T N s33 x37 x28) (c_X11_hasBit l D cy T hT ad N s33 _ x37 x28) ⟨va_cnB (host := "DiagramDesk") 2 hts (gN wSub wd_101) rfl rfl rfl (zN_at hN 15 rfl) (hts _ (wS wd_102)) (by decide +kernel) ⟨Nat.le_of_ble_eq_true rfl, Nat.le_of_ble_eq_true rfl⟩, hts _ (wS wd_103), trivial⟩ rfl hl.1 rfl (Nat.le_of_ble_eq_true rfl) dX8_search_181 hq (fun x39 s38 H locs hq hB => ?_)
                refine zz_if_ne (tgt := 237) hx hb dX8_search_184 (by decide) hq (fun hq => ?_) (fun hq => ?_)
                · refine zz_nmV hq (fun x40 ex40 hq => ?_)
                  refine lv_iinc (v := x40) (lv' := [(8, .int x40), (9, .ref (ad a35)), (0, .ref (ad a0)), (1, .ref (ad a1)), (2, .int x2), (4, .ref (ad a6)), (5, .int x10), (6, .int x14), (7, .int x18)]) hx hb dX8_search_237 hl (k := 8) rfl (by rw [ex40]; rfl) (by decide) rfl (fun ls hl => ?_)
                  refine lv_goto (tgt := 153) hx hb dX8_search_240 (by decide) ?_
                  exact ih153 x40 s38 _ _ _ hq hB (lv_sub hl [2, 3, 4, 5, 6, 7, 8, 0] rfl)
                · refine lv_aload_n hx hb dX8_search_187 rfl (lv_at hl 1 rfl) ?_
                  refine lv_iconst (v := 1) hx hb dX8_search_188 (by decide) ?_
                  refine lv_aload hx hb dX8_search_189 (lv_at hl 0 rfl) ?_
                  refine lv_iload_n hx hb dX8_search_191 rfl (lv_at hl 3 rfl) ?_
                  refine zz_callVi S hT hB (As := [.int x2]) (b := a35) (o := f_X6_center T N s38 a35 x2) (c_X6_center l D cy T hT ad N s38 _ a35 x2) (cwV 1 hts (gV wSub wd_291 wd_29 wd_30 wd_14 wd_31) rfl rfl rfl (by decide +kernel) ⟨Nat.le_of_ble_eq_true rfl, Nat.le_of_ble_eq_true rfl⟩) (F := TX6) (NF := 8) 6 rfl (by decide) (k_X6_center T N s38 a35 x2) rfl hl.1 rfl (Nat.le_of_ble_eq_true rfl) dX8_search_192 hq (fun x42 s41 H locs hq hB => ?_)
                  refine lv_iload hx hb dX8_search_195 (lv_at hl 6 rfl) ?_
                  refine lv_isub hx hb dX8_search_197 ?_
                  refine zz_callVv S hT hB (As := [.int (1 : Int32), .int (x42 - x14)]) (b := a0) (o := f_X8_offer T N s41 a0 (1 : Int32) (x42 - x14)) (c_X8_offer l D cy T hT ad N s41 _ a0 (1 : Int32) (x42 - x14)) (cwV 2 hts (gV wSub wd_269 wd_270 wd_271 wd_267 wd_272) rfl rfl rfl (by decide +kernel) ⟨Nat.le_of_ble_eq_true rfl, Nat.le_of_ble_eq_true rfl⟩) (F := TX8) (NF := 3) 8 rfl (by decide) (k_X8_offer T N s41 a0 (1 : Int32) (x42 - x14)) rfl hl.1 rfl (Nat.le_of_ble_eq_true rfl) dX8_search_198 hq (fun s43 H locs hq hB => ?_)
                  refine lv_aload_n hx hb dX8_search_201 rfl (lv_at hl 1 rfl) ?_
                  refine lv_aload hx hb dX8_search_202 (lv_at hl 0 rfl) ?_
                  refine lv_iload_n hx hb dX8_search_204 rfl (lv_at hl 3 rfl) ?_
                  refine zz_callVi S hT hB (As := [.int x2]) (b := a35) (o := f_X6_start T N s43 a35 x2) (c_X6_start l D cy T hT ad N s43 _ a35 x2) (cwV 1 hts (gV wSub wd_292 wd_12 wd_13 wd_14 wd_15) rfl rfl rfl (by decide +kernel) ⟨Nat.le_of_ble_eq_true rfl, Nat.le_of_ble_eq_true rfl⟩) (F := TX6) (NF := 8) 6 rfl (by decide) (k_X6_start T N s43 a35 x2) rfl hl.1 rfl (Nat.le_of_ble_eq_true rfl) dX8_search_205 hq (fun x45 s44 H locs hq hB => ?_)
                  refine lv_aload hx hb dX8_search_208 (lv_at hl 0 rfl) ?_
                  refine lv_iload_n hx hb dX8_search_210 rfl (lv_at hl 3 rfl) ?_
                  refine zz_callVi S hT hB (As := [.int x2]) (b := a35) (o := f_X6_end T N s44 a35 x2) (c_X6_end l D cy T hT ad N s44 _ a35 x2) (cwV 1 hts (gV wSub wd_293 wd_25 wd_26 wd_14 wd_27) rfl rfl rfl (by decide +kernel) ⟨Nat.le_of_ble_eq_true rfl, Nat.le_of_ble_eq_true rfl⟩) (F := TX6) (NF := 8) 6 rfl (by decide) (k_X6_end T N s44 a35 x2) rfl hl.1 rfl (Nat.le_of_ble_eq_true rfl) dX8_search_211 hq (fun x47 s46 H locs hq hB => ?_)
                  refine lv_iload hx hb dX8_search_214 (lv_at hl 5 rfl) ?_
                  refine zz_callVv S hT hB (As := [.int x45, .int x47, .int x10]) (b := a0) (o := f_X8_offerSides T N s46 a0 x45 x47 x10) (c_X8_offerSides l D cy T hT ad N s46 _ a0 x45 x47 x10) (cwV 3 hts (gV wSub wd_294 wd_295 wd_296 wd_267 wd_297) rfl rfl rfl (by decide +kernel) ⟨Nat.le_of_ble_eq_true rfl, Nat.le_of_ble_eq_true rfl⟩) (F := TX8) (NF := 3) 8 rfl (by decide) (k_X8_offerSides T N s46 a0 x45 x47 x10) rfl hl.1 rfl (Nat.le_of_ble_eq_true rfl) dX8_search_216 hq (fun s48 H locs hq hB => ?_)
                  refine lv_aload_n hx hb dX8_search_219 rfl (lv_at hl 1 rfl) ?_
                  refine lv_aload hx hb dX8_search_220 (lv_at hl 0 rfl) ?_
                  refine lv_iload_n hx hb dX8_search_222 rfl (lv_at hl 3 rfl) ?_
                  refine zz_callVi S hT hB (As := [.int x2]) (b := a35) (o := f_X6_start T N s48 a35 x2) (c_X6_start l D cy T hT ad N s48 _ a35 x2) (cwV 1 hts (gV wSub wd_292 wd_12 wd_13 wd_14 wd_15) rfl rfl rfl (by decide +kernel) ⟨Nat.le_of_ble_eq_true rfl, Nat.le_of_ble_eq_true rfl⟩) (F := TX6) (NF := 8) 6 rfl (by decide) (k_X6_start T N s48 a35 x2) rfl hl.1 rfl (Nat.le_of_ble_eq_true rfl) dX8_search_223 hq (fun x50 s49 H locs hq hB => ?_)
                  refine lv_aload hx hb dX8_search_226 (lv_at hl 0 rfl) ?_
                  refine lv_iload_n hx hb dX8_search_228 rfl (lv_at hl 3 rfl) ?_
                  refine zz_callVi S hT hB (As := [.int x2]) (b := a35) (o := f_X6_end T N s49 a35 x2) (c_X6_end l D cy T hT ad N s49 _ a35 x2) (cwV 1 hts (gV wSub wd_293 wd_25 wd_26 wd_14 wd_27) rfl rfl rfl (by decide +kernel) ⟨Nat.le_of_ble_eq_true rfl, Nat.le_of_ble_eq_true rfl⟩) (F := TX6) (NF := 8) 6 rfl (by decide) (k_X6_end T N s49 a35 x2) rfl hl.1 rfl (Nat.le_of_ble_eq_true rfl) dX8_search_229 hq (fun x52 s51 H locs hq hB => ?_)
                  refine lv_iload hx hb dX8_search_232 (lv_at hl 7 rfl) ?_
                  refine zz_callVv S hT hB (As := [.int x50, .int x52, .int x18]) (b := a0) (o := f_X8_offerSides T N s51 a0 x50 x52 x18) (c_X8_offerSides l D cy T hT ad N s51 _ a0 x50 x52 x18) (cwV 3 hts (gV wSub wd_294 wd_295 wd_296 wd_267 wd_297) rfl rfl rfl (by decide +kernel) ⟨Nat.le_of_ble_eq_true rfl, Nat.le_of_ble_eq_true rfl⟩) (F := TX8) (NF := 3) 8 rfl (by decide) (k_X8_offerSides T N s51 a0 x50 x52 x18) rfl hl.1 rfl (Nat.le_of_ble_eq_true rfl) dX8_search_234 hq (fun s53 H locs hq hB => ?_)
                  refine zz_nmV hq (fun x54 ex54 hq => ?_)
                  refine lv_iinc (v := x54) (lv' := [(8, .int x54), (9, .ref (ad a35)), (0, .ref (ad a0)), (1, .ref (ad a1)), (2, .int x2), (4, .ref (ad a6)), (5, .int x10), (6, .int x14), (7, .int x18)]) hx hb dX8_search_237 hl (k := 8) rfl (by rw [ex54]; rfl) (by decide) rfl (fun ls hl => ?_)
                  refine lv_goto (tgt := 153) hx hb dX8_search_240 (by decide) ?_
                  exact ih153 x54 s53 _ _ _ hq hB (lv_sub hl [2, 3, 4, 5, 6, 7, 8, 0] rfl)
        exact L153 N (0 : Int32) s25 _ _ _ hq hB (lv_sub hl [1, 2, 3, 4, 5, 6, 7, 0] rfl)
      · refine lv_aload_n hx hb dX8_search_90 rfl (lv_at hl 1 rfl) ?_
        refine zz_getR S hT hB (C := RX2) (ref := "DiagramDesk$Diagram") (F := TX2) (N := 4) (index := 33) 2 3 iwX2 rfl (by decide) (by decide) rfl rfl (wS wd_282) (fun _ h9 => h9) dX8_search_91 hq (fun a55 hq => ?_)
        refine lv_iload hx hb dX8_search_94 (lv_at hl 7 rfl) ?_
        refine lv_iload_n hx hb dX8_search_96 rfl (lv_at hl 2 rfl) ?_
        refine zz_callVi S hT hB (As := [.int x24, .int x2]) (b := a55) (o := f_X4_isOn T N s25 a55 x24 x2) (c_X4_isOn l D cy T hT ad N s25 _ a55 x24 x2) (cwV 2 hts (gV wSub wd_298 wd_299 wd_300 wd_138 wd_301) rfl rfl rfl (by decide +kernel) ⟨Nat.le_of_ble_eq_true rfl, Nat.le_of_ble_eq_true rfl⟩) (F := TX4) (NF := 5) 4 rfl (by decide) (k_X4_isOn T N s25 a55 x24 x2) rfl hl.1 rfl (Nat.le_of_ble_eq_true rfl) dX8_search_97 hq (fun x57 s56 H locs hq hB => ?_)
        refine zz_if_eq (tgt := 144) hx hb dX8_search_100 (by decide) hq (fun hq => ?_) (fun hq => ?_)
        · refine zz_nmV hq (fun x58 ex58 hq => ?_)
          refine lv_iinc (v := x58) (lv' := [(8, .int x58), (0, .ref (ad a0)), (1, .ref (ad a1)), (2, .int x2), (4, .ref (ad a6)), (5, .int x10), (6, .int x14), (7, .int x18)]) hx hb dX8_search_144 hl (k := 7) rfl (by rw [ex58]; rfl) (by decide) rfl (fun ls hl => ?_)
          refine lv_goto (tgt := 78) hx hb dX8_search_147 (by decide) ?_
          exact ih78 x58 s56 _ _ _ hq hB (lv_sub hl [1, 2, 3, 4, 5, 6, 7, 0] rfl)
        · refine lv_aload_n hx hb dX8_search_103 rfl (lv_at hl 1 rfl) ?_
          refine zz_getR S hT hB (C := RX2) (ref := "DiagramDesk$Diagram") (F := TX2) (N := 4) (index := 33) 2 3 iwX2 rfl (by decide) (by decide) rfl rfl (wS wd_282) (fun _ h9 => h9) dX8_search_104 hq (fun a59 hq => ?_)
          refine lv_iload hx hb dX8_search_107 (lv_at hl 7 rfl) ?_
          refine zz_callVi S hT hB (As := [.int x24]) (b := a59) (o := f_X4_placeOf T N s56 a59 x24) (c_X4_placeOf l D cy T hT ad N s56 _ a59 x24) (cwV 1 hts (gV wSub wd_302 wd_303 wd_304 wd_138 wd_305) rfl rfl rfl (by decide +kernel) ⟨Nat.le_of_ble_eq_true rfl, Nat.le_of_ble_eq_true rfl⟩) (F := TX4) (NF := 5) 4 rfl (by decide) (k_X4_placeOf T N s56 a59 x24) rfl hl.1 rfl (Nat.le_of_ble_eq_true rfl) dX8_search_109 hq (fun x61 s60 H locs hq hB => ?_)
          refine lv_istore (lv' := [(9, .int x61), (0, .ref (ad a0)), (1, .ref (ad a1)), (2, .int x2), (4, .ref (ad a6)), (5, .int x10), (6, .int x14), (7, .int x18), (8, .int x24)]) hx hb dX8_search_112 hl (by decide) rfl (fun ls hl => ?_)
          refine lv_aload_n hx hb dX8_search_114 rfl (lv_at hl 1 rfl) ?_
          refine lv_iconst (v := 0) hx hb dX8_search_115 (by decide) ?_
          refine lv_iload hx hb dX8_search_116 (lv_at hl 0 rfl) ?_
          refine lv_iload hx hb dX8_search_118 (lv_at hl 5 rfl) ?_
          refine lv_isub hx hb dX8_search_120 ?_
          refine zz_callVv S hT hB (As := [.int (0 : Int32), .int (x61 - x10)]) (b := a0) (o := f_X8_offer T N s60 a0 (0 : Int32) (x61 - x10)) (c_X8_offer l D cy T hT ad N s60 _ a0 (0 : Int32) (x61 - x10)) (cwV 2 hts (gV wSub wd_269 wd_270 wd_271 wd_267 wd_272) rfl rfl rfl (by decide +kernel) ⟨Nat.le_of_ble_eq_true rfl, Nat.le_of_ble_eq_true rfl⟩) (F := TX8) (NF := 3) 8 rfl (by decide) (k_X8_offer T N s60 a0 (0 : Int32) (x61 - x10)) rfl hl.1 rfl (Nat.le_of_ble_eq_true rfl) dX8_search_121 hq (fun s62 H locs hq hB => ?_)
          refine lv_aload_n hx hb dX8_search_124 rfl (lv_at hl 1 rfl) ?_
          refine lv_iconst (v := 0) hx hb dX8_search_125 (by decide) ?_
          refine lv_iload hx hb dX8_search_126 (lv_at hl 0 rfl) ?_
          refine lv_iload hx hb dX8_search_128 (lv_at hl 6 rfl) ?_
          refine lv_isub hx hb dX8_search_130 ?_
          refine zz_callVv S hT hB (As := [.int (0 : Int32), .int (x61 - x14)]) (b := a0) (o := f_X8_offer T N s62 a0 (0 : Int32) (x61 - x14)) (c_X8_offer l D cy T hT ad N s62 _ a0 (0 : Int32) (x61 - x14)) (cwV 2 hts (gV wSub wd_269 wd_270 wd_271 wd_267 wd_272) rfl rfl rfl (by decide +kernel) ⟨Nat.le_of_ble_eq_true rfl, Nat.le_of_ble_eq_true rfl⟩) (F := TX8) (NF := 3) 8 rfl (by decide) (k_X8_offer T N s62 a0 (0 : Int32) (x61 - x14)) rfl hl.1 rfl (Nat.le_of_ble_eq_true rfl) dX8_search_131 hq (fun s63 H locs hq hB => ?_)
          refine lv_aload_n hx hb dX8_search_134 rfl (lv_at hl 1 rfl) ?_
          refine lv_iconst (v := 0) hx hb dX8_search_135 (by decide) ?_
          refine lv_iload hx hb dX8_search_136 (lv_at hl 0 rfl) ?_
          refine lv_iload hx hb dX8_search_138 (lv_at hl 7 rfl) ?_
          refine lv_isub hx hb dX8_search_140 ?_
          refine zz_callVv S hT hB (As := [.int (0 : Int32), .int (x61 - x18)]) (b := a0) (o := f_X8_offer T N s63 a0 (0 : Int32) (x61 - x18)) (c_X8_offer l D cy T hT ad N s63 _ a0 (0 : Int32) (x61 - x18)) (cwV 2 hts (gV wSub wd_269 wd_270 wd_271 wd_267 wd_272) rfl rfl rfl (by decide +kernel) ⟨Nat.le_of_ble_eq_true rfl, Nat.le_of_ble_eq_true rfl⟩) (F := TX8) (NF := 3) 8 rfl (by decide) (k_X8_offer T N s63 a0 (0 : Int32) (x61 - x18)) rfl hl.1 rfl (Nat.le_of_ble_eq_true rfl) dX8_search_141 hq (fun s64 H locs hq hB => ?_)
          refine zz_nmV hq (fun x65 ex65 hq => ?_)
          refine lv_iinc (v := x65) (lv' := [(8, .int x65), (9, .int x61), (0, .ref (ad a0)), (1, .ref (ad a1)), (2, .int x2), (4, .ref (ad a6)), (5, .int x10), (6, .int x14), (7, .int x18)]) hx hb dX8_search_144 hl (k := 8) rfl (by rw [ex65]; rfl) (by decide) rfl (fun ls hl => ?_)
          refine lv_goto (tgt := 78) hx hb dX8_search_147 (by decide) ?_
          exact ih78 x65 s64 _ _ _ hq hB (lv_sub hl [2, 3, 4, 5, 6, 7, 8, 0] rfl)
  exact L78 N (0 : Int32) s23 _ _ _ hq hB (lv_sub hl [5, 6, 7, 4, 3, 2, 1, 0] rfl)
def f_X9_append (T : zT) (N : Nat) (s0 : zS) (a0 : Nat) (x1 : Int32) : Option (Int32 × zS) :=
  zz1 (T.1 a0 = 9) <|
  (gI T s0 a0 9 2).bind fun x4 =>
  if x4 < 0 then (
    rZ (0 : Int32) s0)
  else (
    (gI T s0 a0 9 2).bind fun x5 =>
    (gR T s0 a0 9 0).bind fun a6 =>
    (aL T a6 13).bind fun x7 =>
    if x5 < x7 then (
      (gR T s0 a0 9 0).bind fun a8 =>
      (gI T s0 a0 9 2).bind fun x9 =>
      (sI T s0 a8 x9 x1).bind fun s10 =>
      (gI T s10 a0 9 2).bind fun x11 =>
      (pI T s10 a0 9 2 (x11 + (1 : Int32))).bind fun s12 =>
      rZ (1 : Int32) s12)
    else (
      rZ (0 : Int32) s0))
theorem k_X9_append (T : zT) (N : Nat) (s0 : zS) (a0 : Nat) (x1 : Int32) : ∀ q, f_X9_append T N s0 a0 x1 = some q → T.1 a0 = 9 := by
  intro q h
  unfold f_X9_append at h
  exact zz_guard h (fun h _ => h)
set_option maxHeartbeats 4000000 in
set_option maxRecDepth 100000 in
theorem c_X9_append (l : Launch) (D : va_G) (cy : Nat → ClassId) (T : zT) (hT : zok T) (ad : Nat → Nat) (N : Nat) (s0 : zS) (sz : Nat) (a0 : Nat) (x1 : Int32) : ∀ (r0 : Int32) (σ0 : zS), f_X9_append T N s0 a0 x1 = some (r0, σ0) → Met l yX9_append wsX9_append ({ frames := 0, cells := 0, slots := 0, locals := 0 }) (va_Pc [.ref (ad a0), .int x1] (zPre D cy T ad s0 sz)) (va_Qi (fun (r2 : Int32) (σ2 : zS) => r2 = r0 ∧ σ2 = σ0) (zAt D cy T ad (zA T ad sz)) (zA T ad sz)) 0 0 (zA T ad sz) := by
  intro r0 σ0 hq
  refine Met.ofW (cc := cX9_append) (maxL := 2) (ret := (some .boolean)) (by decide) rfl ?_
  intro p e s m args below meth c s₁ B hml hv
  obtain ⟨hargs, hsz, hP, hK, hD0, hN⟩ := hv
  have hx := B.exec
  have hb := B.bytes
  have hr := B.returns
  have hts := atoms_spec (ws := wsX9_append) B.pre
  have hown : s.vm.findClass RX9 = some m.cls := findClass_of_methodNamed B.named
  have hlocks := B.notSynchronized
  have S : CallFix p m c cX9_append 2 s args wsX9_append RX9 := ⟨hx, hb, hml, hown, hts⟩
  subst hsz
  have hB : zB D cy T ad (zA T ad s.heap.size) s.heap s0 s.heap [] s := zz_entry hP hK hD0 hN
  obtain ⟨ls, hent, hl⟩ := zz_ent m hargs (n := 2) (Nat.le_of_ble_eq_true rfl)
  rw [hent]
  have hl : lv_has ls 2 [(0, .ref (ad a0)), (1, .int x1)] := hl
  have iwX9 : ∀ w ∈ u_ws RX9 TX9 7, w ∈ wsX9_append := fun w h => wS (inWX9 w h)
  unfold f_X9_append at hq
  refine zz_guard hq (fun hk0 hq => ?_)
  refine lv_aload_n hx hb dX9_append_0 rfl (lv_at hl 0 rfl) ?_
  refine zz_get S hT hB (C := RX9) (ref := "DiagramDesk$Text") (F := TX9) (N := 7) (index := 22) 9 2 iwX9 rfl (by decide) (by decide) rfl rfl (wS wd_306) (fun _ h9 => h9) dX9_append_1 hq (fun x4 hq => ?_)
  refine zz_if_lt (tgt := 19) hx hb dX9_append_4 (by decide) hq (fun hq => ?_) (fun hq => ?_)
  · refine lv_iconst (v := 0) hx hb dX9_append_19 (by decide) ?_
    exact zz_zret S hB hr hlocks dX9_append_20 hq
  · refine lv_aload_n hx hb dX9_append_7 rfl (lv_at hl 0 rfl) ?_
    refine zz_get S hT hB (C := RX9) (ref := "DiagramDesk$Text") (F := TX9) (N := 7) (index := 22) 9 2 iwX9 rfl (by decide) (by decide) rfl rfl (wS wd_306) (fun _ h9 => h9) dX9_append_8 hq (fun x5 hq => ?_)
    refine lv_aload_n hx hb dX9_append_11 rfl (lv_at hl 0 rfl) ?_
    refine zz_getR S hT hB (C := RX9) (ref := "DiagramDesk$Text") (F := TX9) (N := 7) (index := 9) 9 0 iwX9 rfl (by decide) (by decide) rfl rfl (wS wd_307) (fun _ h9 => h9) dX9_append_12 hq (fun a6 hq => ?_)
    refine zz_alen S hT hB 13 (by decide) (by decide) dX9_append_15 hq (fun x7 hq => ?_)
    refine zz_icmp_lt (tgt := 21) hx hb dX9_append_16 (by decide) hq (fun hq => ?_) (fun hq => ?_)
    · refine lv_aload_n hx hb dX9_append_21 rfl (lv_at hl 0 rfl) ?_
      refine zz_getR S hT hB (C := RX9) (ref := "DiagramDesk$Text") (F := TX9) (N := 7) (index := 9) 9 0 iwX9 rfl (by decide) (by decide) rfl rfl (wS wd_307) (fun _ h9 => h9) dX9_append_22 hq (fun a8 hq => ?_)
      refine lv_aload_n hx hb dX9_append_25 rfl (lv_at hl 0 rfl) ?_
      refine zz_get S hT hB (C := RX9) (ref := "DiagramDesk$Text") (F := TX9) (N := 7) (index := 22) 9 2 iwX9 rfl (by decide) (by decide) rfl rfl (wS wd_306) (fun _ h9 => h9) dX9_append_26 hq (fun x9 hq => ?_)
      refine lv_iload_n hx hb dX9_append_29 rfl (lv_at hl 1 rfl) ?_
      refine zz_ast S hT hB dX9_append_30 hq (fun s10 H locs hq hB => ?_)
      refine lv_aload_n hx hb dX9_append_31 rfl (lv_at hl 0 rfl) ?_
      refine lv_dup hx hb dX9_append_32 rfl ?_
      refine zz_get S hT hB (C := RX9) (ref := "DiagramDesk$Text") (F := TX9) (N := 7) (index := 22) 9 2 iwX9 rfl (by decide) (by decide) rfl rfl (wS wd_306) (fun _ h9 => h9) dX9_append_33 hq (fun x11 hq => ?_)
      refine lv_iconst (v := 1) hx hb dX9_append_36 (by decide) ?_
      refine lv_iadd hx hb dX9_append_37 ?_
      refine zz_put S hT hB (C := RX9) (ref := "DiagramDesk$Text") (F := TX9) (N := 7) (index := 22) 9 2 iwX9 tyX9 tyX9_ok nmX9 rfl (by decide) (by decide) rfl rfl (wS wd_306) (fun _ h9 => h9) rfl (by decide +kernel) dX9_append_38 hq (fun s12 H locs hq hB => ?_)
      refine lv_iconst (v := 1) hx hb dX9_append_41 (by decide) ?_
      exact zz_zret S hB hr hlocks dX9_append_42 hq
    · refine lv_iconst (v := 0) hx hb dX9_append_19 (by decide) ?_
      exact zz_zret S hB hr hlocks dX9_append_20 hq
def f_X9_draft (T : zT) (N : Nat) (s0 : zS) (a0 : Nat) (x1 : Int32) : Option (Option Nat × zS) :=
  zz1 (T.1 a0 = 9) <|
  if x1 < 0 then (
    some (none, s0))
  else (
    (gR T s0 a0 9 1).bind fun a4 =>
    (aL T a4 17).bind fun x5 =>
    if x5 ≤ x1 then (
      some (none, s0))
    else (
      (gR T s0 a0 9 1).bind fun a6 =>
      (aR T s0 a6 17 x1).bind fun a7 =>
      some (some a7, s0)))
theorem k_X9_draft (T : zT) (N : Nat) (s0 : zS) (a0 : Nat) (x1 : Int32) : ∀ q, f_X9_draft T N s0 a0 x1 = some q → T.1 a0 = 9 := by
  intro q h
  unfold f_X9_draft at h
  exact zz_guard h (fun h _ => h)
set_option maxHeartbeats 4000000 in
set_option maxRecDepth 100000 in
theorem c_X9_draft (l : Launch) (D : va_G) (cy : Nat → ClassId) (T : zT) (hT : zok T) (ad : Nat → Nat) (N : Nat) (s0 : zS) (sz : Nat) (a0 : Nat) (x1 : Int32) : ∀ (r0 : Option Nat) (σ0 : zS), f_X9_draft T N s0 a0 x1 = some (r0, σ0) → Met l yX9_draft wsX9_draft ({ frames := 0, cells := 0, slots := 0, locals := 0 }) (va_Pc [.ref (ad a0), .int x1] (zPre D cy T ad s0 sz)) (va_Qq (fun (r2 : Option Nat) (σ2 : zS) => r2 = r0.map ad ∧ σ2 = σ0) (zAt D cy T ad (zA T ad sz)) (zA T ad sz)) 0 0 (zA T ad sz) := by
  intro r0 σ0 hq
  refine Met.ofW (cc := cX9_draft) (maxL := 2) (ret := (some (.object "DiagramDesk$Shape"))) (by decide) rfl ?_
  intro p e s m args below meth c s₁ B hml hv
  obtain ⟨hargs, hsz, hP, hK, hD0, hN⟩ := hv
  have hx := B.exec
  have hb := B.bytes
  have hr := B.returns
  have hts := atoms_spec (ws := wsX9_draft) B.pre
  have hown : s.vm.findClass RX9 = some m.cls := findClass_of_methodNamed B.named
  have hlocks := B.notSynchronized
  have S : CallFix p m c cX9_draft 2 s args wsX9_draft RX9 := ⟨hx, hb, hml, hown, hts⟩
  subst hsz
  have hB : zB D cy T ad (zA T ad s.heap.size) s.heap s0 s.heap [] s := zz_entry hP hK hD0 hN
  obtain ⟨ls, hent, hl⟩ := zz_ent m hargs (n := 2) (Nat.le_of_ble_eq_true rfl)
  rw [hent]
  have hl : lv_has ls 2 [(0, .ref (ad a0)), (1, .int x1)] := hl
  have iwX9 : ∀ w ∈ u_ws RX9 TX9 7, w ∈ wsX9_draft := fun w h => wS (inWX9 w h)
  unfold f_X9_draft at hq
  refine zz_guard hq (fun hk0 hq => ?_)
  refine lv_iload_n hx hb dX9_draft_0 rfl (lv_at hl 1 rfl) ?_
  refine zz_if_lt (tgt := 22) hx hb dX9_draft_1 (by decide) hq (fun hq => ?_) (fun hq => ?_)
  · refine lv_null hx hb dX9_draft_22 ?_
    exact zz_aretN S hB hr hlocks dX9_draft_23 hq
  · refine lv_iload_n hx hb dX9_draft_4 rfl (lv_at hl 1 rfl) ?_
    refine lv_aload_n hx hb dX9_draft_5 rfl (lv_at hl 0 rfl) ?_
    refine zz_getR S hT hB (C := RX9) (ref := "DiagramDesk$Text") (F := TX9) (N := 7) (index := 17) 9 1 iwX9 rfl (by decide) (by decide) rfl rfl (wS wd_308) (fun _ h9 => h9) dX9_draft_6 hq (fun a4 hq => ?_)
    refine zz_alen S hT hB 17 (by decide) (by decide) dX9_draft_9 hq (fun x5 hq => ?_)
    refine zz_icmp_ge (tgt := 22) hx hb dX9_draft_10 (by decide) hq (fun hq => ?_) (fun hq => ?_)
    · refine lv_null hx hb dX9_draft_22 ?_
      exact zz_aretN S hB hr hlocks dX9_draft_23 hq
    · refine lv_aload_n hx hb dX9_draft_13 rfl (lv_at hl 0 rfl) ?_
      refine zz_getR S hT hB (C := RX9) (ref := "DiagramDesk$Text") (F := TX9) (N := 7) (index := 17) 9 1 iwX9 rfl (by decide) (by decide) rfl rfl (wS wd_308) (fun _ h9 => h9) dX9_draft_14 hq (fun a6 hq => ?_)
      refine lv_iload_n hx hb dX9_draft_17 rfl (lv_at hl 1 rfl) ?_
      refine zz_aldR S hT hB 17 4 rfl (by decide) (by decide) dX9_draft_18 hq (fun a7 hq => ?_)
      refine lv_goto (tgt := 23) hx hb dX9_draft_19 (by decide) ?_
      exact zz_aret S hB hr hlocks dX9_draft_23 hq
def f_X9_code (T : zT) (N : Nat) (s0 : zS) (a0 : Nat) : Option (Int32 × zS) :=
  zz1 (T.1 a0 = 9) <|
  (gI T s0 a0 9 4).bind fun x3 =>
  if x3 < 0 then (
    some ((-1000000 : Int32), s0))
  else (
    (gI T s0 a0 9 4).bind fun x4 =>
    (gI T s0 a0 9 2).bind fun x5 =>
    if x5 ≤ x4 then (
      some ((-1000000 : Int32), s0))
    else (
      (gI T s0 a0 9 4).bind fun x6 =>
      (gR T s0 a0 9 0).bind fun a7 =>
      (aL T a7 13).bind fun x8 =>
      if x8 ≤ x6 then (
        some ((-1000000 : Int32), s0))
      else (
        (gR T s0 a0 9 0).bind fun a9 =>
        (gI T s0 a0 9 4).bind fun x10 =>
        (aI T s0 a9 13 x10).bind fun x11 =>
        some (x11, s0))))
theorem k_X9_code (T : zT) (N : Nat) (s0 : zS) (a0 : Nat) : ∀ q, f_X9_code T N s0 a0 = some q → T.1 a0 = 9 := by
  intro q h
  unfold f_X9_code at h
  exact zz_guard h (fun h _ => h)
set_option maxHeartbeats 4000000 in
set_option maxRecDepth 100000 in
theorem c_X9_code (l : Launch) (D : va_G) (cy : Nat → ClassId) (T : zT) (hT : zok T) (ad : Nat → Nat) (N : Nat) (s0 : zS) (sz : Nat) (a0 : Nat) : ∀ (r0 : Int32) (σ0 : zS), f_X9_code T N s0 a0 = some (r0, σ0) → Met l yX9_code wsX9_code ({ frames := 0, cells := 0, slots := 0, locals := 0 }) (va_Pc [.ref (ad a0)] (zPre D cy T ad s0 sz)) (va_Qi (fun (r2 : Int32) (σ2 : zS) => r2 = r0 ∧ σ2 = σ0) (zAt D cy T ad (zA T ad sz)) (zA T ad sz)) 0 0 (zA T ad sz) := by
  intro r0 σ0 hq
  refine Met.ofW (cc := cX9_code) (maxL := 1) (ret := (some .int)) (by decide) rfl ?_
  intro p e s m args below meth c s₁ B hml hv
  obtain ⟨hargs, hsz, hP, hK, hD0, hN⟩ := hv
  have hx := B.exec
  have hb := B.bytes
  have hr := B.returns
  have hts := atoms_spec (ws := wsX9_code) B.pre
  have hown : s.vm.findClass RX9 = some m.cls := findClass_of_methodNamed B.named
  have hlocks := B.notSynchronized
  have S : CallFix p m c cX9_code 1 s args wsX9_code RX9 := ⟨hx, hb, hml, hown, hts⟩
  subst hsz
  have hB : zB D cy T ad (zA T ad s.heap.size) s.heap s0 s.heap [] s := zz_entry hP hK hD0 hN
  obtain ⟨ls, hent, hl⟩ := zz_ent m hargs (n := 1) (Nat.le_of_ble_eq_true rfl)
  rw [hent]
  have hl : lv_has ls 1 [(0, .ref (ad a0))] := hl
  have iwX9 : ∀ w ∈ u_ws RX9 TX9 7, w ∈ wsX9_code := fun w h => wS (inWX9 w h)
  unfold f_X9_code at hq
  refine zz_guard hq (fun hk0 hq => ?_)
  refine lv_aload_n hx hb dX9_code_0 rfl (lv_at hl 0 rfl) ?_
  refine zz_get S hT hB (C := RX9) (ref := "DiagramDesk$Text") (F := TX9) (N := 7) (index := 26) 9 4 iwX9 rfl (by decide) (by decide) rfl rfl (wS wd_309) (fun _ h9 => h9) dX9_code_1 hq (fun x3 hq => ?_)
  refine zz_if_lt (tgt := 42) hx hb dX9_code_4 (by decide) hq (fun hq => ?_) (fun hq => ?_)
  · refine lv_ldc (v := -1000000) hx hb hown (hts _ (wS wd_310)) dX9_code_42 ?_
    exact zz_iret S hB hr hlocks dX9_code_44 hq
  · refine lv_aload_n hx hb dX9_code_7 rfl (lv_at hl 0 rfl) ?_
    refine zz_get S hT hB (C := RX9) (ref := "DiagramDesk$Text") (F := TX9) (N := 7) (index := 26) 9 4 iwX9 rfl (by decide) (by decide) rfl rfl (wS wd_309) (fun _ h9 => h9) dX9_code_8 hq (fun x4 hq => ?_)
    refine lv_aload_n hx hb dX9_code_11 rfl (lv_at hl 0 rfl) ?_
    refine zz_get S hT hB (C := RX9) (ref := "DiagramDesk$Text") (F := TX9) (N := 7) (index := 22) 9 2 iwX9 rfl (by decide) (by decide) rfl rfl (wS wd_306) (fun _ h9 => h9) dX9_code_12 hq (fun x5 hq => ?_)
    refine zz_icmp_ge (tgt := 42) hx hb dX9_code_15 (by decide) hq (fun hq => ?_) (fun hq => ?_)
    · refine lv_ldc (v := -1000000) hx hb hown (hts _ (wS wd_310)) dX9_code_42 ?_
      exact zz_iret S hB hr hlocks dX9_code_44 hq
    · refine lv_aload_n hx hb dX9_code_18 rfl (lv_at hl 0 rfl) ?_
      refine zz_get S hT hB (C := RX9) (ref := "DiagramDesk$Text") (F := TX9) (N := 7) (index := 26) 9 4 iwX9 rfl (by decide) (by decide) rfl rfl (wS wd_309) (fun _ h9 => h9) dX9_code_19 hq (fun x6 hq => ?_)
      refine lv_aload_n hx hb dX9_code_22 rfl (lv_at hl 0 rfl) ?_
      refine zz_getR S hT hB (C := RX9) (ref := "DiagramDesk$Text") (F := TX9) (N := 7) (index := 9) 9 0 iwX9 rfl (by decide) (by decide) rfl rfl (wS wd_307) (fun _ h9 => h9) dX9_code_23 hq (fun a7 hq => ?_)
      refine zz_alen S hT hB 13 (by decide) (by decide) dX9_code_26 hq (fun x8 hq => ?_)
      refine zz_icmp_ge (tgt := 42) hx hb dX9_code_27 (by decide) hq (fun hq => ?_) (fun hq => ?_)
      · refine lv_ldc (v := -1000000) hx hb hown (hts _ (wS wd_310)) dX9_code_42 ?_
        exact zz_iret S hB hr hlocks dX9_code_44 hq
      · refine lv_aload_n hx hb dX9_code_30 rfl (lv_at hl 0 rfl) ?_
        refine zz_getR S hT hB (C := RX9) (ref := "DiagramDesk$Text") (F := TX9) (N := 7) (index := 9) 9 0 iwX9 rfl (by decide) (by decide) rfl rfl (wS wd_307) (fun _ h9 => h9) dX9_code_31 hq (fun a9 hq => ?_)
        refine lv_aload_n hx hb dX9_code_34 rfl (lv_at hl 0 rfl) ?_
        refine zz_get S hT hB (C := RX9) (ref := "DiagramDesk$Text") (F := TX9) (N := 7) (index := 26) 9 4 iwX9 rfl (by decide) (by decide) rfl rfl (wS wd_309) (fun _ h9 => h9) dX9_code_35 hq (fun x10 hq => ?_)
        refine zz_ald S hT hB dX9_code_38 hq (fun x11 hq => ?_)
        refine lv_goto (tgt := 44) hx hb dX9_code_39 (by decide) ?_
        exact zz_iret S hB hr hlocks dX9_code_44 hq
def f_X9_kindOf (T : zT) (N : Nat) (s0 : zS) (x0 : Int32) : Option (Int32 × zS) :=
  if x0 < (98 : Int32) ∨ (101 : Int32) < x0 then (
    some ((-1000000 : Int32), s0))
  else if x0 = (98 : Int32) then (
    some ((0 : Int32), s0))
  else if x0 = (99 : Int32) then (
    some ((-1000000 : Int32), s0))
  else if x0 = (100 : Int32) then (
    some ((2 : Int32), s0))
  else if x0 = (101 : Int32) then (
    some ((1 : Int32), s0))
  else none
set_option maxHeartbeats 4000000 in
set_option maxRecDepth 100000 in
theorem c_X9_kindOf (l : Launch) (D : va_G) (cy : Nat → ClassId) (T : zT) (hT : zok T) (ad : Nat → Nat) (N : Nat) (s0 : zS) (sz : Nat) (x0 : Int32) : ∀ (r0 : Int32) (σ0 : zS), f_X9_kindOf T N s0 x0 = some (r0, σ0) → Met l yX9_kindOf wsX9_kindOf ({ frames := 0, cells := 0, slots := 0, locals := 0 }) (va_Pc [.int x0] (zPre D cy T ad s0 sz)) (va_Qi (fun (r2 : Int32) (σ2 : zS) => r2 = r0 ∧ σ2 = σ0) (zAt D cy T ad (zA T ad sz)) (zA T ad sz)) 0 0 (zA T ad sz) := by
  intro r0 σ0 hq
  refine Met.ofW (cc := cX9_kindOf) (maxL := 1) (ret := (some .int)) (by decide) rfl ?_
  intro p e s m args below meth c s₁ B hml hv
  obtain ⟨hargs, hsz, hP, hK, hD0, hN⟩ := hv
  have hx := B.exec
  have hb := B.bytes
  have hr := B.returns
  have hts := atoms_spec (ws := wsX9_kindOf) B.pre
  have hown : s.vm.findClass RX9 = some m.cls := findClass_of_methodNamed B.named
  have hlocks := B.notSynchronized
  have S : CallFix p m c cX9_kindOf 1 s args wsX9_kindOf RX9 := ⟨hx, hb, hml, hown, hts⟩
  subst hsz
  have hB : zB D cy T ad (zA T ad s.heap.size) s.heap s0 s.heap [] s := zz_entry hP hK hD0 hN
  obtain ⟨ls, hent, hl⟩ := zz_ent m hargs (n := 1) (Nat.le_of_ble_eq_true rfl)
  rw [hent]
  have hl : lv_has ls 1 [(0, .int x0)] := hl
  unfold f_X9_kindOf at hq
  refine lv_iload_n hx hb dX9_kindOf_0 rfl (lv_at hl 0 rfl) ?_
  refine zz_cases hq (fun hc hq => ?_) (fun hc hq => ?_)
  · refine lv_tableOut (tgt := 38) hx hb dX9_kindOf_1 (zz_tabO hc (by decide) (by decide)) (by decide) ?_
    refine lv_ldc (v := -1000000) hx hb hown (hts _ (wS wd_310)) dX9_kindOf_38 ?_
    exact zz_iret S hB hr hlocks dX9_kindOf_40 hq
  refine zz_cases hq (fun hc1 hq => ?_) (fun hc1 hq => ?_)
  · refine lv_tableIn (off := 31) (tgt := 32) hx hb dX9_kindOf_1 (by rw [hc1]; decide) (by rw [hc1]; decide) (by rw [hc1]; rfl) (by decide) ?_
    refine lv_iconst (v := 0) hx hb dX9_kindOf_32 (by decide) ?_
    exact zz_iret S hB hr hlocks dX9_kindOf_33 hq
  refine zz_cases hq (fun hc1 hq => ?_) (fun hc1 hq => ?_)
  · refine lv_tableIn (off := 37) (tgt := 38) hx hb dX9_kindOf_1 (by rw [hc1]; decide) (by rw [hc1]; decide) (by rw [hc1]; rfl) (by decide) ?_
    refine lv_ldc (v := -1000000) hx hb hown (hts _ (wS wd_310)) dX9_kindOf_38 ?_
    exact zz_iret S hB hr hlocks dX9_kindOf_40 hq
  refine zz_cases hq (fun hc1 hq => ?_) (fun hc1 hq => ?_)
  · refine lv_tableIn (off := 35) (tgt := 36) hx hb dX9_kindOf_1 (by rw [hc1]; decide) (by rw [hc1]; decide) (by rw [hc1]; rfl) (by decide) ?_
    refine lv_iconst (v := 2) hx hb dX9_kindOf_36 (by decide) ?_
    exact zz_iret S hB hr hlocks dX9_kindOf_37 hq
  refine zz_cases hq (fun hc1 hq => ?_) (fun hc1 hq => ?_)
  · refine lv_tableIn (off := 33) (tgt := 34) hx hb dX9_kindOf_1 (by rw [hc1]; decide) (by rw [hc1]; decide) (by rw [hc1]; rfl) (by decide) ?_
    refine lv_iconst (v := 1) hx hb dX9_kindOf_34 (by decide) ?_
    exact zz_iret S hB hr hlocks dX9_kindOf_35 hq
  exact zz_none hq
def f_X9_parseNumber_J92 (T : zT) (N : Nat) (a0 : Nat) (x8 : Int32) (s10 : zS) (x11 : Int32) : Option (Int32 × zS) :=
  (pI T s10 a0 9 5 x11).bind fun s12 =>
  if x8 ≤ 0 then (
    rZ (0 : Int32) s12)
  else (
    rZ (1 : Int32) s12)
def f_X9_parseNumber_J81 (T : zT) (N : Nat) (a0 : Nat) (x5 : Int32) (x7 : Int32) (x8 : Int32) (s10 : zS) : Option (Int32 × zS) :=
  if x5 = 0 then (
    f_X9_parseNumber_J92 T N a0 x8 s10 x7)
  else (
    f_X9_parseNumber_J92 T N a0 x8 s10 (-x7))
def f_X9_parseNumber_L33 (T : zT) (N : Nat) (a0 : Nat) (x5 : Int32) (k33 : Int32 → Int32 → zS → Option (Int32 × zS)) (x7 : Int32) (x8 : Int32) (s9 : zS) : Option (Int32 × zS) :=
  if (5 : Int32) ≤ x8 then (
    f_X9_parseNumber_J81 T N a0 x5 x7 x8 s9)
  else (
    zb2 (f_X9_code T N s9 a0) fun x14 s13 =>
    zb2 (f_X11_isWithin T N s13 x14 (48 : Int32) (57 : Int32)) fun x16 s15 =>
    if x16 = 0 then (
      f_X9_parseNumber_J81 T N a0 x5 x7 x8 s15)
    else (
      zb2 (f_X9_code T N s15 a0) fun x18 s17 =>
      zn ((((10 : Int32) * x7) + x18) - (48 : Int32)) fun x19 =>
      zn (x8 + (1 : Int32)) fun x20 =>
      (gI T s17 a0 9 4).bind fun x21 =>
      (pI T s17 a0 9 4 (x21 + (1 : Int32))).bind fun s22 =>
      k33 x19 x20 s22))
def f_X9_parseNumber_J29 (T : zT) (N : Nat) (a0 : Nat) (x5 : Int32) (s6 : zS) : Option (Int32 × zS) :=
  zl3 (f_X9_parseNumber_L33 T N a0 x5) N (0 : Int32) (0 : Int32) s6
def f_X9_parseNumber_J14 (T : zT) (N : Nat) (a0 : Nat) (s3 : zS) (x5 : Int32) : Option (Int32 × zS) :=
  if x5 = 0 then (
    f_X9_parseNumber_J29 T N a0 x5 s3)
  else (
    (gI T s3 a0 9 4).bind fun x23 =>
    (pI T s3 a0 9 4 (x23 + (1 : Int32))).bind fun s24 =>
    f_X9_parseNumber_J29 T N a0 x5 s24)
def f_X9_parseNumber (T : zT) (N : Nat) (s0 : zS) (a0 : Nat) : Option (Int32 × zS) :=
  zz1 (T.1 a0 = 9) <|
  zb2 (f_X9_code T N s0 a0) fun x4 s3 =>
  if ¬ x4 = (45 : Int32) then (
    f_X9_parseNumber_J14 T N a0 s3 (0 : Int32))
  else (
    f_X9_parseNumber_J14 T N a0 s3 (1 : Int32))
theorem k_X9_parseNumber (T : zT) (N : Nat) (s0 : zS) (a0 : Nat) : ∀ q, f_X9_parseNumber T N s0 a0 = some q → T.1 a0 = 9 := by
  intro q h
  unfold f_X9_parseNumber at h
  exact zz_guard h (fun h _ => h)
set_option maxHeartbeats 4000000 in
set_option maxRecDepth 100000 in
theorem c_X9_parseNumber (l : Launch) (D : va_G) (cy : Nat → ClassId) (T : zT) (hT : zok T) (ad : Nat → Nat) (N : Nat) (s0 : zS) (sz : Nat) (a0 : Nat) : ∀ (r0 : Int32) (σ0 : zS), f_X9_parseNumber T N s0 a0 = some (r0, σ0) → Met l yX9_parseNumber wsX9_parseNumber ({ frames := 1, cells := 0, slots := 0, locals := 22 }) (va_Pc [.ref (ad a0)] (zPre D cy T ad s0 sz)) (va_Qi (fun (r2 : Int32) (σ2 : zS) => r2 = r0 ∧ σ2 = σ0) (zAt D cy T ad (zA T ad sz)) (zA T ad sz)) 0 0 (zA T ad sz) := by
  intro r0 σ0 hq
  refine Met.ofW (cc := cX9_parseNumber) (maxL := 4) (ret := (some .boolean)) (by decide) rfl ?_
  intro p e s m args below meth c s₁ B hml hv
  obtain ⟨hargs, hsz, hP, hK, hD0, hN⟩ := hv
  have hx := B.exec
  have hb := B.bytes
  have hr := B.returns
  have hts := atoms_spec (ws := wsX9_parseNumber) B.pre
  have hown : s.vm.findClass RX9 = some m.cls := findClass_of_methodNamed B.named
  have hlocks := B.notSynchronized
  have S : CallFix p m c cX9_parseNumber 4 s args wsX9_parseNumber RX9 := ⟨hx, hb, hml, hown, hts⟩
  subst hsz
  have hB : zB D cy T ad (zA T ad s.heap.size) s.heap s0 s.heap [] s := zz_entry hP hK hD0 hN
  obtain ⟨ls, hent, hl⟩ := zz_ent m hargs (n := 4) (Nat.le_of_ble_eq_true rfl)
  rw [hent]
  have hl : lv_has ls 4 [(0, .ref (ad a0))] := hl
  have iwX9 : ∀ w ∈ u_ws RX9 TX9 7, w ∈ wsX9_parseNumber := fun w h => wS (inWX9 w h)
  unfold f_X9_parseNumber at hq
  refine zz_guard hq (fun hk0 hq => ?_)
  refine lv_aload_n hx hb dX9_parseNumber_0 rfl (lv_at hl 0 rfl) ?_
  refine zz_callVi S hT hB (As := []) (b := a0) (o := f_X9_code T N s0 a0) (c_X9_code l D cy T hT ad N s0 _ a0) (cwV 0 hts (gV wSub wd_311 wd_312 wd_313 wd_314 wd_315) rfl rfl rfl (by decide +kernel) ⟨Nat.le_of_ble_eq_true rfl, Nat.le_of_ble_eq_true rfl⟩) (F := TX9) (NF := 7) 9 rfl (by decide) (k_X9_code T N s0 a0) rfl hl.1 rfl (Nat.le_of_ble_eq_true rfl) dX9_parseNumber_1 hq (fun x4 s3 H locs hq hB => ?_)
  refine lv_bipush (v := 45) hx hb dX9_parseNumber_4 (by decide) ?_
  have J14 : ∀ (x5 : Int32) (H : Heap) (locs : List Loc) (ls : Array Slot), f_X9_parseNumber_J14 T N a0 s3 x5 = some (r0, σ0) → zB D cy T ad (zA T ad s.heap.size) s.heap s3 H locs s → lv_has ls 4 [(0, .ref (ad a0))] → W p l e (headSpec wsX9_parseNumber ({ frames := 1, cells := 0, slots := 0, locals := 22 } : Room)).room s m args below meth c H locs 0 0 (MQ below (va_Qi (fun (r2 : Int32) (σ2 : zS) => r2 = r0 ∧ σ2 = σ0) (zAt D cy T ad (zA T ad s.heap.size)) (zA T ad s.heap.size)) args s 0 0 (zA T ad s.heap.size)) (F0 m 14 ls [.int x5]) := by
    intro x5 H locs ls hq hB hl
    unfold f_X9_parseNumber_J14 at hq
    refine lv_istore_n (lv' := [(1, .int x5), (0, .ref (ad a0))]) hx hb dX9_parseNumber_14 rfl hl (by decide) rfl (fun ls hl => ?_)
    refine lv_iload_n hx hb dX9_parseNumber_15 rfl (lv_at hl 0 rfl) ?_
    have J29 : ∀ (s6 : zS) (H : Heap) (locs : List Loc) (ls : Array Slot), f_X9_parseNumber_J29 T N a0 x5 s6 = some (r0, σ0) → zB D cy T ad (zA T ad s.heap.size) s.heap s6 H locs s → lv_has ls 4 [(0, .ref (ad a0)), (1, .int x5)] → W p l e (headSpec wsX9_parseNumber ({ frames := 1, cells := 0, slots := 0, locals := 22 } : Room)).room s m args below meth c H locs 0 0 (MQ below (va_Qi (fun (r2 : Int32) (σ2 : zS) => r2 = r0 ∧ σ2 = σ0) (zAt D cy T ad (zA T ad s.heap.size)) (zA T ad s.heap.size)) args s 0 0 (zA T ad s.heap.size)) (F0 m 29 ls []) := by
      intro s6 H locs ls hq hB hl
      unfold f_X9_parseNumber_J29 at hq
      refine lv_iconst (v := 0) hx hb dX9_parseNumber_29 (by decide) ?_
      refine lv_istore_n (lv' := [(2, .int (0 : Int32)), (0, .ref (ad a0)), (1, .int x5)]) hx hb dX9_parseNumber_30 rfl hl (by decide) rfl (fun ls hl => ?_)
      refine lv_iconst (v := 0) hx hb dX9_parseNumber_31 (by decide) ?_
      refine lv_istore_n (lv' := [(3, .int (0 : Int32)), (2, .int (0 : Int32)), (0, .ref (ad a0)), (1, .int x5)]) hx hb dX9_parseNumber_32 rfl hl (by decide) rfl (fun ls hl => ?_)
      have L33 : ∀ (n : Nat) (x7 : Int32) (x8 : Int32) (s9 : zS) (H : Heap) (locs : List Loc) (ls : Array Slot), zl3 (f_X9_parseNumber_L33 T N a0 x5) n x7 x8 s9 = some (r0, σ0) → zB D cy T ad (zA T ad s.heap.size) s.heap s9 H locs s → lv_has ls 4 [(0, .ref (ad a0)), (1, .int x5), (2, .int x7), (3, .int x8)] → W p l e (headSpec wsX9_parseNumber ({ frames := 1, cells := 0, slots := 0, locals := 22 } : Room)).room s m args below meth c H locs 0 0 (MQ below (va_Qi (fun (r2 : Int32) (σ2 : zS) => r2 = r0 ∧ σ2 = σ0) (zAt D cy T ad (zA T ad s.heap.size)) (zA T ad s.heap.size)) args s 0 0 (zA T ad s.heap.size)) (F0 m 33 ls []) := by
        intro n
        induction n with
        | zero => intro x7 x8 s9 H locs ls hq; exact zz_none hq
        | succ n ih33 =>
          intro x7 x8 s9 H locs ls hq hB hl
          rw [zl3] at hq
          generalize zl3 (f_X9_parseNumber_L33 T N a0 x5) n = k33 at ih33 hq
          unfold f_X9_parseNumber_L33 at hq
          refine lv_iload_n hx hb dX9_parseNumber_33 rfl (lv_at hl 3 rfl) ?_
          refine lv_iconst (v := 5) hx hb dX9_parseNumber_34 (by decide) ?_
          have J81 : ∀ (s10 : zS) (H : Heap) (locs : List Loc) (ls : Array Slot), f_X9_parseNumber_J81 T N a0 x5 x7 x8 s10 = some (r0, σ0) → zB D cy T ad (zA T ad s.heap.size) s.heap s10 H locs s → lv_has ls 4 [(0, .ref (ad a0)), (1, .int x5), (2, .int x7), (3, .int x8)] → W p l e (headSpec wsX9_parseNumber ({ frames := 1, cells := 0, slots := 0, locals := 22 } : Room)).room s m args below meth c H locs 0 0 (MQ below (va_Qi (fun (r2 : Int32) (σ2 : zS) => r2 = r0 ∧ σ2 = σ0) (zAt D cy T ad (zA T ad s.heap.size)) (zA T ad s.heap.size)) args s 0 0 (zA T ad s.heap.size)) (F0 m 81 ls []) := by
            intro s10 H locs ls hq hB hl
            unfold f_X9_parseNumber_J81 at hq
            refine lv_aload_n hx hb dX9_parseNumber_81 rfl (lv_at hl 0 rfl) ?_
            refine lv_iload_n hx hb dX9_parseNumber_82 rfl (lv_at hl 1 rfl) ?_
            have J92 : ∀ (x11 : Int32) (H : Heap) (locs : List Loc) (ls : Array Slot), f_X9_parseNumber_J92 T N a0 x8 s10 x11 = some (r0, σ0) → zB D cy T ad (zA T ad s.heap.size) s.heap s10 H locs s → lv_has ls 4 [(3, .int x8)] → W p l e (headSpec wsX9_parseNumber ({ frames := 1, cells := 0, slots := 0, locals := 22 } : Room)).room s m args below meth c H locs 0 0 (MQ below (va_Qi (fun (r2 : Int32) (σ2 : zS) => r2 = r0 ∧ σ2 = σ0) (zAt D cy T ad (zA T ad s.heap.size)) (zA T ad s.heap.size)) args s 0 0 (zA T ad s.heap.size)) (F0 m 92 ls [.int x11, .ref (ad a0)]) := by
              intro x11 H locs ls hq hB hl
              unfold f_X9_parseNumber_J92 at hq
              refine zz_put S hT hB (C := RX9) (ref := "DiagramDesk$Text") (F := TX9) (N := 7) (index := 63) 9 5 iwX9 tyX9 tyX9_ok nmX9 rfl (by decide) (by decide) rfl rfl (wS wd_316) (fun _ h9 => h9) rfl (by decide +kernel) dX9_parseNumber_92 hq (fun s12 H locs hq hB => ?_)
              refine lv_iload_n hx hb dX9_parseNumber_95 rfl (lv_at hl 0 rfl) ?_
              refine zz_if_le (tgt := 103) hx hb dX9_parseNumber_96 (by decide) hq (fun hq => ?_) (fun hq => ?_)
              · refine lv_iconst (v := 0) hx hb dX9_parseNumber_103 (by decide) ?_
                exact zz_zret S hB hr hlocks dX9_parseNumber_104 hq
              · refine lv_iconst (v := 1) hx hb dX9_parseNumber_99 (by decide) ?_
                refine lv_goto (tgt := 104) hx hb dX9_parseNumber_100 (by decide) ?_
                exact zz_zret S hB hr hlocks dX9_parseNumber_104 hq
            refine zz_if_eq (tgt := 91) hx hb dX9_parseNumber_83 (by decide) hq (fun hq => ?_) (fun hq => ?_)
            · refine lv_iload_n hx hb dX9_parseNumber_91 rfl (lv_at hl 2 rfl) ?_
              exact J92 x7 _ _ _ hq hB (lv_sub hl [3] rfl)
            · refine lv_iload_n hx hb dX9_parseNumber_86 rfl (lv_at hl 2 rfl) ?_
              refine lv_ineg hx hb dX9_parseNumber_87 ?_
              refine lv_goto (tgt := 92) hx hb dX9_parseNumber_88 (by decide) ?_
              exact J92 (-x7) _ _ _ hq hB (lv_sub hl [3] rfl)
          refine zz_icmp_ge (tgt := 81) hx hb dX9_parseNumber_35 (by decide) hq (fun hq => ?_) (fun hq => ?_)
          · exact J81 s9 _ _ _ hq hB (lv_sub hl [0, 1, 2, 3] rfl)
          · refine lv_aload_n hx hb dX9_parseNumber_38 rfl (lv_at hl 0 rfl) ?_
            refine zz_callVi S hT hB (As := []) (b := a0) (o := f_X9_code T N s9 a0) (c_X9_code l D cy T hT ad N s9 _ a0) (cwV 0 hts (gV wSub wd_311 wd_312 wd_313 wd_314 wd_315) rfl rfl rfl (by decide +kernel) ⟨Nat.le_of_ble_eq_true rfl, Nat.le_of_ble_eq_true rfl⟩) (F := TX9) (NF := 7) 9 rfl (by decide) (k_X9_code T N s9 a0) rfl hl.1 rfl (Nat.le_of_ble_eq_true rfl) dX9_parseNumber_39 hq (fun x14 s13 H locs hq hB => ?_)
            refine lv_bipush (v := 48) hx hb dX9_parseNumber_42 (by decide) ?_
            refine lv_bipush (v := 57) hx hb dX9_parseNumber_44 (by decide) ?_
            refine zz_callNi S hT hB (As := [.int x14, .int (48 : Int32), .int (57 : Int32)]) (o := f_X11_isWithin T N s13 x14 (48 : Int32) (57 : Int32)) (c_X11_isWithin l D cy T hT ad N s13 _ x14 (48 : Int32) (57 : Int32)) ⟨va_cnB (host := "DiagramDesk") 3 hts (gN wSub wd_221) rfl rfl rfl (zN_at hN 16 rfl) (hts _ (wS wd_102)) (by decide +kernel) ⟨Nat.le_of_ble_eq_true rfl, Nat.le_of_ble_eq_true rfl⟩, hts _ (wS wd_222), trivial⟩ rfl hl.1 rfl (Nat.le_of_ble_eq_true rfl) dX9_parseNumber_46 hq (fun x16 s15 H locs hq hB => ?_)
            refine zz_if_eq (tgt := 81) hx hb dX9_parseNumber_49 (by decide) hq (fun hq => ?_) (fun hq => ?_)
            · exact J81 s15 _ _ _ hq hB (lv_sub hl [0, 1, 2, 3] rfl)
            · refine lv_bipush (v := 10) hx hb dX9_parseNumber_52 (by decide) ?_
              refine lv_iload_n hx hb dX9_parseNumber_54 rfl (lv_at hl 2 rfl) ?_
              refine lv_imul hx hb dX9_parseNumber_55 ?_
              refine lv_aload_n hx hb dX9_parseNumber_56 rfl (lv_at hl 0 rfl) ?_
              refine zz_callVi S hT hB (As := []) (b := a0) (o := f_X9_code T N s15 a0) (c_X9_code l D cy T hT ad N s15 _ a0) (cwV 0 hts (gV wSub wd_311 wd_312 wd_313 wd_314 wd_315) rfl rfl rfl (by decide +kernel) ⟨Nat.le_of_ble_eq_true rfl, Nat.le_of_ble_eq_true rfl⟩) (F := TX9) (NF := 7) 9 rfl (by decide) (k_X9_code T N s15 a0) rfl hl.1 rfl (Nat.le_of_ble_eq_true rfl) dX9_parseNumber_57 hq (fun x18 s17 H locs hq hB => ?_)
              refine lv_iadd hx hb dX9_parseNumber_60 ?_
              refine lv_bipush (v := 48) hx hb dX9_parseNumber_61 (by decide) ?_
              refine lv_isub hx hb dX9_parseNumber_63 ?_
              refine zz_nmI hq (fun x19 hq => ?_)
              refine lv_istore_n (lv' := [(2, .int x19), (0, .ref (ad a0)), (1, .int x5), (3, .int x8)]) hx hb dX9_parseNumber_64 rfl hl (by decide) rfl (fun ls hl => ?_)
              refine zz_nmV hq (fun x20 ex20 hq => ?_)
              refine lv_iinc (v := x20) (lv' := [(3, .int x20), (2, .int x19), (0, .ref (ad a0)), (1, .int x5)]) hx hb dX9_parseNumber_65 hl (k := 3) rfl (by rw [ex20]; rfl) (by decide) rfl (fun ls hl => ?_)
              refine lv_aload_n hx hb dX9_parseNumber_68 rfl (lv_at hl 2 rfl) ?_
              refine lv_dup hx hb dX9_parseNumber_69 rfl ?_
              refine zz_get S hT hB (C := RX9) (ref := "DiagramDesk$Text") (F := TX9) (N := 7) (index := 26) 9 4 iwX9 rfl (by decide) (by decide) rfl rfl (wS wd_309) (fun _ h9 => h9) dX9_parseNumber_70 hq (fun x21 hq => ?_)
              refine lv_iconst (v := 1) hx hb dX9_parseNumber_73 (by decide) ?_
              refine lv_iadd hx hb dX9_parseNumber_74 ?_
              refine zz_put S hT hB (C := RX9) (ref := "DiagramDesk$Text") (F := TX9) (N := 7) (index := 26) 9 4 iwX9 tyX9 tyX9_ok nmX9 rfl (by decide) (by decide) rfl rfl (wS wd_309) (fun _ h9 => h9) rfl (by decide +kernel) dX9_parseNumber_75 hq (fun s22 H locs hq hB => ?_)
              refine lv_goto (tgt := 33) hx hb dX9_parseNumber_78 (by decide) ?_
              exact ih33 x19 x20 s22 _ _ _ hq hB (lv_sub hl [2, 3, 1, 0] rfl)
      exact L33 N (0 : Int32) (0 : Int32) s6 _ _ _ hq hB (lv_sub hl [2, 3, 1, 0] rfl)
    refine zz_if_eq (tgt := 29) hx hb dX9_parseNumber_16 (by decide) hq (fun hq => ?_) (fun hq => ?_)
    · exact J29 s3 _ _ _ hq hB (lv_sub hl [1, 0] rfl)
    · refine lv_aload_n hx hb dX9_parseNumber_19 rfl (lv_at hl 1 rfl) ?_
      refine lv_dup hx hb dX9_parseNumber_20 rfl ?_
      refine zz_get S hT hB (C := RX9) (ref := "DiagramDesk$Text") (F := TX9) (N := 7) (index := 26) 9 4 iwX9 rfl (by decide) (by decide) rfl rfl (wS wd_309) (fun _ h9 => h9) dX9_parseNumber_21 hq (fun x23 hq => ?_)
      refine lv_iconst (v := 1) hx hb dX9_parseNumber_24 (by decide) ?_
      refine lv_iadd hx hb dX9_parseNumber_25 ?_
      refine zz_put S hT hB (C := RX9) (ref := "DiagramDesk$Text") (F := TX9) (N := 7) (index := 26) 9 4 iwX9 tyX9 tyX9_ok nmX9 rfl (by decide) (by decide) rfl rfl (wS wd_309) (fun _ h9 => h9) rfl (by decide +kernel) dX9_parseNumber_26 hq (fun s24 H locs hq hB => ?_)
      exact J29 s24 _ _ _ hq hB (lv_sub hl [1, 0] rfl)
  refine zz_icmp_ne (tgt := 13) hx hb dX9_parseNumber_6 (by decide) hq (fun hq => ?_) (fun hq => ?_)
  · refine lv_iconst (v := 0) hx hb dX9_parseNumber_13 (by decide) ?_
    exact J14 (0 : Int32) _ _ _ hq hB (lv_sub hl [0] rfl)
  · refine lv_iconst (v := 1) hx hb dX9_parseNumber_9 (by decide) ?_
    refine lv_goto (tgt := 14) hx hb dX9_parseNumber_10 (by decide) ?_
    exact J14 (1 : Int32) _ _ _ hq hB (lv_sub hl [0] rfl)
def f_X11_isSize (T : zT) (N : Nat) (s0 : zS) (x0 : Int32) : Option (Int32 × zS) :=
  zb2 (f_X11_isWithin T N s0 x0 (1 : Int32) (500 : Int32)) fun x4 s3 =>
  rZ x4 s3
set_option maxHeartbeats 4000000 in
set_option maxRecDepth 100000 in
theorem c_X11_isSize (l : Launch) (D : va_G) (cy : Nat → ClassId) (T : zT) (hT : zok T) (ad : Nat → Nat) (N : Nat) (s0 : zS) (sz : Nat) (x0 : Int32) : ∀ (r0 : Int32) (σ0 : zS), f_X11_isSize T N s0 x0 = some (r0, σ0) → Met l yX11_isSize wsX11_isSize ({ frames := 1, cells := 0, slots := 0, locals := 22 }) (va_Pc [.int x0] (zPre D cy T ad s0 sz)) (va_Qi (fun (r2 : Int32) (σ2 : zS) => r2 = r0 ∧ σ2 = σ0) (zAt D cy T ad (zA T ad sz)) (zA T ad sz)) 0 0 (zA T ad sz) := by
  intro r0 σ0 hq
  refine Met.ofW (cc := cX11_isSize) (maxL := 1) (ret := (some .boolean)) (by decide) rfl ?_
  intro p e s m args below meth c s₁ B hml hv
  obtain ⟨hargs, hsz, hP, hK, hD0, hN⟩ := hv
  have hx := B.exec
  have hb := B.bytes
  have hr := B.returns
  have hts := atoms_spec (ws := wsX11_isSize) B.pre
  have hown : s.vm.findClass RX11 = some m.cls := findClass_of_methodNamed B.named
  have hlocks := B.notSynchronized
  have S : CallFix p m c cX11_isSize 1 s args wsX11_isSize RX11 := ⟨hx, hb, hml, hown, hts⟩
  subst hsz
  have hB : zB D cy T ad (zA T ad s.heap.size) s.heap s0 s.heap [] s := zz_entry hP hK hD0 hN
  obtain ⟨ls, hent, hl⟩ := zz_ent m hargs (n := 1) (Nat.le_of_ble_eq_true rfl)
  rw [hent]
  have hl : lv_has ls 1 [(0, .int x0)] := hl
  unfold f_X11_isSize at hq
  refine lv_iload_n hx hb dX11_isSize_0 rfl (lv_at hl 0 rfl) ?_
  refine lv_iconst (v := 1) hx hb dX11_isSize_1 (by decide) ?_
  refine lv_sipush (v := 500) hx hb dX11_isSize_2 (by decide) ?_
  refine zz_callSi S hT hB (As := [.int x0, .int (1 : Int32), .int (500 : Int32)]) (o := f_X11_isWithin T N s0 x0 (1 : Int32) (500 : Int32)) (c_X11_isWithin l D cy T hT ad N s0 _ x0 (1 : Int32) (500 : Int32)) (va_cwS 3 hts (gS wSub wd_253 wd_222 wd_102 wd_221) rfl rfl rfl (by decide +kernel) ⟨Nat.le_of_ble_eq_true rfl, Nat.le_of_ble_eq_true rfl⟩) rfl hl.1 rfl (Nat.le_of_ble_eq_true rfl) dX11_isSize_5 hq (fun x4 s3 H locs hq hB => ?_)
  exact zz_zret S hB hr hlocks dX11_isSize_8 hq
def f_X9_takeNumber_J43 (T : zT) (N : Nat) (a0 : Nat) (a1 : Nat) (x2 : Int32) (s8 : zS) : Option zS :=
  if x2 < (0 : Int32) ∨ (2 : Int32) < x2 then (
    (gI T s8 a0 9 5).bind fun x9 =>
    (pI T s8 a1 6 5 x9).bind fun s10 =>
    some s10)
  else if x2 = (0 : Int32) then (
    (gI T s8 a0 9 5).bind fun x11 =>
    (pI T s8 a1 6 2 x11).bind fun s12 =>
    some s12)
  else if x2 = (1 : Int32) then (
    (gI T s8 a0 9 5).bind fun x13 =>
    (pI T s8 a1 6 3 x13).bind fun s14 =>
    some s14)
  else if x2 = (2 : Int32) then (
    (gI T s8 a0 9 5).bind fun x15 =>
    (pI T s8 a1 6 4 x15).bind fun s16 =>
    some s16)
  else none
def f_X9_takeNumber_J22 (T : zT) (N : Nat) (a0 : Nat) (a1 : Nat) (x2 : Int32) (x3 : Int32) (x6 : Int32) (s7 : zS) : Option zS :=
  if ¬ x6 = 0 then (
    f_X9_takeNumber_J43 T N a0 a1 x2 s7)
  else (
    (gI T s7 a0 9 6).bind fun x17 =>
    if ¬ x17 = (-1000000 : Int32) then (
      f_X9_takeNumber_J43 T N a0 a1 x2 s7)
    else (
      (pI T s7 a0 9 6 x3).bind fun s18 =>
      f_X9_takeNumber_J43 T N a0 a1 x2 s18))
def f_X9_takeNumber (T : zT) (N : Nat) (s0 : zS) (a0 : Nat) (a1 : Nat) (x2 : Int32) (x3 : Int32) : Option zS :=
  zz1 (T.1 a0 = 9) <|
  if (2 : Int32) ≤ x2 then (
    (gI T s0 a0 9 5).bind fun x19 =>
    zb2 (f_X11_isSize T N s0 x19) fun x21 s20 =>
    f_X9_takeNumber_J22 T N a0 a1 x2 x3 x21 s20)
  else (
    (gI T s0 a0 9 5).bind fun x22 =>
    zb2 (f_X11_isCoordinate T N s0 x22) fun x24 s23 =>
    f_X9_takeNumber_J22 T N a0 a1 x2 x3 x24 s23)
theorem k_X9_takeNumber (T : zT) (N : Nat) (s0 : zS) (a0 : Nat) (a1 : Nat) (x2 : Int32) (x3 : Int32) : ∀ q, f_X9_takeNumber T N s0 a0 a1 x2 x3 = some q → T.1 a0 = 9 := by
  intro q h
  unfold f_X9_takeNumber at h
  exact zz_guard h (fun h _ => h)
set_option maxHeartbeats 4000000 in
set_option maxRecDepth 100000 in
theorem c_X9_takeNumber (l : Launch) (D : va_G) (cy : Nat → ClassId) (T : zT) (hT : zok T) (ad : Nat → Nat) (N : Nat) (s0 : zS) (sz : Nat) (a0 : Nat) (a1 : Nat) (x2 : Int32) (x3 : Int32) : ∀ (σ0 : zS), f_X9_takeNumber T N s0 a0 a1 x2 x3 = some σ0 → Met l yX9_takeNumber wsX9_takeNumber ({ frames := 2, cells := 0, slots := 0, locals := 42 }) (va_Pc [.ref (ad a0), .ref (ad a1), .int x2, .int x3] (zPre D cy T ad s0 sz)) (va_Qv (fun σ2 : zS => σ2 = σ0) (zAt D cy T ad (zA T ad sz)) (zA T ad sz)) 0 0 (zA T ad sz) := by
  intro σ0 hq
  refine Met.ofW (cc := cX9_takeNumber) (maxL := 5) (ret := none) (by decide) rfl ?_
  intro p e s m args below meth c s₁ B hml hv
  obtain ⟨hargs, hsz, hP, hK, hD0, hN⟩ := hv
  have hx := B.exec
  have hb := B.bytes
  have hr := B.returns
  have hts := atoms_spec (ws := wsX9_takeNumber) B.pre
  have hown : s.vm.findClass RX9 = some m.cls := findClass_of_methodNamed B.named
  have hlocks := B.notSynchronized
  have S : CallFix p m c cX9_takeNumber 5 s args wsX9_takeNumber RX9 := ⟨hx, hb, hml, hown, hts⟩
  subst hsz
  have hB : zB D cy T ad (zA T ad s.heap.size) s.heap s0 s.heap [] s := zz_entry hP hK hD0 hN
  obtain ⟨ls, hent, hl⟩ := zz_ent m hargs (n := 5) (Nat.le_of_ble_eq_true rfl)
  rw [hent]
  have hl : lv_has ls 5 [(0, .ref (ad a0)), (1, .ref (ad a1)), (2, .int x2), (3, .int x3)] := hl
  have iwX9 : ∀ w ∈ u_ws RX9 TX9 7, w ∈ wsX9_takeNumber := fun w h => wS (inWX9 w h)
  have iwX6 : ∀ w ∈ u_ws RX6 TX6 8, w ∈ wsX9_takeNumber := fun w h => wS (inWX6 w h)
  unfold f_X9_takeNumber at hq
  refine zz_guard hq (fun hk0 hq => ?_)
  refine lv_iload_n hx hb dX9_takeNumber_0 rfl (lv_at hl 2 rfl) ?_
  refine lv_iconst (v := 2) hx hb dX9_takeNumber_1 (by decide) ?_
  have J22 : ∀ (x6 : Int32) (s7 : zS) (H : Heap) (locs : List Loc) (ls : Array Slot), f_X9_takeNumber_J22 T N a0 a1 x2 x3 x6 s7 = some σ0 → zB D cy T ad (zA T ad s.heap.size) s.heap s7 H locs s → lv_has ls 5 [(0, .ref (ad a0)), (1, .ref (ad a1)), (2, .int x2), (3, .int x3)] → W p l e (headSpec wsX9_takeNumber ({ frames := 2, cells := 0, slots := 0, locals := 42 } : Room)).room s m args below meth c H locs 0 0 (MQ below (va_Qv (fun σ2 : zS => σ2 = σ0) (zAt D cy T ad (zA T ad s.heap.size)) (zA T ad s.heap.size)) args s 0 0 (zA T ad s.heap.size)) (F0 m 22 ls [.int x6]) := by
    intro x6 s7 H locs ls hq hB hl
    unfold f_X9_takeNumber_J22 at hq
    refine lv_istore (lv' := [(4, .int x6), (0, .ref (ad a0)), (1, .ref (ad a1)), (2, .int x2), (3, .int x3)]) hx hb dX9_takeNumber_22 hl (by decide) rfl (fun ls hl => ?_)
    refine lv_iload hx hb dX9_takeNumber_24 (lv_at hl 0 rfl) ?_
    have J43 : ∀ (s8 : zS) (H : Heap) (locs : List Loc) (ls : Array Slot), f_X9_takeNumber_J43 T N a0 a1 x2 s8 = some σ0 → zB D cy T ad (zA T ad s.heap.size) s.heap s8 H locs s → lv_has ls 5 [(0, .ref (ad a0)), (1, .ref (ad a1)), (2, .int x2)] → W p l e (headSpec wsX9_takeNumber ({ frames := 2, cells := 0, slots := 0, locals := 42 } : Room)).room s m args below meth c H locs 0 0 (MQ below (va_Qv (fun σ2 : zS => σ2 = σ0) (zAt D cy T ad (zA T ad s.heap.size)) (zA T ad s.heap.size)) args s 0 0 (zA T ad s.heap.size)) (F0 m 43 ls []) := by
      intro s8 H locs ls hq hB hl
      unfold f_X9_takeNumber_J43 at hq
      refine lv_iload_n hx hb dX9_takeNumber_43 rfl (lv_at hl 2 rfl) ?_
      refine zz_cases hq (fun hc hq => ?_) (fun hc hq => ?_)
      · refine lv_tableOut (tgt := 105) hx hb dX9_takeNumber_44 (zz_tabO hc (by decide) (by decide)) (by decide) ?_
        refine lv_aload_n hx hb dX9_takeNumber_105 rfl (lv_at hl 1 rfl) ?_
        refine lv_aload_n hx hb dX9_takeNumber_106 rfl (lv_at hl 0 rfl) ?_
        refine zz_get S hT hB (C := RX9) (ref := "DiagramDesk$Text") (F := TX9) (N := 7) (index := 63) 9 5 iwX9 rfl (by decide) (by decide) rfl rfl (wS wd_316) (fun _ h9 => h9) dX9_takeNumber_107 hq (fun x9 hq => ?_)
        refine zz_put S hT hB (C := RX6) (ref := "DiagramDesk$Shape") (F := TX6) (N := 8) (index := 82) 6 5 iwX6 tyX6 tyX6_ok nmX6 rfl (by decide) (by decide) rfl rfl (wS wd_320) (fun _ h9 => h9) rfl (by decide +kernel) dX9_takeNumber_110 hq (fun s10 H locs hq hB => ?_)
        exact zz_vret S hB hr hlocks dX9_takeNumber_113 hq
      refine zz_cases hq (fun hc1 hq => ?_) (fun hc1 hq => ?_)
      · refine lv_tableIn (off := 28) (tgt := 72) hx hb dX9_takeNumber_44 (by rw [hc1]; decide) (by rw [hc1]; decide) (by rw [hc1]; rfl) (by decide) ?_
        refine lv_aload_n hx hb dX9_takeNumber_72 rfl (lv_at hl 1 rfl) ?_
        refine lv_aload_n hx hb dX9_takeNumber_73 rfl (lv_at hl 0 rfl) ?_
        refine zz_get S hT hB (C := RX9) (ref := "DiagramDesk$Text") (F := TX9) (N := 7) (index := 63) 9 5 iwX9 rfl (by decide) (by decide) rfl rfl (wS wd_316) (fun _ h9 => h9) dX9_takeNumber_74 hq (fun x11 hq => ?_)
        refine zz_put S hT hB (C := RX6) (ref := "DiagramDesk$Shape") (F := TX6) (N := 8) (index := 73) 6 2 iwX6 tyX6 tyX6_ok nmX6 rfl (by decide) (by decide) rfl rfl (wS wd_321) (fun _ h9 => h9) rfl (by decide +kernel) dX9_takeNumber_77 hq (fun s12 H locs hq hB => ?_)
        refine lv_goto (tgt := 113) hx hb dX9_takeNumber_80 (by decide) ?_
        exact zz_vret S hB hr hlocks dX9_takeNumber_113 hq
      refine zz_cases hq (fun hc1 hq => ?_) (fun hc1 hq => ?_)
      · refine lv_tableIn (off := 39) (tgt := 83) hx hb dX9_takeNumber_44 (by rw [hc1]; decide) (by rw [hc1]; decide) (by rw [hc1]; rfl) (by decide) ?_
        refine lv_aload_n hx hb dX9_takeNumber_83 rfl (lv_at hl 1 rfl) ?_
        refine lv_aload_n hx hb dX9_takeNumber_84 rfl (lv_at hl 0 rfl) ?_
        refine zz_get S hT hB (C := RX9) (ref := "DiagramDesk$Text") (F := TX9) (N := 7) (index := 63) 9 5 iwX9 rfl (by decide) (by decide) rfl rfl (wS wd_316) (fun _ h9 => h9) dX9_takeNumber_85 hq (fun x13 hq => ?_)
        refine zz_put S hT hB (C := RX6) (ref := "DiagramDesk$Shape") (F := TX6) (N := 8) (index := 76) 6 3 iwX6 tyX6 tyX6_ok nmX6 rfl (by decide) (by decide) rfl rfl (wS wd_322) (fun _ h9 => h9) rfl (by decide +kernel) dX9_takeNumber_88 hq (fun s14 H locs hq hB => ?_)
        refine lv_goto (tgt := 113) hx hb dX9_takeNumber_91 (by decide) ?_
        exact zz_vret S hB hr hlocks dX9_takeNumber_113 hq
      refine zz_cases hq (fun hc1 hq => ?_) (fun hc1 hq => ?_)
      · refine lv_tableIn (off := 50) (tgt := 94) hx hb dX9_takeNumber_44 (by rw [hc1]; decide) (by rw [hc1]; decide) (by rw [hc1]; rfl) (by decide) ?_
        refine lv_aload_n hx hb dX9_takeNumber_94 rfl (lv_at hl 1 rfl) ?_
        refine lv_aload_n hx hb dX9_takeNumber_95 rfl (lv_at hl 0 rfl) ?_
        refine zz_get S hT hB (C := RX9) (ref := "DiagramDesk$Text") (F := TX9) (N := 7) (index := 63) 9 5 iwX9 rfl (by decide) (by decide) rfl rfl (wS wd_316) (fun _ h9 => h9) dX9_takeNumber_96 hq (fun x15 hq => ?_)
        refine zz_put S hT hB (C := RX6) (ref := "DiagramDesk$Shape") (F := TX6) (N := 8) (index := 79) 6 4 iwX6 tyX6 tyX6_ok nmX6 rfl (by decide) (by decide) rfl rfl (wS wd_323) (fun _ h9 => h9) rfl (by decide +kernel) dX9_takeNumber_99 hq (fun s16 H locs hq hB => ?_)
        refine lv_goto (tgt := 113) hx hb dX9_takeNumber_102 (by decide) ?_
        exact zz_vret S hB hr hlocks dX9_takeNumber_113 hq
      exact zz_none hq
    refine zz_if_ne (tgt := 43) hx hb dX9_takeNumber_26 (by decide) hq (fun hq => ?_) (fun hq => ?_)
    · exact J43 s7 _ _ _ hq hB (lv_sub hl [1, 2, 3] rfl)
    · refine lv_aload_n hx hb dX9_takeNumber_29 rfl (lv_at hl 1 rfl) ?_
      refine zz_get S hT hB (C := RX9) (ref := "DiagramDesk$Text") (F := TX9) (N := 7) (index := 33) 9 6 iwX9 rfl (by decide) (by decide) rfl rfl (wS wd_319) (fun _ h9 => h9) dX9_takeNumber_30 hq (fun x17 hq => ?_)
      refine lv_ldc (v := -1000000) hx hb hown (hts _ (wS wd_310)) dX9_takeNumber_33 ?_
      refine zz_icmp_ne (tgt := 43) hx hb dX9_takeNumber_35 (by decide) hq (fun hq => ?_) (fun hq => ?_)
      · exact J43 s7 _ _ _ hq hB (lv_sub hl [1, 2, 3] rfl)
      · refine lv_aload_n hx hb dX9_takeNumber_38 rfl (lv_at hl 1 rfl) ?_
        refine lv_iload_n hx hb dX9_takeNumber_39 rfl (lv_at hl 4 rfl) ?_
        refine zz_put S hT hB (C := RX9) (ref := "DiagramDesk$Text") (F := TX9) (N := 7) (index := 33) 9 6 iwX9 tyX9 tyX9_ok nmX9 rfl (by decide) (by decide) rfl rfl (wS wd_319) (fun _ h9 => h9) rfl (by decide +kernel) dX9_takeNumber_40 hq (fun s18 H locs hq hB => ?_)
        exact J43 s18 _ _ _ hq hB (lv_sub hl [1, 2, 3] rfl)
  refine zz_icmp_ge (tgt := 15) hx hb dX9_takeNumber_2 (by decide) hq (fun hq => ?_) (fun hq => ?_)
  · refine lv_aload_n hx hb dX9_takeNumber_15 rfl (lv_at hl 0 rfl) ?_
    refine zz_get S hT hB (C := RX9) (ref := "DiagramDesk$Text") (F := TX9) (N := 7) (index := 63) 9 5 iwX9 rfl (by decide) (by decide) rfl rfl (wS wd_316) (fun _ h9 => h9) dX9_takeNumber_16 hq (fun x19 hq => ?_)
    refine zz_callNi S hT hB (As := [.int x19]) (o := f_X11_isSize T N s0 x19) (c_X11_isSize l D cy T hT ad N s0 _ x19) ⟨va_cnB (host := "DiagramDesk") 1 hts (gN wSub wd_317) rfl rfl rfl (zN_at hN 18 rfl) (hts _ (wS wd_102)) (by decide +kernel) ⟨Nat.le_of_ble_eq_true rfl, Nat.le_of_ble_eq_true rfl⟩, hts _ (wS wd_318), trivial⟩ rfl hl.1 rfl (Nat.le_of_ble_eq_true rfl) dX9_takeNumber_19 hq (fun x21 s20 H locs hq hB => ?_)
    exact J22 x21 s20 _ _ _ hq hB (lv_sub hl [0, 1, 2, 3] rfl)
  · refine lv_aload_n hx hb dX9_takeNumber_5 rfl (lv_at hl 0 rfl) ?_
    refine zz_get S hT hB (C := RX9) (ref := "DiagramDesk$Text") (F := TX9) (N := 7) (index := 63) 9 5 iwX9 rfl (by decide) (by decide) rfl rfl (wS wd_316) (fun _ h9 => h9) dX9_takeNumber_6 hq (fun x22 hq => ?_)
    refine zz_callNi S hT hB (As := [.int x22]) (o := f_X11_isCoordinate T N s0 x22) (c_X11_isCoordinate l D cy T hT ad N s0 _ x22) ⟨va_cnB (host := "DiagramDesk") 1 hts (gN wSub wd_254) rfl rfl rfl (zN_at hN 17 rfl) (hts _ (wS wd_102)) (by decide +kernel) ⟨Nat.le_of_ble_eq_true rfl, Nat.le_of_ble_eq_true rfl⟩, hts _ (wS wd_255), trivial⟩ rfl hl.1 rfl (Nat.le_of_ble_eq_true rfl) dX9_takeNumber_9 hq (fun x24 s23 H locs hq hB => ?_)
    refine lv_goto (tgt := 22) hx hb dX9_takeNumber_12 (by decide) ?_
    exact J22 x24 s23 _ _ _ hq hB (lv_sub hl [0, 1, 2, 3] rfl)
def f_X9_parseShape_J64 (T : zT) (N : Nat) (a0 : Nat) (a1 : Nat) (x12 : Int32) (k34 : Int32 → zS → Option (Int32 × zS)) (s14 : zS) : Option (Int32 × zS) :=
  (gI T s14 a0 9 4).bind fun x15 =>
  zb2 (f_X9_parseNumber T N s14 a0) fun x17 s16 =>
  if ¬ x17 = 0 then (
    (f_X9_takeNumber T N s16 a0 a1 x12 x15).bind fun s18 =>
    zn (x12 + (1 : Int32)) fun x19 =>
    k34 x19 s18)
  else (
    rZ (0 : Int32) s16)
def f_X9_parseShape_L34 (T : zT) (N : Nat) (a0 : Nat) (a1 : Nat) (k34 : Int32 → zS → Option (Int32 × zS)) (x12 : Int32) (s13 : zS) : Option (Int32 × zS) :=
  if (4 : Int32) ≤ x12 then (
    rZ (1 : Int32) s13)
  else (
    if x12 ≤ 0 then (
      f_X9_parseShape_J64 T N a0 a1 x12 k34 s13)
    else (
      zb2 (f_X9_code T N s13 a0) fun x21 s20 =>
      if x21 = (44 : Int32) then (
        (gI T s20 a0 9 4).bind fun x22 =>
        (pI T s20 a0 9 4 (x22 + (1 : Int32))).bind fun s23 =>
        f_X9_parseShape_J64 T N a0 a1 x12 k34 s23)
      else (
        rZ (0 : Int32) s20)))
def f_X9_parseShape (T : zT) (N : Nat) (s0 : zS) (a0 : Nat) (a1 : Nat) : Option (Int32 × zS) :=
  zz1 (T.1 a0 = 9) <|
  zb2 (f_X9_code T N s0 a0) fun x5 s4 =>
  zb2 (f_X9_kindOf T N s4 x5) fun x7 s6 =>
  (pI T s6 a1 6 1 x7).bind fun s8 =>
  (gI T s8 a1 6 1).bind fun x9 =>
  if ¬ x9 = (-1000000 : Int32) then (
    (gI T s8 a0 9 4).bind fun x10 =>
    (pI T s8 a0 9 4 (x10 + (1 : Int32))).bind fun s11 =>
    zl2 (f_X9_parseShape_L34 T N a0 a1) N (0 : Int32) s11)
  else (
    rZ (0 : Int32) s8)
theorem k_X9_parseShape (T : zT) (N : Nat) (s0 : zS) (a0 : Nat) (a1 : Nat) : ∀ q, f_X9_parseShape T N s0 a0 a1 = some q → T.1 a0 = 9 := by
  intro q h
  unfold f_X9_parseShape at h
  exact zz_guard h (fun h _ => h)
set_option maxHeartbeats 4000000 in
set_option maxRecDepth 100000 in
theorem c_X9_parseShape (l : Launch) (D : va_G) (cy : Nat → ClassId) (T : zT) (hT : zok T) (ad : Nat → Nat) (N : Nat) (s0 : zS) (sz : Nat) (a0 : Nat) (a1 : Nat) : ∀ (r0 : Int32) (σ0 : zS), f_X9_parseShape T N s0 a0 a1 = some (r0, σ0) → Met l yX9_parseShape wsX9_parseShape ({ frames := 3, cells := 0, slots := 0, locals := 66 }) (va_Pc [.ref (ad a0), .ref (ad a1)] (zPre D cy T ad s0 sz)) (va_Qi (fun (r2 : Int32) (σ2 : zS) => r2 = r0 ∧ σ2 = σ0) (zAt D cy T ad (zA T ad sz)) (zA T ad sz)) 0 0 (zA T ad sz) := by
  intro r0 σ0 hq
  refine Met.ofW (cc := cX9_parseShape) (maxL := 4) (ret := (some .boolean)) (by decide) rfl ?_
  intro p e s m args below meth c s₁ B hml hv
  obtain ⟨hargs, hsz, hP, hK, hD0, hN⟩ := hv
  have hx := B.exec
  have hb := B.bytes
  have hr := B.returns
  have hts := atoms_spec (ws := wsX9_parseShape) B.pre
  have hown : s.vm.findClass RX9 = some m.cls := findClass_of_methodNamed B.named
  have hlocks := B.notSynchronized
  have S : CallFix p m c cX9_parseShape 4 s args wsX9_parseShape RX9 := ⟨hx, hb, hml, hown, hts⟩
  subst hsz
  have hB : zB D cy T ad (zA T ad s.heap.size) s.heap s0 s.heap [] s := zz_entry hP hK hD0 hN
  obtain ⟨ls, hent, hl⟩ := zz_ent m hargs (n := 4) (Nat.le_of_ble_eq_true rfl)
  rw [hent]
  have hl : lv_has ls 4 [(0, .ref (ad a0)), (1, .ref (ad a1))] := hl
  have iwX6 : ∀ w ∈ u_ws RX6 TX6 8, w ∈ wsX9_parseShape := fun w h => wS (inWX6 w h)
  have iwX9 : ∀ w ∈ u_ws RX9 TX9 7, w ∈ wsX9_parseShape := fun w h => wS (inWX9 w h)
  unfold f_X9_parseShape at hq
  refine zz_guard hq (fun hk0 hq => ?_)
  refine lv_aload_n hx hb dX9_parseShape_0 rfl (lv_at hl 1 rfl) ?_
  refine lv_aload_n hx hb dX9_parseShape_1 rfl (lv_at hl 0 rfl) ?_
  refine zz_callVi S hT hB (As := []) (b := a0) (o := f_X9_code T N s0 a0) (c_X9_code l D cy T hT ad N s0 _ a0) (cwV 0 hts (gV wSub wd_311 wd_312 wd_313 wd_314 wd_315) rfl rfl rfl (by decide +kernel) ⟨Nat.le_of_ble_eq_true rfl, Nat.le_of_ble_eq_true rfl⟩) (F := TX9) (NF := 7) 9 rfl (by decide) (k_X9_code T N s0 a0) rfl hl.1 rfl (Nat.le_of_ble_eq_true rfl) dX9_parseShape_2 hq (fun x5 s4 H locs hq hB => ?_)
  refine zz_callSi S hT hB (As := [.int x5]) (o := f_X9_kindOf T N s4 x5) (c_X9_kindOf l D cy T hT ad N s4 _ x5) (va_cwS 1 hts (gS wSub wd_324 wd_325 wd_314 wd_326) rfl rfl rfl (by decide +kernel) ⟨Nat.le_of_ble_eq_true rfl, Nat.le_of_ble_eq_true rfl⟩) rfl hl.1 rfl (Nat.le_of_ble_eq_true rfl) dX9_parseShape_5 hq (fun x7 s6 H locs hq hB => ?_)
  refine zz_put S hT hB (C := RX6) (ref := "DiagramDesk$Shape") (F := TX6) (N := 8) (index := 48) 6 1 iwX6 tyX6 tyX6_ok nmX6 rfl (by decide) (by decide) rfl rfl (wS wd_327) (fun _ h9 => h9) rfl (by decide +kernel) dX9_parseShape_8 hq (fun s8 H locs hq hB => ?_)
  refine lv_aload_n hx hb dX9_parseShape_11 rfl (lv_at hl 1 rfl) ?_
  refine zz_get S hT hB (C := RX6) (ref := "DiagramDesk$Shape") (F := TX6) (N := 8) (index := 48) 6 1 iwX6 rfl (by decide) (by decide) rfl rfl (wS wd_327) (fun _ h9 => h9) dX9_parseShape_12 hq (fun x9 hq => ?_)
  refine lv_ldc (v := -1000000) hx hb hown (hts _ (wS wd_310)) dX9_parseShape_15 ?_
  refine zz_icmp_ne (tgt := 22) hx hb dX9_parseShape_17 (by decide) hq (fun hq => ?_) (fun hq => ?_)
  · refine lv_aload_n hx hb dX9_parseShape_22 rfl (lv_at hl 0 rfl) ?_
    refine lv_dup hx hb dX9_parseShape_23 rfl ?_
    refine zz_get S hT hB (C := RX9) (ref := "DiagramDesk$Text") (F := TX9) (N := 7) (index := 26) 9 4 iwX9 rfl (by decide) (by decide) rfl rfl (wS wd_309) (fun _ h9 => h9) dX9_parseShape_24 hq (fun x10 hq => ?_)
    refine lv_iconst (v := 1) hx hb dX9_parseShape_27 (by decide) ?_
    refine lv_iadd hx hb dX9_parseShape_28 ?_
    refine zz_put S hT hB (C := RX9) (ref := "DiagramDesk$Text") (F := TX9) (N := 7) (index := 26) 9 4 iwX9 tyX9 tyX9_ok nmX9 rfl (by decide) (by decide) rfl rfl (wS wd_309) (fun _ h9 => h9) rfl (by decide +kernel) dX9_parseShape_29 hq (fun s11 H locs hq hB => ?_)
    refine lv_iconst (v := 0) hx hb dX9_parseShape_32 (by decide) ?_
    refine lv_istore_n (lv' := [(2, .int (0 : Int32)), (0, .ref (ad a0)), (1, .ref (ad a1))]) hx hb dX9_parseShape_33 rfl hl (by decide) rfl (fun ls hl => ?_)
    have L34 : ∀ (n : Nat) (x12 : Int32) (s13 : zS) (H : Heap) (locs : List Loc) (ls : Array Slot), zl2 (f_X9_parseShape_L34 T N a0 a1) n x12 s13 = some (r0, σ0) → zB D cy T ad (zA T ad s.heap.size) s.heap s13 H locs s → lv_has ls 4 [(0, .ref (ad a0)), (1, .ref (ad a1)), (2, .int x12)] → W p l e (headSpec wsX9_parseShape ({ frames := 3, cells := 0, slots := 0, locals := 66 } : Room)).room s m args below meth c H locs 0 0 (MQ below (va_Qi (fun (r2 : Int32) (σ2 : zS) => r2 = r0 ∧ σ2 = σ0) (zAt D cy T ad (zA T ad s.heap.size)) (zA T ad s.heap.size)) args s 0 0 (zA T ad s.heap.size)) (F0 m 34 ls []) := by
      intro n
      induction n with
      | zero => intro x12 s13 H locs ls hq; exact zz_none hq
      | succ n ih34 =>
        intro x12 s13 H locs ls hq hB hl
        rw [zl2] at hq
        generalize zl2 (f_X9_parseShape_L34 T N a0 a1) n = k34 at ih34 hq
        unfold f_X9_parseShape_L34 at hq
        refine lv_iload_n hx hb dX9_parseShape_34 rfl (lv_at hl 2 rfl) ?_
        refine lv_iconst (v := 4) hx hb dX9_parseShape_35 (by decide) ?_
        refine zz_icmp_ge (tgt := 91) hx hb dX9_parseShape_36 (by decide) hq (fun hq => ?_) (fun hq => ?_)
        · refine lv_iconst (v := 1) hx hb dX9_parseShape_91 (by decide) ?_
          exact zz_zret S hB hr hlocks dX9_parseShape_92 hq
        · refine lv_iload_n hx hb dX9_parseShape_39 rfl (lv_at hl 2 rfl) ?_
          have J64 : ∀ (s14 : zS) (H : Heap) (locs : List Loc) (ls : Array Slot), f_X9_parseShape_J64 T N a0 a1 x12 k34 s14 = some (r0, σ0) → zB D cy T ad (zA T ad s.heap.size) s.heap s14 H locs s → lv_has ls 4 [(0, .ref (ad a0)), (1, .ref (ad a1)), (2, .int x12)] → W p l e (headSpec wsX9_parseShape ({ frames := 3, cells := 0, slots := 0, locals := 66 } : Room)).room s m args below meth c H locs 0 0 (MQ below (va_Qi (fun (r2 : Int32) (σ2 : zS) => r2 = r0 ∧ σ2 = σ0) (zAt D cy T ad (zA T ad s.heap.size)) (zA T ad s.heap.size)) args s 0 0 (zA T ad s.heap.size)) (F0 m 64 ls []) := by
            intro s14 H locs ls hq hB hl
            unfold f_X9_parseShape_J64 at hq
            refine lv_aload_n hx hb dX9_parseShape_64 rfl (lv_at hl 0 rfl) ?_
            refine zz_get S hT hB (C := RX9) (ref := "DiagramDesk$Text") (F := TX9) (N := 7) (index := 26) 9 4 iwX9 rfl (by decide) (by decide) rfl rfl (wS wd_309) (fun _ h9 => h9) dX9_parseShape_65 hq (fun x15 hq => ?_)
            refine lv_istore_n (lv' := [(3, .int x15), (0, .ref (ad a0)), (1, .ref (ad a1)), (2, .int x12)]) hx hb dX9_parseShape_68 rfl hl (by decide) rfl (fun ls hl => ?_)
            refine lv_aload_n hx hb dX9_parseShape_69 rfl (lv_at hl 1 rfl) ?_
            refine zz_callVi S hT hB (As := []) (b := a0) (o := f_X9_parseNumber T N s14 a0) (c_X9_parseNumber l D cy T hT ad N s14 _ a0) (cwV 0 hts (gV wSub wd_328 wd_329 wd_330 wd_314 wd_331) rfl rfl rfl (by decide +kernel) ⟨Nat.le_of_ble_eq_true rfl, Nat.le_of_ble_eq_true rfl⟩) (F := TX9) (NF := 7) 9 rfl (by decide) (k_X9_parseNumber T N s14 a0) rfl hl.1 rfl (Nat.le_of_ble_eq_true rfl) dX9_parseShape_70 hq (fun x17 s16 H locs hq hB => ?_)
            refine zz_if_ne (tgt := 78) hx hb dX9_parseShape_73 (by decide) hq (fun hq => ?_) (fun hq => ?_)
            · refine lv_aload_n hx hb dX9_parseShape_78 rfl (lv_at hl 1 rfl) ?_
              refine lv_aload_n hx hb dX9_parseShape_79 rfl (lv_at hl 2 rfl) ?_
              refine lv_iload_n hx hb dX9_parseShape_80 rfl (lv_at hl 3 rfl) ?_
              refine lv_iload_n hx hb dX9_parseShape_81 rfl (lv_at hl 0 rfl) ?_
              refine zz_callVv S hT hB (As := [.ref (ad a1), .int x12, .int x15]) (b := a0) (o := f_X9_takeNumber T N s16 a0 a1 x12 x15) (c_X9_takeNumber l D cy T hT ad N s16 _ a0 a1 x12 x15) (cwV 3 hts (gV wSub wd_332 wd_333 wd_334 wd_314 wd_335) rfl rfl rfl (by decide +kernel) ⟨Nat.le_of_ble_eq_true rfl, Nat.le_of_ble_eq_true rfl⟩) (F := TX9) (NF := 7) 9 rfl (by decide) (k_X9_takeNumber T N s16 a0 a1 x12 x15) rfl hl.1 rfl (Nat.le_of_ble_eq_true rfl) dX9_parseShape_82 hq (fun s18 H locs hq hB => ?_)
              refine zz_nmV hq (fun x19 ex19 hq => ?_)
              refine lv_iinc (v := x19) (lv' := [(2, .int x19), (3, .int x15), (0, .ref (ad a0)), (1, .ref (ad a1))]) hx hb dX9_parseShape_85 hl (k := 3) rfl (by rw [ex19]; rfl) (by decide) rfl (fun ls hl => ?_)
              refine lv_goto (tgt := 34) hx hb dX9_parseShape_88 (by decide) ?_
              exact ih34 x19 s18 _ _ _ hq hB (lv_sub hl [2, 3, 0] rfl)
            · refine lv_iconst (v := 0) hx hb dX9_parseShape_76 (by decide) ?_
              exact zz_zret S hB hr hlocks dX9_parseShape_77 hq
          refine zz_if_le (tgt := 64) hx hb dX9_parseShape_40 (by decide) hq (fun hq => ?_) (fun hq => ?_)
          · exact J64 s13 _ _ _ hq hB (lv_sub hl [0, 1, 2] rfl)
          · refine lv_aload_n hx hb dX9_parseShape_43 rfl (lv_at hl 0 rfl) ?_
            refine zz_callVi S hT hB (As := []) (b := a0) (o := f_X9_code T N s13 a0) (c_X9_code l D cy T hT ad N s13 _ a0) (cwV 0 hts (gV wSub wd_311 wd_312 wd_313 wd_314 wd_315) rfl rfl rfl (by decide +kernel) ⟨Nat.le_of_ble_eq_true rfl, Nat.le_of_ble_eq_true rfl⟩) (F := TX9) (NF := 7) 9 rfl (by decide) (k_X9_code T N s13 a0) rfl hl.1 rfl (Nat.le_of_ble_eq_true rfl) dX9_parseShape_44 hq (fun x21 s20 H locs hq hB => ?_)
            refine lv_bipush (v := 44) hx hb dX9_parseShape_47 (by decide) ?_
            refine zz_icmp_eq (tgt := 54) hx hb dX9_parseShape_49 (by decide) hq (fun hq => ?_) (fun hq => ?_)
            · refine lv_aload_n hx hb dX9_parseShape_54 rfl (lv_at hl 0 rfl) ?_
              refine lv_dup hx hb dX9_parseShape_55 rfl ?_
              refine zz_get S hT hB (C := RX9) (ref := "DiagramDesk$Text") (F := TX9) (N := 7) (index := 26) 9 4 iwX9 rfl (by decide) (by decide) rfl rfl (wS wd_309) (fun _ h9 => h9) dX9_parseShape_56 hq (fun x22 hq => ?_)
              refine lv_iconst (v := 1) hx hb dX9_parseShape_59 (by decide) ?_
              refine lv_iadd hx hb dX9_parseShape_60 ?_
              refine zz_put S hT hB (C := RX9) (ref := "DiagramDesk$Text") (F := TX9) (N := 7) (index := 26) 9 4 iwX9 tyX9 tyX9_ok nmX9 rfl (by decide) (by decide) rfl rfl (wS wd_309) (fun _ h9 => h9) rfl (by decide +kernel) dX9_parseShape_61 hq (fun s23 H locs hq hB => ?_)
              exact J64 s23 _ _ _ hq hB (lv_sub hl [0, 1, 2] rfl)
            · refine lv_iconst (v := 0) hx hb dX9_parseShape_52 (by decide) ?_
              exact zz_zret S hB hr hlocks dX9_parseShape_53 hq
    exact L34 N (0 : Int32) s11 _ _ _ hq hB (lv_sub hl [1, 2, 0] rfl)
  · refine lv_iconst (v := 0) hx hb dX9_parseShape_20 (by decide) ?_
    exact zz_zret S hB hr hlocks dX9_parseShape_21 hq
def f_X9_parse_L18 (T : zT) (N : Nat) (a0 : Nat) (k18 : Int32 → zS → Option (Int32 × zS)) (x6 : Int32) (s7 : zS) : Option (Int32 × zS) :=
  (gR T s7 a0 9 1).bind fun a8 =>
  (aL T a8 17).bind fun x9 =>
  if x9 ≤ x6 then (
    (gI T s7 a0 9 4).bind fun x10 =>
    some (x10, s7))
  else (
    (gR T s7 a0 9 1).bind fun a11 =>
    (aR T s7 a11 17 x6).bind fun a12 =>
    zb2 (f_X9_parseShape T N s7 a0 a12) fun x14 s13 =>
    if ¬ x14 = 0 then (
      (gI T s13 a0 9 3).bind fun x15 =>
      (pI T s13 a0 9 3 (x15 + (1 : Int32))).bind fun s16 =>
      (gI T s16 a0 9 4).bind fun x17 =>
      (gI T s16 a0 9 2).bind fun x18 =>
      if x17 < x18 then (
        zb2 (f_X9_code T N s16 a0) fun x20 s19 =>
        if x20 = (59 : Int32) then (
          (gI T s19 a0 9 4).bind fun x21 =>
          (pI T s19 a0 9 4 (x21 + (1 : Int32))).bind fun s22 =>
          zn (x6 + (1 : Int32)) fun x23 =>
          k18 x23 s22)
        else (
          (gI T s19 a0 9 4).bind fun x24 =>
          some (x24, s19)))
      else (
        (gI T s16 a0 9 6).bind fun x25 =>
        some (x25, s16)))
    else (
      (gI T s13 a0 9 4).bind fun x26 =>
      some (x26, s13)))
def f_X9_parse (T : zT) (N : Nat) (s0 : zS) (a0 : Nat) : Option (Int32 × zS) :=
  zz1 (T.1 a0 = 9) <|
  (pI T s0 a0 9 4 (0 : Int32)).bind fun s3 =>
  (pI T s3 a0 9 3 (0 : Int32)).bind fun s4 =>
  (pI T s4 a0 9 6 (-1000000 : Int32)).bind fun s5 =>
  zl2 (f_X9_parse_L18 T N a0) N (0 : Int32) s5
theorem k_X9_parse (T : zT) (N : Nat) (s0 : zS) (a0 : Nat) : ∀ q, f_X9_parse T N s0 a0 = some q → T.1 a0 = 9 := by
  intro q h
  unfold f_X9_parse at h
  exact zz_guard h (fun h _ => h)
set_option maxHeartbeats 4000000 in
set_option maxRecDepth 100000 in
theorem c_X9_parse (l : Launch) (D : va_G) (cy : Nat → ClassId) (T : zT) (hT : zok T) (ad : Nat → Nat) (N : Nat) (s0 : zS) (sz : Nat) (a0 : Nat) : ∀ (r0 : Int32) (σ0 : zS), f_X9_parse T N s0 a0 = some (r0, σ0) → Met l yX9_parse wsX9_parse ({ frames := 4, cells := 0, slots := 0, locals := 89 }) (va_Pc [.ref (ad a0)] (zPre D cy T ad s0 sz)) (va_Qi (fun (r2 : Int32) (σ2 : zS) => r2 = r0 ∧ σ2 = σ0) (zAt D cy T ad (zA T ad sz)) (zA T ad sz)) 0 0 (zA T ad sz) := by
  intro r0 σ0 hq
  refine Met.ofW (cc := cX9_parse) (maxL := 3) (ret := (some .int)) (by decide) rfl ?_
  intro p e s m args below meth c s₁ B hml hv
  obtain ⟨hargs, hsz, hP, hK, hD0, hN⟩ := hv
  have hx := B.exec
  have hb := B.bytes
  have hr := B.returns
  have hts := atoms_spec (ws := wsX9_parse) B.pre
  have hown : s.vm.findClass RX9 = some m.cls := findClass_of_methodNamed B.named
  have hlocks := B.notSynchronized
  have S : CallFix p m c cX9_parse 3 s args wsX9_parse RX9 := ⟨hx, hb, hml, hown, hts⟩
  subst hsz
  have hB : zB D cy T ad (zA T ad s.heap.size) s.heap s0 s.heap [] s := zz_entry hP hK hD0 hN
  obtain ⟨ls, hent, hl⟩ := zz_ent m hargs (n := 3) (Nat.le_of_ble_eq_true rfl)
  rw [hent]
  have hl : lv_has ls 3 [(0, .ref (ad a0))] := hl
  have iwX9 : ∀ w ∈ u_ws RX9 TX9 7, w ∈ wsX9_parse := fun w h => wS (inWX9 w h)
  unfold f_X9_parse at hq
  refine zz_guard hq (fun hk0 hq => ?_)
  refine lv_aload_n hx hb dX9_parse_0 rfl (lv_at hl 0 rfl) ?_
  refine lv_iconst (v := 0) hx hb dX9_parse_1 (by decide) ?_
  refine zz_put S hT hB (C := RX9) (ref := "DiagramDesk$Text") (F := TX9) (N := 7) (index := 26) 9 4 iwX9 tyX9 tyX9_ok nmX9 rfl (by decide) (by decide) rfl rfl (wS wd_309) (fun _ h9 => h9) rfl (by decide +kernel) dX9_parse_2 hq (fun s3 H locs hq hB => ?_)
  refine lv_aload_n hx hb dX9_parse_5 rfl (lv_at hl 0 rfl) ?_
  refine lv_iconst (v := 0) hx hb dX9_parse_6 (by decide) ?_
  refine zz_put S hT hB (C := RX9) (ref := "DiagramDesk$Text") (F := TX9) (N := 7) (index := 30) 9 3 iwX9 tyX9 tyX9_ok nmX9 rfl (by decide) (by decide) rfl rfl (wS wd_336) (fun _ h9 => h9) rfl (by decide +kernel) dX9_parse_7 hq (fun s4 H locs hq hB => ?_)
  refine lv_aload_n hx hb dX9_parse_10 rfl (lv_at hl 0 rfl) ?_
  refine lv_ldc (v := -1000000) hx hb hown (hts _ (wS wd_310)) dX9_parse_11 ?_
  refine zz_put S hT hB (C := RX9) (ref := "DiagramDesk$Text") (F := TX9) (N := 7) (index := 33) 9 6 iwX9 tyX9 tyX9_ok nmX9 rfl (by decide) (by decide) rfl rfl (wS wd_319) (fun _ h9 => h9) rfl (by decide +kernel) dX9_parse_13 hq (fun s5 H locs hq hB => ?_)
  refine lv_iconst (v := 0) hx hb dX9_parse_16 (by decide) ?_
  refine lv_istore_n (lv' := [(1, .int (0 : Int32)), (0, .ref (ad a0))]) hx hb dX9_parse_17 rfl hl (by decide) rfl (fun ls hl => ?_)
  have L18 : ∀ (n : Nat) (x6 : Int32) (s7 : zS) (H : Heap) (locs : List Loc) (ls : Array Slot), zl2 (f_X9_parse_L18 T N a0) n x6 s7 = some (r0, σ0) → zB D cy T ad (zA T ad s.heap.size) s.heap s7 H locs s → lv_has ls 3 [(0, .ref (ad a0)), (1, .int x6)] → W p l e (headSpec wsX9_parse ({ frames := 4, cells := 0, slots := 0, locals := 89 } : Room)).room s m args below meth c H locs 0 0 (MQ below (va_Qi (fun (r2 : Int32) (σ2 : zS) => r2 = r0 ∧ σ2 = σ0) (zAt D cy T ad (zA T ad s.heap.size)) (zA T ad s.heap.size)) args s 0 0 (zA T ad s.heap.size)) (F0 m 18 ls []) := by
    intro n
    induction n with
    | zero => intro x6 s7 H locs ls hq; exact zz_none hq
    | succ n ih18 =>
      intro x6 s7 H locs ls hq hB hl
      rw [zl2] at hq
      generalize zl2 (f_X9_parse_L18 T N a0) n = k18 at ih18 hq
      unfold f_X9_parse_L18 at hq
      refine lv_iload_n hx hb dX9_parse_18 rfl (lv_at hl 1 rfl) ?_
      refine lv_aload_n hx hb dX9_parse_19 rfl (lv_at hl 0 rfl) ?_
      refine zz_getR S hT hB (C := RX9) (ref := "DiagramDesk$Text") (F := TX9) (N := 7) (index := 17) 9 1 iwX9 rfl (by decide) (by decide) rfl rfl (wS wd_308) (fun _ h9 => h9) dX9_parse_20 hq (fun a8 hq => ?_)
      refine zz_alen S hT hB 17 (by decide) (by decide) dX9_parse_23 hq (fun x9 hq => ?_)
      refine zz_icmp_ge (tgt := 107) hx hb dX9_parse_24 (by decide) hq (fun hq => ?_) (fun hq => ?_)
      · refine lv_aload_n hx hb dX9_parse_107 rfl (lv_at hl 0 rfl) ?_
        refine zz_get S hT hB (C := RX9) (ref := "DiagramDesk$Text") (F := TX9) (N := 7) (index := 26) 9 4 iwX9 rfl (by decide) (by decide) rfl rfl (wS wd_309) (fun _ h9 => h9) dX9_parse_108 hq (fun x10 hq => ?_)
        exact zz_iret S hB hr hlocks dX9_parse_111 hq
      · refine lv_aload_n hx hb dX9_parse_27 rfl (lv_at hl 0 rfl) ?_
        refine zz_getR S hT hB (C := RX9) (ref := "DiagramDesk$Text") (F := TX9) (N := 7) (index := 17) 9 1 iwX9 rfl (by decide) (by decide) rfl rfl (wS wd_308) (fun _ h9 => h9) dX9_parse_28 hq (fun a11 hq => ?_)
        refine lv_iload_n hx hb dX9_parse_31 rfl (lv_at hl 1 rfl) ?_
        refine zz_aldR S hT hB 17 4 rfl (by decide) (by decide) dX9_parse_32 hq (fun a12 hq => ?_)
        refine lv_astore_n (lv' := [(2, .ref (ad a12)), (0, .ref (ad a0)), (1, .int x6)]) hx hb dX9_parse_33 rfl hl (by decide) rfl (fun ls hl => ?_)
        refine lv_aload_n hx hb dX9_parse_34 rfl (lv_at hl 0 rfl) ?_
        refine lv_ifnull hx hb dX9_parse_35 ?_
        refine lv_aload_n hx hb dX9_parse_38 rfl (lv_at hl 1 rfl) ?_
        refine lv_aload_n hx hb dX9_parse_39 rfl (lv_at hl 0 rfl) ?_
        refine zz_callVi S hT hB (As := [.ref (ad a12)]) (b := a0) (o := f_X9_parseShape T N s7 a0 a12) (c_X9_parseShape l D cy T hT ad N s7 _ a0 a12) (cwV 1 hts (gV wSub wd_337 wd_338 wd_339 wd_314 wd_340) rfl rfl rfl (by decide +kernel) ⟨Nat.le_of_ble_eq_true rfl, Nat.le_of_ble_eq_true rfl⟩) (F := TX9) (NF := 7) 9 rfl (by decide) (k_X9_parseShape T N s7 a0 a12) rfl hl.1 rfl (Nat.le_of_ble_eq_true rfl) dX9_parse_40 hq (fun x14 s13 H locs hq hB => ?_)
        refine zz_if_ne (tgt := 51) hx hb dX9_parse_43 (by decide) hq (fun hq => ?_) (fun hq => ?_)
        · refine lv_aload_n hx hb dX9_parse_51 rfl (lv_at hl 1 rfl) ?_
          refine lv_dup hx hb dX9_parse_52 rfl ?_
          refine zz_get S hT hB (C := RX9) (ref := "DiagramDesk$Text") (F := TX9) (N := 7) (index := 30) 9 3 iwX9 rfl (by decide) (by decide) rfl rfl (wS wd_336) (fun _ h9 => h9) dX9_parse_53 hq (fun x15 hq => ?_)
          refine lv_iconst (v := 1) hx hb dX9_parse_56 (by decide) ?_
          refine lv_iadd hx hb dX9_parse_57 ?_
          refine zz_put S hT hB (C := RX9) (ref := "DiagramDesk$Text") (F := TX9) (N := 7) (index := 30) 9 3 iwX9 tyX9 tyX9_ok nmX9 rfl (by decide) (by decide) rfl rfl (wS wd_336) (fun _ h9 => h9) rfl (by decide +kernel) dX9_parse_58 hq (fun s16 H locs hq hB => ?_)
          refine lv_aload_n hx hb dX9_parse_61 rfl (lv_at hl 1 rfl) ?_
          refine zz_get S hT hB (C := RX9) (ref := "DiagramDesk$Text") (F := TX9) (N := 7) (index := 26) 9 4 iwX9 rfl (by decide) (by decide) rfl rfl (wS wd_309) (fun _ h9 => h9) dX9_parse_62 hq (fun x17 hq => ?_)
          refine lv_aload_n hx hb dX9_parse_65 rfl (lv_at hl 1 rfl) ?_
          refine zz_get S hT hB (C := RX9) (ref := "DiagramDesk$Text") (F := TX9) (N := 7) (index := 22) 9 2 iwX9 rfl (by decide) (by decide) rfl rfl (wS wd_306) (fun _ h9 => h9) dX9_parse_66 hq (fun x18 hq => ?_)
          refine zz_icmp_lt (tgt := 77) hx hb dX9_parse_69 (by decide) hq (fun hq => ?_) (fun hq => ?_)
          · refine lv_aload_n hx hb dX9_parse_77 rfl (lv_at hl 1 rfl) ?_
            refine zz_callVi S hT hB (As := []) (b := a0) (o := f_X9_code T N s16 a0) (c_X9_code l D cy T hT ad N s16 _ a0) (cwV 0 hts (gV wSub wd_311 wd_312 wd_313 wd_314 wd_315) rfl rfl rfl (by decide +kernel) ⟨Nat.le_of_ble_eq_true rfl, Nat.le_of_ble_eq_true rfl⟩) (F := TX9) (NF := 7) 9 rfl (by decide) (k_X9_code T N s16 a0) rfl hl.1 rfl (Nat.le_of_ble_eq_true rfl) dX9_parse_78 hq (fun x20 s19 H locs hq hB => ?_)
            refine lv_bipush (v := 59) hx hb dX9_parse_81 (by decide) ?_
            refine zz_icmp_eq (tgt := 91) hx hb dX9_parse_83 (by decide) hq (fun hq => ?_) (fun hq => ?_)
            · refine lv_aload_n hx hb dX9_parse_91 rfl (lv_at hl 1 rfl) ?_
              refine lv_dup hx hb dX9_parse_92 rfl ?_
              refine zz_get S hT hB (C := RX9) (ref := "DiagramDesk$Text") (F := TX9) (N := 7) (index := 26) 9 4 iwX9 rfl (by decide) (by decide) rfl rfl (wS wd_309) (fun _ h9 => h9) dX9_parse_93 hq (fun x21 hq => ?_)
              refine lv_iconst (v := 1) hx hb dX9_parse_96 (by decide) ?_
              refine lv_iadd hx hb dX9_parse_97 ?_
              refine zz_put S hT hB (C := RX9) (ref := "DiagramDesk$Text") (F := TX9) (N := 7) (index := 26) 9 4 iwX9 tyX9 tyX9_ok nmX9 rfl (by decide) (by decide) rfl rfl (wS wd_309) (fun _ h9 => h9) rfl (by decide +kernel) dX9_parse_98 hq (fun s22 H locs hq hB => ?_)
              refine zz_nmV hq (fun x23 ex23 hq => ?_)
              refine lv_iinc (v := x23) (lv' := [(1, .int x23), (2, .ref (ad a12)), (0, .ref (ad a0))]) hx hb dX9_parse_101 hl (k := 2) rfl (by rw [ex23]; rfl) (by decide) rfl (fun ls hl => ?_)
              refine lv_goto (tgt := 18) hx hb dX9_parse_104 (by decide) ?_
              exact ih18 x23 s22 _ _ _ hq hB (lv_sub hl [2, 0] rfl)
            · refine lv_aload_n hx hb dX9_parse_86 rfl (lv_at hl 1 rfl) ?_
              refine zz_get S hT hB (C := RX9) (ref := "DiagramDesk$Text") (F := TX9) (N := 7) (index := 26) 9 4 iwX9 rfl (by decide) (by decide) rfl rfl (wS wd_309) (fun _ h9 => h9) dX9_parse_87 hq (fun x24 hq => ?_)
              exact zz_iret S hB hr hlocks dX9_parse_90 hq
          · refine lv_aload_n hx hb dX9_parse_72 rfl (lv_at hl 1 rfl) ?_
            refine zz_get S hT hB (C := RX9) (ref := "DiagramDesk$Text") (F := TX9) (N := 7) (index := 33) 9 6 iwX9 rfl (by decide) (by decide) rfl rfl (wS wd_319) (fun _ h9 => h9) dX9_parse_73 hq (fun x25 hq => ?_)
            exact zz_iret S hB hr hlocks dX9_parse_76 hq
        · refine lv_aload_n hx hb dX9_parse_46 rfl (lv_at hl 1 rfl) ?_
          refine zz_get S hT hB (C := RX9) (ref := "DiagramDesk$Text") (F := TX9) (N := 7) (index := 26) 9 4 iwX9 rfl (by decide) (by decide) rfl rfl (wS wd_309) (fun _ h9 => h9) dX9_parse_47 hq (fun x26 hq => ?_)
          exact zz_iret S hB hr hlocks dX9_parse_50 hq
  exact L18 N (0 : Int32) s5 _ _ _ hq hB (lv_sub hl [1, 0] rfl)
def f_X10_add (T : zT) (N : Nat) (s0 : zS) (a0 : Nat) (x1 : Int32) : Option zS :=
  zz1 (T.1 a0 = 10) <|
  (gI T s0 a0 10 2).bind fun x4 =>
  if x4 < 0 then (
    some s0)
  else (
    (gI T s0 a0 10 2).bind fun x5 =>
    (gR T s0 a0 10 0).bind fun a6 =>
    (aL T a6 13).bind fun x7 =>
    if x7 ≤ x5 then (
      some s0)
    else (
      (gR T s0 a0 10 0).bind fun a8 =>
      (gI T s0 a0 10 2).bind fun x9 =>
      (sI T s0 a8 x9 x1).bind fun s10 =>
      (gI T s10 a0 10 2).bind fun x11 =>
      (pI T s10 a0 10 2 (x11 + (1 : Int32))).bind fun s12 =>
      some s12))
theorem k_X10_add (T : zT) (N : Nat) (s0 : zS) (a0 : Nat) (x1 : Int32) : ∀ q, f_X10_add T N s0 a0 x1 = some q → T.1 a0 = 10 := by
  intro q h
  unfold f_X10_add at h
  exact zz_guard h (fun h _ => h)
set_option maxHeartbeats 4000000 in
set_option maxRecDepth 100000 in
theorem c_X10_add (l : Launch) (D : va_G) (cy : Nat → ClassId) (T : zT) (hT : zok T) (ad : Nat → Nat) (N : Nat) (s0 : zS) (sz : Nat) (a0 : Nat) (x1 : Int32) : ∀ (σ0 : zS), f_X10_add T N s0 a0 x1 = some σ0 → Met l yX10_add wsX10_add ({ frames := 0, cells := 0, slots := 0, locals := 0 }) (va_Pc [.ref (ad a0), .int x1] (zPre D cy T ad s0 sz)) (va_Qv (fun σ2 : zS => σ2 = σ0) (zAt D cy T ad (zA T ad sz)) (zA T ad sz)) 0 0 (zA T ad sz) := by
  intro σ0 hq
  refine Met.ofW (cc := cX10_add) (maxL := 2) (ret := none) (by decide) rfl ?_
  intro p e s m args below meth c s₁ B hml hv
  obtain ⟨hargs, hsz, hP, hK, hD0, hN⟩ := hv
  have hx := B.exec
  have hb := B.bytes
  have hr := B.returns
  have hts := atoms_spec (ws := wsX10_add) B.pre
  have hown : s.vm.findClass RX10 = some m.cls := findClass_of_methodNamed B.named
  have hlocks := B.notSynchronized
  have S : CallFix p m c cX10_add 2 s args wsX10_add RX10 := ⟨hx, hb, hml, hown, hts⟩
  subst hsz
  have hB : zB D cy T ad (zA T ad s.heap.size) s.heap s0 s.heap [] s := zz_entry hP hK hD0 hN
  obtain ⟨ls, hent, hl⟩ := zz_ent m hargs (n := 2) (Nat.le_of_ble_eq_true rfl)
  rw [hent]
  have hl : lv_has ls 2 [(0, .ref (ad a0)), (1, .int x1)] := hl
  have iwX10 : ∀ w ∈ u_ws RX10 TX10 3, w ∈ wsX10_add := fun w h => wS (inWX10 w h)
  unfold f_X10_add at hq
  refine zz_guard hq (fun hk0 hq => ?_)
  refine lv_aload_n hx hb dX10_add_0 rfl (lv_at hl 0 rfl) ?_
  refine zz_get S hT hB (C := RX10) (ref := "DiagramDesk$Units") (F := TX10) (N := 3) (index := 18) 10 2 iwX10 rfl (by decide) (by decide) rfl rfl (wS wd_341) (fun _ h9 => h9) dX10_add_1 hq (fun x4 hq => ?_)
  refine zz_if_lt (tgt := 39) hx hb dX10_add_4 (by decide) hq (fun hq => ?_) (fun hq => ?_)
  · exact zz_vret S hB hr hlocks dX10_add_39 hq
  · refine lv_aload_n hx hb dX10_add_7 rfl (lv_at hl 0 rfl) ?_
    refine zz_get S hT hB (C := RX10) (ref := "DiagramDesk$Units") (F := TX10) (N := 3) (index := 18) 10 2 iwX10 rfl (by decide) (by decide) rfl rfl (wS wd_341) (fun _ h9 => h9) dX10_add_8 hq (fun x5 hq => ?_)
    refine lv_aload_n hx hb dX10_add_11 rfl (lv_at hl 0 rfl) ?_
    refine zz_getR S hT hB (C := RX10) (ref := "DiagramDesk$Units") (F := TX10) (N := 3) (index := 9) 10 0 iwX10 rfl (by decide) (by decide) rfl rfl (wS wd_342) (fun _ h9 => h9) dX10_add_12 hq (fun a6 hq => ?_)
    refine zz_alen S hT hB 13 (by decide) (by decide) dX10_add_15 hq (fun x7 hq => ?_)
    refine zz_icmp_ge (tgt := 39) hx hb dX10_add_16 (by decide) hq (fun hq => ?_) (fun hq => ?_)
    · exact zz_vret S hB hr hlocks dX10_add_39 hq
    · refine lv_aload_n hx hb dX10_add_19 rfl (lv_at hl 0 rfl) ?_
      refine zz_getR S hT hB (C := RX10) (ref := "DiagramDesk$Units") (F := TX10) (N := 3) (index := 9) 10 0 iwX10 rfl (by decide) (by decide) rfl rfl (wS wd_342) (fun _ h9 => h9) dX10_add_20 hq (fun a8 hq => ?_)
      refine lv_aload_n hx hb dX10_add_23 rfl (lv_at hl 0 rfl) ?_
      refine zz_get S hT hB (C := RX10) (ref := "DiagramDesk$Units") (F := TX10) (N := 3) (index := 18) 10 2 iwX10 rfl (by decide) (by decide) rfl rfl (wS wd_341) (fun _ h9 => h9) dX10_add_24 hq (fun x9 hq => ?_)
      refine lv_iload_n hx hb dX10_add_27 rfl (lv_at hl 1 rfl) ?_
      refine zz_ast S hT hB dX10_add_28 hq (fun s10 H locs hq hB => ?_)
      refine lv_aload_n hx hb dX10_add_29 rfl (lv_at hl 0 rfl) ?_
      refine lv_dup hx hb dX10_add_30 rfl ?_
      refine zz_get S hT hB (C := RX10) (ref := "DiagramDesk$Units") (F := TX10) (N := 3) (index := 18) 10 2 iwX10 rfl (by decide) (by decide) rfl rfl (wS wd_341) (fun _ h9 => h9) dX10_add_31 hq (fun x11 hq => ?_)
      refine lv_iconst (v := 1) hx hb dX10_add_34 (by decide) ?_
      refine lv_iadd hx hb dX10_add_35 ?_
      refine zz_put S hT hB (C := RX10) (ref := "DiagramDesk$Units") (F := TX10) (N := 3) (index := 18) 10 2 iwX10 tyX10 tyX10_ok nmX10 rfl (by decide) (by decide) rfl rfl (wS wd_341) (fun _ h9 => h9) rfl (by decide +kernel) dX10_add_36 hq (fun s12 H locs hq hB => ?_)
      exact zz_vret S hB hr hlocks dX10_add_39 hq
def f_X10_gather_L9 (T : zT) (N : Nat) (a0 : Nat) (a1 : Nat) (k9 : Int32 → Int32 → zS → Option zS) (x5 : Int32) (x6 : Int32) (s7 : zS) : Option zS :=
  if (20 : Int32) ≤ x6 then (
    some s7)
  else (
    (gR T s7 a1 2 0).bind fun a8 =>
    zb2 (f_X7_find T N s7 a8 x6) fun o10 s9 => zo o10 (
      zn (x6 + (1 : Int32)) fun x12 =>
      k9 x5 x12 s9)
    fun a11 => (
      (gR T s9 a1 2 0).bind fun a13 =>
      (gI T s9 a13 7 2).bind fun x14 =>
      zb2 (f_X11_hasBit T N s9 (x14 &&& (x5 ^^^ (-1 : Int32))) x6) fun x16 s15 =>
      if x16 = 0 then (
        zn (x6 + (1 : Int32)) fun x17 =>
        k9 x5 x17 s15)
      else (
        zb2 (f_X2_unitOf T N s15 a1 x6 a11) fun x19 s18 =>
        zn (x5 ||| x19) fun x20 =>
        (f_X10_add T N s18 a0 x19).bind fun s21 =>
        zn (x6 + (1 : Int32)) fun x22 =>
        k9 x20 x22 s21)))
def f_X10_gather (T : zT) (N : Nat) (s0 : zS) (a0 : Nat) (a1 : Nat) : Option zS :=
  zz1 (T.1 a0 = 10) <|
  (pI T s0 a0 10 2 (0 : Int32)).bind fun s4 =>
  zl3 (f_X10_gather_L9 T N a0 a1) N (0 : Int32) (0 : Int32) s4
theorem k_X10_gather (T : zT) (N : Nat) (s0 : zS) (a0 : Nat) (a1 : Nat) : ∀ q, f_X10_gather T N s0 a0 a1 = some q → T.1 a0 = 10 := by
  intro q h
  unfold f_X10_gather at h
  exact zz_guard h (fun h _ => h)
set_option maxHeartbeats 4000000 in
set_option maxRecDepth 100000 in
theorem c_X10_gather (l : Launch) (D : va_G) (cy : Nat → ClassId) (T : zT) (hT : zok T) (ad : Nat → Nat) (N : Nat) (s0 : zS) (sz : Nat) (a0 : Nat) (a1 : Nat) : ∀ (σ0 : zS), f_X10_gather T N s0 a0 a1 = some σ0 → Met l yX10_gather wsX10_gather ({ frames := 5, cells := 0, slots := 0, locals := 113 }) (va_Pc [.ref (ad a0), .ref (ad a1)] (zPre D cy T ad s0 sz)) (va_Qv (fun σ2 : zS => σ2 = σ0) (zAt D cy T ad (zA T ad sz)) (zA T ad sz)) 0 0 (zA T ad sz) := by
  intro σ0 hq
  refine Met.ofW (cc := cX10_gather) (maxL := 6) (ret := none) (by decide) rfl ?_
  intro p e s m args below meth c s₁ B hml hv
  obtain ⟨hargs, hsz, hP, hK, hD0, hN⟩ := hv
  have hx := B.exec
  have hb := B.bytes
  have hr := B.returns
  have hts := atoms_spec (ws := wsX10_gather) B.pre
  have hown : s.vm.findClass RX10 = some m.cls := findClass_of_methodNamed B.named
  have hlocks := B.notSynchronized
  have S : CallFix p m c cX10_gather 6 s args wsX10_gather RX10 := ⟨hx, hb, hml, hown, hts⟩
  subst hsz
  have hB : zB D cy T ad (zA T ad s.heap.size) s.heap s0 s.heap [] s := zz_entry hP hK hD0 hN
  obtain ⟨ls, hent, hl⟩ := zz_ent m hargs (n := 6) (Nat.le_of_ble_eq_true rfl)
  rw [hent]
  have hl : lv_has ls 6 [(0, .ref (ad a0)), (1, .ref (ad a1))] := hl
  have iwX10 : ∀ w ∈ u_ws RX10 TX10 3, w ∈ wsX10_gather := fun w h => wS (inWX10 w h)
  have iwX2 : ∀ w ∈ u_ws RX2 TX2 4, w ∈ wsX10_gather := fun w h => wS (inWX2 w h)
  have iwX7 : ∀ w ∈ u_ws RX7 TX7 3, w ∈ wsX10_gather := fun w h => wS (inWX7 w h)
  unfold f_X10_gather at hq
  refine zz_guard hq (fun hk0 hq => ?_)
  refine lv_aload_n hx hb dX10_gather_0 rfl (lv_at hl 0 rfl) ?_
  refine lv_iconst (v := 0) hx hb dX10_gather_1 (by decide) ?_
  refine zz_put S hT hB (C := RX10) (ref := "DiagramDesk$Units") (F := TX10) (N := 3) (index := 18) 10 2 iwX10 tyX10 tyX10_ok nmX10 rfl (by decide) (by decide) rfl rfl (wS wd_341) (fun _ h9 => h9) rfl (by decide +kernel) dX10_gather_2 hq (fun s4 H locs hq hB => ?_)
  refine lv_iconst (v := 0) hx hb dX10_gather_5 (by decide) ?_
  refine lv_istore_n (lv' := [(2, .int (0 : Int32)), (0, .ref (ad a0)), (1, .ref (ad a1))]) hx hb dX10_gather_6 rfl hl (by decide) rfl (fun ls hl => ?_)
  refine lv_iconst (v := 0) hx hb dX10_gather_7 (by decide) ?_
  refine lv_istore_n (lv' := [(3, .int (0 : Int32)), (2, .int (0 : Int32)), (0, .ref (ad a0)), (1, .ref (ad a1))]) hx hb dX10_gather_8 rfl hl (by decide) rfl (fun ls hl => ?_)
  have L9 : ∀ (n : Nat) (x5 : Int32) (x6 : Int32) (s7 : zS) (H : Heap) (locs : List Loc) (ls : Array Slot), zl3 (f_X10_gather_L9 T N a0 a1) n x5 x6 s7 = some σ0 → zB D cy T ad (zA T ad s.heap.size) s.heap s7 H locs s → lv_has ls 6 [(0, .ref (ad a0)), (1, .ref (ad a1)), (2, .int x5), (3, .int x6)] → W p l e (headSpec wsX10_gather ({ frames := 5, cells := 0, slots := 0, locals := 113 } : Room)).room s m args below meth c H locs 0 0 (MQ below (va_Qv (fun σ2 : zS => σ2 = σ0) (zAt D cy T ad (zA T ad s.heap.size)) (zA T ad s.heap.size)) args s 0 0 (zA T ad s.heap.size)) (F0 m 9 ls []) := by
    intro n
    induction n with
    | zero => intro x5 x6 s7 H locs ls hq; exact zz_none hq
    | succ n ih9 =>
      intro x5 x6 s7 H locs ls hq hB hl
      rw [zl3] at hq
      generalize zl3 (f_X10_gather_L9 T N a0 a1) n = k9 at ih9 hq
      unfold f_X10_gather_L9 at hq
      refine lv_iload_n hx hb dX10_gather_9 rfl (lv_at hl 3 rfl) ?_
      refine lv_bipush (v := 20) hx hb dX10_gather_10 (by decide) ?_
      refine zz_icmp_ge (tgt := 74) hx hb dX10_gather_12 (by decide) hq (fun hq => ?_) (fun hq => ?_)
      · exact zz_vret S hB hr hlocks dX10_gather_74 hq
      · refine lv_aload_n hx hb dX10_gather_15 rfl (lv_at hl 1 rfl) ?_
        refine zz_getR S hT hB (C := RX2) (ref := "DiagramDesk$Diagram") (F := TX2) (N := 4) (index := 22) 2 0 iwX2 rfl (by decide) (by decide) rfl rfl (wS wd_343) (fun _ h9 => h9) dX10_gather_16 hq (fun a8 hq => ?_)
        refine lv_iload_n hx hb dX10_gather_19 rfl (lv_at hl 3 rfl) ?_
        refine zz_callVq S hT hB (As := [.int x6]) (b := a8) (o := f_X7_find T N s7 a8 x6) (c_X7_find l D cy T hT ad N s7 _ a8 x6) (cwV 1 hts (gV wSub wd_344 wd_33 wd_34 wd_35 wd_36) rfl rfl rfl (by decide +kernel) ⟨Nat.le_of_ble_eq_true rfl, Nat.le_of_ble_eq_true rfl⟩) (F := TX7) (NF := 3) 7 rfl (by decide) (k_X7_find T N s7 a8 x6) rfl hl.1 rfl (Nat.le_of_ble_eq_true rfl) dX10_gather_20 hq (fun s9 H locs hq hB => ?_) (fun a11 s9 H locs hq hB => ?_)
        · refine lv_astoreN (lv' := [(4, .null), (0, .ref (ad a0)), (1, .ref (ad a1)), (2, .int x5), (3, .int x6)]) hx hb dX10_gather_23 hl (by decide) rfl (fun ls hl => ?_)
          refine lv_aloadN hx hb dX10_gather_25 (lv_at hl 0 rfl) ?_
          refine lv_ifnullN (tgt := 68) hx hb dX10_gather_27 (by decide) ?_
          refine zz_nmV hq (fun x12 ex12 hq => ?_)
          refine lv_iinc (v := x12) (lv' := [(3, .int x12), (4, .null), (0, .ref (ad a0)), (1, .ref (ad a1)), (2, .int x5)]) hx hb dX10_gather_68 hl (k := 4) rfl (by rw [ex12]; rfl) (by decide) rfl (fun ls hl => ?_)
          refine lv_goto (tgt := 9) hx hb dX10_gather_71 (by decide) ?_
          exact ih9 x5 x12 s9 _ _ _ hq hB (lv_sub hl [2, 3, 4, 0] rfl)
        · refine lv_astore (lv' := [(4, .ref (ad a11)), (0, .ref (ad a0)), (1, .ref (ad a1)), (2, .int x5), (3, .int x6)]) hx hb dX10_gather_23 hl (by decide) rfl (fun ls hl => ?_)
          refine lv_aload hx hb dX10_gather_25 (lv_at hl 0 rfl) ?_
          refine lv_ifnull hx hb dX10_gather_27 ?_
          refine lv_aload_n hx hb dX10_gather_30 rfl (lv_at hl 2 rfl) ?_
          refine zz_getR S hT hB (C := RX2) (ref := "DiagramDesk$Diagram") (F := TX2) (N := 4) (index := 22) 2 0 iwX2 rfl (by decide) (by decide) rfl rfl (wS wd_343) (fun _ h9 => h9) dX10_gather_31 hq (fun a13 hq => ?_)
          refine zz_get S hT hB (C := RX7) (ref := "DiagramDesk$Shapes") (F := TX7) (N := 3) (index := 34) 7 2 iwX7 rfl (by decide) (by decide) rfl rfl (wS wd_345) (fun _ h9 => h9) dX10_gather_34 hq (fun x14 hq => ?_)
          refine lv_iload_n hx hb dX10_gather_37 rfl (lv_at hl 3 rfl) ?_
          refine lv_iconst (v := -1) hx hb dX10_gather_38 (by decide) ?_
          refine lv_ixor hx hb dX10_gather_39 ?_
          refine lv_iand hx hb dX10_gather_40 ?_
          refine lv_iload_n hx hb dX10_gather_41 rfl (lv_at hl 4 rfl) ?_
          refine zz_callNi S hT hB (As := [.int (x14 &&& (x5 ^^^ (-1 : Int32))), .int x6]) (o := f_X11_hasBit T N s9 (x14 &&& (x5 ^^^ (-1 : Int32))) x6) (c_X11_hasBit l D cy T hT ad N s9 _ (x14 &&& (x5 ^^^ (-1 : Int32))) x6) ⟨va_cnB (host := "DiagramDesk") 2 hts (gN wSub wd_101) rfl rfl rfl (zN_at hN 10 rfl) (hts _ (wS wd_102)) (by decide +kernel) ⟨Nat.le_of_ble_eq_true rfl, Nat.le_of_ble_eq_true rfl⟩, hts _ (wS wd_103), trivial⟩ rfl hl.1 rfl (Nat.le_of_ble_eq_true rfl) dX10_gather_42 hq (fun x16 s15 H locs hq hB => ?_)
          refine zz_if_eq (tgt := 68) hx hb dX10_gather_45 (by decide) hq (fun hq => ?_) (fun hq => ?_)
          · refine zz_nmV hq (fun x17 ex17 hq => ?_)
            refine lv_iinc (v := x17) (lv' := [(3, .int x17), (4, .ref (ad a11)), (0, .ref (ad a0)), (1, .ref (ad a1)), (2, .int x5)]) hx hb dX10_gather_68 hl (k := 4) rfl (by rw [ex17]; rfl) (by decide) rfl (fun ls hl => ?_)
            refine lv_goto (tgt := 9) hx hb dX10_gather_71 (by decide) ?_
            exact ih9 x5 x17 s15 _ _ _ hq hB (lv_sub hl [2, 3, 4, 0] rfl)
          · refine lv_aload_n hx hb dX10_gather_48 rfl (lv_at hl 2 rfl) ?_
            refine lv_iload_n hx hb dX10_gather_49 rfl (lv_at hl 4 rfl) ?_
            refine lv_aload hx hb dX10_gather_50 (lv_at hl 0 rfl) ?_
            refine zz_callVi S hT hB (As := [.int x6, .ref (ad a11)]) (b := a1) (o := f_X2_unitOf T N s15 a1 x6 a11) (c_X2_unitOf l D cy T hT ad N s15 _ a1 x6 a11) (cwV 2 hts (gV wSub wd_346 wd_347 wd_348 wd_174 wd_349) rfl rfl rfl (by decide +kernel) ⟨Nat.le_of_ble_eq_true rfl, Nat.le_of_ble_eq_true rfl⟩) (F := TX2) (NF := 4) 2 rfl (by decide) (k_X2_unitOf T N s15 a1 x6 a11) rfl hl.1 rfl (Nat.le_of_ble_eq_true rfl) dX10_gather_52 hq (fun x19 s18 H locs hq hB => ?_)
            refine lv_istore (lv' := [(5, .int x19), (4, .ref (ad a11)), (0, .ref (ad a0)), (1, .ref (ad a1)), (2, .int x5), (3, .int x6)]) hx hb dX10_gather_55 hl (by decide) rfl (fun ls hl => ?_)
            refine lv_iload_n hx hb dX10_gather_57 rfl (lv_at hl 4 rfl) ?_
            refine lv_iload hx hb dX10_gather_58 (lv_at hl 0 rfl) ?_
            refine lv_ior hx hb dX10_gather_60 ?_
            refine zz_nmI hq (fun x20 hq => ?_)
            refine lv_istore_n (lv' := [(2, .int x20), (5, .int x19), (4, .ref (ad a11)), (0, .ref (ad a0)), (1, .ref (ad a1)), (3, .int x6)]) hx hb dX10_gather_61 rfl hl (by decide) rfl (fun ls hl => ?_)
            refine lv_aload_n hx hb dX10_gather_62 rfl (lv_at hl 3 rfl) ?_
            refine lv_iload hx hb dX10_gather_63 (lv_at hl 1 rfl) ?_
            refine zz_callVv S hT hB (As := [.int x19]) (b := a0) (o := f_X10_add T N s18 a0 x19) (c_X10_add l D cy T hT ad N s18 _ a0 x19) (cwV 1 hts (gV wSub wd_350 wd_351 wd_352 wd_353 wd_354) rfl rfl rfl (by decide +kernel) ⟨Nat.le_of_ble_eq_true rfl, Nat.le_of_ble_eq_true rfl⟩) (F := TX10) (NF := 3) 10 rfl (by decide) (k_X10_add T N s18 a0 x19) rfl hl.1 rfl (Nat.le_of_ble_eq_true rfl) dX10_gather_65 hq (fun s21 H locs hq hB => ?_)
            refine zz_nmV hq (fun x22 ex22 hq => ?_)
            refine lv_iinc (v := x22) (lv' := [(3, .int x22), (2, .int x20), (5, .int x19), (4, .ref (ad a11)), (0, .ref (ad a0)), (1, .ref (ad a1))]) hx hb dX10_gather_68 hl (k := 5) rfl (by rw [ex22]; rfl) (by decide) rfl (fun ls hl => ?_)
            refine lv_goto (tgt := 9) hx hb dX10_gather_71 (by decide) ?_
            exact ih9 x20 x22 s21 _ _ _ hq hB (lv_sub hl [4, 5, 1, 0] rfl)
  exact L9 N (0 : Int32) (0 : Int32) s4 _ _ _ hq hB (lv_sub hl [2, 3, 1, 0] rfl)
def f_X10_setOf (T : zT) (N : Nat) (s0 : zS) (a0 : Nat) (x1 : Int32) : Option (Int32 × zS) :=
  zz1 (T.1 a0 = 10) <|
  if x1 < 0 then (
    some ((0 : Int32), s0))
  else (
    (gI T s0 a0 10 2).bind fun x4 =>
    if x4 ≤ x1 then (
      some ((0 : Int32), s0))
    else (
      (gR T s0 a0 10 0).bind fun a5 =>
      (aL T a5 13).bind fun x6 =>
      if x6 ≤ x1 then (
        some ((0 : Int32), s0))
      else (
        (gR T s0 a0 10 0).bind fun a7 =>
        (aI T s0 a7 13 x1).bind fun x8 =>
        some (x8, s0))))
theorem k_X10_setOf (T : zT) (N : Nat) (s0 : zS) (a0 : Nat) (x1 : Int32) : ∀ q, f_X10_setOf T N s0 a0 x1 = some q → T.1 a0 = 10 := by
  intro q h
  unfold f_X10_setOf at h
  exact zz_guard h (fun h _ => h)
set_option maxHeartbeats 4000000 in
set_option maxRecDepth 100000 in
theorem c_X10_setOf (l : Launch) (D : va_G) (cy : Nat → ClassId) (T : zT) (hT : zok T) (ad : Nat → Nat) (N : Nat) (s0 : zS) (sz : Nat) (a0 : Nat) (x1 : Int32) : ∀ (r0 : Int32) (σ0 : zS), f_X10_setOf T N s0 a0 x1 = some (r0, σ0) → Met l yX10_setOf wsX10_setOf ({ frames := 0, cells := 0, slots := 0, locals := 0 }) (va_Pc [.ref (ad a0), .int x1] (zPre D cy T ad s0 sz)) (va_Qi (fun (r2 : Int32) (σ2 : zS) => r2 = r0 ∧ σ2 = σ0) (zAt D cy T ad (zA T ad sz)) (zA T ad sz)) 0 0 (zA T ad sz) := by
  intro r0 σ0 hq
  refine Met.ofW (cc := cX10_setOf) (maxL := 2) (ret := (some .int)) (by decide) rfl ?_
  intro p e s m args below meth c s₁ B hml hv
  obtain ⟨hargs, hsz, hP, hK, hD0, hN⟩ := hv
  have hx := B.exec
  have hb := B.bytes
  have hr := B.returns
  have hts := atoms_spec (ws := wsX10_setOf) B.pre
  have hown : s.vm.findClass RX10 = some m.cls := findClass_of_methodNamed B.named
  have hlocks := B.notSynchronized
  have S : CallFix p m c cX10_setOf 2 s args wsX10_setOf RX10 := ⟨hx, hb, hml, hown, hts⟩
  subst hsz
  have hB : zB D cy T ad (zA T ad s.heap.size) s.heap s0 s.heap [] s := zz_entry hP hK hD0 hN
  obtain ⟨ls, hent, hl⟩ := zz_ent m hargs (n := 2) (Nat.le_of_ble_eq_true rfl)
  rw [hent]
  have hl : lv_has ls 2 [(0, .ref (ad a0)), (1, .int x1)] := hl
  have iwX10 : ∀ w ∈ u_ws RX10 TX10 3, w ∈ wsX10_setOf := fun w h => wS (inWX10 w h)
  unfold f_X10_setOf at hq
  refine zz_guard hq (fun hk0 hq => ?_)
  refine lv_iload_n hx hb dX10_setOf_0 rfl (lv_at hl 1 rfl) ?_
  refine zz_if_lt (tgt := 30) hx hb dX10_setOf_1 (by decide) hq (fun hq => ?_) (fun hq => ?_)
  · refine lv_iconst (v := 0) hx hb dX10_setOf_30 (by decide) ?_
    exact zz_iret S hB hr hlocks dX10_setOf_31 hq
  · refine lv_iload_n hx hb dX10_setOf_4 rfl (lv_at hl 1 rfl) ?_
    refine lv_aload_n hx hb dX10_setOf_5 rfl (lv_at hl 0 rfl) ?_
    refine zz_get S hT hB (C := RX10) (ref := "DiagramDesk$Units") (F := TX10) (N := 3) (index := 18) 10 2 iwX10 rfl (by decide) (by decide) rfl rfl (wS wd_341) (fun _ h9 => h9) dX10_setOf_6 hq (fun x4 hq => ?_)
    refine zz_icmp_ge (tgt := 30) hx hb dX10_setOf_9 (by decide) hq (fun hq => ?_) (fun hq => ?_)
    · refine lv_iconst (v := 0) hx hb dX10_setOf_30 (by decide) ?_
      exact zz_iret S hB hr hlocks dX10_setOf_31 hq
    · refine lv_iload_n hx hb dX10_setOf_12 rfl (lv_at hl 1 rfl) ?_
      refine lv_aload_n hx hb dX10_setOf_13 rfl (lv_at hl 0 rfl) ?_
      refine zz_getR S hT hB (C := RX10) (ref := "DiagramDesk$Units") (F := TX10) (N := 3) (index := 9) 10 0 iwX10 rfl (by decide) (by decide) rfl rfl (wS wd_342) (fun _ h9 => h9) dX10_setOf_14 hq (fun a5 hq => ?_)
      refine zz_alen S hT hB 13 (by decide) (by decide) dX10_setOf_17 hq (fun x6 hq => ?_)
      refine zz_icmp_ge (tgt := 30) hx hb dX10_setOf_18 (by decide) hq (fun hq => ?_) (fun hq => ?_)
      · refine lv_iconst (v := 0) hx hb dX10_setOf_30 (by decide) ?_
        exact zz_iret S hB hr hlocks dX10_setOf_31 hq
      · refine lv_aload_n hx hb dX10_setOf_21 rfl (lv_at hl 0 rfl) ?_
        refine zz_getR S hT hB (C := RX10) (ref := "DiagramDesk$Units") (F := TX10) (N := 3) (index := 9) 10 0 iwX10 rfl (by decide) (by decide) rfl rfl (wS wd_342) (fun _ h9 => h9) dX10_setOf_22 hq (fun a7 hq => ?_)
        refine lv_iload_n hx hb dX10_setOf_25 rfl (lv_at hl 1 rfl) ?_
        refine zz_ald S hT hB dX10_setOf_26 hq (fun x8 hq => ?_)
        refine lv_goto (tgt := 31) hx hb dX10_setOf_27 (by decide) ?_
        exact zz_iret S hB hr hlocks dX10_setOf_31 hq
def f_X10_wayOf (T : zT) (N : Nat) (s0 : zS) (a0 : Nat) (x1 : Int32) : Option (Int32 × zS) :=
  zz1 (T.1 a0 = 10) <|
  if x1 < 0 then (
    some ((0 : Int32), s0))
  else (
    (gI T s0 a0 10 2).bind fun x4 =>
    if x4 ≤ x1 then (
      some ((0 : Int32), s0))
    else (
      (gR T s0 a0 10 1).bind fun a5 =>
      (aL T a5 13).bind fun x6 =>
      if x6 ≤ x1 then (
        some ((0 : Int32), s0))
      else (
        (gR T s0 a0 10 1).bind fun a7 =>
        (aI T s0 a7 13 x1).bind fun x8 =>
        some (x8, s0))))
theorem k_X10_wayOf (T : zT) (N : Nat) (s0 : zS) (a0 : Nat) (x1 : Int32) : ∀ q, f_X10_wayOf T N s0 a0 x1 = some q → T.1 a0 = 10 := by
  intro q h
  unfold f_X10_wayOf at h
  exact zz_guard h (fun h _ => h)
set_option maxHeartbeats 4000000 in
set_option maxRecDepth 100000 in
theorem c_X10_wayOf (l : Launch) (D : va_G) (cy : Nat → ClassId) (T : zT) (hT : zok T) (ad : Nat → Nat) (N : Nat) (s0 : zS) (sz : Nat) (a0 : Nat) (x1 : Int32) : ∀ (r0 : Int32) (σ0 : zS), f_X10_wayOf T N s0 a0 x1 = some (r0, σ0) → Met l yX10_wayOf wsX10_wayOf ({ frames := 0, cells := 0, slots := 0, locals := 0 }) (va_Pc [.ref (ad a0), .int x1] (zPre D cy T ad s0 sz)) (va_Qi (fun (r2 : Int32) (σ2 : zS) => r2 = r0 ∧ σ2 = σ0) (zAt D cy T ad (zA T ad sz)) (zA T ad sz)) 0 0 (zA T ad sz) := by
  intro r0 σ0 hq
  refine Met.ofW (cc := cX10_wayOf) (maxL := 2) (ret := (some .int)) (by decide) rfl ?_
  intro p e s m args below meth c s₁ B hml hv
  obtain ⟨hargs, hsz, hP, hK, hD0, hN⟩ := hv
  have hx := B.exec
  have hb := B.bytes
  have hr := B.returns
  have hts := atoms_spec (ws := wsX10_wayOf) B.pre
  have hown : s.vm.findClass RX10 = some m.cls := findClass_of_methodNamed B.named
  have hlocks := B.notSynchronized
  have S : CallFix p m c cX10_wayOf 2 s args wsX10_wayOf RX10 := ⟨hx, hb, hml, hown, hts⟩
  subst hsz
  have hB : zB D cy T ad (zA T ad s.heap.size) s.heap s0 s.heap [] s := zz_entry hP hK hD0 hN
  obtain ⟨ls, hent, hl⟩ := zz_ent m hargs (n := 2) (Nat.le_of_ble_eq_true rfl)
  rw [hent]
  have hl : lv_has ls 2 [(0, .ref (ad a0)), (1, .int x1)] := hl
  have iwX10 : ∀ w ∈ u_ws RX10 TX10 3, w ∈ wsX10_wayOf := fun w h => wS (inWX10 w h)
  unfold f_X10_wayOf at hq
  refine zz_guard hq (fun hk0 hq => ?_)
  refine lv_iload_n hx hb dX10_wayOf_0 rfl (lv_at hl 1 rfl) ?_
  refine zz_if_lt (tgt := 30) hx hb dX10_wayOf_1 (by decide) hq (fun hq => ?_) (fun hq => ?_)
  · refine lv_iconst (v := 0) hx hb dX10_wayOf_30 (by decide) ?_
    exact zz_iret S hB hr hlocks dX10_wayOf_31 hq
  · refine lv_iload_n hx hb dX10_wayOf_4 rfl (lv_at hl 1 rfl) ?_
    refine lv_aload_n hx hb dX10_wayOf_5 rfl (lv_at hl 0 rfl) ?_
    refine zz_get S hT hB (C := RX10) (ref := "DiagramDesk$Units") (F := TX10) (N := 3) (index := 18) 10 2 iwX10 rfl (by decide) (by decide) rfl rfl (wS wd_341) (fun _ h9 => h9) dX10_wayOf_6 hq (fun x4 hq => ?_)
    refine zz_icmp_ge (tgt := 30) hx hb dX10_wayOf_9 (by decide) hq (fun hq => ?_) (fun hq => ?_)
    · refine lv_iconst (v := 0) hx hb dX10_wayOf_30 (by decide) ?_
      exact zz_iret S hB hr hlocks dX10_wayOf_31 hq
    · refine lv_iload_n hx hb dX10_wayOf_12 rfl (lv_at hl 1 rfl) ?_
      refine lv_aload_n hx hb dX10_wayOf_13 rfl (lv_at hl 0 rfl) ?_
      refine zz_getR S hT hB (C := RX10) (ref := "DiagramDesk$Units") (F := TX10) (N := 3) (index := 15) 10 1 iwX10 rfl (by decide) (by decide) rfl rfl (wS wd_355) (fun _ h9 => h9) dX10_wayOf_14 hq (fun a5 hq => ?_)
      refine zz_alen S hT hB 13 (by decide) (by decide) dX10_wayOf_17 hq (fun x6 hq => ?_)
      refine zz_icmp_ge (tgt := 30) hx hb dX10_wayOf_18 (by decide) hq (fun hq => ?_) (fun hq => ?_)
      · refine lv_iconst (v := 0) hx hb dX10_wayOf_30 (by decide) ?_
        exact zz_iret S hB hr hlocks dX10_wayOf_31 hq
      · refine lv_aload_n hx hb dX10_wayOf_21 rfl (lv_at hl 0 rfl) ?_
        refine zz_getR S hT hB (C := RX10) (ref := "DiagramDesk$Units") (F := TX10) (N := 3) (index := 15) 10 1 iwX10 rfl (by decide) (by decide) rfl rfl (wS wd_355) (fun _ h9 => h9) dX10_wayOf_22 hq (fun a7 hq => ?_)
        refine lv_iload_n hx hb dX10_wayOf_25 rfl (lv_at hl 1 rfl) ?_
        refine zz_ald S hT hB dX10_wayOf_26 hq (fun x8 hq => ?_)
        refine lv_goto (tgt := 31) hx hb dX10_wayOf_27 (by decide) ?_
        exact zz_iret S hB hr hlocks dX10_wayOf_31 hq
def f_X10_putWay (T : zT) (N : Nat) (s0 : zS) (a0 : Nat) (x1 : Int32) (x2 : Int32) : Option zS :=
  zz1 (T.1 a0 = 10) <|
  if x1 < 0 then (
    some s0)
  else (
    (gR T s0 a0 10 1).bind fun a5 =>
    (aL T a5 13).bind fun x6 =>
    if x6 ≤ x1 then (
      some s0)
    else (
      (gR T s0 a0 10 1).bind fun a7 =>
      (sI T s0 a7 x1 x2).bind fun s8 =>
      some s8))
theorem k_X10_putWay (T : zT) (N : Nat) (s0 : zS) (a0 : Nat) (x1 : Int32) (x2 : Int32) : ∀ q, f_X10_putWay T N s0 a0 x1 x2 = some q → T.1 a0 = 10 := by
  intro q h
  unfold f_X10_putWay at h
  exact zz_guard h (fun h _ => h)
set_option maxHeartbeats 4000000 in
set_option maxRecDepth 100000 in
theorem c_X10_putWay (l : Launch) (D : va_G) (cy : Nat → ClassId) (T : zT) (hT : zok T) (ad : Nat → Nat) (N : Nat) (s0 : zS) (sz : Nat) (a0 : Nat) (x1 : Int32) (x2 : Int32) : ∀ (σ0 : zS), f_X10_putWay T N s0 a0 x1 x2 = some σ0 → Met l yX10_putWay wsX10_putWay ({ frames := 0, cells := 0, slots := 0, locals := 0 }) (va_Pc [.ref (ad a0), .int x1, .int x2] (zPre D cy T ad s0 sz)) (va_Qv (fun σ2 : zS => σ2 = σ0) (zAt D cy T ad (zA T ad sz)) (zA T ad sz)) 0 0 (zA T ad sz) := by
  intro σ0 hq
  refine Met.ofW (cc := cX10_putWay) (maxL := 3) (ret := none) (by decide) rfl ?_
  intro p e s m args below meth c s₁ B hml hv
  obtain ⟨hargs, hsz, hP, hK, hD0, hN⟩ := hv
  have hx := B.exec
  have hb := B.bytes
  have hr := B.returns
  have hts := atoms_spec (ws := wsX10_putWay) B.pre
  have hown : s.vm.findClass RX10 = some m.cls := findClass_of_methodNamed B.named
  have hlocks := B.notSynchronized
  have S : CallFix p m c cX10_putWay 3 s args wsX10_putWay RX10 := ⟨hx, hb, hml, hown, hts⟩
  subst hsz
  have hB : zB D cy T ad (zA T ad s.heap.size) s.heap s0 s.heap [] s := zz_entry hP hK hD0 hN
  obtain ⟨ls, hent, hl⟩ := zz_ent m hargs (n := 3) (Nat.le_of_ble_eq_true rfl)
  rw [hent]
  have hl : lv_has ls 3 [(0, .ref (ad a0)), (1, .int x1), (2, .int x2)] := hl
  have iwX10 : ∀ w ∈ u_ws RX10 TX10 3, w ∈ wsX10_putWay := fun w h => wS (inWX10 w h)
  unfold f_X10_putWay at hq
  refine zz_guard hq (fun hk0 hq => ?_)
  refine lv_iload_n hx hb dX10_putWay_0 rfl (lv_at hl 1 rfl) ?_
  refine zz_if_lt (tgt := 20) hx hb dX10_putWay_1 (by decide) hq (fun hq => ?_) (fun hq => ?_)
  · exact zz_vret S hB hr hlocks dX10_putWay_20 hq
  · refine lv_iload_n hx hb dX10_putWay_4 rfl (lv_at hl 1 rfl) ?_
    refine lv_aload_n hx hb dX10_putWay_5 rfl (lv_at hl 0 rfl) ?_
    refine zz_getR S hT hB (C := RX10) (ref := "DiagramDesk$Units") (F := TX10) (N := 3) (index := 15) 10 1 iwX10 rfl (by decide) (by decide) rfl rfl (wS wd_355) (fun _ h9 => h9) dX10_putWay_6 hq (fun a5 hq => ?_)
    refine zz_alen S hT hB 13 (by decide) (by decide) dX10_putWay_9 hq (fun x6 hq => ?_)
    refine zz_icmp_ge (tgt := 20) hx hb dX10_putWay_10 (by decide) hq (fun hq => ?_) (fun hq => ?_)
    · exact zz_vret S hB hr hlocks dX10_putWay_20 hq
    · refine lv_aload_n hx hb dX10_putWay_13 rfl (lv_at hl 0 rfl) ?_
      refine zz_getR S hT hB (C := RX10) (ref := "DiagramDesk$Units") (F := TX10) (N := 3) (index := 15) 10 1 iwX10 rfl (by decide) (by decide) rfl rfl (wS wd_355) (fun _ h9 => h9) dX10_putWay_14 hq (fun a7 hq => ?_)
      refine lv_iload_n hx hb dX10_putWay_17 rfl (lv_at hl 1 rfl) ?_
      refine lv_iload_n hx hb dX10_putWay_18 rfl (lv_at hl 2 rfl) ?_
      refine zz_ast S hT hB dX10_putWay_19 hq (fun s8 H locs hq hB => ?_)
      exact zz_vret S hB hr hlocks dX10_putWay_20 hq
def f_X10_sizeOf (T : zT) (N : Nat) (s0 : zS) (a0 : Nat) (a1 : Nat) (x2 : Int32) (x3 : Int32) : Option (Int32 × zS) :=
  zz1 (T.1 a0 = 10) <|
  zb2 (f_X10_setOf T N s0 a0 x2) fun x7 s6 =>
  zb2 (f_X7_high T N s6 a1 x7 x3) fun x9 s8 =>
  zb2 (f_X10_setOf T N s8 a0 x2) fun x11 s10 =>
  zb2 (f_X7_low T N s10 a1 x11 x3) fun x13 s12 =>
  some (x9 - x13, s12)
theorem k_X10_sizeOf (T : zT) (N : Nat) (s0 : zS) (a0 : Nat) (a1 : Nat) (x2 : Int32) (x3 : Int32) : ∀ q, f_X10_sizeOf T N s0 a0 a1 x2 x3 = some q → T.1 a0 = 10 := by
  intro q h
  unfold f_X10_sizeOf at h
  exact zz_guard h (fun h _ => h)
set_option maxHeartbeats 4000000 in
set_option maxRecDepth 100000 in
theorem c_X10_sizeOf (l : Launch) (D : va_G) (cy : Nat → ClassId) (T : zT) (hT : zok T) (ad : Nat → Nat) (N : Nat) (s0 : zS) (sz : Nat) (a0 : Nat) (a1 : Nat) (x2 : Int32) (x3 : Int32) : ∀ (r0 : Int32) (σ0 : zS), f_X10_sizeOf T N s0 a0 a1 x2 x3 = some (r0, σ0) → Met l yX10_sizeOf wsX10_sizeOf ({ frames := 3, cells := 0, slots := 0, locals := 67 }) (va_Pc [.ref (ad a0), .ref (ad a1), .int x2, .int x3] (zPre D cy T ad s0 sz)) (va_Qi (fun (r2 : Int32) (σ2 : zS) => r2 = r0 ∧ σ2 = σ0) (zAt D cy T ad (zA T ad sz)) (zA T ad sz)) 0 0 (zA T ad sz) := by
  intro r0 σ0 hq
  refine Met.ofW (cc := cX10_sizeOf) (maxL := 4) (ret := (some .int)) (by decide) rfl ?_
  intro p e s m args below meth c s₁ B hml hv
  obtain ⟨hargs, hsz, hP, hK, hD0, hN⟩ := hv
  have hx := B.exec
  have hb := B.bytes
  have hr := B.returns
  have hts := atoms_spec (ws := wsX10_sizeOf) B.pre
  have hown : s.vm.findClass RX10 = some m.cls := findClass_of_methodNamed B.named
  have hlocks := B.notSynchronized
  have S : CallFix p m c cX10_sizeOf 4 s args wsX10_sizeOf RX10 := ⟨hx, hb, hml, hown, hts⟩
  subst hsz
  have hB : zB D cy T ad (zA T ad s.heap.size) s.heap s0 s.heap [] s := zz_entry hP hK hD0 hN
  obtain ⟨ls, hent, hl⟩ := zz_ent m hargs (n := 4) (Nat.le_of_ble_eq_true rfl)
  rw [hent]
  have hl : lv_has ls 4 [(0, .ref (ad a0)), (1, .ref (ad a1)), (2, .int x2), (3, .int x3)] := hl
  unfold f_X10_sizeOf at hq
  refine zz_guard hq (fun hk0 hq => ?_)
  refine lv_aload_n hx hb dX10_sizeOf_0 rfl (lv_at hl 1 rfl) ?_
  refine lv_aload_n hx hb dX10_sizeOf_1 rfl (lv_at hl 0 rfl) ?_
  refine lv_iload_n hx hb dX10_sizeOf_2 rfl (lv_at hl 2 rfl) ?_
  refine zz_callVi S hT hB (As := [.int x2]) (b := a0) (o := f_X10_setOf T N s0 a0 x2) (c_X10_setOf l D cy T hT ad N s0 _ a0 x2) (cwV 1 hts (gV wSub wd_356 wd_357 wd_358 wd_353 wd_359) rfl rfl rfl (by decide +kernel) ⟨Nat.le_of_ble_eq_true rfl, Nat.le_of_ble_eq_true rfl⟩) (F := TX10) (NF := 3) 10 rfl (by decide) (k_X10_setOf T N s0 a0 x2) rfl hl.1 rfl (Nat.le_of_ble_eq_true rfl) dX10_sizeOf_3 hq (fun x7 s6 H locs hq hB => ?_)
  refine lv_iload_n hx hb dX10_sizeOf_6 rfl (lv_at hl 3 rfl) ?_
  refine zz_callVi S hT hB (As := [.int x7, .int x3]) (b := a1) (o := f_X7_high T N s6 a1 x7 x3) (c_X7_high l D cy T hT ad N s6 _ a1 x7 x3) (cwV 2 hts (gV wSub wd_360 wd_249 wd_250 wd_35 wd_251) rfl rfl rfl (by decide +kernel) ⟨Nat.le_of_ble_eq_true rfl, Nat.le_of_ble_eq_true rfl⟩) (F := TX7) (NF := 3) 7 rfl (by decide) (k_X7_high T N s6 a1 x7 x3) rfl hl.1 rfl (Nat.le_of_ble_eq_true rfl) dX10_sizeOf_7 hq (fun x9 s8 H locs hq hB => ?_)
  refine lv_aload_n hx hb dX10_sizeOf_10 rfl (lv_at hl 1 rfl) ?_
  refine lv_aload_n hx hb dX10_sizeOf_11 rfl (lv_at hl 0 rfl) ?_
  refine lv_iload_n hx hb dX10_sizeOf_12 rfl (lv_at hl 2 rfl) ?_
  refine zz_callVi S hT hB (As := [.int x2]) (b := a0) (o := f_X10_setOf T N s8 a0 x2) (c_X10_setOf l D cy T hT ad N s8 _ a0 x2) (cwV 1 hts (gV wSub wd_356 wd_357 wd_358 wd_353 wd_359) rfl rfl rfl (by decide +kernel) ⟨Nat.le_of_ble_eq_true rfl, Nat.le_of_ble_eq_true rfl⟩) (F := TX10) (NF := 3) 10 rfl (by decide) (k_X10_setOf T N s8 a0 x2) rfl hl.1 rfl (Nat.le_of_ble_eq_true rfl) dX10_sizeOf_13 hq (fun x11 s10 H locs hq hB => ?_)
  refine lv_iload_n hx hb dX10_sizeOf_16 rfl (lv_at hl 3 rfl) ?_
  refine zz_callVi S hT hB (As := [.int x11, .int x3]) (b := a1) (o := f_X7_low T N s10 a1 x11 x3) (c_X7_low l D cy T hT ad N s10 _ a1 x11 x3) (cwV 2 hts (gV wSub wd_361 wd_245 wd_246 wd_35 wd_247) rfl rfl rfl (by decide +kernel) ⟨Nat.le_of_ble_eq_true rfl, Nat.le_of_ble_eq_true rfl⟩) (F := TX7) (NF := 3) 7 rfl (by decide) (k_X7_low T N s10 a1 x11 x3) rfl hl.1 rfl (Nat.le_of_ble_eq_true rfl) dX10_sizeOf_17 hq (fun x13 s12 H locs hq hB => ?_)
  refine lv_isub hx hb dX10_sizeOf_20 ?_
  exact zz_iret S hB hr hlocks dX10_sizeOf_21 hq
def f_X10_planAlignment_L15 (T : zT) (N : Nat) (a0 : Nat) (a1 : Nat) (x2 : Int32) (x3 : Int32) (x8 : Int32) (k15 : Int32 → zS → Option zS) (x9 : Int32) (s10 : zS) : Option zS :=
  (gI T s10 a0 10 2).bind fun x11 =>
  if x11 ≤ x9 then (
    some s10)
  else (
    zb2 (f_X10_setOf T N s10 a0 x9) fun x13 s12 =>
    zb2 (f_X7_lineOf T N s12 a1 x13 x2 x3) fun x15 s14 =>
    (f_X10_putWay T N s14 a0 x9 (x8 - x15)).bind fun s16 =>
    zn (x9 + (1 : Int32)) fun x17 =>
    k15 x17 s16)
def f_X10_planAlignment (T : zT) (N : Nat) (s0 : zS) (a0 : Nat) (a1 : Nat) (x2 : Int32) (x3 : Int32) : Option zS :=
  zz1 (T.1 a0 = 10) <|
  (gI T s0 a1 7 2).bind fun x6 =>
  zb2 (f_X7_lineOf T N s0 a1 x6 x2 x3) fun x8 s7 =>
  zl2 (f_X10_planAlignment_L15 T N a0 a1 x2 x3 x8) N (0 : Int32) s7
theorem k_X10_planAlignment (T : zT) (N : Nat) (s0 : zS) (a0 : Nat) (a1 : Nat) (x2 : Int32) (x3 : Int32) : ∀ q, f_X10_planAlignment T N s0 a0 a1 x2 x3 = some q → T.1 a0 = 10 := by
  intro q h
  unfold f_X10_planAlignment at h
  exact zz_guard h (fun h _ => h)
set_option maxHeartbeats 4000000 in
set_option maxRecDepth 100000 in
theorem c_X10_planAlignment (l : Launch) (D : va_G) (cy : Nat → ClassId) (T : zT) (hT : zok T) (ad : Nat → Nat) (N : Nat) (s0 : zS) (sz : Nat) (a0 : Nat) (a1 : Nat) (x2 : Int32) (x3 : Int32) : ∀ (σ0 : zS), f_X10_planAlignment T N s0 a0 a1 x2 x3 = some σ0 → Met l yX10_planAlignment wsX10_planAlignment ({ frames := 4, cells := 0, slots := 0, locals := 92 }) (va_Pc [.ref (ad a0), .ref (ad a1), .int x2, .int x3] (zPre D cy T ad s0 sz)) (va_Qv (fun σ2 : zS => σ2 = σ0) (zAt D cy T ad (zA T ad sz)) (zA T ad sz)) 0 0 (zA T ad sz) := by
  intro σ0 hq
  refine Met.ofW (cc := cX10_planAlignment) (maxL := 6) (ret := none) (by decide) rfl ?_
  intro p e s m args below meth c s₁ B hml hv
  obtain ⟨hargs, hsz, hP, hK, hD0, hN⟩ := hv
  have hx := B.exec
  have hb := B.bytes
  have hr := B.returns
  have hts := atoms_spec (ws := wsX10_planAlignment) B.pre
  have hown : s.vm.findClass RX10 = some m.cls := findClass_of_methodNamed B.named
  have hlocks := B.notSynchronized
  have S : CallFix p m c cX10_planAlignment 6 s args wsX10_planAlignment RX10 := ⟨hx, hb, hml, hown, hts⟩
  subst hsz
  have hB : zB D cy T ad (zA T ad s.heap.size) s.heap s0 s.heap [] s := zz_entry hP hK hD0 hN
  obtain ⟨ls, hent, hl⟩ := zz_ent m hargs (n := 6) (Nat.le_of_ble_eq_true rfl)
  rw [hent]
  have hl : lv_has ls 6 [(0, .ref (ad a0)), (1, .ref (ad a1)), (2, .int x2), (3, .int x3)] := hl
  have iwX7 : ∀ w ∈ u_ws RX7 TX7 3, w ∈ wsX10_planAlignment := fun w h => wS (inWX7 w h)
  have iwX10 : ∀ w ∈ u_ws RX10 TX10 3, w ∈ wsX10_planAlignment := fun w h => wS (inWX10 w h)
  unfold f_X10_planAlignment at hq
  refine zz_guard hq (fun hk0 hq => ?_)
  refine lv_aload_n hx hb dX10_planAlignment_0 rfl (lv_at hl 1 rfl) ?_
  refine lv_aload_n hx hb dX10_planAlignment_1 rfl (lv_at hl 1 rfl) ?_
  refine zz_get S hT hB (C := RX7) (ref := "DiagramDesk$Shapes") (F := TX7) (N := 3) (index := 34) 7 2 iwX7 rfl (by decide) (by decide) rfl rfl (wS wd_345) (fun _ h9 => h9) dX10_planAlignment_2 hq (fun x6 hq => ?_)
  refine lv_iload_n hx hb dX10_planAlignment_5 rfl (lv_at hl 2 rfl) ?_
  refine lv_iload_n hx hb dX10_planAlignment_6 rfl (lv_at hl 3 rfl) ?_
  refine zz_callVi S hT hB (As := [.int x6, .int x2, .int x3]) (b := a1) (o := f_X7_lineOf T N s0 a1 x6 x2 x3) (c_X7_lineOf l D cy T hT ad N s0 _ a1 x6 x2 x3) (cwV 3 hts (gV wSub wd_362 wd_279 wd_280 wd_35 wd_281) rfl rfl rfl (by decide +kernel) ⟨Nat.le_of_ble_eq_true rfl, Nat.le_of_ble_eq_true rfl⟩) (F := TX7) (NF := 3) 7 rfl (by decide) (k_X7_lineOf T N s0 a1 x6 x2 x3) rfl hl.1 rfl (Nat.le_of_ble_eq_true rfl) dX10_planAlignment_7 hq (fun x8 s7 H locs hq hB => ?_)
  refine lv_istore (lv' := [(4, .int x8), (0, .ref (ad a0)), (1, .ref (ad a1)), (2, .int x2), (3, .int x3)]) hx hb dX10_planAlignment_10 hl (by decide) rfl (fun ls hl => ?_)
  refine lv_iconst (v := 0) hx hb dX10_planAlignment_12 (by decide) ?_
  refine lv_istore (lv' := [(5, .int (0 : Int32)), (4, .int x8), (0, .ref (ad a0)), (1, .ref (ad a1)), (2, .int x2), (3, .int x3)]) hx hb dX10_planAlignment_13 hl (by decide) rfl (fun ls hl => ?_)
  have L15 : ∀ (n : Nat) (x9 : Int32) (s10 : zS) (H : Heap) (locs : List Loc) (ls : Array Slot), zl2 (f_X10_planAlignment_L15 T N a0 a1 x2 x3 x8) n x9 s10 = some σ0 → zB D cy T ad (zA T ad s.heap.size) s.heap s10 H locs s → lv_has ls 6 [(0, .ref (ad a0)), (1, .ref (ad a1)), (2, .int x2), (3, .int x3), (4, .int x8), (5, .int x9)] → W p l e (headSpec wsX10_planAlignment ({ frames := 4, cells := 0, slots := 0, locals := 92 } : Room)).room s m args below meth c H locs 0 0 (MQ below (va_Qv (fun σ2 : zS => σ2 = σ0) (zAt D cy T ad (zA T ad s.heap.size)) (zA T ad s.heap.size)) args s 0 0 (zA T ad s.heap.size)) (F0 m 15 ls []) := by
    intro n
    induction n with
    | zero => intro x9 s10 H locs ls hq; exact zz_none hq
    | succ n ih15 =>
      intro x9 s10 H locs ls hq hB hl
      rw [zl2] at hq
      generalize zl2 (f_X10_planAlignment_L15 T N a0 a1 x2 x3 x8) n = k15 at ih15 hq
      unfold f_X10_planAlignment_L15 at hq
      refine lv_iload hx hb dX10_planAlignment_15 (lv_at hl 5 rfl) ?_
      refine lv_aload_n hx hb dX10_planAlignment_17 rfl (lv_at hl 0 rfl) ?_
      refine zz_get S hT hB (C := RX10) (ref := "DiagramDesk$Units") (F := TX10) (N := 3) (index := 18) 10 2 iwX10 rfl (by decide) (by decide) rfl rfl (wS wd_341) (fun _ h9 => h9) dX10_planAlignment_18 hq (fun x11 hq => ?_)
      refine zz_icmp_ge (tgt := 51) hx hb dX10_planAlignment_21 (by decide) hq (fun hq => ?_) (fun hq => ?_)
      · exact zz_vret S hB hr hlocks dX10_planAlignment_51 hq
      · refine lv_aload_n hx hb dX10_planAlignment_24 rfl (lv_at hl 0 rfl) ?_
        refine lv_iload hx hb dX10_planAlignment_25 (lv_at hl 5 rfl) ?_
        refine lv_iload hx hb dX10_planAlignment_27 (lv_at hl 4 rfl) ?_
        refine lv_aload_n hx hb dX10_planAlignment_29 rfl (lv_at hl 1 rfl) ?_
        refine lv_aload_n hx hb dX10_planAlignment_30 rfl (lv_at hl 0 rfl) ?_
        refine lv_iload hx hb dX10_planAlignment_31 (lv_at hl 5 rfl) ?_
        refine zz_callVi S hT hB (As := [.int x9]) (b := a0) (o := f_X10_setOf T N s10 a0 x9) (c_X10_setOf l D cy T hT ad N s10 _ a0 x9) (cwV 1 hts (gV wSub wd_356 wd_357 wd_358 wd_353 wd_359) rfl rfl rfl (by decide +kernel) ⟨Nat.le_of_ble_eq_true rfl, Nat.le_of_ble_eq_true rfl⟩) (F := TX10) (NF := 3) 10 rfl (by decide) (k_X10_setOf T N s10 a0 x9) rfl hl.1 rfl (Nat.le_of_ble_eq_true rfl) dX10_planAlignment_33 hq (fun x13 s12 H locs hq hB => ?_)
        refine lv_iload_n hx hb dX10_planAlignment_36 rfl (lv_at hl 2 rfl) ?_
        refine lv_iload_n hx hb dX10_planAlignment_37 rfl (lv_at hl 3 rfl) ?_
        refine zz_callVi S hT hB (As := [.int x13, .int x2, .int x3]) (b := a1) (o := f_X7_lineOf T N s12 a1 x13 x2 x3) (c_X7_lineOf l D cy T hT ad N s12 _ a1 x13 x2 x3) (cwV 3 hts (gV wSub wd_362 wd_279 wd_280 wd_35 wd_281) rfl rfl rfl (by decide +kernel) ⟨Nat.le_of_ble_eq_true rfl, Nat.le_of_ble_eq_true rfl⟩) (F := TX7) (NF := 3) 7 rfl (by decide) (k_X7_lineOf T N s12 a1 x13 x2 x3) rfl hl.1 rfl (Nat.le_of_ble_eq_true rfl) dX10_planAlignment_38 hq (fun x15 s14 H locs hq hB => ?_)
        refine lv_isub hx hb dX10_planAlignment_41 ?_
        refine zz_callVv S hT hB (As := [.int x9, .int (x8 - x15)]) (b := a0) (o := f_X10_putWay T N s14 a0 x9 (x8 - x15)) (c_X10_putWay l D cy T hT ad N s14 _ a0 x9 (x8 - x15)) (cwV 2 hts (gV wSub wd_363 wd_364 wd_365 wd_353 wd_366) rfl rfl rfl (by decide +kernel) ⟨Nat.le_of_ble_eq_true rfl, Nat.le_of_ble_eq_true rfl⟩) (F := TX10) (NF := 3) 10 rfl (by decide) (k_X10_putWay T N s14 a0 x9 (x8 - x15)) rfl hl.1 rfl (Nat.le_of_ble_eq_true rfl) dX10_planAlignment_42 hq (fun s16 H locs hq hB => ?_)
        refine zz_nmV hq (fun x17 ex17 hq => ?_)
        refine lv_iinc (v := x17) (lv' := [(5, .int x17), (0, .ref (ad a0)), (1, .ref (ad a1)), (2, .int x2), (3, .int x3), (4, .int x8)]) hx hb dX10_planAlignment_45 hl (k := 5) rfl (by rw [ex17]; rfl) (by decide) rfl (fun ls hl => ?_)
        refine lv_goto (tgt := 15) hx hb dX10_planAlignment_48 (by decide) ?_
        exact ih15 x17 s16 _ _ _ hq hB (lv_sub hl [1, 2, 3, 4, 5, 0] rfl)
  exact L15 N (0 : Int32) s7 _ _ _ hq hB (lv_sub hl [2, 3, 4, 5, 1, 0] rfl)
