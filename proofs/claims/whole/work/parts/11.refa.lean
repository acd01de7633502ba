def f_X12_in (T : zT) (N : Nat) (s0 : zS) (x0 : Int32) (x1 : Int32) (x2 : Int32) : Option (Int32 × zS) :=
  if x0 < x1 then (
    rZ (0 : Int32) s0)
  else (
    if x2 < x0 then (
      rZ (0 : Int32) s0)
    else (
      rZ (1 : Int32) s0))
set_option maxHeartbeats 4000000 in
set_option maxRecDepth 100000 in
theorem c_X12_in (l : Launch) (D : va_G) (cy : Nat → ClassId) (T : zT) (hT : zok T) (ad : Nat → Nat) (N : Nat) (s0 : zS) (sz : Nat) (x0 : Int32) (x1 : Int32) (x2 : Int32) : ∀ (r0 : Int32) (σ0 : zS), f_X12_in T N s0 x0 x1 x2 = some (r0, σ0) → Met l yX12_in wsX12_in ({ frames := 0, cells := 0, slots := 0, locals := 0 }) (va_Pc [.int x0, .int x1, .int x2] (zPre D cy T ad s0 sz)) (va_Qi (fun (r2 : Int32) (σ2 : zS) => r2 = r0 ∧ σ2 = σ0) (zAt D cy T ad (zA T ad sz)) (zA T ad sz)) 0 0 (zA T ad sz) := by
  intro r0 σ0 hq
  refine Met.ofW (cc := cX12_in) (maxL := 3) (ret := (some .boolean)) (by decide) rfl ?_
  intro p e s m args below meth c s₁ B hml hv
  obtain ⟨hargs, hsz, hP, hK, hD0, hN⟩ := hv
  have hx := B.exec
  have hb := B.bytes
  have hr := B.returns
  have hts := atoms_spec (ws := wsX12_in) B.pre
  have hown : s.vm.findClass RX12 = some m.cls := findClass_of_methodNamed B.named
  have hlocks := B.notSynchronized
  have S : CallFix p m c cX12_in 3 s args wsX12_in RX12 := ⟨hx, hb, hml, hown, hts⟩
  subst hsz
  have hB : zB D cy T ad (zA T ad s.heap.size) s.heap s0 s.heap [] s := zz_entry hP hK hD0 hN
  obtain ⟨ls, hent, hl⟩ := zz_ent m hargs (n := 3) (Nat.le_of_ble_eq_true rfl)
  rw [hent]
  have hl : lv_has ls 3 [(0, .int x0), (1, .int x1), (2, .int x2)] := hl
  unfold f_X12_in at hq
  refine lv_iload_n hx hb dX12_in_0 rfl (lv_at hl 0 rfl) ?_
  refine lv_iload_n hx hb dX12_in_1 rfl (lv_at hl 1 rfl) ?_
  refine zz_icmp_lt (tgt := 14) hx hb dX12_in_2 (by decide) hq (fun hq => ?_) (fun hq => ?_)
  · refine lv_iconst (v := 0) hx hb dX12_in_14 (by decide) ?_
    exact zz_zret S hB hr hlocks dX12_in_15 hq
  · refine lv_iload_n hx hb dX12_in_5 rfl (lv_at hl 0 rfl) ?_
    refine lv_iload_n hx hb dX12_in_6 rfl (lv_at hl 2 rfl) ?_
    refine zz_icmp_gt (tgt := 14) hx hb dX12_in_7 (by decide) hq (fun hq => ?_) (fun hq => ?_)
    · refine lv_iconst (v := 0) hx hb dX12_in_14 (by decide) ?_
      exact zz_zret S hB hr hlocks dX12_in_15 hq
    · refine lv_iconst (v := 1) hx hb dX12_in_10 (by decide) ?_
      refine lv_goto (tgt := 15) hx hb dX12_in_11 (by decide) ?_
      exact zz_zret S hB hr hlocks dX12_in_15 hq
def f_X12_act_L52 (T : zT) (N : Nat) (a0 : Nat) (k52 : Int32 → zS → Option zS) (x5 : Int32) (s6 : zS) : Option zS :=
  if (380 : Int32) ≤ x5 then (
    (gI T s6 a0 12 2).bind fun x7 =>
    (pI T s6 a0 12 2 (x7 + (1 : Int32))).bind fun s8 =>
    some s8)
  else (
    (gR T s6 a0 12 1).bind fun a9 =>
    (gI T s6 a0 12 2).bind fun x10 =>
    (gR T s6 a0 12 0).bind fun a11 =>
    (aI T s6 a11 13 x5).bind fun x12 =>
    (sI T s6 a9 (((380 : Int32) * x10) + x5) x12).bind fun s13 =>
    zn (x5 + (1 : Int32)) fun x14 =>
    k52 x14 s13)
def f_X12_act_J50 (T : zT) (N : Nat) (a0 : Nat) (s4 : zS) : Option zS :=
  zl2 (f_X12_act_L52 T N a0) N (0 : Int32) s4
def f_X12_act_L11 (T : zT) (N : Nat) (a0 : Nat) (k11 : Int32 → zS → Option zS) (x15 : Int32) (s16 : zS) : Option zS :=
  if (1900 : Int32) ≤ x15 then (
    (gI T s16 a0 12 2).bind fun x17 =>
    (pI T s16 a0 12 2 (x17 - (1 : Int32))).bind fun s18 =>
    f_X12_act_J50 T N a0 s18)
  else (
    (gR T s16 a0 12 1).bind fun a19 =>
    (gR T s16 a0 12 1).bind fun a20 =>
    (aI T s16 a20 13 (x15 + (380 : Int32))).bind fun x21 =>
    (sI T s16 a19 x15 x21).bind fun s22 =>
    zn (x15 + (1 : Int32)) fun x23 =>
    k11 x23 s22)
def f_X12_act (T : zT) (N : Nat) (s0 : zS) (a0 : Nat) : Option zS :=
  zz1 (T.1 a0 = 12) <|
  (gI T s0 a0 12 2).bind fun x3 =>
  if ¬ x3 = (6 : Int32) then (
    f_X12_act_J50 T N a0 s0)
  else (
    zl2 (f_X12_act_L11 T N a0) N (0 : Int32) s0)
theorem k_X12_act (T : zT) (N : Nat) (s0 : zS) (a0 : Nat) : ∀ q, f_X12_act T N s0 a0 = some q → T.1 a0 = 12 := by
  intro q h
  unfold f_X12_act at h
  exact zz_guard h (fun h _ => h)
set_option maxHeartbeats 4000000 in
set_option maxRecDepth 100000 in
theorem c_X12_act (l : Launch) (D : va_G) (cy : Nat → ClassId) (T : zT) (hT : zok T) (ad : Nat → Nat) (N : Nat) (s0 : zS) (sz : Nat) (a0 : Nat) : ∀ (σ0 : zS), f_X12_act T N s0 a0 = some σ0 → Met l yX12_act wsX12_act ({ frames := 0, cells := 0, slots := 0, locals := 0 }) (va_Pc [.ref (ad a0)] (zPre D cy T ad s0 sz)) (va_Qv (fun σ2 : zS => σ2 = σ0) (zAt D cy T ad (zA T ad sz)) (zA T ad sz)) 0 0 (zA T ad sz) := by
  intro σ0 hq
  refine Met.ofW (cc := cX12_act) (maxL := 2) (ret := none) (by decide) rfl ?_
  intro p e s m args below meth c s₁ B hml hv
  obtain ⟨hargs, hsz, hP, hK, hD0, hN⟩ := hv
  have hx := B.exec
  have hb := B.bytes
  have hr := B.returns
  have hts := atoms_spec (ws := wsX12_act) B.pre
  have hown : s.vm.findClass RX12 = some m.cls := findClass_of_methodNamed B.named
  have hlocks := B.notSynchronized
  have S : CallFix p m c cX12_act 2 s args wsX12_act RX12 := ⟨hx, hb, hml, hown, hts⟩
  subst hsz
  have hB : zB D cy T ad (zA T ad s.heap.size) s.heap s0 s.heap [] s := zz_entry hP hK hD0 hN
  obtain ⟨ls, hent, hl⟩ := zz_ent m hargs (n := 2) (Nat.le_of_ble_eq_true rfl)
  rw [hent]
  have hl : lv_has ls 2 [(0, .ref (ad a0))] := hl
  have iwX12 : ∀ w ∈ u_ws RX12 TX12 24, w ∈ wsX12_act := fun w h => wS (inWX12 w h)
  unfold f_X12_act at hq
  refine zz_guard hq (fun hk0 hq => ?_)
  refine lv_aload_n hx hb dX12_act_0 rfl (lv_at hl 0 rfl) ?_
  refine zz_get S hT hB (C := RX12) (ref := "DiagramDeskModel") (F := TX12) (N := 24) (index := 55) 12 2 iwX12 rfl (by decide) (by decide) rfl rfl (wS wd_567) (fun _ h9 => h9) dX12_act_1 hq (fun x3 hq => ?_)
  refine lv_bipush (v := 6) hx hb dX12_act_4 (by decide) ?_
  have J50 : ∀ (s4 : zS) (H : Heap) (locs : List Loc) (ls : Array Slot), f_X12_act_J50 T N a0 s4 = some σ0 → zB D cy T ad (zA T ad s.heap.size) s.heap s4 H locs s → lv_has ls 2 [(0, .ref (ad a0))] → W p l e (headSpec wsX12_act ({ frames := 0, cells := 0, slots := 0, locals := 0 } : Room)).room s m args below meth c H locs 0 0 (MQ below (va_Qv (fun σ2 : zS => σ2 = σ0) (zAt D cy T ad (zA T ad s.heap.size)) (zA T ad s.heap.size)) args s 0 0 (zA T ad s.heap.size)) (F0 m 50 ls []) := by
    intro s4 H locs ls hq hB hl
    unfold f_X12_act_J50 at hq
    refine lv_iconst (v := 0) hx hb dX12_act_50 (by decide) ?_
    refine lv_istore_n (lv' := [(1, .int (0 : Int32)), (0, .ref (ad a0))]) hx hb dX12_act_51 rfl hl (by decide) rfl (fun ls hl => ?_)
    have L52 : ∀ (n : Nat) (x5 : Int32) (s6 : zS) (H : Heap) (locs : List Loc) (ls : Array Slot), zl2 (f_X12_act_L52 T N a0) n x5 s6 = some σ0 → zB D cy T ad (zA T ad s.heap.size) s.heap s6 H locs s → lv_has ls 2 [(0, .ref (ad a0)), (1, .int x5)] → W p l e (headSpec wsX12_act ({ frames := 0, cells := 0, slots := 0, locals := 0 } : Room)).room s m args below meth c H locs 0 0 (MQ below (va_Qv (fun σ2 : zS => σ2 = σ0) (zAt D cy T ad (zA T ad s.heap.size)) (zA T ad s.heap.size)) args s 0 0 (zA T ad s.heap.size)) (F0 m 52 ls []) := by
      intro n
      induction n with
      | zero => intro x5 s6 H locs ls hq; exact zz_none hq
      | succ n ih52 =>
        intro x5 s6 H locs ls hq hB hl
        rw [zl2] at hq
        generalize zl2 (f_X12_act_L52 T N a0) n = k52 at ih52 hq
        unfold f_X12_act_L52 at hq
        refine lv_iload_n hx hb dX12_act_52 rfl (lv_at hl 1 rfl) ?_
        refine lv_sipush (v := 380) hx hb dX12_act_53 (by decide) ?_
        refine zz_icmp_ge (tgt := 86) hx hb dX12_act_56 (by decide) hq (fun hq => ?_) (fun hq => ?_)
        · refine lv_aload_n hx hb dX12_act_86 rfl (lv_at hl 0 rfl) ?_
          refine lv_dup hx hb dX12_act_87 rfl ?_
          refine zz_get S hT hB (C := RX12) (ref := "DiagramDeskModel") (F := TX12) (N := 24) (index := 55) 12 2 iwX12 rfl (by decide) (by decide) rfl rfl (wS wd_567) (fun _ h9 => h9) dX12_act_88 hq (fun x7 hq => ?_)
          refine lv_iconst (v := 1) hx hb dX12_act_91 (by decide) ?_
          refine lv_iadd hx hb dX12_act_92 ?_
          refine zz_put S hT hB (C := RX12) (ref := "DiagramDeskModel") (F := TX12) (N := 24) (index := 55) 12 2 iwX12 tyX12 tyX12_ok nmX12 rfl (by decide) (by decide) rfl rfl (wS wd_567) (fun _ h9 => h9) rfl (by decide +kernel) dX12_act_93 hq (fun s8 H locs hq hB => ?_)
          exact zz_vret S hB hr hlocks dX12_act_96 hq
        · refine lv_aload_n hx hb dX12_act_59 rfl (lv_at hl 0 rfl) ?_
          refine zz_getR S hT hB (C := RX12) (ref := "DiagramDeskModel") (F := TX12) (N := 24) (index := 13) 12 1 iwX12 rfl (by decide) (by decide) rfl rfl (wS wd_568) (fun _ h9 => h9) dX12_act_60 hq (fun a9 hq => ?_)
          refine lv_sipush (v := 380) hx hb dX12_act_63 (by decide) ?_
          refine lv_aload_n hx hb dX12_act_66 rfl (lv_at hl 0 rfl) ?_
          refine zz_get S hT hB (C := RX12) (ref := "DiagramDeskModel") (F := TX12) (N := 24) (index := 55) 12 2 iwX12 rfl (by decide) (by decide) rfl rfl (wS wd_567) (fun _ h9 => h9) dX12_act_67 hq (fun x10 hq => ?_)
          refine lv_imul hx hb dX12_act_70 ?_
          refine lv_iload_n hx hb dX12_act_71 rfl (lv_at hl 1 rfl) ?_
          refine lv_iadd hx hb dX12_act_72 ?_
          refine lv_aload_n hx hb dX12_act_73 rfl (lv_at hl 0 rfl) ?_
          refine zz_getR S hT hB (C := RX12) (ref := "DiagramDeskModel") (F := TX12) (N := 24) (index := 7) 12 0 iwX12 rfl (by decide) (by decide) rfl rfl (wS wd_569) (fun _ h9 => h9) dX12_act_74 hq (fun a11 hq => ?_)
          refine lv_iload_n hx hb dX12_act_77 rfl (lv_at hl 1 rfl) ?_
          refine zz_ald S hT hB dX12_act_78 hq (fun x12 hq => ?_)
          refine zz_ast S hT hB dX12_act_79 hq (fun s13 H locs hq hB => ?_)
          refine zz_nmV hq (fun x14 ex14 hq => ?_)
          refine lv_iinc (v := x14) (lv' := [(1, .int x14), (0, .ref (ad a0))]) hx hb dX12_act_80 hl (k := 1) rfl (by rw [ex14]; rfl) (by decide) rfl (fun ls hl => ?_)
          refine lv_goto (tgt := 52) hx hb dX12_act_83 (by decide) ?_
          exact ih52 x14 s13 _ _ _ hq hB (lv_sub hl [1, 0] rfl)
    exact L52 N (0 : Int32) s4 _ _ _ hq hB (lv_sub hl [1, 0] rfl)
  refine zz_icmp_ne (tgt := 50) hx hb dX12_act_6 (by decide) hq (fun hq => ?_) (fun hq => ?_)
  · exact J50 s0 _ _ _ hq hB (lv_sub hl [0] rfl)
  · refine lv_iconst (v := 0) hx hb dX12_act_9 (by decide) ?_
    refine lv_istore_n (lv' := [(1, .int (0 : Int32)), (0, .ref (ad a0))]) hx hb dX12_act_10 rfl hl (by decide) rfl (fun ls hl => ?_)
    have L11 : ∀ (n : Nat) (x15 : Int32) (s16 : zS) (H : Heap) (locs : List Loc) (ls : Array Slot), zl2 (f_X12_act_L11 T N a0) n x15 s16 = some σ0 → zB D cy T ad (zA T ad s.heap.size) s.heap s16 H locs s → lv_has ls 2 [(0, .ref (ad a0)), (1, .int x15)] → W p l e (headSpec wsX12_act ({ frames := 0, cells := 0, slots := 0, locals := 0 } : Room)).room s m args below meth c H locs 0 0 (MQ below (va_Qv (fun σ2 : zS => σ2 = σ0) (zAt D cy T ad (zA T ad s.heap.size)) (zA T ad s.heap.size)) args s 0 0 (zA T ad s.heap.size)) (F0 m 11 ls []) := by
      intro n
      induction n with
      | zero => intro x15 s16 H locs ls hq; exact zz_none hq
      | succ n ih11 =>
        intro x15 s16 H locs ls hq hB hl
        rw [zl2] at hq
        generalize zl2 (f_X12_act_L11 T N a0) n = k11 at ih11 hq
        unfold f_X12_act_L11 at hq
        refine lv_iload_n hx hb dX12_act_11 rfl (lv_at hl 1 rfl) ?_
        refine lv_sipush (v := 1900) hx hb dX12_act_12 (by decide) ?_
        refine zz_icmp_ge (tgt := 40) hx hb dX12_act_15 (by decide) hq (fun hq => ?_) (fun hq => ?_)
        · refine lv_aload_n hx hb dX12_act_40 rfl (lv_at hl 0 rfl) ?_
          refine lv_dup hx hb dX12_act_41 rfl ?_
          refine zz_get S hT hB (C := RX12) (ref := "DiagramDeskModel") (F := TX12) (N := 24) (index := 55) 12 2 iwX12 rfl (by decide) (by decide) rfl rfl (wS wd_567) (fun _ h9 => h9) dX12_act_42 hq (fun x17 hq => ?_)
          refine lv_iconst (v := 1) hx hb dX12_act_45 (by decide) ?_
          refine lv_isub hx hb dX12_act_46 ?_
          refine zz_put S hT hB (C := RX12) (ref := "DiagramDeskModel") (F := TX12) (N := 24) (index := 55) 12 2 iwX12 tyX12 tyX12_ok nmX12 rfl (by decide) (by decide) rfl rfl (wS wd_567) (fun _ h9 => h9) rfl (by decide +kernel) dX12_act_47 hq (fun s18 H locs hq hB => ?_)
          exact J50 s18 _ _ _ hq hB (lv_sub hl [0] rfl)
        · refine lv_aload_n hx hb dX12_act_18 rfl (lv_at hl 0 rfl) ?_
          refine zz_getR S hT hB (C := RX12) (ref := "DiagramDeskModel") (F := TX12) (N := 24) (index := 13) 12 1 iwX12 rfl (by decide) (by decide) rfl rfl (wS wd_568) (fun _ h9 => h9) dX12_act_19 hq (fun a19 hq => ?_)
          refine lv_iload_n hx hb dX12_act_22 rfl (lv_at hl 1 rfl) ?_
          refine lv_aload_n hx hb dX12_act_23 rfl (lv_at hl 0 rfl) ?_
          refine zz_getR S hT hB (C := RX12) (ref := "DiagramDeskModel") (F := TX12) (N := 24) (index := 13) 12 1 iwX12 rfl (by decide) (by decide) rfl rfl (wS wd_568) (fun _ h9 => h9) dX12_act_24 hq (fun a20 hq => ?_)
          refine lv_iload_n hx hb dX12_act_27 rfl (lv_at hl 1 rfl) ?_
          refine lv_sipush (v := 380) hx hb dX12_act_28 (by decide) ?_
          refine lv_iadd hx hb dX12_act_31 ?_
          refine zz_ald S hT hB dX12_act_32 hq (fun x21 hq => ?_)
          refine zz_ast S hT hB dX12_act_33 hq (fun s22 H locs hq hB => ?_)
          refine zz_nmV hq (fun x23 ex23 hq => ?_)
          refine lv_iinc (v := x23) (lv' := [(1, .int x23), (0, .ref (ad a0))]) hx hb dX12_act_34 hl (k := 1) rfl (by rw [ex23]; rfl) (by decide) rfl (fun ls hl => ?_)
          refine lv_goto (tgt := 11) hx hb dX12_act_37 (by decide) ?_
          exact ih11 x23 s22 _ _ _ hq hB (lv_sub hl [1, 0] rfl)
    exact L11 N (0 : Int32) s0 _ _ _ hq hB (lv_sub hl [1, 0] rfl)
def f_X12_of (T : zT) (N : Nat) (s0 : zS) (a0 : Nat) (x1 : Int32) (x2 : Int32) : Option (Int32 × zS) :=
  zz1 (T.1 a0 = 12) <|
  (gR T s0 a0 12 0).bind fun a5 =>
  (aI T s0 a5 13 (((10 : Int32) + ((8 : Int32) * x1)) + x2)).bind fun x6 =>
  some (x6, s0)
theorem k_X12_of (T : zT) (N : Nat) (s0 : zS) (a0 : Nat) (x1 : Int32) (x2 : Int32) : ∀ q, f_X12_of T N s0 a0 x1 x2 = some q → T.1 a0 = 12 := by
  intro q h
  unfold f_X12_of at h
  exact zz_guard h (fun h _ => h)
set_option maxHeartbeats 4000000 in
set_option maxRecDepth 100000 in
theorem c_X12_of (l : Launch) (D : va_G) (cy : Nat → ClassId) (T : zT) (hT : zok T) (ad : Nat → Nat) (N : Nat) (s0 : zS) (sz : Nat) (a0 : Nat) (x1 : Int32) (x2 : Int32) : ∀ (r0 : Int32) (σ0 : zS), f_X12_of T N s0 a0 x1 x2 = some (r0, σ0) → Met l yX12_of wsX12_of ({ frames := 0, cells := 0, slots := 0, locals := 0 }) (va_Pc [.ref (ad a0), .int x1, .int x2] (zPre D cy T ad s0 sz)) (va_Qi (fun (r2 : Int32) (σ2 : zS) => r2 = r0 ∧ σ2 = σ0) (zAt D cy T ad (zA T ad sz)) (zA T ad sz)) 0 0 (zA T ad sz) := by
  intro r0 σ0 hq
  refine Met.ofW (cc := cX12_of) (maxL := 3) (ret := (some .int)) (by decide) rfl ?_
  intro p e s m args below meth c s₁ B hml hv
  obtain ⟨hargs, hsz, hP, hK, hD0, hN⟩ := hv
  have hx := B.exec
  have hb := B.bytes
  have hr := B.returns
  have hts := atoms_spec (ws := wsX12_of) B.pre
  have hown : s.vm.findClass RX12 = some m.cls := findClass_of_methodNamed B.named
  have hlocks := B.notSynchronized
  have S : CallFix p m c cX12_of 3 s args wsX12_of RX12 := ⟨hx, hb, hml, hown, hts⟩
  subst hsz
  have hB : zB D cy T ad (zA T ad s.heap.size) s.heap s0 s.heap [] s := zz_entry hP hK hD0 hN
  obtain ⟨ls, hent, hl⟩ := zz_ent m hargs (n := 3) (Nat.le_of_ble_eq_true rfl)
  rw [hent]
  have hl : lv_has ls 3 [(0, .ref (ad a0)), (1, .int x1), (2, .int x2)] := hl
  have iwX12 : ∀ w ∈ u_ws RX12 TX12 24, w ∈ wsX12_of := fun w h => wS (inWX12 w h)
  unfold f_X12_of at hq
  refine zz_guard hq (fun hk0 hq => ?_)
  refine lv_aload_n hx hb dX12_of_0 rfl (lv_at hl 0 rfl) ?_
  refine zz_getR S hT hB (C := RX12) (ref := "DiagramDeskModel") (F := TX12) (N := 24) (index := 7) 12 0 iwX12 rfl (by decide) (by decide) rfl rfl (wS wd_569) (fun _ h9 => h9) dX12_of_1 hq (fun a5 hq => ?_)
  refine lv_bipush (v := 10) hx hb dX12_of_4 (by decide) ?_
  refine lv_bipush (v := 8) hx hb dX12_of_6 (by decide) ?_
  refine lv_iload_n hx hb dX12_of_8 rfl (lv_at hl 1 rfl) ?_
  refine lv_imul hx hb dX12_of_9 ?_
  refine lv_iadd hx hb dX12_of_10 ?_
  refine lv_iload_n hx hb dX12_of_11 rfl (lv_at hl 2 rfl) ?_
  refine lv_iadd hx hb dX12_of_12 ?_
  refine zz_ald S hT hB dX12_of_13 hq (fun x6 hq => ?_)
  exact zz_iret S hB hr hlocks dX12_of_14 hq
def f_X12_isShape (T : zT) (N : Nat) (s0 : zS) (a0 : Nat) (x1 : Int32) : Option (Int32 × zS) :=
  zz1 (T.1 a0 = 12) <|
  zb2 (f_X12_in T N s0 x1 (0 : Int32) (19 : Int32)) fun x5 s4 =>
  if x5 = 0 then (
    rZ (0 : Int32) s4)
  else (
    zb2 (f_X12_of T N s4 a0 x1 (0 : Int32)) fun x7 s6 =>
    if ¬ x7 = (1 : Int32) then (
      rZ (0 : Int32) s6)
    else (
      rZ (1 : Int32) s6))
theorem k_X12_isShape (T : zT) (N : Nat) (s0 : zS) (a0 : Nat) (x1 : Int32) : ∀ q, f_X12_isShape T N s0 a0 x1 = some q → T.1 a0 = 12 := by
  intro q h
  unfold f_X12_isShape at h
  exact zz_guard h (fun h _ => h)
set_option maxHeartbeats 4000000 in
set_option maxRecDepth 100000 in
theorem c_X12_isShape (l : Launch) (D : va_G) (cy : Nat → ClassId) (T : zT) (hT : zok T) (ad : Nat → Nat) (N : Nat) (s0 : zS) (sz : Nat) (a0 : Nat) (x1 : Int32) : ∀ (r0 : Int32) (σ0 : zS), f_X12_isShape T N s0 a0 x1 = some (r0, σ0) → Met l yX12_isShape wsX12_isShape ({ frames := 1, cells := 0, slots := 0, locals := 22 }) (va_Pc [.ref (ad a0), .int x1] (zPre D cy T ad s0 sz)) (va_Qi (fun (r2 : Int32) (σ2 : zS) => r2 = r0 ∧ σ2 = σ0) (zAt D cy T ad (zA T ad sz)) (zA T ad sz)) 0 0 (zA T ad sz) := by
  intro r0 σ0 hq
  refine Met.ofW (cc := cX12_isShape) (maxL := 2) (ret := (some .boolean)) (by decide) rfl ?_
  intro p e s m args below meth c s₁ B hml hv
  obtain ⟨hargs, hsz, hP, hK, hD0, hN⟩ := hv
  have hx := B.exec
  have hb := B.bytes
  have hr := B.returns
  have hts := atoms_spec (ws := wsX12_isShape) B.pre
  have hown : s.vm.findClass RX12 = some m.cls := findClass_of_methodNamed B.named
  have hlocks := B.notSynchronized
  have S : CallFix p m c cX12_isShape 2 s args wsX12_isShape RX12 := ⟨hx, hb, hml, hown, hts⟩
  subst hsz
  have hB : zB D cy T ad (zA T ad s.heap.size) s.heap s0 s.heap [] s := zz_entry hP hK hD0 hN
  obtain ⟨ls, hent, hl⟩ := zz_ent m hargs (n := 2) (Nat.le_of_ble_eq_true rfl)
  rw [hent]
  have hl : lv_has ls 2 [(0, .ref (ad a0)), (1, .int x1)] := hl
  unfold f_X12_isShape at hq
  refine zz_guard hq (fun hk0 hq => ?_)
  refine lv_iload_n hx hb dX12_isShape_0 rfl (lv_at hl 1 rfl) ?_
  refine lv_iconst (v := 0) hx hb dX12_isShape_1 (by decide) ?_
  refine lv_bipush (v := 19) hx hb dX12_isShape_2 (by decide) ?_
  refine zz_callSi S hT hB (As := [.int x1, .int (0 : Int32), .int (19 : Int32)]) (o := f_X12_in T N s0 x1 (0 : Int32) (19 : Int32)) (c_X12_in l D cy T hT ad N s0 _ x1 (0 : Int32) (19 : Int32)) (va_cwS 3 hts (gS wSub wd_570 wd_571 wd_572 wd_573) rfl rfl rfl (by decide +kernel) ⟨Nat.le_of_ble_eq_true rfl, Nat.le_of_ble_eq_true rfl⟩) rfl hl.1 rfl (Nat.le_of_ble_eq_true rfl) dX12_isShape_4 hq (fun x5 s4 H locs hq hB => ?_)
  refine zz_if_eq (tgt := 24) hx hb dX12_isShape_7 (by decide) hq (fun hq => ?_) (fun hq => ?_)
  · refine lv_iconst (v := 0) hx hb dX12_isShape_24 (by decide) ?_
    exact zz_zret S hB hr hlocks dX12_isShape_25 hq
  · refine lv_aload_n hx hb dX12_isShape_10 rfl (lv_at hl 0 rfl) ?_
    refine lv_iload_n hx hb dX12_isShape_11 rfl (lv_at hl 1 rfl) ?_
    refine lv_iconst (v := 0) hx hb dX12_isShape_12 (by decide) ?_
    refine zz_callVi S hT hB (As := [.int x1, .int (0 : Int32)]) (b := a0) (o := f_X12_of T N s4 a0 x1 (0 : Int32)) (c_X12_of l D cy T hT ad N s4 _ a0 x1 (0 : Int32)) (cwV 2 hts (gV wSub wd_574 wd_575 wd_576 wd_572 wd_577) rfl rfl rfl (by decide +kernel) ⟨Nat.le_of_ble_eq_true rfl, Nat.le_of_ble_eq_true rfl⟩) (F := TX12) (NF := 24) 12 rfl (by decide) (k_X12_of T N s4 a0 x1 (0 : Int32)) rfl hl.1 rfl (Nat.le_of_ble_eq_true rfl) dX12_isShape_13 hq (fun x7 s6 H locs hq hB => ?_)
    refine lv_iconst (v := 1) hx hb dX12_isShape_16 (by decide) ?_
    refine zz_icmp_ne (tgt := 24) hx hb dX12_isShape_17 (by decide) hq (fun hq => ?_) (fun hq => ?_)
    · refine lv_iconst (v := 0) hx hb dX12_isShape_24 (by decide) ?_
      exact zz_zret S hB hr hlocks dX12_isShape_25 hq
    · refine lv_iconst (v := 1) hx hb dX12_isShape_20 (by decide) ?_
      refine lv_goto (tgt := 25) hx hb dX12_isShape_21 (by decide) ?_
      exact zz_zret S hB hr hlocks dX12_isShape_25 hq
def f_X12_isSelected (T : zT) (N : Nat) (s0 : zS) (a0 : Nat) (x1 : Int32) : Option (Int32 × zS) :=
  zz1 (T.1 a0 = 12) <|
  zb2 (f_X12_of T N s0 a0 x1 (0 : Int32)) fun x5 s4 =>
  if ¬ x5 = (1 : Int32) then (
    rZ (0 : Int32) s4)
  else (
    zb2 (f_X12_of T N s4 a0 x1 (6 : Int32)) fun x7 s6 =>
    if ¬ x7 = (1 : Int32) then (
      rZ (0 : Int32) s6)
    else (
      rZ (1 : Int32) s6))
theorem k_X12_isSelected (T : zT) (N : Nat) (s0 : zS) (a0 : Nat) (x1 : Int32) : ∀ q, f_X12_isSelected T N s0 a0 x1 = some q → T.1 a0 = 12 := by
  intro q h
  unfold f_X12_isSelected at h
  exact zz_guard h (fun h _ => h)
set_option maxHeartbeats 4000000 in
set_option maxRecDepth 100000 in
theorem c_X12_isSelected (l : Launch) (D : va_G) (cy : Nat → ClassId) (T : zT) (hT : zok T) (ad : Nat → Nat) (N : Nat) (s0 : zS) (sz : Nat) (a0 : Nat) (x1 : Int32) : ∀ (r0 : Int32) (σ0 : zS), f_X12_isSelected T N s0 a0 x1 = some (r0, σ0) → Met l yX12_isSelected wsX12_isSelected ({ frames := 1, cells := 0, slots := 0, locals := 22 }) (va_Pc [.ref (ad a0), .int x1] (zPre D cy T ad s0 sz)) (va_Qi (fun (r2 : Int32) (σ2 : zS) => r2 = r0 ∧ σ2 = σ0) (zAt D cy T ad (zA T ad sz)) (zA T ad sz)) 0 0 (zA T ad sz) := by
  intro r0 σ0 hq
  refine Met.ofW (cc := cX12_isSelected) (maxL := 2) (ret := (some .boolean)) (by decide) rfl ?_
  intro p e s m args below meth c s₁ B hml hv
  obtain ⟨hargs, hsz, hP, hK, hD0, hN⟩ := hv
  have hx := B.exec
  have hb := B.bytes
  have hr := B.returns
  have hts := atoms_spec (ws := wsX12_isSelected) B.pre
  have hown : s.vm.findClass RX12 = some m.cls := findClass_of_methodNamed B.named
  have hlocks := B.notSynchronized
  have S : CallFix p m c cX12_isSelected 2 s args wsX12_isSelected RX12 := ⟨hx, hb, hml, hown, hts⟩
  subst hsz
  have hB : zB D cy T ad (zA T ad s.heap.size) s.heap s0 s.heap [] s := zz_entry hP hK hD0 hN
  obtain ⟨ls, hent, hl⟩ := zz_ent m hargs (n := 2) (Nat.le_of_ble_eq_true rfl)
  rw [hent]
  have hl : lv_has ls 2 [(0, .ref (ad a0)), (1, .int x1)] := hl
  unfold f_X12_isSelected at hq
  refine zz_guard hq (fun hk0 hq => ?_)
  refine lv_aload_n hx hb dX12_isSelected_0 rfl (lv_at hl 0 rfl) ?_
  refine lv_iload_n hx hb dX12_isSelected_1 rfl (lv_at hl 1 rfl) ?_
  refine lv_iconst (v := 0) hx hb dX12_isSelected_2 (by decide) ?_
  refine zz_callVi S hT hB (As := [.int x1, .int (0 : Int32)]) (b := a0) (o := f_X12_of T N s0 a0 x1 (0 : Int32)) (c_X12_of l D cy T hT ad N s0 _ a0 x1 (0 : Int32)) (cwV 2 hts (gV wSub wd_574 wd_575 wd_576 wd_572 wd_577) rfl rfl rfl (by decide +kernel) ⟨Nat.le_of_ble_eq_true rfl, Nat.le_of_ble_eq_true rfl⟩) (F := TX12) (NF := 24) 12 rfl (by decide) (k_X12_of T N s0 a0 x1 (0 : Int32)) rfl hl.1 rfl (Nat.le_of_ble_eq_true rfl) dX12_isSelected_3 hq (fun x5 s4 H locs hq hB => ?_)
  refine lv_iconst (v := 1) hx hb dX12_isSelected_6 (by decide) ?_
  refine zz_icmp_ne (tgt := 25) hx hb dX12_isSelected_7 (by decide) hq (fun hq => ?_) (fun hq => ?_)
  · refine lv_iconst (v := 0) hx hb dX12_isSelected_25 (by decide) ?_
    exact zz_zret S hB hr hlocks dX12_isSelected_26 hq
  · refine lv_aload_n hx hb dX12_isSelected_10 rfl (lv_at hl 0 rfl) ?_
    refine lv_iload_n hx hb dX12_isSelected_11 rfl (lv_at hl 1 rfl) ?_
    refine lv_bipush (v := 6) hx hb dX12_isSelected_12 (by decide) ?_
    refine zz_callVi S hT hB (As := [.int x1, .int (6 : Int32)]) (b := a0) (o := f_X12_of T N s4 a0 x1 (6 : Int32)) (c_X12_of l D cy T hT ad N s4 _ a0 x1 (6 : Int32)) (cwV 2 hts (gV wSub wd_574 wd_575 wd_576 wd_572 wd_577) rfl rfl rfl (by decide +kernel) ⟨Nat.le_of_ble_eq_true rfl, Nat.le_of_ble_eq_true rfl⟩) (F := TX12) (NF := 24) 12 rfl (by decide) (k_X12_of T N s4 a0 x1 (6 : Int32)) rfl hl.1 rfl (Nat.le_of_ble_eq_true rfl) dX12_isSelected_14 hq (fun x7 s6 H locs hq hB => ?_)
    refine lv_iconst (v := 1) hx hb dX12_isSelected_17 (by decide) ?_
    refine zz_icmp_ne (tgt := 25) hx hb dX12_isSelected_18 (by decide) hq (fun hq => ?_) (fun hq => ?_)
    · refine lv_iconst (v := 0) hx hb dX12_isSelected_25 (by decide) ?_
      exact zz_zret S hB hr hlocks dX12_isSelected_26 hq
    · refine lv_iconst (v := 1) hx hb dX12_isSelected_21 (by decide) ?_
      refine lv_goto (tgt := 26) hx hb dX12_isSelected_22 (by decide) ?_
      exact zz_zret S hB hr hlocks dX12_isSelected_26 hq
def f_X12_begin (T : zT) (N : Nat) (s0 : zS) (a0 : Nat) (x1 : Int32) (x2 : Int32) : Option (Int32 × zS) :=
  zz1 (T.1 a0 = 12) <|
  zb2 (f_X12_of T N s0 a0 x1 ((2 : Int32) + x2)) fun x6 s5 =>
  some (x6, s5)
theorem k_X12_begin (T : zT) (N : Nat) (s0 : zS) (a0 : Nat) (x1 : Int32) (x2 : Int32) : ∀ q, f_X12_begin T N s0 a0 x1 x2 = some q → T.1 a0 = 12 := by
  intro q h
  unfold f_X12_begin at h
  exact zz_guard h (fun h _ => h)
set_option maxHeartbeats 4000000 in
set_option maxRecDepth 100000 in
theorem c_X12_begin (l : Launch) (D : va_G) (cy : Nat → ClassId) (T : zT) (hT : zok T) (ad : Nat → Nat) (N : Nat) (s0 : zS) (sz : Nat) (a0 : Nat) (x1 : Int32) (x2 : Int32) : ∀ (r0 : Int32) (σ0 : zS), f_X12_begin T N s0 a0 x1 x2 = some (r0, σ0) → Met l yX12_begin wsX12_begin ({ frames := 1, cells := 0, slots := 0, locals := 22 }) (va_Pc [.ref (ad a0), .int x1, .int x2] (zPre D cy T ad s0 sz)) (va_Qi (fun (r2 : Int32) (σ2 : zS) => r2 = r0 ∧ σ2 = σ0) (zAt D cy T ad (zA T ad sz)) (zA T ad sz)) 0 0 (zA T ad sz) := by
  intro r0 σ0 hq
  refine Met.ofW (cc := cX12_begin) (maxL := 3) (ret := (some .int)) (by decide) rfl ?_
  intro p e s m args below meth c s₁ B hml hv
  obtain ⟨hargs, hsz, hP, hK, hD0, hN⟩ := hv
  have hx := B.exec
  have hb := B.bytes
  have hr := B.returns
  have hts := atoms_spec (ws := wsX12_begin) B.pre
  have hown : s.vm.findClass RX12 = some m.cls := findClass_of_methodNamed B.named
  have hlocks := B.notSynchronized
  have S : CallFix p m c cX12_begin 3 s args wsX12_begin RX12 := ⟨hx, hb, hml, hown, hts⟩
  subst hsz
  have hB : zB D cy T ad (zA T ad s.heap.size) s.heap s0 s.heap [] s := zz_entry hP hK hD0 hN
  obtain ⟨ls, hent, hl⟩ := zz_ent m hargs (n := 3) (Nat.le_of_ble_eq_true rfl)
  rw [hent]
  have hl : lv_has ls 3 [(0, .ref (ad a0)), (1, .int x1), (2, .int x2)] := hl
  unfold f_X12_begin at hq
  refine zz_guard hq (fun hk0 hq => ?_)
  refine lv_aload_n hx hb dX12_begin_0 rfl (lv_at hl 0 rfl) ?_
  refine lv_iload_n hx hb dX12_begin_1 rfl (lv_at hl 1 rfl) ?_
  refine lv_iconst (v := 2) hx hb dX12_begin_2 (by decide) ?_
  refine lv_iload_n hx hb dX12_begin_3 rfl (lv_at hl 2 rfl) ?_
  refine lv_iadd hx hb dX12_begin_4 ?_
  refine zz_callVi S hT hB (As := [.int x1, .int ((2 : Int32) + x2)]) (b := a0) (o := f_X12_of T N s0 a0 x1 ((2 : Int32) + x2)) (c_X12_of l D cy T hT ad N s0 _ a0 x1 ((2 : Int32) + x2)) (cwV 2 hts (gV wSub wd_574 wd_575 wd_576 wd_572 wd_577) rfl rfl rfl (by decide +kernel) ⟨Nat.le_of_ble_eq_true rfl, Nat.le_of_ble_eq_true rfl⟩) (F := TX12) (NF := 24) 12 rfl (by decide) (k_X12_of T N s0 a0 x1 ((2 : Int32) + x2)) rfl hl.1 rfl (Nat.le_of_ble_eq_true rfl) dX12_begin_5 hq (fun x6 s5 H locs hq hB => ?_)
  exact zz_iret S hB hr hlocks dX12_begin_8 hq
def f_X12_end (T : zT) (N : Nat) (s0 : zS) (a0 : Nat) (x1 : Int32) (x2 : Int32) : Option (Int32 × zS) :=
  zz1 (T.1 a0 = 12) <|
  zb2 (f_X12_of T N s0 a0 x1 ((2 : Int32) + x2)) fun x6 s5 =>
  zb2 (f_X12_of T N s5 a0 x1 ((4 : Int32) + x2)) fun x8 s7 =>
  some (x6 + x8, s7)
theorem k_X12_end (T : zT) (N : Nat) (s0 : zS) (a0 : Nat) (x1 : Int32) (x2 : Int32) : ∀ q, f_X12_end T N s0 a0 x1 x2 = some q → T.1 a0 = 12 := by
  intro q h
  unfold f_X12_end at h
  exact zz_guard h (fun h _ => h)
set_option maxHeartbeats 4000000 in
set_option maxRecDepth 100000 in
theorem c_X12_end (l : Launch) (D : va_G) (cy : Nat → ClassId) (T : zT) (hT : zok T) (ad : Nat → Nat) (N : Nat) (s0 : zS) (sz : Nat) (a0 : Nat) (x1 : Int32) (x2 : Int32) : ∀ (r0 : Int32) (σ0 : zS), f_X12_end T N s0 a0 x1 x2 = some (r0, σ0) → Met l yX12_end wsX12_end ({ frames := 1, cells := 0, slots := 0, locals := 22 }) (va_Pc [.ref (ad a0), .int x1, .int x2] (zPre D cy T ad s0 sz)) (va_Qi (fun (r2 : Int32) (σ2 : zS) => r2 = r0 ∧ σ2 = σ0) (zAt D cy T ad (zA T ad sz)) (zA T ad sz)) 0 0 (zA T ad sz) := by
  intro r0 σ0 hq
  refine Met.ofW (cc := cX12_end) (maxL := 3) (ret := (some .int)) (by decide) rfl ?_
  intro p e s m args below meth c s₁ B hml hv
  obtain ⟨hargs, hsz, hP, hK, hD0, hN⟩ := hv
  have hx := B.exec
  have hb := B.bytes
  have hr := B.returns
  have hts := atoms_spec (ws := wsX12_end) B.pre
  have hown : s.vm.findClass RX12 = some m.cls := findClass_of_methodNamed B.named
  have hlocks := B.notSynchronized
  have S : CallFix p m c cX12_end 3 s args wsX12_end RX12 := ⟨hx, hb, hml, hown, hts⟩
  subst hsz
  have hB : zB D cy T ad (zA T ad s.heap.size) s.heap s0 s.heap [] s := zz_entry hP hK hD0 hN
  obtain ⟨ls, hent, hl⟩ := zz_ent m hargs (n := 3) (Nat.le_of_ble_eq_true rfl)
  rw [hent]
  have hl : lv_has ls 3 [(0, .ref (ad a0)), (1, .int x1), (2, .int x2)] := hl
  unfold f_X12_end at hq
  refine zz_guard hq (fun hk0 hq => ?_)
  refine lv_aload_n hx hb dX12_end_0 rfl (lv_at hl 0 rfl) ?_
  refine lv_iload_n hx hb dX12_end_1 rfl (lv_at hl 1 rfl) ?_
  refine lv_iconst (v := 2) hx hb dX12_end_2 (by decide) ?_
  refine lv_iload_n hx hb dX12_end_3 rfl (lv_at hl 2 rfl) ?_
  refine lv_iadd hx hb dX12_end_4 ?_
  refine zz_callVi S hT hB (As := [.int x1, .int ((2 : Int32) + x2)]) (b := a0) (o := f_X12_of T N s0 a0 x1 ((2 : Int32) + x2)) (c_X12_of l D cy T hT ad N s0 _ a0 x1 ((2 : Int32) + x2)) (cwV 2 hts (gV wSub wd_574 wd_575 wd_576 wd_572 wd_577) rfl rfl rfl (by decide +kernel) ⟨Nat.le_of_ble_eq_true rfl, Nat.le_of_ble_eq_true rfl⟩) (F := TX12) (NF := 24) 12 rfl (by decide) (k_X12_of T N s0 a0 x1 ((2 : Int32) + x2)) rfl hl.1 rfl (Nat.le_of_ble_eq_true rfl) dX12_end_5 hq (fun x6 s5 H locs hq hB => ?_)
  refine lv_aload_n hx hb dX12_end_8 rfl (lv_at hl 0 rfl) ?_
  refine lv_iload_n hx hb dX12_end_9 rfl (lv_at hl 1 rfl) ?_
  refine lv_iconst (v := 4) hx hb dX12_end_10 (by decide) ?_
  refine lv_iload_n hx hb dX12_end_11 rfl (lv_at hl 2 rfl) ?_
  refine lv_iadd hx hb dX12_end_12 ?_
  refine zz_callVi S hT hB (As := [.int x1, .int ((4 : Int32) + x2)]) (b := a0) (o := f_X12_of T N s5 a0 x1 ((4 : Int32) + x2)) (c_X12_of l D cy T hT ad N s5 _ a0 x1 ((4 : Int32) + x2)) (cwV 2 hts (gV wSub wd_574 wd_575 wd_576 wd_572 wd_577) rfl rfl rfl (by decide +kernel) ⟨Nat.le_of_ble_eq_true rfl, Nat.le_of_ble_eq_true rfl⟩) (F := TX12) (NF := 24) 12 rfl (by decide) (k_X12_of T N s5 a0 x1 ((4 : Int32) + x2)) rfl hl.1 rfl (Nat.le_of_ble_eq_true rfl) dX12_end_13 hq (fun x8 s7 H locs hq hB => ?_)
  refine lv_iadd hx hb dX12_end_16 ?_
  exact zz_iret S hB hr hlocks dX12_end_17 hq
def f_X12_center (T : zT) (N : Nat) (s0 : zS) (a0 : Nat) (x1 : Int32) (x2 : Int32) : Option (Int32 × zS) :=
  zz1 (T.1 a0 = 12) <|
  zb2 (f_X12_of T N s0 a0 x1 ((2 : Int32) + x2)) fun x6 s5 =>
  zb2 (f_X12_of T N s5 a0 x1 ((4 : Int32) + x2)) fun x8 s7 =>
  some (x6 + (x8 / (2 : Int32)), s7)
theorem k_X12_center (T : zT) (N : Nat) (s0 : zS) (a0 : Nat) (x1 : Int32) (x2 : Int32) : ∀ q, f_X12_center T N s0 a0 x1 x2 = some q → T.1 a0 = 12 := by
  intro q h
  unfold f_X12_center at h
  exact zz_guard h (fun h _ => h)
set_option maxHeartbeats 4000000 in
set_option maxRecDepth 100000 in
theorem c_X12_center (l : Launch) (D : va_G) (cy : Nat → ClassId) (T : zT) (hT : zok T) (ad : Nat → Nat) (N : Nat) (s0 : zS) (sz : Nat) (a0 : Nat) (x1 : Int32) (x2 : Int32) : ∀ (r0 : Int32) (σ0 : zS), f_X12_center T N s0 a0 x1 x2 = some (r0, σ0) → Met l yX12_center wsX12_center ({ frames := 1, cells := 0, slots := 0, locals := 22 }) (va_Pc [.ref (ad a0), .int x1, .int x2] (zPre D cy T ad s0 sz)) (va_Qi (fun (r2 : Int32) (σ2 : zS) => r2 = r0 ∧ σ2 = σ0) (zAt D cy T ad (zA T ad sz)) (zA T ad sz)) 0 0 (zA T ad sz) := by
  intro r0 σ0 hq
  refine Met.ofW (cc := cX12_center) (maxL := 3) (ret := (some .int)) (by decide) rfl ?_
  intro p e s m args below meth c s₁ B hml hv
  obtain ⟨hargs, hsz, hP, hK, hD0, hN⟩ := hv
  have hx := B.exec
  have hb := B.bytes
  have hr := B.returns
  have hts := atoms_spec (ws := wsX12_center) B.pre
  have hown : s.vm.findClass RX12 = some m.cls := findClass_of_methodNamed B.named
  have hlocks := B.notSynchronized
  have S : CallFix p m c cX12_center 3 s args wsX12_center RX12 := ⟨hx, hb, hml, hown, hts⟩
  subst hsz
  have hB : zB D cy T ad (zA T ad s.heap.size) s.heap s0 s.heap [] s := zz_entry hP hK hD0 hN
  obtain ⟨ls, hent, hl⟩ := zz_ent m hargs (n := 3) (Nat.le_of_ble_eq_true rfl)
  rw [hent]
  have hl : lv_has ls 3 [(0, .ref (ad a0)), (1, .int x1), (2, .int x2)] := hl
  unfold f_X12_center at hq
  refine zz_guard hq (fun hk0 hq => ?_)
  refine lv_aload_n hx hb dX12_center_0 rfl (lv_at hl 0 rfl) ?_
  refine lv_iload_n hx hb dX12_center_1 rfl (lv_at hl 1 rfl) ?_
  refine lv_iconst (v := 2) hx hb dX12_center_2 (by decide) ?_
  refine lv_iload_n hx hb dX12_center_3 rfl (lv_at hl 2 rfl) ?_
  refine lv_iadd hx hb dX12_center_4 ?_
  refine zz_callVi S hT hB (As := [.int x1, .int ((2 : Int32) + x2)]) (b := a0) (o := f_X12_of T N s0 a0 x1 ((2 : Int32) + x2)) (c_X12_of l D cy T hT ad N s0 _ a0 x1 ((2 : Int32) + x2)) (cwV 2 hts (gV wSub wd_574 wd_575 wd_576 wd_572 wd_577) rfl rfl rfl (by decide +kernel) ⟨Nat.le_of_ble_eq_true rfl, Nat.le_of_ble_eq_true rfl⟩) (F := TX12) (NF := 24) 12 rfl (by decide) (k_X12_of T N s0 a0 x1 ((2 : Int32) + x2)) rfl hl.1 rfl (Nat.le_of_ble_eq_true rfl) dX12_center_5 hq (fun x6 s5 H locs hq hB => ?_)
  refine lv_aload_n hx hb dX12_center_8 rfl (lv_at hl 0 rfl) ?_
  refine lv_iload_n hx hb dX12_center_9 rfl (lv_at hl 1 rfl) ?_
  refine lv_iconst (v := 4) hx hb dX12_center_10 (by decide) ?_
  refine lv_iload_n hx hb dX12_center_11 rfl (lv_at hl 2 rfl) ?_
  refine lv_iadd hx hb dX12_center_12 ?_
  refine zz_callVi S hT hB (As := [.int x1, .int ((4 : Int32) + x2)]) (b := a0) (o := f_X12_of T N s5 a0 x1 ((4 : Int32) + x2)) (c_X12_of l D cy T hT ad N s5 _ a0 x1 ((4 : Int32) + x2)) (cwV 2 hts (gV wSub wd_574 wd_575 wd_576 wd_572 wd_577) rfl rfl rfl (by decide +kernel) ⟨Nat.le_of_ble_eq_true rfl, Nat.le_of_ble_eq_true rfl⟩) (F := TX12) (NF := 24) 12 rfl (by decide) (k_X12_of T N s5 a0 x1 ((4 : Int32) + x2)) rfl hl.1 rfl (Nat.le_of_ble_eq_true rfl) dX12_center_13 hq (fun x8 s7 H locs hq hB => ?_)
  refine lv_iconst (v := 2) hx hb dX12_center_16 (by decide) ?_
  refine lv_idiv hx hb dX12_center_17 (by decide) ?_
  refine lv_iadd hx hb dX12_center_18 ?_
  exact zz_iret S hB hr hlocks dX12_center_19 hq
def f_X12_isGroup (T : zT) (N : Nat) (s0 : zS) (a0 : Nat) (x1 : Int32) : Option (Int32 × zS) :=
  zz1 (T.1 a0 = 12) <|
  zb2 (f_X12_in T N s0 x1 (0 : Int32) (7 : Int32)) fun x5 s4 =>
  if x5 = 0 then (
    rZ (0 : Int32) s4)
  else (
    (gR T s4 a0 12 0).bind fun a6 =>
    (aI T s4 a6 13 ((290 : Int32) + ((2 : Int32) * x1))).bind fun x7 =>
    if ¬ x7 = (1 : Int32) then (
      rZ (0 : Int32) s4)
    else (
      rZ (1 : Int32) s4))
theorem k_X12_isGroup (T : zT) (N : Nat) (s0 : zS) (a0 : Nat) (x1 : Int32) : ∀ q, f_X12_isGroup T N s0 a0 x1 = some q → T.1 a0 = 12 := by
  intro q h
  unfold f_X12_isGroup at h
  exact zz_guard h (fun h _ => h)
set_option maxHeartbeats 4000000 in
set_option maxRecDepth 100000 in
theorem c_X12_isGroup (l : Launch) (D : va_G) (cy : Nat → ClassId) (T : zT) (hT : zok T) (ad : Nat → Nat) (N : Nat) (s0 : zS) (sz : Nat) (a0 : Nat) (x1 : Int32) : ∀ (r0 : Int32) (σ0 : zS), f_X12_isGroup T N s0 a0 x1 = some (r0, σ0) → Met l yX12_isGroup wsX12_isGroup ({ frames := 1, cells := 0, slots := 0, locals := 22 }) (va_Pc [.ref (ad a0), .int x1] (zPre D cy T ad s0 sz)) (va_Qi (fun (r2 : Int32) (σ2 : zS) => r2 = r0 ∧ σ2 = σ0) (zAt D cy T ad (zA T ad sz)) (zA T ad sz)) 0 0 (zA T ad sz) := by
  intro r0 σ0 hq
  refine Met.ofW (cc := cX12_isGroup) (maxL := 2) (ret := (some .boolean)) (by decide) rfl ?_
  intro p e s m args below meth c s₁ B hml hv
  obtain ⟨hargs, hsz, hP, hK, hD0, hN⟩ := hv
  have hx := B.exec
  have hb := B.bytes
  have hr := B.returns
  have hts := atoms_spec (ws := wsX12_isGroup) B.pre
  have hown : s.vm.findClass RX12 = some m.cls := findClass_of_methodNamed B.named
  have hlocks := B.notSynchronized
  have S : CallFix p m c cX12_isGroup 2 s args wsX12_isGroup RX12 := ⟨hx, hb, hml, hown, hts⟩
  subst hsz
  have hB : zB D cy T ad (zA T ad s.heap.size) s.heap s0 s.heap [] s := zz_entry hP hK hD0 hN
  obtain ⟨ls, hent, hl⟩ := zz_ent m hargs (n := 2) (Nat.le_of_ble_eq_true rfl)
  rw [hent]
  have hl : lv_has ls 2 [(0, .ref (ad a0)), (1, .int x1)] := hl
  have iwX12 : ∀ w ∈ u_ws RX12 TX12 24, w ∈ wsX12_isGroup := fun w h => wS (inWX12 w h)
  unfold f_X12_isGroup at hq
  refine zz_guard hq (fun hk0 hq => ?_)
  refine lv_iload_n hx hb dX12_isGroup_0 rfl (lv_at hl 1 rfl) ?_
  refine lv_iconst (v := 0) hx hb dX12_isGroup_1 (by decide) ?_
  refine lv_bipush (v := 7) hx hb dX12_isGroup_2 (by decide) ?_
  refine zz_callSi S hT hB (As := [.int x1, .int (0 : Int32), .int (7 : Int32)]) (o := f_X12_in T N s0 x1 (0 : Int32) (7 : Int32)) (c_X12_in l D cy T hT ad N s0 _ x1 (0 : Int32) (7 : Int32)) (va_cwS 3 hts (gS wSub wd_570 wd_571 wd_572 wd_573) rfl rfl rfl (by decide +kernel) ⟨Nat.le_of_ble_eq_true rfl, Nat.le_of_ble_eq_true rfl⟩) rfl hl.1 rfl (Nat.le_of_ble_eq_true rfl) dX12_isGroup_4 hq (fun x5 s4 H locs hq hB => ?_)
  refine zz_if_eq (tgt := 30) hx hb dX12_isGroup_7 (by decide) hq (fun hq => ?_) (fun hq => ?_)
  · refine lv_iconst (v := 0) hx hb dX12_isGroup_30 (by decide) ?_
    exact zz_zret S hB hr hlocks dX12_isGroup_31 hq
  · refine lv_aload_n hx hb dX12_isGroup_10 rfl (lv_at hl 0 rfl) ?_
    refine zz_getR S hT hB (C := RX12) (ref := "DiagramDeskModel") (F := TX12) (N := 24) (index := 7) 12 0 iwX12 rfl (by decide) (by decide) rfl rfl (wS wd_569) (fun _ h9 => h9) dX12_isGroup_11 hq (fun a6 hq => ?_)
    refine lv_sipush (v := 290) hx hb dX12_isGroup_14 (by decide) ?_
    refine lv_iconst (v := 2) hx hb dX12_isGroup_17 (by decide) ?_
    refine lv_iload_n hx hb dX12_isGroup_18 rfl (lv_at hl 1 rfl) ?_
    refine lv_imul hx hb dX12_isGroup_19 ?_
    refine lv_iadd hx hb dX12_isGroup_20 ?_
    refine zz_ald S hT hB dX12_isGroup_21 hq (fun x7 hq => ?_)
    refine lv_iconst (v := 1) hx hb dX12_isGroup_22 (by decide) ?_
    refine zz_icmp_ne (tgt := 30) hx hb dX12_isGroup_23 (by decide) hq (fun hq => ?_) (fun hq => ?_)
    · refine lv_iconst (v := 0) hx hb dX12_isGroup_30 (by decide) ?_
      exact zz_zret S hB hr hlocks dX12_isGroup_31 hq
    · refine lv_iconst (v := 1) hx hb dX12_isGroup_26 (by decide) ?_
      refine lv_goto (tgt := 31) hx hb dX12_isGroup_27 (by decide) ?_
      exact zz_zret S hB hr hlocks dX12_isGroup_31 hq
def f_X12_groupOf (T : zT) (N : Nat) (s0 : zS) (a0 : Nat) (x1 : Int32) : Option (Int32 × zS) :=
  zz1 (T.1 a0 = 12) <|
  zb2 (f_X12_of T N s0 a0 x1 (7 : Int32)) fun x5 s4 =>
  some (x5 - (1 : Int32), s4)
theorem k_X12_groupOf (T : zT) (N : Nat) (s0 : zS) (a0 : Nat) (x1 : Int32) : ∀ q, f_X12_groupOf T N s0 a0 x1 = some q → T.1 a0 = 12 := by
  intro q h
  unfold f_X12_groupOf at h
  exact zz_guard h (fun h _ => h)
set_option maxHeartbeats 4000000 in
set_option maxRecDepth 100000 in
theorem c_X12_groupOf (l : Launch) (D : va_G) (cy : Nat → ClassId) (T : zT) (hT : zok T) (ad : Nat → Nat) (N : Nat) (s0 : zS) (sz : Nat) (a0 : Nat) (x1 : Int32) : ∀ (r0 : Int32) (σ0 : zS), f_X12_groupOf T N s0 a0 x1 = some (r0, σ0) → Met l yX12_groupOf wsX12_groupOf ({ frames := 1, cells := 0, slots := 0, locals := 22 }) (va_Pc [.ref (ad a0), .int x1] (zPre D cy T ad s0 sz)) (va_Qi (fun (r2 : Int32) (σ2 : zS) => r2 = r0 ∧ σ2 = σ0) (zAt D cy T ad (zA T ad sz)) (zA T ad sz)) 0 0 (zA T ad sz) := by
  intro r0 σ0 hq
  refine Met.ofW (cc := cX12_groupOf) (maxL := 2) (ret := (some .int)) (by decide) rfl ?_
  intro p e s m args below meth c s₁ B hml hv
  obtain ⟨hargs, hsz, hP, hK, hD0, hN⟩ := hv
  have hx := B.exec
  have hb := B.bytes
  have hr := B.returns
  have hts := atoms_spec (ws := wsX12_groupOf) B.pre
  have hown : s.vm.findClass RX12 = some m.cls := findClass_of_methodNamed B.named
  have hlocks := B.notSynchronized
  have S : CallFix p m c cX12_groupOf 2 s args wsX12_groupOf RX12 := ⟨hx, hb, hml, hown, hts⟩
  subst hsz
  have hB : zB D cy T ad (zA T ad s.heap.size) s.heap s0 s.heap [] s := zz_entry hP hK hD0 hN
  obtain ⟨ls, hent, hl⟩ := zz_ent m hargs (n := 2) (Nat.le_of_ble_eq_true rfl)
  rw [hent]
  have hl : lv_has ls 2 [(0, .ref (ad a0)), (1, .int x1)] := hl
  unfold f_X12_groupOf at hq
  refine zz_guard hq (fun hk0 hq => ?_)
  refine lv_aload_n hx hb dX12_groupOf_0 rfl (lv_at hl 0 rfl) ?_
  refine lv_iload_n hx hb dX12_groupOf_1 rfl (lv_at hl 1 rfl) ?_
  refine lv_bipush (v := 7) hx hb dX12_groupOf_2 (by decide) ?_
  refine zz_callVi S hT hB (As := [.int x1, .int (7 : Int32)]) (b := a0) (o := f_X12_of T N s0 a0 x1 (7 : Int32)) (c_X12_of l D cy T hT ad N s0 _ a0 x1 (7 : Int32)) (cwV 2 hts (gV wSub wd_574 wd_575 wd_576 wd_572 wd_577) rfl rfl rfl (by decide +kernel) ⟨Nat.le_of_ble_eq_true rfl, Nat.le_of_ble_eq_true rfl⟩) (F := TX12) (NF := 24) 12 rfl (by decide) (k_X12_of T N s0 a0 x1 (7 : Int32)) rfl hl.1 rfl (Nat.le_of_ble_eq_true rfl) dX12_groupOf_4 hq (fun x5 s4 H locs hq hB => ?_)
  refine lv_iconst (v := 1) hx hb dX12_groupOf_7 (by decide) ?_
  refine lv_isub hx hb dX12_groupOf_8 ?_
  exact zz_iret S hB hr hlocks dX12_groupOf_9 hq
def f_X12_above (T : zT) (N : Nat) (s0 : zS) (a0 : Nat) (x1 : Int32) : Option (Int32 × zS) :=
  zz1 (T.1 a0 = 12) <|
  (gR T s0 a0 12 0).bind fun a4 =>
  (aI T s0 a4 13 (((290 : Int32) + ((2 : Int32) * x1)) + (1 : Int32))).bind fun x5 =>
  some (x5 - (1 : Int32), s0)
theorem k_X12_above (T : zT) (N : Nat) (s0 : zS) (a0 : Nat) (x1 : Int32) : ∀ q, f_X12_above T N s0 a0 x1 = some q → T.1 a0 = 12 := by
  intro q h
  unfold f_X12_above at h
  exact zz_guard h (fun h _ => h)
set_option maxHeartbeats 4000000 in
set_option maxRecDepth 100000 in
theorem c_X12_above (l : Launch) (D : va_G) (cy : Nat → ClassId) (T : zT) (hT : zok T) (ad : Nat → Nat) (N : Nat) (s0 : zS) (sz : Nat) (a0 : Nat) (x1 : Int32) : ∀ (r0 : Int32) (σ0 : zS), f_X12_above T N s0 a0 x1 = some (r0, σ0) → Met l yX12_above wsX12_above ({ frames := 0, cells := 0, slots := 0, locals := 0 }) (va_Pc [.ref (ad a0), .int x1] (zPre D cy T ad s0 sz)) (va_Qi (fun (r2 : Int32) (σ2 : zS) => r2 = r0 ∧ σ2 = σ0) (zAt D cy T ad (zA T ad sz)) (zA T ad sz)) 0 0 (zA T ad sz) := by
  intro r0 σ0 hq
  refine Met.ofW (cc := cX12_above) (maxL := 2) (ret := (some .int)) (by decide) rfl ?_
  intro p e s m args below meth c s₁ B hml hv
  obtain ⟨hargs, hsz, hP, hK, hD0, hN⟩ := hv
  have hx := B.exec
  have hb := B.bytes
  have hr := B.returns
  have hts := atoms_spec (ws := wsX12_above) B.pre
  have hown : s.vm.findClass RX12 = some m.cls := findClass_of_methodNamed B.named
  have hlocks := B.notSynchronized
  have S : CallFix p m c cX12_above 2 s args wsX12_above RX12 := ⟨hx, hb, hml, hown, hts⟩
  subst hsz
  have hB : zB D cy T ad (zA T ad s.heap.size) s.heap s0 s.heap [] s := zz_entry hP hK hD0 hN
  obtain ⟨ls, hent, hl⟩ := zz_ent m hargs (n := 2) (Nat.le_of_ble_eq_true rfl)
  rw [hent]
  have hl : lv_has ls 2 [(0, .ref (ad a0)), (1, .int x1)] := hl
  have iwX12 : ∀ w ∈ u_ws RX12 TX12 24, w ∈ wsX12_above := fun w h => wS (inWX12 w h)
  unfold f_X12_above at hq
  refine zz_guard hq (fun hk0 hq => ?_)
  refine lv_aload_n hx hb dX12_above_0 rfl (lv_at hl 0 rfl) ?_
  refine zz_getR S hT hB (C := RX12) (ref := "DiagramDeskModel") (F := TX12) (N := 24) (index := 7) 12 0 iwX12 rfl (by decide) (by decide) rfl rfl (wS wd_569) (fun _ h9 => h9) dX12_above_1 hq (fun a4 hq => ?_)
  refine lv_sipush (v := 290) hx hb dX12_above_4 (by decide) ?_
  refine lv_iconst (v := 2) hx hb dX12_above_7 (by decide) ?_
  refine lv_iload_n hx hb dX12_above_8 rfl (lv_at hl 1 rfl) ?_
  refine lv_imul hx hb dX12_above_9 ?_
  refine lv_iadd hx hb dX12_above_10 ?_
  refine lv_iconst (v := 1) hx hb dX12_above_11 (by decide) ?_
  refine lv_iadd hx hb dX12_above_12 ?_
  refine zz_ald S hT hB dX12_above_13 hq (fun x5 hq => ?_)
  refine lv_iconst (v := 1) hx hb dX12_above_14 (by decide) ?_
  refine lv_isub hx hb dX12_above_15 ?_
  exact zz_iret S hB hr hlocks dX12_above_16 hq
def f_X12_outermost_L6 (T : zT) (N : Nat) (a0 : Nat) (k6 : Int32 → zS → Option (Int32 × zS)) (x6 : Int32) (s7 : zS) : Option (Int32 × zS) :=
  if x6 < 0 then (
    some (x6, s7))
  else (
    zb2 (f_X12_above T N s7 a0 x6) fun x9 s8 =>
    if x9 < 0 then (
      some (x6, s8))
    else (
      zb2 (f_X12_above T N s8 a0 x6) fun x11 s10 =>
      k6 x11 s10))
def f_X12_outermost (T : zT) (N : Nat) (s0 : zS) (a0 : Nat) (x1 : Int32) : Option (Int32 × zS) :=
  zz1 (T.1 a0 = 12) <|
  zb2 (f_X12_groupOf T N s0 a0 x1) fun x5 s4 =>
  zl2 (f_X12_outermost_L6 T N a0) N x5 s4
theorem k_X12_outermost (T : zT) (N : Nat) (s0 : zS) (a0 : Nat) (x1 : Int32) : ∀ q, f_X12_outermost T N s0 a0 x1 = some q → T.1 a0 = 12 := by
  intro q h
  unfold f_X12_outermost at h
  exact zz_guard h (fun h _ => h)
set_option maxHeartbeats 4000000 in
set_option maxRecDepth 100000 in
theorem c_X12_outermost (l : Launch) (D : va_G) (cy : Nat → ClassId) (T : zT) (hT : zok T) (ad : Nat → Nat) (N : Nat) (s0 : zS) (sz : Nat) (a0 : Nat) (x1 : Int32) : ∀ (r0 : Int32) (σ0 : zS), f_X12_outermost T N s0 a0 x1 = some (r0, σ0) → Met l yX12_outermost wsX12_outermost ({ frames := 2, cells := 0, slots := 0, locals := 43 }) (va_Pc [.ref (ad a0), .int x1] (zPre D cy T ad s0 sz)) (va_Qi (fun (r2 : Int32) (σ2 : zS) => r2 = r0 ∧ σ2 = σ0) (zAt D cy T ad (zA T ad sz)) (zA T ad sz)) 0 0 (zA T ad sz) := by
  intro r0 σ0 hq
  refine Met.ofW (cc := cX12_outermost) (maxL := 3) (ret := (some .int)) (by decide) rfl ?_
  intro p e s m args below meth c s₁ B hml hv
  obtain ⟨hargs, hsz, hP, hK, hD0, hN⟩ := hv
  have hx := B.exec
  have hb := B.bytes
  have hr := B.returns
  have hts := atoms_spec (ws := wsX12_outermost) B.pre
  have hown : s.vm.findClass RX12 = some m.cls := findClass_of_methodNamed B.named
  have hlocks := B.notSynchronized
  have S : CallFix p m c cX12_outermost 3 s args wsX12_outermost RX12 := ⟨hx, hb, hml, hown, hts⟩
  subst hsz
  have hB : zB D cy T ad (zA T ad s.heap.size) s.heap s0 s.heap [] s := zz_entry hP hK hD0 hN
  obtain ⟨ls, hent, hl⟩ := zz_ent m hargs (n := 3) (Nat.le_of_ble_eq_true rfl)
  rw [hent]
  have hl : lv_has ls 3 [(0, .ref (ad a0)), (1, .int x1)] := hl
  unfold f_X12_outermost at hq
  refine zz_guard hq (fun hk0 hq => ?_)
  refine lv_aload_n hx hb dX12_outermost_0 rfl (lv_at hl 0 rfl) ?_
  refine lv_iload_n hx hb dX12_outermost_1 rfl (lv_at hl 1 rfl) ?_
  refine zz_callVi S hT hB (As := [.int x1]) (b := a0) (o := f_X12_groupOf T N s0 a0 x1) (c_X12_groupOf l D cy T hT ad N s0 _ a0 x1) (cwV 1 hts (gV wSub wd_578 wd_579 wd_580 wd_572 wd_581) rfl rfl rfl (by decide +kernel) ⟨Nat.le_of_ble_eq_true rfl, Nat.le_of_ble_eq_true rfl⟩) (F := TX12) (NF := 24) 12 rfl (by decide) (k_X12_groupOf T N s0 a0 x1) rfl hl.1 rfl (Nat.le_of_ble_eq_true rfl) dX12_outermost_2 hq (fun x5 s4 H locs hq hB => ?_)
  refine lv_istore_n (lv' := [(2, .int x5), (0, .ref (ad a0)), (1, .int x1)]) hx hb dX12_outermost_5 rfl hl (by decide) rfl (fun ls hl => ?_)
  have L6 : ∀ (n : Nat) (x6 : Int32) (s7 : zS) (H : Heap) (locs : List Loc) (ls : Array Slot), zl2 (f_X12_outermost_L6 T N a0) n x6 s7 = some (r0, σ0) → zB D cy T ad (zA T ad s.heap.size) s.heap s7 H locs s → lv_has ls 3 [(0, .ref (ad a0)), (2, .int x6)] → W p l e (headSpec wsX12_outermost ({ frames := 2, cells := 0, slots := 0, locals := 43 } : Room)).room s m args below meth c H locs 0 0 (MQ below (va_Qi (fun (r2 : Int32) (σ2 : zS) => r2 = r0 ∧ σ2 = σ0) (zAt D cy T ad (zA T ad s.heap.size)) (zA T ad s.heap.size)) args s 0 0 (zA T ad s.heap.size)) (F0 m 6 ls []) := by
    intro n
    induction n with
    | zero => intro x6 s7 H locs ls hq; exact zz_none hq
    | succ n ih6 =>
      intro x6 s7 H locs ls hq hB hl
      rw [zl2] at hq
      generalize zl2 (f_X12_outermost_L6 T N a0) n = k6 at ih6 hq
      unfold f_X12_outermost_L6 at hq
      refine lv_iload_n hx hb dX12_outermost_6 rfl (lv_at hl 1 rfl) ?_
      refine zz_if_lt (tgt := 27) hx hb dX12_outermost_7 (by decide) hq (fun hq => ?_) (fun hq => ?_)
      · refine lv_iload_n hx hb dX12_outermost_27 rfl (lv_at hl 1 rfl) ?_
        exact zz_iret S hB hr hlocks dX12_outermost_28 hq
      · refine lv_aload_n hx hb dX12_outermost_10 rfl (lv_at hl 0 rfl) ?_
        refine lv_iload_n hx hb dX12_outermost_11 rfl (lv_at hl 1 rfl) ?_
        refine zz_callVi S hT hB (As := [.int x6]) (b := a0) (o := f_X12_above T N s7 a0 x6) (c_X12_above l D cy T hT ad N s7 _ a0 x6) (cwV 1 hts (gV wSub wd_582 wd_583 wd_584 wd_572 wd_585) rfl rfl rfl (by decide +kernel) ⟨Nat.le_of_ble_eq_true rfl, Nat.le_of_ble_eq_true rfl⟩) (F := TX12) (NF := 24) 12 rfl (by decide) (k_X12_above T N s7 a0 x6) rfl hl.1 rfl (Nat.le_of_ble_eq_true rfl) dX12_outermost_12 hq (fun x9 s8 H locs hq hB => ?_)
        refine zz_if_lt (tgt := 27) hx hb dX12_outermost_15 (by decide) hq (fun hq => ?_) (fun hq => ?_)
        · refine lv_iload_n hx hb dX12_outermost_27 rfl (lv_at hl 1 rfl) ?_
          exact zz_iret S hB hr hlocks dX12_outermost_28 hq
        · refine lv_aload_n hx hb dX12_outermost_18 rfl (lv_at hl 0 rfl) ?_
          refine lv_iload_n hx hb dX12_outermost_19 rfl (lv_at hl 1 rfl) ?_
          refine zz_callVi S hT hB (As := [.int x6]) (b := a0) (o := f_X12_above T N s8 a0 x6) (c_X12_above l D cy T hT ad N s8 _ a0 x6) (cwV 1 hts (gV wSub wd_582 wd_583 wd_584 wd_572 wd_585) rfl rfl rfl (by decide +kernel) ⟨Nat.le_of_ble_eq_true rfl, Nat.le_of_ble_eq_true rfl⟩) (F := TX12) (NF := 24) 12 rfl (by decide) (k_X12_above T N s8 a0 x6) rfl hl.1 rfl (Nat.le_of_ble_eq_true rfl) dX12_outermost_20 hq (fun x11 s10 H locs hq hB => ?_)
          refine lv_istore_n (lv' := [(2, .int x11), (0, .ref (ad a0))]) hx hb dX12_outermost_23 rfl hl (by decide) rfl (fun ls hl => ?_)
          refine lv_goto (tgt := 6) hx hb dX12_outermost_24 (by decide) ?_
          exact ih6 x11 s10 _ _ _ hq hB (lv_sub hl [1, 0] rfl)
  exact L6 N x5 s4 _ _ _ hq hB (lv_sub hl [1, 0] rfl)
def f_X12_isWithin_J24 (T : zT) (N : Nat) (x2 : Int32) (x7 : Int32) (s8 : zS) : Option (Int32 × zS) :=
  if ¬ x7 = x2 then (
    rZ (0 : Int32) s8)
  else (
    rZ (1 : Int32) s8)
def f_X12_isWithin_L6 (T : zT) (N : Nat) (a0 : Nat) (x2 : Int32) (k6 : Int32 → zS → Option (Int32 × zS)) (x7 : Int32) (s8 : zS) : Option (Int32 × zS) :=
  if x7 < 0 then (
    f_X12_isWithin_J24 T N x2 x7 s8)
  else (
    if x7 = x2 then (
      f_X12_isWithin_J24 T N x2 x7 s8)
    else (
      zb2 (f_X12_above T N s8 a0 x7) fun x10 s9 =>
      k6 x10 s9))
def f_X12_isWithin (T : zT) (N : Nat) (s0 : zS) (a0 : Nat) (x1 : Int32) (x2 : Int32) : Option (Int32 × zS) :=
  zz1 (T.1 a0 = 12) <|
  zb2 (f_X12_groupOf T N s0 a0 x1) fun x6 s5 =>
  zl2 (f_X12_isWithin_L6 T N a0 x2) N x6 s5
theorem k_X12_isWithin (T : zT) (N : Nat) (s0 : zS) (a0 : Nat) (x1 : Int32) (x2 : Int32) : ∀ q, f_X12_isWithin T N s0 a0 x1 x2 = some q → T.1 a0 = 12 := by
  intro q h
  unfold f_X12_isWithin at h
  exact zz_guard h (fun h _ => h)
set_option maxHeartbeats 4000000 in
set_option maxRecDepth 100000 in
theorem c_X12_isWithin (l : Launch) (D : va_G) (cy : Nat → ClassId) (T : zT) (hT : zok T) (ad : Nat → Nat) (N : Nat) (s0 : zS) (sz : Nat) (a0 : Nat) (x1 : Int32) (x2 : Int32) : ∀ (r0 : Int32) (σ0 : zS), f_X12_isWithin T N s0 a0 x1 x2 = some (r0, σ0) → Met l yX12_isWithin wsX12_isWithin ({ frames := 2, cells := 0, slots := 0, locals := 43 }) (va_Pc [.ref (ad a0), .int x1, .int x2] (zPre D cy T ad s0 sz)) (va_Qi (fun (r2 : Int32) (σ2 : zS) => r2 = r0 ∧ σ2 = σ0) (zAt D cy T ad (zA T ad sz)) (zA T ad sz)) 0 0 (zA T ad sz) := by
  intro r0 σ0 hq
  refine Met.ofW (cc := cX12_isWithin) (maxL := 4) (ret := (some .boolean)) (by decide) rfl ?_
  intro p e s m args below meth c s₁ B hml hv
  obtain ⟨hargs, hsz, hP, hK, hD0, hN⟩ := hv
  have hx := B.exec
  have hb := B.bytes
  have hr := B.returns
  have hts := atoms_spec (ws := wsX12_isWithin) B.pre
  have hown : s.vm.findClass RX12 = some m.cls := findClass_of_methodNamed B.named
  have hlocks := B.notSynchronized
  have S : CallFix p m c cX12_isWithin 4 s args wsX12_isWithin RX12 := ⟨hx, hb, hml, hown, hts⟩
  subst hsz
  have hB : zB D cy T ad (zA T ad s.heap.size) s.heap s0 s.heap [] s := zz_entry hP hK hD0 hN
  obtain ⟨ls, hent, hl⟩ := zz_ent m hargs (n := 4) (Nat.le_of_ble_eq_true rfl)
  rw [hent]
  have hl : lv_has ls 4 [(0, .ref (ad a0)), (1, .int x1), (2, .int x2)] := hl
  unfold f_X12_isWithin at hq
  refine zz_guard hq (fun hk0 hq => ?_)
  refine lv_aload_n hx hb dX12_isWithin_0 rfl (lv_at hl 0 rfl) ?_
  refine lv_iload_n hx hb dX12_isWithin_1 rfl (lv_at hl 1 rfl) ?_
  refine zz_callVi S hT hB (As := [.int x1]) (b := a0) (o := f_X12_groupOf T N s0 a0 x1) (c_X12_groupOf l D cy T hT ad N s0 _ a0 x1) (cwV 1 hts (gV wSub wd_578 wd_579 wd_580 wd_572 wd_581) rfl rfl rfl (by decide +kernel) ⟨Nat.le_of_ble_eq_true rfl, Nat.le_of_ble_eq_true rfl⟩) (F := TX12) (NF := 24) 12 rfl (by decide) (k_X12_groupOf T N s0 a0 x1) rfl hl.1 rfl (Nat.le_of_ble_eq_true rfl) dX12_isWithin_2 hq (fun x6 s5 H locs hq hB => ?_)
  refine lv_istore_n (lv' := [(3, .int x6), (0, .ref (ad a0)), (1, .int x1), (2, .int x2)]) hx hb dX12_isWithin_5 rfl hl (by decide) rfl (fun ls hl => ?_)
  have L6 : ∀ (n : Nat) (x7 : Int32) (s8 : zS) (H : Heap) (locs : List Loc) (ls : Array Slot), zl2 (f_X12_isWithin_L6 T N a0 x2) n x7 s8 = some (r0, σ0) → zB D cy T ad (zA T ad s.heap.size) s.heap s8 H locs s → lv_has ls 4 [(0, .ref (ad a0)), (2, .int x2), (3, .int x7)] → W p l e (headSpec wsX12_isWithin ({ frames := 2, cells := 0, slots := 0, locals := 43 } : Room)).room s m args below meth c H locs 0 0 (MQ below (va_Qi (fun (r2 : Int32) (σ2 : zS) => r2 = r0 ∧ σ2 = σ0) (zAt D cy T ad (zA T ad s.heap.size)) (zA T ad s.heap.size)) args s 0 0 (zA T ad s.heap.size)) (F0 m 6 ls []) := by
    intro n
    induction n with
    | zero => intro x7 s8 H locs ls hq; exact zz_none hq
    | succ n ih6 =>
      intro x7 s8 H locs ls hq hB hl
      rw [zl2] at hq
      generalize zl2 (f_X12_isWithin_L6 T N a0 x2) n = k6 at ih6 hq
      unfold f_X12_isWithin_L6 at hq
      refine lv_iload_n hx hb dX12_isWithin_6 rfl (lv_at hl 2 rfl) ?_
      have J24 : ∀ (H : Heap) (locs : List Loc) (ls : Array Slot), f_X12_isWithin_J24 T N x2 x7 s8 = some (r0, σ0) → zB D cy T ad (zA T ad s.heap.size) s.heap s8 H locs s → lv_has ls 4 [(2, .int x2), (3, .int x7)] → W p l e (headSpec wsX12_isWithin ({ frames := 2, cells := 0, slots := 0, locals := 43 } : Room)).room s m args below meth c H locs 0 0 (MQ below (va_Qi (fun (r2 : Int32) (σ2 : zS) => r2 = r0 ∧ σ2 = σ0) (zAt D cy T ad (zA T ad s.heap.size)) (zA T ad s.heap.size)) args s 0 0 (zA T ad s.heap.size)) (F0 m 24 ls []) := by
        intro H locs ls hq hB hl
        unfold f_X12_isWithin_J24 at hq
        refine lv_iload_n hx hb dX12_isWithin_24 rfl (lv_at hl 1 rfl) ?_
        refine lv_iload_n hx hb dX12_isWithin_25 rfl (lv_at hl 0 rfl) ?_
        refine zz_icmp_ne (tgt := 33) hx hb dX12_isWithin_26 (by decide) hq (fun hq => ?_) (fun hq => ?_)
        · refine lv_iconst (v := 0) hx hb dX12_isWithin_33 (by decide) ?_
          exact zz_zret S hB hr hlocks dX12_isWithin_34 hq
        · refine lv_iconst (v := 1) hx hb dX12_isWithin_29 (by decide) ?_
          refine lv_goto (tgt := 34) hx hb dX12_isWithin_30 (by decide) ?_
          exact zz_zret S hB hr hlocks dX12_isWithin_34 hq
      refine zz_if_lt (tgt := 24) hx hb dX12_isWithin_7 (by decide) hq (fun hq => ?_) (fun hq => ?_)
      · exact J24  _ _ _ hq hB (lv_sub hl [1, 2] rfl)
      · refine lv_iload_n hx hb dX12_isWithin_10 rfl (lv_at hl 2 rfl) ?_
        refine lv_iload_n hx hb dX12_isWithin_11 rfl (lv_at hl 1 rfl) ?_
        refine zz_icmp_eq (tgt := 24) hx hb dX12_isWithin_12 (by decide) hq (fun hq => ?_) (fun hq => ?_)
        · exact J24  _ _ _ hq hB (lv_sub hl [1, 2] rfl)
        · refine lv_aload_n hx hb dX12_isWithin_15 rfl (lv_at hl 0 rfl) ?_
          refine lv_iload_n hx hb dX12_isWithin_16 rfl (lv_at hl 2 rfl) ?_
          refine zz_callVi S hT hB (As := [.int x7]) (b := a0) (o := f_X12_above T N s8 a0 x7) (c_X12_above l D cy T hT ad N s8 _ a0 x7) (cwV 1 hts (gV wSub wd_582 wd_583 wd_584 wd_572 wd_585) rfl rfl rfl (by decide +kernel) ⟨Nat.le_of_ble_eq_true rfl, Nat.le_of_ble_eq_true rfl⟩) (F := TX12) (NF := 24) 12 rfl (by decide) (k_X12_above T N s8 a0 x7) rfl hl.1 rfl (Nat.le_of_ble_eq_true rfl) dX12_isWithin_17 hq (fun x10 s9 H locs hq hB => ?_)
          refine lv_istore_n (lv' := [(3, .int x10), (0, .ref (ad a0)), (2, .int x2)]) hx hb dX12_isWithin_20 rfl hl (by decide) rfl (fun ls hl => ?_)
          refine lv_goto (tgt := 6) hx hb dX12_isWithin_21 (by decide) ?_
          exact ih6 x10 s9 _ _ _ hq hB (lv_sub hl [1, 2, 0] rfl)
  exact L6 N x6 s5 _ _ _ hq hB (lv_sub hl [1, 3, 0] rfl)
def f_X12_setOf_L4 (T : zT) (N : Nat) (a0 : Nat) (x1 : Int32) (k4 : Int32 → Int32 → zS → Option (Int32 × zS)) (x4 : Int32) (x5 : Int32) (s6 : zS) : Option (Int32 × zS) :=
  if (20 : Int32) ≤ x5 then (
    some (x4, s6))
  else (
    zb2 (f_X12_of T N s6 a0 x5 (0 : Int32)) fun x8 s7 =>
    if ¬ x8 = (1 : Int32) then (
      zn (x4 ||| (0 : Int32)) fun x9 =>
      zn (x5 + (1 : Int32)) fun x10 =>
      k4 x9 x10 s7)
    else (
      zb2 (f_X12_isWithin T N s7 a0 x5 x1) fun x12 s11 =>
      if x12 = 0 then (
        zn (x4 ||| (0 : Int32)) fun x13 =>
        zn (x5 + (1 : Int32)) fun x14 =>
        k4 x13 x14 s11)
      else (
        zn (x4 ||| ((1 : Int32) <<< (x5 &&& 31))) fun x15 =>
        zn (x5 + (1 : Int32)) fun x16 =>
        k4 x15 x16 s11)))
def f_X12_setOf (T : zT) (N : Nat) (s0 : zS) (a0 : Nat) (x1 : Int32) : Option (Int32 × zS) :=
  zz1 (T.1 a0 = 12) <|
  zl3 (f_X12_setOf_L4 T N a0 x1) N (0 : Int32) (0 : Int32) s0
theorem k_X12_setOf (T : zT) (N : Nat) (s0 : zS) (a0 : Nat) (x1 : Int32) : ∀ q, f_X12_setOf T N s0 a0 x1 = some q → T.1 a0 = 12 := by
  intro q h
  unfold f_X12_setOf at h
  exact zz_guard h (fun h _ => h)
set_option maxHeartbeats 4000000 in
set_option maxRecDepth 100000 in
theorem c_X12_setOf (l : Launch) (D : va_G) (cy : Nat → ClassId) (T : zT) (hT : zok T) (ad : Nat → Nat) (N : Nat) (s0 : zS) (sz : Nat) (a0 : Nat) (x1 : Int32) : ∀ (r0 : Int32) (σ0 : zS), f_X12_setOf T N s0 a0 x1 = some (r0, σ0) → Met l yX12_setOf wsX12_setOf ({ frames := 3, cells := 0, slots := 0, locals := 66 }) (va_Pc [.ref (ad a0), .int x1] (zPre D cy T ad s0 sz)) (va_Qi (fun (r2 : Int32) (σ2 : zS) => r2 = r0 ∧ σ2 = σ0) (zAt D cy T ad (zA T ad sz)) (zA T ad sz)) 0 0 (zA T ad sz) := by
  intro r0 σ0 hq
  refine Met.ofW (cc := cX12_setOf) (maxL := 4) (ret := (some .int)) (by decide) rfl ?_
  intro p e s m args below meth c s₁ B hml hv
  obtain ⟨hargs, hsz, hP, hK, hD0, hN⟩ := hv
  have hx := B.exec
  have hb := B.bytes
  have hr := B.returns
  have hts := atoms_spec (ws := wsX12_setOf) B.pre
  have hown : s.vm.findClass RX12 = some m.cls := findClass_of_methodNamed B.named
  have hlocks := B.notSynchronized
  have S : CallFix p m c cX12_setOf 4 s args wsX12_setOf RX12 := ⟨hx, hb, hml, hown, hts⟩
  subst hsz
  have hB : zB D cy T ad (zA T ad s.heap.size) s.heap s0 s.heap [] s := zz_entry hP hK hD0 hN
  obtain ⟨ls, hent, hl⟩ := zz_ent m hargs (n := 4) (Nat.le_of_ble_eq_true rfl)
  rw [hent]
  have hl : lv_has ls 4 [(0, .ref (ad a0)), (1, .int x1)] := hl
  unfold f_X12_setOf at hq
  refine zz_guard hq (fun hk0 hq => ?_)
  refine lv_iconst (v := 0) hx hb dX12_setOf_0 (by decide) ?_
  refine lv_istore_n (lv' := [(2, .int (0 : Int32)), (0, .ref (ad a0)), (1, .int x1)]) hx hb dX12_setOf_1 rfl hl (by decide) rfl (fun ls hl => ?_)
  refine lv_iconst (v := 0) hx hb dX12_setOf_2 (by decide) ?_
  refine lv_istore_n (lv' := [(3, .int (0 : Int32)), (2, .int (0 : Int32)), (0, .ref (ad a0)), (1, .int x1)]) hx hb dX12_setOf_3 rfl hl (by decide) rfl (fun ls hl => ?_)
  have L4 : ∀ (n : Nat) (x4 : Int32) (x5 : Int32) (s6 : zS) (H : Heap) (locs : List Loc) (ls : Array Slot), zl3 (f_X12_setOf_L4 T N a0 x1) n x4 x5 s6 = some (r0, σ0) → zB D cy T ad (zA T ad s.heap.size) s.heap s6 H locs s → lv_has ls 4 [(0, .ref (ad a0)), (1, .int x1), (2, .int x4), (3, .int x5)] → W p l e (headSpec wsX12_setOf ({ frames := 3, cells := 0, slots := 0, locals := 66 } : Room)).room s m args below meth c H locs 0 0 (MQ below (va_Qi (fun (r2 : Int32) (σ2 : zS) => r2 = r0 ∧ σ2 = σ0) (zAt D cy T ad (zA T ad s.heap.size)) (zA T ad s.heap.size)) args s 0 0 (zA T ad s.heap.size)) (F0 m 4 ls []) := by
    intro n
    induction n with
    | zero => intro x4 x5 s6 H locs ls hq; exact zz_none hq
    | succ n ih4 =>
      intro x4 x5 s6 H locs ls hq hB hl
      rw [zl3] at hq
      generalize zl3 (f_X12_setOf_L4 T N a0 x1) n = k4 at ih4 hq
      unfold f_X12_setOf_L4 at hq
      refine lv_iload_n hx hb dX12_setOf_4 rfl (lv_at hl 3 rfl) ?_
      refine lv_bipush (v := 20) hx hb dX12_setOf_5 (by decide) ?_
      refine zz_icmp_ge (tgt := 45) hx hb dX12_setOf_7 (by decide) hq (fun hq => ?_) (fun hq => ?_)
      · refine lv_iload_n hx hb dX12_setOf_45 rfl (lv_at hl 2 rfl) ?_
        exact zz_iret S hB hr hlocks dX12_setOf_46 hq
      · refine lv_iload_n hx hb dX12_setOf_10 rfl (lv_at hl 2 rfl) ?_
        refine lv_aload_n hx hb dX12_setOf_11 rfl (lv_at hl 0 rfl) ?_
        refine lv_iload_n hx hb dX12_setOf_12 rfl (lv_at hl 3 rfl) ?_
        refine lv_iconst (v := 0) hx hb dX12_setOf_13 (by decide) ?_
        refine zz_callVi S hT hB (As := [.int x5, .int (0 : Int32)]) (b := a0) (o := f_X12_of T N s6 a0 x5 (0 : Int32)) (c_X12_of l D cy T hT ad N s6 _ a0 x5 (0 : Int32)) (cwV 2 hts (gV wSub wd_574 wd_575 wd_576 wd_572 wd_577) rfl rfl rfl (by decide +kernel) ⟨Nat.le_of_ble_eq_true rfl, Nat.le_of_ble_eq_true rfl⟩) (F := TX12) (NF := 24) 12 rfl (by decide) (k_X12_of T N s6 a0 x5 (0 : Int32)) rfl hl.1 rfl (Nat.le_of_ble_eq_true rfl) dX12_setOf_14 hq (fun x8 s7 H locs hq hB => ?_)
        refine lv_iconst (v := 1) hx hb dX12_setOf_17 (by decide) ?_
        refine zz_icmp_ne (tgt := 36) hx hb dX12_setOf_18 (by decide) hq (fun hq => ?_) (fun hq => ?_)
        · refine lv_iconst (v := 0) hx hb dX12_setOf_36 (by decide) ?_
          refine lv_ior hx hb dX12_setOf_37 ?_
          refine zz_nmI hq (fun x9 hq => ?_)
          refine lv_istore_n (lv' := [(2, .int x9), (0, .ref (ad a0)), (1, .int x1), (3, .int x5)]) hx hb dX12_setOf_38 rfl hl (by decide) rfl (fun ls hl => ?_)
          refine zz_nmV hq (fun x10 ex10 hq => ?_)
          refine lv_iinc (v := x10) (lv' := [(3, .int x10), (2, .int x9), (0, .ref (ad a0)), (1, .int x1)]) hx hb dX12_setOf_39 hl (k := 3) rfl (by rw [ex10]; rfl) (by decide) rfl (fun ls hl => ?_)
          refine lv_goto (tgt := 4) hx hb dX12_setOf_42 (by decide) ?_
          exact ih4 x9 x10 s7 _ _ _ hq hB (lv_sub hl [2, 3, 1, 0] rfl)
        · refine lv_aload_n hx hb dX12_setOf_21 rfl (lv_at hl 0 rfl) ?_
          refine lv_iload_n hx hb dX12_setOf_22 rfl (lv_at hl 3 rfl) ?_
          refine lv_iload_n hx hb dX12_setOf_23 rfl (lv_at hl 1 rfl) ?_
          refine zz_callVi S hT hB (As := [.int x5, .int x1]) (b := a0) (o := f_X12_isWithin T N s7 a0 x5 x1) (c_X12_isWithin l D cy T hT ad N s7 _ a0 x5 x1) (cwV 2 hts (gV wSub wd_586 wd_587 wd_588 wd_572 wd_589) rfl rfl rfl (by decide +kernel) ⟨Nat.le_of_ble_eq_true rfl, Nat.le_of_ble_eq_true rfl⟩) (F := TX12) (NF := 24) 12 rfl (by decide) (k_X12_isWithin T N s7 a0 x5 x1) rfl hl.1 rfl (Nat.le_of_ble_eq_true rfl) dX12_setOf_24 hq (fun x12 s11 H locs hq hB => ?_)
          refine zz_if_eq (tgt := 36) hx hb dX12_setOf_27 (by decide) hq (fun hq => ?_) (fun hq => ?_)
          · refine lv_iconst (v := 0) hx hb dX12_setOf_36 (by decide) ?_
            refine lv_ior hx hb dX12_setOf_37 ?_
            refine zz_nmI hq (fun x13 hq => ?_)
            refine lv_istore_n (lv' := [(2, .int x13), (0, .ref (ad a0)), (1, .int x1), (3, .int x5)]) hx hb dX12_setOf_38 rfl hl (by decide) rfl (fun ls hl => ?_)
            refine zz_nmV hq (fun x14 ex14 hq => ?_)
            refine lv_iinc (v := x14) (lv' := [(3, .int x14), (2, .int x13), (0, .ref (ad a0)), (1, .int x1)]) hx hb dX12_setOf_39 hl (k := 3) rfl (by rw [ex14]; rfl) (by decide) rfl (fun ls hl => ?_)
            refine lv_goto (tgt := 4) hx hb dX12_setOf_42 (by decide) ?_
            exact ih4 x13 x14 s11 _ _ _ hq hB (lv_sub hl [2, 3, 1, 0] rfl)
          · refine lv_iconst (v := 1) hx hb dX12_setOf_30 (by decide) ?_
            refine lv_iload_n hx hb dX12_setOf_31 rfl (lv_at hl 3 rfl) ?_
            refine lv_ishl hx hb dX12_setOf_32 ?_
            refine lv_goto (tgt := 37) hx hb dX12_setOf_33 (by decide) ?_
            refine lv_ior hx hb dX12_setOf_37 ?_
            refine zz_nmI hq (fun x15 hq => ?_)
            refine lv_istore_n (lv' := [(2, .int x15), (0, .ref (ad a0)), (1, .int x1), (3, .int x5)]) hx hb dX12_setOf_38 rfl hl (by decide) rfl (fun ls hl => ?_)
            refine zz_nmV hq (fun x16 ex16 hq => ?_)
            refine lv_iinc (v := x16) (lv' := [(3, .int x16), (2, .int x15), (0, .ref (ad a0)), (1, .int x1)]) hx hb dX12_setOf_39 hl (k := 3) rfl (by rw [ex16]; rfl) (by decide) rfl (fun ls hl => ?_)
            refine lv_goto (tgt := 4) hx hb dX12_setOf_42 (by decide) ?_
            exact ih4 x15 x16 s11 _ _ _ hq hB (lv_sub hl [2, 3, 1, 0] rfl)
  exact L4 N (0 : Int32) (0 : Int32) s0 _ _ _ hq hB (lv_sub hl [2, 3, 1, 0] rfl)
def f_X12_prunes_L2 (T : zT) (N : Nat) (a0 : Nat) (k2 : Int32 → zS → Option zS) (x3 : Int32) (s4 : zS) : Option zS :=
  if (8 : Int32) ≤ x3 then (
    some s4)
  else (
    zb2 (f_X12_isGroup T N s4 a0 x3) fun x6 s5 =>
    if x6 = 0 then (
      zn (x3 + (1 : Int32)) fun x7 =>
      k2 x7 s5)
    else (
      zb2 (f_X12_setOf T N s5 a0 x3) fun x9 s8 =>
      if ¬ x9 = 0 then (
        zn (x3 + (1 : Int32)) fun x10 =>
        k2 x10 s8)
      else (
        (gR T s8 a0 12 0).bind fun a11 =>
        (sI T s8 a11 ((290 : Int32) + ((2 : Int32) * x3)) (0 : Int32)).bind fun s12 =>
        zn (x3 + (1 : Int32)) fun x13 =>
        k2 x13 s12)))
def f_X12_prunes (T : zT) (N : Nat) (s0 : zS) (a0 : Nat) : Option zS :=
  zz1 (T.1 a0 = 12) <|
  zl2 (f_X12_prunes_L2 T N a0) N (0 : Int32) s0
theorem k_X12_prunes (T : zT) (N : Nat) (s0 : zS) (a0 : Nat) : ∀ q, f_X12_prunes T N s0 a0 = some q → T.1 a0 = 12 := by
  intro q h
  unfold f_X12_prunes at h
  exact zz_guard h (fun h _ => h)
set_option maxHeartbeats 4000000 in
set_option maxRecDepth 100000 in
theorem c_X12_prunes (l : Launch) (D : va_G) (cy : Nat → ClassId) (T : zT) (hT : zok T) (ad : Nat → Nat) (N : Nat) (s0 : zS) (sz : Nat) (a0 : Nat) : ∀ (σ0 : zS), f_X12_prunes T N s0 a0 = some σ0 → Met l yX12_prunes wsX12_prunes ({ frames := 4, cells := 0, slots := 0, locals := 89 }) (va_Pc [.ref (ad a0)] (zPre D cy T ad s0 sz)) (va_Qv (fun σ2 : zS => σ2 = σ0) (zAt D cy T ad (zA T ad sz)) (zA T ad sz)) 0 0 (zA T ad sz) := by
  intro σ0 hq
  refine Met.ofW (cc := cX12_prunes) (maxL := 2) (ret := none) (by decide) rfl ?_
  intro p e s m args below meth c s₁ B hml hv
  obtain ⟨hargs, hsz, hP, hK, hD0, hN⟩ := hv
  have hx := B.exec
  have hb := B.bytes
  have hr := B.returns
  have hts := atoms_spec (ws := wsX12_prunes) B.pre
  have hown : s.vm.findClass RX12 = some m.cls := findClass_of_methodNamed B.named
  have hlocks := B.notSynchronized
  have S : CallFix p m c cX12_prunes 2 s args wsX12_prunes RX12 := ⟨hx, hb, hml, hown, hts⟩
  subst hsz
  have hB : zB D cy T ad (zA T ad s.heap.size) s.heap s0 s.heap [] s := zz_entry hP hK hD0 hN
  obtain ⟨ls, hent, hl⟩ := zz_ent m hargs (n := 2) (Nat.le_of_ble_eq_true rfl)
  rw [hent]
  have hl : lv_has ls 2 [(0, .ref (ad a0))] := hl
  have iwX12 : ∀ w ∈ u_ws RX12 TX12 24, w ∈ wsX12_prunes := fun w h => wS (inWX12 w h)
  unfold f_X12_prunes at hq
  refine zz_guard hq (fun hk0 hq => ?_)
  refine lv_iconst (v := 0) hx hb dX12_prunes_0 (by decide) ?_
  refine lv_istore_n (lv' := [(1, .int (0 : Int32)), (0, .ref (ad a0))]) hx hb dX12_prunes_1 rfl hl (by decide) rfl (fun ls hl => ?_)
  have L2 : ∀ (n : Nat) (x3 : Int32) (s4 : zS) (H : Heap) (locs : List Loc) (ls : Array Slot), zl2 (f_X12_prunes_L2 T N a0) n x3 s4 = some σ0 → zB D cy T ad (zA T ad s.heap.size) s.heap s4 H locs s → lv_has ls 2 [(0, .ref (ad a0)), (1, .int x3)] → W p l e (headSpec wsX12_prunes ({ frames := 4, cells := 0, slots := 0, locals := 89 } : Room)).room s m args below meth c H locs 0 0 (MQ below (va_Qv (fun σ2 : zS => σ2 = σ0) (zAt D cy T ad (zA T ad s.heap.size)) (zA T ad s.heap.size)) args s 0 0 (zA T ad s.heap.size)) (F0 m 2 ls []) := by
    intro n
    induction n with
    | zero => intro x3 s4 H locs ls hq; exact zz_none hq
    | succ n ih2 =>
      intro x3 s4 H locs ls hq hB hl
      rw [zl2] at hq
      generalize zl2 (f_X12_prunes_L2 T N a0) n = k2 at ih2 hq
      unfold f_X12_prunes_L2 at hq
      refine lv_iload_n hx hb dX12_prunes_2 rfl (lv_at hl 1 rfl) ?_
      refine lv_bipush (v := 8) hx hb dX12_prunes_3 (by decide) ?_
      refine zz_icmp_ge (tgt := 43) hx hb dX12_prunes_5 (by decide) hq (fun hq => ?_) (fun hq => ?_)
      · exact zz_vret S hB hr hlocks dX12_prunes_43 hq
      · refine lv_aload_n hx hb dX12_prunes_8 rfl (lv_at hl 0 rfl) ?_
        refine lv_iload_n hx hb dX12_prunes_9 rfl (lv_at hl 1 rfl) ?_
        refine zz_callVi S hT hB (As := [.int x3]) (b := a0) (o := f_X12_isGroup T N s4 a0 x3) (c_X12_isGroup l D cy T hT ad N s4 _ a0 x3) (cwV 1 hts (gV wSub wd_590 wd_591 wd_592 wd_572 wd_593) rfl rfl rfl (by decide +kernel) ⟨Nat.le_of_ble_eq_true rfl, Nat.le_of_ble_eq_true rfl⟩) (F := TX12) (NF := 24) 12 rfl (by decide) (k_X12_isGroup T N s4 a0 x3) rfl hl.1 rfl (Nat.le_of_ble_eq_true rfl) dX12_prunes_10 hq (fun x6 s5 H locs hq hB => ?_)
        refine zz_if_eq (tgt := 37) hx hb dX12_prunes_13 (by decide) hq (fun hq => ?_) (fun hq => ?_)
        · refine zz_nmV hq (fun x7 ex7 hq => ?_)
          refine lv_iinc (v := x7) (lv' := [(1, .int x7), (0, .ref (ad a0))]) hx hb dX12_prunes_37 hl (k := 1) rfl (by rw [ex7]; rfl) (by decide) rfl (fun ls hl => ?_)
          refine lv_goto (tgt := 2) hx hb dX12_prunes_40 (by decide) ?_
          exact ih2 x7 s5 _ _ _ hq hB (lv_sub hl [1, 0] rfl)
        · refine lv_aload_n hx hb dX12_prunes_16 rfl (lv_at hl 0 rfl) ?_
          refine lv_iload_n hx hb dX12_prunes_17 rfl (lv_at hl 1 rfl) ?_
          refine zz_callVi S hT hB (As := [.int x3]) (b := a0) (o := f_X12_setOf T N s5 a0 x3) (c_X12_setOf l D cy T hT ad N s5 _ a0 x3) (cwV 1 hts (gV wSub wd_594 wd_595 wd_596 wd_572 wd_597) rfl rfl rfl (by decide +kernel) ⟨Nat.le_of_ble_eq_true rfl, Nat.le_of_ble_eq_true rfl⟩) (F := TX12) (NF := 24) 12 rfl (by decide) (k_X12_setOf T N s5 a0 x3) rfl hl.1 rfl (Nat.le_of_ble_eq_true rfl) dX12_prunes_18 hq (fun x9 s8 H locs hq hB => ?_)
          refine zz_if_ne (tgt := 37) hx hb dX12_prunes_21 (by decide) hq (fun hq => ?_) (fun hq => ?_)
          · refine zz_nmV hq (fun x10 ex10 hq => ?_)
            refine lv_iinc (v := x10) (lv' := [(1, .int x10), (0, .ref (ad a0))]) hx hb dX12_prunes_37 hl (k := 1) rfl (by rw [ex10]; rfl) (by decide) rfl (fun ls hl => ?_)
            refine lv_goto (tgt := 2) hx hb dX12_prunes_40 (by decide) ?_
            exact ih2 x10 s8 _ _ _ hq hB (lv_sub hl [1, 0] rfl)
          · refine lv_aload_n hx hb dX12_prunes_24 rfl (lv_at hl 0 rfl) ?_
            refine zz_getR S hT hB (C := RX12) (ref := "DiagramDeskModel") (F := TX12) (N := 24) (index := 7) 12 0 iwX12 rfl (by decide) (by decide) rfl rfl (wS wd_569) (fun _ h9 => h9) dX12_prunes_25 hq (fun a11 hq => ?_)
            refine lv_sipush (v := 290) hx hb dX12_prunes_28 (by decide) ?_
            refine lv_iconst (v := 2) hx hb dX12_prunes_31 (by decide) ?_
            refine lv_iload_n hx hb dX12_prunes_32 rfl (lv_at hl 1 rfl) ?_
            refine lv_imul hx hb dX12_prunes_33 ?_
            refine lv_iadd hx hb dX12_prunes_34 ?_
            refine lv_iconst (v := 0) hx hb dX12_prunes_35 (by decide) ?_
            refine zz_ast S hT hB dX12_prunes_36 hq (fun s12 H locs hq hB => ?_)
            refine zz_nmV hq (fun x13 ex13 hq => ?_)
            refine lv_iinc (v := x13) (lv' := [(1, .int x13), (0, .ref (ad a0))]) hx hb dX12_prunes_37 hl (k := 1) rfl (by rw [ex13]; rfl) (by decide) rfl (fun ls hl => ?_)
            refine lv_goto (tgt := 2) hx hb dX12_prunes_40 (by decide) ?_
            exact ih2 x13 s12 _ _ _ hq hB (lv_sub hl [1, 0] rfl)
  exact L2 N (0 : Int32) s0 _ _ _ hq hB (lv_sub hl [1, 0] rfl)
def f_X12_isPlace (T : zT) (N : Nat) (s0 : zS) (x0 : Int32) : Option (Int32 × zS) :=
  zb2 (f_X12_in T N s0 x0 (-10000 : Int32) (10000 : Int32)) fun x4 s3 =>
  rZ x4 s3
set_option maxHeartbeats 4000000 in
set_option maxRecDepth 100000 in
theorem c_X12_isPlace (l : Launch) (D : va_G) (cy : Nat → ClassId) (T : zT) (hT : zok T) (ad : Nat → Nat) (N : Nat) (s0 : zS) (sz : Nat) (x0 : Int32) : ∀ (r0 : Int32) (σ0 : zS), f_X12_isPlace T N s0 x0 = some (r0, σ0) → Met l yX12_isPlace wsX12_isPlace ({ frames := 1, cells := 0, slots := 0, locals := 22 }) (va_Pc [.int x0] (zPre D cy T ad s0 sz)) (va_Qi (fun (r2 : Int32) (σ2 : zS) => r2 = r0 ∧ σ2 = σ0) (zAt D cy T ad (zA T ad sz)) (zA T ad sz)) 0 0 (zA T ad sz) := by
  intro r0 σ0 hq
  refine Met.ofW (cc := cX12_isPlace) (maxL := 1) (ret := (some .boolean)) (by decide) rfl ?_
  intro p e s m args below meth c s₁ B hml hv
  obtain ⟨hargs, hsz, hP, hK, hD0, hN⟩ := hv
  have hx := B.exec
  have hb := B.bytes
  have hr := B.returns
  have hts := atoms_spec (ws := wsX12_isPlace) B.pre
  have hown : s.vm.findClass RX12 = some m.cls := findClass_of_methodNamed B.named
  have hlocks := B.notSynchronized
  have S : CallFix p m c cX12_isPlace 1 s args wsX12_isPlace RX12 := ⟨hx, hb, hml, hown, hts⟩
  subst hsz
  have hB : zB D cy T ad (zA T ad s.heap.size) s.heap s0 s.heap [] s := zz_entry hP hK hD0 hN
  obtain ⟨ls, hent, hl⟩ := zz_ent m hargs (n := 1) (Nat.le_of_ble_eq_true rfl)
  rw [hent]
  have hl : lv_has ls 1 [(0, .int x0)] := hl
  unfold f_X12_isPlace at hq
  refine lv_iload_n hx hb dX12_isPlace_0 rfl (lv_at hl 0 rfl) ?_
  refine lv_sipush (v := -10000) hx hb dX12_isPlace_1 (by decide) ?_
  refine lv_sipush (v := 10000) hx hb dX12_isPlace_4 (by decide) ?_
  refine zz_callSi S hT hB (As := [.int x0, .int (-10000 : Int32), .int (10000 : Int32)]) (o := f_X12_in T N s0 x0 (-10000 : Int32) (10000 : Int32)) (c_X12_in l D cy T hT ad N s0 _ x0 (-10000 : Int32) (10000 : Int32)) (va_cwS 3 hts (gS wSub wd_570 wd_571 wd_572 wd_573) rfl rfl rfl (by decide +kernel) ⟨Nat.le_of_ble_eq_true rfl, Nat.le_of_ble_eq_true rfl⟩) rfl hl.1 rfl (Nat.le_of_ble_eq_true rfl) dX12_isPlace_7 hq (fun x4 s3 H locs hq hB => ?_)
  exact zz_zret S hB hr hlocks dX12_isPlace_10 hq
def f_X12_isSize (T : zT) (N : Nat) (s0 : zS) (x0 : Int32) : Option (Int32 × zS) :=
  zb2 (f_X12_in T N s0 x0 (1 : Int32) (500 : Int32)) fun x4 s3 =>
  rZ x4 s3
set_option maxHeartbeats 4000000 in
set_option maxRecDepth 100000 in
theorem c_X12_isSize (l : Launch) (D : va_G) (cy : Nat → ClassId) (T : zT) (hT : zok T) (ad : Nat → Nat) (N : Nat) (s0 : zS) (sz : Nat) (x0 : Int32) : ∀ (r0 : Int32) (σ0 : zS), f_X12_isSize T N s0 x0 = some (r0, σ0) → Met l yX12_isSize wsX12_isSize ({ frames := 1, cells := 0, slots := 0, locals := 22 }) (va_Pc [.int x0] (zPre D cy T ad s0 sz)) (va_Qi (fun (r2 : Int32) (σ2 : zS) => r2 = r0 ∧ σ2 = σ0) (zAt D cy T ad (zA T ad sz)) (zA T ad sz)) 0 0 (zA T ad sz) := by
  intro r0 σ0 hq
  refine Met.ofW (cc := cX12_isSize) (maxL := 1) (ret := (some .boolean)) (by decide) rfl ?_
  intro p e s m args below meth c s₁ B hml hv
  obtain ⟨hargs, hsz, hP, hK, hD0, hN⟩ := hv
  have hx := B.exec
  have hb := B.bytes
  have hr := B.returns
  have hts := atoms_spec (ws := wsX12_isSize) B.pre
  have hown : s.vm.findClass RX12 = some m.cls := findClass_of_methodNamed B.named
  have hlocks := B.notSynchronized
  have S : CallFix p m c cX12_isSize 1 s args wsX12_isSize RX12 := ⟨hx, hb, hml, hown, hts⟩
  subst hsz
  have hB : zB D cy T ad (zA T ad s.heap.size) s.heap s0 s.heap [] s := zz_entry hP hK hD0 hN
  obtain ⟨ls, hent, hl⟩ := zz_ent m hargs (n := 1) (Nat.le_of_ble_eq_true rfl)
  rw [hent]
  have hl : lv_has ls 1 [(0, .int x0)] := hl
  unfold f_X12_isSize at hq
  refine lv_iload_n hx hb dX12_isSize_0 rfl (lv_at hl 0 rfl) ?_
  refine lv_iconst (v := 1) hx hb dX12_isSize_1 (by decide) ?_
  refine lv_sipush (v := 500) hx hb dX12_isSize_2 (by decide) ?_
  refine zz_callSi S hT hB (As := [.int x0, .int (1 : Int32), .int (500 : Int32)]) (o := f_X12_in T N s0 x0 (1 : Int32) (500 : Int32)) (c_X12_in l D cy T hT ad N s0 _ x0 (1 : Int32) (500 : Int32)) (va_cwS 3 hts (gS wSub wd_570 wd_571 wd_572 wd_573) rfl rfl rfl (by decide +kernel) ⟨Nat.le_of_ble_eq_true rfl, Nat.le_of_ble_eq_true rfl⟩) rfl hl.1 rfl (Nat.le_of_ble_eq_true rfl) dX12_isSize_5 hq (fun x4 s3 H locs hq hB => ?_)
  exact zz_zret S hB hr hlocks dX12_isSize_8 hq
def f_X12_adds_L130 (T : zT) (N : Nat) (a0 : Nat) (x9 : Int32) (k130 : Int32 → zS → Option (Int32 × zS)) (x36 : Int32) (s37 : zS) : Option (Int32 × zS) :=
  if x36 ≤ 0 then (
    (gR T s37 a0 12 0).bind fun a38 =>
    (sI T s37 a38 (170 : Int32) x9).bind fun s39 =>
    some (x9, s39))
  else (
    (gR T s37 a0 12 0).bind fun a40 =>
    (gR T s37 a0 12 0).bind fun a41 =>
    (aI T s37 a41 13 (((170 : Int32) + x36) - (1 : Int32))).bind fun x42 =>
    (sI T s37 a40 ((170 : Int32) + x36) x42).bind fun s43 =>
    zn (x36 + (-1 : Int32)) fun x44 =>
    k130 x44 s43)
def f_X12_adds (T : zT) (N : Nat) (s0 : zS) (a0 : Nat) (x1 : Int32) (x2 : Int32) (x3 : Int32) (x4 : Int32) (x5 : Int32) : Option (Int32 × zS) :=
  zz1 (T.1 a0 = 12) <|
  (gR T s0 a0 12 0).bind fun a8 =>
  (aI T s0 a8 13 (0 : Int32)).bind fun x9 =>
  zn ((10 : Int32) + ((8 : Int32) * x9)) fun x10 =>
  (gR T s0 a0 12 0).bind fun a11 =>
  (sI T s0 a11 x10 (1 : Int32)).bind fun s12 =>
  (gR T s12 a0 12 0).bind fun a13 =>
  (sI T s12 a13 (x10 + (1 : Int32)) x1).bind fun s14 =>
  (gR T s14 a0 12 0).bind fun a15 =>
  (sI T s14 a15 (x10 + (2 : Int32)) x2).bind fun s16 =>
  (gR T s16 a0 12 0).bind fun a17 =>
  (sI T s16 a17 (x10 + (3 : Int32)) x3).bind fun s18 =>
  (gR T s18 a0 12 0).bind fun a19 =>
  (sI T s18 a19 (x10 + (4 : Int32)) x4).bind fun s20 =>
  (gR T s20 a0 12 0).bind fun a21 =>
  (sI T s20 a21 (x10 + (5 : Int32)) x5).bind fun s22 =>
  (gR T s22 a0 12 0).bind fun a23 =>
  (sI T s22 a23 (x10 + (6 : Int32)) (0 : Int32)).bind fun s24 =>
  (gR T s24 a0 12 0).bind fun a25 =>
  (sI T s24 a25 (x10 + (7 : Int32)) (0 : Int32)).bind fun s26 =>
  (gR T s26 a0 12 0).bind fun a27 =>
  (aI T s26 a27 13 (0 : Int32)).bind fun x28 =>
  (sI T s26 a27 (0 : Int32) (x28 + (1 : Int32))).bind fun s29 =>
  (gR T s29 a0 12 0).bind fun a30 =>
  (aI T s29 a30 13 (1 : Int32)).bind fun x31 =>
  (sI T s29 a30 (1 : Int32) (x31 + (1 : Int32))).bind fun s32 =>
  (gR T s32 a0 12 0).bind fun a33 =>
  (aI T s32 a33 13 (1 : Int32)).bind fun x34 =>
  zn (x34 - (1 : Int32)) fun x35 =>
  zl2 (f_X12_adds_L130 T N a0 x9) N x35 s32
theorem k_X12_adds (T : zT) (N : Nat) (s0 : zS) (a0 : Nat) (x1 : Int32) (x2 : Int32) (x3 : Int32) (x4 : Int32) (x5 : Int32) : ∀ q, f_X12_adds T N s0 a0 x1 x2 x3 x4 x5 = some q → T.1 a0 = 12 := by
  intro q h
  unfold f_X12_adds at h
  exact zz_guard h (fun h _ => h)
set_option maxHeartbeats 4000000 in
set_option maxRecDepth 100000 in
theorem c_X12_adds (l : Launch) (D : va_G) (cy : Nat → ClassId) (T : zT) (hT : zok T) (ad : Nat → Nat) (N : Nat) (s0 : zS) (sz : Nat) (a0 : Nat) (x1 : Int32) (x2 : Int32) (x3 : Int32) (x4 : Int32) (x5 : Int32) : ∀ (r0 : Int32) (σ0 : zS), f_X12_adds T N s0 a0 x1 x2 x3 x4 x5 = some (r0, σ0) → Met l yX12_adds wsX12_adds ({ frames := 0, cells := 0, slots := 0, locals := 0 }) (va_Pc [.ref (ad a0), .int x1, .int x2, .int x3, .int x4, .int x5] (zPre D cy T ad s0 sz)) (va_Qi (fun (r2 : Int32) (σ2 : zS) => r2 = r0 ∧ σ2 = σ0) (zAt D cy T ad (zA T ad sz)) (zA T ad sz)) 0 0 (zA T ad sz) := by
  intro r0 σ0 hq
  refine Met.ofW (cc := cX12_adds) (maxL := 9) (ret := (some .int)) (by decide) rfl ?_
  intro p e s m args below meth c s₁ B hml hv
  obtain ⟨hargs, hsz, hP, hK, hD0, hN⟩ := hv
  have hx := B.exec
  have hb := B.bytes
  have hr := B.returns
  have hts := atoms_spec (ws := wsX12_adds) B.pre
  have hown : s.vm.findClass RX12 = some m.cls := findClass_of_methodNamed B.named
  have hlocks := B.notSynchronized
  have S : CallFix p m c cX12_adds 9 s args wsX12_adds RX12 := ⟨hx, hb, hml, hown, hts⟩
  subst hsz
  have hB : zB D cy T ad (zA T ad s.heap.size) s.heap s0 s.heap [] s := zz_entry hP hK hD0 hN
  obtain ⟨ls, hent, hl⟩ := zz_ent m hargs (n := 9) (Nat.le_of_ble_eq_true rfl)
  rw [hent]
  have hl : lv_has ls 9 [(0, .ref (ad a0)), (1, .int x1), (2, .int x2), (3, .int x3), (4, .int x4), (5, .int x5)] := hl
  have iwX12 : ∀ w ∈ u_ws RX12 TX12 24, w ∈ wsX12_adds := fun w h => wS (inWX12 w h)
  unfold f_X12_adds at hq
  refine zz_guard hq (fun hk0 hq => ?_)
  refine lv_aload_n hx hb dX12_adds_0 rfl (lv_at hl 0 rfl) ?_
  refine zz_getR S hT hB (C := RX12) (ref := "DiagramDeskModel") (F := TX12) (N := 24) (index := 7) 12 0 iwX12 rfl (by decide) (by decide) rfl rfl (wS wd_569) (fun _ h9 => h9) dX12_adds_1 hq (fun a8 hq => ?_)
  refine lv_iconst (v := 0) hx hb dX12_adds_4 (by decide) ?_
  refine zz_ald S hT hB dX12_adds_5 hq (fun x9 hq => ?_)
  refine lv_istore (lv' := [(6, .int x9), (0, .ref (ad a0)), (1, .int x1), (2, .int x2), (3, .int x3), (4, .int x4), (5, .int x5)]) hx hb dX12_adds_6 hl (by decide) rfl (fun ls hl => ?_)
  refine lv_bipush (v := 10) hx hb dX12_adds_8 (by decide) ?_
  refine lv_bipush (v := 8) hx hb dX12_adds_10 (by decide) ?_
  refine lv_iload hx hb dX12_adds_12 (lv_at hl 0 rfl) ?_
  refine lv_imul hx hb dX12_adds_14 ?_
  refine lv_iadd hx hb dX12_adds_15 ?_
  refine zz_nmI hq (fun x10 hq => ?_)
  refine lv_istore (lv' := [(7, .int x10), (6, .int x9), (0, .ref (ad a0)), (1, .int x1), (2, .int x2), (3, .int x3), (4, .int x4), (5, .int x5)]) hx hb dX12_adds_16 hl (by decide) rfl (fun ls hl => ?_)
  refine lv_aload_n hx hb dX12_adds_18 rfl (lv_at hl 2 rfl) ?_
  refine zz_getR S hT hB (C := RX12) (ref := "DiagramDeskModel") (F := TX12) (N := 24) (index := 7) 12 0 iwX12 rfl (by decide) (by decide) rfl rfl (wS wd_569) (fun _ h9 => h9) dX12_adds_19 hq (fun a11 hq => ?_)
  refine lv_iload hx hb dX12_adds_22 (lv_at hl 0 rfl) ?_
  refine lv_iconst (v := 1) hx hb dX12_adds_24 (by decide) ?_
  refine zz_ast S hT hB dX12_adds_25 hq (fun s12 H locs hq hB => ?_)
  refine lv_aload_n hx hb dX12_adds_26 rfl (lv_at hl 2 rfl) ?_
  refine zz_getR S hT hB (C := RX12) (ref := "DiagramDeskModel") (F := TX12) (N := 24) (index := 7) 12 0 iwX12 rfl (by decide) (by decide) rfl rfl (wS wd_569) (fun _ h9 => h9) dX12_adds_27 hq (fun a13 hq => ?_)
  refine lv_iload hx hb dX12_adds_30 (lv_at hl 0 rfl) ?_
  refine lv_iconst (v := 1) hx hb dX12_adds_32 (by decide) ?_
  refine lv_iadd hx hb dX12_adds_33 ?_
  refine lv_iload_n hx hb dX12_adds_34 rfl (lv_at hl 3 rfl) ?_
  refine zz_ast S hT hB dX12_adds_35 hq (fun s14 H locs hq hB => ?_)
  refine lv_aload_n hx hb dX12_adds_36 rfl (lv_at hl 2 rfl) ?_
  refine zz_getR S hT hB (C := RX12) (ref := "DiagramDeskModel") (F := TX12) (N := 24) (index := 7) 12 0 iwX12 rfl (by decide) (by decide) rfl rfl (wS wd_569) (fun _ h9 => h9) dX12_adds_37 hq (fun a15 hq => ?_)
  refine lv_iload hx hb dX12_adds_40 (lv_at hl 0 rfl) ?_
  refine lv_iconst (v := 2) hx hb dX12_adds_42 (by decide) ?_
  refine lv_iadd hx hb dX12_adds_43 ?_
  refine lv_iload_n hx hb dX12_adds_44 rfl (lv_at hl 4 rfl) ?_
  refine zz_ast S hT hB dX12_adds_45 hq (fun s16 H locs hq hB => ?_)
  refine lv_aload_n hx hb dX12_adds_46 rfl (lv_at hl 2 rfl) ?_
  refine zz_getR S hT hB (C := RX12) (ref := "DiagramDeskModel") (F := TX12) (N := 24) (index := 7) 12 0 iwX12 rfl (by decide) (by decide) rfl rfl (wS wd_569) (fun _ h9 => h9) dX12_adds_47 hq (fun a17 hq => ?_)
  refine lv_iload hx hb dX12_adds_50 (lv_at hl 0 rfl) ?_
  refine lv_iconst (v := 3) hx hb dX12_adds_52 (by decide) ?_
  refine lv_iadd hx hb dX12_adds_53 ?_
  refine lv_iload_n hx hb dX12_adds_54 rfl (lv_at hl 5 rfl) ?_
  refine zz_ast S hT hB dX12_adds_55 hq (fun s18 H locs hq hB => ?_)
  refine lv_aload_n hx hb dX12_adds_56 rfl (lv_at hl 2 rfl) ?_
  refine zz_getR S hT hB (C := RX12) (ref := "DiagramDeskModel") (F := TX12) (N := 24) (index := 7) 12 0 iwX12 rfl (by decide) (by decide) rfl rfl (wS wd_569) (fun _ h9 => h9) dX12_adds_57 hq (fun a19 hq => ?_)
  refine lv_iload hx hb dX12_adds_60 (lv_at hl 0 rfl) ?_
  refine lv_iconst (v := 4) hx hb dX12_adds_62 (by decide) ?_
  refine lv_iadd hx hb dX12_adds_63 ?_
  refine lv_iload hx hb dX12_adds_64 (lv_at hl 6 rfl) ?_
  refine zz_ast S hT hB dX12_adds_66 hq (fun s20 H locs hq hB => ?_)
  refine lv_aload_n hx hb dX12_adds_67 rfl (lv_at hl 2 rfl) ?_
  refine zz_getR S hT hB (C := RX12) (ref := "DiagramDeskModel") (F := TX12) (N := 24) (index := 7) 12 0 iwX12 rfl (by decide) (by decide) rfl rfl (wS wd_569) (fun _ h9 => h9) dX12_adds_68 hq (fun a21 hq => ?_)
  refine lv_iload hx hb dX12_adds_71 (lv_at hl 0 rfl) ?_
  refine lv_iconst (v := 5) hx hb dX12_adds_73 (by decide) ?_
  refine lv_iadd hx hb dX12_adds_74 ?_
  refine lv_iload hx hb dX12_adds_75 (lv_at hl 7 rfl) ?_
  refine zz_ast S hT hB dX12_adds_77 hq (fun s22 H locs hq hB => ?_)
  refine lv_aload_n hx hb dX12_adds_78 rfl (lv_at hl 2 rfl) ?_
  refine zz_getR S hT hB (C := RX12) (ref := "DiagramDeskModel") (F := TX12) (N := 24) (index := 7) 12 0 iwX12 rfl (by decide) (by decide) rfl rfl (wS wd_569) (fun _ h9 => h9) dX12_adds_79 hq (fun a23 hq => ?_)
  refine lv_iload hx hb dX12_adds_82 (lv_at hl 0 rfl) ?_
  refine lv_bipush (v := 6) hx hb dX12_adds_84 (by decide) ?_
  refine lv_iadd hx hb dX12_adds_86 ?_
  refine lv_iconst (v := 0) hx hb dX12_adds_87 (by decide) ?_
  refine zz_ast S hT hB dX12_adds_88 hq (fun s24 H locs hq hB => ?_)
  refine lv_aload_n hx hb dX12_adds_89 rfl (lv_at hl 2 rfl) ?_
  refine zz_getR S hT hB (C := RX12) (ref := "DiagramDeskModel") (F := TX12) (N := 24) (index := 7) 12 0 iwX12 rfl (by decide) (by decide) rfl rfl (wS wd_569) (fun _ h9 => h9) dX12_adds_90 hq (fun a25 hq => ?_)
  refine lv_iload hx hb dX12_adds_93 (lv_at hl 0 rfl) ?_
  refine lv_bipush (v := 7) hx hb dX12_adds_95 (by decide) ?_
  refine lv_iadd hx hb dX12_adds_97 ?_
  refine lv_iconst (v := 0) hx hb dX12_adds_98 (by decide) ?_
  refine zz_ast S hT hB dX12_adds_99 hq (fun s26 H locs hq hB => ?_)
  refine lv_aload_n hx hb dX12_adds_100 rfl (lv_at hl 2 rfl) ?_
  refine zz_getR S hT hB (C := RX12) (ref := "DiagramDeskModel") (F := TX12) (N := 24) (index := 7) 12 0 iwX12 rfl (by decide) (by decide) rfl rfl (wS wd_569) (fun _ h9 => h9) dX12_adds_101 hq (fun a27 hq => ?_)
  refine lv_iconst (v := 0) hx hb dX12_adds_104 (by decide) ?_
  refine lv_dup2_11 hx hb dX12_adds_105 rfl rfl ?_
  refine zz_ald S hT hB dX12_adds_106 hq (fun x28 hq => ?_)
  refine lv_iconst (v := 1) hx hb dX12_adds_107 (by decide) ?_
  refine lv_iadd hx hb dX12_adds_108 ?_
  refine zz_ast S hT hB dX12_adds_109 hq (fun s29 H locs hq hB => ?_)
  refine lv_aload_n hx hb dX12_adds_110 rfl (lv_at hl 2 rfl) ?_
  refine zz_getR S hT hB (C := RX12) (ref := "DiagramDeskModel") (F := TX12) (N := 24) (index := 7) 12 0 iwX12 rfl (by decide) (by decide) rfl rfl (wS wd_569) (fun _ h9 => h9) dX12_adds_111 hq (fun a30 hq => ?_)
  refine lv_iconst (v := 1) hx hb dX12_adds_114 (by decide) ?_
  refine lv_dup2_11 hx hb dX12_adds_115 rfl rfl ?_
  refine zz_ald S hT hB dX12_adds_116 hq (fun x31 hq => ?_)
  refine lv_iconst (v := 1) hx hb dX12_adds_117 (by decide) ?_
  refine lv_iadd hx hb dX12_adds_118 ?_
  refine zz_ast S hT hB dX12_adds_119 hq (fun s32 H locs hq hB => ?_)
  refine lv_aload_n hx hb dX12_adds_120 rfl (lv_at hl 2 rfl) ?_
  refine zz_getR S hT hB (C := RX12) (ref := "DiagramDeskModel") (F := TX12) (N := 24) (index := 7) 12 0 iwX12 rfl (by decide) (by decide) rfl rfl (wS wd_569) (fun _ h9 => h9) dX12_adds_121 hq (fun a33 hq => ?_)
  refine lv_iconst (v := 1) hx hb dX12_adds_124 (by decide) ?_
  refine zz_ald S hT hB dX12_adds_125 hq (fun x34 hq => ?_)
  refine lv_iconst (v := 1) hx hb dX12_adds_126 (by decide) ?_
  refine lv_isub hx hb dX12_adds_127 ?_
  refine zz_nmI hq (fun x35 hq => ?_)
  refine lv_istore (lv' := [(8, .int x35), (7, .int x10), (6, .int x9), (0, .ref (ad a0)), (1, .int x1), (2, .int x2), (3, .int x3), (4, .int x4), (5, .int x5)]) hx hb dX12_adds_128 hl (by decide) rfl (fun ls hl => ?_)
  have L130 : ∀ (n : Nat) (x36 : Int32) (s37 : zS) (H : Heap) (locs : List Loc) (ls : Array Slot), zl2 (f_X12_adds_L130 T N a0 x9) n x36 s37 = some (r0, σ0) → zB D cy T ad (zA T ad s.heap.size) s.heap s37 H locs s → lv_has ls 9 [(0, .ref (ad a0)), (6, .int x9), (8, .int x36)] → W p l e (headSpec wsX12_adds ({ frames := 0, cells := 0, slots := 0, locals := 0 } : Room)).room s m args below meth c H locs 0 0 (MQ below (va_Qi (fun (r2 : Int32) (σ2 : zS) => r2 = r0 ∧ σ2 = σ0) (zAt D cy T ad (zA T ad s.heap.size)) (zA T ad s.heap.size)) args s 0 0 (zA T ad s.heap.size)) (F0 m 130 ls []) := by
    intro n
    induction n with
    | zero => intro x36 s37 H locs ls hq; exact zz_none hq
    | succ n ih130 =>
      intro x36 s37 H locs ls hq hB hl
      rw [zl2] at hq
      generalize zl2 (f_X12_adds_L130 T N a0 x9) n = k130 at ih130 hq
      unfold f_X12_adds_L130 at hq
      refine lv_iload hx hb dX12_adds_130 (lv_at hl 2 rfl) ?_
      refine zz_if_le (tgt := 165) hx hb dX12_adds_132 (by decide) hq (fun hq => ?_) (fun hq => ?_)
      · refine lv_aload_n hx hb dX12_adds_165 rfl (lv_at hl 0 rfl) ?_
        refine zz_getR S hT hB (C := RX12) (ref := "DiagramDeskModel") (F := TX12) (N := 24) (index := 7) 12 0 iwX12 rfl (by decide) (by decide) rfl rfl (wS wd_569) (fun _ h9 => h9) dX12_adds_166 hq (fun a38 hq => ?_)
        refine lv_sipush (v := 170) hx hb dX12_adds_169 (by decide) ?_
        refine lv_iload hx hb dX12_adds_172 (lv_at hl 1 rfl) ?_
        refine zz_ast S hT hB dX12_adds_174 hq (fun s39 H locs hq hB => ?_)
        refine lv_iload hx hb dX12_adds_175 (lv_at hl 1 rfl) ?_
        exact zz_iret S hB hr hlocks dX12_adds_177 hq
      · refine lv_aload_n hx hb dX12_adds_135 rfl (lv_at hl 0 rfl) ?_
        refine zz_getR S hT hB (C := RX12) (ref := "DiagramDeskModel") (F := TX12) (N := 24) (index := 7) 12 0 iwX12 rfl (by decide) (by decide) rfl rfl (wS wd_569) (fun _ h9 => h9) dX12_adds_136 hq (fun a40 hq => ?_)
        refine lv_sipush (v := 170) hx hb dX12_adds_139 (by decide) ?_
        refine lv_iload hx hb dX12_adds_142 (lv_at hl 2 rfl) ?_
        refine lv_iadd hx hb dX12_adds_144 ?_
        refine lv_aload_n hx hb dX12_adds_145 rfl (lv_at hl 0 rfl) ?_
        refine zz_getR S hT hB (C := RX12) (ref := "DiagramDeskModel") (F := TX12) (N := 24) (index := 7) 12 0 iwX12 rfl (by decide) (by decide) rfl rfl (wS wd_569) (fun _ h9 => h9) dX12_adds_146 hq (fun a41 hq => ?_)
        refine lv_sipush (v := 170) hx hb dX12_adds_149 (by decide) ?_
        refine lv_iload hx hb dX12_adds_152 (lv_at hl 2 rfl) ?_
        refine lv_iadd hx hb dX12_adds_154 ?_
        refine lv_iconst (v := 1) hx hb dX12_adds_155 (by decide) ?_
        refine lv_isub hx hb dX12_adds_156 ?_
        refine zz_ald S hT hB dX12_adds_157 hq (fun x42 hq => ?_)
        refine zz_ast S hT hB dX12_adds_158 hq (fun s43 H locs hq hB => ?_)
        refine zz_nmV hq (fun x44 ex44 hq => ?_)
        refine lv_iinc (v := x44) (lv' := [(8, .int x44), (0, .ref (ad a0)), (6, .int x9)]) hx hb dX12_adds_159 hl (k := 2) rfl (by rw [ex44]; rfl) (by decide) rfl (fun ls hl => ?_)
        refine lv_goto (tgt := 130) hx hb dX12_adds_162 (by decide) ?_
        exact ih130 x44 s43 _ _ _ hq hB (lv_sub hl [1, 2, 0] rfl)
  exact L130 N x35 s32 _ _ _ hq hB (lv_sub hl [3, 2, 0] rfl)
def f_X12_addShape (T : zT) (N : Nat) (s0 : zS) (a0 : Nat) (x1 : Int32) (x2 : Int32) (x3 : Int32) (x4 : Int32) (x5 : Int32) : Option (Int32 × zS) :=
  zz1 (T.1 a0 = 12) <|
  zb2 (f_X12_in T N s0 x1 (0 : Int32) (2 : Int32)) fun x9 s8 =>
  if x9 = 0 then (
    some ((-1 : Int32), s8))
  else (
    zb2 (f_X12_isPlace T N s8 x2) fun x11 s10 =>
    if x11 = 0 then (
      some ((-1 : Int32), s10))
    else (
      zb2 (f_X12_isPlace T N s10 x3) fun x13 s12 =>
      if x13 = 0 then (
        some ((-1 : Int32), s12))
      else (
        zb2 (f_X12_isSize T N s12 x4) fun x15 s14 =>
        if x15 = 0 then (
          some ((-1 : Int32), s14))
        else (
          zb2 (f_X12_isSize T N s14 x5) fun x17 s16 =>
          if ¬ x17 = 0 then (
            (gR T s16 a0 12 0).bind fun a18 =>
            (aI T s16 a18 13 (0 : Int32)).bind fun x19 =>
            if ¬ x19 = (20 : Int32) then (
              (f_X12_act T N s16 a0).bind fun s20 =>
              zb2 (f_X12_adds T N s20 a0 x1 x2 x3 x4 x5) fun x22 s21 =>
              some (x22, s21))
            else (
              some ((-3 : Int32), s16)))
          else (
            some ((-1 : Int32), s16))))))
theorem k_X12_addShape (T : zT) (N : Nat) (s0 : zS) (a0 : Nat) (x1 : Int32) (x2 : Int32) (x3 : Int32) (x4 : Int32) (x5 : Int32) : ∀ q, f_X12_addShape T N s0 a0 x1 x2 x3 x4 x5 = some q → T.1 a0 = 12 := by
  intro q h
  unfold f_X12_addShape at h
  exact zz_guard h (fun h _ => h)
set_option maxHeartbeats 4000000 in
set_option maxRecDepth 100000 in
theorem c_X12_addShape (l : Launch) (D : va_G) (cy : Nat → ClassId) (T : zT) (hT : zok T) (ad : Nat → Nat) (N : Nat) (s0 : zS) (sz : Nat) (a0 : Nat) (x1 : Int32) (x2 : Int32) (x3 : Int32) (x4 : Int32) (x5 : Int32) : ∀ (r0 : Int32) (σ0 : zS), f_X12_addShape T N s0 a0 x1 x2 x3 x4 x5 = some (r0, σ0) → Met l yX12_addShape wsX12_addShape ({ frames := 2, cells := 0, slots := 0, locals := 42 }) (va_Pc [.ref (ad a0), .int x1, .int x2, .int x3, .int x4, .int x5] (zPre D cy T ad s0 sz)) (va_Qi (fun (r2 : Int32) (σ2 : zS) => r2 = r0 ∧ σ2 = σ0) (zAt D cy T ad (zA T ad sz)) (zA T ad sz)) 0 0 (zA T ad sz) := by
  intro r0 σ0 hq
  refine Met.ofW (cc := cX12_addShape) (maxL := 6) (ret := (some .int)) (by decide) rfl ?_
  intro p e s m args below meth c s₁ B hml hv
  obtain ⟨hargs, hsz, hP, hK, hD0, hN⟩ := hv
  have hx := B.exec
  have hb := B.bytes
  have hr := B.returns
  have hts := atoms_spec (ws := wsX12_addShape) B.pre
  have hown : s.vm.findClass RX12 = some m.cls := findClass_of_methodNamed B.named
  have hlocks := B.notSynchronized
  have S : CallFix p m c cX12_addShape 6 s args wsX12_addShape RX12 := ⟨hx, hb, hml, hown, hts⟩
  subst hsz
  have hB : zB D cy T ad (zA T ad s.heap.size) s.heap s0 s.heap [] s := zz_entry hP hK hD0 hN
  obtain ⟨ls, hent, hl⟩ := zz_ent m hargs (n := 6) (Nat.le_of_ble_eq_true rfl)
  rw [hent]
  have hl : lv_has ls 6 [(0, .ref (ad a0)), (1, .int x1), (2, .int x2), (3, .int x3), (4, .int x4), (5, .int x5)] := hl
  have iwX12 : ∀ w ∈ u_ws RX12 TX12 24, w ∈ wsX12_addShape := fun w h => wS (inWX12 w h)
  unfold f_X12_addShape at hq
  refine zz_guard hq (fun hk0 hq => ?_)
  refine lv_iload_n hx hb dX12_addShape_0 rfl (lv_at hl 1 rfl) ?_
  refine lv_iconst (v := 0) hx hb dX12_addShape_1 (by decide) ?_
  refine lv_iconst (v := 2) hx hb dX12_addShape_2 (by decide) ?_
  refine zz_callSi S hT hB (As := [.int x1, .int (0 : Int32), .int (2 : Int32)]) (o := f_X12_in T N s0 x1 (0 : Int32) (2 : Int32)) (c_X12_in l D cy T hT ad N s0 _ x1 (0 : Int32) (2 : Int32)) (va_cwS 3 hts (gS wSub wd_570 wd_571 wd_572 wd_573) rfl rfl rfl (by decide +kernel) ⟨Nat.le_of_ble_eq_true rfl, Nat.le_of_ble_eq_true rfl⟩) rfl hl.1 rfl (Nat.le_of_ble_eq_true rfl) dX12_addShape_3 hq (fun x9 s8 H locs hq hB => ?_)
  refine zz_if_eq (tgt := 39) hx hb dX12_addShape_6 (by decide) hq (fun hq => ?_) (fun hq => ?_)
  · refine lv_iconst (v := -1) hx hb dX12_addShape_39 (by decide) ?_
    exact zz_iret S hB hr hlocks dX12_addShape_40 hq
  · refine lv_iload_n hx hb dX12_addShape_9 rfl (lv_at hl 2 rfl) ?_
    refine zz_callSi S hT hB (As := [.int x2]) (o := f_X12_isPlace T N s8 x2) (c_X12_isPlace l D cy T hT ad N s8 _ x2) (va_cwS 1 hts (gS wSub wd_598 wd_599 wd_572 wd_600) rfl rfl rfl (by decide +kernel) ⟨Nat.le_of_ble_eq_true rfl, Nat.le_of_ble_eq_true rfl⟩) rfl hl.1 rfl (Nat.le_of_ble_eq_true rfl) dX12_addShape_10 hq (fun x11 s10 H locs hq hB => ?_)
    refine zz_if_eq (tgt := 39) hx hb dX12_addShape_13 (by decide) hq (fun hq => ?_) (fun hq => ?_)
    · refine lv_iconst (v := -1) hx hb dX12_addShape_39 (by decide) ?_
      exact zz_iret S hB hr hlocks dX12_addShape_40 hq
    · refine lv_iload_n hx hb dX12_addShape_16 rfl (lv_at hl 3 rfl) ?_
      refine zz_callSi S hT hB (As := [.int x3]) (o := f_X12_isPlace T N s10 x3) (c_X12_isPlace l D cy T hT ad N s10 _ x3) (va_cwS 1 hts (gS wSub wd_598 wd_599 wd_572 wd_600) rfl rfl rfl (by decide +kernel) ⟨Nat.le_of_ble_eq_true rfl, Nat.le_of_ble_eq_true rfl⟩) rfl hl.1 rfl (Nat.le_of_ble_eq_true rfl) dX12_addShape_17 hq (fun x13 s12 H locs hq hB => ?_)
      refine zz_if_eq (tgt := 39) hx hb dX12_addShape_20 (by decide) hq (fun hq => ?_) (fun hq => ?_)
      · refine lv_iconst (v := -1) hx hb dX12_addShape_39 (by decide) ?_
        exact zz_iret S hB hr hlocks dX12_addShape_40 hq
      · refine lv_iload hx hb dX12_addShape_23 (lv_at hl 4 rfl) ?_
        refine zz_callSi S hT hB (As := [.int x4]) (o := f_X12_isSize T N s12 x4) (c_X12_isSize l D cy T hT ad N s12 _ x4) (va_cwS 1 hts (gS wSub wd_601 wd_602 wd_572 wd_603) rfl rfl rfl (by decide +kernel) ⟨Nat.le_of_ble_eq_true rfl, Nat.le_of_ble_eq_true rfl⟩) rfl hl.1 rfl (Nat.le_of_ble_eq_true rfl) dX12_addShape_25 hq (fun x15 s14 H locs hq hB => ?_)
        refine zz_if_eq (tgt := 39) hx hb dX12_addShape_28 (by decide) hq (fun hq => ?_) (fun hq => ?_)
        · refine lv_iconst (v := -1) hx hb dX12_addShape_39 (by decide) ?_
          exact zz_iret S hB hr hlocks dX12_addShape_40 hq
        · refine lv_iload hx hb dX12_addShape_31 (lv_at hl 5 rfl) ?_
          refine zz_callSi S hT hB (As := [.int x5]) (o := f_X12_isSize T N s14 x5) (c_X12_isSize l D cy T hT ad N s14 _ x5) (va_cwS 1 hts (gS wSub wd_601 wd_602 wd_572 wd_603) rfl rfl rfl (by decide +kernel) ⟨Nat.le_of_ble_eq_true rfl, Nat.le_of_ble_eq_true rfl⟩) rfl hl.1 rfl (Nat.le_of_ble_eq_true rfl) dX12_addShape_33 hq (fun x17 s16 H locs hq hB => ?_)
          refine zz_if_ne (tgt := 41) hx hb dX12_addShape_36 (by decide) hq (fun hq => ?_) (fun hq => ?_)
          · refine lv_aload_n hx hb dX12_addShape_41 rfl (lv_at hl 0 rfl) ?_
            refine zz_getR S hT hB (C := RX12) (ref := "DiagramDeskModel") (F := TX12) (N := 24) (index := 7) 12 0 iwX12 rfl (by decide) (by decide) rfl rfl (wS wd_569) (fun _ h9 => h9) dX12_addShape_42 hq (fun a18 hq => ?_)
            refine lv_iconst (v := 0) hx hb dX12_addShape_45 (by decide) ?_
            refine zz_ald S hT hB dX12_addShape_46 hq (fun x19 hq => ?_)
            refine lv_bipush (v := 20) hx hb dX12_addShape_47 (by decide) ?_
            refine zz_icmp_ne (tgt := 55) hx hb dX12_addShape_49 (by decide) hq (fun hq => ?_) (fun hq => ?_)
            · refine lv_aload_n hx hb dX12_addShape_55 rfl (lv_at hl 0 rfl) ?_
              refine zz_callVv S hT hB (As := []) (b := a0) (o := f_X12_act T N s16 a0) (c_X12_act l D cy T hT ad N s16 _ a0) (cwV 0 hts (gV wSub wd_604 wd_605 wd_606 wd_572 wd_607) rfl rfl rfl (by decide +kernel) ⟨Nat.le_of_ble_eq_true rfl, Nat.le_of_ble_eq_true rfl⟩) (F := TX12) (NF := 24) 12 rfl (by decide) (k_X12_act T N s16 a0) rfl hl.1 rfl (Nat.le_of_ble_eq_true rfl) dX12_addShape_56 hq (fun s20 H locs hq hB => ?_)
              refine lv_aload_n hx hb dX12_addShape_59 rfl (lv_at hl 0 rfl) ?_
              refine lv_iload_n hx hb dX12_addShape_60 rfl (lv_at hl 1 rfl) ?_
              refine lv_iload_n hx hb dX12_addShape_61 rfl (lv_at hl 2 rfl) ?_
              refine lv_iload_n hx hb dX12_addShape_62 rfl (lv_at hl 3 rfl) ?_
              refine lv_iload hx hb dX12_addShape_63 (lv_at hl 4 rfl) ?_
              refine lv_iload hx hb dX12_addShape_65 (lv_at hl 5 rfl) ?_
              refine zz_callVi S hT hB (As := [.int x1, .int x2, .int x3, .int x4, .int x5]) (b := a0) (o := f_X12_adds T N s20 a0 x1 x2 x3 x4 x5) (c_X12_adds l D cy T hT ad N s20 _ a0 x1 x2 x3 x4 x5) (cwV 5 hts (gV wSub wd_608 wd_609 wd_610 wd_572 wd_611) rfl rfl rfl (by decide +kernel) ⟨Nat.le_of_ble_eq_true rfl, Nat.le_of_ble_eq_true rfl⟩) (F := TX12) (NF := 24) 12 rfl (by decide) (k_X12_adds T N s20 a0 x1 x2 x3 x4 x5) rfl hl.1 rfl (Nat.le_of_ble_eq_true rfl) dX12_addShape_67 hq (fun x22 s21 H locs hq hB => ?_)
              exact zz_iret S hB hr hlocks dX12_addShape_70 hq
            · refine lv_bipush (v := -3) hx hb dX12_addShape_52 (by decide) ?_
              exact zz_iret S hB hr hlocks dX12_addShape_54 hq
          · refine lv_iconst (v := -1) hx hb dX12_addShape_39 (by decide) ?_
            exact zz_iret S hB hr hlocks dX12_addShape_40 hq
def f_X12_depthOf_L2 (T : zT) (N : Nat) (s0 : zS) (a0 : Nat) (x1 : Int32) (k2 : Int32 → Option (Int32 × zS)) (x4 : Int32) : Option (Int32 × zS) :=
  (gR T s0 a0 12 0).bind fun a5 =>
  (aI T s0 a5 13 ((170 : Int32) + x4)).bind fun x6 =>
  if x6 = x1 then (
    some (x4, s0))
  else (
    zn (x4 + (1 : Int32)) fun x7 =>
    k2 x7)
def f_X12_depthOf (T : zT) (N : Nat) (s0 : zS) (a0 : Nat) (x1 : Int32) : Option (Int32 × zS) :=
  zz1 (T.1 a0 = 12) <|
  zl1 (f_X12_depthOf_L2 T N s0 a0 x1) N (0 : Int32)
theorem k_X12_depthOf (T : zT) (N : Nat) (s0 : zS) (a0 : Nat) (x1 : Int32) : ∀ q, f_X12_depthOf T N s0 a0 x1 = some q → T.1 a0 = 12 := by
  intro q h
  unfold f_X12_depthOf at h
  exact zz_guard h (fun h _ => h)
set_option maxHeartbeats 4000000 in
set_option maxRecDepth 100000 in
theorem c_X12_depthOf (l : Launch) (D : va_G) (cy : Nat → ClassId) (T : zT) (hT : zok T) (ad : Nat → Nat) (N : Nat) (s0 : zS) (sz : Nat) (a0 : Nat) (x1 : Int32) : ∀ (r0 : Int32) (σ0 : zS), f_X12_depthOf T N s0 a0 x1 = some (r0, σ0) → Met l yX12_depthOf wsX12_depthOf ({ frames := 0, cells := 0, slots := 0, locals := 0 }) (va_Pc [.ref (ad a0), .int x1] (zPre D cy T ad s0 sz)) (va_Qi (fun (r2 : Int32) (σ2 : zS) => r2 = r0 ∧ σ2 = σ0) (zAt D cy T ad (zA T ad sz)) (zA T ad sz)) 0 0 (zA T ad sz) := by
  intro r0 σ0 hq
  refine Met.ofW (cc := cX12_depthOf) (maxL := 3) (ret := (some .int)) (by decide) rfl ?_
  intro p e s m args below meth c s₁ B hml hv
  obtain ⟨hargs, hsz, hP, hK, hD0, hN⟩ := hv
  have hx := B.exec
  have hb := B.bytes
  have hr := B.returns
  have hts := atoms_spec (ws := wsX12_depthOf) B.pre
  have hown : s.vm.findClass RX12 = some m.cls := findClass_of_methodNamed B.named
  have hlocks := B.notSynchronized
  have S : CallFix p m c cX12_depthOf 3 s args wsX12_depthOf RX12 := ⟨hx, hb, hml, hown, hts⟩
  subst hsz
  have hB : zB D cy T ad (zA T ad s.heap.size) s.heap s0 s.heap [] s := zz_entry hP hK hD0 hN
  obtain ⟨ls, hent, hl⟩ := zz_ent m hargs (n := 3) (Nat.le_of_ble_eq_true rfl)
  rw [hent]
  have hl : lv_has ls 3 [(0, .ref (ad a0)), (1, .int x1)] := hl
  have iwX12 : ∀ w ∈ u_ws RX12 TX12 24, w ∈ wsX12_depthOf := fun w h => wS (inWX12 w h)
  unfold f_X12_depthOf at hq
  refine zz_guard hq (fun hk0 hq => ?_)
  refine lv_iconst (v := 0) hx hb dX12_depthOf_0 (by decide) ?_
  refine lv_istore_n (lv' := [(2, .int (0 : Int32)), (0, .ref (ad a0)), (1, .int x1)]) hx hb dX12_depthOf_1 rfl hl (by decide) rfl (fun ls hl => ?_)
  have L2 : ∀ (n : Nat) (x4 : Int32) (H : Heap) (locs : List Loc) (ls : Array Slot), zl1 (f_X12_depthOf_L2 T N s0 a0 x1) n x4 = some (r0, σ0) → zB D cy T ad (zA T ad s.heap.size) s.heap s0 H locs s → lv_has ls 3 [(0, .ref (ad a0)), (1, .int x1), (2, .int x4)] → W p l e (headSpec wsX12_depthOf ({ frames := 0, cells := 0, slots := 0, locals := 0 } : Room)).room s m args below meth c H locs 0 0 (MQ below (va_Qi (fun (r2 : Int32) (σ2 : zS) => r2 = r0 ∧ σ2 = σ0) (zAt D cy T ad (zA T ad s.heap.size)) (zA T ad s.heap.size)) args s 0 0 (zA T ad s.heap.size)) (F0 m 2 ls []) := by
    intro n
    induction n with
    | zero => intro x4 H locs ls hq; exact zz_none hq
    | succ n ih2 =>
      intro x4 H locs ls hq hB hl
      rw [zl1] at hq
      generalize zl1 (f_X12_depthOf_L2 T N s0 a0 x1) n = k2 at ih2 hq
      unfold f_X12_depthOf_L2 at hq
      refine lv_aload_n hx hb dX12_depthOf_2 rfl (lv_at hl 0 rfl) ?_
      refine zz_getR S hT hB (C := RX12) (ref := "DiagramDeskModel") (F := TX12) (N := 24) (index := 7) 12 0 iwX12 rfl (by decide) (by decide) rfl rfl (wS wd_569) (fun _ h9 => h9) dX12_depthOf_3 hq (fun a5 hq => ?_)
      refine lv_sipush (v := 170) hx hb dX12_depthOf_6 (by decide) ?_
      refine lv_iload_n hx hb dX12_depthOf_9 rfl (lv_at hl 2 rfl) ?_
      refine lv_iadd hx hb dX12_depthOf_10 ?_
      refine zz_ald S hT hB dX12_depthOf_11 hq (fun x6 hq => ?_)
      refine lv_iload_n hx hb dX12_depthOf_12 rfl (lv_at hl 1 rfl) ?_
      refine zz_icmp_eq (tgt := 22) hx hb dX12_depthOf_13 (by decide) hq (fun hq => ?_) (fun hq => ?_)
      · refine lv_iload_n hx hb dX12_depthOf_22 rfl (lv_at hl 2 rfl) ?_
        exact zz_iret S hB hr hlocks dX12_depthOf_23 hq
      · refine zz_nmV hq (fun x7 ex7 hq => ?_)
        refine lv_iinc (v := x7) (lv' := [(2, .int x7), (0, .ref (ad a0)), (1, .int x1)]) hx hb dX12_depthOf_16 hl (k := 2) rfl (by rw [ex7]; rfl) (by decide) rfl (fun ls hl => ?_)
        refine lv_goto (tgt := 2) hx hb dX12_depthOf_19 (by decide) ?_
        exact ih2 x7 _ _ _ hq hB (lv_sub hl [1, 2, 0] rfl)
  exact L2 N (0 : Int32) _ _ _ hq hB (lv_sub hl [1, 2, 0] rfl)
def f_X12_cuts_L18 (T : zT) (N : Nat) (a0 : Nat) (k18 : Int32 → zS → Option zS) (x8 : Int32) (s9 : zS) : Option zS :=
  (gR T s9 a0 12 0).bind fun a10 =>
  (aI T s9 a10 13 (2 : Int32)).bind fun x11 =>
  if ((190 : Int32) + ((5 : Int32) * x11)) ≤ x8 then (
    some s9)
  else (
    (gR T s9 a0 12 0).bind fun a12 =>
    (gR T s9 a0 12 0).bind fun a13 =>
    (aI T s9 a13 13 (x8 + (5 : Int32))).bind fun x14 =>
    (sI T s9 a12 x8 x14).bind fun s15 =>
    zn (x8 + (1 : Int32)) fun x16 =>
    k18 x16 s15)
def f_X12_cuts (T : zT) (N : Nat) (s0 : zS) (a0 : Nat) (x1 : Int32) : Option zS :=
  zz1 (T.1 a0 = 12) <|
  (gR T s0 a0 12 0).bind fun a4 =>
  (aI T s0 a4 13 (2 : Int32)).bind fun x5 =>
  (sI T s0 a4 (2 : Int32) (x5 - (1 : Int32))).bind fun s6 =>
  zn ((190 : Int32) + ((5 : Int32) * x1)) fun x7 =>
  zl2 (f_X12_cuts_L18 T N a0) N x7 s6
theorem k_X12_cuts (T : zT) (N : Nat) (s0 : zS) (a0 : Nat) (x1 : Int32) : ∀ q, f_X12_cuts T N s0 a0 x1 = some q → T.1 a0 = 12 := by
  intro q h
  unfold f_X12_cuts at h
  exact zz_guard h (fun h _ => h)
set_option maxHeartbeats 4000000 in
set_option maxRecDepth 100000 in
theorem c_X12_cuts (l : Launch) (D : va_G) (cy : Nat → ClassId) (T : zT) (hT : zok T) (ad : Nat → Nat) (N : Nat) (s0 : zS) (sz : Nat) (a0 : Nat) (x1 : Int32) : ∀ (σ0 : zS), f_X12_cuts T N s0 a0 x1 = some σ0 → Met l yX12_cuts wsX12_cuts ({ frames := 0, cells := 0, slots := 0, locals := 0 }) (va_Pc [.ref (ad a0), .int x1] (zPre D cy T ad s0 sz)) (va_Qv (fun σ2 : zS => σ2 = σ0) (zAt D cy T ad (zA T ad sz)) (zA T ad sz)) 0 0 (zA T ad sz) := by
  intro σ0 hq
  refine Met.ofW (cc := cX12_cuts) (maxL := 3) (ret := none) (by decide) rfl ?_
  intro p e s m args below meth c s₁ B hml hv
  obtain ⟨hargs, hsz, hP, hK, hD0, hN⟩ := hv
  have hx := B.exec
  have hb := B.bytes
  have hr := B.returns
  have hts := atoms_spec (ws := wsX12_cuts) B.pre
  have hown : s.vm.findClass RX12 = some m.cls := findClass_of_methodNamed B.named
  have hlocks := B.notSynchronized
  have S : CallFix p m c cX12_cuts 3 s args wsX12_cuts RX12 := ⟨hx, hb, hml, hown, hts⟩
  subst hsz
  have hB : zB D cy T ad (zA T ad s.heap.size) s.heap s0 s.heap [] s := zz_entry hP hK hD0 hN
  obtain ⟨ls, hent, hl⟩ := zz_ent m hargs (n := 3) (Nat.le_of_ble_eq_true rfl)
  rw [hent]
  have hl : lv_has ls 3 [(0, .ref (ad a0)), (1, .int x1)] := hl
  have iwX12 : ∀ w ∈ u_ws RX12 TX12 24, w ∈ wsX12_cuts := fun w h => wS (inWX12 w h)
  unfold f_X12_cuts at hq
  refine zz_guard hq (fun hk0 hq => ?_)
  refine lv_aload_n hx hb dX12_cuts_0 rfl (lv_at hl 0 rfl) ?_
  refine zz_getR S hT hB (C := RX12) (ref := "DiagramDeskModel") (F := TX12) (N := 24) (index := 7) 12 0 iwX12 rfl (by decide) (by decide) rfl rfl (wS wd_569) (fun _ h9 => h9) dX12_cuts_1 hq (fun a4 hq => ?_)
  refine lv_iconst (v := 2) hx hb dX12_cuts_4 (by decide) ?_
  refine lv_dup2_11 hx hb dX12_cuts_5 rfl rfl ?_
  refine zz_ald S hT hB dX12_cuts_6 hq (fun x5 hq => ?_)
  refine lv_iconst (v := 1) hx hb dX12_cuts_7 (by decide) ?_
  refine lv_isub hx hb dX12_cuts_8 ?_
  refine zz_ast S hT hB dX12_cuts_9 hq (fun s6 H locs hq hB => ?_)
  refine lv_sipush (v := 190) hx hb dX12_cuts_10 (by decide) ?_
  refine lv_iconst (v := 5) hx hb dX12_cuts_13 (by decide) ?_
  refine lv_iload_n hx hb dX12_cuts_14 rfl (lv_at hl 1 rfl) ?_
  refine lv_imul hx hb dX12_cuts_15 ?_
  refine lv_iadd hx hb dX12_cuts_16 ?_
  refine zz_nmI hq (fun x7 hq => ?_)
  refine lv_istore_n (lv' := [(2, .int x7), (0, .ref (ad a0)), (1, .int x1)]) hx hb dX12_cuts_17 rfl hl (by decide) rfl (fun ls hl => ?_)
  have L18 : ∀ (n : Nat) (x8 : Int32) (s9 : zS) (H : Heap) (locs : List Loc) (ls : Array Slot), zl2 (f_X12_cuts_L18 T N a0) n x8 s9 = some σ0 → zB D cy T ad (zA T ad s.heap.size) s.heap s9 H locs s → lv_has ls 3 [(0, .ref (ad a0)), (2, .int x8)] → W p l e (headSpec wsX12_cuts ({ frames := 0, cells := 0, slots := 0, locals := 0 } : Room)).room s m args below meth c H locs 0 0 (MQ below (va_Qv (fun σ2 : zS => σ2 = σ0) (zAt D cy T ad (zA T ad s.heap.size)) (zA T ad s.heap.size)) args s 0 0 (zA T ad s.heap.size)) (F0 m 18 ls []) := by
    intro n
    induction n with
    | zero => intro x8 s9 H locs ls hq; exact zz_none hq
    | succ n ih18 =>
      intro x8 s9 H locs ls hq hB hl
      rw [zl2] at hq
      generalize zl2 (f_X12_cuts_L18 T N a0) n = k18 at ih18 hq
      unfold f_X12_cuts_L18 at hq
      refine lv_iload_n hx hb dX12_cuts_18 rfl (lv_at hl 1 rfl) ?_
      refine lv_sipush (v := 190) hx hb dX12_cuts_19 (by decide) ?_
      refine lv_iconst (v := 5) hx hb dX12_cuts_22 (by decide) ?_
      refine lv_aload_n hx hb dX12_cuts_23 rfl (lv_at hl 0 rfl) ?_
      refine zz_getR S hT hB (C := RX12) (ref := "DiagramDeskModel") (F := TX12) (N := 24) (index := 7) 12 0 iwX12 rfl (by decide) (by decide) rfl rfl (wS wd_569) (fun _ h9 => h9) dX12_cuts_24 hq (fun a10 hq => ?_)
      refine lv_iconst (v := 2) hx hb dX12_cuts_27 (by decide) ?_
      refine zz_ald S hT hB dX12_cuts_28 hq (fun x11 hq => ?_)
      refine lv_imul hx hb dX12_cuts_29 ?_
      refine lv_iadd hx hb dX12_cuts_30 ?_
      refine zz_icmp_ge (tgt := 54) hx hb dX12_cuts_31 (by decide) hq (fun hq => ?_) (fun hq => ?_)
      · exact zz_vret S hB hr hlocks dX12_cuts_54 hq
      · refine lv_aload_n hx hb dX12_cuts_34 rfl (lv_at hl 0 rfl) ?_
        refine zz_getR S hT hB (C := RX12) (ref := "DiagramDeskModel") (F := TX12) (N := 24) (index := 7) 12 0 iwX12 rfl (by decide) (by decide) rfl rfl (wS wd_569) (fun _ h9 => h9) dX12_cuts_35 hq (fun a12 hq => ?_)
        refine lv_iload_n hx hb dX12_cuts_38 rfl (lv_at hl 1 rfl) ?_
        refine lv_aload_n hx hb dX12_cuts_39 rfl (lv_at hl 0 rfl) ?_
        refine zz_getR S hT hB (C := RX12) (ref := "DiagramDeskModel") (F := TX12) (N := 24) (index := 7) 12 0 iwX12 rfl (by decide) (by decide) rfl rfl (wS wd_569) (fun _ h9 => h9) dX12_cuts_40 hq (fun a13 hq => ?_)
        refine lv_iload_n hx hb dX12_cuts_43 rfl (lv_at hl 1 rfl) ?_
        refine lv_iconst (v := 5) hx hb dX12_cuts_44 (by decide) ?_
        refine lv_iadd hx hb dX12_cuts_45 ?_
        refine zz_ald S hT hB dX12_cuts_46 hq (fun x14 hq => ?_)
        refine zz_ast S hT hB dX12_cuts_47 hq (fun s15 H locs hq hB => ?_)
        refine zz_nmV hq (fun x16 ex16 hq => ?_)
        refine lv_iinc (v := x16) (lv' := [(2, .int x16), (0, .ref (ad a0))]) hx hb dX12_cuts_48 hl (k := 1) rfl (by rw [ex16]; rfl) (by decide) rfl (fun ls hl => ?_)
        refine lv_goto (tgt := 18) hx hb dX12_cuts_51 (by decide) ?_
        exact ih18 x16 s15 _ _ _ hq hB (lv_sub hl [1, 0] rfl)
  exact L18 N x7 s6 _ _ _ hq hB (lv_sub hl [1, 0] rfl)
def f_X12_isAt (T : zT) (N : Nat) (s0 : zS) (a0 : Nat) (x1 : Int32) (x2 : Int32) : Option (Int32 × zS) :=
  zz1 (T.1 a0 = 12) <|
  (gR T s0 a0 12 0).bind fun a5 =>
  (aI T s0 a5 13 ((190 : Int32) + ((5 : Int32) * x1))).bind fun x6 =>
  if x6 = x2 then (
    rZ (1 : Int32) s0)
  else (
    (gR T s0 a0 12 0).bind fun a7 =>
    (aI T s0 a7 13 (((190 : Int32) + ((5 : Int32) * x1)) + (2 : Int32))).bind fun x8 =>
    if ¬ x8 = x2 then (
      rZ (0 : Int32) s0)
    else (
      rZ (1 : Int32) s0))
theorem k_X12_isAt (T : zT) (N : Nat) (s0 : zS) (a0 : Nat) (x1 : Int32) (x2 : Int32) : ∀ q, f_X12_isAt T N s0 a0 x1 x2 = some q → T.1 a0 = 12 := by
  intro q h
  unfold f_X12_isAt at h
  exact zz_guard h (fun h _ => h)
set_option maxHeartbeats 4000000 in
set_option maxRecDepth 100000 in
theorem c_X12_isAt (l : Launch) (D : va_G) (cy : Nat → ClassId) (T : zT) (hT : zok T) (ad : Nat → Nat) (N : Nat) (s0 : zS) (sz : Nat) (a0 : Nat) (x1 : Int32) (x2 : Int32) : ∀ (r0 : Int32) (σ0 : zS), f_X12_isAt T N s0 a0 x1 x2 = some (r0, σ0) → Met l yX12_isAt wsX12_isAt ({ frames := 0, cells := 0, slots := 0, locals := 0 }) (va_Pc [.ref (ad a0), .int x1, .int x2] (zPre D cy T ad s0 sz)) (va_Qi (fun (r2 : Int32) (σ2 : zS) => r2 = r0 ∧ σ2 = σ0) (zAt D cy T ad (zA T ad sz)) (zA T ad sz)) 0 0 (zA T ad sz) := by
  intro r0 σ0 hq
  refine Met.ofW (cc := cX12_isAt) (maxL := 3) (ret := (some .boolean)) (by decide) rfl ?_
  intro p e s m args below meth c s₁ B hml hv
  obtain ⟨hargs, hsz, hP, hK, hD0, hN⟩ := hv
  have hx := B.exec
  have hb := B.bytes
  have hr := B.returns
  have hts := atoms_spec (ws := wsX12_isAt) B.pre
  have hown : s.vm.findClass RX12 = some m.cls := findClass_of_methodNamed B.named
  have hlocks := B.notSynchronized
  have S : CallFix p m c cX12_isAt 3 s args wsX12_isAt RX12 := ⟨hx, hb, hml, hown, hts⟩
  subst hsz
  have hB : zB D cy T ad (zA T ad s.heap.size) s.heap s0 s.heap [] s := zz_entry hP hK hD0 hN
  obtain ⟨ls, hent, hl⟩ := zz_ent m hargs (n := 3) (Nat.le_of_ble_eq_true rfl)
  rw [hent]
  have hl : lv_has ls 3 [(0, .ref (ad a0)), (1, .int x1), (2, .int x2)] := hl
  have iwX12 : ∀ w ∈ u_ws RX12 TX12 24, w ∈ wsX12_isAt := fun w h => wS (inWX12 w h)
  unfold f_X12_isAt at hq
  refine zz_guard hq (fun hk0 hq => ?_)
  refine lv_aload_n hx hb dX12_isAt_0 rfl (lv_at hl 0 rfl) ?_
  refine zz_getR S hT hB (C := RX12) (ref := "DiagramDeskModel") (F := TX12) (N := 24) (index := 7) 12 0 iwX12 rfl (by decide) (by decide) rfl rfl (wS wd_569) (fun _ h9 => h9) dX12_isAt_1 hq (fun a5 hq => ?_)
  refine lv_sipush (v := 190) hx hb dX12_isAt_4 (by decide) ?_
  refine lv_iconst (v := 5) hx hb dX12_isAt_7 (by decide) ?_
  refine lv_iload_n hx hb dX12_isAt_8 rfl (lv_at hl 1 rfl) ?_
  refine lv_imul hx hb dX12_isAt_9 ?_
  refine lv_iadd hx hb dX12_isAt_10 ?_
  refine zz_ald S hT hB dX12_isAt_11 hq (fun x6 hq => ?_)
  refine lv_iload_n hx hb dX12_isAt_12 rfl (lv_at hl 2 rfl) ?_
  refine zz_icmp_eq (tgt := 34) hx hb dX12_isAt_13 (by decide) hq (fun hq => ?_) (fun hq => ?_)
  · refine lv_iconst (v := 1) hx hb dX12_isAt_34 (by decide) ?_
    refine lv_goto (tgt := 39) hx hb dX12_isAt_35 (by decide) ?_
    exact zz_zret S hB hr hlocks dX12_isAt_39 hq
  · refine lv_aload_n hx hb dX12_isAt_16 rfl (lv_at hl 0 rfl) ?_
    refine zz_getR S hT hB (C := RX12) (ref := "DiagramDeskModel") (F := TX12) (N := 24) (index := 7) 12 0 iwX12 rfl (by decide) (by decide) rfl rfl (wS wd_569) (fun _ h9 => h9) dX12_isAt_17 hq (fun a7 hq => ?_)
    refine lv_sipush (v := 190) hx hb dX12_isAt_20 (by decide) ?_
    refine lv_iconst (v := 5) hx hb dX12_isAt_23 (by decide) ?_
    refine lv_iload_n hx hb dX12_isAt_24 rfl (lv_at hl 1 rfl) ?_
    refine lv_imul hx hb dX12_isAt_25 ?_
    refine lv_iadd hx hb dX12_isAt_26 ?_
    refine lv_iconst (v := 2) hx hb dX12_isAt_27 (by decide) ?_
    refine lv_iadd hx hb dX12_isAt_28 ?_
    refine zz_ald S hT hB dX12_isAt_29 hq (fun x8 hq => ?_)
    refine lv_iload_n hx hb dX12_isAt_30 rfl (lv_at hl 2 rfl) ?_
    refine zz_icmp_ne (tgt := 38) hx hb dX12_isAt_31 (by decide) hq (fun hq => ?_) (fun hq => ?_)
    · refine lv_iconst (v := 0) hx hb dX12_isAt_38 (by decide) ?_
      exact zz_zret S hB hr hlocks dX12_isAt_39 hq
    · refine lv_iconst (v := 1) hx hb dX12_isAt_34 (by decide) ?_
      refine lv_goto (tgt := 39) hx hb dX12_isAt_35 (by decide) ?_
      exact zz_zret S hB hr hlocks dX12_isAt_39 hq
def f_X12_removeShape_L68 (T : zT) (N : Nat) (a0 : Nat) (x1 : Int32) (x10 : Int32) (k68 : Int32 → zS → Option (Int32 × zS)) (x18 : Int32) (s19 : zS) : Option (Int32 × zS) :=
  (gR T s19 a0 12 0).bind fun a20 =>
  (aI T s19 a20 13 (1 : Int32)).bind fun x21 =>
  if x21 ≤ x18 then (
    (gR T s19 a0 12 0).bind fun a22 =>
    (sI T s19 a22 ((10 : Int32) + ((8 : Int32) * x1)) (0 : Int32)).bind fun s23 =>
    (f_X12_prunes T N s23 a0).bind fun s24 =>
    some (x10, s24))
  else (
    (gR T s19 a0 12 0).bind fun a25 =>
    (gR T s19 a0 12 0).bind fun a26 =>
    (aI T s19 a26 13 (((170 : Int32) + x18) + (1 : Int32))).bind fun x27 =>
    (sI T s19 a25 ((170 : Int32) + x18) x27).bind fun s28 =>
    zn (x18 + (1 : Int32)) fun x29 =>
    k68 x29 s28)
def f_X12_removeShape_L25 (T : zT) (N : Nat) (a0 : Nat) (x1 : Int32) (k25 : Int32 → Int32 → zS → Option (Int32 × zS)) (x10 : Int32) (x11 : Int32) (s12 : zS) : Option (Int32 × zS) :=
  if x11 < 0 then (
    (gR T s12 a0 12 0).bind fun a13 =>
    (aI T s12 a13 13 (1 : Int32)).bind fun x14 =>
    (sI T s12 a13 (1 : Int32) (x14 - (1 : Int32))).bind fun s15 =>
    zb2 (f_X12_depthOf T N s15 a0 x1) fun x17 s16 =>
    zl2 (f_X12_removeShape_L68 T N a0 x1 x10) N x17 s16)
  else (
    zb2 (f_X12_isAt T N s12 a0 x11 x1) fun x31 s30 =>
    if x31 = 0 then (
      zn (x11 + (-1 : Int32)) fun x32 =>
      k25 x10 x32 s30)
    else (
      (f_X12_cuts T N s30 a0 x11).bind fun s33 =>
      zn (x10 + (1 : Int32)) fun x34 =>
      zn (x11 + (-1 : Int32)) fun x35 =>
      k25 x34 x35 s33))
def f_X12_removeShape (T : zT) (N : Nat) (s0 : zS) (a0 : Nat) (x1 : Int32) : Option (Int32 × zS) :=
  zz1 (T.1 a0 = 12) <|
  zb2 (f_X12_isShape T N s0 a0 x1) fun x5 s4 =>
  if ¬ x5 = 0 then (
    (f_X12_act T N s4 a0).bind fun s6 =>
    (gR T s6 a0 12 0).bind fun a7 =>
    (aI T s6 a7 13 (2 : Int32)).bind fun x8 =>
    zn (x8 - (1 : Int32)) fun x9 =>
    zl3 (f_X12_removeShape_L25 T N a0 x1) N (0 : Int32) x9 s6)
  else (
    some ((-1 : Int32), s4))
theorem k_X12_removeShape (T : zT) (N : Nat) (s0 : zS) (a0 : Nat) (x1 : Int32) : ∀ q, f_X12_removeShape T N s0 a0 x1 = some q → T.1 a0 = 12 := by
  intro q h
  unfold f_X12_removeShape at h
  exact zz_guard h (fun h _ => h)
set_option maxHeartbeats 4000000 in
set_option maxRecDepth 100000 in
theorem c_X12_removeShape (l : Launch) (D : va_G) (cy : Nat → ClassId) (T : zT) (hT : zok T) (ad : Nat → Nat) (N : Nat) (s0 : zS) (sz : Nat) (a0 : Nat) (x1 : Int32) : ∀ (r0 : Int32) (σ0 : zS), f_X12_removeShape T N s0 a0 x1 = some (r0, σ0) → Met l yX12_removeShape wsX12_removeShape ({ frames := 5, cells := 0, slots := 0, locals := 110 }) (va_Pc [.ref (ad a0), .int x1] (zPre D cy T ad s0 sz)) (va_Qi (fun (r2 : Int32) (σ2 : zS) => r2 = r0 ∧ σ2 = σ0) (zAt D cy T ad (zA T ad sz)) (zA T ad sz)) 0 0 (zA T ad sz) := by
  intro r0 σ0 hq
  refine Met.ofW (cc := cX12_removeShape) (maxL := 4) (ret := (some .int)) (by decide) rfl ?_
  intro p e s m args below meth c s₁ B hml hv
  obtain ⟨hargs, hsz, hP, hK, hD0, hN⟩ := hv
  have hx := B.exec
  have hb := B.bytes
  have hr := B.returns
  have hts := atoms_spec (ws := wsX12_removeShape) B.pre
  have hown : s.vm.findClass RX12 = some m.cls := findClass_of_methodNamed B.named
  have hlocks := B.notSynchronized
  have S : CallFix p m c cX12_removeShape 4 s args wsX12_removeShape RX12 := ⟨hx, hb, hml, hown, hts⟩
  subst hsz
  have hB : zB D cy T ad (zA T ad s.heap.size) s.heap s0 s.heap [] s := zz_entry hP hK hD0 hN
  obtain ⟨ls, hent, hl⟩ := zz_ent m hargs (n := 4) (Nat.le_of_ble_eq_true rfl)
  rw [hent]
  have hl : lv_has ls 4 [(0, .ref (ad a0)), (1, .int x1)] := hl
  have iwX12 : ∀ w ∈ u_ws RX12 TX12 24, w ∈ wsX12_removeShape := fun w h => wS (inWX12 w h)
  unfold f_X12_removeShape at hq
  refine zz_guard hq (fun hk0 hq => ?_)
  refine lv_aload_n hx hb dX12_removeShape_0 rfl (lv_at hl 0 rfl) ?_
  refine lv_iload_n hx hb dX12_removeShape_1 rfl (lv_at hl 1 rfl) ?_
  refine zz_callVi S hT hB (As := [.int x1]) (b := a0) (o := f_X12_isShape T N s0 a0 x1) (c_X12_isShape l D cy T hT ad N s0 _ a0 x1) (cwV 1 hts (gV wSub wd_612 wd_613 wd_614 wd_572 wd_615) rfl rfl rfl (by decide +kernel) ⟨Nat.le_of_ble_eq_true rfl, Nat.le_of_ble_eq_true rfl⟩) (F := TX12) (NF := 24) 12 rfl (by decide) (k_X12_isShape T N s0 a0 x1) rfl hl.1 rfl (Nat.le_of_ble_eq_true rfl) dX12_removeShape_2 hq (fun x5 s4 H locs hq hB => ?_)
  refine zz_if_ne (tgt := 10) hx hb dX12_removeShape_5 (by decide) hq (fun hq => ?_) (fun hq => ?_)
  · refine lv_aload_n hx hb dX12_removeShape_10 rfl (lv_at hl 0 rfl) ?_
    refine zz_callVv S hT hB (As := []) (b := a0) (o := f_X12_act T N s4 a0) (c_X12_act l D cy T hT ad N s4 _ a0) (cwV 0 hts (gV wSub wd_604 wd_605 wd_606 wd_572 wd_607) rfl rfl rfl (by decide +kernel) ⟨Nat.le_of_ble_eq_true rfl, Nat.le_of_ble_eq_true rfl⟩) (F := TX12) (NF := 24) 12 rfl (by decide) (k_X12_act T N s4 a0) rfl hl.1 rfl (Nat.le_of_ble_eq_true rfl) dX12_removeShape_11 hq (fun s6 H locs hq hB => ?_)
    refine lv_iconst (v := 0) hx hb dX12_removeShape_14 (by decide) ?_
    refine lv_istore_n (lv' := [(2, .int (0 : Int32)), (0, .ref (ad a0)), (1, .int x1)]) hx hb dX12_removeShape_15 rfl hl (by decide) rfl (fun ls hl => ?_)
    refine lv_aload_n hx hb dX12_removeShape_16 rfl (lv_at hl 1 rfl) ?_
    refine zz_getR S hT hB (C := RX12) (ref := "DiagramDeskModel") (F := TX12) (N := 24) (index := 7) 12 0 iwX12 rfl (by decide) (by decide) rfl rfl (wS wd_569) (fun _ h9 => h9) dX12_removeShape_17 hq (fun a7 hq => ?_)
    refine lv_iconst (v := 2) hx hb dX12_removeShape_20 (by decide) ?_
    refine zz_ald S hT hB dX12_removeShape_21 hq (fun x8 hq => ?_)
    refine lv_iconst (v := 1) hx hb dX12_removeShape_22 (by decide) ?_
    refine lv_isub hx hb dX12_removeShape_23 ?_
    refine zz_nmI hq (fun x9 hq => ?_)
    refine lv_istore_n (lv' := [(3, .int x9), (2, .int (0 : Int32)), (0, .ref (ad a0)), (1, .int x1)]) hx hb dX12_removeShape_24 rfl hl (by decide) rfl (fun ls hl => ?_)
    have L25 : ∀ (n : Nat) (x10 : Int32) (x11 : Int32) (s12 : zS) (H : Heap) (locs : List Loc) (ls : Array Slot), zl3 (f_X12_removeShape_L25 T N a0 x1) n x10 x11 s12 = some (r0, σ0) → zB D cy T ad (zA T ad s.heap.size) s.heap s12 H locs s → lv_has ls 4 [(0, .ref (ad a0)), (1, .int x1), (2, .int x10), (3, .int x11)] → W p l e (headSpec wsX12_removeShape ({ frames := 5, cells := 0, slots := 0, locals := 110 } : Room)).room s m args below meth c H locs 0 0 (MQ below (va_Qi (fun (r2 : Int32) (σ2 : zS) => r2 = r0 ∧ σ2 = σ0) (zAt D cy T ad (zA T ad s.heap.size)) (zA T ad s.heap.size)) args s 0 0 (zA T ad s.heap.size)) (F0 m 25 ls []) := by
      intro n
      induction n with
      | zero => intro x10 x11 s12 H locs ls hq; exact zz_none hq
      | succ n ih25 =>
        intro x10 x11 s12 H locs ls hq hB hl
        rw [zl3] at hq
        generalize zl3 (f_X12_removeShape_L25 T N a0 x1) n = k25 at ih25 hq
        unfold f_X12_removeShape_L25 at hq
        refine lv_iload_n hx hb dX12_removeShape_25 rfl (lv_at hl 3 rfl) ?_
        refine zz_if_lt (tgt := 52) hx hb dX12_removeShape_26 (by decide) hq (fun hq => ?_) (fun hq => ?_)
        · refine lv_aload_n hx hb dX12_removeShape_52 rfl (lv_at hl 0 rfl) ?_
          refine zz_getR S hT hB (C := RX12) (ref := "DiagramDeskModel") (F := TX12) (N := 24) (index := 7) 12 0 iwX12 rfl (by decide) (by decide) rfl rfl (wS wd_569) (fun _ h9 => h9) dX12_removeShape_53 hq (fun a13 hq => ?_)
          refine lv_iconst (v := 1) hx hb dX12_removeShape_56 (by decide) ?_
          refine lv_dup2_11 hx hb dX12_removeShape_57 rfl rfl ?_
          refine zz_ald S hT hB dX12_removeShape_58 hq (fun x14 hq => ?_)
          refine lv_iconst (v := 1) hx hb dX12_removeShape_59 (by decide) ?_
          refine lv_isub hx hb dX12_removeShape_60 ?_
          refine zz_ast S hT hB dX12_removeShape_61 hq (fun s15 H locs hq hB => ?_)
          refine lv_aload_n hx hb dX12_removeShape_62 rfl (lv_at hl 0 rfl) ?_
          refine lv_iload_n hx hb dX12_removeShape_63 rfl (lv_at hl 1 rfl) ?_
          refine zz_callVi S hT hB (As := [.int x1]) (b := a0) (o := f_X12_depthOf T N s15 a0 x1) (c_X12_depthOf l D cy T hT ad N s15 _ a0 x1) (cwV 1 hts (gV wSub wd_616 wd_617 wd_618 wd_572 wd_619) rfl rfl rfl (by decide +kernel) ⟨Nat.le_of_ble_eq_true rfl, Nat.le_of_ble_eq_true rfl⟩) (F := TX12) (NF := 24) 12 rfl (by decide) (k_X12_depthOf T N s15 a0 x1) rfl hl.1 rfl (Nat.le_of_ble_eq_true rfl) dX12_removeShape_64 hq (fun x17 s16 H locs hq hB => ?_)
          refine lv_istore_n (lv' := [(3, .int x17), (0, .ref (ad a0)), (1, .int x1), (2, .int x10)]) hx hb dX12_removeShape_67 rfl hl (by decide) rfl (fun ls hl => ?_)
          have L68 : ∀ (n : Nat) (x18 : Int32) (s19 : zS) (H : Heap) (locs : List Loc) (ls : Array Slot), zl2 (f_X12_removeShape_L68 T N a0 x1 x10) n x18 s19 = some (r0, σ0) → zB D cy T ad (zA T ad s.heap.size) s.heap s19 H locs s → lv_has ls 4 [(0, .ref (ad a0)), (1, .int x1), (2, .int x10), (3, .int x18)] → W p l e (headSpec wsX12_removeShape ({ frames := 5, cells := 0, slots := 0, locals := 110 } : Room)).room s m args below meth c H locs 0 0 (MQ below (va_Qi (fun (r2 : Int32) (σ2 : zS) => r2 = r0 ∧ σ2 = σ0) (zAt D cy T ad (zA T ad s.heap.size)) (zA T ad s.heap.size)) args s 0 0 (zA T ad s.heap.size)) (F0 m 68 ls []) := by
            intro n
            induction n with
            | zero => intro x18 s19 H locs ls hq; exact zz_none hq
            | succ n ih68 =>
              intro x18 s19 H locs ls hq hB hl
              rw [zl2] at hq
              generalize zl2 (f_X12_removeShape_L68 T N a0 x1 x10) n = k68 at ih68 hq
              unfold f_X12_removeShape_L68 at hq
              refine lv_iload_n hx hb dX12_removeShape_68 rfl (lv_at hl 3 rfl) ?_
              refine lv_aload_n hx hb dX12_removeShape_69 rfl (lv_at hl 0 rfl) ?_
              refine zz_getR S hT hB (C := RX12) (ref := "DiagramDeskModel") (F := TX12) (N := 24) (index := 7) 12 0 iwX12 rfl (by decide) (by decide) rfl rfl (wS wd_569) (fun _ h9 => h9) dX12_removeShape_70 hq (fun a20 hq => ?_)
              refine lv_iconst (v := 1) hx hb dX12_removeShape_73 (by decide) ?_
              refine zz_ald S hT hB dX12_removeShape_74 hq (fun x21 hq => ?_)
              refine zz_icmp_ge (tgt := 106) hx hb dX12_removeShape_75 (by decide) hq (fun hq => ?_) (fun hq => ?_)
              · refine lv_aload_n hx hb dX12_removeShape_106 rfl (lv_at hl 0 rfl) ?_
                refine zz_getR S hT hB (C := RX12) (ref := "DiagramDeskModel") (F := TX12) (N := 24) (index := 7) 12 0 iwX12 rfl (by decide) (by decide) rfl rfl (wS wd_569) (fun _ h9 => h9) dX12_removeShape_107 hq (fun a22 hq => ?_)
                refine lv_bipush (v := 10) hx hb dX12_removeShape_110 (by decide) ?_
                refine lv_bipush (v := 8) hx hb dX12_removeShape_112 (by decide) ?_
                refine lv_iload_n hx hb dX12_removeShape_114 rfl (lv_at hl 1 rfl) ?_
                refine lv_imul hx hb dX12_removeShape_115 ?_
                refine lv_iadd hx hb dX12_removeShape_116 ?_
                refine lv_iconst (v := 0) hx hb dX12_removeShape_117 (by decide) ?_
                refine zz_ast S hT hB dX12_removeShape_118 hq (fun s23 H locs hq hB => ?_)
                refine lv_aload_n hx hb dX12_removeShape_119 rfl (lv_at hl 0 rfl) ?_
                refine zz_callVv S hT hB (As := []) (b := a0) (o := f_X12_prunes T N s23 a0) (c_X12_prunes l D cy T hT ad N s23 _ a0) (cwV 0 hts (gV wSub wd_620 wd_621 wd_622 wd_572 wd_623) rfl rfl rfl (by decide +kernel) ⟨Nat.le_of_ble_eq_true rfl, Nat.le_of_ble_eq_true rfl⟩) (F := TX12) (NF := 24) 12 rfl (by decide) (k_X12_prunes T N s23 a0) rfl hl.1 rfl (Nat.le_of_ble_eq_true rfl) dX12_removeShape_120 hq (fun s24 H locs hq hB => ?_)
                refine lv_iload_n hx hb dX12_removeShape_123 rfl (lv_at hl 2 rfl) ?_
                exact zz_iret S hB hr hlocks dX12_removeShape_124 hq
              · refine lv_aload_n hx hb dX12_removeShape_78 rfl (lv_at hl 0 rfl) ?_
                refine zz_getR S hT hB (C := RX12) (ref := "DiagramDeskModel") (F := TX12) (N := 24) (index := 7) 12 0 iwX12 rfl (by decide) (by decide) rfl rfl (wS wd_569) (fun _ h9 => h9) dX12_removeShape_79 hq (fun a25 hq => ?_)
                refine lv_sipush (v := 170) hx hb dX12_removeShape_82 (by decide) ?_
                refine lv_iload_n hx hb dX12_removeShape_85 rfl (lv_at hl 3 rfl) ?_
                refine lv_iadd hx hb dX12_removeShape_86 ?_
                refine lv_aload_n hx hb dX12_removeShape_87 rfl (lv_at hl 0 rfl) ?_
                refine zz_getR S hT hB (C := RX12) (ref := "DiagramDeskModel") (F := TX12) (N := 24) (index := 7) 12 0 iwX12 rfl (by decide) (by decide) rfl rfl (wS wd_569) (fun _ h9 => h9) dX12_removeShape_88 hq (fun a26 hq => ?_)
                refine lv_sipush (v := 170) hx hb dX12_removeShape_91 (by decide) ?_
                refine lv_iload_n hx hb dX12_removeShape_94 rfl (lv_at hl 3 rfl) ?_
                refine lv_iadd hx hb dX12_removeShape_95 ?_
                refine lv_iconst (v := 1) hx hb dX12_removeShape_96 (by decide) ?_
                refine lv_iadd hx hb dX12_removeShape_97 ?_
                refine zz_ald S hT hB dX12_removeShape_98 hq (fun x27 hq => ?_)
                refine zz_ast S hT hB dX12_removeShape_99 hq (fun s28 H locs hq hB => ?_)
                refine zz_nmV hq (fun x29 ex29 hq => ?_)
                refine lv_iinc (v := x29) (lv' := [(3, .int x29), (0, .ref (ad a0)), (1, .int x1), (2, .int x10)]) hx hb dX12_removeShape_100 hl (k := 3) rfl (by rw [ex29]; rfl) (by decide) rfl (fun ls hl => ?_)
                refine lv_goto (tgt := 68) hx hb dX12_removeShape_103 (by decide) ?_
                exact ih68 x29 s28 _ _ _ hq hB (lv_sub hl [1, 2, 3, 0] rfl)
          exact L68 N x17 s16 _ _ _ hq hB (lv_sub hl [1, 2, 3, 0] rfl)
        · refine lv_aload_n hx hb dX12_removeShape_29 rfl (lv_at hl 0 rfl) ?_
          refine lv_iload_n hx hb dX12_removeShape_30 rfl (lv_at hl 3 rfl) ?_
          refine lv_iload_n hx hb dX12_removeShape_31 rfl (lv_at hl 1 rfl) ?_
          refine zz_callVi S hT hB (As := [.int x11, .int x1]) (b := a0) (o := f_X12_isAt T N s12 a0 x11 x1) (c_X12_isAt l D cy T hT ad N s12 _ a0 x11 x1) (cwV 2 hts (gV wSub wd_624 wd_625 wd_626 wd_572 wd_627) rfl rfl rfl (by decide +kernel) ⟨Nat.le_of_ble_eq_true rfl, Nat.le_of_ble_eq_true rfl⟩) (F := TX12) (NF := 24) 12 rfl (by decide) (k_X12_isAt T N s12 a0 x11 x1) rfl hl.1 rfl (Nat.le_of_ble_eq_true rfl) dX12_removeShape_32 hq (fun x31 s30 H locs hq hB => ?_)
          refine zz_if_eq (tgt := 46) hx hb dX12_removeShape_35 (by decide) hq (fun hq => ?_) (fun hq => ?_)
          · refine zz_nmV hq (fun x32 ex32 hq => ?_)
            refine lv_iinc (v := x32) (lv' := [(3, .int x32), (0, .ref (ad a0)), (1, .int x1), (2, .int x10)]) hx hb dX12_removeShape_46 hl (k := 3) rfl (by rw [ex32]; rfl) (by decide) rfl (fun ls hl => ?_)
            refine lv_goto (tgt := 25) hx hb dX12_removeShape_49 (by decide) ?_
            exact ih25 x10 x32 s30 _ _ _ hq hB (lv_sub hl [1, 2, 3, 0] rfl)
          · refine lv_aload_n hx hb dX12_removeShape_38 rfl (lv_at hl 0 rfl) ?_
            refine lv_iload_n hx hb dX12_removeShape_39 rfl (lv_at hl 3 rfl) ?_
            refine zz_callVv S hT hB (As := [.int x11]) (b := a0) (o := f_X12_cuts T N s30 a0 x11) (c_X12_cuts l D cy T hT ad N s30 _ a0 x11) (cwV 1 hts (gV wSub wd_628 wd_629 wd_630 wd_572 wd_631) rfl rfl rfl (by decide +kernel) ⟨Nat.le_of_ble_eq_true rfl, Nat.le_of_ble_eq_true rfl⟩) (F := TX12) (NF := 24) 12 rfl (by decide) (k_X12_cuts T N s30 a0 x11) rfl hl.1 rfl (Nat.le_of_ble_eq_true rfl) dX12_removeShape_40 hq (fun s33 H locs hq hB => ?_)
            refine zz_nmV hq (fun x34 ex34 hq => ?_)
            refine lv_iinc (v := x34) (lv' := [(2, .int x34), (0, .ref (ad a0)), (1, .int x1), (3, .int x11)]) hx hb dX12_removeShape_43 hl (k := 2) rfl (by rw [ex34]; rfl) (by decide) rfl (fun ls hl => ?_)
            refine zz_nmV hq (fun x35 ex35 hq => ?_)
            refine lv_iinc (v := x35) (lv' := [(3, .int x35), (2, .int x34), (0, .ref (ad a0)), (1, .int x1)]) hx hb dX12_removeShape_46 hl (k := 3) rfl (by rw [ex35]; rfl) (by decide) rfl (fun ls hl => ?_)
            refine lv_goto (tgt := 25) hx hb dX12_removeShape_49 (by decide) ?_
            exact ih25 x34 x35 s33 _ _ _ hq hB (lv_sub hl [2, 3, 1, 0] rfl)
    exact L25 N (0 : Int32) x9 s6 _ _ _ hq hB (lv_sub hl [2, 3, 1, 0] rfl)
  · refine lv_iconst (v := -1) hx hb dX12_removeShape_8 (by decide) ?_
    exact zz_iret S hB hr hlocks dX12_removeShape_9 hq
def f_X12_resize_L64 (T : zT) (N : Nat) (a0 : Nat) (x1 : Int32) (k64 : Int32 → Int32 → zS → Option (Int32 × zS)) (x17 : Int32) (x18 : Int32) (s19 : zS) : Option (Int32 × zS) :=
  (gR T s19 a0 12 0).bind fun a20 =>
  (aI T s19 a20 13 (2 : Int32)).bind fun x21 =>
  if x21 ≤ x18 then (
    some (x17, s19))
  else (
    zb2 (f_X12_isAt T N s19 a0 x18 x1) fun x23 s22 =>
    if x23 = 0 then (
      zn (x17 + (0 : Int32)) fun x24 =>
      zn (x18 + (1 : Int32)) fun x25 =>
      k64 x24 x25 s22)
    else (
      zn (x17 + (1 : Int32)) fun x26 =>
      zn (x18 + (1 : Int32)) fun x27 =>
      k64 x26 x27 s22))
def f_X12_resize (T : zT) (N : Nat) (s0 : zS) (a0 : Nat) (x1 : Int32) (x2 : Int32) (x3 : Int32) : Option (Int32 × zS) :=
  zz1 (T.1 a0 = 12) <|
  zb2 (f_X12_isShape T N s0 a0 x1) fun x7 s6 =>
  if x7 = 0 then (
    some ((-1 : Int32), s6))
  else (
    zb2 (f_X12_isSize T N s6 x2) fun x9 s8 =>
    if x9 = 0 then (
      some ((-1 : Int32), s8))
    else (
      zb2 (f_X12_isSize T N s8 x3) fun x11 s10 =>
      if ¬ x11 = 0 then (
        (f_X12_act T N s10 a0).bind fun s12 =>
        (gR T s12 a0 12 0).bind fun a13 =>
        (sI T s12 a13 (((10 : Int32) + ((8 : Int32) * x1)) + (4 : Int32)) x2).bind fun s14 =>
        (gR T s14 a0 12 0).bind fun a15 =>
        (sI T s14 a15 (((10 : Int32) + ((8 : Int32) * x1)) + (5 : Int32)) x3).bind fun s16 =>
        zl3 (f_X12_resize_L64 T N a0 x1) N (0 : Int32) (0 : Int32) s16)
      else (
        some ((-1 : Int32), s10))))
theorem k_X12_resize (T : zT) (N : Nat) (s0 : zS) (a0 : Nat) (x1 : Int32) (x2 : Int32) (x3 : Int32) : ∀ q, f_X12_resize T N s0 a0 x1 x2 x3 = some q → T.1 a0 = 12 := by
  intro q h
  unfold f_X12_resize at h
  exact zz_guard h (fun h _ => h)
set_option maxHeartbeats 4000000 in
set_option maxRecDepth 100000 in
theorem c_X12_resize (l : Launch) (D : va_G) (cy : Nat → ClassId) (T : zT) (hT : zok T) (ad : Nat → Nat) (N : Nat) (s0 : zS) (sz : Nat) (a0 : Nat) (x1 : Int32) (x2 : Int32) (x3 : Int32) : ∀ (r0 : Int32) (σ0 : zS), f_X12_resize T N s0 a0 x1 x2 x3 = some (r0, σ0) → Met l yX12_resize wsX12_resize ({ frames := 2, cells := 0, slots := 0, locals := 43 }) (va_Pc [.ref (ad a0), .int x1, .int x2, .int x3] (zPre D cy T ad s0 sz)) (va_Qi (fun (r2 : Int32) (σ2 : zS) => r2 = r0 ∧ σ2 = σ0) (zAt D cy T ad (zA T ad sz)) (zA T ad sz)) 0 0 (zA T ad sz) := by
  intro r0 σ0 hq
  refine Met.ofW (cc := cX12_resize) (maxL := 6) (ret := (some .int)) (by decide) rfl ?_
  intro p e s m args below meth c s₁ B hml hv
  obtain ⟨hargs, hsz, hP, hK, hD0, hN⟩ := hv
  have hx := B.exec
  have hb := B.bytes
  have hr := B.returns
  have hts := atoms_spec (ws := wsX12_resize) B.pre
  have hown : s.vm.findClass RX12 = some m.cls := findClass_of_methodNamed B.named
  have hlocks := B.notSynchronized
  have S : CallFix p m c cX12_resize 6 s args wsX12_resize RX12 := ⟨hx, hb, hml, hown, hts⟩
  subst hsz
  have hB : zB D cy T ad (zA T ad s.heap.size) s.heap s0 s.heap [] s := zz_entry hP hK hD0 hN
  obtain ⟨ls, hent, hl⟩ := zz_ent m hargs (n := 6) (Nat.le_of_ble_eq_true rfl)
  rw [hent]
  have hl : lv_has ls 6 [(0, .ref (ad a0)), (1, .int x1), (2, .int x2), (3, .int x3)] := hl
  have iwX12 : ∀ w ∈ u_ws RX12 TX12 24, w ∈ wsX12_resize := fun w h => wS (inWX12 w h)
  unfold f_X12_resize at hq
  refine zz_guard hq (fun hk0 hq => ?_)
  refine lv_aload_n hx hb dX12_resize_0 rfl (lv_at hl 0 rfl) ?_
  refine lv_iload_n hx hb dX12_resize_1 rfl (lv_at hl 1 rfl) ?_
  refine zz_callVi S hT hB (As := [.int x1]) (b := a0) (o := f_X12_isShape T N s0 a0 x1) (c_X12_isShape l D cy T hT ad N s0 _ a0 x1) (cwV 1 hts (gV wSub wd_612 wd_613 wd_614 wd_572 wd_615) rfl rfl rfl (by decide +kernel) ⟨Nat.le_of_ble_eq_true rfl, Nat.le_of_ble_eq_true rfl⟩) (F := TX12) (NF := 24) 12 rfl (by decide) (k_X12_isShape T N s0 a0 x1) rfl hl.1 rfl (Nat.le_of_ble_eq_true rfl) dX12_resize_2 hq (fun x7 s6 H locs hq hB => ?_)
  refine zz_if_eq (tgt := 22) hx hb dX12_resize_5 (by decide) hq (fun hq => ?_) (fun hq => ?_)
  · refine lv_iconst (v := -1) hx hb dX12_resize_22 (by decide) ?_
    exact zz_iret S hB hr hlocks dX12_resize_23 hq
  · refine lv_iload_n hx hb dX12_resize_8 rfl (lv_at hl 2 rfl) ?_
    refine zz_callSi S hT hB (As := [.int x2]) (o := f_X12_isSize T N s6 x2) (c_X12_isSize l D cy T hT ad N s6 _ x2) (va_cwS 1 hts (gS wSub wd_601 wd_602 wd_572 wd_603) rfl rfl rfl (by decide +kernel) ⟨Nat.le_of_ble_eq_true rfl, Nat.le_of_ble_eq_true rfl⟩) rfl hl.1 rfl (Nat.le_of_ble_eq_true rfl) dX12_resize_9 hq (fun x9 s8 H locs hq hB => ?_)
    refine zz_if_eq (tgt := 22) hx hb dX12_resize_12 (by decide) hq (fun hq => ?_) (fun hq => ?_)
    · refine lv_iconst (v := -1) hx hb dX12_resize_22 (by decide) ?_
      exact zz_iret S hB hr hlocks dX12_resize_23 hq
    · refine lv_iload_n hx hb dX12_resize_15 rfl (lv_at hl 3 rfl) ?_
      refine zz_callSi S hT hB (As := [.int x3]) (o := f_X12_isSize T N s8 x3) (c_X12_isSize l D cy T hT ad N s8 _ x3) (va_cwS 1 hts (gS wSub wd_601 wd_602 wd_572 wd_603) rfl rfl rfl (by decide +kernel) ⟨Nat.le_of_ble_eq_true rfl, Nat.le_of_ble_eq_true rfl⟩) rfl hl.1 rfl (Nat.le_of_ble_eq_true rfl) dX12_resize_16 hq (fun x11 s10 H locs hq hB => ?_)
      refine zz_if_ne (tgt := 24) hx hb dX12_resize_19 (by decide) hq (fun hq => ?_) (fun hq => ?_)
      · refine lv_aload_n hx hb dX12_resize_24 rfl (lv_at hl 0 rfl) ?_
        refine zz_callVv S hT hB (As := []) (b := a0) (o := f_X12_act T N s10 a0) (c_X12_act l D cy T hT ad N s10 _ a0) (cwV 0 hts (gV wSub wd_604 wd_605 wd_606 wd_572 wd_607) rfl rfl rfl (by decide +kernel) ⟨Nat.le_of_ble_eq_true rfl, Nat.le_of_ble_eq_true rfl⟩) (F := TX12) (NF := 24) 12 rfl (by decide) (k_X12_act T N s10 a0) rfl hl.1 rfl (Nat.le_of_ble_eq_true rfl) dX12_resize_25 hq (fun s12 H locs hq hB => ?_)
        refine lv_aload_n hx hb dX12_resize_28 rfl (lv_at hl 0 rfl) ?_
        refine zz_getR S hT hB (C := RX12) (ref := "DiagramDeskModel") (F := TX12) (N := 24) (index := 7) 12 0 iwX12 rfl (by decide) (by decide) rfl rfl (wS wd_569) (fun _ h9 => h9) dX12_resize_29 hq (fun a13 hq => ?_)
        refine lv_bipush (v := 10) hx hb dX12_resize_32 (by decide) ?_
        refine lv_bipush (v := 8) hx hb dX12_resize_34 (by decide) ?_
        refine lv_iload_n hx hb dX12_resize_36 rfl (lv_at hl 1 rfl) ?_
        refine lv_imul hx hb dX12_resize_37 ?_
        refine lv_iadd hx hb dX12_resize_38 ?_
        refine lv_iconst (v := 4) hx hb dX12_resize_39 (by decide) ?_
        refine lv_iadd hx hb dX12_resize_40 ?_
        refine lv_iload_n hx hb dX12_resize_41 rfl (lv_at hl 2 rfl) ?_
        refine zz_ast S hT hB dX12_resize_42 hq (fun s14 H locs hq hB => ?_)
        refine lv_aload_n hx hb dX12_resize_43 rfl (lv_at hl 0 rfl) ?_
        refine zz_getR S hT hB (C := RX12) (ref := "DiagramDeskModel") (F := TX12) (N := 24) (index := 7) 12 0 iwX12 rfl (by decide) (by decide) rfl rfl (wS wd_569) (fun _ h9 => h9) dX12_resize_44 hq (fun a15 hq => ?_)
        refine lv_bipush (v := 10) hx hb dX12_resize_47 (by decide) ?_
        refine lv_bipush (v := 8) hx hb dX12_resize_49 (by decide) ?_
        refine lv_iload_n hx hb dX12_resize_51 rfl (lv_at hl 1 rfl) ?_
        refine lv_imul hx hb dX12_resize_52 ?_
        refine lv_iadd hx hb dX12_resize_53 ?_
        refine lv_iconst (v := 5) hx hb dX12_resize_54 (by decide) ?_
        refine lv_iadd hx hb dX12_resize_55 ?_
        refine lv_iload_n hx hb dX12_resize_56 rfl (lv_at hl 3 rfl) ?_
        refine zz_ast S hT hB dX12_resize_57 hq (fun s16 H locs hq hB => ?_)
        refine lv_iconst (v := 0) hx hb dX12_resize_58 (by decide) ?_
        refine lv_istore (lv' := [(4, .int (0 : Int32)), (0, .ref (ad a0)), (1, .int x1), (2, .int x2), (3, .int x3)]) hx hb dX12_resize_59 hl (by decide) rfl (fun ls hl => ?_)
        refine lv_iconst (v := 0) hx hb dX12_resize_61 (by decide) ?_
        refine lv_istore (lv' := [(5, .int (0 : Int32)), (4, .int (0 : Int32)), (0, .ref (ad a0)), (1, .int x1), (2, .int x2), (3, .int x3)]) hx hb dX12_resize_62 hl (by decide) rfl (fun ls hl => ?_)
        have L64 : ∀ (n : Nat) (x17 : Int32) (x18 : Int32) (s19 : zS) (H : Heap) (locs : List Loc) (ls : Array Slot), zl3 (f_X12_resize_L64 T N a0 x1) n x17 x18 s19 = some (r0, σ0) → zB D cy T ad (zA T ad s.heap.size) s.heap s19 H locs s → lv_has ls 6 [(0, .ref (ad a0)), (1, .int x1), (4, .int x17), (5, .int x18)] → W p l e (headSpec wsX12_resize ({ frames := 2, cells := 0, slots := 0, locals := 43 } : Room)).room s m args below meth c H locs 0 0 (MQ below (va_Qi (fun (r2 : Int32) (σ2 : zS) => r2 = r0 ∧ σ2 = σ0) (zAt D cy T ad (zA T ad s.heap.size)) (zA T ad s.heap.size)) args s 0 0 (zA T ad s.heap.size)) (F0 m 64 ls []) := by
          intro n
          induction n with
          | zero => intro x17 x18 s19 H locs ls hq; exact zz_none hq
          | succ n ih64 =>
            intro x17 x18 s19 H locs ls hq hB hl
            rw [zl3] at hq
            generalize zl3 (f_X12_resize_L64 T N a0 x1) n = k64 at ih64 hq
            unfold f_X12_resize_L64 at hq
            refine lv_iload hx hb dX12_resize_64 (lv_at hl 3 rfl) ?_
            refine lv_aload_n hx hb dX12_resize_66 rfl (lv_at hl 0 rfl) ?_
            refine zz_getR S hT hB (C := RX12) (ref := "DiagramDeskModel") (F := TX12) (N := 24) (index := 7) 12 0 iwX12 rfl (by decide) (by decide) rfl rfl (wS wd_569) (fun _ h9 => h9) dX12_resize_67 hq (fun a20 hq => ?_)
            refine lv_iconst (v := 2) hx hb dX12_resize_70 (by decide) ?_
            refine zz_ald S hT hB dX12_resize_71 hq (fun x21 hq => ?_)
            refine zz_icmp_ge (tgt := 101) hx hb dX12_resize_72 (by decide) hq (fun hq => ?_) (fun hq => ?_)
            · refine lv_iload hx hb dX12_resize_101 (lv_at hl 2 rfl) ?_
              exact zz_iret S hB hr hlocks dX12_resize_103 hq
            · refine lv_iload hx hb dX12_resize_75 (lv_at hl 2 rfl) ?_
              refine lv_aload_n hx hb dX12_resize_77 rfl (lv_at hl 0 rfl) ?_
              refine lv_iload hx hb dX12_resize_78 (lv_at hl 3 rfl) ?_
              refine lv_iload_n hx hb dX12_resize_80 rfl (lv_at hl 1 rfl) ?_
              refine zz_callVi S hT hB (As := [.int x18, .int x1]) (b := a0) (o := f_X12_isAt T N s19 a0 x18 x1) (c_X12_isAt l D cy T hT ad N s19 _ a0 x18 x1) (cwV 2 hts (gV wSub wd_624 wd_625 wd_626 wd_572 wd_627) rfl rfl rfl (by decide +kernel) ⟨Nat.le_of_ble_eq_true rfl, Nat.le_of_ble_eq_true rfl⟩) (F := TX12) (NF := 24) 12 rfl (by decide) (k_X12_isAt T N s19 a0 x18 x1) rfl hl.1 rfl (Nat.le_of_ble_eq_true rfl) dX12_resize_81 hq (fun x23 s22 H locs hq hB => ?_)
              refine zz_if_eq (tgt := 91) hx hb dX12_resize_84 (by decide) hq (fun hq => ?_) (fun hq => ?_)
              · refine lv_iconst (v := 0) hx hb dX12_resize_91 (by decide) ?_
                refine lv_iadd hx hb dX12_resize_92 ?_
                refine zz_nmI hq (fun x24 hq => ?_)
                refine lv_istore (lv' := [(4, .int x24), (0, .ref (ad a0)), (1, .int x1), (5, .int x18)]) hx hb dX12_resize_93 hl (by decide) rfl (fun ls hl => ?_)
                refine zz_nmV hq (fun x25 ex25 hq => ?_)
                refine lv_iinc (v := x25) (lv' := [(5, .int x25), (4, .int x24), (0, .ref (ad a0)), (1, .int x1)]) hx hb dX12_resize_95 hl (k := 3) rfl (by rw [ex25]; rfl) (by decide) rfl (fun ls hl => ?_)
                refine lv_goto (tgt := 64) hx hb dX12_resize_98 (by decide) ?_
                exact ih64 x24 x25 s22 _ _ _ hq hB (lv_sub hl [2, 3, 1, 0] rfl)
              · refine lv_iconst (v := 1) hx hb dX12_resize_87 (by decide) ?_
                refine lv_goto (tgt := 92) hx hb dX12_resize_88 (by decide) ?_
                refine lv_iadd hx hb dX12_resize_92 ?_
                refine zz_nmI hq (fun x26 hq => ?_)
                refine lv_istore (lv' := [(4, .int x26), (0, .ref (ad a0)), (1, .int x1), (5, .int x18)]) hx hb dX12_resize_93 hl (by decide) rfl (fun ls hl => ?_)
                refine zz_nmV hq (fun x27 ex27 hq => ?_)
                refine lv_iinc (v := x27) (lv' := [(5, .int x27), (4, .int x26), (0, .ref (ad a0)), (1, .int x1)]) hx hb dX12_resize_95 hl (k := 3) rfl (by rw [ex27]; rfl) (by decide) rfl (fun ls hl => ?_)
                refine lv_goto (tgt := 64) hx hb dX12_resize_98 (by decide) ?_
                exact ih64 x26 x27 s22 _ _ _ hq hB (lv_sub hl [2, 3, 1, 0] rfl)
        exact L64 N (0 : Int32) (0 : Int32) s16 _ _ _ hq hB (lv_sub hl [2, 3, 1, 0] rfl)
      · refine lv_iconst (v := -1) hx hb dX12_resize_22 (by decide) ?_
        exact zz_iret S hB hr hlocks dX12_resize_23 hq
