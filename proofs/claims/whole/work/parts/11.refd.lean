def f_X12_staysAll_L2 (T : zT) (N : Nat) (a0 : Nat) (k2 : Int32 → zS → Option zS) (x3 : Int32) (s4 : zS) : Option zS :=
  if (20 : Int32) ≤ x3 then (
    some s4)
  else (
    (gR T s4 a0 12 12).bind fun a5 =>
    (sI T s4 a5 x3 (0 : Int32)).bind fun s6 =>
    (gR T s6 a0 12 13).bind fun a7 =>
    (sI T s6 a7 x3 (0 : Int32)).bind fun s8 =>
    zn (x3 + (1 : Int32)) fun x9 =>
    k2 x9 s8)
def f_X12_staysAll (T : zT) (N : Nat) (s0 : zS) (a0 : Nat) : Option zS :=
  zz1 (T.1 a0 = 12) <|
  zl2 (f_X12_staysAll_L2 T N a0) N (0 : Int32) s0
theorem k_X12_staysAll (T : zT) (N : Nat) (s0 : zS) (a0 : Nat) : ∀ q, f_X12_staysAll T N s0 a0 = some q → T.1 a0 = 12 := by
  intro q h
  unfold f_X12_staysAll at h
  exact zz_guard h (fun h _ => h)
set_option maxHeartbeats 4000000 in
set_option maxRecDepth 100000 in
theorem c_X12_staysAll (l : Launch) (D : va_G) (cy : Nat → ClassId) (T : zT) (hT : zok T) (ad : Nat → Nat) (N : Nat) (s0 : zS) (sz : Nat) (a0 : Nat) : ∀ (σ0 : zS), f_X12_staysAll T N s0 a0 = some σ0 → Met l yX12_staysAll wsX12_staysAll ({ frames := 0, cells := 0, slots := 0, locals := 0 }) (va_Pc [.ref (ad a0)] (zPre D cy T ad s0 sz)) (va_Qv (fun σ2 : zS => σ2 = σ0) (zAt D cy T ad (zA T ad sz)) (zA T ad sz)) 0 0 (zA T ad sz) := by
  intro σ0 hq
  refine Met.ofW (cc := cX12_staysAll) (maxL := 2) (ret := none) (by decide) rfl ?_
  intro p e s m args below meth c s₁ B hml hv
  obtain ⟨hargs, hsz, hP, hK, hD0, hN⟩ := hv
  have hx := B.exec
  have hb := B.bytes
  have hr := B.returns
  have hts := atoms_spec (ws := wsX12_staysAll) B.pre
  have hown : s.vm.findClass RX12 = some m.cls := findClass_of_methodNamed B.named
  have hlocks := B.notSynchronized
  have S : CallFix p m c cX12_staysAll 2 s args wsX12_staysAll RX12 := ⟨hx, hb, hml, hown, hts⟩
  subst hsz
  have hB : zB D cy T ad (zA T ad s.heap.size) s.heap s0 s.heap [] s := zz_entry hP hK hD0 hN
  obtain ⟨ls, hent, hl⟩ := zz_ent m hargs (n := 2) (Nat.le_of_ble_eq_true rfl)
  rw [hent]
  have hl : lv_has ls 2 [(0, .ref (ad a0))] := hl
  have iwX12 : ∀ w ∈ u_ws RX12 TX12 24, w ∈ wsX12_staysAll := fun w h => wS (inWX12 w h)
  unfold f_X12_staysAll at hq
  refine zz_guard hq (fun hk0 hq => ?_)
  refine lv_iconst (v := 0) hx hb dX12_staysAll_0 (by decide) ?_
  refine lv_istore_n (lv' := [(1, .int (0 : Int32)), (0, .ref (ad a0))]) hx hb dX12_staysAll_1 rfl hl (by decide) rfl (fun ls hl => ?_)
  have L2 : ∀ (n : Nat) (x3 : Int32) (s4 : zS) (H : Heap) (locs : List Loc) (ls : Array Slot), zl2 (f_X12_staysAll_L2 T N a0) n x3 s4 = some σ0 → zB D cy T ad (zA T ad s.heap.size) s.heap s4 H locs s → lv_has ls 2 [(0, .ref (ad a0)), (1, .int x3)] → W p l e (headSpec wsX12_staysAll ({ frames := 0, cells := 0, slots := 0, locals := 0 } : Room)).room s m args below meth c H locs 0 0 (MQ below (va_Qv (fun σ2 : zS => σ2 = σ0) (zAt D cy T ad (zA T ad s.heap.size)) (zA T ad s.heap.size)) args s 0 0 (zA T ad s.heap.size)) (F0 m 2 ls []) := by
    intro n
    induction n with
    | zero => intro x3 s4 H locs ls hq; exact zz_none hq
    | succ n ih2 =>
      intro x3 s4 H locs ls hq hB hl
      rw [zl2] at hq
      generalize zl2 (f_X12_staysAll_L2 T N a0) n = k2 at ih2 hq
      unfold f_X12_staysAll_L2 at hq
      refine lv_iload_n hx hb dX12_staysAll_2 rfl (lv_at hl 1 rfl) ?_
      refine lv_bipush (v := 20) hx hb dX12_staysAll_3 (by decide) ?_
      refine zz_icmp_ge (tgt := 28) hx hb dX12_staysAll_5 (by decide) hq (fun hq => ?_) (fun hq => ?_)
      · exact zz_vret S hB hr hlocks dX12_staysAll_28 hq
      · refine lv_aload_n hx hb dX12_staysAll_8 rfl (lv_at hl 0 rfl) ?_
        refine zz_getR S hT hB (C := RX12) (ref := "DiagramDeskModel") (F := TX12) (N := 24) (index := 37) 12 12 iwX12 rfl (by decide) (by decide) rfl rfl (wS wd_728) (fun _ h9 => h9) dX12_staysAll_9 hq (fun a5 hq => ?_)
        refine lv_iload_n hx hb dX12_staysAll_12 rfl (lv_at hl 1 rfl) ?_
        refine lv_iconst (v := 0) hx hb dX12_staysAll_13 (by decide) ?_
        refine zz_ast S hT hB dX12_staysAll_14 hq (fun s6 H locs hq hB => ?_)
        refine lv_aload_n hx hb dX12_staysAll_15 rfl (lv_at hl 0 rfl) ?_
        refine zz_getR S hT hB (C := RX12) (ref := "DiagramDeskModel") (F := TX12) (N := 24) (index := 40) 12 13 iwX12 rfl (by decide) (by decide) rfl rfl (wS wd_729) (fun _ h9 => h9) dX12_staysAll_16 hq (fun a7 hq => ?_)
        refine lv_iload_n hx hb dX12_staysAll_19 rfl (lv_at hl 1 rfl) ?_
        refine lv_iconst (v := 0) hx hb dX12_staysAll_20 (by decide) ?_
        refine zz_ast S hT hB dX12_staysAll_21 hq (fun s8 H locs hq hB => ?_)
        refine zz_nmV hq (fun x9 ex9 hq => ?_)
        refine lv_iinc (v := x9) (lv' := [(1, .int x9), (0, .ref (ad a0))]) hx hb dX12_staysAll_22 hl (k := 1) rfl (by rw [ex9]; rfl) (by decide) rfl (fun ls hl => ?_)
        refine lv_goto (tgt := 2) hx hb dX12_staysAll_25 (by decide) ?_
        exact ih2 x9 s8 _ _ _ hq hB (lv_sub hl [1, 0] rfl)
  exact L2 N (0 : Int32) s0 _ _ _ hq hB (lv_sub hl [1, 0] rfl)
def f_X12_isInside_L4 (T : zT) (N : Nat) (a0 : Nat) (k4 : Int32 → Int32 → zS → Option (Int32 × zS)) (x3 : Int32) (x4 : Int32) (s5 : zS) : Option (Int32 × zS) :=
  if (20 : Int32) ≤ x4 then (
    rZ x3 s5)
  else (
    if x3 = 0 then (
      zn (x4 + (1 : Int32)) fun x6 =>
      k4 (0 : Int32) x6 s5)
    else (
      zb2 (f_X12_of T N s5 a0 x4 (0 : Int32)) fun x8 s7 =>
      if x8 = 0 then (
        zn (x4 + (1 : Int32)) fun x9 =>
        k4 (1 : Int32) x9 s7)
      else (
        zb2 (f_X12_begin T N s7 a0 x4 (0 : Int32)) fun x11 s10 =>
        (gR T s10 a0 12 12).bind fun a12 =>
        (aI T s10 a12 13 x4).bind fun x13 =>
        zb2 (f_X12_isPlace T N s10 (x11 + x13)) fun x15 s14 =>
        if x15 = 0 then (
          zn (x4 + (1 : Int32)) fun x16 =>
          k4 (0 : Int32) x16 s14)
        else (
          zb2 (f_X12_begin T N s14 a0 x4 (1 : Int32)) fun x18 s17 =>
          (gR T s17 a0 12 13).bind fun a19 =>
          (aI T s17 a19 13 x4).bind fun x20 =>
          zb2 (f_X12_isPlace T N s17 (x18 + x20)) fun x22 s21 =>
          if x22 = 0 then (
            zn (x4 + (1 : Int32)) fun x23 =>
            k4 (0 : Int32) x23 s21)
          else (
            zn (x4 + (1 : Int32)) fun x24 =>
            k4 (1 : Int32) x24 s21)))))
def f_X12_isInside (T : zT) (N : Nat) (s0 : zS) (a0 : Nat) : Option (Int32 × zS) :=
  zz1 (T.1 a0 = 12) <|
  zl3 (f_X12_isInside_L4 T N a0) N (1 : Int32) (0 : Int32) s0
theorem k_X12_isInside (T : zT) (N : Nat) (s0 : zS) (a0 : Nat) : ∀ q, f_X12_isInside T N s0 a0 = some q → T.1 a0 = 12 := by
  intro q h
  unfold f_X12_isInside at h
  exact zz_guard h (fun h _ => h)
set_option maxHeartbeats 4000000 in
set_option maxRecDepth 100000 in
theorem c_X12_isInside (l : Launch) (D : va_G) (cy : Nat → ClassId) (T : zT) (hT : zok T) (ad : Nat → Nat) (N : Nat) (s0 : zS) (sz : Nat) (a0 : Nat) : ∀ (r0 : Int32) (σ0 : zS), f_X12_isInside T N s0 a0 = some (r0, σ0) → Met l yX12_isInside wsX12_isInside ({ frames := 2, cells := 0, slots := 0, locals := 44 }) (va_Pc [.ref (ad a0)] (zPre D cy T ad s0 sz)) (va_Qi (fun (r2 : Int32) (σ2 : zS) => r2 = r0 ∧ σ2 = σ0) (zAt D cy T ad (zA T ad sz)) (zA T ad sz)) 0 0 (zA T ad sz) := by
  intro r0 σ0 hq
  refine Met.ofW (cc := cX12_isInside) (maxL := 3) (ret := (some .boolean)) (by decide) rfl ?_
  intro p e s m args below meth c s₁ B hml hv
  obtain ⟨hargs, hsz, hP, hK, hD0, hN⟩ := hv
  have hx := B.exec
  have hb := B.bytes
  have hr := B.returns
  have hts := atoms_spec (ws := wsX12_isInside) B.pre
  have hown : s.vm.findClass RX12 = some m.cls := findClass_of_methodNamed B.named
  have hlocks := B.notSynchronized
  have S : CallFix p m c cX12_isInside 3 s args wsX12_isInside RX12 := ⟨hx, hb, hml, hown, hts⟩
  subst hsz
  have hB : zB D cy T ad (zA T ad s.heap.size) s.heap s0 s.heap [] s := zz_entry hP hK hD0 hN
  obtain ⟨ls, hent, hl⟩ := zz_ent m hargs (n := 3) (Nat.le_of_ble_eq_true rfl)
  rw [hent]
  have hl : lv_has ls 3 [(0, .ref (ad a0))] := hl
  have iwX12 : ∀ w ∈ u_ws RX12 TX12 24, w ∈ wsX12_isInside := fun w h => wS (inWX12 w h)
  unfold f_X12_isInside at hq
  refine zz_guard hq (fun hk0 hq => ?_)
  refine lv_iconst (v := 1) hx hb dX12_isInside_0 (by decide) ?_
  refine lv_istore_n (lv' := [(1, .int (1 : Int32)), (0, .ref (ad a0))]) hx hb dX12_isInside_1 rfl hl (by decide) rfl (fun ls hl => ?_)
  refine lv_iconst (v := 0) hx hb dX12_isInside_2 (by decide) ?_
  refine lv_istore_n (lv' := [(2, .int (0 : Int32)), (1, .int (1 : Int32)), (0, .ref (ad a0))]) hx hb dX12_isInside_3 rfl hl (by decide) rfl (fun ls hl => ?_)
  have L4 : ∀ (n : Nat) (x3 : Int32) (x4 : Int32) (s5 : zS) (H : Heap) (locs : List Loc) (ls : Array Slot), zl3 (f_X12_isInside_L4 T N a0) n x3 x4 s5 = some (r0, σ0) → zB D cy T ad (zA T ad s.heap.size) s.heap s5 H locs s → lv_has ls 3 [(0, .ref (ad a0)), (1, .int x3), (2, .int x4)] → W p l e (headSpec wsX12_isInside ({ frames := 2, cells := 0, slots := 0, locals := 44 } : Room)).room s m args below meth c H locs 0 0 (MQ below (va_Qi (fun (r2 : Int32) (σ2 : zS) => r2 = r0 ∧ σ2 = σ0) (zAt D cy T ad (zA T ad s.heap.size)) (zA T ad s.heap.size)) args s 0 0 (zA T ad s.heap.size)) (F0 m 4 ls []) := by
    intro n
    induction n with
    | zero => intro x3 x4 s5 H locs ls hq; exact zz_none hq
    | succ n ih4 =>
      intro x3 x4 s5 H locs ls hq hB hl
      rw [zl3] at hq
      generalize zl3 (f_X12_isInside_L4 T N a0) n = k4 at ih4 hq
      unfold f_X12_isInside_L4 at hq
      refine lv_iload_n hx hb dX12_isInside_4 rfl (lv_at hl 2 rfl) ?_
      refine lv_bipush (v := 20) hx hb dX12_isInside_5 (by decide) ?_
      refine zz_icmp_ge (tgt := 73) hx hb dX12_isInside_7 (by decide) hq (fun hq => ?_) (fun hq => ?_)
      · refine lv_iload_n hx hb dX12_isInside_73 rfl (lv_at hl 1 rfl) ?_
        exact zz_zret S hB hr hlocks dX12_isInside_74 hq
      · refine lv_iload_n hx hb dX12_isInside_10 rfl (lv_at hl 1 rfl) ?_
        refine zz_if_eq (tgt := 65) hx hb dX12_isInside_11 (by decide) hq (fun hq => ?_) (fun hq => ?_)
        · refine lv_iconst (v := 0) hx hb dX12_isInside_65 (by decide) ?_
          refine lv_istore_n (lv' := [(1, .int (0 : Int32)), (0, .ref (ad a0)), (2, .int x4)]) hx hb dX12_isInside_66 rfl hl (by decide) rfl (fun ls hl => ?_)
          refine zz_nmV hq (fun x6 ex6 hq => ?_)
          refine lv_iinc (v := x6) (lv' := [(2, .int x6), (1, .int (0 : Int32)), (0, .ref (ad a0))]) hx hb dX12_isInside_67 hl (k := 2) rfl (by rw [ex6]; rfl) (by decide) rfl (fun ls hl => ?_)
          refine lv_goto (tgt := 4) hx hb dX12_isInside_70 (by decide) ?_
          exact ih4 (0 : Int32) x6 s5 _ _ _ hq hB (lv_sub hl [2, 1, 0] rfl)
        · refine lv_aload_n hx hb dX12_isInside_14 rfl (lv_at hl 0 rfl) ?_
          refine lv_iload_n hx hb dX12_isInside_15 rfl (lv_at hl 2 rfl) ?_
          refine lv_iconst (v := 0) hx hb dX12_isInside_16 (by decide) ?_
          refine zz_callVi S hT hB (As := [.int x4, .int (0 : Int32)]) (b := a0) (o := f_X12_of T N s5 a0 x4 (0 : Int32)) (c_X12_of l D cy T hT ad N s5 _ a0 x4 (0 : Int32)) (cwV 2 hts (gV wSub wd_574 wd_575 wd_576 wd_572 wd_577) rfl rfl rfl (by decide +kernel) ⟨Nat.le_of_ble_eq_true rfl, Nat.le_of_ble_eq_true rfl⟩) (F := TX12) (NF := 24) 12 rfl (by decide) (k_X12_of T N s5 a0 x4 (0 : Int32)) rfl hl.1 rfl (Nat.le_of_ble_eq_true rfl) dX12_isInside_17 hq (fun x8 s7 H locs hq hB => ?_)
          refine zz_if_eq (tgt := 61) hx hb dX12_isInside_20 (by decide) hq (fun hq => ?_) (fun hq => ?_)
          · refine lv_iconst (v := 1) hx hb dX12_isInside_61 (by decide) ?_
            refine lv_goto (tgt := 66) hx hb dX12_isInside_62 (by decide) ?_
            refine lv_istore_n (lv' := [(1, .int (1 : Int32)), (0, .ref (ad a0)), (2, .int x4)]) hx hb dX12_isInside_66 rfl hl (by decide) rfl (fun ls hl => ?_)
            refine zz_nmV hq (fun x9 ex9 hq => ?_)
            refine lv_iinc (v := x9) (lv' := [(2, .int x9), (1, .int (1 : Int32)), (0, .ref (ad a0))]) hx hb dX12_isInside_67 hl (k := 2) rfl (by rw [ex9]; rfl) (by decide) rfl (fun ls hl => ?_)
            refine lv_goto (tgt := 4) hx hb dX12_isInside_70 (by decide) ?_
            exact ih4 (1 : Int32) x9 s7 _ _ _ hq hB (lv_sub hl [2, 1, 0] rfl)
          · refine lv_aload_n hx hb dX12_isInside_23 rfl (lv_at hl 0 rfl) ?_
            refine lv_iload_n hx hb dX12_isInside_24 rfl (lv_at hl 2 rfl) ?_
            refine lv_iconst (v := 0) hx hb dX12_isInside_25 (by decide) ?_
            refine zz_callVi S hT hB (As := [.int x4, .int (0 : Int32)]) (b := a0) (o := f_X12_begin T N s7 a0 x4 (0 : Int32)) (c_X12_begin l D cy T hT ad N s7 _ a0 x4 (0 : Int32)) (cwV 2 hts (gV wSub wd_645 wd_646 wd_647 wd_572 wd_648) rfl rfl rfl (by decide +kernel) ⟨Nat.le_of_ble_eq_true rfl, Nat.le_of_ble_eq_true rfl⟩) (F := TX12) (NF := 24) 12 rfl (by decide) (k_X12_begin T N s7 a0 x4 (0 : Int32)) rfl hl.1 rfl (Nat.le_of_ble_eq_true rfl) dX12_isInside_26 hq (fun x11 s10 H locs hq hB => ?_)
            refine lv_aload_n hx hb dX12_isInside_29 rfl (lv_at hl 0 rfl) ?_
            refine zz_getR S hT hB (C := RX12) (ref := "DiagramDeskModel") (F := TX12) (N := 24) (index := 37) 12 12 iwX12 rfl (by decide) (by decide) rfl rfl (wS wd_728) (fun _ h9 => h9) dX12_isInside_30 hq (fun a12 hq => ?_)
            refine lv_iload_n hx hb dX12_isInside_33 rfl (lv_at hl 2 rfl) ?_
            refine zz_ald S hT hB dX12_isInside_34 hq (fun x13 hq => ?_)
            refine lv_iadd hx hb dX12_isInside_35 ?_
            refine zz_callSi S hT hB (As := [.int (x11 + x13)]) (o := f_X12_isPlace T N s10 (x11 + x13)) (c_X12_isPlace l D cy T hT ad N s10 _ (x11 + x13)) (va_cwS 1 hts (gS wSub wd_598 wd_599 wd_572 wd_600) rfl rfl rfl (by decide +kernel) ⟨Nat.le_of_ble_eq_true rfl, Nat.le_of_ble_eq_true rfl⟩) rfl hl.1 rfl (Nat.le_of_ble_eq_true rfl) dX12_isInside_36 hq (fun x15 s14 H locs hq hB => ?_)
            refine zz_if_eq (tgt := 65) hx hb dX12_isInside_39 (by decide) hq (fun hq => ?_) (fun hq => ?_)
            · refine lv_iconst (v := 0) hx hb dX12_isInside_65 (by decide) ?_
              refine lv_istore_n (lv' := [(1, .int (0 : Int32)), (0, .ref (ad a0)), (2, .int x4)]) hx hb dX12_isInside_66 rfl hl (by decide) rfl (fun ls hl => ?_)
              refine zz_nmV hq (fun x16 ex16 hq => ?_)
              refine lv_iinc (v := x16) (lv' := [(2, .int x16), (1, .int (0 : Int32)), (0, .ref (ad a0))]) hx hb dX12_isInside_67 hl (k := 2) rfl (by rw [ex16]; rfl) (by decide) rfl (fun ls hl => ?_)
              refine lv_goto (tgt := 4) hx hb dX12_isInside_70 (by decide) ?_
              exact ih4 (0 : Int32) x16 s14 _ _ _ hq hB (lv_sub hl [2, 1, 0] rfl)
            · refine lv_aload_n hx hb dX12_isInside_42 rfl (lv_at hl 0 rfl) ?_
              refine lv_iload_n hx hb dX12_isInside_43 rfl (lv_at hl 2 rfl) ?_
              refine lv_iconst (v := 1) hx hb dX12_isInside_44 (by decide) ?_
              refine zz_callVi S hT hB (As := [.int x4, .int (1 : Int32)]) (b := a0) (o := f_X12_begin T N s14 a0 x4 (1 : Int32)) (c_X12_begin l D cy T hT ad N s14 _ a0 x4 (1 : Int32)) (cwV 2 hts (gV wSub wd_645 wd_646 wd_647 wd_572 wd_648) rfl rfl rfl (by decide +kernel) ⟨Nat.le_of_ble_eq_true rfl, Nat.le_of_ble_eq_true rfl⟩) (F := TX12) (NF := 24) 12 rfl (by decide) (k_X12_begin T N s14 a0 x4 (1 : Int32)) rfl hl.1 rfl (Nat.le_of_ble_eq_true rfl) dX12_isInside_45 hq (fun x18 s17 H locs hq hB => ?_)
              refine lv_aload_n hx hb dX12_isInside_48 rfl (lv_at hl 0 rfl) ?_
              refine zz_getR S hT hB (C := RX12) (ref := "DiagramDeskModel") (F := TX12) (N := 24) (index := 40) 12 13 iwX12 rfl (by decide) (by decide) rfl rfl (wS wd_729) (fun _ h9 => h9) dX12_isInside_49 hq (fun a19 hq => ?_)
              refine lv_iload_n hx hb dX12_isInside_52 rfl (lv_at hl 2 rfl) ?_
              refine zz_ald S hT hB dX12_isInside_53 hq (fun x20 hq => ?_)
              refine lv_iadd hx hb dX12_isInside_54 ?_
              refine zz_callSi S hT hB (As := [.int (x18 + x20)]) (o := f_X12_isPlace T N s17 (x18 + x20)) (c_X12_isPlace l D cy T hT ad N s17 _ (x18 + x20)) (va_cwS 1 hts (gS wSub wd_598 wd_599 wd_572 wd_600) rfl rfl rfl (by decide +kernel) ⟨Nat.le_of_ble_eq_true rfl, Nat.le_of_ble_eq_true rfl⟩) rfl hl.1 rfl (Nat.le_of_ble_eq_true rfl) dX12_isInside_55 hq (fun x22 s21 H locs hq hB => ?_)
              refine zz_if_eq (tgt := 65) hx hb dX12_isInside_58 (by decide) hq (fun hq => ?_) (fun hq => ?_)
              · refine lv_iconst (v := 0) hx hb dX12_isInside_65 (by decide) ?_
                refine lv_istore_n (lv' := [(1, .int (0 : Int32)), (0, .ref (ad a0)), (2, .int x4)]) hx hb dX12_isInside_66 rfl hl (by decide) rfl (fun ls hl => ?_)
                refine zz_nmV hq (fun x23 ex23 hq => ?_)
                refine lv_iinc (v := x23) (lv' := [(2, .int x23), (1, .int (0 : Int32)), (0, .ref (ad a0))]) hx hb dX12_isInside_67 hl (k := 2) rfl (by rw [ex23]; rfl) (by decide) rfl (fun ls hl => ?_)
                refine lv_goto (tgt := 4) hx hb dX12_isInside_70 (by decide) ?_
                exact ih4 (0 : Int32) x23 s21 _ _ _ hq hB (lv_sub hl [2, 1, 0] rfl)
              · refine lv_iconst (v := 1) hx hb dX12_isInside_61 (by decide) ?_
                refine lv_goto (tgt := 66) hx hb dX12_isInside_62 (by decide) ?_
                refine lv_istore_n (lv' := [(1, .int (1 : Int32)), (0, .ref (ad a0)), (2, .int x4)]) hx hb dX12_isInside_66 rfl hl (by decide) rfl (fun ls hl => ?_)
                refine zz_nmV hq (fun x24 ex24 hq => ?_)
                refine lv_iinc (v := x24) (lv' := [(2, .int x24), (1, .int (1 : Int32)), (0, .ref (ad a0))]) hx hb dX12_isInside_67 hl (k := 2) rfl (by rw [ex24]; rfl) (by decide) rfl (fun ls hl => ?_)
                refine lv_goto (tgt := 4) hx hb dX12_isInside_70 (by decide) ?_
                exact ih4 (1 : Int32) x24 s21 _ _ _ hq hB (lv_sub hl [2, 1, 0] rfl)
  exact L4 N (1 : Int32) (0 : Int32) s0 _ _ _ hq hB (lv_sub hl [2, 1, 0] rfl)
def f_X12_movesAll_L2 (T : zT) (N : Nat) (a0 : Nat) (k2 : Int32 → zS → Option zS) (x3 : Int32) (s4 : zS) : Option zS :=
  if (20 : Int32) ≤ x3 then (
    some s4)
  else (
    (gR T s4 a0 12 0).bind fun a5 =>
    (aI T s4 a5 13 (((10 : Int32) + ((8 : Int32) * x3)) + (2 : Int32))).bind fun x6 =>
    (gR T s4 a0 12 12).bind fun a7 =>
    (aI T s4 a7 13 x3).bind fun x8 =>
    (sI T s4 a5 (((10 : Int32) + ((8 : Int32) * x3)) + (2 : Int32)) (x6 + x8)).bind fun s9 =>
    (gR T s9 a0 12 0).bind fun a10 =>
    (aI T s9 a10 13 (((10 : Int32) + ((8 : Int32) * x3)) + (3 : Int32))).bind fun x11 =>
    (gR T s9 a0 12 13).bind fun a12 =>
    (aI T s9 a12 13 x3).bind fun x13 =>
    (sI T s9 a10 (((10 : Int32) + ((8 : Int32) * x3)) + (3 : Int32)) (x11 + x13)).bind fun s14 =>
    zn (x3 + (1 : Int32)) fun x15 =>
    k2 x15 s14)
def f_X12_movesAll (T : zT) (N : Nat) (s0 : zS) (a0 : Nat) : Option zS :=
  zz1 (T.1 a0 = 12) <|
  zl2 (f_X12_movesAll_L2 T N a0) N (0 : Int32) s0
theorem k_X12_movesAll (T : zT) (N : Nat) (s0 : zS) (a0 : Nat) : ∀ q, f_X12_movesAll T N s0 a0 = some q → T.1 a0 = 12 := by
  intro q h
  unfold f_X12_movesAll at h
  exact zz_guard h (fun h _ => h)
set_option maxHeartbeats 4000000 in
set_option maxRecDepth 100000 in
theorem c_X12_movesAll (l : Launch) (D : va_G) (cy : Nat → ClassId) (T : zT) (hT : zok T) (ad : Nat → Nat) (N : Nat) (s0 : zS) (sz : Nat) (a0 : Nat) : ∀ (σ0 : zS), f_X12_movesAll T N s0 a0 = some σ0 → Met l yX12_movesAll wsX12_movesAll ({ frames := 0, cells := 0, slots := 0, locals := 0 }) (va_Pc [.ref (ad a0)] (zPre D cy T ad s0 sz)) (va_Qv (fun σ2 : zS => σ2 = σ0) (zAt D cy T ad (zA T ad sz)) (zA T ad sz)) 0 0 (zA T ad sz) := by
  intro σ0 hq
  refine Met.ofW (cc := cX12_movesAll) (maxL := 2) (ret := none) (by decide) rfl ?_
  intro p e s m args below meth c s₁ B hml hv
  obtain ⟨hargs, hsz, hP, hK, hD0, hN⟩ := hv
  have hx := B.exec
  have hb := B.bytes
  have hr := B.returns
  have hts := atoms_spec (ws := wsX12_movesAll) B.pre
  have hown : s.vm.findClass RX12 = some m.cls := findClass_of_methodNamed B.named
  have hlocks := B.notSynchronized
  have S : CallFix p m c cX12_movesAll 2 s args wsX12_movesAll RX12 := ⟨hx, hb, hml, hown, hts⟩
  subst hsz
  have hB : zB D cy T ad (zA T ad s.heap.size) s.heap s0 s.heap [] s := zz_entry hP hK hD0 hN
  obtain ⟨ls, hent, hl⟩ := zz_ent m hargs (n := 2) (Nat.le_of_ble_eq_true rfl)
  rw [hent]
  have hl : lv_has ls 2 [(0, .ref (ad a0))] := hl
  have iwX12 : ∀ w ∈ u_ws RX12 TX12 24, w ∈ wsX12_movesAll := fun w h => wS (inWX12 w h)
  unfold f_X12_movesAll at hq
  refine zz_guard hq (fun hk0 hq => ?_)
  refine lv_iconst (v := 0) hx hb dX12_movesAll_0 (by decide) ?_
  refine lv_istore_n (lv' := [(1, .int (0 : Int32)), (0, .ref (ad a0))]) hx hb dX12_movesAll_1 rfl hl (by decide) rfl (fun ls hl => ?_)
  have L2 : ∀ (n : Nat) (x3 : Int32) (s4 : zS) (H : Heap) (locs : List Loc) (ls : Array Slot), zl2 (f_X12_movesAll_L2 T N a0) n x3 s4 = some σ0 → zB D cy T ad (zA T ad s.heap.size) s.heap s4 H locs s → lv_has ls 2 [(0, .ref (ad a0)), (1, .int x3)] → W p l e (headSpec wsX12_movesAll ({ frames := 0, cells := 0, slots := 0, locals := 0 } : Room)).room s m args below meth c H locs 0 0 (MQ below (va_Qv (fun σ2 : zS => σ2 = σ0) (zAt D cy T ad (zA T ad s.heap.size)) (zA T ad s.heap.size)) args s 0 0 (zA T ad s.heap.size)) (F0 m 2 ls []) := by
    intro n
    induction n with
    | zero => intro x3 s4 H locs ls hq; exact zz_none hq
    | succ n ih2 =>
      intro x3 s4 H locs ls hq hB hl
      rw [zl2] at hq
      generalize zl2 (f_X12_movesAll_L2 T N a0) n = k2 at ih2 hq
      unfold f_X12_movesAll_L2 at hq
      refine lv_iload_n hx hb dX12_movesAll_2 rfl (lv_at hl 1 rfl) ?_
      refine lv_bipush (v := 20) hx hb dX12_movesAll_3 (by decide) ?_
      refine zz_icmp_ge (tgt := 60) hx hb dX12_movesAll_5 (by decide) hq (fun hq => ?_) (fun hq => ?_)
      · exact zz_vret S hB hr hlocks dX12_movesAll_60 hq
      · refine lv_aload_n hx hb dX12_movesAll_8 rfl (lv_at hl 0 rfl) ?_
        refine zz_getR S hT hB (C := RX12) (ref := "DiagramDeskModel") (F := TX12) (N := 24) (index := 7) 12 0 iwX12 rfl (by decide) (by decide) rfl rfl (wS wd_569) (fun _ h9 => h9) dX12_movesAll_9 hq (fun a5 hq => ?_)
        refine lv_bipush (v := 10) hx hb dX12_movesAll_12 (by decide) ?_
        refine lv_bipush (v := 8) hx hb dX12_movesAll_14 (by decide) ?_
        refine lv_iload_n hx hb dX12_movesAll_16 rfl (lv_at hl 1 rfl) ?_
        refine lv_imul hx hb dX12_movesAll_17 ?_
        refine lv_iadd hx hb dX12_movesAll_18 ?_
        refine lv_iconst (v := 2) hx hb dX12_movesAll_19 (by decide) ?_
        refine lv_iadd hx hb dX12_movesAll_20 ?_
        refine lv_dup2_11 hx hb dX12_movesAll_21 rfl rfl ?_
        refine zz_ald S hT hB dX12_movesAll_22 hq (fun x6 hq => ?_)
        refine lv_aload_n hx hb dX12_movesAll_23 rfl (lv_at hl 0 rfl) ?_
        refine zz_getR S hT hB (C := RX12) (ref := "DiagramDeskModel") (F := TX12) (N := 24) (index := 37) 12 12 iwX12 rfl (by decide) (by decide) rfl rfl (wS wd_728) (fun _ h9 => h9) dX12_movesAll_24 hq (fun a7 hq => ?_)
        refine lv_iload_n hx hb dX12_movesAll_27 rfl (lv_at hl 1 rfl) ?_
        refine zz_ald S hT hB dX12_movesAll_28 hq (fun x8 hq => ?_)
        refine lv_iadd hx hb dX12_movesAll_29 ?_
        refine zz_ast S hT hB dX12_movesAll_30 hq (fun s9 H locs hq hB => ?_)
        refine lv_aload_n hx hb dX12_movesAll_31 rfl (lv_at hl 0 rfl) ?_
        refine zz_getR S hT hB (C := RX12) (ref := "DiagramDeskModel") (F := TX12) (N := 24) (index := 7) 12 0 iwX12 rfl (by decide) (by decide) rfl rfl (wS wd_569) (fun _ h9 => h9) dX12_movesAll_32 hq (fun a10 hq => ?_)
        refine lv_bipush (v := 10) hx hb dX12_movesAll_35 (by decide) ?_
        refine lv_bipush (v := 8) hx hb dX12_movesAll_37 (by decide) ?_
        refine lv_iload_n hx hb dX12_movesAll_39 rfl (lv_at hl 1 rfl) ?_
        refine lv_imul hx hb dX12_movesAll_40 ?_
        refine lv_iadd hx hb dX12_movesAll_41 ?_
        refine lv_iconst (v := 3) hx hb dX12_movesAll_42 (by decide) ?_
        refine lv_iadd hx hb dX12_movesAll_43 ?_
        refine lv_dup2_11 hx hb dX12_movesAll_44 rfl rfl ?_
        refine zz_ald S hT hB dX12_movesAll_45 hq (fun x11 hq => ?_)
        refine lv_aload_n hx hb dX12_movesAll_46 rfl (lv_at hl 0 rfl) ?_
        refine zz_getR S hT hB (C := RX12) (ref := "DiagramDeskModel") (F := TX12) (N := 24) (index := 40) 12 13 iwX12 rfl (by decide) (by decide) rfl rfl (wS wd_729) (fun _ h9 => h9) dX12_movesAll_47 hq (fun a12 hq => ?_)
        refine lv_iload_n hx hb dX12_movesAll_50 rfl (lv_at hl 1 rfl) ?_
        refine zz_ald S hT hB dX12_movesAll_51 hq (fun x13 hq => ?_)
        refine lv_iadd hx hb dX12_movesAll_52 ?_
        refine zz_ast S hT hB dX12_movesAll_53 hq (fun s14 H locs hq hB => ?_)
        refine zz_nmV hq (fun x15 ex15 hq => ?_)
        refine lv_iinc (v := x15) (lv' := [(1, .int x15), (0, .ref (ad a0))]) hx hb dX12_movesAll_54 hl (k := 1) rfl (by rw [ex15]; rfl) (by decide) rfl (fun ls hl => ?_)
        refine lv_goto (tgt := 2) hx hb dX12_movesAll_57 (by decide) ?_
        exact ih2 x15 s14 _ _ _ hq hB (lv_sub hl [1, 0] rfl)
  exact L2 N (0 : Int32) s0 _ _ _ hq hB (lv_sub hl [1, 0] rfl)
def f_X12_isStep (T : zT) (N : Nat) (s0 : zS) (x0 : Int32) : Option (Int32 × zS) :=
  zb2 (f_X12_in T N s0 x0 (-20000 : Int32) (20000 : Int32)) fun x4 s3 =>
  rZ x4 s3
set_option maxHeartbeats 4000000 in
set_option maxRecDepth 100000 in
theorem c_X12_isStep (l : Launch) (D : va_G) (cy : Nat → ClassId) (T : zT) (hT : zok T) (ad : Nat → Nat) (N : Nat) (s0 : zS) (sz : Nat) (x0 : Int32) : ∀ (r0 : Int32) (σ0 : zS), f_X12_isStep T N s0 x0 = some (r0, σ0) → Met l yX12_isStep wsX12_isStep ({ frames := 1, cells := 0, slots := 0, locals := 22 }) (va_Pc [.int x0] (zPre D cy T ad s0 sz)) (va_Qi (fun (r2 : Int32) (σ2 : zS) => r2 = r0 ∧ σ2 = σ0) (zAt D cy T ad (zA T ad sz)) (zA T ad sz)) 0 0 (zA T ad sz) := by
  intro r0 σ0 hq
  refine Met.ofW (cc := cX12_isStep) (maxL := 1) (ret := (some .boolean)) (by decide) rfl ?_
  intro p e s m args below meth c s₁ B hml hv
  obtain ⟨hargs, hsz, hP, hK, hD0, hN⟩ := hv
  have hx := B.exec
  have hb := B.bytes
  have hr := B.returns
  have hts := atoms_spec (ws := wsX12_isStep) B.pre
  have hown : s.vm.findClass RX12 = some m.cls := findClass_of_methodNamed B.named
  have hlocks := B.notSynchronized
  have S : CallFix p m c cX12_isStep 1 s args wsX12_isStep RX12 := ⟨hx, hb, hml, hown, hts⟩
  subst hsz
  have hB : zB D cy T ad (zA T ad s.heap.size) s.heap s0 s.heap [] s := zz_entry hP hK hD0 hN
  obtain ⟨ls, hent, hl⟩ := zz_ent m hargs (n := 1) (Nat.le_of_ble_eq_true rfl)
  rw [hent]
  have hl : lv_has ls 1 [(0, .int x0)] := hl
  unfold f_X12_isStep at hq
  refine lv_iload_n hx hb dX12_isStep_0 rfl (lv_at hl 0 rfl) ?_
  refine lv_sipush (v := -20000) hx hb dX12_isStep_1 (by decide) ?_
  refine lv_sipush (v := 20000) hx hb dX12_isStep_4 (by decide) ?_
  refine zz_callSi S hT hB (As := [.int x0, .int (-20000 : Int32), .int (20000 : Int32)]) (o := f_X12_in T N s0 x0 (-20000 : Int32) (20000 : Int32)) (c_X12_in l D cy T hT ad N s0 _ x0 (-20000 : Int32) (20000 : Int32)) (va_cwS 3 hts (gS wSub wd_570 wd_571 wd_572 wd_573) rfl rfl rfl (by decide +kernel) ⟨Nat.le_of_ble_eq_true rfl, Nat.le_of_ble_eq_true rfl⟩) rfl hl.1 rfl (Nat.le_of_ble_eq_true rfl) dX12_isStep_7 hq (fun x4 s3 H locs hq hB => ?_)
  exact zz_zret S hB hr hlocks dX12_isStep_10 hq
def f_X12_lays_J26 (T : zT) (N : Nat) (a0 : Nat) (x2 : Int32) (x5 : Int32) (k2 : Int32 → zS → Option zS) (a7 : Nat) (s8 : zS) (x10 : Int32) : Option zS :=
  (sI T s8 a7 x5 x10).bind fun s11 =>
  (gR T s11 a0 12 13).bind fun a12 =>
  zb2 (f_X12_isSelected T N s11 a0 x5) fun x14 s13 =>
  if x14 = 0 then (
    (sI T s13 a12 x5 (0 : Int32)).bind fun s15 =>
    zn (x5 + (1 : Int32)) fun x16 =>
    k2 x16 s15)
  else (
    (sI T s13 a12 x5 x2).bind fun s17 =>
    zn (x5 + (1 : Int32)) fun x18 =>
    k2 x18 s17)
def f_X12_lays_L2 (T : zT) (N : Nat) (a0 : Nat) (x1 : Int32) (x2 : Int32) (k2 : Int32 → zS → Option zS) (x5 : Int32) (s6 : zS) : Option zS :=
  if (20 : Int32) ≤ x5 then (
    some s6)
  else (
    (gR T s6 a0 12 12).bind fun a7 =>
    zb2 (f_X12_isSelected T N s6 a0 x5) fun x9 s8 =>
    if x9 = 0 then (
      f_X12_lays_J26 T N a0 x2 x5 k2 a7 s8 (0 : Int32))
    else (
      f_X12_lays_J26 T N a0 x2 x5 k2 a7 s8 x1))
def f_X12_lays (T : zT) (N : Nat) (s0 : zS) (a0 : Nat) (x1 : Int32) (x2 : Int32) : Option zS :=
  zz1 (T.1 a0 = 12) <|
  zl2 (f_X12_lays_L2 T N a0 x1 x2) N (0 : Int32) s0
theorem k_X12_lays (T : zT) (N : Nat) (s0 : zS) (a0 : Nat) (x1 : Int32) (x2 : Int32) : ∀ q, f_X12_lays T N s0 a0 x1 x2 = some q → T.1 a0 = 12 := by
  intro q h
  unfold f_X12_lays at h
  exact zz_guard h (fun h _ => h)
set_option maxHeartbeats 4000000 in
set_option maxRecDepth 100000 in
theorem c_X12_lays (l : Launch) (D : va_G) (cy : Nat → ClassId) (T : zT) (hT : zok T) (ad : Nat → Nat) (N : Nat) (s0 : zS) (sz : Nat) (a0 : Nat) (x1 : Int32) (x2 : Int32) : ∀ (σ0 : zS), f_X12_lays T N s0 a0 x1 x2 = some σ0 → Met l yX12_lays wsX12_lays ({ frames := 2, cells := 0, slots := 0, locals := 43 }) (va_Pc [.ref (ad a0), .int x1, .int x2] (zPre D cy T ad s0 sz)) (va_Qv (fun σ2 : zS => σ2 = σ0) (zAt D cy T ad (zA T ad sz)) (zA T ad sz)) 0 0 (zA T ad sz) := by
  intro σ0 hq
  refine Met.ofW (cc := cX12_lays) (maxL := 4) (ret := none) (by decide) rfl ?_
  intro p e s m args below meth c s₁ B hml hv
  obtain ⟨hargs, hsz, hP, hK, hD0, hN⟩ := hv
  have hx := B.exec
  have hb := B.bytes
  have hr := B.returns
  have hts := atoms_spec (ws := wsX12_lays) B.pre
  have hown : s.vm.findClass RX12 = some m.cls := findClass_of_methodNamed B.named
  have hlocks := B.notSynchronized
  have S : CallFix p m c cX12_lays 4 s args wsX12_lays RX12 := ⟨hx, hb, hml, hown, hts⟩
  subst hsz
  have hB : zB D cy T ad (zA T ad s.heap.size) s.heap s0 s.heap [] s := zz_entry hP hK hD0 hN
  obtain ⟨ls, hent, hl⟩ := zz_ent m hargs (n := 4) (Nat.le_of_ble_eq_true rfl)
  rw [hent]
  have hl : lv_has ls 4 [(0, .ref (ad a0)), (1, .int x1), (2, .int x2)] := hl
  have iwX12 : ∀ w ∈ u_ws RX12 TX12 24, w ∈ wsX12_lays := fun w h => wS (inWX12 w h)
  unfold f_X12_lays at hq
  refine zz_guard hq (fun hk0 hq => ?_)
  refine lv_iconst (v := 0) hx hb dX12_lays_0 (by decide) ?_
  refine lv_istore_n (lv' := [(3, .int (0 : Int32)), (0, .ref (ad a0)), (1, .int x1), (2, .int x2)]) hx hb dX12_lays_1 rfl hl (by decide) rfl (fun ls hl => ?_)
  have L2 : ∀ (n : Nat) (x5 : Int32) (s6 : zS) (H : Heap) (locs : List Loc) (ls : Array Slot), zl2 (f_X12_lays_L2 T N a0 x1 x2) n x5 s6 = some σ0 → zB D cy T ad (zA T ad s.heap.size) s.heap s6 H locs s → lv_has ls 4 [(0, .ref (ad a0)), (1, .int x1), (2, .int x2), (3, .int x5)] → W p l e (headSpec wsX12_lays ({ frames := 2, cells := 0, slots := 0, locals := 43 } : Room)).room s m args below meth c H locs 0 0 (MQ below (va_Qv (fun σ2 : zS => σ2 = σ0) (zAt D cy T ad (zA T ad s.heap.size)) (zA T ad s.heap.size)) args s 0 0 (zA T ad s.heap.size)) (F0 m 2 ls []) := by
    intro n
    induction n with
    | zero => intro x5 s6 H locs ls hq; exact zz_none hq
    | succ n ih2 =>
      intro x5 s6 H locs ls hq hB hl
      rw [zl2] at hq
      generalize zl2 (f_X12_lays_L2 T N a0 x1 x2) n = k2 at ih2 hq
      unfold f_X12_lays_L2 at hq
      refine lv_iload_n hx hb dX12_lays_2 rfl (lv_at hl 3 rfl) ?_
      refine lv_bipush (v := 20) hx hb dX12_lays_3 (by decide) ?_
      refine zz_icmp_ge (tgt := 52) hx hb dX12_lays_5 (by decide) hq (fun hq => ?_) (fun hq => ?_)
      · exact zz_vret S hB hr hlocks dX12_lays_52 hq
      · refine lv_aload_n hx hb dX12_lays_8 rfl (lv_at hl 0 rfl) ?_
        refine zz_getR S hT hB (C := RX12) (ref := "DiagramDeskModel") (F := TX12) (N := 24) (index := 37) 12 12 iwX12 rfl (by decide) (by decide) rfl rfl (wS wd_728) (fun _ h9 => h9) dX12_lays_9 hq (fun a7 hq => ?_)
        refine lv_iload_n hx hb dX12_lays_12 rfl (lv_at hl 3 rfl) ?_
        refine lv_aload_n hx hb dX12_lays_13 rfl (lv_at hl 0 rfl) ?_
        refine lv_iload_n hx hb dX12_lays_14 rfl (lv_at hl 3 rfl) ?_
        refine zz_callVi S hT hB (As := [.int x5]) (b := a0) (o := f_X12_isSelected T N s6 a0 x5) (c_X12_isSelected l D cy T hT ad N s6 _ a0 x5) (cwV 1 hts (gV wSub wd_697 wd_698 wd_699 wd_572 wd_700) rfl rfl rfl (by decide +kernel) ⟨Nat.le_of_ble_eq_true rfl, Nat.le_of_ble_eq_true rfl⟩) (F := TX12) (NF := 24) 12 rfl (by decide) (k_X12_isSelected T N s6 a0 x5) rfl hl.1 rfl (Nat.le_of_ble_eq_true rfl) dX12_lays_15 hq (fun x9 s8 H locs hq hB => ?_)
        have J26 : ∀ (x10 : Int32) (H : Heap) (locs : List Loc) (ls : Array Slot), f_X12_lays_J26 T N a0 x2 x5 k2 a7 s8 x10 = some σ0 → zB D cy T ad (zA T ad s.heap.size) s.heap s8 H locs s → lv_has ls 4 [(0, .ref (ad a0)), (1, .int x1), (2, .int x2), (3, .int x5)] → W p l e (headSpec wsX12_lays ({ frames := 2, cells := 0, slots := 0, locals := 43 } : Room)).room s m args below meth c H locs 0 0 (MQ below (va_Qv (fun σ2 : zS => σ2 = σ0) (zAt D cy T ad (zA T ad s.heap.size)) (zA T ad s.heap.size)) args s 0 0 (zA T ad s.heap.size)) (F0 m 26 ls [.int x10, .int x5, .ref (ad a7)]) := by
          intro x10 H locs ls hq hB hl
          unfold f_X12_lays_J26 at hq
          refine zz_ast S hT hB dX12_lays_26 hq (fun s11 H locs hq hB => ?_)
          refine lv_aload_n hx hb dX12_lays_27 rfl (lv_at hl 0 rfl) ?_
          refine zz_getR S hT hB (C := RX12) (ref := "DiagramDeskModel") (F := TX12) (N := 24) (index := 40) 12 13 iwX12 rfl (by decide) (by decide) rfl rfl (wS wd_729) (fun _ h9 => h9) dX12_lays_28 hq (fun a12 hq => ?_)
          refine lv_iload_n hx hb dX12_lays_31 rfl (lv_at hl 3 rfl) ?_
          refine lv_aload_n hx hb dX12_lays_32 rfl (lv_at hl 0 rfl) ?_
          refine lv_iload_n hx hb dX12_lays_33 rfl (lv_at hl 3 rfl) ?_
          refine zz_callVi S hT hB (As := [.int x5]) (b := a0) (o := f_X12_isSelected T N s11 a0 x5) (c_X12_isSelected l D cy T hT ad N s11 _ a0 x5) (cwV 1 hts (gV wSub wd_697 wd_698 wd_699 wd_572 wd_700) rfl rfl rfl (by decide +kernel) ⟨Nat.le_of_ble_eq_true rfl, Nat.le_of_ble_eq_true rfl⟩) (F := TX12) (NF := 24) 12 rfl (by decide) (k_X12_isSelected T N s11 a0 x5) rfl hl.1 rfl (Nat.le_of_ble_eq_true rfl) dX12_lays_34 hq (fun x14 s13 H locs hq hB => ?_)
          refine zz_if_eq (tgt := 44) hx hb dX12_lays_37 (by decide) hq (fun hq => ?_) (fun hq => ?_)
          · refine lv_iconst (v := 0) hx hb dX12_lays_44 (by decide) ?_
            refine zz_ast S hT hB dX12_lays_45 hq (fun s15 H locs hq hB => ?_)
            refine zz_nmV hq (fun x16 ex16 hq => ?_)
            refine lv_iinc (v := x16) (lv' := [(3, .int x16), (0, .ref (ad a0)), (1, .int x1), (2, .int x2)]) hx hb dX12_lays_46 hl (k := 3) rfl (by rw [ex16]; rfl) (by decide) rfl (fun ls hl => ?_)
            refine lv_goto (tgt := 2) hx hb dX12_lays_49 (by decide) ?_
            exact ih2 x16 s15 _ _ _ hq hB (lv_sub hl [1, 2, 3, 0] rfl)
          · refine lv_iload_n hx hb dX12_lays_40 rfl (lv_at hl 2 rfl) ?_
            refine lv_goto (tgt := 45) hx hb dX12_lays_41 (by decide) ?_
            refine zz_ast S hT hB dX12_lays_45 hq (fun s17 H locs hq hB => ?_)
            refine zz_nmV hq (fun x18 ex18 hq => ?_)
            refine lv_iinc (v := x18) (lv' := [(3, .int x18), (0, .ref (ad a0)), (1, .int x1), (2, .int x2)]) hx hb dX12_lays_46 hl (k := 3) rfl (by rw [ex18]; rfl) (by decide) rfl (fun ls hl => ?_)
            refine lv_goto (tgt := 2) hx hb dX12_lays_49 (by decide) ?_
            exact ih2 x18 s17 _ _ _ hq hB (lv_sub hl [1, 2, 3, 0] rfl)
        refine zz_if_eq (tgt := 25) hx hb dX12_lays_18 (by decide) hq (fun hq => ?_) (fun hq => ?_)
        · refine lv_iconst (v := 0) hx hb dX12_lays_25 (by decide) ?_
          exact J26 (0 : Int32) _ _ _ hq hB (lv_sub hl [0, 1, 2, 3] rfl)
        · refine lv_iload_n hx hb dX12_lays_21 rfl (lv_at hl 1 rfl) ?_
          refine lv_goto (tgt := 26) hx hb dX12_lays_22 (by decide) ?_
          exact J26 x1 _ _ _ hq hB (lv_sub hl [0, 1, 2, 3] rfl)
  exact L2 N (0 : Int32) s0 _ _ _ hq hB (lv_sub hl [1, 2, 3, 0] rfl)
def f_X12_move_L55 (T : zT) (N : Nat) (a0 : Nat) (k55 : Int32 → Int32 → zS → Option (Int32 × zS)) (x16 : Int32) (x17 : Int32) (s18 : zS) : Option (Int32 × zS) :=
  (gR T s18 a0 12 0).bind fun a19 =>
  (aI T s18 a19 13 (2 : Int32)).bind fun x20 =>
  if x20 ≤ x17 then (
    some (x16, s18))
  else (
    (gR T s18 a0 12 0).bind fun a21 =>
    (aI T s18 a21 13 ((190 : Int32) + ((5 : Int32) * x17))).bind fun x22 =>
    zb2 (f_X12_isSelected T N s18 a0 x22) fun x24 s23 =>
    (gR T s23 a0 12 0).bind fun a25 =>
    (aI T s23 a25 13 (((190 : Int32) + ((5 : Int32) * x17)) + (2 : Int32))).bind fun x26 =>
    zb2 (f_X12_isSelected T N s23 a0 x26) fun x28 s27 =>
    if x24 = x28 then (
      zn (x16 + (0 : Int32)) fun x29 =>
      zn (x17 + (1 : Int32)) fun x30 =>
      k55 x29 x30 s27)
    else (
      zn (x16 + (1 : Int32)) fun x31 =>
      zn (x17 + (1 : Int32)) fun x32 =>
      k55 x31 x32 s27))
def f_X12_move (T : zT) (N : Nat) (s0 : zS) (a0 : Nat) (x1 : Int32) (x2 : Int32) : Option (Int32 × zS) :=
  zz1 (T.1 a0 = 12) <|
  zb2 (f_X12_isStep T N s0 x1) fun x6 s5 =>
  if x6 = 0 then (
    some ((-1 : Int32), s5))
  else (
    zb2 (f_X12_isStep T N s5 x2) fun x8 s7 =>
    if ¬ x8 = 0 then (
      zb2 (f_X12_chosen T N s7 a0) fun x10 s9 =>
      if ¬ x10 = 0 then (
        (f_X12_lays T N s9 a0 x1 x2).bind fun s11 =>
        zb2 (f_X12_isInside T N s11 a0) fun x13 s12 =>
        if ¬ x13 = 0 then (
          (f_X12_act T N s12 a0).bind fun s14 =>
          (f_X12_movesAll T N s14 a0).bind fun s15 =>
          zl3 (f_X12_move_L55 T N a0) N (0 : Int32) (0 : Int32) s15)
        else (
          some ((-4 : Int32), s12)))
      else (
        some ((-2 : Int32), s9)))
    else (
      some ((-1 : Int32), s7)))
theorem k_X12_move (T : zT) (N : Nat) (s0 : zS) (a0 : Nat) (x1 : Int32) (x2 : Int32) : ∀ q, f_X12_move T N s0 a0 x1 x2 = some q → T.1 a0 = 12 := by
  intro q h
  unfold f_X12_move at h
  exact zz_guard h (fun h _ => h)
set_option maxHeartbeats 4000000 in
set_option maxRecDepth 100000 in
theorem c_X12_move (l : Launch) (D : va_G) (cy : Nat → ClassId) (T : zT) (hT : zok T) (ad : Nat → Nat) (N : Nat) (s0 : zS) (sz : Nat) (a0 : Nat) (x1 : Int32) (x2 : Int32) : ∀ (r0 : Int32) (σ0 : zS), f_X12_move T N s0 a0 x1 x2 = some (r0, σ0) → Met l yX12_move wsX12_move ({ frames := 3, cells := 0, slots := 0, locals := 66 }) (va_Pc [.ref (ad a0), .int x1, .int x2] (zPre D cy T ad s0 sz)) (va_Qi (fun (r2 : Int32) (σ2 : zS) => r2 = r0 ∧ σ2 = σ0) (zAt D cy T ad (zA T ad sz)) (zA T ad sz)) 0 0 (zA T ad sz) := by
  intro r0 σ0 hq
  refine Met.ofW (cc := cX12_move) (maxL := 5) (ret := (some .int)) (by decide) rfl ?_
  intro p e s m args below meth c s₁ B hml hv
  obtain ⟨hargs, hsz, hP, hK, hD0, hN⟩ := hv
  have hx := B.exec
  have hb := B.bytes
  have hr := B.returns
  have hts := atoms_spec (ws := wsX12_move) B.pre
  have hown : s.vm.findClass RX12 = some m.cls := findClass_of_methodNamed B.named
  have hlocks := B.notSynchronized
  have S : CallFix p m c cX12_move 5 s args wsX12_move RX12 := ⟨hx, hb, hml, hown, hts⟩
  subst hsz
  have hB : zB D cy T ad (zA T ad s.heap.size) s.heap s0 s.heap [] s := zz_entry hP hK hD0 hN
  obtain ⟨ls, hent, hl⟩ := zz_ent m hargs (n := 5) (Nat.le_of_ble_eq_true rfl)
  rw [hent]
  have hl : lv_has ls 5 [(0, .ref (ad a0)), (1, .int x1), (2, .int x2)] := hl
  have iwX12 : ∀ w ∈ u_ws RX12 TX12 24, w ∈ wsX12_move := fun w h => wS (inWX12 w h)
  unfold f_X12_move at hq
  refine zz_guard hq (fun hk0 hq => ?_)
  refine lv_iload_n hx hb dX12_move_0 rfl (lv_at hl 1 rfl) ?_
  refine zz_callSi S hT hB (As := [.int x1]) (o := f_X12_isStep T N s0 x1) (c_X12_isStep l D cy T hT ad N s0 _ x1) (va_cwS 1 hts (gS wSub wd_730 wd_731 wd_572 wd_732) rfl rfl rfl (by decide +kernel) ⟨Nat.le_of_ble_eq_true rfl, Nat.le_of_ble_eq_true rfl⟩) rfl hl.1 rfl (Nat.le_of_ble_eq_true rfl) dX12_move_1 hq (fun x6 s5 H locs hq hB => ?_)
  refine zz_if_eq (tgt := 14) hx hb dX12_move_4 (by decide) hq (fun hq => ?_) (fun hq => ?_)
  · refine lv_iconst (v := -1) hx hb dX12_move_14 (by decide) ?_
    exact zz_iret S hB hr hlocks dX12_move_15 hq
  · refine lv_iload_n hx hb dX12_move_7 rfl (lv_at hl 2 rfl) ?_
    refine zz_callSi S hT hB (As := [.int x2]) (o := f_X12_isStep T N s5 x2) (c_X12_isStep l D cy T hT ad N s5 _ x2) (va_cwS 1 hts (gS wSub wd_730 wd_731 wd_572 wd_732) rfl rfl rfl (by decide +kernel) ⟨Nat.le_of_ble_eq_true rfl, Nat.le_of_ble_eq_true rfl⟩) rfl hl.1 rfl (Nat.le_of_ble_eq_true rfl) dX12_move_8 hq (fun x8 s7 H locs hq hB => ?_)
    refine zz_if_ne (tgt := 16) hx hb dX12_move_11 (by decide) hq (fun hq => ?_) (fun hq => ?_)
    · refine lv_aload_n hx hb dX12_move_16 rfl (lv_at hl 0 rfl) ?_
      refine zz_callVi S hT hB (As := []) (b := a0) (o := f_X12_chosen T N s7 a0) (c_X12_chosen l D cy T hT ad N s7 _ a0) (cwV 0 hts (gV wSub wd_701 wd_702 wd_703 wd_572 wd_704) rfl rfl rfl (by decide +kernel) ⟨Nat.le_of_ble_eq_true rfl, Nat.le_of_ble_eq_true rfl⟩) (F := TX12) (NF := 24) 12 rfl (by decide) (k_X12_chosen T N s7 a0) rfl hl.1 rfl (Nat.le_of_ble_eq_true rfl) dX12_move_17 hq (fun x10 s9 H locs hq hB => ?_)
      refine zz_if_ne (tgt := 26) hx hb dX12_move_20 (by decide) hq (fun hq => ?_) (fun hq => ?_)
      · refine lv_aload_n hx hb dX12_move_26 rfl (lv_at hl 0 rfl) ?_
        refine lv_iload_n hx hb dX12_move_27 rfl (lv_at hl 1 rfl) ?_
        refine lv_iload_n hx hb dX12_move_28 rfl (lv_at hl 2 rfl) ?_
        refine zz_callVv S hT hB (As := [.int x1, .int x2]) (b := a0) (o := f_X12_lays T N s9 a0 x1 x2) (c_X12_lays l D cy T hT ad N s9 _ a0 x1 x2) (cwV 2 hts (gV wSub wd_733 wd_734 wd_735 wd_572 wd_736) rfl rfl rfl (by decide +kernel) ⟨Nat.le_of_ble_eq_true rfl, Nat.le_of_ble_eq_true rfl⟩) (F := TX12) (NF := 24) 12 rfl (by decide) (k_X12_lays T N s9 a0 x1 x2) rfl hl.1 rfl (Nat.le_of_ble_eq_true rfl) dX12_move_29 hq (fun s11 H locs hq hB => ?_)
        refine lv_aload_n hx hb dX12_move_32 rfl (lv_at hl 0 rfl) ?_
        refine zz_callVi S hT hB (As := []) (b := a0) (o := f_X12_isInside T N s11 a0) (c_X12_isInside l D cy T hT ad N s11 _ a0) (cwV 0 hts (gV wSub wd_737 wd_738 wd_739 wd_572 wd_740) rfl rfl rfl (by decide +kernel) ⟨Nat.le_of_ble_eq_true rfl, Nat.le_of_ble_eq_true rfl⟩) (F := TX12) (NF := 24) 12 rfl (by decide) (k_X12_isInside T N s11 a0) rfl hl.1 rfl (Nat.le_of_ble_eq_true rfl) dX12_move_33 hq (fun x13 s12 H locs hq hB => ?_)
        refine zz_if_ne (tgt := 42) hx hb dX12_move_36 (by decide) hq (fun hq => ?_) (fun hq => ?_)
        · refine lv_aload_n hx hb dX12_move_42 rfl (lv_at hl 0 rfl) ?_
          refine zz_callVv S hT hB (As := []) (b := a0) (o := f_X12_act T N s12 a0) (c_X12_act l D cy T hT ad N s12 _ a0) (cwV 0 hts (gV wSub wd_604 wd_605 wd_606 wd_572 wd_607) rfl rfl rfl (by decide +kernel) ⟨Nat.le_of_ble_eq_true rfl, Nat.le_of_ble_eq_true rfl⟩) (F := TX12) (NF := 24) 12 rfl (by decide) (k_X12_act T N s12 a0) rfl hl.1 rfl (Nat.le_of_ble_eq_true rfl) dX12_move_43 hq (fun s14 H locs hq hB => ?_)
          refine lv_aload_n hx hb dX12_move_46 rfl (lv_at hl 0 rfl) ?_
          refine zz_callVv S hT hB (As := []) (b := a0) (o := f_X12_movesAll T N s14 a0) (c_X12_movesAll l D cy T hT ad N s14 _ a0) (cwV 0 hts (gV wSub wd_741 wd_742 wd_743 wd_572 wd_744) rfl rfl rfl (by decide +kernel) ⟨Nat.le_of_ble_eq_true rfl, Nat.le_of_ble_eq_true rfl⟩) (F := TX12) (NF := 24) 12 rfl (by decide) (k_X12_movesAll T N s14 a0) rfl hl.1 rfl (Nat.le_of_ble_eq_true rfl) dX12_move_47 hq (fun s15 H locs hq hB => ?_)
          refine lv_iconst (v := 0) hx hb dX12_move_50 (by decide) ?_
          refine lv_istore_n (lv' := [(3, .int (0 : Int32)), (0, .ref (ad a0)), (1, .int x1), (2, .int x2)]) hx hb dX12_move_51 rfl hl (by decide) rfl (fun ls hl => ?_)
          refine lv_iconst (v := 0) hx hb dX12_move_52 (by decide) ?_
          refine lv_istore (lv' := [(4, .int (0 : Int32)), (3, .int (0 : Int32)), (0, .ref (ad a0)), (1, .int x1), (2, .int x2)]) hx hb dX12_move_53 hl (by decide) rfl (fun ls hl => ?_)
          have L55 : ∀ (n : Nat) (x16 : Int32) (x17 : Int32) (s18 : zS) (H : Heap) (locs : List Loc) (ls : Array Slot), zl3 (f_X12_move_L55 T N a0) n x16 x17 s18 = some (r0, σ0) → zB D cy T ad (zA T ad s.heap.size) s.heap s18 H locs s → lv_has ls 5 [(0, .ref (ad a0)), (3, .int x16), (4, .int x17)] → W p l e (headSpec wsX12_move ({ frames := 3, cells := 0, slots := 0, locals := 66 } : Room)).room s m args below meth c H locs 0 0 (MQ below (va_Qi (fun (r2 : Int32) (σ2 : zS) => r2 = r0 ∧ σ2 = σ0) (zAt D cy T ad (zA T ad s.heap.size)) (zA T ad s.heap.size)) args s 0 0 (zA T ad s.heap.size)) (F0 m 55 ls []) := by
            intro n
            induction n with
            | zero => intro x16 x17 s18 H locs ls hq; exact zz_none hq
            | succ n ih55 =>
              intro x16 x17 s18 H locs ls hq hB hl
              rw [zl3] at hq
              generalize zl3 (f_X12_move_L55 T N a0) n = k55 at ih55 hq
              unfold f_X12_move_L55 at hq
              refine lv_iload hx hb dX12_move_55 (lv_at hl 2 rfl) ?_
              refine lv_aload_n hx hb dX12_move_57 rfl (lv_at hl 0 rfl) ?_
              refine zz_getR S hT hB (C := RX12) (ref := "DiagramDeskModel") (F := TX12) (N := 24) (index := 7) 12 0 iwX12 rfl (by decide) (by decide) rfl rfl (wS wd_569) (fun _ h9 => h9) dX12_move_58 hq (fun a19 hq => ?_)
              refine lv_iconst (v := 2) hx hb dX12_move_61 (by decide) ?_
              refine zz_ald S hT hB dX12_move_62 hq (fun x20 hq => ?_)
              refine zz_icmp_ge (tgt := 119) hx hb dX12_move_63 (by decide) hq (fun hq => ?_) (fun hq => ?_)
              · refine lv_iload_n hx hb dX12_move_119 rfl (lv_at hl 1 rfl) ?_
                exact zz_iret S hB hr hlocks dX12_move_120 hq
              · refine lv_iload_n hx hb dX12_move_66 rfl (lv_at hl 1 rfl) ?_
                refine lv_aload_n hx hb dX12_move_67 rfl (lv_at hl 0 rfl) ?_
                refine lv_aload_n hx hb dX12_move_68 rfl (lv_at hl 0 rfl) ?_
                refine zz_getR S hT hB (C := RX12) (ref := "DiagramDeskModel") (F := TX12) (N := 24) (index := 7) 12 0 iwX12 rfl (by decide) (by decide) rfl rfl (wS wd_569) (fun _ h9 => h9) dX12_move_69 hq (fun a21 hq => ?_)
                refine lv_sipush (v := 190) hx hb dX12_move_72 (by decide) ?_
                refine lv_iconst (v := 5) hx hb dX12_move_75 (by decide) ?_
                refine lv_iload hx hb dX12_move_76 (lv_at hl 2 rfl) ?_
                refine lv_imul hx hb dX12_move_78 ?_
                refine lv_iadd hx hb dX12_move_79 ?_
                refine zz_ald S hT hB dX12_move_80 hq (fun x22 hq => ?_)
                refine zz_callVi S hT hB (As := [.int x22]) (b := a0) (o := f_X12_isSelected T N s18 a0 x22) (c_X12_isSelected l D cy T hT ad N s18 _ a0 x22) (cwV 1 hts (gV wSub wd_697 wd_698 wd_699 wd_572 wd_700) rfl rfl rfl (by decide +kernel) ⟨Nat.le_of_ble_eq_true rfl, Nat.le_of_ble_eq_true rfl⟩) (F := TX12) (NF := 24) 12 rfl (by decide) (k_X12_isSelected T N s18 a0 x22) rfl hl.1 rfl (Nat.le_of_ble_eq_true rfl) dX12_move_81 hq (fun x24 s23 H locs hq hB => ?_)
                refine lv_aload_n hx hb dX12_move_84 rfl (lv_at hl 0 rfl) ?_
                refine lv_aload_n hx hb dX12_move_85 rfl (lv_at hl 0 rfl) ?_
                refine zz_getR S hT hB (C := RX12) (ref := "DiagramDeskModel") (F := TX12) (N := 24) (index := 7) 12 0 iwX12 rfl (by decide) (by decide) rfl rfl (wS wd_569) (fun _ h9 => h9) dX12_move_86 hq (fun a25 hq => ?_)
                refine lv_sipush (v := 190) hx hb dX12_move_89 (by decide) ?_
                refine lv_iconst (v := 5) hx hb dX12_move_92 (by decide) ?_
                refine lv_iload hx hb dX12_move_93 (lv_at hl 2 rfl) ?_
                refine lv_imul hx hb dX12_move_95 ?_
                refine lv_iadd hx hb dX12_move_96 ?_
                refine lv_iconst (v := 2) hx hb dX12_move_97 (by decide) ?_
                refine lv_iadd hx hb dX12_move_98 ?_
                refine zz_ald S hT hB dX12_move_99 hq (fun x26 hq => ?_)
                refine zz_callVi S hT hB (As := [.int x26]) (b := a0) (o := f_X12_isSelected T N s23 a0 x26) (c_X12_isSelected l D cy T hT ad N s23 _ a0 x26) (cwV 1 hts (gV wSub wd_697 wd_698 wd_699 wd_572 wd_700) rfl rfl rfl (by decide +kernel) ⟨Nat.le_of_ble_eq_true rfl, Nat.le_of_ble_eq_true rfl⟩) (F := TX12) (NF := 24) 12 rfl (by decide) (k_X12_isSelected T N s23 a0 x26) rfl hl.1 rfl (Nat.le_of_ble_eq_true rfl) dX12_move_100 hq (fun x28 s27 H locs hq hB => ?_)
                refine zz_icmp_eq (tgt := 110) hx hb dX12_move_103 (by decide) hq (fun hq => ?_) (fun hq => ?_)
                · refine lv_iconst (v := 0) hx hb dX12_move_110 (by decide) ?_
                  refine lv_iadd hx hb dX12_move_111 ?_
                  refine zz_nmI hq (fun x29 hq => ?_)
                  refine lv_istore_n (lv' := [(3, .int x29), (0, .ref (ad a0)), (4, .int x17)]) hx hb dX12_move_112 rfl hl (by decide) rfl (fun ls hl => ?_)
                  refine zz_nmV hq (fun x30 ex30 hq => ?_)
                  refine lv_iinc (v := x30) (lv' := [(4, .int x30), (3, .int x29), (0, .ref (ad a0))]) hx hb dX12_move_113 hl (k := 2) rfl (by rw [ex30]; rfl) (by decide) rfl (fun ls hl => ?_)
                  refine lv_goto (tgt := 55) hx hb dX12_move_116 (by decide) ?_
                  exact ih55 x29 x30 s27 _ _ _ hq hB (lv_sub hl [2, 1, 0] rfl)
                · refine lv_iconst (v := 1) hx hb dX12_move_106 (by decide) ?_
                  refine lv_goto (tgt := 111) hx hb dX12_move_107 (by decide) ?_
                  refine lv_iadd hx hb dX12_move_111 ?_
                  refine zz_nmI hq (fun x31 hq => ?_)
                  refine lv_istore_n (lv' := [(3, .int x31), (0, .ref (ad a0)), (4, .int x17)]) hx hb dX12_move_112 rfl hl (by decide) rfl (fun ls hl => ?_)
                  refine zz_nmV hq (fun x32 ex32 hq => ?_)
                  refine lv_iinc (v := x32) (lv' := [(4, .int x32), (3, .int x31), (0, .ref (ad a0))]) hx hb dX12_move_113 hl (k := 2) rfl (by rw [ex32]; rfl) (by decide) rfl (fun ls hl => ?_)
                  refine lv_goto (tgt := 55) hx hb dX12_move_116 (by decide) ?_
                  exact ih55 x31 x32 s27 _ _ _ hq hB (lv_sub hl [2, 1, 0] rfl)
          exact L55 N (0 : Int32) (0 : Int32) s15 _ _ _ hq hB (lv_sub hl [2, 1, 0] rfl)
        · refine lv_bipush (v := -4) hx hb dX12_move_39 (by decide) ?_
          exact zz_iret S hB hr hlocks dX12_move_41 hq
      · refine lv_bipush (v := -2) hx hb dX12_move_23 (by decide) ?_
        exact zz_iret S hB hr hlocks dX12_move_25 hq
    · refine lv_iconst (v := -1) hx hb dX12_move_14 (by decide) ?_
      exact zz_iret S hB hr hlocks dX12_move_15 hq
def f_X12_aims_J30 (T : zT) (N : Nat) (s0 : zS) (a0 : Nat) (x1 : Int32) (x2 : Int32) (x5 : Int32) (x7 : Int32) : Option zS :=
  (gR T s0 a0 12 0).bind fun a8 =>
  (aI T s0 a8 13 (5 : Int32)).bind fun x9 =>
  if x9 < x5 then (
    some s0)
  else (
    (gI T s0 a0 12 14).bind fun x10 =>
    if x1 ≤ x10 then (
      (gI T s0 a0 12 14).bind fun x11 =>
      if x1 < x11 then (
        (pI T s0 a0 12 14 x1).bind fun s12 =>
        (pI T s12 a0 12 15 x2).bind fun s13 =>
        some s13)
      else (
        if x5 < x7 then (
          (pI T s0 a0 12 14 x1).bind fun s14 =>
          (pI T s14 a0 12 15 x2).bind fun s15 =>
          some s15)
        else (
          if ¬ x5 = x7 then (
            some s0)
          else (
            (gI T s0 a0 12 15).bind fun x16 =>
            if x16 ≤ x2 then (
              some s0)
            else (
              (pI T s0 a0 12 14 x1).bind fun s17 =>
              (pI T s17 a0 12 15 x2).bind fun s18 =>
              some s18)))))
    else (
      some s0))
def f_X12_aims_J10 (T : zT) (N : Nat) (s0 : zS) (a0 : Nat) (x1 : Int32) (x2 : Int32) (x5 : Int32) : Option zS :=
  (gI T s0 a0 12 15).bind fun x6 =>
  if 0 ≤ x6 then (
    (gI T s0 a0 12 15).bind fun x19 =>
    f_X12_aims_J30 T N s0 a0 x1 x2 x5 x19)
  else (
    (gI T s0 a0 12 15).bind fun x20 =>
    f_X12_aims_J30 T N s0 a0 x1 x2 x5 (-x20))
def f_X12_aims (T : zT) (N : Nat) (s0 : zS) (a0 : Nat) (x1 : Int32) (x2 : Int32) : Option zS :=
  zz1 (T.1 a0 = 12) <|
  if 0 ≤ x2 then (
    f_X12_aims_J10 T N s0 a0 x1 x2 x2)
  else (
    f_X12_aims_J10 T N s0 a0 x1 x2 (-x2))
theorem k_X12_aims (T : zT) (N : Nat) (s0 : zS) (a0 : Nat) (x1 : Int32) (x2 : Int32) : ∀ q, f_X12_aims T N s0 a0 x1 x2 = some q → T.1 a0 = 12 := by
  intro q h
  unfold f_X12_aims at h
  exact zz_guard h (fun h _ => h)
set_option maxHeartbeats 4000000 in
set_option maxRecDepth 100000 in
theorem c_X12_aims (l : Launch) (D : va_G) (cy : Nat → ClassId) (T : zT) (hT : zok T) (ad : Nat → Nat) (N : Nat) (s0 : zS) (sz : Nat) (a0 : Nat) (x1 : Int32) (x2 : Int32) : ∀ (σ0 : zS), f_X12_aims T N s0 a0 x1 x2 = some σ0 → Met l yX12_aims wsX12_aims ({ frames := 0, cells := 0, slots := 0, locals := 0 }) (va_Pc [.ref (ad a0), .int x1, .int x2] (zPre D cy T ad s0 sz)) (va_Qv (fun σ2 : zS => σ2 = σ0) (zAt D cy T ad (zA T ad sz)) (zA T ad sz)) 0 0 (zA T ad sz) := by
  intro σ0 hq
  refine Met.ofW (cc := cX12_aims) (maxL := 5) (ret := none) (by decide) rfl ?_
  intro p e s m args below meth c s₁ B hml hv
  obtain ⟨hargs, hsz, hP, hK, hD0, hN⟩ := hv
  have hx := B.exec
  have hb := B.bytes
  have hr := B.returns
  have hts := atoms_spec (ws := wsX12_aims) B.pre
  have hown : s.vm.findClass RX12 = some m.cls := findClass_of_methodNamed B.named
  have hlocks := B.notSynchronized
  have S : CallFix p m c cX12_aims 5 s args wsX12_aims RX12 := ⟨hx, hb, hml, hown, hts⟩
  subst hsz
  have hB : zB D cy T ad (zA T ad s.heap.size) s.heap s0 s.heap [] s := zz_entry hP hK hD0 hN
  obtain ⟨ls, hent, hl⟩ := zz_ent m hargs (n := 5) (Nat.le_of_ble_eq_true rfl)
  rw [hent]
  have hl : lv_has ls 5 [(0, .ref (ad a0)), (1, .int x1), (2, .int x2)] := hl
  have iwX12 : ∀ w ∈ u_ws RX12 TX12 24, w ∈ wsX12_aims := fun w h => wS (inWX12 w h)
  unfold f_X12_aims at hq
  refine zz_guard hq (fun hk0 hq => ?_)
  refine lv_iload_n hx hb dX12_aims_0 rfl (lv_at hl 2 rfl) ?_
  have J10 : ∀ (x5 : Int32) (H : Heap) (locs : List Loc) (ls : Array Slot), f_X12_aims_J10 T N s0 a0 x1 x2 x5 = some σ0 → zB D cy T ad (zA T ad s.heap.size) s.heap s0 H locs s → lv_has ls 5 [(0, .ref (ad a0)), (1, .int x1), (2, .int x2)] → W p l e (headSpec wsX12_aims ({ frames := 0, cells := 0, slots := 0, locals := 0 } : Room)).room s m args below meth c H locs 0 0 (MQ below (va_Qv (fun σ2 : zS => σ2 = σ0) (zAt D cy T ad (zA T ad s.heap.size)) (zA T ad s.heap.size)) args s 0 0 (zA T ad s.heap.size)) (F0 m 10 ls [.int x5]) := by
    intro x5 H locs ls hq hB hl
    unfold f_X12_aims_J10 at hq
    refine lv_istore_n (lv' := [(3, .int x5), (0, .ref (ad a0)), (1, .int x1), (2, .int x2)]) hx hb dX12_aims_10 rfl hl (by decide) rfl (fun ls hl => ?_)
    refine lv_aload_n hx hb dX12_aims_11 rfl (lv_at hl 1 rfl) ?_
    refine zz_get S hT hB (C := RX12) (ref := "DiagramDeskModel") (F := TX12) (N := 24) (index := 206) 12 15 iwX12 rfl (by decide) (by decide) rfl rfl (wS wd_745) (fun _ h9 => h9) dX12_aims_12 hq (fun x6 hq => ?_)
    have J30 : ∀ (x7 : Int32) (H : Heap) (locs : List Loc) (ls : Array Slot), f_X12_aims_J30 T N s0 a0 x1 x2 x5 x7 = some σ0 → zB D cy T ad (zA T ad s.heap.size) s.heap s0 H locs s → lv_has ls 5 [(0, .ref (ad a0)), (1, .int x1), (2, .int x2), (3, .int x5)] → W p l e (headSpec wsX12_aims ({ frames := 0, cells := 0, slots := 0, locals := 0 } : Room)).room s m args below meth c H locs 0 0 (MQ below (va_Qv (fun σ2 : zS => σ2 = σ0) (zAt D cy T ad (zA T ad s.heap.size)) (zA T ad s.heap.size)) args s 0 0 (zA T ad s.heap.size)) (F0 m 30 ls [.int x7]) := by
      intro x7 H locs ls hq hB hl
      unfold f_X12_aims_J30 at hq
      refine lv_istore (lv' := [(4, .int x7), (0, .ref (ad a0)), (1, .int x1), (2, .int x2), (3, .int x5)]) hx hb dX12_aims_30 hl (by decide) rfl (fun ls hl => ?_)
      refine lv_iload_n hx hb dX12_aims_32 rfl (lv_at hl 4 rfl) ?_
      refine lv_aload_n hx hb dX12_aims_33 rfl (lv_at hl 1 rfl) ?_
      refine zz_getR S hT hB (C := RX12) (ref := "DiagramDeskModel") (F := TX12) (N := 24) (index := 7) 12 0 iwX12 rfl (by decide) (by decide) rfl rfl (wS wd_569) (fun _ h9 => h9) dX12_aims_34 hq (fun a8 hq => ?_)
      refine lv_iconst (v := 5) hx hb dX12_aims_37 (by decide) ?_
      refine zz_ald S hT hB dX12_aims_38 hq (fun x9 hq => ?_)
      refine zz_icmp_gt (tgt := 50) hx hb dX12_aims_39 (by decide) hq (fun hq => ?_) (fun hq => ?_)
      · exact zz_vret S hB hr hlocks dX12_aims_50 hq
      · refine lv_iload_n hx hb dX12_aims_42 rfl (lv_at hl 2 rfl) ?_
        refine lv_aload_n hx hb dX12_aims_43 rfl (lv_at hl 1 rfl) ?_
        refine zz_get S hT hB (C := RX12) (ref := "DiagramDeskModel") (F := TX12) (N := 24) (index := 209) 12 14 iwX12 rfl (by decide) (by decide) rfl rfl (wS wd_746) (fun _ h9 => h9) dX12_aims_44 hq (fun x10 hq => ?_)
        refine zz_icmp_le (tgt := 51) hx hb dX12_aims_47 (by decide) hq (fun hq => ?_) (fun hq => ?_)
        · refine lv_iload_n hx hb dX12_aims_51 rfl (lv_at hl 2 rfl) ?_
          refine lv_aload_n hx hb dX12_aims_52 rfl (lv_at hl 1 rfl) ?_
          refine zz_get S hT hB (C := RX12) (ref := "DiagramDeskModel") (F := TX12) (N := 24) (index := 209) 12 14 iwX12 rfl (by decide) (by decide) rfl rfl (wS wd_746) (fun _ h9 => h9) dX12_aims_53 hq (fun x11 hq => ?_)
          refine zz_icmp_lt (tgt := 79) hx hb dX12_aims_56 (by decide) hq (fun hq => ?_) (fun hq => ?_)
          · refine lv_aload_n hx hb dX12_aims_79 rfl (lv_at hl 1 rfl) ?_
            refine lv_iload_n hx hb dX12_aims_80 rfl (lv_at hl 2 rfl) ?_
            refine zz_put S hT hB (C := RX12) (ref := "DiagramDeskModel") (F := TX12) (N := 24) (index := 209) 12 14 iwX12 tyX12 tyX12_ok nmX12 rfl (by decide) (by decide) rfl rfl (wS wd_746) (fun _ h9 => h9) rfl (by decide +kernel) dX12_aims_81 hq (fun s12 H locs hq hB => ?_)
            refine lv_aload_n hx hb dX12_aims_84 rfl (lv_at hl 1 rfl) ?_
            refine lv_iload_n hx hb dX12_aims_85 rfl (lv_at hl 3 rfl) ?_
            refine zz_put S hT hB (C := RX12) (ref := "DiagramDeskModel") (F := TX12) (N := 24) (index := 206) 12 15 iwX12 tyX12 tyX12_ok nmX12 rfl (by decide) (by decide) rfl rfl (wS wd_745) (fun _ h9 => h9) rfl (by decide +kernel) dX12_aims_86 hq (fun s13 H locs hq hB => ?_)
            exact zz_vret S hB hr hlocks dX12_aims_89 hq
          · refine lv_iload_n hx hb dX12_aims_59 rfl (lv_at hl 4 rfl) ?_
            refine lv_iload hx hb dX12_aims_60 (lv_at hl 0 rfl) ?_
            refine zz_icmp_lt (tgt := 79) hx hb dX12_aims_62 (by decide) hq (fun hq => ?_) (fun hq => ?_)
            · refine lv_aload_n hx hb dX12_aims_79 rfl (lv_at hl 1 rfl) ?_
              refine lv_iload_n hx hb dX12_aims_80 rfl (lv_at hl 2 rfl) ?_
              refine zz_put S hT hB (C := RX12) (ref := "DiagramDeskModel") (F := TX12) (N := 24) (index := 209) 12 14 iwX12 tyX12 tyX12_ok nmX12 rfl (by decide) (by decide) rfl rfl (wS wd_746) (fun _ h9 => h9) rfl (by decide +kernel) dX12_aims_81 hq (fun s14 H locs hq hB => ?_)
              refine lv_aload_n hx hb dX12_aims_84 rfl (lv_at hl 1 rfl) ?_
              refine lv_iload_n hx hb dX12_aims_85 rfl (lv_at hl 3 rfl) ?_
              refine zz_put S hT hB (C := RX12) (ref := "DiagramDeskModel") (F := TX12) (N := 24) (index := 206) 12 15 iwX12 tyX12 tyX12_ok nmX12 rfl (by decide) (by decide) rfl rfl (wS wd_745) (fun _ h9 => h9) rfl (by decide +kernel) dX12_aims_86 hq (fun s15 H locs hq hB => ?_)
              exact zz_vret S hB hr hlocks dX12_aims_89 hq
            · refine lv_iload_n hx hb dX12_aims_65 rfl (lv_at hl 4 rfl) ?_
              refine lv_iload hx hb dX12_aims_66 (lv_at hl 0 rfl) ?_
              refine zz_icmp_ne (tgt := 89) hx hb dX12_aims_68 (by decide) hq (fun hq => ?_) (fun hq => ?_)
              · exact zz_vret S hB hr hlocks dX12_aims_89 hq
              · refine lv_iload_n hx hb dX12_aims_71 rfl (lv_at hl 3 rfl) ?_
                refine lv_aload_n hx hb dX12_aims_72 rfl (lv_at hl 1 rfl) ?_
                refine zz_get S hT hB (C := RX12) (ref := "DiagramDeskModel") (F := TX12) (N := 24) (index := 206) 12 15 iwX12 rfl (by decide) (by decide) rfl rfl (wS wd_745) (fun _ h9 => h9) dX12_aims_73 hq (fun x16 hq => ?_)
                refine zz_icmp_ge (tgt := 89) hx hb dX12_aims_76 (by decide) hq (fun hq => ?_) (fun hq => ?_)
                · exact zz_vret S hB hr hlocks dX12_aims_89 hq
                · refine lv_aload_n hx hb dX12_aims_79 rfl (lv_at hl 1 rfl) ?_
                  refine lv_iload_n hx hb dX12_aims_80 rfl (lv_at hl 2 rfl) ?_
                  refine zz_put S hT hB (C := RX12) (ref := "DiagramDeskModel") (F := TX12) (N := 24) (index := 209) 12 14 iwX12 tyX12 tyX12_ok nmX12 rfl (by decide) (by decide) rfl rfl (wS wd_746) (fun _ h9 => h9) rfl (by decide +kernel) dX12_aims_81 hq (fun s17 H locs hq hB => ?_)
                  refine lv_aload_n hx hb dX12_aims_84 rfl (lv_at hl 1 rfl) ?_
                  refine lv_iload_n hx hb dX12_aims_85 rfl (lv_at hl 3 rfl) ?_
                  refine zz_put S hT hB (C := RX12) (ref := "DiagramDeskModel") (F := TX12) (N := 24) (index := 206) 12 15 iwX12 tyX12 tyX12_ok nmX12 rfl (by decide) (by decide) rfl rfl (wS wd_745) (fun _ h9 => h9) rfl (by decide +kernel) dX12_aims_86 hq (fun s18 H locs hq hB => ?_)
                  exact zz_vret S hB hr hlocks dX12_aims_89 hq
        · exact zz_vret S hB hr hlocks dX12_aims_50 hq
    refine zz_if_ge (tgt := 26) hx hb dX12_aims_15 (by decide) hq (fun hq => ?_) (fun hq => ?_)
    · refine lv_aload_n hx hb dX12_aims_26 rfl (lv_at hl 1 rfl) ?_
      refine zz_get S hT hB (C := RX12) (ref := "DiagramDeskModel") (F := TX12) (N := 24) (index := 206) 12 15 iwX12 rfl (by decide) (by decide) rfl rfl (wS wd_745) (fun _ h9 => h9) dX12_aims_27 hq (fun x19 hq => ?_)
      exact J30 x19 _ _ _ hq hB (lv_sub hl [1, 2, 3, 0] rfl)
    · refine lv_aload_n hx hb dX12_aims_18 rfl (lv_at hl 1 rfl) ?_
      refine zz_get S hT hB (C := RX12) (ref := "DiagramDeskModel") (F := TX12) (N := 24) (index := 206) 12 15 iwX12 rfl (by decide) (by decide) rfl rfl (wS wd_745) (fun _ h9 => h9) dX12_aims_19 hq (fun x20 hq => ?_)
      refine lv_ineg hx hb dX12_aims_22 ?_
      refine lv_goto (tgt := 30) hx hb dX12_aims_23 (by decide) ?_
      exact J30 (-x20) _ _ _ hq hB (lv_sub hl [1, 2, 3, 0] rfl)
  refine zz_if_ge (tgt := 9) hx hb dX12_aims_1 (by decide) hq (fun hq => ?_) (fun hq => ?_)
  · refine lv_iload_n hx hb dX12_aims_9 rfl (lv_at hl 2 rfl) ?_
    exact J10 x2 _ _ _ hq hB (lv_sub hl [0, 1, 2] rfl)
  · refine lv_iload_n hx hb dX12_aims_4 rfl (lv_at hl 2 rfl) ?_
    refine lv_ineg hx hb dX12_aims_5 ?_
    refine lv_goto (tgt := 10) hx hb dX12_aims_6 (by decide) ?_
    exact J10 (-x2) _ _ _ hq hB (lv_sub hl [0, 1, 2] rfl)
def f_X12_looksFor_J279 (T : zT) (N : Nat) (a0 : Nat) (s20 : zS) (x26 : Int32) : Option zS :=
  (f_X12_aims T N s20 a0 (3 : Int32) (-x26)).bind fun s27 =>
  (gR T s27 a0 12 0).bind fun a28 =>
  (aI T s27 a28 13 (4 : Int32)).bind fun x29 =>
  (f_X12_aims T N s27 a0 (3 : Int32) (x29 - x26)).bind fun s30 =>
  some s30
def f_X12_looksFor_L135 (T : zT) (N : Nat) (a0 : Nat) (x1 : Int32) (x10 : Int32) (x13 : Int32) (x14 : Int32) (k135 : Int32 → zS → Option zS) (x19 : Int32) (s20 : zS) : Option zS :=
  if (20 : Int32) ≤ x19 then (
    (gR T s20 a0 12 0).bind fun a21 =>
    (aI T s20 a21 13 (4 : Int32)).bind fun x22 =>
    if x22 ≤ 0 then (
      some s20)
    else (
      (gR T s20 a0 12 0).bind fun a23 =>
      (aI T s20 a23 13 (4 : Int32)).bind fun x24 =>
      zz1 (¬ x24 = 0) <|
      zn (x10 - x10 / x24 * x24) fun x25 =>
      if 0 ≤ x25 then (
        f_X12_looksFor_J279 T N a0 s20 x25)
      else (
        (gR T s20 a0 12 0).bind fun a31 =>
        (aI T s20 a31 13 (4 : Int32)).bind fun x32 =>
        f_X12_looksFor_J279 T N a0 s20 (x25 + x32))))
  else (
    zb2 (f_X12_of T N s20 a0 x19 (0 : Int32)) fun x34 s33 =>
    if ¬ x34 = (1 : Int32) then (
      zn (x19 + (1 : Int32)) fun x35 =>
      k135 x35 s33)
    else (
      zb2 (f_X12_isSelected T N s33 a0 x19) fun x37 s36 =>
      if ¬ x37 = 0 then (
        zn (x19 + (1 : Int32)) fun x38 =>
        k135 x38 s36)
      else (
        zb2 (f_X12_center T N s36 a0 x19 x1) fun x40 s39 =>
        (f_X12_aims T N s39 a0 (1 : Int32) (x40 - x14)).bind fun s41 =>
        zb2 (f_X12_begin T N s41 a0 x19 x1) fun x43 s42 =>
        (f_X12_aims T N s42 a0 (2 : Int32) (x43 - x10)).bind fun s44 =>
        zb2 (f_X12_end T N s44 a0 x19 x1) fun x46 s45 =>
        (f_X12_aims T N s45 a0 (2 : Int32) (x46 - x10)).bind fun s47 =>
        zb2 (f_X12_begin T N s47 a0 x19 x1) fun x49 s48 =>
        (f_X12_aims T N s48 a0 (2 : Int32) (x49 - x13)).bind fun s50 =>
        zb2 (f_X12_end T N s50 a0 x19 x1) fun x52 s51 =>
        (f_X12_aims T N s51 a0 (2 : Int32) (x52 - x13)).bind fun s53 =>
        zn (x19 + (1 : Int32)) fun x54 =>
        k135 x54 s53)))
def f_X12_looksFor_L52 (T : zT) (N : Nat) (a0 : Nat) (x1 : Int32) (x10 : Int32) (x13 : Int32) (x14 : Int32) (k52 : Int32 → zS → Option zS) (x15 : Int32) (s16 : zS) : Option zS :=
  (gR T s16 a0 12 0).bind fun a17 =>
  (aI T s16 a17 13 (3 : Int32)).bind fun x18 =>
  if x18 ≤ x15 then (
    zl2 (f_X12_looksFor_L135 T N a0 x1 x10 x13 x14) N (0 : Int32) s16)
  else (
    (gR T s16 a0 12 0).bind fun a55 =>
    (aI T s16 a55 13 ((310 : Int32) + ((2 : Int32) * x15))).bind fun x56 =>
    if ¬ x56 = x1 then (
      zn (x15 + (1 : Int32)) fun x57 =>
      k52 x57 s16)
    else (
      (gR T s16 a0 12 0).bind fun a58 =>
      (aI T s16 a58 13 (((310 : Int32) + ((2 : Int32) * x15)) + (1 : Int32))).bind fun x59 =>
      (f_X12_aims T N s16 a0 (0 : Int32) (x59 - x10)).bind fun s60 =>
      (f_X12_aims T N s60 a0 (0 : Int32) (x59 - x14)).bind fun s61 =>
      (f_X12_aims T N s61 a0 (0 : Int32) (x59 - x13)).bind fun s62 =>
      zn (x15 + (1 : Int32)) fun x63 =>
      k52 x63 s62))
def f_X12_looksFor (T : zT) (N : Nat) (s0 : zS) (a0 : Nat) (x1 : Int32) (x2 : Int32) : Option zS :=
  zz1 (T.1 a0 = 12) <|
  (f_X12_gathers T N s0 a0).bind fun s5 =>
  (pI T s5 a0 12 14 (4 : Int32)).bind fun s6 =>
  (pI T s6 a0 12 15 (0 : Int32)).bind fun s7 =>
  (gR T s7 a0 12 8).bind fun a8 =>
  (aI T s7 a8 13 ((40 : Int32) + x1)).bind fun x9 =>
  zn (x9 + x2) fun x10 =>
  (gR T s7 a0 12 9).bind fun a11 =>
  (aI T s7 a11 13 ((40 : Int32) + x1)).bind fun x12 =>
  zn (x12 + x2) fun x13 =>
  zn (x10 + ((x13 - x10) / (2 : Int32))) fun x14 =>
  zl2 (f_X12_looksFor_L52 T N a0 x1 x10 x13 x14) N (0 : Int32) s7
theorem k_X12_looksFor (T : zT) (N : Nat) (s0 : zS) (a0 : Nat) (x1 : Int32) (x2 : Int32) : ∀ q, f_X12_looksFor T N s0 a0 x1 x2 = some q → T.1 a0 = 12 := by
  intro q h
  unfold f_X12_looksFor at h
  exact zz_guard h (fun h _ => h)
set_option maxHeartbeats 4000000 in
set_option maxRecDepth 100000 in
theorem c_X12_looksFor (l : Launch) (D : va_G) (cy : Nat → ClassId) (T : zT) (hT : zok T) (ad : Nat → Nat) (N : Nat) (s0 : zS) (sz : Nat) (a0 : Nat) (x1 : Int32) (x2 : Int32) : ∀ (σ0 : zS), f_X12_looksFor T N s0 a0 x1 x2 = some σ0 → Met l yX12_looksFor wsX12_looksFor ({ frames := 4, cells := 0, slots := 0, locals := 91 }) (va_Pc [.ref (ad a0), .int x1, .int x2] (zPre D cy T ad s0 sz)) (va_Qv (fun σ2 : zS => σ2 = σ0) (zAt D cy T ad (zA T ad sz)) (zA T ad sz)) 0 0 (zA T ad sz) := by
  intro σ0 hq
  refine Met.ofW (cc := cX12_looksFor) (maxL := 8) (ret := none) (by decide) rfl ?_
  intro p e s m args below meth c s₁ B hml hv
  obtain ⟨hargs, hsz, hP, hK, hD0, hN⟩ := hv
  have hx := B.exec
  have hb := B.bytes
  have hr := B.returns
  have hts := atoms_spec (ws := wsX12_looksFor) B.pre
  have hown : s.vm.findClass RX12 = some m.cls := findClass_of_methodNamed B.named
  have hlocks := B.notSynchronized
  have S : CallFix p m c cX12_looksFor 8 s args wsX12_looksFor RX12 := ⟨hx, hb, hml, hown, hts⟩
  subst hsz
  have hB : zB D cy T ad (zA T ad s.heap.size) s.heap s0 s.heap [] s := zz_entry hP hK hD0 hN
  obtain ⟨ls, hent, hl⟩ := zz_ent m hargs (n := 8) (Nat.le_of_ble_eq_true rfl)
  rw [hent]
  have hl : lv_has ls 8 [(0, .ref (ad a0)), (1, .int x1), (2, .int x2)] := hl
  have iwX12 : ∀ w ∈ u_ws RX12 TX12 24, w ∈ wsX12_looksFor := fun w h => wS (inWX12 w h)
  unfold f_X12_looksFor at hq
  refine zz_guard hq (fun hk0 hq => ?_)
  refine lv_aload_n hx hb dX12_looksFor_0 rfl (lv_at hl 0 rfl) ?_
  refine zz_callVv S hT hB (As := []) (b := a0) (o := f_X12_gathers T N s0 a0) (c_X12_gathers l D cy T hT ad N s0 _ a0) (cwV 0 hts (gV wSub wd_724 wd_725 wd_726 wd_572 wd_727) rfl rfl rfl (by decide +kernel) ⟨Nat.le_of_ble_eq_true rfl, Nat.le_of_ble_eq_true rfl⟩) (F := TX12) (NF := 24) 12 rfl (by decide) (k_X12_gathers T N s0 a0) rfl hl.1 rfl (Nat.le_of_ble_eq_true rfl) dX12_looksFor_1 hq (fun s5 H locs hq hB => ?_)
  refine lv_aload_n hx hb dX12_looksFor_4 rfl (lv_at hl 0 rfl) ?_
  refine lv_iconst (v := 4) hx hb dX12_looksFor_5 (by decide) ?_
  refine zz_put S hT hB (C := RX12) (ref := "DiagramDeskModel") (F := TX12) (N := 24) (index := 209) 12 14 iwX12 tyX12 tyX12_ok nmX12 rfl (by decide) (by decide) rfl rfl (wS wd_746) (fun _ h9 => h9) rfl (by decide +kernel) dX12_looksFor_6 hq (fun s6 H locs hq hB => ?_)
  refine lv_aload_n hx hb dX12_looksFor_9 rfl (lv_at hl 0 rfl) ?_
  refine lv_iconst (v := 0) hx hb dX12_looksFor_10 (by decide) ?_
  refine zz_put S hT hB (C := RX12) (ref := "DiagramDeskModel") (F := TX12) (N := 24) (index := 206) 12 15 iwX12 tyX12 tyX12_ok nmX12 rfl (by decide) (by decide) rfl rfl (wS wd_745) (fun _ h9 => h9) rfl (by decide +kernel) dX12_looksFor_11 hq (fun s7 H locs hq hB => ?_)
  refine lv_aload_n hx hb dX12_looksFor_14 rfl (lv_at hl 0 rfl) ?_
  refine zz_getR S hT hB (C := RX12) (ref := "DiagramDeskModel") (F := TX12) (N := 24) (index := 28) 12 8 iwX12 rfl (by decide) (by decide) rfl rfl (wS wd_708) (fun _ h9 => h9) dX12_looksFor_15 hq (fun a8 hq => ?_)
  refine lv_bipush (v := 40) hx hb dX12_looksFor_18 (by decide) ?_
  refine lv_iload_n hx hb dX12_looksFor_20 rfl (lv_at hl 1 rfl) ?_
  refine lv_iadd hx hb dX12_looksFor_21 ?_
  refine zz_ald S hT hB dX12_looksFor_22 hq (fun x9 hq => ?_)
  refine lv_iload_n hx hb dX12_looksFor_23 rfl (lv_at hl 2 rfl) ?_
  refine lv_iadd hx hb dX12_looksFor_24 ?_
  refine zz_nmI hq (fun x10 hq => ?_)
  refine lv_istore_n (lv' := [(3, .int x10), (0, .ref (ad a0)), (1, .int x1), (2, .int x2)]) hx hb dX12_looksFor_25 rfl hl (by decide) rfl (fun ls hl => ?_)
  refine lv_aload_n hx hb dX12_looksFor_26 rfl (lv_at hl 1 rfl) ?_
  refine zz_getR S hT hB (C := RX12) (ref := "DiagramDeskModel") (F := TX12) (N := 24) (index := 31) 12 9 iwX12 rfl (by decide) (by decide) rfl rfl (wS wd_709) (fun _ h9 => h9) dX12_looksFor_27 hq (fun a11 hq => ?_)
  refine lv_bipush (v := 40) hx hb dX12_looksFor_30 (by decide) ?_
  refine lv_iload_n hx hb dX12_looksFor_32 rfl (lv_at hl 2 rfl) ?_
  refine lv_iadd hx hb dX12_looksFor_33 ?_
  refine zz_ald S hT hB dX12_looksFor_34 hq (fun x12 hq => ?_)
  refine lv_iload_n hx hb dX12_looksFor_35 rfl (lv_at hl 3 rfl) ?_
  refine lv_iadd hx hb dX12_looksFor_36 ?_
  refine zz_nmI hq (fun x13 hq => ?_)
  refine lv_istore (lv' := [(4, .int x13), (3, .int x10), (0, .ref (ad a0)), (1, .int x1), (2, .int x2)]) hx hb dX12_looksFor_37 hl (by decide) rfl (fun ls hl => ?_)
  refine lv_iload_n hx hb dX12_looksFor_39 rfl (lv_at hl 1 rfl) ?_
  refine lv_iload hx hb dX12_looksFor_40 (lv_at hl 0 rfl) ?_
  refine lv_iload_n hx hb dX12_looksFor_42 rfl (lv_at hl 1 rfl) ?_
  refine lv_isub hx hb dX12_looksFor_43 ?_
  refine lv_iconst (v := 2) hx hb dX12_looksFor_44 (by decide) ?_
  refine lv_idiv hx hb dX12_looksFor_45 (by decide) ?_
  refine lv_iadd hx hb dX12_looksFor_46 ?_
  refine zz_nmI hq (fun x14 hq => ?_)
  refine lv_istore (lv' := [(5, .int x14), (4, .int x13), (3, .int x10), (0, .ref (ad a0)), (1, .int x1), (2, .int x2)]) hx hb dX12_looksFor_47 hl (by decide) rfl (fun ls hl => ?_)
  refine lv_iconst (v := 0) hx hb dX12_looksFor_49 (by decide) ?_
  refine lv_istore (lv' := [(6, .int (0 : Int32)), (5, .int x14), (4, .int x13), (3, .int x10), (0, .ref (ad a0)), (1, .int x1), (2, .int x2)]) hx hb dX12_looksFor_50 hl (by decide) rfl (fun ls hl => ?_)
  have L52 : ∀ (n : Nat) (x15 : Int32) (s16 : zS) (H : Heap) (locs : List Loc) (ls : Array Slot), zl2 (f_X12_looksFor_L52 T N a0 x1 x10 x13 x14) n x15 s16 = some σ0 → zB D cy T ad (zA T ad s.heap.size) s.heap s16 H locs s → lv_has ls 8 [(0, .ref (ad a0)), (1, .int x1), (3, .int x10), (4, .int x13), (5, .int x14), (6, .int x15)] → W p l e (headSpec wsX12_looksFor ({ frames := 4, cells := 0, slots := 0, locals := 91 } : Room)).room s m args below meth c H locs 0 0 (MQ below (va_Qv (fun σ2 : zS => σ2 = σ0) (zAt D cy T ad (zA T ad s.heap.size)) (zA T ad s.heap.size)) args s 0 0 (zA T ad s.heap.size)) (F0 m 52 ls []) := by
    intro n
    induction n with
    | zero => intro x15 s16 H locs ls hq; exact zz_none hq
    | succ n ih52 =>
      intro x15 s16 H locs ls hq hB hl
      rw [zl2] at hq
      generalize zl2 (f_X12_looksFor_L52 T N a0 x1 x10 x13 x14) n = k52 at ih52 hq
      unfold f_X12_looksFor_L52 at hq
      refine lv_iload hx hb dX12_looksFor_52 (lv_at hl 5 rfl) ?_
      refine lv_aload_n hx hb dX12_looksFor_54 rfl (lv_at hl 0 rfl) ?_
      refine zz_getR S hT hB (C := RX12) (ref := "DiagramDeskModel") (F := TX12) (N := 24) (index := 7) 12 0 iwX12 rfl (by decide) (by decide) rfl rfl (wS wd_569) (fun _ h9 => h9) dX12_looksFor_55 hq (fun a17 hq => ?_)
      refine lv_iconst (v := 3) hx hb dX12_looksFor_58 (by decide) ?_
      refine zz_ald S hT hB dX12_looksFor_59 hq (fun x18 hq => ?_)
      refine zz_icmp_ge (tgt := 132) hx hb dX12_looksFor_60 (by decide) hq (fun hq => ?_) (fun hq => ?_)
      · refine lv_iconst (v := 0) hx hb dX12_looksFor_132 (by decide) ?_
        refine lv_istore (lv' := [(6, .int (0 : Int32)), (0, .ref (ad a0)), (1, .int x1), (3, .int x10), (4, .int x13), (5, .int x14)]) hx hb dX12_looksFor_133 hl (by decide) rfl (fun ls hl => ?_)
        have L135 : ∀ (n : Nat) (x19 : Int32) (s20 : zS) (H : Heap) (locs : List Loc) (ls : Array Slot), zl2 (f_X12_looksFor_L135 T N a0 x1 x10 x13 x14) n x19 s20 = some σ0 → zB D cy T ad (zA T ad s.heap.size) s.heap s20 H locs s → lv_has ls 8 [(0, .ref (ad a0)), (1, .int x1), (3, .int x10), (4, .int x13), (5, .int x14), (6, .int x19)] → W p l e (headSpec wsX12_looksFor ({ frames := 4, cells := 0, slots := 0, locals := 91 } : Room)).room s m args below meth c H locs 0 0 (MQ below (va_Qv (fun σ2 : zS => σ2 = σ0) (zAt D cy T ad (zA T ad s.heap.size)) (zA T ad s.heap.size)) args s 0 0 (zA T ad s.heap.size)) (F0 m 135 ls []) := by
          intro n
          induction n with
          | zero => intro x19 s20 H locs ls hq; exact zz_none hq
          | succ n ih135 =>
            intro x19 s20 H locs ls hq hB hl
            rw [zl2] at hq
            generalize zl2 (f_X12_looksFor_L135 T N a0 x1 x10 x13 x14) n = k135 at ih135 hq
            unfold f_X12_looksFor_L135 at hq
            refine lv_iload hx hb dX12_looksFor_135 (lv_at hl 5 rfl) ?_
            refine lv_bipush (v := 20) hx hb dX12_looksFor_137 (by decide) ?_
            refine zz_icmp_ge (tgt := 241) hx hb dX12_looksFor_139 (by decide) hq (fun hq => ?_) (fun hq => ?_)
            · refine lv_aload_n hx hb dX12_looksFor_241 rfl (lv_at hl 0 rfl) ?_
              refine zz_getR S hT hB (C := RX12) (ref := "DiagramDeskModel") (F := TX12) (N := 24) (index := 7) 12 0 iwX12 rfl (by decide) (by decide) rfl rfl (wS wd_569) (fun _ h9 => h9) dX12_looksFor_242 hq (fun a21 hq => ?_)
              refine lv_iconst (v := 4) hx hb dX12_looksFor_245 (by decide) ?_
              refine zz_ald S hT hB dX12_looksFor_246 hq (fun x22 hq => ?_)
              refine zz_if_le (tgt := 303) hx hb dX12_looksFor_247 (by decide) hq (fun hq => ?_) (fun hq => ?_)
              · exact zz_vret S hB hr hlocks dX12_looksFor_303 hq
              · refine lv_iload_n hx hb dX12_looksFor_250 rfl (lv_at hl 2 rfl) ?_
                refine lv_aload_n hx hb dX12_looksFor_251 rfl (lv_at hl 0 rfl) ?_
                refine zz_getR S hT hB (C := RX12) (ref := "DiagramDeskModel") (F := TX12) (N := 24) (index := 7) 12 0 iwX12 rfl (by decide) (by decide) rfl rfl (wS wd_569) (fun _ h9 => h9) dX12_looksFor_252 hq (fun a23 hq => ?_)
                refine lv_iconst (v := 4) hx hb dX12_looksFor_255 (by decide) ?_
                refine zz_ald S hT hB dX12_looksFor_256 hq (fun x24 hq => ?_)
                refine zz_guard hq (fun hne hq => ?_)
                refine lv_irem hx hb dX12_looksFor_257 hne ?_
                refine zz_nmI hq (fun x25 hq => ?_)
                refine lv_istore (lv' := [(6, .int x25), (0, .ref (ad a0)), (1, .int x1), (3, .int x10), (4, .int x13), (5, .int x14)]) hx hb dX12_looksFor_258 hl (by decide) rfl (fun ls hl => ?_)
                refine lv_iload hx hb dX12_looksFor_260 (lv_at hl 0 rfl) ?_
                have J279 : ∀ (x26 : Int32) (H : Heap) (locs : List Loc) (ls : Array Slot), f_X12_looksFor_J279 T N a0 s20 x26 = some σ0 → zB D cy T ad (zA T ad s.heap.size) s.heap s20 H locs s → lv_has ls 8 [(0, .ref (ad a0))] → W p l e (headSpec wsX12_looksFor ({ frames := 4, cells := 0, slots := 0, locals := 91 } : Room)).room s m args below meth c H locs 0 0 (MQ below (va_Qv (fun σ2 : zS => σ2 = σ0) (zAt D cy T ad (zA T ad s.heap.size)) (zA T ad s.heap.size)) args s 0 0 (zA T ad s.heap.size)) (F0 m 279 ls [.int x26]) := by
                  intro x26 H locs ls hq hB hl
                  unfold f_X12_looksFor_J279 at hq
                  refine lv_istore (lv' := [(6, .int x26), (0, .ref (ad a0))]) hx hb dX12_looksFor_279 hl (by decide) rfl (fun ls hl => ?_)
                  refine lv_aload_n hx hb dX12_looksFor_281 rfl (lv_at hl 1 rfl) ?_
                  refine lv_iconst (v := 3) hx hb dX12_looksFor_282 (by decide) ?_
                  refine lv_iload hx hb dX12_looksFor_283 (lv_at hl 0 rfl) ?_
                  refine lv_ineg hx hb dX12_looksFor_285 ?_
                  refine zz_callVv S hT hB (As := [.int (3 : Int32), .int (-x26)]) (b := a0) (o := f_X12_aims T N s20 a0 (3 : Int32) (-x26)) (c_X12_aims l D cy T hT ad N s20 _ a0 (3 : Int32) (-x26)) (cwV 2 hts (gV wSub wd_747 wd_748 wd_749 wd_572 wd_750) rfl rfl rfl (by decide +kernel) ⟨Nat.le_of_ble_eq_true rfl, Nat.le_of_ble_eq_true rfl⟩) (F := TX12) (NF := 24) 12 rfl (by decide) (k_X12_aims T N s20 a0 (3 : Int32) (-x26)) rfl hl.1 rfl (Nat.le_of_ble_eq_true rfl) dX12_looksFor_286 hq (fun s27 H locs hq hB => ?_)
                  refine lv_aload_n hx hb dX12_looksFor_289 rfl (lv_at hl 1 rfl) ?_
                  refine lv_iconst (v := 3) hx hb dX12_looksFor_290 (by decide) ?_
                  refine lv_aload_n hx hb dX12_looksFor_291 rfl (lv_at hl 1 rfl) ?_
                  refine zz_getR S hT hB (C := RX12) (ref := "DiagramDeskModel") (F := TX12) (N := 24) (index := 7) 12 0 iwX12 rfl (by decide) (by decide) rfl rfl (wS wd_569) (fun _ h9 => h9) dX12_looksFor_292 hq (fun a28 hq => ?_)
                  refine lv_iconst (v := 4) hx hb dX12_looksFor_295 (by decide) ?_
                  refine zz_ald S hT hB dX12_looksFor_296 hq (fun x29 hq => ?_)
                  refine lv_iload hx hb dX12_looksFor_297 (lv_at hl 0 rfl) ?_
                  refine lv_isub hx hb dX12_looksFor_299 ?_
                  refine zz_callVv S hT hB (As := [.int (3 : Int32), .int (x29 - x26)]) (b := a0) (o := f_X12_aims T N s27 a0 (3 : Int32) (x29 - x26)) (c_X12_aims l D cy T hT ad N s27 _ a0 (3 : Int32) (x29 - x26)) (cwV 2 hts (gV wSub wd_747 wd_748 wd_749 wd_572 wd_750) rfl rfl rfl (by decide +kernel) ⟨Nat.le_of_ble_eq_true rfl, Nat.le_of_ble_eq_true rfl⟩) (F := TX12) (NF := 24) 12 rfl (by decide) (k_X12_aims T N s27 a0 (3 : Int32) (x29 - x26)) rfl hl.1 rfl (Nat.le_of_ble_eq_true rfl) dX12_looksFor_300 hq (fun s30 H locs hq hB => ?_)
                  exact zz_vret S hB hr hlocks dX12_looksFor_303 hq
                refine zz_if_ge (tgt := 277) hx hb dX12_looksFor_262 (by decide) hq (fun hq => ?_) (fun hq => ?_)
                · refine lv_iload hx hb dX12_looksFor_277 (lv_at hl 0 rfl) ?_
                  exact J279 x25 _ _ _ hq hB (lv_sub hl [1] rfl)
                · refine lv_iload hx hb dX12_looksFor_265 (lv_at hl 0 rfl) ?_
                  refine lv_aload_n hx hb dX12_looksFor_267 rfl (lv_at hl 1 rfl) ?_
                  refine zz_getR S hT hB (C := RX12) (ref := "DiagramDeskModel") (F := TX12) (N := 24) (index := 7) 12 0 iwX12 rfl (by decide) (by decide) rfl rfl (wS wd_569) (fun _ h9 => h9) dX12_looksFor_268 hq (fun a31 hq => ?_)
                  refine lv_iconst (v := 4) hx hb dX12_looksFor_271 (by decide) ?_
                  refine zz_ald S hT hB dX12_looksFor_272 hq (fun x32 hq => ?_)
                  refine lv_iadd hx hb dX12_looksFor_273 ?_
                  refine lv_goto (tgt := 279) hx hb dX12_looksFor_274 (by decide) ?_
                  exact J279 (x25 + x32) _ _ _ hq hB (lv_sub hl [1] rfl)
            · refine lv_aload_n hx hb dX12_looksFor_142 rfl (lv_at hl 0 rfl) ?_
              refine lv_iload hx hb dX12_looksFor_143 (lv_at hl 5 rfl) ?_
              refine lv_iconst (v := 0) hx hb dX12_looksFor_145 (by decide) ?_
              refine zz_callVi S hT hB (As := [.int x19, .int (0 : Int32)]) (b := a0) (o := f_X12_of T N s20 a0 x19 (0 : Int32)) (c_X12_of l D cy T hT ad N s20 _ a0 x19 (0 : Int32)) (cwV 2 hts (gV wSub wd_574 wd_575 wd_576 wd_572 wd_577) rfl rfl rfl (by decide +kernel) ⟨Nat.le_of_ble_eq_true rfl, Nat.le_of_ble_eq_true rfl⟩) (F := TX12) (NF := 24) 12 rfl (by decide) (k_X12_of T N s20 a0 x19 (0 : Int32)) rfl hl.1 rfl (Nat.le_of_ble_eq_true rfl) dX12_looksFor_146 hq (fun x34 s33 H locs hq hB => ?_)
              refine lv_iconst (v := 1) hx hb dX12_looksFor_149 (by decide) ?_
              refine zz_icmp_ne (tgt := 235) hx hb dX12_looksFor_150 (by decide) hq (fun hq => ?_) (fun hq => ?_)
              · refine zz_nmV hq (fun x35 ex35 hq => ?_)
                refine lv_iinc (v := x35) (lv' := [(6, .int x35), (0, .ref (ad a0)), (1, .int x1), (3, .int x10), (4, .int x13), (5, .int x14)]) hx hb dX12_looksFor_235 hl (k := 5) rfl (by rw [ex35]; rfl) (by decide) rfl (fun ls hl => ?_)
                refine lv_goto (tgt := 135) hx hb dX12_looksFor_238 (by decide) ?_
                exact ih135 x35 s33 _ _ _ hq hB (lv_sub hl [1, 2, 3, 4, 5, 0] rfl)
              · refine lv_aload_n hx hb dX12_looksFor_153 rfl (lv_at hl 0 rfl) ?_
                refine lv_iload hx hb dX12_looksFor_154 (lv_at hl 5 rfl) ?_
                refine zz_callVi S hT hB (As := [.int x19]) (b := a0) (o := f_X12_isSelected T N s33 a0 x19) (c_X12_isSelected l D cy T hT ad N s33 _ a0 x19) (cwV 1 hts (gV wSub wd_697 wd_698 wd_699 wd_572 wd_700) rfl rfl rfl (by decide +kernel) ⟨Nat.le_of_ble_eq_true rfl, Nat.le_of_ble_eq_true rfl⟩) (F := TX12) (NF := 24) 12 rfl (by decide) (k_X12_isSelected T N s33 a0 x19) rfl hl.1 rfl (Nat.le_of_ble_eq_true rfl) dX12_looksFor_156 hq (fun x37 s36 H locs hq hB => ?_)
                refine zz_if_ne (tgt := 235) hx hb dX12_looksFor_159 (by decide) hq (fun hq => ?_) (fun hq => ?_)
                · refine zz_nmV hq (fun x38 ex38 hq => ?_)
                  refine lv_iinc (v := x38) (lv' := [(6, .int x38), (0, .ref (ad a0)), (1, .int x1), (3, .int x10), (4, .int x13), (5, .int x14)]) hx hb dX12_looksFor_235 hl (k := 5) rfl (by rw [ex38]; rfl) (by decide) rfl (fun ls hl => ?_)
                  refine lv_goto (tgt := 135) hx hb dX12_looksFor_238 (by decide) ?_
                  exact ih135 x38 s36 _ _ _ hq hB (lv_sub hl [1, 2, 3, 4, 5, 0] rfl)
                · refine lv_aload_n hx hb dX12_looksFor_162 rfl (lv_at hl 0 rfl) ?_
                  refine lv_iconst (v := 1) hx hb dX12_looksFor_163 (by decide) ?_
                  refine lv_aload_n hx hb dX12_looksFor_164 rfl (lv_at hl 0 rfl) ?_
                  refine lv_iload hx hb dX12_looksFor_165 (lv_at hl 5 rfl) ?_
                  refine lv_iload_n hx hb dX12_looksFor_167 rfl (lv_at hl 1 rfl) ?_
                  refine zz_callVi S hT hB (As := [.int x19, .int x1]) (b := a0) (o := f_X12_center T N s36 a0 x19 x1) (c_X12_center l D cy T hT ad N s36 _ a0 x19 x1) (cwV 2 hts (gV wSub wd_649 wd_650 wd_651 wd_572 wd_652) rfl rfl rfl (by decide +kernel) ⟨Nat.le_of_ble_eq_true rfl, Nat.le_of_ble_eq_true rfl⟩) (F := TX12) (NF := 24) 12 rfl (by decide) (k_X12_center T N s36 a0 x19 x1) rfl hl.1 rfl (Nat.le_of_ble_eq_true rfl) dX12_looksFor_168 hq (fun x40 s39 H locs hq hB => ?_)
                  refine lv_iload hx hb dX12_looksFor_171 (lv_at hl 4 rfl) ?_
                  refine lv_isub hx hb dX12_looksFor_173 ?_
                  refine zz_callVv S hT hB (As := [.int (1 : Int32), .int (x40 - x14)]) (b := a0) (o := f_X12_aims T N s39 a0 (1 : Int32) (x40 - x14)) (c_X12_aims l D cy T hT ad N s39 _ a0 (1 : Int32) (x40 - x14)) (cwV 2 hts (gV wSub wd_747 wd_748 wd_749 wd_572 wd_750) rfl rfl rfl (by decide +kernel) ⟨Nat.le_of_ble_eq_true rfl, Nat.le_of_ble_eq_true rfl⟩) (F := TX12) (NF := 24) 12 rfl (by decide) (k_X12_aims T N s39 a0 (1 : Int32) (x40 - x14)) rfl hl.1 rfl (Nat.le_of_ble_eq_true rfl) dX12_looksFor_174 hq (fun s41 H locs hq hB => ?_)
                  refine lv_aload_n hx hb dX12_looksFor_177 rfl (lv_at hl 0 rfl) ?_
                  refine lv_iconst (v := 2) hx hb dX12_looksFor_178 (by decide) ?_
                  refine lv_aload_n hx hb dX12_looksFor_179 rfl (lv_at hl 0 rfl) ?_
                  refine lv_iload hx hb dX12_looksFor_180 (lv_at hl 5 rfl) ?_
                  refine lv_iload_n hx hb dX12_looksFor_182 rfl (lv_at hl 1 rfl) ?_
                  refine zz_callVi S hT hB (As := [.int x19, .int x1]) (b := a0) (o := f_X12_begin T N s41 a0 x19 x1) (c_X12_begin l D cy T hT ad N s41 _ a0 x19 x1) (cwV 2 hts (gV wSub wd_645 wd_646 wd_647 wd_572 wd_648) rfl rfl rfl (by decide +kernel) ⟨Nat.le_of_ble_eq_true rfl, Nat.le_of_ble_eq_true rfl⟩) (F := TX12) (NF := 24) 12 rfl (by decide) (k_X12_begin T N s41 a0 x19 x1) rfl hl.1 rfl (Nat.le_of_ble_eq_true rfl) dX12_looksFor_183 hq (fun x43 s42 H locs hq hB => ?_)
                  refine lv_iload_n hx hb dX12_looksFor_186 rfl (lv_at hl 2 rfl) ?_
                  refine lv_isub hx hb dX12_looksFor_187 ?_
                  refine zz_callVv S hT hB (As := [.int (2 : Int32), .int (x43 - x10)]) (b := a0) (o := f_X12_aims T N s42 a0 (2 : Int32) (x43 - x10)) (c_X12_aims l D cy T hT ad N s42 _ a0 (2 : Int32) (x43 - x10)) (cwV 2 hts (gV wSub wd_747 wd_748 wd_749 wd_572 wd_750) rfl rfl rfl (by decide +kernel) ⟨Nat.le_of_ble_eq_true rfl, Nat.le_of_ble_eq_true rfl⟩) (F := TX12) (NF := 24) 12 rfl (by decide) (k_X12_aims T N s42 a0 (2 : Int32) (x43 - x10)) rfl hl.1 rfl (Nat.le_of_ble_eq_true rfl) dX12_looksFor_188 hq (fun s44 H locs hq hB => ?_)
                  refine lv_aload_n hx hb dX12_looksFor_191 rfl (lv_at hl 0 rfl) ?_
                  refine lv_iconst (v := 2) hx hb dX12_looksFor_192 (by decide) ?_
                  refine lv_aload_n hx hb dX12_looksFor_193 rfl (lv_at hl 0 rfl) ?_
                  refine lv_iload hx hb dX12_looksFor_194 (lv_at hl 5 rfl) ?_
                  refine lv_iload_n hx hb dX12_looksFor_196 rfl (lv_at hl 1 rfl) ?_
                  refine zz_callVi S hT hB (As := [.int x19, .int x1]) (b := a0) (o := f_X12_end T N s44 a0 x19 x1) (c_X12_end l D cy T hT ad N s44 _ a0 x19 x1) (cwV 2 hts (gV wSub wd_641 wd_642 wd_643 wd_572 wd_644) rfl rfl rfl (by decide +kernel) ⟨Nat.le_of_ble_eq_true rfl, Nat.le_of_ble_eq_true rfl⟩) (F := TX12) (NF := 24) 12 rfl (by decide) (k_X12_end T N s44 a0 x19 x1) rfl hl.1 rfl (Nat.le_of_ble_eq_true rfl) dX12_looksFor_197 hq (fun x46 s45 H locs hq hB => ?_)
                  refine lv_iload_n hx hb dX12_looksFor_200 rfl (lv_at hl 2 rfl) ?_
                  refine lv_isub hx hb dX12_looksFor_201 ?_
                  refine zz_callVv S hT hB (As := [.int (2 : Int32), .int (x46 - x10)]) (b := a0) (o := f_X12_aims T N s45 a0 (2 : Int32) (x46 - x10)) (c_X12_aims l D cy T hT ad N s45 _ a0 (2 : Int32) (x46 - x10)) (cwV 2 hts (gV wSub wd_747 wd_748 wd_749 wd_572 wd_750) rfl rfl rfl (by decide +kernel) ⟨Nat.le_of_ble_eq_true rfl, Nat.le_of_ble_eq_true rfl⟩) (F := TX12) (NF := 24) 12 rfl (by decide) (k_X12_aims T N s45 a0 (2 : Int32) (x46 - x10)) rfl hl.1 rfl (Nat.le_of_ble_eq_true rfl) dX12_looksFor_202 hq (fun s47 H locs hq hB => ?_)
                  refine lv_aload_n hx hb dX12_looksFor_205 rfl (lv_at hl 0 rfl) ?_
                  refine lv_iconst (v := 2) hx hb dX12_looksFor_206 (by decide) ?_
                  refine lv_aload_n hx hb dX12_looksFor_207 rfl (lv_at hl 0 rfl) ?_
                  refine lv_iload hx hb dX12_looksFor_208 (lv_at hl 5 rfl) ?_
                  refine lv_iload_n hx hb dX12_looksFor_210 rfl (lv_at hl 1 rfl) ?_
                  refine zz_callVi S hT hB (As := [.int x19, .int x1]) (b := a0) (o := f_X12_begin T N s47 a0 x19 x1) (c_X12_begin l D cy T hT ad N s47 _ a0 x19 x1) (cwV 2 hts (gV wSub wd_645 wd_646 wd_647 wd_572 wd_648) rfl rfl rfl (by decide +kernel) ⟨Nat.le_of_ble_eq_true rfl, Nat.le_of_ble_eq_true rfl⟩) (F := TX12) (NF := 24) 12 rfl (by decide) (k_X12_begin T N s47 a0 x19 x1) rfl hl.1 rfl (Nat.le_of_ble_eq_true rfl) dX12_looksFor_211 hq (fun x49 s48 H locs hq hB => ?_)
                  refine lv_iload hx hb dX12_looksFor_214 (lv_at hl 3 rfl) ?_
                  refine lv_isub hx hb dX12_looksFor_216 ?_
                  refine zz_callVv S hT hB (As := [.int (2 : Int32), .int (x49 - x13)]) (b := a0) (o := f_X12_aims T N s48 a0 (2 : Int32) (x49 - x13)) (c_X12_aims l D cy T hT ad N s48 _ a0 (2 : Int32) (x49 - x13)) (cwV 2 hts (gV wSub wd_747 wd_748 wd_749 wd_572 wd_750) rfl rfl rfl (by decide +kernel) ⟨Nat.le_of_ble_eq_true rfl, Nat.le_of_ble_eq_true rfl⟩) (F := TX12) (NF := 24) 12 rfl (by decide) (k_X12_aims T N s48 a0 (2 : Int32) (x49 - x13)) rfl hl.1 rfl (Nat.le_of_ble_eq_true rfl) dX12_looksFor_217 hq (fun s50 H locs hq hB => ?_)
                  refine lv_aload_n hx hb dX12_looksFor_220 rfl (lv_at hl 0 rfl) ?_
                  refine lv_iconst (v := 2) hx hb dX12_looksFor_221 (by decide) ?_
                  refine lv_aload_n hx hb dX12_looksFor_222 rfl (lv_at hl 0 rfl) ?_
                  refine lv_iload hx hb dX12_looksFor_223 (lv_at hl 5 rfl) ?_
                  refine lv_iload_n hx hb dX12_looksFor_225 rfl (lv_at hl 1 rfl) ?_
                  refine zz_callVi S hT hB (As := [.int x19, .int x1]) (b := a0) (o := f_X12_end T N s50 a0 x19 x1) (c_X12_end l D cy T hT ad N s50 _ a0 x19 x1) (cwV 2 hts (gV wSub wd_641 wd_642 wd_643 wd_572 wd_644) rfl rfl rfl (by decide +kernel) ⟨Nat.le_of_ble_eq_true rfl, Nat.le_of_ble_eq_true rfl⟩) (F := TX12) (NF := 24) 12 rfl (by decide) (k_X12_end T N s50 a0 x19 x1) rfl hl.1 rfl (Nat.le_of_ble_eq_true rfl) dX12_looksFor_226 hq (fun x52 s51 H locs hq hB => ?_)
                  refine lv_iload hx hb dX12_looksFor_229 (lv_at hl 3 rfl) ?_
                  refine lv_isub hx hb dX12_looksFor_231 ?_
                  refine zz_callVv S hT hB (As := [.int (2 : Int32), .int (x52 - x13)]) (b := a0) (o := f_X12_aims T N s51 a0 (2 : Int32) (x52 - x13)) (c_X12_aims l D cy T hT ad N s51 _ a0 (2 : Int32) (x52 - x13)) (cwV 2 hts (gV wSub wd_747 wd_748 wd_749 wd_572 wd_750) rfl rfl rfl (by decide +kernel) ⟨Nat.le_of_ble_eq_true rfl, Nat.le_of_ble_eq_true rfl⟩) (F := TX12) (NF := 24) 12 rfl (by decide) (k_X12_aims T N s51 a0 (2 : Int32) (x52 - x13)) rfl hl.1 rfl (Nat.le_of_ble_eq_true rfl) dX12_looksFor_232 hq (fun s53 H locs hq hB => ?_)
                  refine zz_nmV hq (fun x54 ex54 hq => ?_)
                  refine lv_iinc (v := x54) (lv' := [(6, .int x54), (0, .ref (ad a0)), (1, .int x1), (3, .int x10), (4, .int x13), (5, .int x14)]) hx hb dX12_looksFor_235 hl (k := 5) rfl (by rw [ex54]; rfl) (by decide) rfl (fun ls hl => ?_)
                  refine lv_goto (tgt := 135) hx hb dX12_looksFor_238 (by decide) ?_
                  exact ih135 x54 s53 _ _ _ hq hB (lv_sub hl [1, 2, 3, 4, 5, 0] rfl)
        exact L135 N (0 : Int32) s16 _ _ _ hq hB (lv_sub hl [1, 2, 3, 4, 5, 0] rfl)
      · refine lv_aload_n hx hb dX12_looksFor_63 rfl (lv_at hl 0 rfl) ?_
        refine zz_getR S hT hB (C := RX12) (ref := "DiagramDeskModel") (F := TX12) (N := 24) (index := 7) 12 0 iwX12 rfl (by decide) (by decide) rfl rfl (wS wd_569) (fun _ h9 => h9) dX12_looksFor_64 hq (fun a55 hq => ?_)
        refine lv_sipush (v := 310) hx hb dX12_looksFor_67 (by decide) ?_
        refine lv_iconst (v := 2) hx hb dX12_looksFor_70 (by decide) ?_
        refine lv_iload hx hb dX12_looksFor_71 (lv_at hl 5 rfl) ?_
        refine lv_imul hx hb dX12_looksFor_73 ?_
        refine lv_iadd hx hb dX12_looksFor_74 ?_
        refine zz_ald S hT hB dX12_looksFor_75 hq (fun x56 hq => ?_)
        refine lv_iload_n hx hb dX12_looksFor_76 rfl (lv_at hl 1 rfl) ?_
        refine zz_icmp_ne (tgt := 126) hx hb dX12_looksFor_77 (by decide) hq (fun hq => ?_) (fun hq => ?_)
        · refine zz_nmV hq (fun x57 ex57 hq => ?_)
          refine lv_iinc (v := x57) (lv' := [(6, .int x57), (0, .ref (ad a0)), (1, .int x1), (3, .int x10), (4, .int x13), (5, .int x14)]) hx hb dX12_looksFor_126 hl (k := 5) rfl (by rw [ex57]; rfl) (by decide) rfl (fun ls hl => ?_)
          refine lv_goto (tgt := 52) hx hb dX12_looksFor_129 (by decide) ?_
          exact ih52 x57 s16 _ _ _ hq hB (lv_sub hl [1, 2, 3, 4, 5, 0] rfl)
        · refine lv_aload_n hx hb dX12_looksFor_80 rfl (lv_at hl 0 rfl) ?_
          refine zz_getR S hT hB (C := RX12) (ref := "DiagramDeskModel") (F := TX12) (N := 24) (index := 7) 12 0 iwX12 rfl (by decide) (by decide) rfl rfl (wS wd_569) (fun _ h9 => h9) dX12_looksFor_81 hq (fun a58 hq => ?_)
          refine lv_sipush (v := 310) hx hb dX12_looksFor_84 (by decide) ?_
          refine lv_iconst (v := 2) hx hb dX12_looksFor_87 (by decide) ?_
          refine lv_iload hx hb dX12_looksFor_88 (lv_at hl 5 rfl) ?_
          refine lv_imul hx hb dX12_looksFor_90 ?_
          refine lv_iadd hx hb dX12_looksFor_91 ?_
          refine lv_iconst (v := 1) hx hb dX12_looksFor_92 (by decide) ?_
          refine lv_iadd hx hb dX12_looksFor_93 ?_
          refine zz_ald S hT hB dX12_looksFor_94 hq (fun x59 hq => ?_)
          refine lv_istore (lv' := [(7, .int x59), (0, .ref (ad a0)), (1, .int x1), (3, .int x10), (4, .int x13), (5, .int x14), (6, .int x15)]) hx hb dX12_looksFor_95 hl (by decide) rfl (fun ls hl => ?_)
          refine lv_aload_n hx hb dX12_looksFor_97 rfl (lv_at hl 1 rfl) ?_
          refine lv_iconst (v := 0) hx hb dX12_looksFor_98 (by decide) ?_
          refine lv_iload hx hb dX12_looksFor_99 (lv_at hl 0 rfl) ?_
          refine lv_iload_n hx hb dX12_looksFor_101 rfl (lv_at hl 3 rfl) ?_
          refine lv_isub hx hb dX12_looksFor_102 ?_
          refine zz_callVv S hT hB (As := [.int (0 : Int32), .int (x59 - x10)]) (b := a0) (o := f_X12_aims T N s16 a0 (0 : Int32) (x59 - x10)) (c_X12_aims l D cy T hT ad N s16 _ a0 (0 : Int32) (x59 - x10)) (cwV 2 hts (gV wSub wd_747 wd_748 wd_749 wd_572 wd_750) rfl rfl rfl (by decide +kernel) ⟨Nat.le_of_ble_eq_true rfl, Nat.le_of_ble_eq_true rfl⟩) (F := TX12) (NF := 24) 12 rfl (by decide) (k_X12_aims T N s16 a0 (0 : Int32) (x59 - x10)) rfl hl.1 rfl (Nat.le_of_ble_eq_true rfl) dX12_looksFor_103 hq (fun s60 H locs hq hB => ?_)
          refine lv_aload_n hx hb dX12_looksFor_106 rfl (lv_at hl 1 rfl) ?_
          refine lv_iconst (v := 0) hx hb dX12_looksFor_107 (by decide) ?_
          refine lv_iload hx hb dX12_looksFor_108 (lv_at hl 0 rfl) ?_
          refine lv_iload hx hb dX12_looksFor_110 (lv_at hl 5 rfl) ?_
          refine lv_isub hx hb dX12_looksFor_112 ?_
          refine zz_callVv S hT hB (As := [.int (0 : Int32), .int (x59 - x14)]) (b := a0) (o := f_X12_aims T N s60 a0 (0 : Int32) (x59 - x14)) (c_X12_aims l D cy T hT ad N s60 _ a0 (0 : Int32) (x59 - x14)) (cwV 2 hts (gV wSub wd_747 wd_748 wd_749 wd_572 wd_750) rfl rfl rfl (by decide +kernel) ⟨Nat.le_of_ble_eq_true rfl, Nat.le_of_ble_eq_true rfl⟩) (F := TX12) (NF := 24) 12 rfl (by decide) (k_X12_aims T N s60 a0 (0 : Int32) (x59 - x14)) rfl hl.1 rfl (Nat.le_of_ble_eq_true rfl) dX12_looksFor_113 hq (fun s61 H locs hq hB => ?_)
          refine lv_aload_n hx hb dX12_looksFor_116 rfl (lv_at hl 1 rfl) ?_
          refine lv_iconst (v := 0) hx hb dX12_looksFor_117 (by decide) ?_
          refine lv_iload hx hb dX12_looksFor_118 (lv_at hl 0 rfl) ?_
          refine lv_iload hx hb dX12_looksFor_120 (lv_at hl 4 rfl) ?_
          refine lv_isub hx hb dX12_looksFor_122 ?_
          refine zz_callVv S hT hB (As := [.int (0 : Int32), .int (x59 - x13)]) (b := a0) (o := f_X12_aims T N s61 a0 (0 : Int32) (x59 - x13)) (c_X12_aims l D cy T hT ad N s61 _ a0 (0 : Int32) (x59 - x13)) (cwV 2 hts (gV wSub wd_747 wd_748 wd_749 wd_572 wd_750) rfl rfl rfl (by decide +kernel) ⟨Nat.le_of_ble_eq_true rfl, Nat.le_of_ble_eq_true rfl⟩) (F := TX12) (NF := 24) 12 rfl (by decide) (k_X12_aims T N s61 a0 (0 : Int32) (x59 - x13)) rfl hl.1 rfl (Nat.le_of_ble_eq_true rfl) dX12_looksFor_123 hq (fun s62 H locs hq hB => ?_)
          refine zz_nmV hq (fun x63 ex63 hq => ?_)
          refine lv_iinc (v := x63) (lv' := [(6, .int x63), (7, .int x59), (0, .ref (ad a0)), (1, .int x1), (3, .int x10), (4, .int x13), (5, .int x14)]) hx hb dX12_looksFor_126 hl (k := 6) rfl (by rw [ex63]; rfl) (by decide) rfl (fun ls hl => ?_)
          refine lv_goto (tgt := 52) hx hb dX12_looksFor_129 (by decide) ?_
          exact ih52 x63 s62 _ _ _ hq hB (lv_sub hl [2, 3, 4, 5, 6, 0] rfl)
  exact L52 N (0 : Int32) s7 _ _ _ hq hB (lv_sub hl [4, 5, 3, 2, 1, 0] rfl)
def f_X12_drag (T : zT) (N : Nat) (s0 : zS) (a0 : Nat) (x1 : Int32) (x2 : Int32) : Option (Int32 × zS) :=
  zz1 (T.1 a0 = 12) <|
  zb2 (f_X12_isStep T N s0 x1) fun x6 s5 =>
  if x6 = 0 then (
    some ((-1 : Int32), s5))
  else (
    zb2 (f_X12_isStep T N s5 x2) fun x8 s7 =>
    if ¬ x8 = 0 then (
      zb2 (f_X12_chosen T N s7 a0) fun x10 s9 =>
      if ¬ x10 = 0 then (
        (f_X12_looksFor T N s9 a0 (0 : Int32) x1).bind fun s11 =>
        (gI T s11 a0 12 14).bind fun x12 =>
        (gI T s11 a0 12 15).bind fun x13 =>
        zn (x1 + x13) fun x14 =>
        (f_X12_looksFor T N s11 a0 (1 : Int32) x2).bind fun s15 =>
        (gI T s15 a0 12 14).bind fun x16 =>
        zn (x12 + ((10 : Int32) * x16)) fun x17 =>
        (gI T s15 a0 12 15).bind fun x18 =>
        (f_X12_lays T N s15 a0 x14 (x2 + x18)).bind fun s19 =>
        zb2 (f_X12_isInside T N s19 a0) fun x21 s20 =>
        if ¬ x21 = 0 then (
          (f_X12_act T N s20 a0).bind fun s22 =>
          (f_X12_movesAll T N s22 a0).bind fun s23 =>
          some (x17, s23))
        else (
          some ((-4 : Int32), s20)))
      else (
        some ((-2 : Int32), s9)))
    else (
      some ((-1 : Int32), s7)))
theorem k_X12_drag (T : zT) (N : Nat) (s0 : zS) (a0 : Nat) (x1 : Int32) (x2 : Int32) : ∀ q, f_X12_drag T N s0 a0 x1 x2 = some q → T.1 a0 = 12 := by
  intro q h
  unfold f_X12_drag at h
  exact zz_guard h (fun h _ => h)
set_option maxHeartbeats 4000000 in
set_option maxRecDepth 100000 in
theorem c_X12_drag (l : Launch) (D : va_G) (cy : Nat → ClassId) (T : zT) (hT : zok T) (ad : Nat → Nat) (N : Nat) (s0 : zS) (sz : Nat) (a0 : Nat) (x1 : Int32) (x2 : Int32) : ∀ (r0 : Int32) (σ0 : zS), f_X12_drag T N s0 a0 x1 x2 = some (r0, σ0) → Met l yX12_drag wsX12_drag ({ frames := 5, cells := 0, slots := 0, locals := 118 }) (va_Pc [.ref (ad a0), .int x1, .int x2] (zPre D cy T ad s0 sz)) (va_Qi (fun (r2 : Int32) (σ2 : zS) => r2 = r0 ∧ σ2 = σ0) (zAt D cy T ad (zA T ad sz)) (zA T ad sz)) 0 0 (zA T ad sz) := by
  intro r0 σ0 hq
  refine Met.ofW (cc := cX12_drag) (maxL := 5) (ret := (some .int)) (by decide) rfl ?_
  intro p e s m args below meth c s₁ B hml hv
  obtain ⟨hargs, hsz, hP, hK, hD0, hN⟩ := hv
  have hx := B.exec
  have hb := B.bytes
  have hr := B.returns
  have hts := atoms_spec (ws := wsX12_drag) B.pre
  have hown : s.vm.findClass RX12 = some m.cls := findClass_of_methodNamed B.named
  have hlocks := B.notSynchronized
  have S : CallFix p m c cX12_drag 5 s args wsX12_drag RX12 := ⟨hx, hb, hml, hown, hts⟩
  subst hsz
  have hB : zB D cy T ad (zA T ad s.heap.size) s.heap s0 s.heap [] s := zz_entry hP hK hD0 hN
  obtain ⟨ls, hent, hl⟩ := zz_ent m hargs (n := 5) (Nat.le_of_ble_eq_true rfl)
  rw [hent]
  have hl : lv_has ls 5 [(0, .ref (ad a0)), (1, .int x1), (2, .int x2)] := hl
  have iwX12 : ∀ w ∈ u_ws RX12 TX12 24, w ∈ wsX12_drag := fun w h => wS (inWX12 w h)
  unfold f_X12_drag at hq
  refine zz_guard hq (fun hk0 hq => ?_)
  refine lv_iload_n hx hb dX12_drag_0 rfl (lv_at hl 1 rfl) ?_
  refine zz_callSi S hT hB (As := [.int x1]) (o := f_X12_isStep T N s0 x1) (c_X12_isStep l D cy T hT ad N s0 _ x1) (va_cwS 1 hts (gS wSub wd_730 wd_731 wd_572 wd_732) rfl rfl rfl (by decide +kernel) ⟨Nat.le_of_ble_eq_true rfl, Nat.le_of_ble_eq_true rfl⟩) rfl hl.1 rfl (Nat.le_of_ble_eq_true rfl) dX12_drag_1 hq (fun x6 s5 H locs hq hB => ?_)
  refine zz_if_eq (tgt := 14) hx hb dX12_drag_4 (by decide) hq (fun hq => ?_) (fun hq => ?_)
  · refine lv_iconst (v := -1) hx hb dX12_drag_14 (by decide) ?_
    exact zz_iret S hB hr hlocks dX12_drag_15 hq
  · refine lv_iload_n hx hb dX12_drag_7 rfl (lv_at hl 2 rfl) ?_
    refine zz_callSi S hT hB (As := [.int x2]) (o := f_X12_isStep T N s5 x2) (c_X12_isStep l D cy T hT ad N s5 _ x2) (va_cwS 1 hts (gS wSub wd_730 wd_731 wd_572 wd_732) rfl rfl rfl (by decide +kernel) ⟨Nat.le_of_ble_eq_true rfl, Nat.le_of_ble_eq_true rfl⟩) rfl hl.1 rfl (Nat.le_of_ble_eq_true rfl) dX12_drag_8 hq (fun x8 s7 H locs hq hB => ?_)
    refine zz_if_ne (tgt := 16) hx hb dX12_drag_11 (by decide) hq (fun hq => ?_) (fun hq => ?_)
    · refine lv_aload_n hx hb dX12_drag_16 rfl (lv_at hl 0 rfl) ?_
      refine zz_callVi S hT hB (As := []) (b := a0) (o := f_X12_chosen T N s7 a0) (c_X12_chosen l D cy T hT ad N s7 _ a0) (cwV 0 hts (gV wSub wd_701 wd_702 wd_703 wd_572 wd_704) rfl rfl rfl (by decide +kernel) ⟨Nat.le_of_ble_eq_true rfl, Nat.le_of_ble_eq_true rfl⟩) (F := TX12) (NF := 24) 12 rfl (by decide) (k_X12_chosen T N s7 a0) rfl hl.1 rfl (Nat.le_of_ble_eq_true rfl) dX12_drag_17 hq (fun x10 s9 H locs hq hB => ?_)
      refine zz_if_ne (tgt := 26) hx hb dX12_drag_20 (by decide) hq (fun hq => ?_) (fun hq => ?_)
      · refine lv_aload_n hx hb dX12_drag_26 rfl (lv_at hl 0 rfl) ?_
        refine lv_iconst (v := 0) hx hb dX12_drag_27 (by decide) ?_
        refine lv_iload_n hx hb dX12_drag_28 rfl (lv_at hl 1 rfl) ?_
        refine zz_callVv S hT hB (As := [.int (0 : Int32), .int x1]) (b := a0) (o := f_X12_looksFor T N s9 a0 (0 : Int32) x1) (c_X12_looksFor l D cy T hT ad N s9 _ a0 (0 : Int32) x1) (cwV 2 hts (gV wSub wd_751 wd_752 wd_753 wd_572 wd_754) rfl rfl rfl (by decide +kernel) ⟨Nat.le_of_ble_eq_true rfl, Nat.le_of_ble_eq_true rfl⟩) (F := TX12) (NF := 24) 12 rfl (by decide) (k_X12_looksFor T N s9 a0 (0 : Int32) x1) rfl hl.1 rfl (Nat.le_of_ble_eq_true rfl) dX12_drag_29 hq (fun s11 H locs hq hB => ?_)
        refine lv_aload_n hx hb dX12_drag_32 rfl (lv_at hl 0 rfl) ?_
        refine zz_get S hT hB (C := RX12) (ref := "DiagramDeskModel") (F := TX12) (N := 24) (index := 209) 12 14 iwX12 rfl (by decide) (by decide) rfl rfl (wS wd_746) (fun _ h9 => h9) dX12_drag_33 hq (fun x12 hq => ?_)
        refine lv_istore_n (lv' := [(3, .int x12), (0, .ref (ad a0)), (1, .int x1), (2, .int x2)]) hx hb dX12_drag_36 rfl hl (by decide) rfl (fun ls hl => ?_)
        refine lv_iload_n hx hb dX12_drag_37 rfl (lv_at hl 2 rfl) ?_
        refine lv_aload_n hx hb dX12_drag_38 rfl (lv_at hl 1 rfl) ?_
        refine zz_get S hT hB (C := RX12) (ref := "DiagramDeskModel") (F := TX12) (N := 24) (index := 206) 12 15 iwX12 rfl (by decide) (by decide) rfl rfl (wS wd_745) (fun _ h9 => h9) dX12_drag_39 hq (fun x13 hq => ?_)
        refine lv_iadd hx hb dX12_drag_42 ?_
        refine zz_nmI hq (fun x14 hq => ?_)
        refine lv_istore (lv' := [(4, .int x14), (3, .int x12), (0, .ref (ad a0)), (1, .int x1), (2, .int x2)]) hx hb dX12_drag_43 hl (by decide) rfl (fun ls hl => ?_)
        refine lv_aload_n hx hb dX12_drag_45 rfl (lv_at hl 2 rfl) ?_
        refine lv_iconst (v := 1) hx hb dX12_drag_46 (by decide) ?_
        refine lv_iload_n hx hb dX12_drag_47 rfl (lv_at hl 4 rfl) ?_
        refine zz_callVv S hT hB (As := [.int (1 : Int32), .int x2]) (b := a0) (o := f_X12_looksFor T N s11 a0 (1 : Int32) x2) (c_X12_looksFor l D cy T hT ad N s11 _ a0 (1 : Int32) x2) (cwV 2 hts (gV wSub wd_751 wd_752 wd_753 wd_572 wd_754) rfl rfl rfl (by decide +kernel) ⟨Nat.le_of_ble_eq_true rfl, Nat.le_of_ble_eq_true rfl⟩) (F := TX12) (NF := 24) 12 rfl (by decide) (k_X12_looksFor T N s11 a0 (1 : Int32) x2) rfl hl.1 rfl (Nat.le_of_ble_eq_true rfl) dX12_drag_48 hq (fun s15 H locs hq hB => ?_)
        refine lv_iload_n hx hb dX12_drag_51 rfl (lv_at hl 1 rfl) ?_
        refine lv_bipush (v := 10) hx hb dX12_drag_52 (by decide) ?_
        refine lv_aload_n hx hb dX12_drag_54 rfl (lv_at hl 2 rfl) ?_
        refine zz_get S hT hB (C := RX12) (ref := "DiagramDeskModel") (F := TX12) (N := 24) (index := 209) 12 14 iwX12 rfl (by decide) (by decide) rfl rfl (wS wd_746) (fun _ h9 => h9) dX12_drag_55 hq (fun x16 hq => ?_)
        refine lv_imul hx hb dX12_drag_58 ?_
        refine lv_iadd hx hb dX12_drag_59 ?_
        refine zz_nmI hq (fun x17 hq => ?_)
        refine lv_istore_n (lv' := [(3, .int x17), (4, .int x14), (0, .ref (ad a0)), (1, .int x1), (2, .int x2)]) hx hb dX12_drag_60 rfl hl (by decide) rfl (fun ls hl => ?_)
        refine lv_aload_n hx hb dX12_drag_61 rfl (lv_at hl 2 rfl) ?_
        refine lv_iload hx hb dX12_drag_62 (lv_at hl 1 rfl) ?_
        refine lv_iload_n hx hb dX12_drag_64 rfl (lv_at hl 4 rfl) ?_
        refine lv_aload_n hx hb dX12_drag_65 rfl (lv_at hl 2 rfl) ?_
        refine zz_get S hT hB (C := RX12) (ref := "DiagramDeskModel") (F := TX12) (N := 24) (index := 206) 12 15 iwX12 rfl (by decide) (by decide) rfl rfl (wS wd_745) (fun _ h9 => h9) dX12_drag_66 hq (fun x18 hq => ?_)
        refine lv_iadd hx hb dX12_drag_69 ?_
        refine zz_callVv S hT hB (As := [.int x14, .int (x2 + x18)]) (b := a0) (o := f_X12_lays T N s15 a0 x14 (x2 + x18)) (c_X12_lays l D cy T hT ad N s15 _ a0 x14 (x2 + x18)) (cwV 2 hts (gV wSub wd_733 wd_734 wd_735 wd_572 wd_736) rfl rfl rfl (by decide +kernel) ⟨Nat.le_of_ble_eq_true rfl, Nat.le_of_ble_eq_true rfl⟩) (F := TX12) (NF := 24) 12 rfl (by decide) (k_X12_lays T N s15 a0 x14 (x2 + x18)) rfl hl.1 rfl (Nat.le_of_ble_eq_true rfl) dX12_drag_70 hq (fun s19 H locs hq hB => ?_)
        refine lv_aload_n hx hb dX12_drag_73 rfl (lv_at hl 2 rfl) ?_
        refine zz_callVi S hT hB (As := []) (b := a0) (o := f_X12_isInside T N s19 a0) (c_X12_isInside l D cy T hT ad N s19 _ a0) (cwV 0 hts (gV wSub wd_737 wd_738 wd_739 wd_572 wd_740) rfl rfl rfl (by decide +kernel) ⟨Nat.le_of_ble_eq_true rfl, Nat.le_of_ble_eq_true rfl⟩) (F := TX12) (NF := 24) 12 rfl (by decide) (k_X12_isInside T N s19 a0) rfl hl.1 rfl (Nat.le_of_ble_eq_true rfl) dX12_drag_74 hq (fun x21 s20 H locs hq hB => ?_)
        refine zz_if_ne (tgt := 83) hx hb dX12_drag_77 (by decide) hq (fun hq => ?_) (fun hq => ?_)
        · refine lv_aload_n hx hb dX12_drag_83 rfl (lv_at hl 2 rfl) ?_
          refine zz_callVv S hT hB (As := []) (b := a0) (o := f_X12_act T N s20 a0) (c_X12_act l D cy T hT ad N s20 _ a0) (cwV 0 hts (gV wSub wd_604 wd_605 wd_606 wd_572 wd_607) rfl rfl rfl (by decide +kernel) ⟨Nat.le_of_ble_eq_true rfl, Nat.le_of_ble_eq_true rfl⟩) (F := TX12) (NF := 24) 12 rfl (by decide) (k_X12_act T N s20 a0) rfl hl.1 rfl (Nat.le_of_ble_eq_true rfl) dX12_drag_84 hq (fun s22 H locs hq hB => ?_)
          refine lv_aload_n hx hb dX12_drag_87 rfl (lv_at hl 2 rfl) ?_
          refine zz_callVv S hT hB (As := []) (b := a0) (o := f_X12_movesAll T N s22 a0) (c_X12_movesAll l D cy T hT ad N s22 _ a0) (cwV 0 hts (gV wSub wd_741 wd_742 wd_743 wd_572 wd_744) rfl rfl rfl (by decide +kernel) ⟨Nat.le_of_ble_eq_true rfl, Nat.le_of_ble_eq_true rfl⟩) (F := TX12) (NF := 24) 12 rfl (by decide) (k_X12_movesAll T N s22 a0) rfl hl.1 rfl (Nat.le_of_ble_eq_true rfl) dX12_drag_88 hq (fun s23 H locs hq hB => ?_)
          refine lv_iload_n hx hb dX12_drag_91 rfl (lv_at hl 0 rfl) ?_
          exact zz_iret S hB hr hlocks dX12_drag_92 hq
        · refine lv_bipush (v := -4) hx hb dX12_drag_80 (by decide) ?_
          exact zz_iret S hB hr hlocks dX12_drag_82 hq
      · refine lv_bipush (v := -2) hx hb dX12_drag_23 (by decide) ?_
        exact zz_iret S hB hr hlocks dX12_drag_25 hq
    · refine lv_iconst (v := -1) hx hb dX12_drag_14 (by decide) ?_
      exact zz_iret S hB hr hlocks dX12_drag_15 hq
def f_X12_correction (T : zT) (N : Nat) (s0 : zS) (a0 : Nat) (x1 : Int32) (x2 : Int32) (x3 : Int32) : Option (Int32 × zS) :=
  zz1 (T.1 a0 = 12) <|
  zb2 (f_X12_isStep T N s0 x1) fun x7 s6 =>
  if x7 = 0 then (
    some ((-1000000 : Int32), s6))
  else (
    zb2 (f_X12_isStep T N s6 x2) fun x9 s8 =>
    if x9 = 0 then (
      some ((-1000000 : Int32), s8))
    else (
      zb2 (f_X12_in T N s8 x3 (0 : Int32) (1 : Int32)) fun x11 s10 =>
      if x11 = 0 then (
        some ((-1000000 : Int32), s10))
      else (
        zb2 (f_X12_chosen T N s10 a0) fun x13 s12 =>
        if ¬ x13 = 0 then (
          if ¬ x3 = 0 then (
            (f_X12_looksFor T N s12 a0 x3 x2).bind fun s14 =>
            (gI T s14 a0 12 15).bind fun x15 =>
            some (x15, s14))
          else (
            (f_X12_looksFor T N s12 a0 x3 x1).bind fun s16 =>
            (gI T s16 a0 12 15).bind fun x17 =>
            some (x17, s16)))
        else (
          some ((-1000000 : Int32), s12)))))
theorem k_X12_correction (T : zT) (N : Nat) (s0 : zS) (a0 : Nat) (x1 : Int32) (x2 : Int32) (x3 : Int32) : ∀ q, f_X12_correction T N s0 a0 x1 x2 x3 = some q → T.1 a0 = 12 := by
  intro q h
  unfold f_X12_correction at h
  exact zz_guard h (fun h _ => h)
set_option maxHeartbeats 4000000 in
set_option maxRecDepth 100000 in
theorem c_X12_correction (l : Launch) (D : va_G) (cy : Nat → ClassId) (T : zT) (hT : zok T) (ad : Nat → Nat) (N : Nat) (s0 : zS) (sz : Nat) (a0 : Nat) (x1 : Int32) (x2 : Int32) (x3 : Int32) : ∀ (r0 : Int32) (σ0 : zS), f_X12_correction T N s0 a0 x1 x2 x3 = some (r0, σ0) → Met l yX12_correction wsX12_correction ({ frames := 5, cells := 0, slots := 0, locals := 118 }) (va_Pc [.ref (ad a0), .int x1, .int x2, .int x3] (zPre D cy T ad s0 sz)) (va_Qi (fun (r2 : Int32) (σ2 : zS) => r2 = r0 ∧ σ2 = σ0) (zAt D cy T ad (zA T ad sz)) (zA T ad sz)) 0 0 (zA T ad sz) := by
  intro r0 σ0 hq
  refine Met.ofW (cc := cX12_correction) (maxL := 4) (ret := (some .int)) (by decide) rfl ?_
  intro p e s m args below meth c s₁ B hml hv
  obtain ⟨hargs, hsz, hP, hK, hD0, hN⟩ := hv
  have hx := B.exec
  have hb := B.bytes
  have hr := B.returns
  have hts := atoms_spec (ws := wsX12_correction) B.pre
  have hown : s.vm.findClass RX12 = some m.cls := findClass_of_methodNamed B.named
  have hlocks := B.notSynchronized
  have S : CallFix p m c cX12_correction 4 s args wsX12_correction RX12 := ⟨hx, hb, hml, hown, hts⟩
  subst hsz
  have hB : zB D cy T ad (zA T ad s.heap.size) s.heap s0 s.heap [] s := zz_entry hP hK hD0 hN
  obtain ⟨ls, hent, hl⟩ := zz_ent m hargs (n := 4) (Nat.le_of_ble_eq_true rfl)
  rw [hent]
  have hl : lv_has ls 4 [(0, .ref (ad a0)), (1, .int x1), (2, .int x2), (3, .int x3)] := hl
  have iwX12 : ∀ w ∈ u_ws RX12 TX12 24, w ∈ wsX12_correction := fun w h => wS (inWX12 w h)
  unfold f_X12_correction at hq
  refine zz_guard hq (fun hk0 hq => ?_)
  refine lv_iload_n hx hb dX12_correction_0 rfl (lv_at hl 1 rfl) ?_
  refine zz_callSi S hT hB (As := [.int x1]) (o := f_X12_isStep T N s0 x1) (c_X12_isStep l D cy T hT ad N s0 _ x1) (va_cwS 1 hts (gS wSub wd_730 wd_731 wd_572 wd_732) rfl rfl rfl (by decide +kernel) ⟨Nat.le_of_ble_eq_true rfl, Nat.le_of_ble_eq_true rfl⟩) rfl hl.1 rfl (Nat.le_of_ble_eq_true rfl) dX12_correction_1 hq (fun x7 s6 H locs hq hB => ?_)
  refine zz_if_eq (tgt := 30) hx hb dX12_correction_4 (by decide) hq (fun hq => ?_) (fun hq => ?_)
  · refine lv_ldc (v := -1000000) hx hb hown (hts _ (wS wd_636)) dX12_correction_30 ?_
    exact zz_iret S hB hr hlocks dX12_correction_32 hq
  · refine lv_iload_n hx hb dX12_correction_7 rfl (lv_at hl 2 rfl) ?_
    refine zz_callSi S hT hB (As := [.int x2]) (o := f_X12_isStep T N s6 x2) (c_X12_isStep l D cy T hT ad N s6 _ x2) (va_cwS 1 hts (gS wSub wd_730 wd_731 wd_572 wd_732) rfl rfl rfl (by decide +kernel) ⟨Nat.le_of_ble_eq_true rfl, Nat.le_of_ble_eq_true rfl⟩) rfl hl.1 rfl (Nat.le_of_ble_eq_true rfl) dX12_correction_8 hq (fun x9 s8 H locs hq hB => ?_)
    refine zz_if_eq (tgt := 30) hx hb dX12_correction_11 (by decide) hq (fun hq => ?_) (fun hq => ?_)
    · refine lv_ldc (v := -1000000) hx hb hown (hts _ (wS wd_636)) dX12_correction_30 ?_
      exact zz_iret S hB hr hlocks dX12_correction_32 hq
    · refine lv_iload_n hx hb dX12_correction_14 rfl (lv_at hl 3 rfl) ?_
      refine lv_iconst (v := 0) hx hb dX12_correction_15 (by decide) ?_
      refine lv_iconst (v := 1) hx hb dX12_correction_16 (by decide) ?_
      refine zz_callSi S hT hB (As := [.int x3, .int (0 : Int32), .int (1 : Int32)]) (o := f_X12_in T N s8 x3 (0 : Int32) (1 : Int32)) (c_X12_in l D cy T hT ad N s8 _ x3 (0 : Int32) (1 : Int32)) (va_cwS 3 hts (gS wSub wd_570 wd_571 wd_572 wd_573) rfl rfl rfl (by decide +kernel) ⟨Nat.le_of_ble_eq_true rfl, Nat.le_of_ble_eq_true rfl⟩) rfl hl.1 rfl (Nat.le_of_ble_eq_true rfl) dX12_correction_17 hq (fun x11 s10 H locs hq hB => ?_)
      refine zz_if_eq (tgt := 30) hx hb dX12_correction_20 (by decide) hq (fun hq => ?_) (fun hq => ?_)
      · refine lv_ldc (v := -1000000) hx hb hown (hts _ (wS wd_636)) dX12_correction_30 ?_
        exact zz_iret S hB hr hlocks dX12_correction_32 hq
      · refine lv_aload_n hx hb dX12_correction_23 rfl (lv_at hl 0 rfl) ?_
        refine zz_callVi S hT hB (As := []) (b := a0) (o := f_X12_chosen T N s10 a0) (c_X12_chosen l D cy T hT ad N s10 _ a0) (cwV 0 hts (gV wSub wd_701 wd_702 wd_703 wd_572 wd_704) rfl rfl rfl (by decide +kernel) ⟨Nat.le_of_ble_eq_true rfl, Nat.le_of_ble_eq_true rfl⟩) (F := TX12) (NF := 24) 12 rfl (by decide) (k_X12_chosen T N s10 a0) rfl hl.1 rfl (Nat.le_of_ble_eq_true rfl) dX12_correction_24 hq (fun x13 s12 H locs hq hB => ?_)
        refine zz_if_ne (tgt := 33) hx hb dX12_correction_27 (by decide) hq (fun hq => ?_) (fun hq => ?_)
        · refine lv_aload_n hx hb dX12_correction_33 rfl (lv_at hl 0 rfl) ?_
          refine lv_iload_n hx hb dX12_correction_34 rfl (lv_at hl 3 rfl) ?_
          refine lv_iload_n hx hb dX12_correction_35 rfl (lv_at hl 3 rfl) ?_
          refine zz_if_ne (tgt := 43) hx hb dX12_correction_36 (by decide) hq (fun hq => ?_) (fun hq => ?_)
          · refine lv_iload_n hx hb dX12_correction_43 rfl (lv_at hl 2 rfl) ?_
            refine zz_callVv S hT hB (As := [.int x3, .int x2]) (b := a0) (o := f_X12_looksFor T N s12 a0 x3 x2) (c_X12_looksFor l D cy T hT ad N s12 _ a0 x3 x2) (cwV 2 hts (gV wSub wd_751 wd_752 wd_753 wd_572 wd_754) rfl rfl rfl (by decide +kernel) ⟨Nat.le_of_ble_eq_true rfl, Nat.le_of_ble_eq_true rfl⟩) (F := TX12) (NF := 24) 12 rfl (by decide) (k_X12_looksFor T N s12 a0 x3 x2) rfl hl.1 rfl (Nat.le_of_ble_eq_true rfl) dX12_correction_44 hq (fun s14 H locs hq hB => ?_)
            refine lv_aload_n hx hb dX12_correction_47 rfl (lv_at hl 0 rfl) ?_
            refine zz_get S hT hB (C := RX12) (ref := "DiagramDeskModel") (F := TX12) (N := 24) (index := 206) 12 15 iwX12 rfl (by decide) (by decide) rfl rfl (wS wd_745) (fun _ h9 => h9) dX12_correction_48 hq (fun x15 hq => ?_)
            exact zz_iret S hB hr hlocks dX12_correction_51 hq
          · refine lv_iload_n hx hb dX12_correction_39 rfl (lv_at hl 1 rfl) ?_
            refine lv_goto (tgt := 44) hx hb dX12_correction_40 (by decide) ?_
            refine zz_callVv S hT hB (As := [.int x3, .int x1]) (b := a0) (o := f_X12_looksFor T N s12 a0 x3 x1) (c_X12_looksFor l D cy T hT ad N s12 _ a0 x3 x1) (cwV 2 hts (gV wSub wd_751 wd_752 wd_753 wd_572 wd_754) rfl rfl rfl (by decide +kernel) ⟨Nat.le_of_ble_eq_true rfl, Nat.le_of_ble_eq_true rfl⟩) (F := TX12) (NF := 24) 12 rfl (by decide) (k_X12_looksFor T N s12 a0 x3 x1) rfl hl.1 rfl (Nat.le_of_ble_eq_true rfl) dX12_correction_44 hq (fun s16 H locs hq hB => ?_)
            refine lv_aload_n hx hb dX12_correction_47 rfl (lv_at hl 0 rfl) ?_
            refine zz_get S hT hB (C := RX12) (ref := "DiagramDeskModel") (F := TX12) (N := 24) (index := 206) 12 15 iwX12 rfl (by decide) (by decide) rfl rfl (wS wd_745) (fun _ h9 => h9) dX12_correction_48 hq (fun x17 hq => ?_)
            exact zz_iret S hB hr hlocks dX12_correction_51 hq
        · refine lv_ldc (v := -1000000) hx hb hown (hts _ (wS wd_636)) dX12_correction_30 ?_
          exact zz_iret S hB hr hlocks dX12_correction_32 hq
def f_X12_lineOf (T : zT) (N : Nat) (s0 : zS) (a0 : Nat) (x1 : Int32) (x2 : Int32) (x3 : Int32) : Option (Int32 × zS) :=
  zz1 (T.1 a0 = 12) <|
  (gR T s0 a0 12 8).bind fun a6 =>
  (aI T s0 a6 13 (((2 : Int32) * x1) + x2)).bind fun x7 =>
  (gR T s0 a0 12 9).bind fun a8 =>
  (aI T s0 a8 13 (((2 : Int32) * x1) + x2)).bind fun x9 =>
  if ¬ x3 = 0 then (
    if ¬ x3 = (2 : Int32) then (
      some (x7 + ((x9 - x7) / (2 : Int32)), s0))
    else (
      some (x9, s0)))
  else (
    some (x7, s0))
theorem k_X12_lineOf (T : zT) (N : Nat) (s0 : zS) (a0 : Nat) (x1 : Int32) (x2 : Int32) (x3 : Int32) : ∀ q, f_X12_lineOf T N s0 a0 x1 x2 x3 = some q → T.1 a0 = 12 := by
  intro q h
  unfold f_X12_lineOf at h
  exact zz_guard h (fun h _ => h)
set_option maxHeartbeats 4000000 in
set_option maxRecDepth 100000 in
theorem c_X12_lineOf (l : Launch) (D : va_G) (cy : Nat → ClassId) (T : zT) (hT : zok T) (ad : Nat → Nat) (N : Nat) (s0 : zS) (sz : Nat) (a0 : Nat) (x1 : Int32) (x2 : Int32) (x3 : Int32) : ∀ (r0 : Int32) (σ0 : zS), f_X12_lineOf T N s0 a0 x1 x2 x3 = some (r0, σ0) → Met l yX12_lineOf wsX12_lineOf ({ frames := 0, cells := 0, slots := 0, locals := 0 }) (va_Pc [.ref (ad a0), .int x1, .int x2, .int x3] (zPre D cy T ad s0 sz)) (va_Qi (fun (r2 : Int32) (σ2 : zS) => r2 = r0 ∧ σ2 = σ0) (zAt D cy T ad (zA T ad sz)) (zA T ad sz)) 0 0 (zA T ad sz) := by
  intro r0 σ0 hq
  refine Met.ofW (cc := cX12_lineOf) (maxL := 6) (ret := (some .int)) (by decide) rfl ?_
  intro p e s m args below meth c s₁ B hml hv
  obtain ⟨hargs, hsz, hP, hK, hD0, hN⟩ := hv
  have hx := B.exec
  have hb := B.bytes
  have hr := B.returns
  have hts := atoms_spec (ws := wsX12_lineOf) B.pre
  have hown : s.vm.findClass RX12 = some m.cls := findClass_of_methodNamed B.named
  have hlocks := B.notSynchronized
  have S : CallFix p m c cX12_lineOf 6 s args wsX12_lineOf RX12 := ⟨hx, hb, hml, hown, hts⟩
  subst hsz
  have hB : zB D cy T ad (zA T ad s.heap.size) s.heap s0 s.heap [] s := zz_entry hP hK hD0 hN
  obtain ⟨ls, hent, hl⟩ := zz_ent m hargs (n := 6) (Nat.le_of_ble_eq_true rfl)
  rw [hent]
  have hl : lv_has ls 6 [(0, .ref (ad a0)), (1, .int x1), (2, .int x2), (3, .int x3)] := hl
  have iwX12 : ∀ w ∈ u_ws RX12 TX12 24, w ∈ wsX12_lineOf := fun w h => wS (inWX12 w h)
  unfold f_X12_lineOf at hq
  refine zz_guard hq (fun hk0 hq => ?_)
  refine lv_aload_n hx hb dX12_lineOf_0 rfl (lv_at hl 0 rfl) ?_
  refine zz_getR S hT hB (C := RX12) (ref := "DiagramDeskModel") (F := TX12) (N := 24) (index := 28) 12 8 iwX12 rfl (by decide) (by decide) rfl rfl (wS wd_708) (fun _ h9 => h9) dX12_lineOf_1 hq (fun a6 hq => ?_)
  refine lv_iconst (v := 2) hx hb dX12_lineOf_4 (by decide) ?_
  refine lv_iload_n hx hb dX12_lineOf_5 rfl (lv_at hl 1 rfl) ?_
  refine lv_imul hx hb dX12_lineOf_6 ?_
  refine lv_iload_n hx hb dX12_lineOf_7 rfl (lv_at hl 2 rfl) ?_
  refine lv_iadd hx hb dX12_lineOf_8 ?_
  refine zz_ald S hT hB dX12_lineOf_9 hq (fun x7 hq => ?_)
  refine lv_istore (lv' := [(4, .int x7), (0, .ref (ad a0)), (1, .int x1), (2, .int x2), (3, .int x3)]) hx hb dX12_lineOf_10 hl (by decide) rfl (fun ls hl => ?_)
  refine lv_aload_n hx hb dX12_lineOf_12 rfl (lv_at hl 1 rfl) ?_
  refine zz_getR S hT hB (C := RX12) (ref := "DiagramDeskModel") (F := TX12) (N := 24) (index := 31) 12 9 iwX12 rfl (by decide) (by decide) rfl rfl (wS wd_709) (fun _ h9 => h9) dX12_lineOf_13 hq (fun a8 hq => ?_)
  refine lv_iconst (v := 2) hx hb dX12_lineOf_16 (by decide) ?_
  refine lv_iload_n hx hb dX12_lineOf_17 rfl (lv_at hl 2 rfl) ?_
  refine lv_imul hx hb dX12_lineOf_18 ?_
  refine lv_iload_n hx hb dX12_lineOf_19 rfl (lv_at hl 3 rfl) ?_
  refine lv_iadd hx hb dX12_lineOf_20 ?_
  refine zz_ald S hT hB dX12_lineOf_21 hq (fun x9 hq => ?_)
  refine lv_istore (lv' := [(5, .int x9), (4, .int x7), (0, .ref (ad a0)), (1, .int x1), (2, .int x2), (3, .int x3)]) hx hb dX12_lineOf_22 hl (by decide) rfl (fun ls hl => ?_)
  refine lv_iload_n hx hb dX12_lineOf_24 rfl (lv_at hl 5 rfl) ?_
  refine zz_if_ne (tgt := 33) hx hb dX12_lineOf_25 (by decide) hq (fun hq => ?_) (fun hq => ?_)
  · refine lv_iload_n hx hb dX12_lineOf_33 rfl (lv_at hl 5 rfl) ?_
    refine lv_iconst (v := 2) hx hb dX12_lineOf_34 (by decide) ?_
    refine zz_icmp_ne (tgt := 43) hx hb dX12_lineOf_35 (by decide) hq (fun hq => ?_) (fun hq => ?_)
    · refine lv_iload hx hb dX12_lineOf_43 (lv_at hl 1 rfl) ?_
      refine lv_iload hx hb dX12_lineOf_45 (lv_at hl 0 rfl) ?_
      refine lv_iload hx hb dX12_lineOf_47 (lv_at hl 1 rfl) ?_
      refine lv_isub hx hb dX12_lineOf_49 ?_
      refine lv_iconst (v := 2) hx hb dX12_lineOf_50 (by decide) ?_
      refine lv_idiv hx hb dX12_lineOf_51 (by decide) ?_
      refine lv_iadd hx hb dX12_lineOf_52 ?_
      exact zz_iret S hB hr hlocks dX12_lineOf_53 hq
    · refine lv_iload hx hb dX12_lineOf_38 (lv_at hl 0 rfl) ?_
      refine lv_goto (tgt := 53) hx hb dX12_lineOf_40 (by decide) ?_
      exact zz_iret S hB hr hlocks dX12_lineOf_53 hq
  · refine lv_iload hx hb dX12_lineOf_28 (lv_at hl 1 rfl) ?_
    refine lv_goto (tgt := 53) hx hb dX12_lineOf_30 (by decide) ?_
    exact zz_iret S hB hr hlocks dX12_lineOf_53 hq
def f_X12_laysUnit_J45 (T : zT) (N : Nat) (a0 : Nat) (x2 : Int32) (x3 : Int32) (x6 : Int32) (k3 : Int32 → zS → Option zS) (s8 : zS) (a14 : Nat) (x15 : Int32) : Option zS :=
  (sI T s8 a14 x6 x15).bind fun s16 =>
  (gR T s16 a0 12 13).bind fun a17 =>
  if ¬ x2 = (1 : Int32) then (
    (sI T s16 a17 x6 (0 : Int32)).bind fun s18 =>
    zn (x6 + (1 : Int32)) fun x19 =>
    k3 x19 s18)
  else (
    (sI T s16 a17 x6 x3).bind fun s20 =>
    zn (x6 + (1 : Int32)) fun x21 =>
    k3 x21 s20)
def f_X12_laysUnit_L3 (T : zT) (N : Nat) (a0 : Nat) (x1 : Int32) (x2 : Int32) (x3 : Int32) (k3 : Int32 → zS → Option zS) (x6 : Int32) (s7 : zS) : Option zS :=
  if (20 : Int32) ≤ x6 then (
    some s7)
  else (
    zb2 (f_X12_isSelected T N s7 a0 x6) fun x9 s8 =>
    if x9 = 0 then (
      zn (x6 + (1 : Int32)) fun x10 =>
      k3 x10 s8)
    else (
      (gR T s8 a0 12 10).bind fun a11 =>
      (aI T s8 a11 13 x6).bind fun x12 =>
      if ¬ x12 = x1 then (
        zn (x6 + (1 : Int32)) fun x13 =>
        k3 x13 s8)
      else (
        (gR T s8 a0 12 12).bind fun a14 =>
        if ¬ x2 = 0 then (
          f_X12_laysUnit_J45 T N a0 x2 x3 x6 k3 s8 a14 (0 : Int32))
        else (
          f_X12_laysUnit_J45 T N a0 x2 x3 x6 k3 s8 a14 x3))))
def f_X12_laysUnit (T : zT) (N : Nat) (s0 : zS) (a0 : Nat) (x1 : Int32) (x2 : Int32) (x3 : Int32) : Option zS :=
  zz1 (T.1 a0 = 12) <|
  zl2 (f_X12_laysUnit_L3 T N a0 x1 x2 x3) N (0 : Int32) s0
theorem k_X12_laysUnit (T : zT) (N : Nat) (s0 : zS) (a0 : Nat) (x1 : Int32) (x2 : Int32) (x3 : Int32) : ∀ q, f_X12_laysUnit T N s0 a0 x1 x2 x3 = some q → T.1 a0 = 12 := by
  intro q h
  unfold f_X12_laysUnit at h
  exact zz_guard h (fun h _ => h)
set_option maxHeartbeats 4000000 in
set_option maxRecDepth 100000 in
theorem c_X12_laysUnit (l : Launch) (D : va_G) (cy : Nat → ClassId) (T : zT) (hT : zok T) (ad : Nat → Nat) (N : Nat) (s0 : zS) (sz : Nat) (a0 : Nat) (x1 : Int32) (x2 : Int32) (x3 : Int32) : ∀ (σ0 : zS), f_X12_laysUnit T N s0 a0 x1 x2 x3 = some σ0 → Met l yX12_laysUnit wsX12_laysUnit ({ frames := 2, cells := 0, slots := 0, locals := 43 }) (va_Pc [.ref (ad a0), .int x1, .int x2, .int x3] (zPre D cy T ad s0 sz)) (va_Qv (fun σ2 : zS => σ2 = σ0) (zAt D cy T ad (zA T ad sz)) (zA T ad sz)) 0 0 (zA T ad sz) := by
  intro σ0 hq
  refine Met.ofW (cc := cX12_laysUnit) (maxL := 5) (ret := none) (by decide) rfl ?_
  intro p e s m args below meth c s₁ B hml hv
  obtain ⟨hargs, hsz, hP, hK, hD0, hN⟩ := hv
  have hx := B.exec
  have hb := B.bytes
  have hr := B.returns
  have hts := atoms_spec (ws := wsX12_laysUnit) B.pre
  have hown : s.vm.findClass RX12 = some m.cls := findClass_of_methodNamed B.named
  have hlocks := B.notSynchronized
  have S : CallFix p m c cX12_laysUnit 5 s args wsX12_laysUnit RX12 := ⟨hx, hb, hml, hown, hts⟩
  subst hsz
  have hB : zB D cy T ad (zA T ad s.heap.size) s.heap s0 s.heap [] s := zz_entry hP hK hD0 hN
  obtain ⟨ls, hent, hl⟩ := zz_ent m hargs (n := 5) (Nat.le_of_ble_eq_true rfl)
  rw [hent]
  have hl : lv_has ls 5 [(0, .ref (ad a0)), (1, .int x1), (2, .int x2), (3, .int x3)] := hl
  have iwX12 : ∀ w ∈ u_ws RX12 TX12 24, w ∈ wsX12_laysUnit := fun w h => wS (inWX12 w h)
  unfold f_X12_laysUnit at hq
  refine zz_guard hq (fun hk0 hq => ?_)
  refine lv_iconst (v := 0) hx hb dX12_laysUnit_0 (by decide) ?_
  refine lv_istore (lv' := [(4, .int (0 : Int32)), (0, .ref (ad a0)), (1, .int x1), (2, .int x2), (3, .int x3)]) hx hb dX12_laysUnit_1 hl (by decide) rfl (fun ls hl => ?_)
  have L3 : ∀ (n : Nat) (x6 : Int32) (s7 : zS) (H : Heap) (locs : List Loc) (ls : Array Slot), zl2 (f_X12_laysUnit_L3 T N a0 x1 x2 x3) n x6 s7 = some σ0 → zB D cy T ad (zA T ad s.heap.size) s.heap s7 H locs s → lv_has ls 5 [(0, .ref (ad a0)), (1, .int x1), (2, .int x2), (3, .int x3), (4, .int x6)] → W p l e (headSpec wsX12_laysUnit ({ frames := 2, cells := 0, slots := 0, locals := 43 } : Room)).room s m args below meth c H locs 0 0 (MQ below (va_Qv (fun σ2 : zS => σ2 = σ0) (zAt D cy T ad (zA T ad s.heap.size)) (zA T ad s.heap.size)) args s 0 0 (zA T ad s.heap.size)) (F0 m 3 ls []) := by
    intro n
    induction n with
    | zero => intro x6 s7 H locs ls hq; exact zz_none hq
    | succ n ih3 =>
      intro x6 s7 H locs ls hq hB hl
      rw [zl2] at hq
      generalize zl2 (f_X12_laysUnit_L3 T N a0 x1 x2 x3) n = k3 at ih3 hq
      unfold f_X12_laysUnit_L3 at hq
      refine lv_iload hx hb dX12_laysUnit_3 (lv_at hl 4 rfl) ?_
      refine lv_bipush (v := 20) hx hb dX12_laysUnit_5 (by decide) ?_
      refine zz_icmp_ge (tgt := 69) hx hb dX12_laysUnit_7 (by decide) hq (fun hq => ?_) (fun hq => ?_)
      · exact zz_vret S hB hr hlocks dX12_laysUnit_69 hq
      · refine lv_aload_n hx hb dX12_laysUnit_10 rfl (lv_at hl 0 rfl) ?_
        refine lv_iload hx hb dX12_laysUnit_11 (lv_at hl 4 rfl) ?_
        refine zz_callVi S hT hB (As := [.int x6]) (b := a0) (o := f_X12_isSelected T N s7 a0 x6) (c_X12_isSelected l D cy T hT ad N s7 _ a0 x6) (cwV 1 hts (gV wSub wd_697 wd_698 wd_699 wd_572 wd_700) rfl rfl rfl (by decide +kernel) ⟨Nat.le_of_ble_eq_true rfl, Nat.le_of_ble_eq_true rfl⟩) (F := TX12) (NF := 24) 12 rfl (by decide) (k_X12_isSelected T N s7 a0 x6) rfl hl.1 rfl (Nat.le_of_ble_eq_true rfl) dX12_laysUnit_13 hq (fun x9 s8 H locs hq hB => ?_)
        refine zz_if_eq (tgt := 63) hx hb dX12_laysUnit_16 (by decide) hq (fun hq => ?_) (fun hq => ?_)
        · refine zz_nmV hq (fun x10 ex10 hq => ?_)
          refine lv_iinc (v := x10) (lv' := [(4, .int x10), (0, .ref (ad a0)), (1, .int x1), (2, .int x2), (3, .int x3)]) hx hb dX12_laysUnit_63 hl (k := 4) rfl (by rw [ex10]; rfl) (by decide) rfl (fun ls hl => ?_)
          refine lv_goto (tgt := 3) hx hb dX12_laysUnit_66 (by decide) ?_
          exact ih3 x10 s8 _ _ _ hq hB (lv_sub hl [1, 2, 3, 4, 0] rfl)
        · refine lv_aload_n hx hb dX12_laysUnit_19 rfl (lv_at hl 0 rfl) ?_
          refine zz_getR S hT hB (C := RX12) (ref := "DiagramDeskModel") (F := TX12) (N := 24) (index := 34) 12 10 iwX12 rfl (by decide) (by decide) rfl rfl (wS wd_719) (fun _ h9 => h9) dX12_laysUnit_20 hq (fun a11 hq => ?_)
          refine lv_iload hx hb dX12_laysUnit_23 (lv_at hl 4 rfl) ?_
          refine zz_ald S hT hB dX12_laysUnit_25 hq (fun x12 hq => ?_)
          refine lv_iload_n hx hb dX12_laysUnit_26 rfl (lv_at hl 1 rfl) ?_
          refine zz_icmp_ne (tgt := 63) hx hb dX12_laysUnit_27 (by decide) hq (fun hq => ?_) (fun hq => ?_)
          · refine zz_nmV hq (fun x13 ex13 hq => ?_)
            refine lv_iinc (v := x13) (lv' := [(4, .int x13), (0, .ref (ad a0)), (1, .int x1), (2, .int x2), (3, .int x3)]) hx hb dX12_laysUnit_63 hl (k := 4) rfl (by rw [ex13]; rfl) (by decide) rfl (fun ls hl => ?_)
            refine lv_goto (tgt := 3) hx hb dX12_laysUnit_66 (by decide) ?_
            exact ih3 x13 s8 _ _ _ hq hB (lv_sub hl [1, 2, 3, 4, 0] rfl)
          · refine lv_aload_n hx hb dX12_laysUnit_30 rfl (lv_at hl 0 rfl) ?_
            refine zz_getR S hT hB (C := RX12) (ref := "DiagramDeskModel") (F := TX12) (N := 24) (index := 37) 12 12 iwX12 rfl (by decide) (by decide) rfl rfl (wS wd_728) (fun _ h9 => h9) dX12_laysUnit_31 hq (fun a14 hq => ?_)
            refine lv_iload hx hb dX12_laysUnit_34 (lv_at hl 4 rfl) ?_
            refine lv_iload_n hx hb dX12_laysUnit_36 rfl (lv_at hl 2 rfl) ?_
            have J45 : ∀ (x15 : Int32) (H : Heap) (locs : List Loc) (ls : Array Slot), f_X12_laysUnit_J45 T N a0 x2 x3 x6 k3 s8 a14 x15 = some σ0 → zB D cy T ad (zA T ad s.heap.size) s.heap s8 H locs s → lv_has ls 5 [(0, .ref (ad a0)), (1, .int x1), (2, .int x2), (3, .int x3), (4, .int x6)] → W p l e (headSpec wsX12_laysUnit ({ frames := 2, cells := 0, slots := 0, locals := 43 } : Room)).room s m args below meth c H locs 0 0 (MQ below (va_Qv (fun σ2 : zS => σ2 = σ0) (zAt D cy T ad (zA T ad s.heap.size)) (zA T ad s.heap.size)) args s 0 0 (zA T ad s.heap.size)) (F0 m 45 ls [.int x15, .int x6, .ref (ad a14)]) := by
              intro x15 H locs ls hq hB hl
              unfold f_X12_laysUnit_J45 at hq
              refine zz_ast S hT hB dX12_laysUnit_45 hq (fun s16 H locs hq hB => ?_)
              refine lv_aload_n hx hb dX12_laysUnit_46 rfl (lv_at hl 0 rfl) ?_
              refine zz_getR S hT hB (C := RX12) (ref := "DiagramDeskModel") (F := TX12) (N := 24) (index := 40) 12 13 iwX12 rfl (by decide) (by decide) rfl rfl (wS wd_729) (fun _ h9 => h9) dX12_laysUnit_47 hq (fun a17 hq => ?_)
              refine lv_iload hx hb dX12_laysUnit_50 (lv_at hl 4 rfl) ?_
              refine lv_iload_n hx hb dX12_laysUnit_52 rfl (lv_at hl 2 rfl) ?_
              refine lv_iconst (v := 1) hx hb dX12_laysUnit_53 (by decide) ?_
              refine zz_icmp_ne (tgt := 61) hx hb dX12_laysUnit_54 (by decide) hq (fun hq => ?_) (fun hq => ?_)
              · refine lv_iconst (v := 0) hx hb dX12_laysUnit_61 (by decide) ?_
                refine zz_ast S hT hB dX12_laysUnit_62 hq (fun s18 H locs hq hB => ?_)
                refine zz_nmV hq (fun x19 ex19 hq => ?_)
                refine lv_iinc (v := x19) (lv' := [(4, .int x19), (0, .ref (ad a0)), (1, .int x1), (2, .int x2), (3, .int x3)]) hx hb dX12_laysUnit_63 hl (k := 4) rfl (by rw [ex19]; rfl) (by decide) rfl (fun ls hl => ?_)
                refine lv_goto (tgt := 3) hx hb dX12_laysUnit_66 (by decide) ?_
                exact ih3 x19 s18 _ _ _ hq hB (lv_sub hl [1, 2, 3, 4, 0] rfl)
              · refine lv_iload_n hx hb dX12_laysUnit_57 rfl (lv_at hl 3 rfl) ?_
                refine lv_goto (tgt := 62) hx hb dX12_laysUnit_58 (by decide) ?_
                refine zz_ast S hT hB dX12_laysUnit_62 hq (fun s20 H locs hq hB => ?_)
                refine zz_nmV hq (fun x21 ex21 hq => ?_)
                refine lv_iinc (v := x21) (lv' := [(4, .int x21), (0, .ref (ad a0)), (1, .int x1), (2, .int x2), (3, .int x3)]) hx hb dX12_laysUnit_63 hl (k := 4) rfl (by rw [ex21]; rfl) (by decide) rfl (fun ls hl => ?_)
                refine lv_goto (tgt := 3) hx hb dX12_laysUnit_66 (by decide) ?_
                exact ih3 x21 s20 _ _ _ hq hB (lv_sub hl [1, 2, 3, 4, 0] rfl)
            refine zz_if_ne (tgt := 44) hx hb dX12_laysUnit_37 (by decide) hq (fun hq => ?_) (fun hq => ?_)
            · refine lv_iconst (v := 0) hx hb dX12_laysUnit_44 (by decide) ?_
              exact J45 (0 : Int32) _ _ _ hq hB (lv_sub hl [0, 1, 2, 3, 4] rfl)
            · refine lv_iload_n hx hb dX12_laysUnit_40 rfl (lv_at hl 3 rfl) ?_
              refine lv_goto (tgt := 45) hx hb dX12_laysUnit_41 (by decide) ?_
              exact J45 x3 _ _ _ hq hB (lv_sub hl [0, 1, 2, 3, 4] rfl)
  exact L3 N (0 : Int32) s0 _ _ _ hq hB (lv_sub hl [1, 2, 3, 4, 0] rfl)
def f_X12_align_L39 (T : zT) (N : Nat) (a0 : Nat) (x1 : Int32) (x9 : Int32) (k39 : Int32 → Int32 → zS → Option (Int32 × zS)) (x10 : Int32) (x11 : Int32) (s12 : zS) : Option (Int32 × zS) :=
  (gI T s12 a0 12 11).bind fun x13 =>
  if x13 ≤ x11 then (
    zb2 (f_X12_isInside T N s12 a0) fun x15 s14 =>
    if ¬ x15 = 0 then (
      (f_X12_act T N s14 a0).bind fun s16 =>
      (f_X12_movesAll T N s16 a0).bind fun s17 =>
      some (x10, s17))
    else (
      some ((-4 : Int32), s14)))
  else (
    zb2 (f_X12_lineOf T N s12 a0 (20 : Int32) x9 (x1 - x1 / (3 : Int32) * (3 : Int32))) fun x19 s18 =>
    zb2 (f_X12_lineOf T N s18 a0 x11 x9 (x1 - x1 / (3 : Int32) * (3 : Int32))) fun x21 s20 =>
    zn (x19 - x21) fun x22 =>
    (f_X12_laysUnit T N s20 a0 x11 x9 x22).bind fun s23 =>
    if x22 = 0 then (
      zn (x10 + (0 : Int32)) fun x24 =>
      zn (x11 + (1 : Int32)) fun x25 =>
      k39 x24 x25 s23)
    else (
      zn (x10 + (1 : Int32)) fun x26 =>
      zn (x11 + (1 : Int32)) fun x27 =>
      k39 x26 x27 s23))
def f_X12_align (T : zT) (N : Nat) (s0 : zS) (a0 : Nat) (x1 : Int32) : Option (Int32 × zS) :=
  zz1 (T.1 a0 = 12) <|
  zb2 (f_X12_in T N s0 x1 (0 : Int32) (5 : Int32)) fun x5 s4 =>
  if ¬ x5 = 0 then (
    (f_X12_gathers T N s4 a0).bind fun s6 =>
    (gI T s6 a0 12 11).bind fun x7 =>
    if (2 : Int32) ≤ x7 then (
      (f_X12_staysAll T N s6 a0).bind fun s8 =>
      zn (x1 / (3 : Int32)) fun x9 =>
      zl3 (f_X12_align_L39 T N a0 x1 x9) N (0 : Int32) (0 : Int32) s8)
    else (
      some ((-2 : Int32), s6)))
  else (
    some ((-1 : Int32), s4))
theorem k_X12_align (T : zT) (N : Nat) (s0 : zS) (a0 : Nat) (x1 : Int32) : ∀ q, f_X12_align T N s0 a0 x1 = some q → T.1 a0 = 12 := by
  intro q h
  unfold f_X12_align at h
  exact zz_guard h (fun h _ => h)
set_option maxHeartbeats 4000000 in
set_option maxRecDepth 100000 in
theorem c_X12_align (l : Launch) (D : va_G) (cy : Nat → ClassId) (T : zT) (hT : zok T) (ad : Nat → Nat) (N : Nat) (s0 : zS) (sz : Nat) (a0 : Nat) (x1 : Int32) : ∀ (r0 : Int32) (σ0 : zS), f_X12_align T N s0 a0 x1 = some (r0, σ0) → Met l yX12_align wsX12_align ({ frames := 4, cells := 0, slots := 0, locals := 91 }) (va_Pc [.ref (ad a0), .int x1] (zPre D cy T ad s0 sz)) (va_Qi (fun (r2 : Int32) (σ2 : zS) => r2 = r0 ∧ σ2 = σ0) (zAt D cy T ad (zA T ad sz)) (zA T ad sz)) 0 0 (zA T ad sz) := by
  intro r0 σ0 hq
  refine Met.ofW (cc := cX12_align) (maxL := 6) (ret := (some .int)) (by decide) rfl ?_
  intro p e s m args below meth c s₁ B hml hv
  obtain ⟨hargs, hsz, hP, hK, hD0, hN⟩ := hv
  have hx := B.exec
  have hb := B.bytes
  have hr := B.returns
  have hts := atoms_spec (ws := wsX12_align) B.pre
  have hown : s.vm.findClass RX12 = some m.cls := findClass_of_methodNamed B.named
  have hlocks := B.notSynchronized
  have S : CallFix p m c cX12_align 6 s args wsX12_align RX12 := ⟨hx, hb, hml, hown, hts⟩
  subst hsz
  have hB : zB D cy T ad (zA T ad s.heap.size) s.heap s0 s.heap [] s := zz_entry hP hK hD0 hN
  obtain ⟨ls, hent, hl⟩ := zz_ent m hargs (n := 6) (Nat.le_of_ble_eq_true rfl)
  rw [hent]
  have hl : lv_has ls 6 [(0, .ref (ad a0)), (1, .int x1)] := hl
  have iwX12 : ∀ w ∈ u_ws RX12 TX12 24, w ∈ wsX12_align := fun w h => wS (inWX12 w h)
  unfold f_X12_align at hq
  refine zz_guard hq (fun hk0 hq => ?_)
  refine lv_iload_n hx hb dX12_align_0 rfl (lv_at hl 1 rfl) ?_
  refine lv_iconst (v := 0) hx hb dX12_align_1 (by decide) ?_
  refine lv_iconst (v := 5) hx hb dX12_align_2 (by decide) ?_
  refine zz_callSi S hT hB (As := [.int x1, .int (0 : Int32), .int (5 : Int32)]) (o := f_X12_in T N s0 x1 (0 : Int32) (5 : Int32)) (c_X12_in l D cy T hT ad N s0 _ x1 (0 : Int32) (5 : Int32)) (va_cwS 3 hts (gS wSub wd_570 wd_571 wd_572 wd_573) rfl rfl rfl (by decide +kernel) ⟨Nat.le_of_ble_eq_true rfl, Nat.le_of_ble_eq_true rfl⟩) rfl hl.1 rfl (Nat.le_of_ble_eq_true rfl) dX12_align_3 hq (fun x5 s4 H locs hq hB => ?_)
  refine zz_if_ne (tgt := 11) hx hb dX12_align_6 (by decide) hq (fun hq => ?_) (fun hq => ?_)
  · refine lv_aload_n hx hb dX12_align_11 rfl (lv_at hl 0 rfl) ?_
    refine zz_callVv S hT hB (As := []) (b := a0) (o := f_X12_gathers T N s4 a0) (c_X12_gathers l D cy T hT ad N s4 _ a0) (cwV 0 hts (gV wSub wd_724 wd_725 wd_726 wd_572 wd_727) rfl rfl rfl (by decide +kernel) ⟨Nat.le_of_ble_eq_true rfl, Nat.le_of_ble_eq_true rfl⟩) (F := TX12) (NF := 24) 12 rfl (by decide) (k_X12_gathers T N s4 a0) rfl hl.1 rfl (Nat.le_of_ble_eq_true rfl) dX12_align_12 hq (fun s6 H locs hq hB => ?_)
    refine lv_aload_n hx hb dX12_align_15 rfl (lv_at hl 0 rfl) ?_
    refine zz_get S hT hB (C := RX12) (ref := "DiagramDeskModel") (F := TX12) (N := 24) (index := 181) 12 11 iwX12 rfl (by decide) (by decide) rfl rfl (wS wd_712) (fun _ h9 => h9) dX12_align_16 hq (fun x7 hq => ?_)
    refine lv_iconst (v := 2) hx hb dX12_align_19 (by decide) ?_
    refine zz_icmp_ge (tgt := 26) hx hb dX12_align_20 (by decide) hq (fun hq => ?_) (fun hq => ?_)
    · refine lv_aload_n hx hb dX12_align_26 rfl (lv_at hl 0 rfl) ?_
      refine zz_callVv S hT hB (As := []) (b := a0) (o := f_X12_staysAll T N s6 a0) (c_X12_staysAll l D cy T hT ad N s6 _ a0) (cwV 0 hts (gV wSub wd_755 wd_756 wd_757 wd_572 wd_758) rfl rfl rfl (by decide +kernel) ⟨Nat.le_of_ble_eq_true rfl, Nat.le_of_ble_eq_true rfl⟩) (F := TX12) (NF := 24) 12 rfl (by decide) (k_X12_staysAll T N s6 a0) rfl hl.1 rfl (Nat.le_of_ble_eq_true rfl) dX12_align_27 hq (fun s8 H locs hq hB => ?_)
      refine lv_iconst (v := 0) hx hb dX12_align_30 (by decide) ?_
      refine lv_istore_n (lv' := [(2, .int (0 : Int32)), (0, .ref (ad a0)), (1, .int x1)]) hx hb dX12_align_31 rfl hl (by decide) rfl (fun ls hl => ?_)
      refine lv_iload_n hx hb dX12_align_32 rfl (lv_at hl 2 rfl) ?_
      refine lv_iconst (v := 3) hx hb dX12_align_33 (by decide) ?_
      refine lv_idiv hx hb dX12_align_34 (by decide) ?_
      refine zz_nmI hq (fun x9 hq => ?_)
      refine lv_istore_n (lv' := [(3, .int x9), (2, .int (0 : Int32)), (0, .ref (ad a0)), (1, .int x1)]) hx hb dX12_align_35 rfl hl (by decide) rfl (fun ls hl => ?_)
      refine lv_iconst (v := 0) hx hb dX12_align_36 (by decide) ?_
      refine lv_istore (lv' := [(4, .int (0 : Int32)), (3, .int x9), (2, .int (0 : Int32)), (0, .ref (ad a0)), (1, .int x1)]) hx hb dX12_align_37 hl (by decide) rfl (fun ls hl => ?_)
      have L39 : ∀ (n : Nat) (x10 : Int32) (x11 : Int32) (s12 : zS) (H : Heap) (locs : List Loc) (ls : Array Slot), zl3 (f_X12_align_L39 T N a0 x1 x9) n x10 x11 s12 = some (r0, σ0) → zB D cy T ad (zA T ad s.heap.size) s.heap s12 H locs s → lv_has ls 6 [(0, .ref (ad a0)), (1, .int x1), (2, .int x10), (3, .int x9), (4, .int x11)] → W p l e (headSpec wsX12_align ({ frames := 4, cells := 0, slots := 0, locals := 91 } : Room)).room s m args below meth c H locs 0 0 (MQ below (va_Qi (fun (r2 : Int32) (σ2 : zS) => r2 = r0 ∧ σ2 = σ0) (zAt D cy T ad (zA T ad s.heap.size)) (zA T ad s.heap.size)) args s 0 0 (zA T ad s.heap.size)) (F0 m 39 ls []) := by
        intro n
        induction n with
        | zero => intro x10 x11 s12 H locs ls hq; exact zz_none hq
        | succ n ih39 =>
          intro x10 x11 s12 H locs ls hq hB hl
          rw [zl3] at hq
          generalize zl3 (f_X12_align_L39 T N a0 x1 x9) n = k39 at ih39 hq
          unfold f_X12_align_L39 at hq
          refine lv_iload hx hb dX12_align_39 (lv_at hl 4 rfl) ?_
          refine lv_aload_n hx hb dX12_align_41 rfl (lv_at hl 0 rfl) ?_
          refine zz_get S hT hB (C := RX12) (ref := "DiagramDeskModel") (F := TX12) (N := 24) (index := 181) 12 11 iwX12 rfl (by decide) (by decide) rfl rfl (wS wd_712) (fun _ h9 => h9) dX12_align_42 hq (fun x13 hq => ?_)
          refine zz_icmp_ge (tgt := 99) hx hb dX12_align_45 (by decide) hq (fun hq => ?_) (fun hq => ?_)
          · refine lv_aload_n hx hb dX12_align_99 rfl (lv_at hl 0 rfl) ?_
            refine zz_callVi S hT hB (As := []) (b := a0) (o := f_X12_isInside T N s12 a0) (c_X12_isInside l D cy T hT ad N s12 _ a0) (cwV 0 hts (gV wSub wd_737 wd_738 wd_739 wd_572 wd_740) rfl rfl rfl (by decide +kernel) ⟨Nat.le_of_ble_eq_true rfl, Nat.le_of_ble_eq_true rfl⟩) (F := TX12) (NF := 24) 12 rfl (by decide) (k_X12_isInside T N s12 a0) rfl hl.1 rfl (Nat.le_of_ble_eq_true rfl) dX12_align_100 hq (fun x15 s14 H locs hq hB => ?_)
            refine zz_if_ne (tgt := 109) hx hb dX12_align_103 (by decide) hq (fun hq => ?_) (fun hq => ?_)
            · refine lv_aload_n hx hb dX12_align_109 rfl (lv_at hl 0 rfl) ?_
              refine zz_callVv S hT hB (As := []) (b := a0) (o := f_X12_act T N s14 a0) (c_X12_act l D cy T hT ad N s14 _ a0) (cwV 0 hts (gV wSub wd_604 wd_605 wd_606 wd_572 wd_607) rfl rfl rfl (by decide +kernel) ⟨Nat.le_of_ble_eq_true rfl, Nat.le_of_ble_eq_true rfl⟩) (F := TX12) (NF := 24) 12 rfl (by decide) (k_X12_act T N s14 a0) rfl hl.1 rfl (Nat.le_of_ble_eq_true rfl) dX12_align_110 hq (fun s16 H locs hq hB => ?_)
              refine lv_aload_n hx hb dX12_align_113 rfl (lv_at hl 0 rfl) ?_
              refine zz_callVv S hT hB (As := []) (b := a0) (o := f_X12_movesAll T N s16 a0) (c_X12_movesAll l D cy T hT ad N s16 _ a0) (cwV 0 hts (gV wSub wd_741 wd_742 wd_743 wd_572 wd_744) rfl rfl rfl (by decide +kernel) ⟨Nat.le_of_ble_eq_true rfl, Nat.le_of_ble_eq_true rfl⟩) (F := TX12) (NF := 24) 12 rfl (by decide) (k_X12_movesAll T N s16 a0) rfl hl.1 rfl (Nat.le_of_ble_eq_true rfl) dX12_align_114 hq (fun s17 H locs hq hB => ?_)
              refine lv_iload_n hx hb dX12_align_117 rfl (lv_at hl 2 rfl) ?_
              exact zz_iret S hB hr hlocks dX12_align_118 hq
            · refine lv_bipush (v := -4) hx hb dX12_align_106 (by decide) ?_
              exact zz_iret S hB hr hlocks dX12_align_108 hq
          · refine lv_aload_n hx hb dX12_align_48 rfl (lv_at hl 0 rfl) ?_
            refine lv_bipush (v := 20) hx hb dX12_align_49 (by decide) ?_
            refine lv_iload_n hx hb dX12_align_51 rfl (lv_at hl 3 rfl) ?_
            refine lv_iload_n hx hb dX12_align_52 rfl (lv_at hl 1 rfl) ?_
            refine lv_iconst (v := 3) hx hb dX12_align_53 (by decide) ?_
            refine lv_irem hx hb dX12_align_54 (by decide) ?_
            refine zz_callVi S hT hB (As := [.int (20 : Int32), .int x9, .int (x1 - x1 / (3 : Int32) * (3 : Int32))]) (b := a0) (o := f_X12_lineOf T N s12 a0 (20 : Int32) x9 (x1 - x1 / (3 : Int32) * (3 : Int32))) (c_X12_lineOf l D cy T hT ad N s12 _ a0 (20 : Int32) x9 (x1 - x1 / (3 : Int32) * (3 : Int32))) (cwV 3 hts (gV wSub wd_759 wd_760 wd_761 wd_572 wd_762) rfl rfl rfl (by decide +kernel) ⟨Nat.le_of_ble_eq_true rfl, Nat.le_of_ble_eq_true rfl⟩) (F := TX12) (NF := 24) 12 rfl (by decide) (k_X12_lineOf T N s12 a0 (20 : Int32) x9 (x1 - x1 / (3 : Int32) * (3 : Int32))) rfl hl.1 rfl (Nat.le_of_ble_eq_true rfl) dX12_align_55 hq (fun x19 s18 H locs hq hB => ?_)
            refine lv_aload_n hx hb dX12_align_58 rfl (lv_at hl 0 rfl) ?_
            refine lv_iload hx hb dX12_align_59 (lv_at hl 4 rfl) ?_
            refine lv_iload_n hx hb dX12_align_61 rfl (lv_at hl 3 rfl) ?_
            refine lv_iload_n hx hb dX12_align_62 rfl (lv_at hl 1 rfl) ?_
            refine lv_iconst (v := 3) hx hb dX12_align_63 (by decide) ?_
            refine lv_irem hx hb dX12_align_64 (by decide) ?_
            refine zz_callVi S hT hB (As := [.int x11, .int x9, .int (x1 - x1 / (3 : Int32) * (3 : Int32))]) (b := a0) (o := f_X12_lineOf T N s18 a0 x11 x9 (x1 - x1 / (3 : Int32) * (3 : Int32))) (c_X12_lineOf l D cy T hT ad N s18 _ a0 x11 x9 (x1 - x1 / (3 : Int32) * (3 : Int32))) (cwV 3 hts (gV wSub wd_759 wd_760 wd_761 wd_572 wd_762) rfl rfl rfl (by decide +kernel) ⟨Nat.le_of_ble_eq_true rfl, Nat.le_of_ble_eq_true rfl⟩) (F := TX12) (NF := 24) 12 rfl (by decide) (k_X12_lineOf T N s18 a0 x11 x9 (x1 - x1 / (3 : Int32) * (3 : Int32))) rfl hl.1 rfl (Nat.le_of_ble_eq_true rfl) dX12_align_65 hq (fun x21 s20 H locs hq hB => ?_)
            refine lv_isub hx hb dX12_align_68 ?_
            refine zz_nmI hq (fun x22 hq => ?_)
            refine lv_istore (lv' := [(5, .int x22), (0, .ref (ad a0)), (1, .int x1), (2, .int x10), (3, .int x9), (4, .int x11)]) hx hb dX12_align_69 hl (by decide) rfl (fun ls hl => ?_)
            refine lv_aload_n hx hb dX12_align_71 rfl (lv_at hl 1 rfl) ?_
            refine lv_iload hx hb dX12_align_72 (lv_at hl 5 rfl) ?_
            refine lv_iload_n hx hb dX12_align_74 rfl (lv_at hl 4 rfl) ?_
            refine lv_iload hx hb dX12_align_75 (lv_at hl 0 rfl) ?_
            refine zz_callVv S hT hB (As := [.int x11, .int x9, .int x22]) (b := a0) (o := f_X12_laysUnit T N s20 a0 x11 x9 x22) (c_X12_laysUnit l D cy T hT ad N s20 _ a0 x11 x9 x22) (cwV 3 hts (gV wSub wd_763 wd_764 wd_765 wd_572 wd_766) rfl rfl rfl (by decide +kernel) ⟨Nat.le_of_ble_eq_true rfl, Nat.le_of_ble_eq_true rfl⟩) (F := TX12) (NF := 24) 12 rfl (by decide) (k_X12_laysUnit T N s20 a0 x11 x9 x22) rfl hl.1 rfl (Nat.le_of_ble_eq_true rfl) dX12_align_77 hq (fun s23 H locs hq hB => ?_)
            refine lv_iload_n hx hb dX12_align_80 rfl (lv_at hl 3 rfl) ?_
            refine lv_iload hx hb dX12_align_81 (lv_at hl 0 rfl) ?_
            refine zz_if_eq (tgt := 90) hx hb dX12_align_83 (by decide) hq (fun hq => ?_) (fun hq => ?_)
            · refine lv_iconst (v := 0) hx hb dX12_align_90 (by decide) ?_
              refine lv_iadd hx hb dX12_align_91 ?_
              refine zz_nmI hq (fun x24 hq => ?_)
              refine lv_istore_n (lv' := [(2, .int x24), (5, .int x22), (0, .ref (ad a0)), (1, .int x1), (3, .int x9), (4, .int x11)]) hx hb dX12_align_92 rfl hl (by decide) rfl (fun ls hl => ?_)
              refine zz_nmV hq (fun x25 ex25 hq => ?_)
              refine lv_iinc (v := x25) (lv' := [(4, .int x25), (2, .int x24), (5, .int x22), (0, .ref (ad a0)), (1, .int x1), (3, .int x9)]) hx hb dX12_align_93 hl (k := 5) rfl (by rw [ex25]; rfl) (by decide) rfl (fun ls hl => ?_)
              refine lv_goto (tgt := 39) hx hb dX12_align_96 (by decide) ?_
              exact ih39 x24 x25 s23 _ _ _ hq hB (lv_sub hl [3, 4, 1, 5, 0] rfl)
            · refine lv_iconst (v := 1) hx hb dX12_align_86 (by decide) ?_
              refine lv_goto (tgt := 91) hx hb dX12_align_87 (by decide) ?_
              refine lv_iadd hx hb dX12_align_91 ?_
              refine zz_nmI hq (fun x26 hq => ?_)
              refine lv_istore_n (lv' := [(2, .int x26), (5, .int x22), (0, .ref (ad a0)), (1, .int x1), (3, .int x9), (4, .int x11)]) hx hb dX12_align_92 rfl hl (by decide) rfl (fun ls hl => ?_)
              refine zz_nmV hq (fun x27 ex27 hq => ?_)
              refine lv_iinc (v := x27) (lv' := [(4, .int x27), (2, .int x26), (5, .int x22), (0, .ref (ad a0)), (1, .int x1), (3, .int x9)]) hx hb dX12_align_93 hl (k := 5) rfl (by rw [ex27]; rfl) (by decide) rfl (fun ls hl => ?_)
              refine lv_goto (tgt := 39) hx hb dX12_align_96 (by decide) ?_
              exact ih39 x26 x27 s23 _ _ _ hq hB (lv_sub hl [3, 4, 1, 5, 0] rfl)
      exact L39 N (0 : Int32) (0 : Int32) s8 _ _ _ hq hB (lv_sub hl [3, 4, 2, 1, 0] rfl)
    · refine lv_bipush (v := -2) hx hb dX12_align_23 (by decide) ?_
      exact zz_iret S hB hr hlocks dX12_align_25 hq
  · refine lv_iconst (v := -1) hx hb dX12_align_9 (by decide) ?_
    exact zz_iret S hB hr hlocks dX12_align_10 hq
def f_X12_sorts_L12 (T : zT) (N : Nat) (a0 : Nat) (x1 : Int32) (x4 : Int32) (k2 : Int32 → zS → Option zS) (k12 : Int32 → zS → Option zS) (x7 : Int32) (s8 : zS) : Option zS :=
  if x7 ≤ 0 then (
    (gR T s8 a0 12 16).bind fun a9 =>
    (sI T s8 a9 x7 x4).bind fun s10 =>
    zn (x4 + (1 : Int32)) fun x11 =>
    k2 x11 s10)
  else (
    (gR T s8 a0 12 8).bind fun a12 =>
    (gR T s8 a0 12 16).bind fun a13 =>
    (aI T s8 a13 13 (x7 - (1 : Int32))).bind fun x14 =>
    (aI T s8 a12 13 (((2 : Int32) * x14) + x1)).bind fun x15 =>
    (gR T s8 a0 12 8).bind fun a16 =>
    (aI T s8 a16 13 (((2 : Int32) * x4) + x1)).bind fun x17 =>
    if x15 ≤ x17 then (
      (gR T s8 a0 12 16).bind fun a18 =>
      (sI T s8 a18 x7 x4).bind fun s19 =>
      zn (x4 + (1 : Int32)) fun x20 =>
      k2 x20 s19)
    else (
      (gR T s8 a0 12 16).bind fun a21 =>
      (gR T s8 a0 12 16).bind fun a22 =>
      (aI T s8 a22 13 (x7 - (1 : Int32))).bind fun x23 =>
      (sI T s8 a21 x7 x23).bind fun s24 =>
      zn (x7 + (-1 : Int32)) fun x25 =>
      k12 x25 s24))
def f_X12_sorts_L2 (T : zT) (N : Nat) (a0 : Nat) (x1 : Int32) (k2 : Int32 → zS → Option zS) (x4 : Int32) (s5 : zS) : Option zS :=
  (gI T s5 a0 12 11).bind fun x6 =>
  if x6 ≤ x4 then (
    some s5)
  else (
    zl2 (f_X12_sorts_L12 T N a0 x1 x4 k2) N x4 s5)
def f_X12_sorts (T : zT) (N : Nat) (s0 : zS) (a0 : Nat) (x1 : Int32) : Option zS :=
  zz1 (T.1 a0 = 12) <|
  zl2 (f_X12_sorts_L2 T N a0 x1) N (0 : Int32) s0
theorem k_X12_sorts (T : zT) (N : Nat) (s0 : zS) (a0 : Nat) (x1 : Int32) : ∀ q, f_X12_sorts T N s0 a0 x1 = some q → T.1 a0 = 12 := by
  intro q h
  unfold f_X12_sorts at h
  exact zz_guard h (fun h _ => h)
set_option maxHeartbeats 4000000 in
set_option maxRecDepth 100000 in
theorem c_X12_sorts (l : Launch) (D : va_G) (cy : Nat → ClassId) (T : zT) (hT : zok T) (ad : Nat → Nat) (N : Nat) (s0 : zS) (sz : Nat) (a0 : Nat) (x1 : Int32) : ∀ (σ0 : zS), f_X12_sorts T N s0 a0 x1 = some σ0 → Met l yX12_sorts wsX12_sorts ({ frames := 0, cells := 0, slots := 0, locals := 0 }) (va_Pc [.ref (ad a0), .int x1] (zPre D cy T ad s0 sz)) (va_Qv (fun σ2 : zS => σ2 = σ0) (zAt D cy T ad (zA T ad sz)) (zA T ad sz)) 0 0 (zA T ad sz) := by
  intro σ0 hq
  refine Met.ofW (cc := cX12_sorts) (maxL := 4) (ret := none) (by decide) rfl ?_
  intro p e s m args below meth c s₁ B hml hv
  obtain ⟨hargs, hsz, hP, hK, hD0, hN⟩ := hv
  have hx := B.exec
  have hb := B.bytes
  have hr := B.returns
  have hts := atoms_spec (ws := wsX12_sorts) B.pre
  have hown : s.vm.findClass RX12 = some m.cls := findClass_of_methodNamed B.named
  have hlocks := B.notSynchronized
  have S : CallFix p m c cX12_sorts 4 s args wsX12_sorts RX12 := ⟨hx, hb, hml, hown, hts⟩
  subst hsz
  have hB : zB D cy T ad (zA T ad s.heap.size) s.heap s0 s.heap [] s := zz_entry hP hK hD0 hN
  obtain ⟨ls, hent, hl⟩ := zz_ent m hargs (n := 4) (Nat.le_of_ble_eq_true rfl)
  rw [hent]
  have hl : lv_has ls 4 [(0, .ref (ad a0)), (1, .int x1)] := hl
  have iwX12 : ∀ w ∈ u_ws RX12 TX12 24, w ∈ wsX12_sorts := fun w h => wS (inWX12 w h)
  unfold f_X12_sorts at hq
  refine zz_guard hq (fun hk0 hq => ?_)
  refine lv_iconst (v := 0) hx hb dX12_sorts_0 (by decide) ?_
  refine lv_istore_n (lv' := [(2, .int (0 : Int32)), (0, .ref (ad a0)), (1, .int x1)]) hx hb dX12_sorts_1 rfl hl (by decide) rfl (fun ls hl => ?_)
  have L2 : ∀ (n : Nat) (x4 : Int32) (s5 : zS) (H : Heap) (locs : List Loc) (ls : Array Slot), zl2 (f_X12_sorts_L2 T N a0 x1) n x4 s5 = some σ0 → zB D cy T ad (zA T ad s.heap.size) s.heap s5 H locs s → lv_has ls 4 [(0, .ref (ad a0)), (1, .int x1), (2, .int x4)] → W p l e (headSpec wsX12_sorts ({ frames := 0, cells := 0, slots := 0, locals := 0 } : Room)).room s m args below meth c H locs 0 0 (MQ below (va_Qv (fun σ2 : zS => σ2 = σ0) (zAt D cy T ad (zA T ad s.heap.size)) (zA T ad s.heap.size)) args s 0 0 (zA T ad s.heap.size)) (F0 m 2 ls []) := by
    intro n
    induction n with
    | zero => intro x4 s5 H locs ls hq; exact zz_none hq
    | succ n ih2 =>
      intro x4 s5 H locs ls hq hB hl
      rw [zl2] at hq
      generalize zl2 (f_X12_sorts_L2 T N a0 x1) n = k2 at ih2 hq
      unfold f_X12_sorts_L2 at hq
      refine lv_iload_n hx hb dX12_sorts_2 rfl (lv_at hl 2 rfl) ?_
      refine lv_aload_n hx hb dX12_sorts_3 rfl (lv_at hl 0 rfl) ?_
      refine zz_get S hT hB (C := RX12) (ref := "DiagramDeskModel") (F := TX12) (N := 24) (index := 181) 12 11 iwX12 rfl (by decide) (by decide) rfl rfl (wS wd_712) (fun _ h9 => h9) dX12_sorts_4 hq (fun x6 hq => ?_)
      refine zz_icmp_ge (tgt := 79) hx hb dX12_sorts_7 (by decide) hq (fun hq => ?_) (fun hq => ?_)
      · exact zz_vret S hB hr hlocks dX12_sorts_79 hq
      · refine lv_iload_n hx hb dX12_sorts_10 rfl (lv_at hl 2 rfl) ?_
        refine lv_istore_n (lv' := [(3, .int x4), (0, .ref (ad a0)), (1, .int x1), (2, .int x4)]) hx hb dX12_sorts_11 rfl hl (by decide) rfl (fun ls hl => ?_)
        have L12 : ∀ (n : Nat) (x7 : Int32) (s8 : zS) (H : Heap) (locs : List Loc) (ls : Array Slot), zl2 (f_X12_sorts_L12 T N a0 x1 x4 k2) n x7 s8 = some σ0 → zB D cy T ad (zA T ad s.heap.size) s.heap s8 H locs s → lv_has ls 4 [(0, .ref (ad a0)), (1, .int x1), (2, .int x4), (3, .int x7)] → W p l e (headSpec wsX12_sorts ({ frames := 0, cells := 0, slots := 0, locals := 0 } : Room)).room s m args below meth c H locs 0 0 (MQ below (va_Qv (fun σ2 : zS => σ2 = σ0) (zAt D cy T ad (zA T ad s.heap.size)) (zA T ad s.heap.size)) args s 0 0 (zA T ad s.heap.size)) (F0 m 12 ls []) := by
          intro n
          induction n with
          | zero => intro x7 s8 H locs ls hq; exact zz_none hq
          | succ n ih12 =>
            intro x7 s8 H locs ls hq hB hl
            rw [zl2] at hq
            generalize zl2 (f_X12_sorts_L12 T N a0 x1 x4 k2) n = k12 at ih12 hq
            unfold f_X12_sorts_L12 at hq
            refine lv_iload_n hx hb dX12_sorts_12 rfl (lv_at hl 3 rfl) ?_
            refine zz_if_le (tgt := 66) hx hb dX12_sorts_13 (by decide) hq (fun hq => ?_) (fun hq => ?_)
            · refine lv_aload_n hx hb dX12_sorts_66 rfl (lv_at hl 0 rfl) ?_
              refine zz_getR S hT hB (C := RX12) (ref := "DiagramDeskModel") (F := TX12) (N := 24) (index := 43) 12 16 iwX12 rfl (by decide) (by decide) rfl rfl (wS wd_767) (fun _ h9 => h9) dX12_sorts_67 hq (fun a9 hq => ?_)
              refine lv_iload_n hx hb dX12_sorts_70 rfl (lv_at hl 3 rfl) ?_
              refine lv_iload_n hx hb dX12_sorts_71 rfl (lv_at hl 2 rfl) ?_
              refine zz_ast S hT hB dX12_sorts_72 hq (fun s10 H locs hq hB => ?_)
              refine zz_nmV hq (fun x11 ex11 hq => ?_)
              refine lv_iinc (v := x11) (lv' := [(2, .int x11), (0, .ref (ad a0)), (1, .int x1), (3, .int x7)]) hx hb dX12_sorts_73 hl (k := 2) rfl (by rw [ex11]; rfl) (by decide) rfl (fun ls hl => ?_)
              refine lv_goto (tgt := 2) hx hb dX12_sorts_76 (by decide) ?_
              exact ih2 x11 s10 _ _ _ hq hB (lv_sub hl [1, 2, 0] rfl)
            · refine lv_aload_n hx hb dX12_sorts_16 rfl (lv_at hl 0 rfl) ?_
              refine zz_getR S hT hB (C := RX12) (ref := "DiagramDeskModel") (F := TX12) (N := 24) (index := 28) 12 8 iwX12 rfl (by decide) (by decide) rfl rfl (wS wd_708) (fun _ h9 => h9) dX12_sorts_17 hq (fun a12 hq => ?_)
              refine lv_iconst (v := 2) hx hb dX12_sorts_20 (by decide) ?_
              refine lv_aload_n hx hb dX12_sorts_21 rfl (lv_at hl 0 rfl) ?_
              refine zz_getR S hT hB (C := RX12) (ref := "DiagramDeskModel") (F := TX12) (N := 24) (index := 43) 12 16 iwX12 rfl (by decide) (by decide) rfl rfl (wS wd_767) (fun _ h9 => h9) dX12_sorts_22 hq (fun a13 hq => ?_)
              refine lv_iload_n hx hb dX12_sorts_25 rfl (lv_at hl 3 rfl) ?_
              refine lv_iconst (v := 1) hx hb dX12_sorts_26 (by decide) ?_
              refine lv_isub hx hb dX12_sorts_27 ?_
              refine zz_ald S hT hB dX12_sorts_28 hq (fun x14 hq => ?_)
              refine lv_imul hx hb dX12_sorts_29 ?_
              refine lv_iload_n hx hb dX12_sorts_30 rfl (lv_at hl 1 rfl) ?_
              refine lv_iadd hx hb dX12_sorts_31 ?_
              refine zz_ald S hT hB dX12_sorts_32 hq (fun x15 hq => ?_)
              refine lv_aload_n hx hb dX12_sorts_33 rfl (lv_at hl 0 rfl) ?_
              refine zz_getR S hT hB (C := RX12) (ref := "DiagramDeskModel") (F := TX12) (N := 24) (index := 28) 12 8 iwX12 rfl (by decide) (by decide) rfl rfl (wS wd_708) (fun _ h9 => h9) dX12_sorts_34 hq (fun a16 hq => ?_)
              refine lv_iconst (v := 2) hx hb dX12_sorts_37 (by decide) ?_
              refine lv_iload_n hx hb dX12_sorts_38 rfl (lv_at hl 2 rfl) ?_
              refine lv_imul hx hb dX12_sorts_39 ?_
              refine lv_iload_n hx hb dX12_sorts_40 rfl (lv_at hl 1 rfl) ?_
              refine lv_iadd hx hb dX12_sorts_41 ?_
              refine zz_ald S hT hB dX12_sorts_42 hq (fun x17 hq => ?_)
              refine zz_icmp_le (tgt := 66) hx hb dX12_sorts_43 (by decide) hq (fun hq => ?_) (fun hq => ?_)
              · refine lv_aload_n hx hb dX12_sorts_66 rfl (lv_at hl 0 rfl) ?_
                refine zz_getR S hT hB (C := RX12) (ref := "DiagramDeskModel") (F := TX12) (N := 24) (index := 43) 12 16 iwX12 rfl (by decide) (by decide) rfl rfl (wS wd_767) (fun _ h9 => h9) dX12_sorts_67 hq (fun a18 hq => ?_)
                refine lv_iload_n hx hb dX12_sorts_70 rfl (lv_at hl 3 rfl) ?_
                refine lv_iload_n hx hb dX12_sorts_71 rfl (lv_at hl 2 rfl) ?_
                refine zz_ast S hT hB dX12_sorts_72 hq (fun s19 H locs hq hB => ?_)
                refine zz_nmV hq (fun x20 ex20 hq => ?_)
                refine lv_iinc (v := x20) (lv' := [(2, .int x20), (0, .ref (ad a0)), (1, .int x1), (3, .int x7)]) hx hb dX12_sorts_73 hl (k := 2) rfl (by rw [ex20]; rfl) (by decide) rfl (fun ls hl => ?_)
                refine lv_goto (tgt := 2) hx hb dX12_sorts_76 (by decide) ?_
                exact ih2 x20 s19 _ _ _ hq hB (lv_sub hl [1, 2, 0] rfl)
              · refine lv_aload_n hx hb dX12_sorts_46 rfl (lv_at hl 0 rfl) ?_
                refine zz_getR S hT hB (C := RX12) (ref := "DiagramDeskModel") (F := TX12) (N := 24) (index := 43) 12 16 iwX12 rfl (by decide) (by decide) rfl rfl (wS wd_767) (fun _ h9 => h9) dX12_sorts_47 hq (fun a21 hq => ?_)
                refine lv_iload_n hx hb dX12_sorts_50 rfl (lv_at hl 3 rfl) ?_
                refine lv_aload_n hx hb dX12_sorts_51 rfl (lv_at hl 0 rfl) ?_
                refine zz_getR S hT hB (C := RX12) (ref := "DiagramDeskModel") (F := TX12) (N := 24) (index := 43) 12 16 iwX12 rfl (by decide) (by decide) rfl rfl (wS wd_767) (fun _ h9 => h9) dX12_sorts_52 hq (fun a22 hq => ?_)
                refine lv_iload_n hx hb dX12_sorts_55 rfl (lv_at hl 3 rfl) ?_
                refine lv_iconst (v := 1) hx hb dX12_sorts_56 (by decide) ?_
                refine lv_isub hx hb dX12_sorts_57 ?_
                refine zz_ald S hT hB dX12_sorts_58 hq (fun x23 hq => ?_)
                refine zz_ast S hT hB dX12_sorts_59 hq (fun s24 H locs hq hB => ?_)
                refine zz_nmV hq (fun x25 ex25 hq => ?_)
                refine lv_iinc (v := x25) (lv' := [(3, .int x25), (0, .ref (ad a0)), (1, .int x1), (2, .int x4)]) hx hb dX12_sorts_60 hl (k := 3) rfl (by rw [ex25]; rfl) (by decide) rfl (fun ls hl => ?_)
                refine lv_goto (tgt := 12) hx hb dX12_sorts_63 (by decide) ?_
                exact ih12 x25 s24 _ _ _ hq hB (lv_sub hl [1, 2, 3, 0] rfl)
        exact L12 N x4 s5 _ _ _ hq hB (lv_sub hl [1, 2, 3, 0] rfl)
  exact L2 N (0 : Int32) s0 _ _ _ hq hB (lv_sub hl [1, 2, 0] rfl)
def f_X12_distribute_J212 (T : zT) (N : Nat) (a0 : Nat) (x1 : Int32) (x25 : Int32) (x30 : Int32) (x31 : Int32) (s32 : zS) (k172 : Int32 → Int32 → zS → Option (Int32 × zS)) (x40 : Int32) (x41 : Int32) : Option (Int32 × zS) :=
  zn (x30 + (x25 + x41)) fun x42 =>
  (gR T s32 a0 12 16).bind fun a43 =>
  (aI T s32 a43 13 x31).bind fun x44 =>
  (gR T s32 a0 12 8).bind fun a45 =>
  (aI T s32 a45 13 x40).bind fun x46 =>
  (f_X12_laysUnit T N s32 a0 x44 x1 (x42 - x46)).bind fun s47 =>
  (gR T s47 a0 12 9).bind fun a48 =>
  (aI T s47 a48 13 x40).bind fun x49 =>
  (gR T s47 a0 12 8).bind fun a50 =>
  (aI T s47 a50 13 x40).bind fun x51 =>
  zn (x42 + (x49 - x51)) fun x52 =>
  zn (x31 + (1 : Int32)) fun x53 =>
  k172 x52 x53 s47
def f_X12_distribute_L172 (T : zT) (N : Nat) (a0 : Nat) (x1 : Int32) (x21 : Int32) (x24 : Int32) (x25 : Int32) (k172 : Int32 → Int32 → zS → Option (Int32 × zS)) (x30 : Int32) (x31 : Int32) (s32 : zS) : Option (Int32 × zS) :=
  (gI T s32 a0 12 11).bind fun x33 =>
  if x33 ≤ x31 then (
    zb2 (f_X12_isInside T N s32 a0) fun x35 s34 =>
    if ¬ x35 = 0 then (
      (f_X12_act T N s34 a0).bind fun s36 =>
      (f_X12_movesAll T N s36 a0).bind fun s37 =>
      some (x21, s37))
    else (
      some ((-1000000 : Int32), s34)))
  else (
    (gR T s32 a0 12 16).bind fun a38 =>
    (aI T s32 a38 13 x31).bind fun x39 =>
    zn (((2 : Int32) * x39) + x1) fun x40 =>
    if x24 ≤ (x31 - (1 : Int32)) then (
      f_X12_distribute_J212 T N a0 x1 x25 x30 x31 s32 k172 x40 (0 : Int32))
    else (
      f_X12_distribute_J212 T N a0 x1 x25 x30 x31 s32 k172 x40 (1 : Int32)))
def f_X12_distribute_J142 (T : zT) (N : Nat) (a0 : Nat) (x1 : Int32) (s9 : zS) (x11 : Int32) (x21 : Int32) (x24 : Int32) : Option (Int32 × zS) :=
  zz1 (¬ x11 = 0) <|
  zn ((x21 - x24) / x11) fun x25 =>
  (gR T s9 a0 12 9).bind fun a26 =>
  (gR T s9 a0 12 16).bind fun a27 =>
  (aI T s9 a27 13 (0 : Int32)).bind fun x28 =>
  (aI T s9 a26 13 (((2 : Int32) * x28) + x1)).bind fun x29 =>
  zl3 (f_X12_distribute_L172 T N a0 x1 x21 x24 x25) N x29 (1 : Int32) s9
def f_X12_distribute_L75 (T : zT) (N : Nat) (a0 : Nat) (x1 : Int32) (s9 : zS) (x11 : Int32) (k75 : Int32 → Int32 → Option (Int32 × zS)) (x21 : Int32) (x22 : Int32) : Option (Int32 × zS) :=
  if x11 ≤ x22 then (
    zz1 (¬ x11 = 0) <|
    zn (x21 - x21 / x11 * x11) fun x23 =>
    if 0 ≤ x23 then (
      f_X12_distribute_J142 T N a0 x1 s9 x11 x21 x23)
    else (
      f_X12_distribute_J142 T N a0 x1 s9 x11 x21 (x23 + x11)))
  else (
    (gR T s9 a0 12 9).bind fun a54 =>
    (gR T s9 a0 12 16).bind fun a55 =>
    (aI T s9 a55 13 x22).bind fun x56 =>
    (aI T s9 a54 13 (((2 : Int32) * x56) + x1)).bind fun x57 =>
    (gR T s9 a0 12 8).bind fun a58 =>
    (gR T s9 a0 12 16).bind fun a59 =>
    (aI T s9 a59 13 x22).bind fun x60 =>
    (aI T s9 a58 13 (((2 : Int32) * x60) + x1)).bind fun x61 =>
    zn (x21 - (x57 - x61)) fun x62 =>
    zn (x22 + (1 : Int32)) fun x63 =>
    k75 x62 x63)
def f_X12_distribute (T : zT) (N : Nat) (s0 : zS) (a0 : Nat) (x1 : Int32) : Option (Int32 × zS) :=
  zz1 (T.1 a0 = 12) <|
  (f_X12_gathers T N s0 a0).bind fun s4 =>
  zb2 (f_X12_in T N s4 x1 (0 : Int32) (1 : Int32)) fun x6 s5 =>
  if x6 = 0 then (
    some ((-1000000 : Int32), s5))
  else (
    (gI T s5 a0 12 11).bind fun x7 =>
    if (3 : Int32) ≤ x7 then (
      (f_X12_sorts T N s5 a0 x1).bind fun s8 =>
      (f_X12_staysAll T N s8 a0).bind fun s9 =>
      (gI T s9 a0 12 11).bind fun x10 =>
      zn (x10 - (1 : Int32)) fun x11 =>
      (gR T s9 a0 12 8).bind fun a12 =>
      (gR T s9 a0 12 16).bind fun a13 =>
      (aI T s9 a13 13 x11).bind fun x14 =>
      (aI T s9 a12 13 (((2 : Int32) * x14) + x1)).bind fun x15 =>
      (gR T s9 a0 12 9).bind fun a16 =>
      (gR T s9 a0 12 16).bind fun a17 =>
      (aI T s9 a17 13 (0 : Int32)).bind fun x18 =>
      (aI T s9 a16 13 (((2 : Int32) * x18) + x1)).bind fun x19 =>
      zn (x15 - x19) fun x20 =>
      zl2 (f_X12_distribute_L75 T N a0 x1 s9 x11) N x20 (1 : Int32))
    else (
      some ((-1000000 : Int32), s5)))
theorem k_X12_distribute (T : zT) (N : Nat) (s0 : zS) (a0 : Nat) (x1 : Int32) : ∀ q, f_X12_distribute T N s0 a0 x1 = some q → T.1 a0 = 12 := by
  intro q h
  unfold f_X12_distribute at h
  exact zz_guard h (fun h _ => h)
set_option maxHeartbeats 4000000 in
set_option maxRecDepth 100000 in
theorem c_X12_distribute (l : Launch) (D : va_G) (cy : Nat → ClassId) (T : zT) (hT : zok T) (ad : Nat → Nat) (N : Nat) (s0 : zS) (sz : Nat) (a0 : Nat) (x1 : Int32) : ∀ (r0 : Int32) (σ0 : zS), f_X12_distribute T N s0 a0 x1 = some (r0, σ0) → Met l yX12_distribute wsX12_distribute ({ frames := 4, cells := 0, slots := 0, locals := 91 }) (va_Pc [.ref (ad a0), .int x1] (zPre D cy T ad s0 sz)) (va_Qi (fun (r2 : Int32) (σ2 : zS) => r2 = r0 ∧ σ2 = σ0) (zAt D cy T ad (zA T ad sz)) (zA T ad sz)) 0 0 (zA T ad sz) := by
  intro r0 σ0 hq
  refine Met.ofW (cc := cX12_distribute) (maxL := 9) (ret := (some .int)) (by decide) rfl ?_
  intro p e s m args below meth c s₁ B hml hv
  obtain ⟨hargs, hsz, hP, hK, hD0, hN⟩ := hv
  have hx := B.exec
  have hb := B.bytes
  have hr := B.returns
  have hts := atoms_spec (ws := wsX12_distribute) B.pre
  have hown : s.vm.findClass RX12 = some m.cls := findClass_of_methodNamed B.named
  have hlocks := B.notSynchronized
  have S : CallFix p m c cX12_distribute 9 s args wsX12_distribute RX12 := ⟨hx, hb, hml, hown, hts⟩
  subst hsz
  have hB : zB D cy T ad (zA T ad s.heap.size) s.heap s0 s.heap [] s := zz_entry hP hK hD0 hN
  obtain ⟨ls, hent, hl⟩ := zz_ent m hargs (n := 9) (Nat.le_of_ble_eq_true rfl)
  rw [hent]
  have hl : lv_has ls 9 [(0, .ref (ad a0)), (1, .int x1)] := hl
  have iwX12 : ∀ w ∈ u_ws RX12 TX12 24, w ∈ wsX12_distribute := fun w h => wS (inWX12 w h)
  unfold f_X12_distribute at hq
  refine zz_guard hq (fun hk0 hq => ?_)
  refine lv_aload_n hx hb dX12_distribute_0 rfl (lv_at hl 0 rfl) ?_
  refine zz_callVv S hT hB (As := []) (b := a0) (o := f_X12_gathers T N s0 a0) (c_X12_gathers l D cy T hT ad N s0 _ a0) (cwV 0 hts (gV wSub wd_724 wd_725 wd_726 wd_572 wd_727) rfl rfl rfl (by decide +kernel) ⟨Nat.le_of_ble_eq_true rfl, Nat.le_of_ble_eq_true rfl⟩) (F := TX12) (NF := 24) 12 rfl (by decide) (k_X12_gathers T N s0 a0) rfl hl.1 rfl (Nat.le_of_ble_eq_true rfl) dX12_distribute_1 hq (fun s4 H locs hq hB => ?_)
  refine lv_iload_n hx hb dX12_distribute_4 rfl (lv_at hl 1 rfl) ?_
  refine lv_iconst (v := 0) hx hb dX12_distribute_5 (by decide) ?_
  refine lv_iconst (v := 1) hx hb dX12_distribute_6 (by decide) ?_
  refine zz_callSi S hT hB (As := [.int x1, .int (0 : Int32), .int (1 : Int32)]) (o := f_X12_in T N s4 x1 (0 : Int32) (1 : Int32)) (c_X12_in l D cy T hT ad N s4 _ x1 (0 : Int32) (1 : Int32)) (va_cwS 3 hts (gS wSub wd_570 wd_571 wd_572 wd_573) rfl rfl rfl (by decide +kernel) ⟨Nat.le_of_ble_eq_true rfl, Nat.le_of_ble_eq_true rfl⟩) rfl hl.1 rfl (Nat.le_of_ble_eq_true rfl) dX12_distribute_7 hq (fun x6 s5 H locs hq hB => ?_)
  refine zz_if_eq (tgt := 21) hx hb dX12_distribute_10 (by decide) hq (fun hq => ?_) (fun hq => ?_)
  · refine lv_ldc (v := -1000000) hx hb hown (hts _ (wS wd_636)) dX12_distribute_21 ?_
    exact zz_iret S hB hr hlocks dX12_distribute_23 hq
  · refine lv_aload_n hx hb dX12_distribute_13 rfl (lv_at hl 0 rfl) ?_
    refine zz_get S hT hB (C := RX12) (ref := "DiagramDeskModel") (F := TX12) (N := 24) (index := 181) 12 11 iwX12 rfl (by decide) (by decide) rfl rfl (wS wd_712) (fun _ h9 => h9) dX12_distribute_14 hq (fun x7 hq => ?_)
    refine lv_iconst (v := 3) hx hb dX12_distribute_17 (by decide) ?_
    refine zz_icmp_ge (tgt := 24) hx hb dX12_distribute_18 (by decide) hq (fun hq => ?_) (fun hq => ?_)
    · refine lv_aload_n hx hb dX12_distribute_24 rfl (lv_at hl 0 rfl) ?_
      refine lv_iload_n hx hb dX12_distribute_25 rfl (lv_at hl 1 rfl) ?_
      refine zz_callVv S hT hB (As := [.int x1]) (b := a0) (o := f_X12_sorts T N s5 a0 x1) (c_X12_sorts l D cy T hT ad N s5 _ a0 x1) (cwV 1 hts (gV wSub wd_768 wd_769 wd_770 wd_572 wd_771) rfl rfl rfl (by decide +kernel) ⟨Nat.le_of_ble_eq_true rfl, Nat.le_of_ble_eq_true rfl⟩) (F := TX12) (NF := 24) 12 rfl (by decide) (k_X12_sorts T N s5 a0 x1) rfl hl.1 rfl (Nat.le_of_ble_eq_true rfl) dX12_distribute_26 hq (fun s8 H locs hq hB => ?_)
      refine lv_aload_n hx hb dX12_distribute_29 rfl (lv_at hl 0 rfl) ?_
      refine zz_callVv S hT hB (As := []) (b := a0) (o := f_X12_staysAll T N s8 a0) (c_X12_staysAll l D cy T hT ad N s8 _ a0) (cwV 0 hts (gV wSub wd_755 wd_756 wd_757 wd_572 wd_758) rfl rfl rfl (by decide +kernel) ⟨Nat.le_of_ble_eq_true rfl, Nat.le_of_ble_eq_true rfl⟩) (F := TX12) (NF := 24) 12 rfl (by decide) (k_X12_staysAll T N s8 a0) rfl hl.1 rfl (Nat.le_of_ble_eq_true rfl) dX12_distribute_30 hq (fun s9 H locs hq hB => ?_)
      refine lv_aload_n hx hb dX12_distribute_33 rfl (lv_at hl 0 rfl) ?_
      refine zz_get S hT hB (C := RX12) (ref := "DiagramDeskModel") (F := TX12) (N := 24) (index := 181) 12 11 iwX12 rfl (by decide) (by decide) rfl rfl (wS wd_712) (fun _ h9 => h9) dX12_distribute_34 hq (fun x10 hq => ?_)
      refine lv_iconst (v := 1) hx hb dX12_distribute_37 (by decide) ?_
      refine lv_isub hx hb dX12_distribute_38 ?_
      refine zz_nmI hq (fun x11 hq => ?_)
      refine lv_istore_n (lv' := [(2, .int x11), (0, .ref (ad a0)), (1, .int x1)]) hx hb dX12_distribute_39 rfl hl (by decide) rfl (fun ls hl => ?_)
      refine lv_aload_n hx hb dX12_distribute_40 rfl (lv_at hl 1 rfl) ?_
      refine zz_getR S hT hB (C := RX12) (ref := "DiagramDeskModel") (F := TX12) (N := 24) (index := 28) 12 8 iwX12 rfl (by decide) (by decide) rfl rfl (wS wd_708) (fun _ h9 => h9) dX12_distribute_41 hq (fun a12 hq => ?_)
      refine lv_iconst (v := 2) hx hb dX12_distribute_44 (by decide) ?_
      refine lv_aload_n hx hb dX12_distribute_45 rfl (lv_at hl 1 rfl) ?_
      refine zz_getR S hT hB (C := RX12) (ref := "DiagramDeskModel") (F := TX12) (N := 24) (index := 43) 12 16 iwX12 rfl (by decide) (by decide) rfl rfl (wS wd_767) (fun _ h9 => h9) dX12_distribute_46 hq (fun a13 hq => ?_)
      refine lv_iload_n hx hb dX12_distribute_49 rfl (lv_at hl 0 rfl) ?_
      refine zz_ald S hT hB dX12_distribute_50 hq (fun x14 hq => ?_)
      refine lv_imul hx hb dX12_distribute_51 ?_
      refine lv_iload_n hx hb dX12_distribute_52 rfl (lv_at hl 2 rfl) ?_
      refine lv_iadd hx hb dX12_distribute_53 ?_
      refine zz_ald S hT hB dX12_distribute_54 hq (fun x15 hq => ?_)
      refine lv_aload_n hx hb dX12_distribute_55 rfl (lv_at hl 1 rfl) ?_
      refine zz_getR S hT hB (C := RX12) (ref := "DiagramDeskModel") (F := TX12) (N := 24) (index := 31) 12 9 iwX12 rfl (by decide) (by decide) rfl rfl (wS wd_709) (fun _ h9 => h9) dX12_distribute_56 hq (fun a16 hq => ?_)
      refine lv_iconst (v := 2) hx hb dX12_distribute_59 (by decide) ?_
      refine lv_aload_n hx hb dX12_distribute_60 rfl (lv_at hl 1 rfl) ?_
      refine zz_getR S hT hB (C := RX12) (ref := "DiagramDeskModel") (F := TX12) (N := 24) (index := 43) 12 16 iwX12 rfl (by decide) (by decide) rfl rfl (wS wd_767) (fun _ h9 => h9) dX12_distribute_61 hq (fun a17 hq => ?_)
      refine lv_iconst (v := 0) hx hb dX12_distribute_64 (by decide) ?_
      refine zz_ald S hT hB dX12_distribute_65 hq (fun x18 hq => ?_)
      refine lv_imul hx hb dX12_distribute_66 ?_
      refine lv_iload_n hx hb dX12_distribute_67 rfl (lv_at hl 2 rfl) ?_
      refine lv_iadd hx hb dX12_distribute_68 ?_
      refine zz_ald S hT hB dX12_distribute_69 hq (fun x19 hq => ?_)
      refine lv_isub hx hb dX12_distribute_70 ?_
      refine zz_nmI hq (fun x20 hq => ?_)
      refine lv_istore_n (lv' := [(3, .int x20), (2, .int x11), (0, .ref (ad a0)), (1, .int x1)]) hx hb dX12_distribute_71 rfl hl (by decide) rfl (fun ls hl => ?_)
      refine lv_iconst (v := 1) hx hb dX12_distribute_72 (by decide) ?_
      refine lv_istore (lv' := [(4, .int (1 : Int32)), (3, .int x20), (2, .int x11), (0, .ref (ad a0)), (1, .int x1)]) hx hb dX12_distribute_73 hl (by decide) rfl (fun ls hl => ?_)
      have L75 : ∀ (n : Nat) (x21 : Int32) (x22 : Int32) (H : Heap) (locs : List Loc) (ls : Array Slot), zl2 (f_X12_distribute_L75 T N a0 x1 s9 x11) n x21 x22 = some (r0, σ0) → zB D cy T ad (zA T ad s.heap.size) s.heap s9 H locs s → lv_has ls 9 [(0, .ref (ad a0)), (1, .int x1), (2, .int x11), (3, .int x21), (4, .int x22)] → W p l e (headSpec wsX12_distribute ({ frames := 4, cells := 0, slots := 0, locals := 91 } : Room)).room s m args below meth c H locs 0 0 (MQ below (va_Qi (fun (r2 : Int32) (σ2 : zS) => r2 = r0 ∧ σ2 = σ0) (zAt D cy T ad (zA T ad s.heap.size)) (zA T ad s.heap.size)) args s 0 0 (zA T ad s.heap.size)) (F0 m 75 ls []) := by
        intro n
        induction n with
        | zero => intro x21 x22 H locs ls hq; exact zz_none hq
        | succ n ih75 =>
          intro x21 x22 H locs ls hq hB hl
          rw [zl2] at hq
          generalize zl2 (f_X12_distribute_L75 T N a0 x1 s9 x11) n = k75 at ih75 hq
          unfold f_X12_distribute_L75 at hq
          refine lv_iload hx hb dX12_distribute_75 (lv_at hl 4 rfl) ?_
          refine lv_iload_n hx hb dX12_distribute_77 rfl (lv_at hl 2 rfl) ?_
          refine zz_icmp_ge (tgt := 123) hx hb dX12_distribute_78 (by decide) hq (fun hq => ?_) (fun hq => ?_)
          · refine lv_iload_n hx hb dX12_distribute_123 rfl (lv_at hl 3 rfl) ?_
            refine lv_iload_n hx hb dX12_distribute_124 rfl (lv_at hl 2 rfl) ?_
            refine zz_guard hq (fun hne hq => ?_)
            refine lv_irem hx hb dX12_distribute_125 hne ?_
            refine zz_nmI hq (fun x23 hq => ?_)
            refine lv_istore (lv' := [(4, .int x23), (0, .ref (ad a0)), (1, .int x1), (2, .int x11), (3, .int x21)]) hx hb dX12_distribute_126 hl (by decide) rfl (fun ls hl => ?_)
            refine lv_iload hx hb dX12_distribute_128 (lv_at hl 0 rfl) ?_
            have J142 : ∀ (x24 : Int32) (H : Heap) (locs : List Loc) (ls : Array Slot), f_X12_distribute_J142 T N a0 x1 s9 x11 x21 x24 = some (r0, σ0) → zB D cy T ad (zA T ad s.heap.size) s.heap s9 H locs s → lv_has ls 9 [(0, .ref (ad a0)), (1, .int x1), (2, .int x11), (3, .int x21)] → W p l e (headSpec wsX12_distribute ({ frames := 4, cells := 0, slots := 0, locals := 91 } : Room)).room s m args below meth c H locs 0 0 (MQ below (va_Qi (fun (r2 : Int32) (σ2 : zS) => r2 = r0 ∧ σ2 = σ0) (zAt D cy T ad (zA T ad s.heap.size)) (zA T ad s.heap.size)) args s 0 0 (zA T ad s.heap.size)) (F0 m 142 ls [.int x24]) := by
              intro x24 H locs ls hq hB hl
              unfold f_X12_distribute_J142 at hq
              refine lv_istore (lv' := [(4, .int x24), (0, .ref (ad a0)), (1, .int x1), (2, .int x11), (3, .int x21)]) hx hb dX12_distribute_142 hl (by decide) rfl (fun ls hl => ?_)
              refine lv_iload_n hx hb dX12_distribute_144 rfl (lv_at hl 4 rfl) ?_
              refine lv_iload hx hb dX12_distribute_145 (lv_at hl 0 rfl) ?_
              refine lv_isub hx hb dX12_distribute_147 ?_
              refine lv_iload_n hx hb dX12_distribute_148 rfl (lv_at hl 3 rfl) ?_
              refine zz_guard hq (fun hne hq => ?_)
              refine lv_idiv hx hb dX12_distribute_149 hne ?_
              refine zz_nmI hq (fun x25 hq => ?_)
              refine lv_istore (lv' := [(5, .int x25), (4, .int x24), (0, .ref (ad a0)), (1, .int x1), (2, .int x11), (3, .int x21)]) hx hb dX12_distribute_150 hl (by decide) rfl (fun ls hl => ?_)
              refine lv_aload_n hx hb dX12_distribute_152 rfl (lv_at hl 2 rfl) ?_
              refine zz_getR S hT hB (C := RX12) (ref := "DiagramDeskModel") (F := TX12) (N := 24) (index := 31) 12 9 iwX12 rfl (by decide) (by decide) rfl rfl (wS wd_709) (fun _ h9 => h9) dX12_distribute_153 hq (fun a26 hq => ?_)
              refine lv_iconst (v := 2) hx hb dX12_distribute_156 (by decide) ?_
              refine lv_aload_n hx hb dX12_distribute_157 rfl (lv_at hl 2 rfl) ?_
              refine zz_getR S hT hB (C := RX12) (ref := "DiagramDeskModel") (F := TX12) (N := 24) (index := 43) 12 16 iwX12 rfl (by decide) (by decide) rfl rfl (wS wd_767) (fun _ h9 => h9) dX12_distribute_158 hq (fun a27 hq => ?_)
              refine lv_iconst (v := 0) hx hb dX12_distribute_161 (by decide) ?_
              refine zz_ald S hT hB dX12_distribute_162 hq (fun x28 hq => ?_)
              refine lv_imul hx hb dX12_distribute_163 ?_
              refine lv_iload_n hx hb dX12_distribute_164 rfl (lv_at hl 3 rfl) ?_
              refine lv_iadd hx hb dX12_distribute_165 ?_
              refine zz_ald S hT hB dX12_distribute_166 hq (fun x29 hq => ?_)
              refine lv_istore (lv' := [(6, .int x29), (5, .int x25), (4, .int x24), (0, .ref (ad a0)), (1, .int x1), (2, .int x11), (3, .int x21)]) hx hb dX12_distribute_167 hl (by decide) rfl (fun ls hl => ?_)
              refine lv_iconst (v := 1) hx hb dX12_distribute_169 (by decide) ?_
              refine lv_istore (lv' := [(7, .int (1 : Int32)), (6, .int x29), (5, .int x25), (4, .int x24), (0, .ref (ad a0)), (1, .int x1), (2, .int x11), (3, .int x21)]) hx hb dX12_distribute_170 hl (by decide) rfl (fun ls hl => ?_)
              have L172 : ∀ (n : Nat) (x30 : Int32) (x31 : Int32) (s32 : zS) (H : Heap) (locs : List Loc) (ls : Array Slot), zl3 (f_X12_distribute_L172 T N a0 x1 x21 x24 x25) n x30 x31 s32 = some (r0, σ0) → zB D cy T ad (zA T ad s.heap.size) s.heap s32 H locs s → lv_has ls 9 [(0, .ref (ad a0)), (1, .int x1), (3, .int x21), (4, .int x24), (5, .int x25), (6, .int x30), (7, .int x31)] → W p l e (headSpec wsX12_distribute ({ frames := 4, cells := 0, slots := 0, locals := 91 } : Room)).room s m args below meth c H locs 0 0 (MQ below (va_Qi (fun (r2 : Int32) (σ2 : zS) => r2 = r0 ∧ σ2 = σ0) (zAt D cy T ad (zA T ad s.heap.size)) (zA T ad s.heap.size)) args s 0 0 (zA T ad s.heap.size)) (F0 m 172 ls []) := by
                intro n
                induction n with
                | zero => intro x30 x31 s32 H locs ls hq; exact zz_none hq
                | succ n ih172 =>
                  intro x30 x31 s32 H locs ls hq hB hl
                  rw [zl3] at hq
                  generalize zl3 (f_X12_distribute_L172 T N a0 x1 x21 x24 x25) n = k172 at ih172 hq
                  unfold f_X12_distribute_L172 at hq
                  refine lv_iload hx hb dX12_distribute_172 (lv_at hl 6 rfl) ?_
                  refine lv_aload_n hx hb dX12_distribute_174 rfl (lv_at hl 0 rfl) ?_
                  refine zz_get S hT hB (C := RX12) (ref := "DiagramDeskModel") (F := TX12) (N := 24) (index := 181) 12 11 iwX12 rfl (by decide) (by decide) rfl rfl (wS wd_712) (fun _ h9 => h9) dX12_distribute_175 hq (fun x33 hq => ?_)
                  refine zz_icmp_ge (tgt := 264) hx hb dX12_distribute_178 (by decide) hq (fun hq => ?_) (fun hq => ?_)
                  · refine lv_aload_n hx hb dX12_distribute_264 rfl (lv_at hl 0 rfl) ?_
                    refine zz_callVi S hT hB (As := []) (b := a0) (o := f_X12_isInside T N s32 a0) (c_X12_isInside l D cy T hT ad N s32 _ a0) (cwV 0 hts (gV wSub wd_737 wd_738 wd_739 wd_572 wd_740) rfl rfl rfl (by decide +kernel) ⟨Nat.le_of_ble_eq_true rfl, Nat.le_of_ble_eq_true rfl⟩) (F := TX12) (NF := 24) 12 rfl (by decide) (k_X12_isInside T N s32 a0) rfl hl.1 rfl (Nat.le_of_ble_eq_true rfl) dX12_distribute_265 hq (fun x35 s34 H locs hq hB => ?_)
                    refine zz_if_ne (tgt := 274) hx hb dX12_distribute_268 (by decide) hq (fun hq => ?_) (fun hq => ?_)
                    · refine lv_aload_n hx hb dX12_distribute_274 rfl (lv_at hl 0 rfl) ?_
                      refine zz_callVv S hT hB (As := []) (b := a0) (o := f_X12_act T N s34 a0) (c_X12_act l D cy T hT ad N s34 _ a0) (cwV 0 hts (gV wSub wd_604 wd_605 wd_606 wd_572 wd_607) rfl rfl rfl (by decide +kernel) ⟨Nat.le_of_ble_eq_true rfl, Nat.le_of_ble_eq_true rfl⟩) (F := TX12) (NF := 24) 12 rfl (by decide) (k_X12_act T N s34 a0) rfl hl.1 rfl (Nat.le_of_ble_eq_true rfl) dX12_distribute_275 hq (fun s36 H locs hq hB => ?_)
                      refine lv_aload_n hx hb dX12_distribute_278 rfl (lv_at hl 0 rfl) ?_
                      refine zz_callVv S hT hB (As := []) (b := a0) (o := f_X12_movesAll T N s36 a0) (c_X12_movesAll l D cy T hT ad N s36 _ a0) (cwV 0 hts (gV wSub wd_741 wd_742 wd_743 wd_572 wd_744) rfl rfl rfl (by decide +kernel) ⟨Nat.le_of_ble_eq_true rfl, Nat.le_of_ble_eq_true rfl⟩) (F := TX12) (NF := 24) 12 rfl (by decide) (k_X12_movesAll T N s36 a0) rfl hl.1 rfl (Nat.le_of_ble_eq_true rfl) dX12_distribute_279 hq (fun s37 H locs hq hB => ?_)
                      refine lv_iload_n hx hb dX12_distribute_282 rfl (lv_at hl 2 rfl) ?_
                      exact zz_iret S hB hr hlocks dX12_distribute_283 hq
                    · refine lv_ldc (v := -1000000) hx hb hown (hts _ (wS wd_636)) dX12_distribute_271 ?_
                      exact zz_iret S hB hr hlocks dX12_distribute_273 hq
                  · refine lv_iconst (v := 2) hx hb dX12_distribute_181 (by decide) ?_
                    refine lv_aload_n hx hb dX12_distribute_182 rfl (lv_at hl 0 rfl) ?_
                    refine zz_getR S hT hB (C := RX12) (ref := "DiagramDeskModel") (F := TX12) (N := 24) (index := 43) 12 16 iwX12 rfl (by decide) (by decide) rfl rfl (wS wd_767) (fun _ h9 => h9) dX12_distribute_183 hq (fun a38 hq => ?_)
                    refine lv_iload hx hb dX12_distribute_186 (lv_at hl 6 rfl) ?_
                    refine zz_ald S hT hB dX12_distribute_188 hq (fun x39 hq => ?_)
                    refine lv_imul hx hb dX12_distribute_189 ?_
                    refine lv_iload_n hx hb dX12_distribute_190 rfl (lv_at hl 1 rfl) ?_
                    refine lv_iadd hx hb dX12_distribute_191 ?_
                    refine zz_nmI hq (fun x40 hq => ?_)
                    refine lv_istore (lv' := [(8, .int x40), (0, .ref (ad a0)), (1, .int x1), (3, .int x21), (4, .int x24), (5, .int x25), (6, .int x30), (7, .int x31)]) hx hb dX12_distribute_192 hl (by decide) rfl (fun ls hl => ?_)
                    refine lv_iload hx hb dX12_distribute_194 (lv_at hl 6 rfl) ?_
                    refine lv_iload hx hb dX12_distribute_196 (lv_at hl 5 rfl) ?_
                    refine lv_iload hx hb dX12_distribute_198 (lv_at hl 7 rfl) ?_
                    refine lv_iconst (v := 1) hx hb dX12_distribute_200 (by decide) ?_
                    refine lv_isub hx hb dX12_distribute_201 ?_
                    refine lv_iload hx hb dX12_distribute_202 (lv_at hl 4 rfl) ?_
                    have J212 : ∀ (x41 : Int32) (H : Heap) (locs : List Loc) (ls : Array Slot), f_X12_distribute_J212 T N a0 x1 x25 x30 x31 s32 k172 x40 x41 = some (r0, σ0) → zB D cy T ad (zA T ad s.heap.size) s.heap s32 H locs s → lv_has ls 9 [(0, .ref (ad a0)), (1, .int x1), (3, .int x21), (4, .int x24), (5, .int x25), (7, .int x31), (8, .int x40)] → W p l e (headSpec wsX12_distribute ({ frames := 4, cells := 0, slots := 0, locals := 91 } : Room)).room s m args below meth c H locs 0 0 (MQ below (va_Qi (fun (r2 : Int32) (σ2 : zS) => r2 = r0 ∧ σ2 = σ0) (zAt D cy T ad (zA T ad s.heap.size)) (zA T ad s.heap.size)) args s 0 0 (zA T ad s.heap.size)) (F0 m 212 ls [.int x41, .int x25, .int x30]) := by
                      intro x41 H locs ls hq hB hl
                      unfold f_X12_distribute_J212 at hq
                      refine lv_iadd hx hb dX12_distribute_212 ?_
                      refine lv_iadd hx hb dX12_distribute_213 ?_
                      refine zz_nmI hq (fun x42 hq => ?_)
                      refine lv_istore (lv' := [(6, .int x42), (0, .ref (ad a0)), (1, .int x1), (3, .int x21), (4, .int x24), (5, .int x25), (7, .int x31), (8, .int x40)]) hx hb dX12_distribute_214 hl (by decide) rfl (fun ls hl => ?_)
                      refine lv_aload_n hx hb dX12_distribute_216 rfl (lv_at hl 1 rfl) ?_
                      refine lv_aload_n hx hb dX12_distribute_217 rfl (lv_at hl 1 rfl) ?_
                      refine zz_getR S hT hB (C := RX12) (ref := "DiagramDeskModel") (F := TX12) (N := 24) (index := 43) 12 16 iwX12 rfl (by decide) (by decide) rfl rfl (wS wd_767) (fun _ h9 => h9) dX12_distribute_218 hq (fun a43 hq => ?_)
                      refine lv_iload hx hb dX12_distribute_221 (lv_at hl 6 rfl) ?_
                      refine zz_ald S hT hB dX12_distribute_223 hq (fun x44 hq => ?_)
                      refine lv_iload_n hx hb dX12_distribute_224 rfl (lv_at hl 2 rfl) ?_
                      refine lv_iload hx hb dX12_distribute_225 (lv_at hl 0 rfl) ?_
                      refine lv_aload_n hx hb dX12_distribute_227 rfl (lv_at hl 1 rfl) ?_
                      refine zz_getR S hT hB (C := RX12) (ref := "DiagramDeskModel") (F := TX12) (N := 24) (index := 28) 12 8 iwX12 rfl (by decide) (by decide) rfl rfl (wS wd_708) (fun _ h9 => h9) dX12_distribute_228 hq (fun a45 hq => ?_)
                      refine lv_iload hx hb dX12_distribute_231 (lv_at hl 7 rfl) ?_
                      refine zz_ald S hT hB dX12_distribute_233 hq (fun x46 hq => ?_)
                      refine lv_isub hx hb dX12_distribute_234 ?_
                      refine zz_callVv S hT hB (As := [.int x44, .int x1, .int (x42 - x46)]) (b := a0) (o := f_X12_laysUnit T N s32 a0 x44 x1 (x42 - x46)) (c_X12_laysUnit l D cy T hT ad N s32 _ a0 x44 x1 (x42 - x46)) (cwV 3 hts (gV wSub wd_763 wd_764 wd_765 wd_572 wd_766) rfl rfl rfl (by decide +kernel) ⟨Nat.le_of_ble_eq_true rfl, Nat.le_of_ble_eq_true rfl⟩) (F := TX12) (NF := 24) 12 rfl (by decide) (k_X12_laysUnit T N s32 a0 x44 x1 (x42 - x46)) rfl hl.1 rfl (Nat.le_of_ble_eq_true rfl) dX12_distribute_235 hq (fun s47 H locs hq hB => ?_)
                      refine lv_iload hx hb dX12_distribute_238 (lv_at hl 0 rfl) ?_
                      refine lv_aload_n hx hb dX12_distribute_240 rfl (lv_at hl 1 rfl) ?_
                      refine zz_getR S hT hB (C := RX12) (ref := "DiagramDeskModel") (F := TX12) (N := 24) (index := 31) 12 9 iwX12 rfl (by decide) (by decide) rfl rfl (wS wd_709) (fun _ h9 => h9) dX12_distribute_241 hq (fun a48 hq => ?_)
                      refine lv_iload hx hb dX12_distribute_244 (lv_at hl 7 rfl) ?_
                      refine zz_ald S hT hB dX12_distribute_246 hq (fun x49 hq => ?_)
                      refine lv_aload_n hx hb dX12_distribute_247 rfl (lv_at hl 1 rfl) ?_
                      refine zz_getR S hT hB (C := RX12) (ref := "DiagramDeskModel") (F := TX12) (N := 24) (index := 28) 12 8 iwX12 rfl (by decide) (by decide) rfl rfl (wS wd_708) (fun _ h9 => h9) dX12_distribute_248 hq (fun a50 hq => ?_)
                      refine lv_iload hx hb dX12_distribute_251 (lv_at hl 7 rfl) ?_
                      refine zz_ald S hT hB dX12_distribute_253 hq (fun x51 hq => ?_)
                      refine lv_isub hx hb dX12_distribute_254 ?_
                      refine lv_iadd hx hb dX12_distribute_255 ?_
                      refine zz_nmI hq (fun x52 hq => ?_)
                      refine lv_istore (lv' := [(6, .int x52), (0, .ref (ad a0)), (1, .int x1), (3, .int x21), (4, .int x24), (5, .int x25), (7, .int x31), (8, .int x40)]) hx hb dX12_distribute_256 hl (by decide) rfl (fun ls hl => ?_)
                      refine zz_nmV hq (fun x53 ex53 hq => ?_)
                      refine lv_iinc (v := x53) (lv' := [(7, .int x53), (6, .int x52), (0, .ref (ad a0)), (1, .int x1), (3, .int x21), (4, .int x24), (5, .int x25), (8, .int x40)]) hx hb dX12_distribute_258 hl (k := 6) rfl (by rw [ex53]; rfl) (by decide) rfl (fun ls hl => ?_)
                      refine lv_goto (tgt := 172) hx hb dX12_distribute_261 (by decide) ?_
                      exact ih172 x52 x53 s47 _ _ _ hq hB (lv_sub hl [2, 3, 4, 5, 6, 1, 0] rfl)
                    refine zz_icmp_ge (tgt := 211) hx hb dX12_distribute_204 (by decide) hq (fun hq => ?_) (fun hq => ?_)
                    · refine lv_iconst (v := 0) hx hb dX12_distribute_211 (by decide) ?_
                      exact J212 (0 : Int32) _ _ _ hq hB (lv_sub hl [1, 2, 3, 4, 5, 7, 0] rfl)
                    · refine lv_iconst (v := 1) hx hb dX12_distribute_207 (by decide) ?_
                      refine lv_goto (tgt := 212) hx hb dX12_distribute_208 (by decide) ?_
                      exact J212 (1 : Int32) _ _ _ hq hB (lv_sub hl [1, 2, 3, 4, 5, 7, 0] rfl)
              exact L172 N x29 (1 : Int32) s9 _ _ _ hq hB (lv_sub hl [4, 5, 7, 3, 2, 1, 0] rfl)
            refine zz_if_ge (tgt := 140) hx hb dX12_distribute_130 (by decide) hq (fun hq => ?_) (fun hq => ?_)
            · refine lv_iload hx hb dX12_distribute_140 (lv_at hl 0 rfl) ?_
              exact J142 x23 _ _ _ hq hB (lv_sub hl [1, 2, 3, 4] rfl)
            · refine lv_iload hx hb dX12_distribute_133 (lv_at hl 0 rfl) ?_
              refine lv_iload_n hx hb dX12_distribute_135 rfl (lv_at hl 3 rfl) ?_
              refine lv_iadd hx hb dX12_distribute_136 ?_
              refine lv_goto (tgt := 142) hx hb dX12_distribute_137 (by decide) ?_
              exact J142 (x23 + x11) _ _ _ hq hB (lv_sub hl [1, 2, 3, 4] rfl)
          · refine lv_iload_n hx hb dX12_distribute_81 rfl (lv_at hl 3 rfl) ?_
            refine lv_aload_n hx hb dX12_distribute_82 rfl (lv_at hl 0 rfl) ?_
            refine zz_getR S hT hB (C := RX12) (ref := "DiagramDeskModel") (F := TX12) (N := 24) (index := 31) 12 9 iwX12 rfl (by decide) (by decide) rfl rfl (wS wd_709) (fun _ h9 => h9) dX12_distribute_83 hq (fun a54 hq => ?_)
            refine lv_iconst (v := 2) hx hb dX12_distribute_86 (by decide) ?_
            refine lv_aload_n hx hb dX12_distribute_87 rfl (lv_at hl 0 rfl) ?_
            refine zz_getR S hT hB (C := RX12) (ref := "DiagramDeskModel") (F := TX12) (N := 24) (index := 43) 12 16 iwX12 rfl (by decide) (by decide) rfl rfl (wS wd_767) (fun _ h9 => h9) dX12_distribute_88 hq (fun a55 hq => ?_)
            refine lv_iload hx hb dX12_distribute_91 (lv_at hl 4 rfl) ?_
            refine zz_ald S hT hB dX12_distribute_93 hq (fun x56 hq => ?_)
            refine lv_imul hx hb dX12_distribute_94 ?_
            refine lv_iload_n hx hb dX12_distribute_95 rfl (lv_at hl 1 rfl) ?_
            refine lv_iadd hx hb dX12_distribute_96 ?_
            refine zz_ald S hT hB dX12_distribute_97 hq (fun x57 hq => ?_)
            refine lv_aload_n hx hb dX12_distribute_98 rfl (lv_at hl 0 rfl) ?_
            refine zz_getR S hT hB (C := RX12) (ref := "DiagramDeskModel") (F := TX12) (N := 24) (index := 28) 12 8 iwX12 rfl (by decide) (by decide) rfl rfl (wS wd_708) (fun _ h9 => h9) dX12_distribute_99 hq (fun a58 hq => ?_)
            refine lv_iconst (v := 2) hx hb dX12_distribute_102 (by decide) ?_
            refine lv_aload_n hx hb dX12_distribute_103 rfl (lv_at hl 0 rfl) ?_
            refine zz_getR S hT hB (C := RX12) (ref := "DiagramDeskModel") (F := TX12) (N := 24) (index := 43) 12 16 iwX12 rfl (by decide) (by decide) rfl rfl (wS wd_767) (fun _ h9 => h9) dX12_distribute_104 hq (fun a59 hq => ?_)
            refine lv_iload hx hb dX12_distribute_107 (lv_at hl 4 rfl) ?_
            refine zz_ald S hT hB dX12_distribute_109 hq (fun x60 hq => ?_)
            refine lv_imul hx hb dX12_distribute_110 ?_
            refine lv_iload_n hx hb dX12_distribute_111 rfl (lv_at hl 1 rfl) ?_
            refine lv_iadd hx hb dX12_distribute_112 ?_
            refine zz_ald S hT hB dX12_distribute_113 hq (fun x61 hq => ?_)
            refine lv_isub hx hb dX12_distribute_114 ?_
            refine lv_isub hx hb dX12_distribute_115 ?_
            refine zz_nmI hq (fun x62 hq => ?_)
            refine lv_istore_n (lv' := [(3, .int x62), (0, .ref (ad a0)), (1, .int x1), (2, .int x11), (4, .int x22)]) hx hb dX12_distribute_116 rfl hl (by decide) rfl (fun ls hl => ?_)
            refine zz_nmV hq (fun x63 ex63 hq => ?_)
            refine lv_iinc (v := x63) (lv' := [(4, .int x63), (3, .int x62), (0, .ref (ad a0)), (1, .int x1), (2, .int x11)]) hx hb dX12_distribute_117 hl (k := 4) rfl (by rw [ex63]; rfl) (by decide) rfl (fun ls hl => ?_)
            refine lv_goto (tgt := 75) hx hb dX12_distribute_120 (by decide) ?_
            exact ih75 x62 x63 _ _ _ hq hB (lv_sub hl [2, 3, 4, 1, 0] rfl)
      exact L75 N x20 (1 : Int32) _ _ _ hq hB (lv_sub hl [3, 4, 2, 1, 0] rfl)
    · refine lv_ldc (v := -1000000) hx hb hown (hts _ (wS wd_636)) dX12_distribute_21 ?_
      exact zz_iret S hB hr hlocks dX12_distribute_23 hq
