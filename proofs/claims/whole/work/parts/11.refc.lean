def f_X12_meets_J297 (T : zT) (N : Nat) (x19 : Int32) (x20 : Int32) (s22 : zS) : Option (Int32 × zS) :=
  if x19 = 0 then (
    rZ (0 : Int32) s22)
  else (
    if x20 = 0 then (
      rZ (0 : Int32) s22)
    else (
      rZ (1 : Int32) s22))
def f_X12_meets_J257 (T : zT) (N : Nat) (x20 : Int32) (x21 : Int32) (k156 : Int32 → Int32 → Int32 → zS → Option (Int32 × zS)) (s26 : zS) (y27 : Int64) (x28 : Int32) : Option (Int32 × zS) :=
  if ¬ x20 = 0 then (
    zn (x21 + (1 : Int32)) fun x29 =>
    k156 x28 (1 : Int32) x29 s26)
  else (
    if (lg_cmp y27 (0 : Int64)) ≤ 0 then (
      zn (x21 + (1 : Int32)) fun x30 =>
      k156 x28 (0 : Int32) x30 s26)
    else (
      zn (x21 + (1 : Int32)) fun x31 =>
      k156 x28 (1 : Int32) x31 s26))
def f_X12_meets_J211 (T : zT) (N : Nat) (x6 : Int32) (x8 : Int32) (x10 : Int32) (x12 : Int32) (x19 : Int32) (x20 : Int32) (x21 : Int32) (k156 : Int32 → Int32 → Int32 → zS → Option (Int32 × zS)) (y23 : Int64) (y25 : Int64) (s26 : zS) : Option (Int32 × zS) :=
  zn ((((x10 - x6).toInt64) * (y25 - ((x8).toInt64))) - (((x12 - x8).toInt64) * (y23 - ((x6).toInt64)))) fun y27 =>
  if ¬ x19 = 0 then (
    f_X12_meets_J257 T N x20 x21 k156 s26 y27 (1 : Int32))
  else (
    if 0 ≤ (lg_cmp y27 (0 : Int64)) then (
      f_X12_meets_J257 T N x20 x21 k156 s26 y27 (0 : Int32))
    else (
      f_X12_meets_J257 T N x20 x21 k156 s26 y27 (1 : Int32)))
def f_X12_meets_J186 (T : zT) (N : Nat) (a0 : Nat) (x2 : Int32) (x6 : Int32) (x8 : Int32) (x10 : Int32) (x12 : Int32) (x19 : Int32) (x20 : Int32) (x21 : Int32) (k156 : Int32 → Int32 → Int32 → zS → Option (Int32 × zS)) (y23 : Int64) (s24 : zS) : Option (Int32 × zS) :=
  if (2 : Int32) ≤ x21 then (
    zb2 (f_X12_end T N s24 a0 x2 (1 : Int32)) fun x33 s32 =>
    f_X12_meets_J211 T N x6 x8 x10 x12 x19 x20 x21 k156 y23 ((x33).toInt64) s32)
  else (
    zb2 (f_X12_begin T N s24 a0 x2 (1 : Int32)) fun x35 s34 =>
    f_X12_meets_J211 T N x6 x8 x10 x12 x19 x20 x21 k156 y23 ((x35).toInt64) s34)
def f_X12_meets_L156 (T : zT) (N : Nat) (a0 : Nat) (x2 : Int32) (x6 : Int32) (x8 : Int32) (x10 : Int32) (x12 : Int32) (k156 : Int32 → Int32 → Int32 → zS → Option (Int32 × zS)) (x19 : Int32) (x20 : Int32) (x21 : Int32) (s22 : zS) : Option (Int32 × zS) :=
  if (4 : Int32) ≤ x21 then (
    if ¬ x6 = x10 then (
      f_X12_meets_J297 T N x19 x20 s22)
    else (
      if x8 = x12 then (
        rZ (1 : Int32) s22)
      else (
        f_X12_meets_J297 T N x19 x20 s22)))
  else (
    if ¬ (x21 - x21 / (2 : Int32) * (2 : Int32)) = 0 then (
      zb2 (f_X12_end T N s22 a0 x2 (0 : Int32)) fun x37 s36 =>
      f_X12_meets_J186 T N a0 x2 x6 x8 x10 x12 x19 x20 x21 k156 ((x37).toInt64) s36)
    else (
      zb2 (f_X12_begin T N s22 a0 x2 (0 : Int32)) fun x39 s38 =>
      f_X12_meets_J186 T N a0 x2 x6 x8 x10 x12 x19 x20 x21 k156 ((x39).toInt64) s38))
def f_X12_meets_J138 (T : zT) (N : Nat) (a0 : Nat) (x2 : Int32) (x6 : Int32) (x8 : Int32) (x10 : Int32) (x12 : Int32) (x17 : Int32) (s18 : zS) : Option (Int32 × zS) :=
  if x17 = 0 then (
    zl4 (f_X12_meets_L156 T N a0 x2 x6 x8 x10 x12) N (0 : Int32) (0 : Int32) (0 : Int32) s18)
  else (
    rZ (0 : Int32) s18)
def f_X12_meets_J111 (T : zT) (N : Nat) (a0 : Nat) (x2 : Int32) (x6 : Int32) (x8 : Int32) (x10 : Int32) (x12 : Int32) (s42 : zS) : Option (Int32 × zS) :=
  zb2 (f_X12_end T N s42 a0 x2 (1 : Int32)) fun x44 s43 =>
  if x8 < x44 then (
    f_X12_meets_J138 T N a0 x2 x6 x8 x10 x12 (0 : Int32) s43)
  else (
    zb2 (f_X12_end T N s43 a0 x2 (1 : Int32)) fun x46 s45 =>
    if x12 < x46 then (
      f_X12_meets_J138 T N a0 x2 x6 x8 x10 x12 (0 : Int32) s45)
    else (
      f_X12_meets_J138 T N a0 x2 x6 x8 x10 x12 (1 : Int32) s45))
def f_X12_meets_J82 (T : zT) (N : Nat) (a0 : Nat) (x2 : Int32) (x6 : Int32) (x8 : Int32) (x10 : Int32) (x12 : Int32) (x15 : Int32) (s16 : zS) : Option (Int32 × zS) :=
  if ¬ x15 = 0 then (
    f_X12_meets_J138 T N a0 x2 x6 x8 x10 x12 (1 : Int32) s16)
  else (
    zb2 (f_X12_begin T N s16 a0 x2 (1 : Int32)) fun x41 s40 =>
    if x41 < x8 then (
      f_X12_meets_J111 T N a0 x2 x6 x8 x10 x12 s40)
    else (
      zb2 (f_X12_begin T N s40 a0 x2 (1 : Int32)) fun x48 s47 =>
      if x12 ≤ x48 then (
        f_X12_meets_J138 T N a0 x2 x6 x8 x10 x12 (1 : Int32) s47)
      else (
        f_X12_meets_J111 T N a0 x2 x6 x8 x10 x12 s47)))
def f_X12_meets_J56 (T : zT) (N : Nat) (a0 : Nat) (x2 : Int32) (x6 : Int32) (x8 : Int32) (x10 : Int32) (x12 : Int32) (s49 : zS) : Option (Int32 × zS) :=
  zb2 (f_X12_end T N s49 a0 x2 (0 : Int32)) fun x51 s50 =>
  if x6 < x51 then (
    f_X12_meets_J82 T N a0 x2 x6 x8 x10 x12 (0 : Int32) s50)
  else (
    zb2 (f_X12_end T N s50 a0 x2 (0 : Int32)) fun x53 s52 =>
    if x10 < x53 then (
      f_X12_meets_J82 T N a0 x2 x6 x8 x10 x12 (0 : Int32) s52)
    else (
      f_X12_meets_J82 T N a0 x2 x6 x8 x10 x12 (1 : Int32) s52))
def f_X12_meets (T : zT) (N : Nat) (s0 : zS) (a0 : Nat) (x1 : Int32) (x2 : Int32) : Option (Int32 × zS) :=
  zz1 (T.1 a0 = 12) <|
  (gR T s0 a0 12 3).bind fun a5 =>
  (aI T s0 a5 13 x1).bind fun x6 =>
  (gR T s0 a0 12 4).bind fun a7 =>
  (aI T s0 a7 13 x1).bind fun x8 =>
  (gR T s0 a0 12 3).bind fun a9 =>
  (aI T s0 a9 13 (x1 + (1 : Int32))).bind fun x10 =>
  (gR T s0 a0 12 4).bind fun a11 =>
  (aI T s0 a11 13 (x1 + (1 : Int32))).bind fun x12 =>
  zb2 (f_X12_begin T N s0 a0 x2 (0 : Int32)) fun x14 s13 =>
  if x14 < x6 then (
    f_X12_meets_J56 T N a0 x2 x6 x8 x10 x12 s13)
  else (
    zb2 (f_X12_begin T N s13 a0 x2 (0 : Int32)) fun x55 s54 =>
    if x10 ≤ x55 then (
      f_X12_meets_J82 T N a0 x2 x6 x8 x10 x12 (1 : Int32) s54)
    else (
      f_X12_meets_J56 T N a0 x2 x6 x8 x10 x12 s54))
theorem k_X12_meets (T : zT) (N : Nat) (s0 : zS) (a0 : Nat) (x1 : Int32) (x2 : Int32) : ∀ q, f_X12_meets T N s0 a0 x1 x2 = some q → T.1 a0 = 12 := by
  intro q h
  unfold f_X12_meets at h
  exact zz_guard h (fun h _ => h)
set_option maxHeartbeats 4000000 in
set_option maxRecDepth 100000 in
theorem c_X12_meets (l : Launch) (D : va_G) (cy : Nat → ClassId) (T : zT) (hT : zok T) (ad : Nat → Nat) (N : Nat) (s0 : zS) (sz : Nat) (a0 : Nat) (x1 : Int32) (x2 : Int32) : ∀ (r0 : Int32) (σ0 : zS), f_X12_meets T N s0 a0 x1 x2 = some (r0, σ0) → Met l yX12_meets wsX12_meets ({ frames := 2, cells := 0, slots := 0, locals := 44 }) (va_Pc [.ref (ad a0), .int x1, .int x2] (zPre D cy T ad s0 sz)) (va_Qi (fun (r2 : Int32) (σ2 : zS) => r2 = r0 ∧ σ2 = σ0) (zAt D cy T ad (zA T ad sz)) (zA T ad sz)) 0 0 (zA T ad sz) := by
  intro r0 σ0 hq
  refine Met.ofW (cc := cX12_meets) (maxL := 17) (ret := (some .boolean)) (by decide) rfl ?_
  intro p e s m args below meth c s₁ B hml hv
  obtain ⟨hargs, hsz, hP, hK, hD0, hN⟩ := hv
  have hx := B.exec
  have hb := B.bytes
  have hr := B.returns
  have hts := atoms_spec (ws := wsX12_meets) B.pre
  have hown : s.vm.findClass RX12 = some m.cls := findClass_of_methodNamed B.named
  have hlocks := B.notSynchronized
  have S : CallFix p m c cX12_meets 17 s args wsX12_meets RX12 := ⟨hx, hb, hml, hown, hts⟩
  subst hsz
  have hB : zB D cy T ad (zA T ad s.heap.size) s.heap s0 s.heap [] s := zz_entry hP hK hD0 hN
  obtain ⟨ls, hent, hl⟩ := zz_ent m hargs (n := 17) (Nat.le_of_ble_eq_true rfl)
  rw [hent]
  have hl : lv_has ls 17 [(0, .ref (ad a0)), (1, .int x1), (2, .int x2)] := hl
  have iwX12 : ∀ w ∈ u_ws RX12 TX12 24, w ∈ wsX12_meets := fun w h => wS (inWX12 w h)
  unfold f_X12_meets at hq
  refine zz_guard hq (fun hk0 hq => ?_)
  refine lv_aload_n hx hb dX12_meets_0 rfl (lv_at hl 0 rfl) ?_
  refine zz_getR S hT hB (C := RX12) (ref := "DiagramDeskModel") (F := TX12) (N := 24) (index := 16) 12 3 iwX12 rfl (by decide) (by decide) rfl rfl (wS wd_668) (fun _ h9 => h9) dX12_meets_1 hq (fun a5 hq => ?_)
  refine lv_iload_n hx hb dX12_meets_4 rfl (lv_at hl 1 rfl) ?_
  refine zz_ald S hT hB dX12_meets_5 hq (fun x6 hq => ?_)
  refine lv_istore_n (lv' := [(3, .int x6), (0, .ref (ad a0)), (1, .int x1), (2, .int x2)]) hx hb dX12_meets_6 rfl hl (by decide) rfl (fun ls hl => ?_)
  refine lv_aload_n hx hb dX12_meets_7 rfl (lv_at hl 1 rfl) ?_
  refine zz_getR S hT hB (C := RX12) (ref := "DiagramDeskModel") (F := TX12) (N := 24) (index := 19) 12 4 iwX12 rfl (by decide) (by decide) rfl rfl (wS wd_670) (fun _ h9 => h9) dX12_meets_8 hq (fun a7 hq => ?_)
  refine lv_iload_n hx hb dX12_meets_11 rfl (lv_at hl 2 rfl) ?_
  refine zz_ald S hT hB dX12_meets_12 hq (fun x8 hq => ?_)
  refine lv_istore (lv' := [(4, .int x8), (3, .int x6), (0, .ref (ad a0)), (1, .int x1), (2, .int x2)]) hx hb dX12_meets_13 hl (by decide) rfl (fun ls hl => ?_)
  refine lv_aload_n hx hb dX12_meets_15 rfl (lv_at hl 2 rfl) ?_
  refine zz_getR S hT hB (C := RX12) (ref := "DiagramDeskModel") (F := TX12) (N := 24) (index := 16) 12 3 iwX12 rfl (by decide) (by decide) rfl rfl (wS wd_668) (fun _ h9 => h9) dX12_meets_16 hq (fun a9 hq => ?_)
  refine lv_iload_n hx hb dX12_meets_19 rfl (lv_at hl 3 rfl) ?_
  refine lv_iconst (v := 1) hx hb dX12_meets_20 (by decide) ?_
  refine lv_iadd hx hb dX12_meets_21 ?_
  refine zz_ald S hT hB dX12_meets_22 hq (fun x10 hq => ?_)
  refine lv_istore (lv' := [(5, .int x10), (4, .int x8), (3, .int x6), (0, .ref (ad a0)), (1, .int x1), (2, .int x2)]) hx hb dX12_meets_23 hl (by decide) rfl (fun ls hl => ?_)
  refine lv_aload_n hx hb dX12_meets_25 rfl (lv_at hl 3 rfl) ?_
  refine zz_getR S hT hB (C := RX12) (ref := "DiagramDeskModel") (F := TX12) (N := 24) (index := 19) 12 4 iwX12 rfl (by decide) (by decide) rfl rfl (wS wd_670) (fun _ h9 => h9) dX12_meets_26 hq (fun a11 hq => ?_)
  refine lv_iload_n hx hb dX12_meets_29 rfl (lv_at hl 4 rfl) ?_
  refine lv_iconst (v := 1) hx hb dX12_meets_30 (by decide) ?_
  refine lv_iadd hx hb dX12_meets_31 ?_
  refine zz_ald S hT hB dX12_meets_32 hq (fun x12 hq => ?_)
  refine lv_istore (lv' := [(6, .int x12), (5, .int x10), (4, .int x8), (3, .int x6), (0, .ref (ad a0)), (1, .int x1), (2, .int x2)]) hx hb dX12_meets_33 hl (by decide) rfl (fun ls hl => ?_)
  refine lv_iload_n hx hb dX12_meets_35 rfl (lv_at hl 3 rfl) ?_
  refine lv_aload_n hx hb dX12_meets_36 rfl (lv_at hl 4 rfl) ?_
  refine lv_iload_n hx hb dX12_meets_37 rfl (lv_at hl 6 rfl) ?_
  refine lv_iconst (v := 0) hx hb dX12_meets_38 (by decide) ?_
  refine zz_callVi S hT hB (As := [.int x2, .int (0 : Int32)]) (b := a0) (o := f_X12_begin T N s0 a0 x2 (0 : Int32)) (c_X12_begin l D cy T hT ad N s0 _ a0 x2 (0 : Int32)) (cwV 2 hts (gV wSub wd_645 wd_646 wd_647 wd_572 wd_648) rfl rfl rfl (by decide +kernel) ⟨Nat.le_of_ble_eq_true rfl, Nat.le_of_ble_eq_true rfl⟩) (F := TX12) (NF := 24) 12 rfl (by decide) (k_X12_begin T N s0 a0 x2 (0 : Int32)) rfl hl.1 rfl (Nat.le_of_ble_eq_true rfl) dX12_meets_39 hq (fun x14 s13 H locs hq hB => ?_)
  have J82 : ∀ (x15 : Int32) (s16 : zS) (H : Heap) (locs : List Loc) (ls : Array Slot), f_X12_meets_J82 T N a0 x2 x6 x8 x10 x12 x15 s16 = some (r0, σ0) → zB D cy T ad (zA T ad s.heap.size) s.heap s16 H locs s → lv_has ls 17 [(0, .ref (ad a0)), (2, .int x2), (3, .int x6), (4, .int x8), (5, .int x10), (6, .int x12)] → W p l e (headSpec wsX12_meets ({ frames := 2, cells := 0, slots := 0, locals := 44 } : Room)).room s m args below meth c H locs 0 0 (MQ below (va_Qi (fun (r2 : Int32) (σ2 : zS) => r2 = r0 ∧ σ2 = σ0) (zAt D cy T ad (zA T ad s.heap.size)) (zA T ad s.heap.size)) args s 0 0 (zA T ad s.heap.size)) (F0 m 82 ls [.int x15]) := by
    intro x15 s16 H locs ls hq hB hl
    unfold f_X12_meets_J82 at hq
    refine lv_istore (lv' := [(7, .int x15), (0, .ref (ad a0)), (2, .int x2), (3, .int x6), (4, .int x8), (5, .int x10), (6, .int x12)]) hx hb dX12_meets_82 hl (by decide) rfl (fun ls hl => ?_)
    refine lv_iload hx hb dX12_meets_84 (lv_at hl 0 rfl) ?_
    have J138 : ∀ (x17 : Int32) (s18 : zS) (H : Heap) (locs : List Loc) (ls : Array Slot), f_X12_meets_J138 T N a0 x2 x6 x8 x10 x12 x17 s18 = some (r0, σ0) → zB D cy T ad (zA T ad s.heap.size) s.heap s18 H locs s → lv_has ls 17 [(0, .ref (ad a0)), (2, .int x2), (3, .int x6), (4, .int x8), (5, .int x10), (6, .int x12)] → W p l e (headSpec wsX12_meets ({ frames := 2, cells := 0, slots := 0, locals := 44 } : Room)).room s m args below meth c H locs 0 0 (MQ below (va_Qi (fun (r2 : Int32) (σ2 : zS) => r2 = r0 ∧ σ2 = σ0) (zAt D cy T ad (zA T ad s.heap.size)) (zA T ad s.heap.size)) args s 0 0 (zA T ad s.heap.size)) (F0 m 138 ls [.int x17]) := by
      intro x17 s18 H locs ls hq hB hl
      unfold f_X12_meets_J138 at hq
      refine lv_istore (lv' := [(7, .int x17), (0, .ref (ad a0)), (2, .int x2), (3, .int x6), (4, .int x8), (5, .int x10), (6, .int x12)]) hx hb dX12_meets_138 hl (by decide) rfl (fun ls hl => ?_)
      refine lv_iload hx hb dX12_meets_140 (lv_at hl 0 rfl) ?_
      refine zz_if_eq (tgt := 147) hx hb dX12_meets_142 (by decide) hq (fun hq => ?_) (fun hq => ?_)
      · refine lv_iconst (v := 0) hx hb dX12_meets_147 (by decide) ?_
        refine lv_istore (lv' := [(8, .int (0 : Int32)), (7, .int x17), (0, .ref (ad a0)), (2, .int x2), (3, .int x6), (4, .int x8), (5, .int x10), (6, .int x12)]) hx hb dX12_meets_148 hl (by decide) rfl (fun ls hl => ?_)
        refine lv_iconst (v := 0) hx hb dX12_meets_150 (by decide) ?_
        refine lv_istore (lv' := [(9, .int (0 : Int32)), (8, .int (0 : Int32)), (7, .int x17), (0, .ref (ad a0)), (2, .int x2), (3, .int x6), (4, .int x8), (5, .int x10), (6, .int x12)]) hx hb dX12_meets_151 hl (by decide) rfl (fun ls hl => ?_)
        refine lv_iconst (v := 0) hx hb dX12_meets_153 (by decide) ?_
        refine lv_istore (lv' := [(10, .int (0 : Int32)), (9, .int (0 : Int32)), (8, .int (0 : Int32)), (7, .int x17), (0, .ref (ad a0)), (2, .int x2), (3, .int x6), (4, .int x8), (5, .int x10), (6, .int x12)]) hx hb dX12_meets_154 hl (by decide) rfl (fun ls hl => ?_)
        have L156 : ∀ (n : Nat) (x19 : Int32) (x20 : Int32) (x21 : Int32) (s22 : zS) (H : Heap) (locs : List Loc) (ls : Array Slot), zl4 (f_X12_meets_L156 T N a0 x2 x6 x8 x10 x12) n x19 x20 x21 s22 = some (r0, σ0) → zB D cy T ad (zA T ad s.heap.size) s.heap s22 H locs s → lv_has ls 17 [(0, .ref (ad a0)), (2, .int x2), (3, .int x6), (4, .int x8), (5, .int x10), (6, .int x12), (8, .int x19), (9, .int x20), (10, .int x21)] → W p l e (headSpec wsX12_meets ({ frames := 2, cells := 0, slots := 0, locals := 44 } : Room)).room s m args below meth c H locs 0 0 (MQ below (va_Qi (fun (r2 : Int32) (σ2 : zS) => r2 = r0 ∧ σ2 = σ0) (zAt D cy T ad (zA T ad s.heap.size)) (zA T ad s.heap.size)) args s 0 0 (zA T ad s.heap.size)) (F0 m 156 ls []) := by
          intro n
          induction n with
          | zero => intro x19 x20 x21 s22 H locs ls hq; exact zz_none hq
          | succ n ih156 =>
            intro x19 x20 x21 s22 H locs ls hq hB hl
            rw [zl4] at hq
            generalize zl4 (f_X12_meets_L156 T N a0 x2 x6 x8 x10 x12) n = k156 at ih156 hq
            unfold f_X12_meets_L156 at hq
            refine lv_iload hx hb dX12_meets_156 (lv_at hl 8 rfl) ?_
            refine lv_iconst (v := 4) hx hb dX12_meets_158 (by decide) ?_
            refine zz_icmp_ge (tgt := 284) hx hb dX12_meets_159 (by decide) hq (fun hq => ?_) (fun hq => ?_)
            · refine lv_iload_n hx hb dX12_meets_284 rfl (lv_at hl 2 rfl) ?_
              refine lv_iload hx hb dX12_meets_285 (lv_at hl 4 rfl) ?_
              have J297 : ∀ (H : Heap) (locs : List Loc) (ls : Array Slot), f_X12_meets_J297 T N x19 x20 s22 = some (r0, σ0) → zB D cy T ad (zA T ad s.heap.size) s.heap s22 H locs s → lv_has ls 17 [(8, .int x19), (9, .int x20)] → W p l e (headSpec wsX12_meets ({ frames := 2, cells := 0, slots := 0, locals := 44 } : Room)).room s m args below meth c H locs 0 0 (MQ below (va_Qi (fun (r2 : Int32) (σ2 : zS) => r2 = r0 ∧ σ2 = σ0) (zAt D cy T ad (zA T ad s.heap.size)) (zA T ad s.heap.size)) args s 0 0 (zA T ad s.heap.size)) (F0 m 297 ls []) := by
                intro H locs ls hq hB hl
                unfold f_X12_meets_J297 at hq
                refine lv_iload hx hb dX12_meets_297 (lv_at hl 0 rfl) ?_
                refine zz_if_eq (tgt := 311) hx hb dX12_meets_299 (by decide) hq (fun hq => ?_) (fun hq => ?_)
                · refine lv_iconst (v := 0) hx hb dX12_meets_311 (by decide) ?_
                  exact zz_zret S hB hr hlocks dX12_meets_312 hq
                · refine lv_iload hx hb dX12_meets_302 (lv_at hl 1 rfl) ?_
                  refine zz_if_eq (tgt := 311) hx hb dX12_meets_304 (by decide) hq (fun hq => ?_) (fun hq => ?_)
                  · refine lv_iconst (v := 0) hx hb dX12_meets_311 (by decide) ?_
                    exact zz_zret S hB hr hlocks dX12_meets_312 hq
                  · refine lv_iconst (v := 1) hx hb dX12_meets_307 (by decide) ?_
                    refine lv_goto (tgt := 312) hx hb dX12_meets_308 (by decide) ?_
                    exact zz_zret S hB hr hlocks dX12_meets_312 hq
              refine zz_icmp_ne (tgt := 297) hx hb dX12_meets_287 (by decide) hq (fun hq => ?_) (fun hq => ?_)
              · exact J297  _ _ _ hq hB (lv_sub hl [6, 7] rfl)
              · refine lv_iload hx hb dX12_meets_290 (lv_at hl 3 rfl) ?_
                refine lv_iload hx hb dX12_meets_292 (lv_at hl 5 rfl) ?_
                refine zz_icmp_eq (tgt := 307) hx hb dX12_meets_294 (by decide) hq (fun hq => ?_) (fun hq => ?_)
                · refine lv_iconst (v := 1) hx hb dX12_meets_307 (by decide) ?_
                  refine lv_goto (tgt := 312) hx hb dX12_meets_308 (by decide) ?_
                  exact zz_zret S hB hr hlocks dX12_meets_312 hq
                · exact J297  _ _ _ hq hB (lv_sub hl [6, 7] rfl)
            · refine lv_iload hx hb dX12_meets_162 (lv_at hl 8 rfl) ?_
              refine lv_iconst (v := 2) hx hb dX12_meets_164 (by decide) ?_
              refine lv_irem hx hb dX12_meets_165 (by decide) ?_
              have J186 : ∀ (y23 : Int64) (s24 : zS) (H : Heap) (locs : List Loc) (ls : Array Slot), f_X12_meets_J186 T N a0 x2 x6 x8 x10 x12 x19 x20 x21 k156 y23 s24 = some (r0, σ0) → zB D cy T ad (zA T ad s.heap.size) s.heap s24 H locs s → lv_has ls 17 [(0, .ref (ad a0)), (2, .int x2), (3, .int x6), (4, .int x8), (5, .int x10), (6, .int x12), (8, .int x19), (9, .int x20), (10, .int x21)] → W p l e (headSpec wsX12_meets ({ frames := 2, cells := 0, slots := 0, locals := 44 } : Room)).room s m args below meth c H locs 0 0 (MQ below (va_Qi (fun (r2 : Int32) (σ2 : zS) => r2 = r0 ∧ σ2 = σ0) (zAt D cy T ad (zA T ad s.heap.size)) (zA T ad s.heap.size)) args s 0 0 (zA T ad s.heap.size)) (F0 m 186 ls [.long y23]) := by
                intro y23 s24 H locs ls hq hB hl
                unfold f_X12_meets_J186 at hq
                refine lv_lstore (lv' := [(11, .long y23), (0, .ref (ad a0)), (2, .int x2), (3, .int x6), (4, .int x8), (5, .int x10), (6, .int x12), (8, .int x19), (9, .int x20), (10, .int x21)]) hx hb dX12_meets_186 hl (by decide) rfl (fun ls hl => ?_)
                refine lv_iload hx hb dX12_meets_188 (lv_at hl 9 rfl) ?_
                refine lv_iconst (v := 2) hx hb dX12_meets_190 (by decide) ?_
                have J211 : ∀ (y25 : Int64) (s26 : zS) (H : Heap) (locs : List Loc) (ls : Array Slot), f_X12_meets_J211 T N x6 x8 x10 x12 x19 x20 x21 k156 y23 y25 s26 = some (r0, σ0) → zB D cy T ad (zA T ad s.heap.size) s.heap s26 H locs s → lv_has ls 17 [(0, .ref (ad a0)), (2, .int x2), (3, .int x6), (4, .int x8), (5, .int x10), (6, .int x12), (8, .int x19), (9, .int x20), (10, .int x21), (11, .long y23)] → W p l e (headSpec wsX12_meets ({ frames := 2, cells := 0, slots := 0, locals := 44 } : Room)).room s m args below meth c H locs 0 0 (MQ below (va_Qi (fun (r2 : Int32) (σ2 : zS) => r2 = r0 ∧ σ2 = σ0) (zAt D cy T ad (zA T ad s.heap.size)) (zA T ad s.heap.size)) args s 0 0 (zA T ad s.heap.size)) (F0 m 211 ls [.long y25]) := by
                  intro y25 s26 H locs ls hq hB hl
                  unfold f_X12_meets_J211 at hq
                  refine lv_lstore (lv' := [(13, .long y25), (0, .ref (ad a0)), (2, .int x2), (3, .int x6), (4, .int x8), (5, .int x10), (6, .int x12), (8, .int x19), (9, .int x20), (10, .int x21), (11, .long y23)]) hx hb dX12_meets_211 hl (by decide) rfl (fun ls hl => ?_)
                  refine lv_iload hx hb dX12_meets_213 (lv_at hl 5 rfl) ?_
                  refine lv_iload_n hx hb dX12_meets_215 rfl (lv_at hl 3 rfl) ?_
                  refine lv_isub hx hb dX12_meets_216 ?_
                  refine lv_i2l (v := (x10 - x6).toInt64) hx hb dX12_meets_217 rfl ?_
                  refine lv_lload hx hb dX12_meets_218 (lv_at hl 0 rfl) ?_
                  refine lv_iload hx hb dX12_meets_220 (lv_at hl 4 rfl) ?_
                  refine lv_i2l (v := (x8).toInt64) hx hb dX12_meets_222 rfl ?_
                  refine lv_lsub hx hb dX12_meets_223 ?_
                  refine lv_lmul hx hb dX12_meets_224 ?_
                  refine lv_iload hx hb dX12_meets_225 (lv_at hl 6 rfl) ?_
                  refine lv_iload hx hb dX12_meets_227 (lv_at hl 4 rfl) ?_
                  refine lv_isub hx hb dX12_meets_229 ?_
                  refine lv_i2l (v := (x12 - x8).toInt64) hx hb dX12_meets_230 rfl ?_
                  refine lv_lload hx hb dX12_meets_231 (lv_at hl 10 rfl) ?_
                  refine lv_iload_n hx hb dX12_meets_233 rfl (lv_at hl 3 rfl) ?_
                  refine lv_i2l (v := (x6).toInt64) hx hb dX12_meets_234 rfl ?_
                  refine lv_lsub hx hb dX12_meets_235 ?_
                  refine lv_lmul hx hb dX12_meets_236 ?_
                  refine lv_lsub hx hb dX12_meets_237 ?_
                  refine zz_nmJ hq (fun y27 hq => ?_)
                  refine lv_lstore (lv' := [(15, .long y27), (13, .long y25), (0, .ref (ad a0)), (2, .int x2), (3, .int x6), (4, .int x8), (5, .int x10), (6, .int x12), (8, .int x19), (9, .int x20), (10, .int x21), (11, .long y23)]) hx hb dX12_meets_238 hl (by decide) rfl (fun ls hl => ?_)
                  refine lv_iload hx hb dX12_meets_240 (lv_at hl 8 rfl) ?_
                  have J257 : ∀ (x28 : Int32) (H : Heap) (locs : List Loc) (ls : Array Slot), f_X12_meets_J257 T N x20 x21 k156 s26 y27 x28 = some (r0, σ0) → zB D cy T ad (zA T ad s.heap.size) s.heap s26 H locs s → lv_has ls 17 [(0, .ref (ad a0)), (2, .int x2), (3, .int x6), (4, .int x8), (5, .int x10), (6, .int x12), (9, .int x20), (10, .int x21), (15, .long y27)] → W p l e (headSpec wsX12_meets ({ frames := 2, cells := 0, slots := 0, locals := 44 } : Room)).room s m args below meth c H locs 0 0 (MQ below (va_Qi (fun (r2 : Int32) (σ2 : zS) => r2 = r0 ∧ σ2 = σ0) (zAt D cy T ad (zA T ad s.heap.size)) (zA T ad s.heap.size)) args s 0 0 (zA T ad s.heap.size)) (F0 m 257 ls [.int x28]) := by
                    intro x28 H locs ls hq hB hl
                    unfold f_X12_meets_J257 at hq
                    refine lv_istore (lv' := [(8, .int x28), (0, .ref (ad a0)), (2, .int x2), (3, .int x6), (4, .int x8), (5, .int x10), (6, .int x12), (9, .int x20), (10, .int x21), (15, .long y27)]) hx hb dX12_meets_257 hl (by decide) rfl (fun ls hl => ?_)
                    refine lv_iload hx hb dX12_meets_259 (lv_at hl 7 rfl) ?_
                    refine zz_if_ne (tgt := 271) hx hb dX12_meets_261 (by decide) hq (fun hq => ?_) (fun hq => ?_)
                    · refine lv_iconst (v := 1) hx hb dX12_meets_271 (by decide) ?_
                      refine lv_goto (tgt := 276) hx hb dX12_meets_272 (by decide) ?_
                      refine lv_istore (lv' := [(9, .int (1 : Int32)), (8, .int x28), (0, .ref (ad a0)), (2, .int x2), (3, .int x6), (4, .int x8), (5, .int x10), (6, .int x12), (10, .int x21), (15, .long y27)]) hx hb dX12_meets_276 hl (by decide) rfl (fun ls hl => ?_)
                      refine zz_nmV hq (fun x29 ex29 hq => ?_)
                      refine lv_iinc (v := x29) (lv' := [(10, .int x29), (9, .int (1 : Int32)), (8, .int x28), (0, .ref (ad a0)), (2, .int x2), (3, .int x6), (4, .int x8), (5, .int x10), (6, .int x12), (15, .long y27)]) hx hb dX12_meets_278 hl (k := 8) rfl (by rw [ex29]; rfl) (by decide) rfl (fun ls hl => ?_)
                      refine lv_goto (tgt := 156) hx hb dX12_meets_281 (by decide) ?_
                      exact ih156 x28 (1 : Int32) x29 s26 _ _ _ hq hB (lv_sub hl [3, 4, 5, 6, 7, 8, 2, 1, 0] rfl)
                    · refine lv_lload hx hb dX12_meets_264 (lv_at hl 9 rfl) ?_
                      refine lv_lconst (v := 0) hx hb dX12_meets_266 (by decide) ?_
                      refine W.lcmp hx hb dX12_meets_267 ?_
                      refine zz_if_le (tgt := 275) hx hb dX12_meets_268 (by decide) hq (fun hq => ?_) (fun hq => ?_)
                      · refine lv_iconst (v := 0) hx hb dX12_meets_275 (by decide) ?_
                        refine lv_istore (lv' := [(9, .int (0 : Int32)), (8, .int x28), (0, .ref (ad a0)), (2, .int x2), (3, .int x6), (4, .int x8), (5, .int x10), (6, .int x12), (10, .int x21), (15, .long y27)]) hx hb dX12_meets_276 hl (by decide) rfl (fun ls hl => ?_)
                        refine zz_nmV hq (fun x30 ex30 hq => ?_)
                        refine lv_iinc (v := x30) (lv' := [(10, .int x30), (9, .int (0 : Int32)), (8, .int x28), (0, .ref (ad a0)), (2, .int x2), (3, .int x6), (4, .int x8), (5, .int x10), (6, .int x12), (15, .long y27)]) hx hb dX12_meets_278 hl (k := 8) rfl (by rw [ex30]; rfl) (by decide) rfl (fun ls hl => ?_)
                        refine lv_goto (tgt := 156) hx hb dX12_meets_281 (by decide) ?_
                        exact ih156 x28 (0 : Int32) x30 s26 _ _ _ hq hB (lv_sub hl [3, 4, 5, 6, 7, 8, 2, 1, 0] rfl)
                      · refine lv_iconst (v := 1) hx hb dX12_meets_271 (by decide) ?_
                        refine lv_goto (tgt := 276) hx hb dX12_meets_272 (by decide) ?_
                        refine lv_istore (lv' := [(9, .int (1 : Int32)), (8, .int x28), (0, .ref (ad a0)), (2, .int x2), (3, .int x6), (4, .int x8), (5, .int x10), (6, .int x12), (10, .int x21), (15, .long y27)]) hx hb dX12_meets_276 hl (by decide) rfl (fun ls hl => ?_)
                        refine zz_nmV hq (fun x31 ex31 hq => ?_)
                        refine lv_iinc (v := x31) (lv' := [(10, .int x31), (9, .int (1 : Int32)), (8, .int x28), (0, .ref (ad a0)), (2, .int x2), (3, .int x6), (4, .int x8), (5, .int x10), (6, .int x12), (15, .long y27)]) hx hb dX12_meets_278 hl (k := 8) rfl (by rw [ex31]; rfl) (by decide) rfl (fun ls hl => ?_)
                        refine lv_goto (tgt := 156) hx hb dX12_meets_281 (by decide) ?_
                        exact ih156 x28 (1 : Int32) x31 s26 _ _ _ hq hB (lv_sub hl [3, 4, 5, 6, 7, 8, 2, 1, 0] rfl)
                  refine zz_if_ne (tgt := 252) hx hb dX12_meets_242 (by decide) hq (fun hq => ?_) (fun hq => ?_)
                  · refine lv_iconst (v := 1) hx hb dX12_meets_252 (by decide) ?_
                    refine lv_goto (tgt := 257) hx hb dX12_meets_253 (by decide) ?_
                    exact J257 (1 : Int32) _ _ _ hq hB (lv_sub hl [2, 3, 4, 5, 6, 7, 9, 10, 0] rfl)
                  · refine lv_lload hx hb dX12_meets_245 (lv_at hl 0 rfl) ?_
                    refine lv_lconst (v := 0) hx hb dX12_meets_247 (by decide) ?_
                    refine W.lcmp hx hb dX12_meets_248 ?_
                    refine zz_if_ge (tgt := 256) hx hb dX12_meets_249 (by decide) hq (fun hq => ?_) (fun hq => ?_)
                    · refine lv_iconst (v := 0) hx hb dX12_meets_256 (by decide) ?_
                      exact J257 (0 : Int32) _ _ _ hq hB (lv_sub hl [2, 3, 4, 5, 6, 7, 9, 10, 0] rfl)
                    · refine lv_iconst (v := 1) hx hb dX12_meets_252 (by decide) ?_
                      refine lv_goto (tgt := 257) hx hb dX12_meets_253 (by decide) ?_
                      exact J257 (1 : Int32) _ _ _ hq hB (lv_sub hl [2, 3, 4, 5, 6, 7, 9, 10, 0] rfl)
                refine zz_icmp_ge (tgt := 204) hx hb dX12_meets_191 (by decide) hq (fun hq => ?_) (fun hq => ?_)
                · refine lv_aload_n hx hb dX12_meets_204 rfl (lv_at hl 1 rfl) ?_
                  refine lv_iload_n hx hb dX12_meets_205 rfl (lv_at hl 2 rfl) ?_
                  refine lv_iconst (v := 1) hx hb dX12_meets_206 (by decide) ?_
                  refine zz_callVi S hT hB (As := [.int x2, .int (1 : Int32)]) (b := a0) (o := f_X12_end T N s24 a0 x2 (1 : Int32)) (c_X12_end l D cy T hT ad N s24 _ a0 x2 (1 : Int32)) (cwV 2 hts (gV wSub wd_641 wd_642 wd_643 wd_572 wd_644) rfl rfl rfl (by decide +kernel) ⟨Nat.le_of_ble_eq_true rfl, Nat.le_of_ble_eq_true rfl⟩) (F := TX12) (NF := 24) 12 rfl (by decide) (k_X12_end T N s24 a0 x2 (1 : Int32)) rfl hl.1 rfl (Nat.le_of_ble_eq_true rfl) dX12_meets_207 hq (fun x33 s32 H locs hq hB => ?_)
                  refine lv_i2l (v := (x33).toInt64) hx hb dX12_meets_210 rfl ?_
                  exact J211 ((x33).toInt64) s32 _ _ _ hq hB (lv_sub hl [1, 2, 3, 4, 5, 6, 7, 8, 9, 0] rfl)
                · refine lv_aload_n hx hb dX12_meets_194 rfl (lv_at hl 1 rfl) ?_
                  refine lv_iload_n hx hb dX12_meets_195 rfl (lv_at hl 2 rfl) ?_
                  refine lv_iconst (v := 1) hx hb dX12_meets_196 (by decide) ?_
                  refine zz_callVi S hT hB (As := [.int x2, .int (1 : Int32)]) (b := a0) (o := f_X12_begin T N s24 a0 x2 (1 : Int32)) (c_X12_begin l D cy T hT ad N s24 _ a0 x2 (1 : Int32)) (cwV 2 hts (gV wSub wd_645 wd_646 wd_647 wd_572 wd_648) rfl rfl rfl (by decide +kernel) ⟨Nat.le_of_ble_eq_true rfl, Nat.le_of_ble_eq_true rfl⟩) (F := TX12) (NF := 24) 12 rfl (by decide) (k_X12_begin T N s24 a0 x2 (1 : Int32)) rfl hl.1 rfl (Nat.le_of_ble_eq_true rfl) dX12_meets_197 hq (fun x35 s34 H locs hq hB => ?_)
                  refine lv_i2l (v := (x35).toInt64) hx hb dX12_meets_200 rfl ?_
                  refine lv_goto (tgt := 211) hx hb dX12_meets_201 (by decide) ?_
                  exact J211 ((x35).toInt64) s34 _ _ _ hq hB (lv_sub hl [1, 2, 3, 4, 5, 6, 7, 8, 9, 0] rfl)
              refine zz_if_ne (tgt := 179) hx hb dX12_meets_166 (by decide) hq (fun hq => ?_) (fun hq => ?_)
              · refine lv_aload_n hx hb dX12_meets_179 rfl (lv_at hl 0 rfl) ?_
                refine lv_iload_n hx hb dX12_meets_180 rfl (lv_at hl 1 rfl) ?_
                refine lv_iconst (v := 0) hx hb dX12_meets_181 (by decide) ?_
                refine zz_callVi S hT hB (As := [.int x2, .int (0 : Int32)]) (b := a0) (o := f_X12_end T N s22 a0 x2 (0 : Int32)) (c_X12_end l D cy T hT ad N s22 _ a0 x2 (0 : Int32)) (cwV 2 hts (gV wSub wd_641 wd_642 wd_643 wd_572 wd_644) rfl rfl rfl (by decide +kernel) ⟨Nat.le_of_ble_eq_true rfl, Nat.le_of_ble_eq_true rfl⟩) (F := TX12) (NF := 24) 12 rfl (by decide) (k_X12_end T N s22 a0 x2 (0 : Int32)) rfl hl.1 rfl (Nat.le_of_ble_eq_true rfl) dX12_meets_182 hq (fun x37 s36 H locs hq hB => ?_)
                refine lv_i2l (v := (x37).toInt64) hx hb dX12_meets_185 rfl ?_
                exact J186 ((x37).toInt64) s36 _ _ _ hq hB (lv_sub hl [0, 1, 2, 3, 4, 5, 6, 7, 8] rfl)
              · refine lv_aload_n hx hb dX12_meets_169 rfl (lv_at hl 0 rfl) ?_
                refine lv_iload_n hx hb dX12_meets_170 rfl (lv_at hl 1 rfl) ?_
                refine lv_iconst (v := 0) hx hb dX12_meets_171 (by decide) ?_
                refine zz_callVi S hT hB (As := [.int x2, .int (0 : Int32)]) (b := a0) (o := f_X12_begin T N s22 a0 x2 (0 : Int32)) (c_X12_begin l D cy T hT ad N s22 _ a0 x2 (0 : Int32)) (cwV 2 hts (gV wSub wd_645 wd_646 wd_647 wd_572 wd_648) rfl rfl rfl (by decide +kernel) ⟨Nat.le_of_ble_eq_true rfl, Nat.le_of_ble_eq_true rfl⟩) (F := TX12) (NF := 24) 12 rfl (by decide) (k_X12_begin T N s22 a0 x2 (0 : Int32)) rfl hl.1 rfl (Nat.le_of_ble_eq_true rfl) dX12_meets_172 hq (fun x39 s38 H locs hq hB => ?_)
                refine lv_i2l (v := (x39).toInt64) hx hb dX12_meets_175 rfl ?_
                refine lv_goto (tgt := 186) hx hb dX12_meets_176 (by decide) ?_
                exact J186 ((x39).toInt64) s38 _ _ _ hq hB (lv_sub hl [0, 1, 2, 3, 4, 5, 6, 7, 8] rfl)
        exact L156 N (0 : Int32) (0 : Int32) (0 : Int32) s18 _ _ _ hq hB (lv_sub hl [4, 5, 6, 7, 8, 9, 2, 1, 0] rfl)
      · refine lv_iconst (v := 0) hx hb dX12_meets_145 (by decide) ?_
        exact zz_zret S hB hr hlocks dX12_meets_146 hq
    refine zz_if_ne (tgt := 133) hx hb dX12_meets_86 (by decide) hq (fun hq => ?_) (fun hq => ?_)
    · refine lv_iconst (v := 1) hx hb dX12_meets_133 (by decide) ?_
      refine lv_goto (tgt := 138) hx hb dX12_meets_134 (by decide) ?_
      exact J138 (1 : Int32) s16 _ _ _ hq hB (lv_sub hl [1, 2, 3, 4, 5, 6] rfl)
    · refine lv_iload hx hb dX12_meets_89 (lv_at hl 4 rfl) ?_
      refine lv_aload_n hx hb dX12_meets_91 rfl (lv_at hl 1 rfl) ?_
      refine lv_iload_n hx hb dX12_meets_92 rfl (lv_at hl 2 rfl) ?_
      refine lv_iconst (v := 1) hx hb dX12_meets_93 (by decide) ?_
      refine zz_callVi S hT hB (As := [.int x2, .int (1 : Int32)]) (b := a0) (o := f_X12_begin T N s16 a0 x2 (1 : Int32)) (c_X12_begin l D cy T hT ad N s16 _ a0 x2 (1 : Int32)) (cwV 2 hts (gV wSub wd_645 wd_646 wd_647 wd_572 wd_648) rfl rfl rfl (by decide +kernel) ⟨Nat.le_of_ble_eq_true rfl, Nat.le_of_ble_eq_true rfl⟩) (F := TX12) (NF := 24) 12 rfl (by decide) (k_X12_begin T N s16 a0 x2 (1 : Int32)) rfl hl.1 rfl (Nat.le_of_ble_eq_true rfl) dX12_meets_94 hq (fun x41 s40 H locs hq hB => ?_)
      have J111 : ∀ (s42 : zS) (H : Heap) (locs : List Loc) (ls : Array Slot), f_X12_meets_J111 T N a0 x2 x6 x8 x10 x12 s42 = some (r0, σ0) → zB D cy T ad (zA T ad s.heap.size) s.heap s42 H locs s → lv_has ls 17 [(0, .ref (ad a0)), (2, .int x2), (3, .int x6), (4, .int x8), (5, .int x10), (6, .int x12)] → W p l e (headSpec wsX12_meets ({ frames := 2, cells := 0, slots := 0, locals := 44 } : Room)).room s m args below meth c H locs 0 0 (MQ below (va_Qi (fun (r2 : Int32) (σ2 : zS) => r2 = r0 ∧ σ2 = σ0) (zAt D cy T ad (zA T ad s.heap.size)) (zA T ad s.heap.size)) args s 0 0 (zA T ad s.heap.size)) (F0 m 111 ls []) := by
        intro s42 H locs ls hq hB hl
        unfold f_X12_meets_J111 at hq
        refine lv_iload hx hb dX12_meets_111 (lv_at hl 3 rfl) ?_
        refine lv_aload_n hx hb dX12_meets_113 rfl (lv_at hl 0 rfl) ?_
        refine lv_iload_n hx hb dX12_meets_114 rfl (lv_at hl 1 rfl) ?_
        refine lv_iconst (v := 1) hx hb dX12_meets_115 (by decide) ?_
        refine zz_callVi S hT hB (As := [.int x2, .int (1 : Int32)]) (b := a0) (o := f_X12_end T N s42 a0 x2 (1 : Int32)) (c_X12_end l D cy T hT ad N s42 _ a0 x2 (1 : Int32)) (cwV 2 hts (gV wSub wd_641 wd_642 wd_643 wd_572 wd_644) rfl rfl rfl (by decide +kernel) ⟨Nat.le_of_ble_eq_true rfl, Nat.le_of_ble_eq_true rfl⟩) (F := TX12) (NF := 24) 12 rfl (by decide) (k_X12_end T N s42 a0 x2 (1 : Int32)) rfl hl.1 rfl (Nat.le_of_ble_eq_true rfl) dX12_meets_116 hq (fun x44 s43 H locs hq hB => ?_)
        refine zz_icmp_lt (tgt := 137) hx hb dX12_meets_119 (by decide) hq (fun hq => ?_) (fun hq => ?_)
        · refine lv_iconst (v := 0) hx hb dX12_meets_137 (by decide) ?_
          exact J138 (0 : Int32) s43 _ _ _ hq hB (lv_sub hl [0, 1, 2, 3, 4, 5] rfl)
        · refine lv_iload hx hb dX12_meets_122 (lv_at hl 5 rfl) ?_
          refine lv_aload_n hx hb dX12_meets_124 rfl (lv_at hl 0 rfl) ?_
          refine lv_iload_n hx hb dX12_meets_125 rfl (lv_at hl 1 rfl) ?_
          refine lv_iconst (v := 1) hx hb dX12_meets_126 (by decide) ?_
          refine zz_callVi S hT hB (As := [.int x2, .int (1 : Int32)]) (b := a0) (o := f_X12_end T N s43 a0 x2 (1 : Int32)) (c_X12_end l D cy T hT ad N s43 _ a0 x2 (1 : Int32)) (cwV 2 hts (gV wSub wd_641 wd_642 wd_643 wd_572 wd_644) rfl rfl rfl (by decide +kernel) ⟨Nat.le_of_ble_eq_true rfl, Nat.le_of_ble_eq_true rfl⟩) (F := TX12) (NF := 24) 12 rfl (by decide) (k_X12_end T N s43 a0 x2 (1 : Int32)) rfl hl.1 rfl (Nat.le_of_ble_eq_true rfl) dX12_meets_127 hq (fun x46 s45 H locs hq hB => ?_)
          refine zz_icmp_lt (tgt := 137) hx hb dX12_meets_130 (by decide) hq (fun hq => ?_) (fun hq => ?_)
          · refine lv_iconst (v := 0) hx hb dX12_meets_137 (by decide) ?_
            exact J138 (0 : Int32) s45 _ _ _ hq hB (lv_sub hl [0, 1, 2, 3, 4, 5] rfl)
          · refine lv_iconst (v := 1) hx hb dX12_meets_133 (by decide) ?_
            refine lv_goto (tgt := 138) hx hb dX12_meets_134 (by decide) ?_
            exact J138 (1 : Int32) s45 _ _ _ hq hB (lv_sub hl [0, 1, 2, 3, 4, 5] rfl)
      refine zz_icmp_gt (tgt := 111) hx hb dX12_meets_97 (by decide) hq (fun hq => ?_) (fun hq => ?_)
      · exact J111 s40 _ _ _ hq hB (lv_sub hl [1, 2, 3, 4, 5, 6] rfl)
      · refine lv_iload hx hb dX12_meets_100 (lv_at hl 6 rfl) ?_
        refine lv_aload_n hx hb dX12_meets_102 rfl (lv_at hl 1 rfl) ?_
        refine lv_iload_n hx hb dX12_meets_103 rfl (lv_at hl 2 rfl) ?_
        refine lv_iconst (v := 1) hx hb dX12_meets_104 (by decide) ?_
        refine zz_callVi S hT hB (As := [.int x2, .int (1 : Int32)]) (b := a0) (o := f_X12_begin T N s40 a0 x2 (1 : Int32)) (c_X12_begin l D cy T hT ad N s40 _ a0 x2 (1 : Int32)) (cwV 2 hts (gV wSub wd_645 wd_646 wd_647 wd_572 wd_648) rfl rfl rfl (by decide +kernel) ⟨Nat.le_of_ble_eq_true rfl, Nat.le_of_ble_eq_true rfl⟩) (F := TX12) (NF := 24) 12 rfl (by decide) (k_X12_begin T N s40 a0 x2 (1 : Int32)) rfl hl.1 rfl (Nat.le_of_ble_eq_true rfl) dX12_meets_105 hq (fun x48 s47 H locs hq hB => ?_)
        refine zz_icmp_le (tgt := 133) hx hb dX12_meets_108 (by decide) hq (fun hq => ?_) (fun hq => ?_)
        · refine lv_iconst (v := 1) hx hb dX12_meets_133 (by decide) ?_
          refine lv_goto (tgt := 138) hx hb dX12_meets_134 (by decide) ?_
          exact J138 (1 : Int32) s47 _ _ _ hq hB (lv_sub hl [1, 2, 3, 4, 5, 6] rfl)
        · exact J111 s47 _ _ _ hq hB (lv_sub hl [1, 2, 3, 4, 5, 6] rfl)
  have J56 : ∀ (s49 : zS) (H : Heap) (locs : List Loc) (ls : Array Slot), f_X12_meets_J56 T N a0 x2 x6 x8 x10 x12 s49 = some (r0, σ0) → zB D cy T ad (zA T ad s.heap.size) s.heap s49 H locs s → lv_has ls 17 [(0, .ref (ad a0)), (2, .int x2), (3, .int x6), (4, .int x8), (5, .int x10), (6, .int x12)] → W p l e (headSpec wsX12_meets ({ frames := 2, cells := 0, slots := 0, locals := 44 } : Room)).room s m args below meth c H locs 0 0 (MQ below (va_Qi (fun (r2 : Int32) (σ2 : zS) => r2 = r0 ∧ σ2 = σ0) (zAt D cy T ad (zA T ad s.heap.size)) (zA T ad s.heap.size)) args s 0 0 (zA T ad s.heap.size)) (F0 m 56 ls []) := by
    intro s49 H locs ls hq hB hl
    unfold f_X12_meets_J56 at hq
    refine lv_iload_n hx hb dX12_meets_56 rfl (lv_at hl 2 rfl) ?_
    refine lv_aload_n hx hb dX12_meets_57 rfl (lv_at hl 0 rfl) ?_
    refine lv_iload_n hx hb dX12_meets_58 rfl (lv_at hl 1 rfl) ?_
    refine lv_iconst (v := 0) hx hb dX12_meets_59 (by decide) ?_
    refine zz_callVi S hT hB (As := [.int x2, .int (0 : Int32)]) (b := a0) (o := f_X12_end T N s49 a0 x2 (0 : Int32)) (c_X12_end l D cy T hT ad N s49 _ a0 x2 (0 : Int32)) (cwV 2 hts (gV wSub wd_641 wd_642 wd_643 wd_572 wd_644) rfl rfl rfl (by decide +kernel) ⟨Nat.le_of_ble_eq_true rfl, Nat.le_of_ble_eq_true rfl⟩) (F := TX12) (NF := 24) 12 rfl (by decide) (k_X12_end T N s49 a0 x2 (0 : Int32)) rfl hl.1 rfl (Nat.le_of_ble_eq_true rfl) dX12_meets_60 hq (fun x51 s50 H locs hq hB => ?_)
    refine zz_icmp_lt (tgt := 81) hx hb dX12_meets_63 (by decide) hq (fun hq => ?_) (fun hq => ?_)
    · refine lv_iconst (v := 0) hx hb dX12_meets_81 (by decide) ?_
      exact J82 (0 : Int32) s50 _ _ _ hq hB (lv_sub hl [0, 1, 2, 3, 4, 5] rfl)
    · refine lv_iload hx hb dX12_meets_66 (lv_at hl 4 rfl) ?_
      refine lv_aload_n hx hb dX12_meets_68 rfl (lv_at hl 0 rfl) ?_
      refine lv_iload_n hx hb dX12_meets_69 rfl (lv_at hl 1 rfl) ?_
      refine lv_iconst (v := 0) hx hb dX12_meets_70 (by decide) ?_
      refine zz_callVi S hT hB (As := [.int x2, .int (0 : Int32)]) (b := a0) (o := f_X12_end T N s50 a0 x2 (0 : Int32)) (c_X12_end l D cy T hT ad N s50 _ a0 x2 (0 : Int32)) (cwV 2 hts (gV wSub wd_641 wd_642 wd_643 wd_572 wd_644) rfl rfl rfl (by decide +kernel) ⟨Nat.le_of_ble_eq_true rfl, Nat.le_of_ble_eq_true rfl⟩) (F := TX12) (NF := 24) 12 rfl (by decide) (k_X12_end T N s50 a0 x2 (0 : Int32)) rfl hl.1 rfl (Nat.le_of_ble_eq_true rfl) dX12_meets_71 hq (fun x53 s52 H locs hq hB => ?_)
      refine zz_icmp_lt (tgt := 81) hx hb dX12_meets_74 (by decide) hq (fun hq => ?_) (fun hq => ?_)
      · refine lv_iconst (v := 0) hx hb dX12_meets_81 (by decide) ?_
        exact J82 (0 : Int32) s52 _ _ _ hq hB (lv_sub hl [0, 1, 2, 3, 4, 5] rfl)
      · refine lv_iconst (v := 1) hx hb dX12_meets_77 (by decide) ?_
        refine lv_goto (tgt := 82) hx hb dX12_meets_78 (by decide) ?_
        exact J82 (1 : Int32) s52 _ _ _ hq hB (lv_sub hl [0, 1, 2, 3, 4, 5] rfl)
  refine zz_icmp_gt (tgt := 56) hx hb dX12_meets_42 (by decide) hq (fun hq => ?_) (fun hq => ?_)
  · exact J56 s13 _ _ _ hq hB (lv_sub hl [4, 6, 3, 2, 1, 0] rfl)
  · refine lv_iload hx hb dX12_meets_45 (lv_at hl 1 rfl) ?_
    refine lv_aload_n hx hb dX12_meets_47 rfl (lv_at hl 4 rfl) ?_
    refine lv_iload_n hx hb dX12_meets_48 rfl (lv_at hl 6 rfl) ?_
    refine lv_iconst (v := 0) hx hb dX12_meets_49 (by decide) ?_
    refine zz_callVi S hT hB (As := [.int x2, .int (0 : Int32)]) (b := a0) (o := f_X12_begin T N s13 a0 x2 (0 : Int32)) (c_X12_begin l D cy T hT ad N s13 _ a0 x2 (0 : Int32)) (cwV 2 hts (gV wSub wd_645 wd_646 wd_647 wd_572 wd_648) rfl rfl rfl (by decide +kernel) ⟨Nat.le_of_ble_eq_true rfl, Nat.le_of_ble_eq_true rfl⟩) (F := TX12) (NF := 24) 12 rfl (by decide) (k_X12_begin T N s13 a0 x2 (0 : Int32)) rfl hl.1 rfl (Nat.le_of_ble_eq_true rfl) dX12_meets_50 hq (fun x55 s54 H locs hq hB => ?_)
    refine zz_icmp_le (tgt := 77) hx hb dX12_meets_53 (by decide) hq (fun hq => ?_) (fun hq => ?_)
    · refine lv_iconst (v := 1) hx hb dX12_meets_77 (by decide) ?_
      refine lv_goto (tgt := 82) hx hb dX12_meets_78 (by decide) ?_
      exact J82 (1 : Int32) s54 _ _ _ hq hB (lv_sub hl [4, 6, 3, 2, 1, 0] rfl)
    · exact J56 s54 _ _ _ hq hB (lv_sub hl [4, 6, 3, 2, 1, 0] rfl)
def f_X12_throughOf_L18 (T : zT) (N : Nat) (a0 : Nat) (x1 : Int32) (x6 : Int32) (k9 : Int32 → Int32 → zS → Option (Int32 × zS)) (k18 : Int32 → Int32 → zS → Option (Int32 × zS)) (x8 : Int32) (x9 : Int32) (s10 : zS) : Option (Int32 × zS) :=
  (gI T s10 a0 12 5).bind fun x11 =>
  if x11 ≤ (x9 + (1 : Int32)) then (
    zn (x6 + (1 : Int32)) fun x12 =>
    k9 x8 x12 s10)
  else (
    zb2 (f_X12_of T N s10 a0 x6 (0 : Int32)) fun x14 s13 =>
    if ¬ x14 = (1 : Int32) then (
      zn (x6 + (1 : Int32)) fun x15 =>
      k9 x8 x15 s13)
    else (
      zb2 (f_X12_isAt T N s13 a0 x1 x6) fun x17 s16 =>
      if ¬ x17 = 0 then (
        zn (x6 + (1 : Int32)) fun x18 =>
        k9 x8 x18 s16)
      else (
        zb2 (f_X12_meets T N s16 a0 x9 x6) fun x20 s19 =>
        if x20 = 0 then (
          zn (x8 ||| (0 : Int32)) fun x21 =>
          zn (x9 + (1 : Int32)) fun x22 =>
          k18 x21 x22 s19)
        else (
          zn (x8 ||| ((1 : Int32) <<< (x6 &&& 31))) fun x23 =>
          zn (x9 + (1 : Int32)) fun x24 =>
          k18 x23 x24 s19))))
def f_X12_throughOf_L9 (T : zT) (N : Nat) (a0 : Nat) (x1 : Int32) (k9 : Int32 → Int32 → zS → Option (Int32 × zS)) (x5 : Int32) (x6 : Int32) (s7 : zS) : Option (Int32 × zS) :=
  if (20 : Int32) ≤ x6 then (
    some (x5, s7))
  else (
    zl3 (f_X12_throughOf_L18 T N a0 x1 x6 k9) N x5 (0 : Int32) s7)
def f_X12_throughOf (T : zT) (N : Nat) (s0 : zS) (a0 : Nat) (x1 : Int32) : Option (Int32 × zS) :=
  zz1 (T.1 a0 = 12) <|
  (f_X12_draws T N s0 a0 x1).bind fun s4 =>
  zl3 (f_X12_throughOf_L9 T N a0 x1) N (0 : Int32) (0 : Int32) s4
theorem k_X12_throughOf (T : zT) (N : Nat) (s0 : zS) (a0 : Nat) (x1 : Int32) : ∀ q, f_X12_throughOf T N s0 a0 x1 = some q → T.1 a0 = 12 := by
  intro q h
  unfold f_X12_throughOf at h
  exact zz_guard h (fun h _ => h)
set_option maxHeartbeats 4000000 in
set_option maxRecDepth 100000 in
theorem c_X12_throughOf (l : Launch) (D : va_G) (cy : Nat → ClassId) (T : zT) (hT : zok T) (ad : Nat → Nat) (N : Nat) (s0 : zS) (sz : Nat) (a0 : Nat) (x1 : Int32) : ∀ (r0 : Int32) (σ0 : zS), f_X12_throughOf T N s0 a0 x1 = some (r0, σ0) → Met l yX12_throughOf wsX12_throughOf ({ frames := 4, cells := 0, slots := 0, locals := 95 }) (va_Pc [.ref (ad a0), .int x1] (zPre D cy T ad s0 sz)) (va_Qi (fun (r2 : Int32) (σ2 : zS) => r2 = r0 ∧ σ2 = σ0) (zAt D cy T ad (zA T ad sz)) (zA T ad sz)) 0 0 (zA T ad sz) := by
  intro r0 σ0 hq
  refine Met.ofW (cc := cX12_throughOf) (maxL := 5) (ret := (some .int)) (by decide) rfl ?_
  intro p e s m args below meth c s₁ B hml hv
  obtain ⟨hargs, hsz, hP, hK, hD0, hN⟩ := hv
  have hx := B.exec
  have hb := B.bytes
  have hr := B.returns
  have hts := atoms_spec (ws := wsX12_throughOf) B.pre
  have hown : s.vm.findClass RX12 = some m.cls := findClass_of_methodNamed B.named
  have hlocks := B.notSynchronized
  have S : CallFix p m c cX12_throughOf 5 s args wsX12_throughOf RX12 := ⟨hx, hb, hml, hown, hts⟩
  subst hsz
  have hB : zB D cy T ad (zA T ad s.heap.size) s.heap s0 s.heap [] s := zz_entry hP hK hD0 hN
  obtain ⟨ls, hent, hl⟩ := zz_ent m hargs (n := 5) (Nat.le_of_ble_eq_true rfl)
  rw [hent]
  have hl : lv_has ls 5 [(0, .ref (ad a0)), (1, .int x1)] := hl
  have iwX12 : ∀ w ∈ u_ws RX12 TX12 24, w ∈ wsX12_throughOf := fun w h => wS (inWX12 w h)
  unfold f_X12_throughOf at hq
  refine zz_guard hq (fun hk0 hq => ?_)
  refine lv_aload_n hx hb dX12_throughOf_0 rfl (lv_at hl 0 rfl) ?_
  refine lv_iload_n hx hb dX12_throughOf_1 rfl (lv_at hl 1 rfl) ?_
  refine zz_callVv S hT hB (As := [.int x1]) (b := a0) (o := f_X12_draws T N s0 a0 x1) (c_X12_draws l D cy T hT ad N s0 _ a0 x1) (cwV 1 hts (gV wSub wd_678 wd_679 wd_680 wd_572 wd_681) rfl rfl rfl (by decide +kernel) ⟨Nat.le_of_ble_eq_true rfl, Nat.le_of_ble_eq_true rfl⟩) (F := TX12) (NF := 24) 12 rfl (by decide) (k_X12_draws T N s0 a0 x1) rfl hl.1 rfl (Nat.le_of_ble_eq_true rfl) dX12_throughOf_2 hq (fun s4 H locs hq hB => ?_)
  refine lv_iconst (v := 0) hx hb dX12_throughOf_5 (by decide) ?_
  refine lv_istore_n (lv' := [(2, .int (0 : Int32)), (0, .ref (ad a0)), (1, .int x1)]) hx hb dX12_throughOf_6 rfl hl (by decide) rfl (fun ls hl => ?_)
  refine lv_iconst (v := 0) hx hb dX12_throughOf_7 (by decide) ?_
  refine lv_istore_n (lv' := [(3, .int (0 : Int32)), (2, .int (0 : Int32)), (0, .ref (ad a0)), (1, .int x1)]) hx hb dX12_throughOf_8 rfl hl (by decide) rfl (fun ls hl => ?_)
  have L9 : ∀ (n : Nat) (x5 : Int32) (x6 : Int32) (s7 : zS) (H : Heap) (locs : List Loc) (ls : Array Slot), zl3 (f_X12_throughOf_L9 T N a0 x1) n x5 x6 s7 = some (r0, σ0) → zB D cy T ad (zA T ad s.heap.size) s.heap s7 H locs s → lv_has ls 5 [(0, .ref (ad a0)), (1, .int x1), (2, .int x5), (3, .int x6)] → W p l e (headSpec wsX12_throughOf ({ frames := 4, cells := 0, slots := 0, locals := 95 } : Room)).room s m args below meth c H locs 0 0 (MQ below (va_Qi (fun (r2 : Int32) (σ2 : zS) => r2 = r0 ∧ σ2 = σ0) (zAt D cy T ad (zA T ad s.heap.size)) (zA T ad s.heap.size)) args s 0 0 (zA T ad s.heap.size)) (F0 m 9 ls []) := by
    intro n
    induction n with
    | zero => intro x5 x6 s7 H locs ls hq; exact zz_none hq
    | succ n ih9 =>
      intro x5 x6 s7 H locs ls hq hB hl
      rw [zl3] at hq
      generalize zl3 (f_X12_throughOf_L9 T N a0 x1) n = k9 at ih9 hq
      unfold f_X12_throughOf_L9 at hq
      refine lv_iload_n hx hb dX12_throughOf_9 rfl (lv_at hl 3 rfl) ?_
      refine lv_bipush (v := 20) hx hb dX12_throughOf_10 (by decide) ?_
      refine zz_icmp_ge (tgt := 80) hx hb dX12_throughOf_12 (by decide) hq (fun hq => ?_) (fun hq => ?_)
      · refine lv_iload_n hx hb dX12_throughOf_80 rfl (lv_at hl 2 rfl) ?_
        exact zz_iret S hB hr hlocks dX12_throughOf_81 hq
      · refine lv_iconst (v := 0) hx hb dX12_throughOf_15 (by decide) ?_
        refine lv_istore (lv' := [(4, .int (0 : Int32)), (0, .ref (ad a0)), (1, .int x1), (2, .int x5), (3, .int x6)]) hx hb dX12_throughOf_16 hl (by decide) rfl (fun ls hl => ?_)
        have L18 : ∀ (n : Nat) (x8 : Int32) (x9 : Int32) (s10 : zS) (H : Heap) (locs : List Loc) (ls : Array Slot), zl3 (f_X12_throughOf_L18 T N a0 x1 x6 k9) n x8 x9 s10 = some (r0, σ0) → zB D cy T ad (zA T ad s.heap.size) s.heap s10 H locs s → lv_has ls 5 [(0, .ref (ad a0)), (1, .int x1), (2, .int x8), (3, .int x6), (4, .int x9)] → W p l e (headSpec wsX12_throughOf ({ frames := 4, cells := 0, slots := 0, locals := 95 } : Room)).room s m args below meth c H locs 0 0 (MQ below (va_Qi (fun (r2 : Int32) (σ2 : zS) => r2 = r0 ∧ σ2 = σ0) (zAt D cy T ad (zA T ad s.heap.size)) (zA T ad s.heap.size)) args s 0 0 (zA T ad s.heap.size)) (F0 m 18 ls []) := by
          intro n
          induction n with
          | zero => intro x8 x9 s10 H locs ls hq; exact zz_none hq
          | succ n ih18 =>
            intro x8 x9 s10 H locs ls hq hB hl
            rw [zl3] at hq
            generalize zl3 (f_X12_throughOf_L18 T N a0 x1 x6 k9) n = k18 at ih18 hq
            unfold f_X12_throughOf_L18 at hq
            refine lv_iload hx hb dX12_throughOf_18 (lv_at hl 4 rfl) ?_
            refine lv_iconst (v := 1) hx hb dX12_throughOf_20 (by decide) ?_
            refine lv_iadd hx hb dX12_throughOf_21 ?_
            refine lv_aload_n hx hb dX12_throughOf_22 rfl (lv_at hl 0 rfl) ?_
            refine zz_get S hT hB (C := RX12) (ref := "DiagramDeskModel") (F := TX12) (N := 24) (index := 144) 12 5 iwX12 rfl (by decide) (by decide) rfl rfl (wS wd_669) (fun _ h9 => h9) dX12_throughOf_23 hq (fun x11 hq => ?_)
            refine zz_icmp_ge (tgt := 74) hx hb dX12_throughOf_26 (by decide) hq (fun hq => ?_) (fun hq => ?_)
            · refine zz_nmV hq (fun x12 ex12 hq => ?_)
              refine lv_iinc (v := x12) (lv' := [(3, .int x12), (0, .ref (ad a0)), (1, .int x1), (2, .int x8), (4, .int x9)]) hx hb dX12_throughOf_74 hl (k := 3) rfl (by rw [ex12]; rfl) (by decide) rfl (fun ls hl => ?_)
              refine lv_goto (tgt := 9) hx hb dX12_throughOf_77 (by decide) ?_
              exact ih9 x8 x12 s10 _ _ _ hq hB (lv_sub hl [1, 2, 3, 0] rfl)
            · refine lv_aload_n hx hb dX12_throughOf_29 rfl (lv_at hl 0 rfl) ?_
              refine lv_iload_n hx hb dX12_throughOf_30 rfl (lv_at hl 3 rfl) ?_
              refine lv_iconst (v := 0) hx hb dX12_throughOf_31 (by decide) ?_
              refine zz_callVi S hT hB (As := [.int x6, .int (0 : Int32)]) (b := a0) (o := f_X12_of T N s10 a0 x6 (0 : Int32)) (c_X12_of l D cy T hT ad N s10 _ a0 x6 (0 : Int32)) (cwV 2 hts (gV wSub wd_574 wd_575 wd_576 wd_572 wd_577) rfl rfl rfl (by decide +kernel) ⟨Nat.le_of_ble_eq_true rfl, Nat.le_of_ble_eq_true rfl⟩) (F := TX12) (NF := 24) 12 rfl (by decide) (k_X12_of T N s10 a0 x6 (0 : Int32)) rfl hl.1 rfl (Nat.le_of_ble_eq_true rfl) dX12_throughOf_32 hq (fun x14 s13 H locs hq hB => ?_)
              refine lv_iconst (v := 1) hx hb dX12_throughOf_35 (by decide) ?_
              refine zz_icmp_ne (tgt := 74) hx hb dX12_throughOf_36 (by decide) hq (fun hq => ?_) (fun hq => ?_)
              · refine zz_nmV hq (fun x15 ex15 hq => ?_)
                refine lv_iinc (v := x15) (lv' := [(3, .int x15), (0, .ref (ad a0)), (1, .int x1), (2, .int x8), (4, .int x9)]) hx hb dX12_throughOf_74 hl (k := 3) rfl (by rw [ex15]; rfl) (by decide) rfl (fun ls hl => ?_)
                refine lv_goto (tgt := 9) hx hb dX12_throughOf_77 (by decide) ?_
                exact ih9 x8 x15 s13 _ _ _ hq hB (lv_sub hl [1, 2, 3, 0] rfl)
              · refine lv_aload_n hx hb dX12_throughOf_39 rfl (lv_at hl 0 rfl) ?_
                refine lv_iload_n hx hb dX12_throughOf_40 rfl (lv_at hl 1 rfl) ?_
                refine lv_iload_n hx hb dX12_throughOf_41 rfl (lv_at hl 3 rfl) ?_
                refine zz_callVi S hT hB (As := [.int x1, .int x6]) (b := a0) (o := f_X12_isAt T N s13 a0 x1 x6) (c_X12_isAt l D cy T hT ad N s13 _ a0 x1 x6) (cwV 2 hts (gV wSub wd_624 wd_625 wd_626 wd_572 wd_627) rfl rfl rfl (by decide +kernel) ⟨Nat.le_of_ble_eq_true rfl, Nat.le_of_ble_eq_true rfl⟩) (F := TX12) (NF := 24) 12 rfl (by decide) (k_X12_isAt T N s13 a0 x1 x6) rfl hl.1 rfl (Nat.le_of_ble_eq_true rfl) dX12_throughOf_42 hq (fun x17 s16 H locs hq hB => ?_)
                refine zz_if_ne (tgt := 74) hx hb dX12_throughOf_45 (by decide) hq (fun hq => ?_) (fun hq => ?_)
                · refine zz_nmV hq (fun x18 ex18 hq => ?_)
                  refine lv_iinc (v := x18) (lv' := [(3, .int x18), (0, .ref (ad a0)), (1, .int x1), (2, .int x8), (4, .int x9)]) hx hb dX12_throughOf_74 hl (k := 3) rfl (by rw [ex18]; rfl) (by decide) rfl (fun ls hl => ?_)
                  refine lv_goto (tgt := 9) hx hb dX12_throughOf_77 (by decide) ?_
                  exact ih9 x8 x18 s16 _ _ _ hq hB (lv_sub hl [1, 2, 3, 0] rfl)
                · refine lv_iload_n hx hb dX12_throughOf_48 rfl (lv_at hl 2 rfl) ?_
                  refine lv_aload_n hx hb dX12_throughOf_49 rfl (lv_at hl 0 rfl) ?_
                  refine lv_iload hx hb dX12_throughOf_50 (lv_at hl 4 rfl) ?_
                  refine lv_iload_n hx hb dX12_throughOf_52 rfl (lv_at hl 3 rfl) ?_
                  refine zz_callVi S hT hB (As := [.int x9, .int x6]) (b := a0) (o := f_X12_meets T N s16 a0 x9 x6) (c_X12_meets l D cy T hT ad N s16 _ a0 x9 x6) (cwV 2 hts (gV wSub wd_689 wd_690 wd_691 wd_572 wd_692) rfl rfl rfl (by decide +kernel) ⟨Nat.le_of_ble_eq_true rfl, Nat.le_of_ble_eq_true rfl⟩) (F := TX12) (NF := 24) 12 rfl (by decide) (k_X12_meets T N s16 a0 x9 x6) rfl hl.1 rfl (Nat.le_of_ble_eq_true rfl) dX12_throughOf_53 hq (fun x20 s19 H locs hq hB => ?_)
                  refine zz_if_eq (tgt := 65) hx hb dX12_throughOf_56 (by decide) hq (fun hq => ?_) (fun hq => ?_)
                  · refine lv_iconst (v := 0) hx hb dX12_throughOf_65 (by decide) ?_
                    refine lv_ior hx hb dX12_throughOf_66 ?_
                    refine zz_nmI hq (fun x21 hq => ?_)
                    refine lv_istore_n (lv' := [(2, .int x21), (0, .ref (ad a0)), (1, .int x1), (3, .int x6), (4, .int x9)]) hx hb dX12_throughOf_67 rfl hl (by decide) rfl (fun ls hl => ?_)
                    refine zz_nmV hq (fun x22 ex22 hq => ?_)
                    refine lv_iinc (v := x22) (lv' := [(4, .int x22), (2, .int x21), (0, .ref (ad a0)), (1, .int x1), (3, .int x6)]) hx hb dX12_throughOf_68 hl (k := 4) rfl (by rw [ex22]; rfl) (by decide) rfl (fun ls hl => ?_)
                    refine lv_goto (tgt := 18) hx hb dX12_throughOf_71 (by decide) ?_
                    exact ih18 x21 x22 s19 _ _ _ hq hB (lv_sub hl [2, 3, 1, 4, 0] rfl)
                  · refine lv_iconst (v := 1) hx hb dX12_throughOf_59 (by decide) ?_
                    refine lv_iload_n hx hb dX12_throughOf_60 rfl (lv_at hl 3 rfl) ?_
                    refine lv_ishl hx hb dX12_throughOf_61 ?_
                    refine lv_goto (tgt := 66) hx hb dX12_throughOf_62 (by decide) ?_
                    refine lv_ior hx hb dX12_throughOf_66 ?_
                    refine zz_nmI hq (fun x23 hq => ?_)
                    refine lv_istore_n (lv' := [(2, .int x23), (0, .ref (ad a0)), (1, .int x1), (3, .int x6), (4, .int x9)]) hx hb dX12_throughOf_67 rfl hl (by decide) rfl (fun ls hl => ?_)
                    refine zz_nmV hq (fun x24 ex24 hq => ?_)
                    refine lv_iinc (v := x24) (lv' := [(4, .int x24), (2, .int x23), (0, .ref (ad a0)), (1, .int x1), (3, .int x6)]) hx hb dX12_throughOf_68 hl (k := 4) rfl (by rw [ex24]; rfl) (by decide) rfl (fun ls hl => ?_)
                    refine lv_goto (tgt := 18) hx hb dX12_throughOf_71 (by decide) ?_
                    exact ih18 x23 x24 s19 _ _ _ hq hB (lv_sub hl [2, 3, 1, 4, 0] rfl)
        exact L18 N x5 (0 : Int32) s7 _ _ _ hq hB (lv_sub hl [1, 2, 3, 4, 0] rfl)
  exact L9 N (0 : Int32) (0 : Int32) s4 _ _ _ hq hB (lv_sub hl [2, 3, 1, 0] rfl)
def f_X12_through (T : zT) (N : Nat) (s0 : zS) (a0 : Nat) (x1 : Int32) : Option (Int32 × zS) :=
  zz1 (T.1 a0 = 12) <|
  zb2 (f_X12_isLine T N s0 a0 x1) fun x5 s4 =>
  if x5 = 0 then (
    some ((-1 : Int32), s4))
  else (
    zb2 (f_X12_throughOf T N s4 a0 x1) fun x7 s6 =>
    some (x7, s6))
theorem k_X12_through (T : zT) (N : Nat) (s0 : zS) (a0 : Nat) (x1 : Int32) : ∀ q, f_X12_through T N s0 a0 x1 = some q → T.1 a0 = 12 := by
  intro q h
  unfold f_X12_through at h
  exact zz_guard h (fun h _ => h)
set_option maxHeartbeats 4000000 in
set_option maxRecDepth 100000 in
theorem c_X12_through (l : Launch) (D : va_G) (cy : Nat → ClassId) (T : zT) (hT : zok T) (ad : Nat → Nat) (N : Nat) (s0 : zS) (sz : Nat) (a0 : Nat) (x1 : Int32) : ∀ (r0 : Int32) (σ0 : zS), f_X12_through T N s0 a0 x1 = some (r0, σ0) → Met l yX12_through wsX12_through ({ frames := 5, cells := 0, slots := 0, locals := 119 }) (va_Pc [.ref (ad a0), .int x1] (zPre D cy T ad s0 sz)) (va_Qi (fun (r2 : Int32) (σ2 : zS) => r2 = r0 ∧ σ2 = σ0) (zAt D cy T ad (zA T ad sz)) (zA T ad sz)) 0 0 (zA T ad sz) := by
  intro r0 σ0 hq
  refine Met.ofW (cc := cX12_through) (maxL := 2) (ret := (some .int)) (by decide) rfl ?_
  intro p e s m args below meth c s₁ B hml hv
  obtain ⟨hargs, hsz, hP, hK, hD0, hN⟩ := hv
  have hx := B.exec
  have hb := B.bytes
  have hr := B.returns
  have hts := atoms_spec (ws := wsX12_through) B.pre
  have hown : s.vm.findClass RX12 = some m.cls := findClass_of_methodNamed B.named
  have hlocks := B.notSynchronized
  have S : CallFix p m c cX12_through 2 s args wsX12_through RX12 := ⟨hx, hb, hml, hown, hts⟩
  subst hsz
  have hB : zB D cy T ad (zA T ad s.heap.size) s.heap s0 s.heap [] s := zz_entry hP hK hD0 hN
  obtain ⟨ls, hent, hl⟩ := zz_ent m hargs (n := 2) (Nat.le_of_ble_eq_true rfl)
  rw [hent]
  have hl : lv_has ls 2 [(0, .ref (ad a0)), (1, .int x1)] := hl
  unfold f_X12_through at hq
  refine zz_guard hq (fun hk0 hq => ?_)
  refine lv_aload_n hx hb dX12_through_0 rfl (lv_at hl 0 rfl) ?_
  refine lv_iload_n hx hb dX12_through_1 rfl (lv_at hl 1 rfl) ?_
  refine zz_callVi S hT hB (As := [.int x1]) (b := a0) (o := f_X12_isLine T N s0 a0 x1) (c_X12_isLine l D cy T hT ad N s0 _ a0 x1) (cwV 1 hts (gV wSub wd_664 wd_665 wd_666 wd_572 wd_667) rfl rfl rfl (by decide +kernel) ⟨Nat.le_of_ble_eq_true rfl, Nat.le_of_ble_eq_true rfl⟩) (F := TX12) (NF := 24) 12 rfl (by decide) (k_X12_isLine T N s0 a0 x1) rfl hl.1 rfl (Nat.le_of_ble_eq_true rfl) dX12_through_2 hq (fun x5 s4 H locs hq hB => ?_)
  refine zz_if_eq (tgt := 16) hx hb dX12_through_5 (by decide) hq (fun hq => ?_) (fun hq => ?_)
  · refine lv_iconst (v := -1) hx hb dX12_through_16 (by decide) ?_
    exact zz_iret S hB hr hlocks dX12_through_17 hq
  · refine lv_aload_n hx hb dX12_through_8 rfl (lv_at hl 0 rfl) ?_
    refine lv_iload_n hx hb dX12_through_9 rfl (lv_at hl 1 rfl) ?_
    refine zz_callVi S hT hB (As := [.int x1]) (b := a0) (o := f_X12_throughOf T N s4 a0 x1) (c_X12_throughOf l D cy T hT ad N s4 _ a0 x1) (cwV 1 hts (gV wSub wd_693 wd_694 wd_695 wd_572 wd_696) rfl rfl rfl (by decide +kernel) ⟨Nat.le_of_ble_eq_true rfl, Nat.le_of_ble_eq_true rfl⟩) (F := TX12) (NF := 24) 12 rfl (by decide) (k_X12_throughOf T N s4 a0 x1) rfl hl.1 rfl (Nat.le_of_ble_eq_true rfl) dX12_through_10 hq (fun x7 s6 H locs hq hB => ?_)
    refine lv_goto (tgt := 17) hx hb dX12_through_13 (by decide) ?_
    exact zz_iret S hB hr hlocks dX12_through_17 hq
def f_X12_chosen_L4 (T : zT) (N : Nat) (a0 : Nat) (k4 : Int32 → Int32 → zS → Option (Int32 × zS)) (x3 : Int32) (x4 : Int32) (s5 : zS) : Option (Int32 × zS) :=
  if (20 : Int32) ≤ x4 then (
    some (x3, s5))
  else (
    zb2 (f_X12_isSelected T N s5 a0 x4) fun x7 s6 =>
    if x7 = 0 then (
      zn (x3 ||| (0 : Int32)) fun x8 =>
      zn (x4 + (1 : Int32)) fun x9 =>
      k4 x8 x9 s6)
    else (
      zn (x3 ||| ((1 : Int32) <<< (x4 &&& 31))) fun x10 =>
      zn (x4 + (1 : Int32)) fun x11 =>
      k4 x10 x11 s6))
def f_X12_chosen (T : zT) (N : Nat) (s0 : zS) (a0 : Nat) : Option (Int32 × zS) :=
  zz1 (T.1 a0 = 12) <|
  zl3 (f_X12_chosen_L4 T N a0) N (0 : Int32) (0 : Int32) s0
theorem k_X12_chosen (T : zT) (N : Nat) (s0 : zS) (a0 : Nat) : ∀ q, f_X12_chosen T N s0 a0 = some q → T.1 a0 = 12 := by
  intro q h
  unfold f_X12_chosen at h
  exact zz_guard h (fun h _ => h)
set_option maxHeartbeats 4000000 in
set_option maxRecDepth 100000 in
theorem c_X12_chosen (l : Launch) (D : va_G) (cy : Nat → ClassId) (T : zT) (hT : zok T) (ad : Nat → Nat) (N : Nat) (s0 : zS) (sz : Nat) (a0 : Nat) : ∀ (r0 : Int32) (σ0 : zS), f_X12_chosen T N s0 a0 = some (r0, σ0) → Met l yX12_chosen wsX12_chosen ({ frames := 2, cells := 0, slots := 0, locals := 43 }) (va_Pc [.ref (ad a0)] (zPre D cy T ad s0 sz)) (va_Qi (fun (r2 : Int32) (σ2 : zS) => r2 = r0 ∧ σ2 = σ0) (zAt D cy T ad (zA T ad sz)) (zA T ad sz)) 0 0 (zA T ad sz) := by
  intro r0 σ0 hq
  refine Met.ofW (cc := cX12_chosen) (maxL := 3) (ret := (some .int)) (by decide) rfl ?_
  intro p e s m args below meth c s₁ B hml hv
  obtain ⟨hargs, hsz, hP, hK, hD0, hN⟩ := hv
  have hx := B.exec
  have hb := B.bytes
  have hr := B.returns
  have hts := atoms_spec (ws := wsX12_chosen) B.pre
  have hown : s.vm.findClass RX12 = some m.cls := findClass_of_methodNamed B.named
  have hlocks := B.notSynchronized
  have S : CallFix p m c cX12_chosen 3 s args wsX12_chosen RX12 := ⟨hx, hb, hml, hown, hts⟩
  subst hsz
  have hB : zB D cy T ad (zA T ad s.heap.size) s.heap s0 s.heap [] s := zz_entry hP hK hD0 hN
  obtain ⟨ls, hent, hl⟩ := zz_ent m hargs (n := 3) (Nat.le_of_ble_eq_true rfl)
  rw [hent]
  have hl : lv_has ls 3 [(0, .ref (ad a0))] := hl
  unfold f_X12_chosen at hq
  refine zz_guard hq (fun hk0 hq => ?_)
  refine lv_iconst (v := 0) hx hb dX12_chosen_0 (by decide) ?_
  refine lv_istore_n (lv' := [(1, .int (0 : Int32)), (0, .ref (ad a0))]) hx hb dX12_chosen_1 rfl hl (by decide) rfl (fun ls hl => ?_)
  refine lv_iconst (v := 0) hx hb dX12_chosen_2 (by decide) ?_
  refine lv_istore_n (lv' := [(2, .int (0 : Int32)), (1, .int (0 : Int32)), (0, .ref (ad a0))]) hx hb dX12_chosen_3 rfl hl (by decide) rfl (fun ls hl => ?_)
  have L4 : ∀ (n : Nat) (x3 : Int32) (x4 : Int32) (s5 : zS) (H : Heap) (locs : List Loc) (ls : Array Slot), zl3 (f_X12_chosen_L4 T N a0) n x3 x4 s5 = some (r0, σ0) → zB D cy T ad (zA T ad s.heap.size) s.heap s5 H locs s → lv_has ls 3 [(0, .ref (ad a0)), (1, .int x3), (2, .int x4)] → W p l e (headSpec wsX12_chosen ({ frames := 2, cells := 0, slots := 0, locals := 43 } : Room)).room s m args below meth c H locs 0 0 (MQ below (va_Qi (fun (r2 : Int32) (σ2 : zS) => r2 = r0 ∧ σ2 = σ0) (zAt D cy T ad (zA T ad s.heap.size)) (zA T ad s.heap.size)) args s 0 0 (zA T ad s.heap.size)) (F0 m 4 ls []) := by
    intro n
    induction n with
    | zero => intro x3 x4 s5 H locs ls hq; exact zz_none hq
    | succ n ih4 =>
      intro x3 x4 s5 H locs ls hq hB hl
      rw [zl3] at hq
      generalize zl3 (f_X12_chosen_L4 T N a0) n = k4 at ih4 hq
      unfold f_X12_chosen_L4 at hq
      refine lv_iload_n hx hb dX12_chosen_4 rfl (lv_at hl 2 rfl) ?_
      refine lv_bipush (v := 20) hx hb dX12_chosen_5 (by decide) ?_
      refine zz_icmp_ge (tgt := 34) hx hb dX12_chosen_7 (by decide) hq (fun hq => ?_) (fun hq => ?_)
      · refine lv_iload_n hx hb dX12_chosen_34 rfl (lv_at hl 1 rfl) ?_
        exact zz_iret S hB hr hlocks dX12_chosen_35 hq
      · refine lv_iload_n hx hb dX12_chosen_10 rfl (lv_at hl 1 rfl) ?_
        refine lv_aload_n hx hb dX12_chosen_11 rfl (lv_at hl 0 rfl) ?_
        refine lv_iload_n hx hb dX12_chosen_12 rfl (lv_at hl 2 rfl) ?_
        refine zz_callVi S hT hB (As := [.int x4]) (b := a0) (o := f_X12_isSelected T N s5 a0 x4) (c_X12_isSelected l D cy T hT ad N s5 _ a0 x4) (cwV 1 hts (gV wSub wd_697 wd_698 wd_699 wd_572 wd_700) rfl rfl rfl (by decide +kernel) ⟨Nat.le_of_ble_eq_true rfl, Nat.le_of_ble_eq_true rfl⟩) (F := TX12) (NF := 24) 12 rfl (by decide) (k_X12_isSelected T N s5 a0 x4) rfl hl.1 rfl (Nat.le_of_ble_eq_true rfl) dX12_chosen_13 hq (fun x7 s6 H locs hq hB => ?_)
        refine zz_if_eq (tgt := 25) hx hb dX12_chosen_16 (by decide) hq (fun hq => ?_) (fun hq => ?_)
        · refine lv_iconst (v := 0) hx hb dX12_chosen_25 (by decide) ?_
          refine lv_ior hx hb dX12_chosen_26 ?_
          refine zz_nmI hq (fun x8 hq => ?_)
          refine lv_istore_n (lv' := [(1, .int x8), (0, .ref (ad a0)), (2, .int x4)]) hx hb dX12_chosen_27 rfl hl (by decide) rfl (fun ls hl => ?_)
          refine zz_nmV hq (fun x9 ex9 hq => ?_)
          refine lv_iinc (v := x9) (lv' := [(2, .int x9), (1, .int x8), (0, .ref (ad a0))]) hx hb dX12_chosen_28 hl (k := 2) rfl (by rw [ex9]; rfl) (by decide) rfl (fun ls hl => ?_)
          refine lv_goto (tgt := 4) hx hb dX12_chosen_31 (by decide) ?_
          exact ih4 x8 x9 s6 _ _ _ hq hB (lv_sub hl [2, 1, 0] rfl)
        · refine lv_iconst (v := 1) hx hb dX12_chosen_19 (by decide) ?_
          refine lv_iload_n hx hb dX12_chosen_20 rfl (lv_at hl 2 rfl) ?_
          refine lv_ishl hx hb dX12_chosen_21 ?_
          refine lv_goto (tgt := 26) hx hb dX12_chosen_22 (by decide) ?_
          refine lv_ior hx hb dX12_chosen_26 ?_
          refine zz_nmI hq (fun x10 hq => ?_)
          refine lv_istore_n (lv' := [(1, .int x10), (0, .ref (ad a0)), (2, .int x4)]) hx hb dX12_chosen_27 rfl hl (by decide) rfl (fun ls hl => ?_)
          refine zz_nmV hq (fun x11 ex11 hq => ?_)
          refine lv_iinc (v := x11) (lv' := [(2, .int x11), (1, .int x10), (0, .ref (ad a0))]) hx hb dX12_chosen_28 hl (k := 2) rfl (by rw [ex11]; rfl) (by decide) rfl (fun ls hl => ?_)
          refine lv_goto (tgt := 4) hx hb dX12_chosen_31 (by decide) ?_
          exact ih4 x10 x11 s6 _ _ _ hq hB (lv_sub hl [2, 1, 0] rfl)
  exact L4 N (0 : Int32) (0 : Int32) s0 _ _ _ hq hB (lv_sub hl [2, 1, 0] rfl)
def f_X12_many_L4 (T : zT) (N : Nat) (s0 : zS) (x0 : Int32) (k4 : Int32 → Int32 → Option (Int32 × zS)) (x3 : Int32) (x4 : Int32) : Option (Int32 × zS) :=
  if (20 : Int32) ≤ x4 then (
    some (x3, s0))
  else (
    zn (x3 + ((x0 >>> (x4 &&& 31)) &&& (1 : Int32))) fun x5 =>
    zn (x4 + (1 : Int32)) fun x6 =>
    k4 x5 x6)
def f_X12_many (T : zT) (N : Nat) (s0 : zS) (x0 : Int32) : Option (Int32 × zS) :=
  zl2 (f_X12_many_L4 T N s0 x0) N (0 : Int32) (0 : Int32)
set_option maxHeartbeats 4000000 in
set_option maxRecDepth 100000 in
theorem c_X12_many (l : Launch) (D : va_G) (cy : Nat → ClassId) (T : zT) (hT : zok T) (ad : Nat → Nat) (N : Nat) (s0 : zS) (sz : Nat) (x0 : Int32) : ∀ (r0 : Int32) (σ0 : zS), f_X12_many T N s0 x0 = some (r0, σ0) → Met l yX12_many wsX12_many ({ frames := 0, cells := 0, slots := 0, locals := 0 }) (va_Pc [.int x0] (zPre D cy T ad s0 sz)) (va_Qi (fun (r2 : Int32) (σ2 : zS) => r2 = r0 ∧ σ2 = σ0) (zAt D cy T ad (zA T ad sz)) (zA T ad sz)) 0 0 (zA T ad sz) := by
  intro r0 σ0 hq
  refine Met.ofW (cc := cX12_many) (maxL := 3) (ret := (some .int)) (by decide) rfl ?_
  intro p e s m args below meth c s₁ B hml hv
  obtain ⟨hargs, hsz, hP, hK, hD0, hN⟩ := hv
  have hx := B.exec
  have hb := B.bytes
  have hr := B.returns
  have hts := atoms_spec (ws := wsX12_many) B.pre
  have hown : s.vm.findClass RX12 = some m.cls := findClass_of_methodNamed B.named
  have hlocks := B.notSynchronized
  have S : CallFix p m c cX12_many 3 s args wsX12_many RX12 := ⟨hx, hb, hml, hown, hts⟩
  subst hsz
  have hB : zB D cy T ad (zA T ad s.heap.size) s.heap s0 s.heap [] s := zz_entry hP hK hD0 hN
  obtain ⟨ls, hent, hl⟩ := zz_ent m hargs (n := 3) (Nat.le_of_ble_eq_true rfl)
  rw [hent]
  have hl : lv_has ls 3 [(0, .int x0)] := hl
  unfold f_X12_many at hq
  refine lv_iconst (v := 0) hx hb dX12_many_0 (by decide) ?_
  refine lv_istore_n (lv' := [(1, .int (0 : Int32)), (0, .int x0)]) hx hb dX12_many_1 rfl hl (by decide) rfl (fun ls hl => ?_)
  refine lv_iconst (v := 0) hx hb dX12_many_2 (by decide) ?_
  refine lv_istore_n (lv' := [(2, .int (0 : Int32)), (1, .int (0 : Int32)), (0, .int x0)]) hx hb dX12_many_3 rfl hl (by decide) rfl (fun ls hl => ?_)
  have L4 : ∀ (n : Nat) (x3 : Int32) (x4 : Int32) (H : Heap) (locs : List Loc) (ls : Array Slot), zl2 (f_X12_many_L4 T N s0 x0) n x3 x4 = some (r0, σ0) → zB D cy T ad (zA T ad s.heap.size) s.heap s0 H locs s → lv_has ls 3 [(0, .int x0), (1, .int x3), (2, .int x4)] → W p l e (headSpec wsX12_many ({ frames := 0, cells := 0, slots := 0, locals := 0 } : Room)).room s m args below meth c H locs 0 0 (MQ below (va_Qi (fun (r2 : Int32) (σ2 : zS) => r2 = r0 ∧ σ2 = σ0) (zAt D cy T ad (zA T ad s.heap.size)) (zA T ad s.heap.size)) args s 0 0 (zA T ad s.heap.size)) (F0 m 4 ls []) := by
    intro n
    induction n with
    | zero => intro x3 x4 H locs ls hq; exact zz_none hq
    | succ n ih4 =>
      intro x3 x4 H locs ls hq hB hl
      rw [zl2] at hq
      generalize zl2 (f_X12_many_L4 T N s0 x0) n = k4 at ih4 hq
      unfold f_X12_many_L4 at hq
      refine lv_iload_n hx hb dX12_many_4 rfl (lv_at hl 2 rfl) ?_
      refine lv_bipush (v := 20) hx hb dX12_many_5 (by decide) ?_
      refine zz_icmp_ge (tgt := 24) hx hb dX12_many_7 (by decide) hq (fun hq => ?_) (fun hq => ?_)
      · refine lv_iload_n hx hb dX12_many_24 rfl (lv_at hl 1 rfl) ?_
        exact zz_iret S hB hr hlocks dX12_many_25 hq
      · refine lv_iload_n hx hb dX12_many_10 rfl (lv_at hl 1 rfl) ?_
        refine lv_iload_n hx hb dX12_many_11 rfl (lv_at hl 0 rfl) ?_
        refine lv_iload_n hx hb dX12_many_12 rfl (lv_at hl 2 rfl) ?_
        refine lv_ishr hx hb dX12_many_13 ?_
        refine lv_iconst (v := 1) hx hb dX12_many_14 (by decide) ?_
        refine lv_iand hx hb dX12_many_15 ?_
        refine lv_iadd hx hb dX12_many_16 ?_
        refine zz_nmI hq (fun x5 hq => ?_)
        refine lv_istore_n (lv' := [(1, .int x5), (0, .int x0), (2, .int x4)]) hx hb dX12_many_17 rfl hl (by decide) rfl (fun ls hl => ?_)
        refine zz_nmV hq (fun x6 ex6 hq => ?_)
        refine lv_iinc (v := x6) (lv' := [(2, .int x6), (1, .int x5), (0, .int x0)]) hx hb dX12_many_18 hl (k := 2) rfl (by rw [ex6]; rfl) (by decide) rfl (fun ls hl => ?_)
        refine lv_goto (tgt := 4) hx hb dX12_many_21 (by decide) ?_
        exact ih4 x5 x6 _ _ _ hq hB (lv_sub hl [2, 1, 0] rfl)
  exact L4 N (0 : Int32) (0 : Int32) _ _ _ hq hB (lv_sub hl [2, 1, 0] rfl)
def f_X12_select_J61 (T : zT) (N : Nat) (a0 : Nat) (x2 : Int32) (x10 : Int32) (k23 : Int32 → zS → Option (Int32 × zS)) (s16 : zS) : Option (Int32 × zS) :=
  (gR T s16 a0 12 0).bind fun a17 =>
  if x2 = 0 then (
    (sI T s16 a17 (((10 : Int32) + ((8 : Int32) * x10)) + (6 : Int32)) (0 : Int32)).bind fun s18 =>
    zn (x10 + (1 : Int32)) fun x19 =>
    k23 x19 s18)
  else (
    (sI T s16 a17 (((10 : Int32) + ((8 : Int32) * x10)) + (6 : Int32)) (1 : Int32)).bind fun s20 =>
    zn (x10 + (1 : Int32)) fun x21 =>
    k23 x21 s20)
def f_X12_select_L23 (T : zT) (N : Nat) (a0 : Nat) (x1 : Int32) (x2 : Int32) (x9 : Int32) (k23 : Int32 → zS → Option (Int32 × zS)) (x10 : Int32) (s11 : zS) : Option (Int32 × zS) :=
  if (20 : Int32) ≤ x10 then (
    zb2 (f_X12_chosen T N s11 a0) fun x13 s12 =>
    zb2 (f_X12_many T N s12 x13) fun x15 s14 =>
    some (x15, s14))
  else (
    if x10 = x1 then (
      f_X12_select_J61 T N a0 x2 x10 k23 s11)
    else (
      if x9 < 0 then (
        zn (x10 + (1 : Int32)) fun x22 =>
        k23 x22 s11)
      else (
        zb2 (f_X12_of T N s11 a0 x10 (0 : Int32)) fun x24 s23 =>
        if ¬ x24 = (1 : Int32) then (
          zn (x10 + (1 : Int32)) fun x25 =>
          k23 x25 s23)
        else (
          zb2 (f_X12_isWithin T N s23 a0 x10 x9) fun x27 s26 =>
          if x27 = 0 then (
            zn (x10 + (1 : Int32)) fun x28 =>
            k23 x28 s26)
          else (
            f_X12_select_J61 T N a0 x2 x10 k23 s26)))))
def f_X12_select (T : zT) (N : Nat) (s0 : zS) (a0 : Nat) (x1 : Int32) (x2 : Int32) : Option (Int32 × zS) :=
  zz1 (T.1 a0 = 12) <|
  zb2 (f_X12_isShape T N s0 a0 x1) fun x6 s5 =>
  if ¬ x6 = 0 then (
    (f_X12_act T N s5 a0).bind fun s7 =>
    zb2 (f_X12_outermost T N s7 a0 x1) fun x9 s8 =>
    zl2 (f_X12_select_L23 T N a0 x1 x2 x9) N (0 : Int32) s8)
  else (
    some ((-1 : Int32), s5))
theorem k_X12_select (T : zT) (N : Nat) (s0 : zS) (a0 : Nat) (x1 : Int32) (x2 : Int32) : ∀ q, f_X12_select T N s0 a0 x1 x2 = some q → T.1 a0 = 12 := by
  intro q h
  unfold f_X12_select at h
  exact zz_guard h (fun h _ => h)
set_option maxHeartbeats 4000000 in
set_option maxRecDepth 100000 in
theorem c_X12_select (l : Launch) (D : va_G) (cy : Nat → ClassId) (T : zT) (hT : zok T) (ad : Nat → Nat) (N : Nat) (s0 : zS) (sz : Nat) (a0 : Nat) (x1 : Int32) (x2 : Int32) : ∀ (r0 : Int32) (σ0 : zS), f_X12_select T N s0 a0 x1 x2 = some (r0, σ0) → Met l yX12_select wsX12_select ({ frames := 3, cells := 0, slots := 0, locals := 66 }) (va_Pc [.ref (ad a0), .int x1, .int x2] (zPre D cy T ad s0 sz)) (va_Qi (fun (r2 : Int32) (σ2 : zS) => r2 = r0 ∧ σ2 = σ0) (zAt D cy T ad (zA T ad sz)) (zA T ad sz)) 0 0 (zA T ad sz) := by
  intro r0 σ0 hq
  refine Met.ofW (cc := cX12_select) (maxL := 5) (ret := (some .int)) (by decide) rfl ?_
  intro p e s m args below meth c s₁ B hml hv
  obtain ⟨hargs, hsz, hP, hK, hD0, hN⟩ := hv
  have hx := B.exec
  have hb := B.bytes
  have hr := B.returns
  have hts := atoms_spec (ws := wsX12_select) B.pre
  have hown : s.vm.findClass RX12 = some m.cls := findClass_of_methodNamed B.named
  have hlocks := B.notSynchronized
  have S : CallFix p m c cX12_select 5 s args wsX12_select RX12 := ⟨hx, hb, hml, hown, hts⟩
  subst hsz
  have hB : zB D cy T ad (zA T ad s.heap.size) s.heap s0 s.heap [] s := zz_entry hP hK hD0 hN
  obtain ⟨ls, hent, hl⟩ := zz_ent m hargs (n := 5) (Nat.le_of_ble_eq_true rfl)
  rw [hent]
  have hl : lv_has ls 5 [(0, .ref (ad a0)), (1, .int x1), (2, .int x2)] := hl
  have iwX12 : ∀ w ∈ u_ws RX12 TX12 24, w ∈ wsX12_select := fun w h => wS (inWX12 w h)
  unfold f_X12_select at hq
  refine zz_guard hq (fun hk0 hq => ?_)
  refine lv_aload_n hx hb dX12_select_0 rfl (lv_at hl 0 rfl) ?_
  refine lv_iload_n hx hb dX12_select_1 rfl (lv_at hl 1 rfl) ?_
  refine zz_callVi S hT hB (As := [.int x1]) (b := a0) (o := f_X12_isShape T N s0 a0 x1) (c_X12_isShape l D cy T hT ad N s0 _ a0 x1) (cwV 1 hts (gV wSub wd_612 wd_613 wd_614 wd_572 wd_615) rfl rfl rfl (by decide +kernel) ⟨Nat.le_of_ble_eq_true rfl, Nat.le_of_ble_eq_true rfl⟩) (F := TX12) (NF := 24) 12 rfl (by decide) (k_X12_isShape T N s0 a0 x1) rfl hl.1 rfl (Nat.le_of_ble_eq_true rfl) dX12_select_2 hq (fun x6 s5 H locs hq hB => ?_)
  refine zz_if_ne (tgt := 10) hx hb dX12_select_5 (by decide) hq (fun hq => ?_) (fun hq => ?_)
  · refine lv_aload_n hx hb dX12_select_10 rfl (lv_at hl 0 rfl) ?_
    refine zz_callVv S hT hB (As := []) (b := a0) (o := f_X12_act T N s5 a0) (c_X12_act l D cy T hT ad N s5 _ a0) (cwV 0 hts (gV wSub wd_604 wd_605 wd_606 wd_572 wd_607) rfl rfl rfl (by decide +kernel) ⟨Nat.le_of_ble_eq_true rfl, Nat.le_of_ble_eq_true rfl⟩) (F := TX12) (NF := 24) 12 rfl (by decide) (k_X12_act T N s5 a0) rfl hl.1 rfl (Nat.le_of_ble_eq_true rfl) dX12_select_11 hq (fun s7 H locs hq hB => ?_)
    refine lv_aload_n hx hb dX12_select_14 rfl (lv_at hl 0 rfl) ?_
    refine lv_iload_n hx hb dX12_select_15 rfl (lv_at hl 1 rfl) ?_
    refine zz_callVi S hT hB (As := [.int x1]) (b := a0) (o := f_X12_outermost T N s7 a0 x1) (c_X12_outermost l D cy T hT ad N s7 _ a0 x1) (cwV 1 hts (gV wSub wd_632 wd_633 wd_634 wd_572 wd_635) rfl rfl rfl (by decide +kernel) ⟨Nat.le_of_ble_eq_true rfl, Nat.le_of_ble_eq_true rfl⟩) (F := TX12) (NF := 24) 12 rfl (by decide) (k_X12_outermost T N s7 a0 x1) rfl hl.1 rfl (Nat.le_of_ble_eq_true rfl) dX12_select_16 hq (fun x9 s8 H locs hq hB => ?_)
    refine lv_istore_n (lv' := [(3, .int x9), (0, .ref (ad a0)), (1, .int x1), (2, .int x2)]) hx hb dX12_select_19 rfl hl (by decide) rfl (fun ls hl => ?_)
    refine lv_iconst (v := 0) hx hb dX12_select_20 (by decide) ?_
    refine lv_istore (lv' := [(4, .int (0 : Int32)), (3, .int x9), (0, .ref (ad a0)), (1, .int x1), (2, .int x2)]) hx hb dX12_select_21 hl (by decide) rfl (fun ls hl => ?_)
    have L23 : ∀ (n : Nat) (x10 : Int32) (s11 : zS) (H : Heap) (locs : List Loc) (ls : Array Slot), zl2 (f_X12_select_L23 T N a0 x1 x2 x9) n x10 s11 = some (r0, σ0) → zB D cy T ad (zA T ad s.heap.size) s.heap s11 H locs s → lv_has ls 5 [(0, .ref (ad a0)), (1, .int x1), (2, .int x2), (3, .int x9), (4, .int x10)] → W p l e (headSpec wsX12_select ({ frames := 3, cells := 0, slots := 0, locals := 66 } : Room)).room s m args below meth c H locs 0 0 (MQ below (va_Qi (fun (r2 : Int32) (σ2 : zS) => r2 = r0 ∧ σ2 = σ0) (zAt D cy T ad (zA T ad s.heap.size)) (zA T ad s.heap.size)) args s 0 0 (zA T ad s.heap.size)) (F0 m 23 ls []) := by
      intro n
      induction n with
      | zero => intro x10 s11 H locs ls hq; exact zz_none hq
      | succ n ih23 =>
        intro x10 s11 H locs ls hq hB hl
        rw [zl2] at hq
        generalize zl2 (f_X12_select_L23 T N a0 x1 x2 x9) n = k23 at ih23 hq
        unfold f_X12_select_L23 at hq
        refine lv_iload hx hb dX12_select_23 (lv_at hl 4 rfl) ?_
        refine lv_bipush (v := 20) hx hb dX12_select_25 (by decide) ?_
        refine zz_icmp_ge (tgt := 92) hx hb dX12_select_27 (by decide) hq (fun hq => ?_) (fun hq => ?_)
        · refine lv_aload_n hx hb dX12_select_92 rfl (lv_at hl 0 rfl) ?_
          refine zz_callVi S hT hB (As := []) (b := a0) (o := f_X12_chosen T N s11 a0) (c_X12_chosen l D cy T hT ad N s11 _ a0) (cwV 0 hts (gV wSub wd_701 wd_702 wd_703 wd_572 wd_704) rfl rfl rfl (by decide +kernel) ⟨Nat.le_of_ble_eq_true rfl, Nat.le_of_ble_eq_true rfl⟩) (F := TX12) (NF := 24) 12 rfl (by decide) (k_X12_chosen T N s11 a0) rfl hl.1 rfl (Nat.le_of_ble_eq_true rfl) dX12_select_93 hq (fun x13 s12 H locs hq hB => ?_)
          refine zz_callSi S hT hB (As := [.int x13]) (o := f_X12_many T N s12 x13) (c_X12_many l D cy T hT ad N s12 _ x13) (va_cwS 1 hts (gS wSub wd_705 wd_706 wd_572 wd_707) rfl rfl rfl (by decide +kernel) ⟨Nat.le_of_ble_eq_true rfl, Nat.le_of_ble_eq_true rfl⟩) rfl hl.1 rfl (Nat.le_of_ble_eq_true rfl) dX12_select_96 hq (fun x15 s14 H locs hq hB => ?_)
          exact zz_iret S hB hr hlocks dX12_select_99 hq
        · refine lv_iload hx hb dX12_select_30 (lv_at hl 4 rfl) ?_
          refine lv_iload_n hx hb dX12_select_32 rfl (lv_at hl 1 rfl) ?_
          have J61 : ∀ (s16 : zS) (H : Heap) (locs : List Loc) (ls : Array Slot), f_X12_select_J61 T N a0 x2 x10 k23 s16 = some (r0, σ0) → zB D cy T ad (zA T ad s.heap.size) s.heap s16 H locs s → lv_has ls 5 [(0, .ref (ad a0)), (1, .int x1), (2, .int x2), (3, .int x9), (4, .int x10)] → W p l e (headSpec wsX12_select ({ frames := 3, cells := 0, slots := 0, locals := 66 } : Room)).room s m args below meth c H locs 0 0 (MQ below (va_Qi (fun (r2 : Int32) (σ2 : zS) => r2 = r0 ∧ σ2 = σ0) (zAt D cy T ad (zA T ad s.heap.size)) (zA T ad s.heap.size)) args s 0 0 (zA T ad s.heap.size)) (F0 m 61 ls []) := by
            intro s16 H locs ls hq hB hl
            unfold f_X12_select_J61 at hq
            refine lv_aload_n hx hb dX12_select_61 rfl (lv_at hl 0 rfl) ?_
            refine zz_getR S hT hB (C := RX12) (ref := "DiagramDeskModel") (F := TX12) (N := 24) (index := 7) 12 0 iwX12 rfl (by decide) (by decide) rfl rfl (wS wd_569) (fun _ h9 => h9) dX12_select_62 hq (fun a17 hq => ?_)
            refine lv_bipush (v := 10) hx hb dX12_select_65 (by decide) ?_
            refine lv_bipush (v := 8) hx hb dX12_select_67 (by decide) ?_
            refine lv_iload hx hb dX12_select_69 (lv_at hl 4 rfl) ?_
            refine lv_imul hx hb dX12_select_71 ?_
            refine lv_iadd hx hb dX12_select_72 ?_
            refine lv_bipush (v := 6) hx hb dX12_select_73 (by decide) ?_
            refine lv_iadd hx hb dX12_select_75 ?_
            refine lv_iload_n hx hb dX12_select_76 rfl (lv_at hl 2 rfl) ?_
            refine zz_if_eq (tgt := 84) hx hb dX12_select_77 (by decide) hq (fun hq => ?_) (fun hq => ?_)
            · refine lv_iconst (v := 0) hx hb dX12_select_84 (by decide) ?_
              refine zz_ast S hT hB dX12_select_85 hq (fun s18 H locs hq hB => ?_)
              refine zz_nmV hq (fun x19 ex19 hq => ?_)
              refine lv_iinc (v := x19) (lv' := [(4, .int x19), (0, .ref (ad a0)), (1, .int x1), (2, .int x2), (3, .int x9)]) hx hb dX12_select_86 hl (k := 4) rfl (by rw [ex19]; rfl) (by decide) rfl (fun ls hl => ?_)
              refine lv_goto (tgt := 23) hx hb dX12_select_89 (by decide) ?_
              exact ih23 x19 s18 _ _ _ hq hB (lv_sub hl [1, 2, 3, 4, 0] rfl)
            · refine lv_iconst (v := 1) hx hb dX12_select_80 (by decide) ?_
              refine lv_goto (tgt := 85) hx hb dX12_select_81 (by decide) ?_
              refine zz_ast S hT hB dX12_select_85 hq (fun s20 H locs hq hB => ?_)
              refine zz_nmV hq (fun x21 ex21 hq => ?_)
              refine lv_iinc (v := x21) (lv' := [(4, .int x21), (0, .ref (ad a0)), (1, .int x1), (2, .int x2), (3, .int x9)]) hx hb dX12_select_86 hl (k := 4) rfl (by rw [ex21]; rfl) (by decide) rfl (fun ls hl => ?_)
              refine lv_goto (tgt := 23) hx hb dX12_select_89 (by decide) ?_
              exact ih23 x21 s20 _ _ _ hq hB (lv_sub hl [1, 2, 3, 4, 0] rfl)
          refine zz_icmp_eq (tgt := 61) hx hb dX12_select_33 (by decide) hq (fun hq => ?_) (fun hq => ?_)
          · exact J61 s11 _ _ _ hq hB (lv_sub hl [0, 1, 2, 3, 4] rfl)
          · refine lv_iload_n hx hb dX12_select_36 rfl (lv_at hl 3 rfl) ?_
            refine zz_if_lt (tgt := 86) hx hb dX12_select_37 (by decide) hq (fun hq => ?_) (fun hq => ?_)
            · refine zz_nmV hq (fun x22 ex22 hq => ?_)
              refine lv_iinc (v := x22) (lv' := [(4, .int x22), (0, .ref (ad a0)), (1, .int x1), (2, .int x2), (3, .int x9)]) hx hb dX12_select_86 hl (k := 4) rfl (by rw [ex22]; rfl) (by decide) rfl (fun ls hl => ?_)
              refine lv_goto (tgt := 23) hx hb dX12_select_89 (by decide) ?_
              exact ih23 x22 s11 _ _ _ hq hB (lv_sub hl [1, 2, 3, 4, 0] rfl)
            · refine lv_aload_n hx hb dX12_select_40 rfl (lv_at hl 0 rfl) ?_
              refine lv_iload hx hb dX12_select_41 (lv_at hl 4 rfl) ?_
              refine lv_iconst (v := 0) hx hb dX12_select_43 (by decide) ?_
              refine zz_callVi S hT hB (As := [.int x10, .int (0 : Int32)]) (b := a0) (o := f_X12_of T N s11 a0 x10 (0 : Int32)) (c_X12_of l D cy T hT ad N s11 _ a0 x10 (0 : Int32)) (cwV 2 hts (gV wSub wd_574 wd_575 wd_576 wd_572 wd_577) rfl rfl rfl (by decide +kernel) ⟨Nat.le_of_ble_eq_true rfl, Nat.le_of_ble_eq_true rfl⟩) (F := TX12) (NF := 24) 12 rfl (by decide) (k_X12_of T N s11 a0 x10 (0 : Int32)) rfl hl.1 rfl (Nat.le_of_ble_eq_true rfl) dX12_select_44 hq (fun x24 s23 H locs hq hB => ?_)
              refine lv_iconst (v := 1) hx hb dX12_select_47 (by decide) ?_
              refine zz_icmp_ne (tgt := 86) hx hb dX12_select_48 (by decide) hq (fun hq => ?_) (fun hq => ?_)
              · refine zz_nmV hq (fun x25 ex25 hq => ?_)
                refine lv_iinc (v := x25) (lv' := [(4, .int x25), (0, .ref (ad a0)), (1, .int x1), (2, .int x2), (3, .int x9)]) hx hb dX12_select_86 hl (k := 4) rfl (by rw [ex25]; rfl) (by decide) rfl (fun ls hl => ?_)
                refine lv_goto (tgt := 23) hx hb dX12_select_89 (by decide) ?_
                exact ih23 x25 s23 _ _ _ hq hB (lv_sub hl [1, 2, 3, 4, 0] rfl)
              · refine lv_aload_n hx hb dX12_select_51 rfl (lv_at hl 0 rfl) ?_
                refine lv_iload hx hb dX12_select_52 (lv_at hl 4 rfl) ?_
                refine lv_iload_n hx hb dX12_select_54 rfl (lv_at hl 3 rfl) ?_
                refine zz_callVi S hT hB (As := [.int x10, .int x9]) (b := a0) (o := f_X12_isWithin T N s23 a0 x10 x9) (c_X12_isWithin l D cy T hT ad N s23 _ a0 x10 x9) (cwV 2 hts (gV wSub wd_586 wd_587 wd_588 wd_572 wd_589) rfl rfl rfl (by decide +kernel) ⟨Nat.le_of_ble_eq_true rfl, Nat.le_of_ble_eq_true rfl⟩) (F := TX12) (NF := 24) 12 rfl (by decide) (k_X12_isWithin T N s23 a0 x10 x9) rfl hl.1 rfl (Nat.le_of_ble_eq_true rfl) dX12_select_55 hq (fun x27 s26 H locs hq hB => ?_)
                refine zz_if_eq (tgt := 86) hx hb dX12_select_58 (by decide) hq (fun hq => ?_) (fun hq => ?_)
                · refine zz_nmV hq (fun x28 ex28 hq => ?_)
                  refine lv_iinc (v := x28) (lv' := [(4, .int x28), (0, .ref (ad a0)), (1, .int x1), (2, .int x2), (3, .int x9)]) hx hb dX12_select_86 hl (k := 4) rfl (by rw [ex28]; rfl) (by decide) rfl (fun ls hl => ?_)
                  refine lv_goto (tgt := 23) hx hb dX12_select_89 (by decide) ?_
                  exact ih23 x28 s26 _ _ _ hq hB (lv_sub hl [1, 2, 3, 4, 0] rfl)
                · exact J61 s26 _ _ _ hq hB (lv_sub hl [0, 1, 2, 3, 4] rfl)
    exact L23 N (0 : Int32) s8 _ _ _ hq hB (lv_sub hl [2, 3, 4, 1, 0] rfl)
  · refine lv_iconst (v := -1) hx hb dX12_select_8 (by decide) ?_
    exact zz_iret S hB hr hlocks dX12_select_9 hq
def f_X12_selected (T : zT) (N : Nat) (s0 : zS) (a0 : Nat) : Option (Int32 × zS) :=
  zz1 (T.1 a0 = 12) <|
  zb2 (f_X12_chosen T N s0 a0) fun x4 s3 =>
  some (x4, s3)
theorem k_X12_selected (T : zT) (N : Nat) (s0 : zS) (a0 : Nat) : ∀ q, f_X12_selected T N s0 a0 = some q → T.1 a0 = 12 := by
  intro q h
  unfold f_X12_selected at h
  exact zz_guard h (fun h _ => h)
set_option maxHeartbeats 4000000 in
set_option maxRecDepth 100000 in
theorem c_X12_selected (l : Launch) (D : va_G) (cy : Nat → ClassId) (T : zT) (hT : zok T) (ad : Nat → Nat) (N : Nat) (s0 : zS) (sz : Nat) (a0 : Nat) : ∀ (r0 : Int32) (σ0 : zS), f_X12_selected T N s0 a0 = some (r0, σ0) → Met l yX12_selected wsX12_selected ({ frames := 3, cells := 0, slots := 0, locals := 65 }) (va_Pc [.ref (ad a0)] (zPre D cy T ad s0 sz)) (va_Qi (fun (r2 : Int32) (σ2 : zS) => r2 = r0 ∧ σ2 = σ0) (zAt D cy T ad (zA T ad sz)) (zA T ad sz)) 0 0 (zA T ad sz) := by
  intro r0 σ0 hq
  refine Met.ofW (cc := cX12_selected) (maxL := 1) (ret := (some .int)) (by decide) rfl ?_
  intro p e s m args below meth c s₁ B hml hv
  obtain ⟨hargs, hsz, hP, hK, hD0, hN⟩ := hv
  have hx := B.exec
  have hb := B.bytes
  have hr := B.returns
  have hts := atoms_spec (ws := wsX12_selected) B.pre
  have hown : s.vm.findClass RX12 = some m.cls := findClass_of_methodNamed B.named
  have hlocks := B.notSynchronized
  have S : CallFix p m c cX12_selected 1 s args wsX12_selected RX12 := ⟨hx, hb, hml, hown, hts⟩
  subst hsz
  have hB : zB D cy T ad (zA T ad s.heap.size) s.heap s0 s.heap [] s := zz_entry hP hK hD0 hN
  obtain ⟨ls, hent, hl⟩ := zz_ent m hargs (n := 1) (Nat.le_of_ble_eq_true rfl)
  rw [hent]
  have hl : lv_has ls 1 [(0, .ref (ad a0))] := hl
  unfold f_X12_selected at hq
  refine zz_guard hq (fun hk0 hq => ?_)
  refine lv_aload_n hx hb dX12_selected_0 rfl (lv_at hl 0 rfl) ?_
  refine zz_callVi S hT hB (As := []) (b := a0) (o := f_X12_chosen T N s0 a0) (c_X12_chosen l D cy T hT ad N s0 _ a0) (cwV 0 hts (gV wSub wd_701 wd_702 wd_703 wd_572 wd_704) rfl rfl rfl (by decide +kernel) ⟨Nat.le_of_ble_eq_true rfl, Nat.le_of_ble_eq_true rfl⟩) (F := TX12) (NF := 24) 12 rfl (by decide) (k_X12_chosen T N s0 a0) rfl hl.1 rfl (Nat.le_of_ble_eq_true rfl) dX12_selected_1 hq (fun x4 s3 H locs hq hB => ?_)
  exact zz_iret S hB hr hlocks dX12_selected_4 hq
def f_X12_widens_J52 (T : zT) (N : Nat) (a0 : Nat) (x2 : Int32) (x5 : Int32) (k2 : Int32 → zS → Option zS) (x7 : Int32) (a8 : Nat) (x13 : Int32) (s14 : zS) : Option zS :=
  (sI T s14 a8 x7 x13).bind fun s15 =>
  (gR T s15 a0 12 9).bind fun a16 =>
  zb2 (f_X12_end T N s15 a0 x2 x5) fun x18 s17 =>
  (gR T s17 a0 12 9).bind fun a19 =>
  (aI T s17 a19 13 x7).bind fun x20 =>
  if x18 ≤ x20 then (
    (gR T s17 a0 12 9).bind fun a21 =>
    (aI T s17 a21 13 x7).bind fun x22 =>
    (sI T s17 a16 x7 x22).bind fun s23 =>
    zn (x5 + (1 : Int32)) fun x24 =>
    k2 x24 s23)
  else (
    zb2 (f_X12_end T N s17 a0 x2 x5) fun x26 s25 =>
    (sI T s25 a16 x7 x26).bind fun s27 =>
    zn (x5 + (1 : Int32)) fun x28 =>
    k2 x28 s27)
def f_X12_widens_L2 (T : zT) (N : Nat) (a0 : Nat) (x1 : Int32) (x2 : Int32) (k2 : Int32 → zS → Option zS) (x5 : Int32) (s6 : zS) : Option zS :=
  if (2 : Int32) ≤ x5 then (
    some s6)
  else (
    zn (((2 : Int32) * x1) + x5) fun x7 =>
    (gR T s6 a0 12 8).bind fun a8 =>
    zb2 (f_X12_begin T N s6 a0 x2 x5) fun x10 s9 =>
    (gR T s9 a0 12 8).bind fun a11 =>
    (aI T s9 a11 13 x7).bind fun x12 =>
    if x12 ≤ x10 then (
      (gR T s9 a0 12 8).bind fun a29 =>
      (aI T s9 a29 13 x7).bind fun x30 =>
      f_X12_widens_J52 T N a0 x2 x5 k2 x7 a8 x30 s9)
    else (
      zb2 (f_X12_begin T N s9 a0 x2 x5) fun x32 s31 =>
      f_X12_widens_J52 T N a0 x2 x5 k2 x7 a8 x32 s31))
def f_X12_widens (T : zT) (N : Nat) (s0 : zS) (a0 : Nat) (x1 : Int32) (x2 : Int32) : Option zS :=
  zz1 (T.1 a0 = 12) <|
  zl2 (f_X12_widens_L2 T N a0 x1 x2) N (0 : Int32) s0
theorem k_X12_widens (T : zT) (N : Nat) (s0 : zS) (a0 : Nat) (x1 : Int32) (x2 : Int32) : ∀ q, f_X12_widens T N s0 a0 x1 x2 = some q → T.1 a0 = 12 := by
  intro q h
  unfold f_X12_widens at h
  exact zz_guard h (fun h _ => h)
set_option maxHeartbeats 4000000 in
set_option maxRecDepth 100000 in
theorem c_X12_widens (l : Launch) (D : va_G) (cy : Nat → ClassId) (T : zT) (hT : zok T) (ad : Nat → Nat) (N : Nat) (s0 : zS) (sz : Nat) (a0 : Nat) (x1 : Int32) (x2 : Int32) : ∀ (σ0 : zS), f_X12_widens T N s0 a0 x1 x2 = some σ0 → Met l yX12_widens wsX12_widens ({ frames := 2, cells := 0, slots := 0, locals := 44 }) (va_Pc [.ref (ad a0), .int x1, .int x2] (zPre D cy T ad s0 sz)) (va_Qv (fun σ2 : zS => σ2 = σ0) (zAt D cy T ad (zA T ad sz)) (zA T ad sz)) 0 0 (zA T ad sz) := by
  intro σ0 hq
  refine Met.ofW (cc := cX12_widens) (maxL := 5) (ret := none) (by decide) rfl ?_
  intro p e s m args below meth c s₁ B hml hv
  obtain ⟨hargs, hsz, hP, hK, hD0, hN⟩ := hv
  have hx := B.exec
  have hb := B.bytes
  have hr := B.returns
  have hts := atoms_spec (ws := wsX12_widens) B.pre
  have hown : s.vm.findClass RX12 = some m.cls := findClass_of_methodNamed B.named
  have hlocks := B.notSynchronized
  have S : CallFix p m c cX12_widens 5 s args wsX12_widens RX12 := ⟨hx, hb, hml, hown, hts⟩
  subst hsz
  have hB : zB D cy T ad (zA T ad s.heap.size) s.heap s0 s.heap [] s := zz_entry hP hK hD0 hN
  obtain ⟨ls, hent, hl⟩ := zz_ent m hargs (n := 5) (Nat.le_of_ble_eq_true rfl)
  rw [hent]
  have hl : lv_has ls 5 [(0, .ref (ad a0)), (1, .int x1), (2, .int x2)] := hl
  have iwX12 : ∀ w ∈ u_ws RX12 TX12 24, w ∈ wsX12_widens := fun w h => wS (inWX12 w h)
  unfold f_X12_widens at hq
  refine zz_guard hq (fun hk0 hq => ?_)
  refine lv_iconst (v := 0) hx hb dX12_widens_0 (by decide) ?_
  refine lv_istore_n (lv' := [(3, .int (0 : Int32)), (0, .ref (ad a0)), (1, .int x1), (2, .int x2)]) hx hb dX12_widens_1 rfl hl (by decide) rfl (fun ls hl => ?_)
  have L2 : ∀ (n : Nat) (x5 : Int32) (s6 : zS) (H : Heap) (locs : List Loc) (ls : Array Slot), zl2 (f_X12_widens_L2 T N a0 x1 x2) n x5 s6 = some σ0 → zB D cy T ad (zA T ad s.heap.size) s.heap s6 H locs s → lv_has ls 5 [(0, .ref (ad a0)), (1, .int x1), (2, .int x2), (3, .int x5)] → W p l e (headSpec wsX12_widens ({ frames := 2, cells := 0, slots := 0, locals := 44 } : Room)).room s m args below meth c H locs 0 0 (MQ below (va_Qv (fun σ2 : zS => σ2 = σ0) (zAt D cy T ad (zA T ad s.heap.size)) (zA T ad s.heap.size)) args s 0 0 (zA T ad s.heap.size)) (F0 m 2 ls []) := by
    intro n
    induction n with
    | zero => intro x5 s6 H locs ls hq; exact zz_none hq
    | succ n ih2 =>
      intro x5 s6 H locs ls hq hB hl
      rw [zl2] at hq
      generalize zl2 (f_X12_widens_L2 T N a0 x1 x2) n = k2 at ih2 hq
      unfold f_X12_widens_L2 at hq
      refine lv_iload_n hx hb dX12_widens_2 rfl (lv_at hl 3 rfl) ?_
      refine lv_iconst (v := 2) hx hb dX12_widens_3 (by decide) ?_
      refine zz_icmp_ge (tgt := 98) hx hb dX12_widens_4 (by decide) hq (fun hq => ?_) (fun hq => ?_)
      · exact zz_vret S hB hr hlocks dX12_widens_98 hq
      · refine lv_iconst (v := 2) hx hb dX12_widens_7 (by decide) ?_
        refine lv_iload_n hx hb dX12_widens_8 rfl (lv_at hl 1 rfl) ?_
        refine lv_imul hx hb dX12_widens_9 ?_
        refine lv_iload_n hx hb dX12_widens_10 rfl (lv_at hl 3 rfl) ?_
        refine lv_iadd hx hb dX12_widens_11 ?_
        refine zz_nmI hq (fun x7 hq => ?_)
        refine lv_istore (lv' := [(4, .int x7), (0, .ref (ad a0)), (1, .int x1), (2, .int x2), (3, .int x5)]) hx hb dX12_widens_12 hl (by decide) rfl (fun ls hl => ?_)
        refine lv_aload_n hx hb dX12_widens_14 rfl (lv_at hl 1 rfl) ?_
        refine zz_getR S hT hB (C := RX12) (ref := "DiagramDeskModel") (F := TX12) (N := 24) (index := 28) 12 8 iwX12 rfl (by decide) (by decide) rfl rfl (wS wd_708) (fun _ h9 => h9) dX12_widens_15 hq (fun a8 hq => ?_)
        refine lv_iload hx hb dX12_widens_18 (lv_at hl 0 rfl) ?_
        refine lv_aload_n hx hb dX12_widens_20 rfl (lv_at hl 1 rfl) ?_
        refine lv_iload_n hx hb dX12_widens_21 rfl (lv_at hl 3 rfl) ?_
        refine lv_iload_n hx hb dX12_widens_22 rfl (lv_at hl 4 rfl) ?_
        refine zz_callVi S hT hB (As := [.int x2, .int x5]) (b := a0) (o := f_X12_begin T N s6 a0 x2 x5) (c_X12_begin l D cy T hT ad N s6 _ a0 x2 x5) (cwV 2 hts (gV wSub wd_645 wd_646 wd_647 wd_572 wd_648) rfl rfl rfl (by decide +kernel) ⟨Nat.le_of_ble_eq_true rfl, Nat.le_of_ble_eq_true rfl⟩) (F := TX12) (NF := 24) 12 rfl (by decide) (k_X12_begin T N s6 a0 x2 x5) rfl hl.1 rfl (Nat.le_of_ble_eq_true rfl) dX12_widens_23 hq (fun x10 s9 H locs hq hB => ?_)
        refine lv_aload_n hx hb dX12_widens_26 rfl (lv_at hl 1 rfl) ?_
        refine zz_getR S hT hB (C := RX12) (ref := "DiagramDeskModel") (F := TX12) (N := 24) (index := 28) 12 8 iwX12 rfl (by decide) (by decide) rfl rfl (wS wd_708) (fun _ h9 => h9) dX12_widens_27 hq (fun a11 hq => ?_)
        refine lv_iload hx hb dX12_widens_30 (lv_at hl 0 rfl) ?_
        refine zz_ald S hT hB dX12_widens_32 hq (fun x12 hq => ?_)
        have J52 : ∀ (x13 : Int32) (s14 : zS) (H : Heap) (locs : List Loc) (ls : Array Slot), f_X12_widens_J52 T N a0 x2 x5 k2 x7 a8 x13 s14 = some σ0 → zB D cy T ad (zA T ad s.heap.size) s.heap s14 H locs s → lv_has ls 5 [(0, .ref (ad a0)), (1, .int x1), (2, .int x2), (3, .int x5), (4, .int x7)] → W p l e (headSpec wsX12_widens ({ frames := 2, cells := 0, slots := 0, locals := 44 } : Room)).room s m args below meth c H locs 0 0 (MQ below (va_Qv (fun σ2 : zS => σ2 = σ0) (zAt D cy T ad (zA T ad s.heap.size)) (zA T ad s.heap.size)) args s 0 0 (zA T ad s.heap.size)) (F0 m 52 ls [.int x13, .int x7, .ref (ad a8)]) := by
          intro x13 s14 H locs ls hq hB hl
          unfold f_X12_widens_J52 at hq
          refine zz_ast S hT hB dX12_widens_52 hq (fun s15 H locs hq hB => ?_)
          refine lv_aload_n hx hb dX12_widens_53 rfl (lv_at hl 0 rfl) ?_
          refine zz_getR S hT hB (C := RX12) (ref := "DiagramDeskModel") (F := TX12) (N := 24) (index := 31) 12 9 iwX12 rfl (by decide) (by decide) rfl rfl (wS wd_709) (fun _ h9 => h9) dX12_widens_54 hq (fun a16 hq => ?_)
          refine lv_iload hx hb dX12_widens_57 (lv_at hl 4 rfl) ?_
          refine lv_aload_n hx hb dX12_widens_59 rfl (lv_at hl 0 rfl) ?_
          refine lv_iload_n hx hb dX12_widens_60 rfl (lv_at hl 2 rfl) ?_
          refine lv_iload_n hx hb dX12_widens_61 rfl (lv_at hl 3 rfl) ?_
          refine zz_callVi S hT hB (As := [.int x2, .int x5]) (b := a0) (o := f_X12_end T N s15 a0 x2 x5) (c_X12_end l D cy T hT ad N s15 _ a0 x2 x5) (cwV 2 hts (gV wSub wd_641 wd_642 wd_643 wd_572 wd_644) rfl rfl rfl (by decide +kernel) ⟨Nat.le_of_ble_eq_true rfl, Nat.le_of_ble_eq_true rfl⟩) (F := TX12) (NF := 24) 12 rfl (by decide) (k_X12_end T N s15 a0 x2 x5) rfl hl.1 rfl (Nat.le_of_ble_eq_true rfl) dX12_widens_62 hq (fun x18 s17 H locs hq hB => ?_)
          refine lv_aload_n hx hb dX12_widens_65 rfl (lv_at hl 0 rfl) ?_
          refine zz_getR S hT hB (C := RX12) (ref := "DiagramDeskModel") (F := TX12) (N := 24) (index := 31) 12 9 iwX12 rfl (by decide) (by decide) rfl rfl (wS wd_709) (fun _ h9 => h9) dX12_widens_66 hq (fun a19 hq => ?_)
          refine lv_iload hx hb dX12_widens_69 (lv_at hl 4 rfl) ?_
          refine zz_ald S hT hB dX12_widens_71 hq (fun x20 hq => ?_)
          refine zz_icmp_le (tgt := 84) hx hb dX12_widens_72 (by decide) hq (fun hq => ?_) (fun hq => ?_)
          · refine lv_aload_n hx hb dX12_widens_84 rfl (lv_at hl 0 rfl) ?_
            refine zz_getR S hT hB (C := RX12) (ref := "DiagramDeskModel") (F := TX12) (N := 24) (index := 31) 12 9 iwX12 rfl (by decide) (by decide) rfl rfl (wS wd_709) (fun _ h9 => h9) dX12_widens_85 hq (fun a21 hq => ?_)
            refine lv_iload hx hb dX12_widens_88 (lv_at hl 4 rfl) ?_
            refine zz_ald S hT hB dX12_widens_90 hq (fun x22 hq => ?_)
            refine zz_ast S hT hB dX12_widens_91 hq (fun s23 H locs hq hB => ?_)
            refine zz_nmV hq (fun x24 ex24 hq => ?_)
            refine lv_iinc (v := x24) (lv' := [(3, .int x24), (0, .ref (ad a0)), (1, .int x1), (2, .int x2), (4, .int x7)]) hx hb dX12_widens_92 hl (k := 3) rfl (by rw [ex24]; rfl) (by decide) rfl (fun ls hl => ?_)
            refine lv_goto (tgt := 2) hx hb dX12_widens_95 (by decide) ?_
            exact ih2 x24 s23 _ _ _ hq hB (lv_sub hl [1, 2, 3, 0] rfl)
          · refine lv_aload_n hx hb dX12_widens_75 rfl (lv_at hl 0 rfl) ?_
            refine lv_iload_n hx hb dX12_widens_76 rfl (lv_at hl 2 rfl) ?_
            refine lv_iload_n hx hb dX12_widens_77 rfl (lv_at hl 3 rfl) ?_
            refine zz_callVi S hT hB (As := [.int x2, .int x5]) (b := a0) (o := f_X12_end T N s17 a0 x2 x5) (c_X12_end l D cy T hT ad N s17 _ a0 x2 x5) (cwV 2 hts (gV wSub wd_641 wd_642 wd_643 wd_572 wd_644) rfl rfl rfl (by decide +kernel) ⟨Nat.le_of_ble_eq_true rfl, Nat.le_of_ble_eq_true rfl⟩) (F := TX12) (NF := 24) 12 rfl (by decide) (k_X12_end T N s17 a0 x2 x5) rfl hl.1 rfl (Nat.le_of_ble_eq_true rfl) dX12_widens_78 hq (fun x26 s25 H locs hq hB => ?_)
            refine lv_goto (tgt := 91) hx hb dX12_widens_81 (by decide) ?_
            refine zz_ast S hT hB dX12_widens_91 hq (fun s27 H locs hq hB => ?_)
            refine zz_nmV hq (fun x28 ex28 hq => ?_)
            refine lv_iinc (v := x28) (lv' := [(3, .int x28), (0, .ref (ad a0)), (1, .int x1), (2, .int x2), (4, .int x7)]) hx hb dX12_widens_92 hl (k := 3) rfl (by rw [ex28]; rfl) (by decide) rfl (fun ls hl => ?_)
            refine lv_goto (tgt := 2) hx hb dX12_widens_95 (by decide) ?_
            exact ih2 x28 s27 _ _ _ hq hB (lv_sub hl [1, 2, 3, 0] rfl)
        refine zz_icmp_ge (tgt := 45) hx hb dX12_widens_33 (by decide) hq (fun hq => ?_) (fun hq => ?_)
        · refine lv_aload_n hx hb dX12_widens_45 rfl (lv_at hl 1 rfl) ?_
          refine zz_getR S hT hB (C := RX12) (ref := "DiagramDeskModel") (F := TX12) (N := 24) (index := 28) 12 8 iwX12 rfl (by decide) (by decide) rfl rfl (wS wd_708) (fun _ h9 => h9) dX12_widens_46 hq (fun a29 hq => ?_)
          refine lv_iload hx hb dX12_widens_49 (lv_at hl 0 rfl) ?_
          refine zz_ald S hT hB dX12_widens_51 hq (fun x30 hq => ?_)
          exact J52 x30 s9 _ _ _ hq hB (lv_sub hl [1, 2, 3, 4, 0] rfl)
        · refine lv_aload_n hx hb dX12_widens_36 rfl (lv_at hl 1 rfl) ?_
          refine lv_iload_n hx hb dX12_widens_37 rfl (lv_at hl 3 rfl) ?_
          refine lv_iload_n hx hb dX12_widens_38 rfl (lv_at hl 4 rfl) ?_
          refine zz_callVi S hT hB (As := [.int x2, .int x5]) (b := a0) (o := f_X12_begin T N s9 a0 x2 x5) (c_X12_begin l D cy T hT ad N s9 _ a0 x2 x5) (cwV 2 hts (gV wSub wd_645 wd_646 wd_647 wd_572 wd_648) rfl rfl rfl (by decide +kernel) ⟨Nat.le_of_ble_eq_true rfl, Nat.le_of_ble_eq_true rfl⟩) (F := TX12) (NF := 24) 12 rfl (by decide) (k_X12_begin T N s9 a0 x2 x5) rfl hl.1 rfl (Nat.le_of_ble_eq_true rfl) dX12_widens_39 hq (fun x32 s31 H locs hq hB => ?_)
          refine lv_goto (tgt := 52) hx hb dX12_widens_42 (by decide) ?_
          exact J52 x32 s31 _ _ _ hq hB (lv_sub hl [1, 2, 3, 4, 0] rfl)
  exact L2 N (0 : Int32) s0 _ _ _ hq hB (lv_sub hl [1, 2, 3, 0] rfl)
def f_X12_clears_L2 (T : zT) (N : Nat) (a0 : Nat) (x1 : Int32) (k2 : Int32 → zS → Option zS) (x4 : Int32) (s5 : zS) : Option zS :=
  if (2 : Int32) ≤ x4 then (
    some s5)
  else (
    (gR T s5 a0 12 8).bind fun a6 =>
    (sI T s5 a6 (((2 : Int32) * x1) + x4) (99999 : Int32)).bind fun s7 =>
    (gR T s7 a0 12 9).bind fun a8 =>
    (sI T s7 a8 (((2 : Int32) * x1) + x4) (-99999 : Int32)).bind fun s9 =>
    zn (x4 + (1 : Int32)) fun x10 =>
    k2 x10 s9)
def f_X12_clears (T : zT) (N : Nat) (s0 : zS) (a0 : Nat) (x1 : Int32) : Option zS :=
  zz1 (T.1 a0 = 12) <|
  zl2 (f_X12_clears_L2 T N a0 x1) N (0 : Int32) s0
theorem k_X12_clears (T : zT) (N : Nat) (s0 : zS) (a0 : Nat) (x1 : Int32) : ∀ q, f_X12_clears T N s0 a0 x1 = some q → T.1 a0 = 12 := by
  intro q h
  unfold f_X12_clears at h
  exact zz_guard h (fun h _ => h)
set_option maxHeartbeats 4000000 in
set_option maxRecDepth 100000 in
theorem c_X12_clears (l : Launch) (D : va_G) (cy : Nat → ClassId) (T : zT) (hT : zok T) (ad : Nat → Nat) (N : Nat) (s0 : zS) (sz : Nat) (a0 : Nat) (x1 : Int32) : ∀ (σ0 : zS), f_X12_clears T N s0 a0 x1 = some σ0 → Met l yX12_clears wsX12_clears ({ frames := 0, cells := 0, slots := 0, locals := 0 }) (va_Pc [.ref (ad a0), .int x1] (zPre D cy T ad s0 sz)) (va_Qv (fun σ2 : zS => σ2 = σ0) (zAt D cy T ad (zA T ad sz)) (zA T ad sz)) 0 0 (zA T ad sz) := by
  intro σ0 hq
  refine Met.ofW (cc := cX12_clears) (maxL := 3) (ret := none) (by decide) rfl ?_
  intro p e s m args below meth c s₁ B hml hv
  obtain ⟨hargs, hsz, hP, hK, hD0, hN⟩ := hv
  have hx := B.exec
  have hb := B.bytes
  have hr := B.returns
  have hts := atoms_spec (ws := wsX12_clears) B.pre
  have hown : s.vm.findClass RX12 = some m.cls := findClass_of_methodNamed B.named
  have hlocks := B.notSynchronized
  have S : CallFix p m c cX12_clears 3 s args wsX12_clears RX12 := ⟨hx, hb, hml, hown, hts⟩
  subst hsz
  have hB : zB D cy T ad (zA T ad s.heap.size) s.heap s0 s.heap [] s := zz_entry hP hK hD0 hN
  obtain ⟨ls, hent, hl⟩ := zz_ent m hargs (n := 3) (Nat.le_of_ble_eq_true rfl)
  rw [hent]
  have hl : lv_has ls 3 [(0, .ref (ad a0)), (1, .int x1)] := hl
  have iwX12 : ∀ w ∈ u_ws RX12 TX12 24, w ∈ wsX12_clears := fun w h => wS (inWX12 w h)
  unfold f_X12_clears at hq
  refine zz_guard hq (fun hk0 hq => ?_)
  refine lv_iconst (v := 0) hx hb dX12_clears_0 (by decide) ?_
  refine lv_istore_n (lv' := [(2, .int (0 : Int32)), (0, .ref (ad a0)), (1, .int x1)]) hx hb dX12_clears_1 rfl hl (by decide) rfl (fun ls hl => ?_)
  have L2 : ∀ (n : Nat) (x4 : Int32) (s5 : zS) (H : Heap) (locs : List Loc) (ls : Array Slot), zl2 (f_X12_clears_L2 T N a0 x1) n x4 s5 = some σ0 → zB D cy T ad (zA T ad s.heap.size) s.heap s5 H locs s → lv_has ls 3 [(0, .ref (ad a0)), (1, .int x1), (2, .int x4)] → W p l e (headSpec wsX12_clears ({ frames := 0, cells := 0, slots := 0, locals := 0 } : Room)).room s m args below meth c H locs 0 0 (MQ below (va_Qv (fun σ2 : zS => σ2 = σ0) (zAt D cy T ad (zA T ad s.heap.size)) (zA T ad s.heap.size)) args s 0 0 (zA T ad s.heap.size)) (F0 m 2 ls []) := by
    intro n
    induction n with
    | zero => intro x4 s5 H locs ls hq; exact zz_none hq
    | succ n ih2 =>
      intro x4 s5 H locs ls hq hB hl
      rw [zl2] at hq
      generalize zl2 (f_X12_clears_L2 T N a0 x1) n = k2 at ih2 hq
      unfold f_X12_clears_L2 at hq
      refine lv_iload_n hx hb dX12_clears_2 rfl (lv_at hl 2 rfl) ?_
      refine lv_iconst (v := 2) hx hb dX12_clears_3 (by decide) ?_
      refine zz_icmp_ge (tgt := 37) hx hb dX12_clears_4 (by decide) hq (fun hq => ?_) (fun hq => ?_)
      · exact zz_vret S hB hr hlocks dX12_clears_37 hq
      · refine lv_aload_n hx hb dX12_clears_7 rfl (lv_at hl 0 rfl) ?_
        refine zz_getR S hT hB (C := RX12) (ref := "DiagramDeskModel") (F := TX12) (N := 24) (index := 28) 12 8 iwX12 rfl (by decide) (by decide) rfl rfl (wS wd_708) (fun _ h9 => h9) dX12_clears_8 hq (fun a6 hq => ?_)
        refine lv_iconst (v := 2) hx hb dX12_clears_11 (by decide) ?_
        refine lv_iload_n hx hb dX12_clears_12 rfl (lv_at hl 1 rfl) ?_
        refine lv_imul hx hb dX12_clears_13 ?_
        refine lv_iload_n hx hb dX12_clears_14 rfl (lv_at hl 2 rfl) ?_
        refine lv_iadd hx hb dX12_clears_15 ?_
        refine lv_ldc (v := 99999) hx hb hown (hts _ (wS wd_710)) dX12_clears_16 ?_
        refine zz_ast S hT hB dX12_clears_18 hq (fun s7 H locs hq hB => ?_)
        refine lv_aload_n hx hb dX12_clears_19 rfl (lv_at hl 0 rfl) ?_
        refine zz_getR S hT hB (C := RX12) (ref := "DiagramDeskModel") (F := TX12) (N := 24) (index := 31) 12 9 iwX12 rfl (by decide) (by decide) rfl rfl (wS wd_709) (fun _ h9 => h9) dX12_clears_20 hq (fun a8 hq => ?_)
        refine lv_iconst (v := 2) hx hb dX12_clears_23 (by decide) ?_
        refine lv_iload_n hx hb dX12_clears_24 rfl (lv_at hl 1 rfl) ?_
        refine lv_imul hx hb dX12_clears_25 ?_
        refine lv_iload_n hx hb dX12_clears_26 rfl (lv_at hl 2 rfl) ?_
        refine lv_iadd hx hb dX12_clears_27 ?_
        refine lv_ldc (v := -99999) hx hb hown (hts _ (wS wd_711)) dX12_clears_28 ?_
        refine zz_ast S hT hB dX12_clears_30 hq (fun s9 H locs hq hB => ?_)
        refine zz_nmV hq (fun x10 ex10 hq => ?_)
        refine lv_iinc (v := x10) (lv' := [(2, .int x10), (0, .ref (ad a0)), (1, .int x1)]) hx hb dX12_clears_31 hl (k := 2) rfl (by rw [ex10]; rfl) (by decide) rfl (fun ls hl => ?_)
        refine lv_goto (tgt := 2) hx hb dX12_clears_34 (by decide) ?_
        exact ih2 x10 s9 _ _ _ hq hB (lv_sub hl [1, 2, 0] rfl)
  exact L2 N (0 : Int32) s0 _ _ _ hq hB (lv_sub hl [1, 2, 0] rfl)
def f_X12_gathers_J112 (T : zT) (N : Nat) (a0 : Nat) (x5 : Int32) (k13 : Int32 → zS → Option zS) (x12 : Int32) (s15 : zS) : Option zS :=
  (gR T s15 a0 12 10).bind fun a16 =>
  (sI T s15 a16 x5 x12).bind fun s17 =>
  (f_X12_widens T N s17 a0 x12 x5).bind fun s18 =>
  (f_X12_widens T N s18 a0 (20 : Int32) x5).bind fun s19 =>
  zn (x5 + (1 : Int32)) fun x20 =>
  k13 x20 s19
def f_X12_gathers_J89 (T : zT) (N : Nat) (a0 : Nat) (x5 : Int32) (k13 : Int32 → zS → Option zS) (s10 : zS) (x12 : Int32) (a21 : Nat) (x22 : Int32) : Option zS :=
  (sI T s10 a21 x12 x22).bind fun s23 =>
  (gR T s23 a0 12 7).bind fun a24 =>
  (sI T s23 a24 x12 x5).bind fun s25 =>
  (f_X12_clears T N s25 a0 x12).bind fun s26 =>
  (gI T s26 a0 12 11).bind fun x27 =>
  (pI T s26 a0 12 11 (x27 + (1 : Int32))).bind fun s28 =>
  f_X12_gathers_J112 T N a0 x5 k13 x12 s28
def f_X12_gathers_J65 (T : zT) (N : Nat) (a0 : Nat) (x5 : Int32) (k13 : Int32 → zS → Option zS) (s10 : zS) (x11 : Int32) (x12 : Int32) : Option zS :=
  (gI T s10 a0 12 11).bind fun x14 =>
  if ¬ x12 = x14 then (
    f_X12_gathers_J112 T N a0 x5 k13 x12 s10)
  else (
    (gR T s10 a0 12 6).bind fun a21 =>
    if 0 ≤ x11 then (
      f_X12_gathers_J89 T N a0 x5 k13 s10 x12 a21 (x11 + (1 : Int32)))
    else (
      f_X12_gathers_J89 T N a0 x5 k13 s10 x12 a21 (0 : Int32)))
def f_X12_gathers_L35 (T : zT) (N : Nat) (a0 : Nat) (x5 : Int32) (k13 : Int32 → zS → Option zS) (s10 : zS) (x11 : Int32) (k35 : Int32 → Option zS) (x12 : Int32) : Option zS :=
  (gI T s10 a0 12 11).bind fun x13 =>
  if x13 ≤ x12 then (
    f_X12_gathers_J65 T N a0 x5 k13 s10 x11 x12)
  else (
    if x11 < 0 then (
      zn (x12 + (1 : Int32)) fun x29 =>
      k35 x29)
    else (
      (gR T s10 a0 12 6).bind fun a30 =>
      (aI T s10 a30 13 x12).bind fun x31 =>
      if x31 = (x11 + (1 : Int32)) then (
        f_X12_gathers_J65 T N a0 x5 k13 s10 x11 x12)
      else (
        zn (x12 + (1 : Int32)) fun x32 =>
        k35 x32)))
def f_X12_gathers_L13 (T : zT) (N : Nat) (a0 : Nat) (k13 : Int32 → zS → Option zS) (x5 : Int32) (s6 : zS) : Option zS :=
  if (20 : Int32) ≤ x5 then (
    some s6)
  else (
    zb2 (f_X12_isSelected T N s6 a0 x5) fun x8 s7 =>
    if x8 = 0 then (
      zn (x5 + (1 : Int32)) fun x9 =>
      k13 x9 s7)
    else (
      zb2 (f_X12_outermost T N s7 a0 x5) fun x11 s10 =>
      zl1 (f_X12_gathers_L35 T N a0 x5 k13 s10 x11) N (0 : Int32)))
def f_X12_gathers (T : zT) (N : Nat) (s0 : zS) (a0 : Nat) : Option zS :=
  zz1 (T.1 a0 = 12) <|
  (pI T s0 a0 12 11 (0 : Int32)).bind fun s3 =>
  (f_X12_clears T N s3 a0 (20 : Int32)).bind fun s4 =>
  zl2 (f_X12_gathers_L13 T N a0) N (0 : Int32) s4
theorem k_X12_gathers (T : zT) (N : Nat) (s0 : zS) (a0 : Nat) : ∀ q, f_X12_gathers T N s0 a0 = some q → T.1 a0 = 12 := by
  intro q h
  unfold f_X12_gathers at h
  exact zz_guard h (fun h _ => h)
set_option maxHeartbeats 4000000 in
set_option maxRecDepth 100000 in
theorem c_X12_gathers (l : Launch) (D : va_G) (cy : Nat → ClassId) (T : zT) (hT : zok T) (ad : Nat → Nat) (N : Nat) (s0 : zS) (sz : Nat) (a0 : Nat) : ∀ (σ0 : zS), f_X12_gathers T N s0 a0 = some σ0 → Met l yX12_gathers wsX12_gathers ({ frames := 3, cells := 0, slots := 0, locals := 68 }) (va_Pc [.ref (ad a0)] (zPre D cy T ad s0 sz)) (va_Qv (fun σ2 : zS => σ2 = σ0) (zAt D cy T ad (zA T ad sz)) (zA T ad sz)) 0 0 (zA T ad sz) := by
  intro σ0 hq
  refine Met.ofW (cc := cX12_gathers) (maxL := 4) (ret := none) (by decide) rfl ?_
  intro p e s m args below meth c s₁ B hml hv
  obtain ⟨hargs, hsz, hP, hK, hD0, hN⟩ := hv
  have hx := B.exec
  have hb := B.bytes
  have hr := B.returns
  have hts := atoms_spec (ws := wsX12_gathers) B.pre
  have hown : s.vm.findClass RX12 = some m.cls := findClass_of_methodNamed B.named
  have hlocks := B.notSynchronized
  have S : CallFix p m c cX12_gathers 4 s args wsX12_gathers RX12 := ⟨hx, hb, hml, hown, hts⟩
  subst hsz
  have hB : zB D cy T ad (zA T ad s.heap.size) s.heap s0 s.heap [] s := zz_entry hP hK hD0 hN
  obtain ⟨ls, hent, hl⟩ := zz_ent m hargs (n := 4) (Nat.le_of_ble_eq_true rfl)
  rw [hent]
  have hl : lv_has ls 4 [(0, .ref (ad a0))] := hl
  have iwX12 : ∀ w ∈ u_ws RX12 TX12 24, w ∈ wsX12_gathers := fun w h => wS (inWX12 w h)
  unfold f_X12_gathers at hq
  refine zz_guard hq (fun hk0 hq => ?_)
  refine lv_aload_n hx hb dX12_gathers_0 rfl (lv_at hl 0 rfl) ?_
  refine lv_iconst (v := 0) hx hb dX12_gathers_1 (by decide) ?_
  refine zz_put S hT hB (C := RX12) (ref := "DiagramDeskModel") (F := TX12) (N := 24) (index := 181) 12 11 iwX12 tyX12 tyX12_ok nmX12 rfl (by decide) (by decide) rfl rfl (wS wd_712) (fun _ h9 => h9) rfl (by decide +kernel) dX12_gathers_2 hq (fun s3 H locs hq hB => ?_)
  refine lv_aload_n hx hb dX12_gathers_5 rfl (lv_at hl 0 rfl) ?_
  refine lv_bipush (v := 20) hx hb dX12_gathers_6 (by decide) ?_
  refine zz_callVv S hT hB (As := [.int (20 : Int32)]) (b := a0) (o := f_X12_clears T N s3 a0 (20 : Int32)) (c_X12_clears l D cy T hT ad N s3 _ a0 (20 : Int32)) (cwV 1 hts (gV wSub wd_713 wd_714 wd_715 wd_572 wd_716) rfl rfl rfl (by decide +kernel) ⟨Nat.le_of_ble_eq_true rfl, Nat.le_of_ble_eq_true rfl⟩) (F := TX12) (NF := 24) 12 rfl (by decide) (k_X12_clears T N s3 a0 (20 : Int32)) rfl hl.1 rfl (Nat.le_of_ble_eq_true rfl) dX12_gathers_8 hq (fun s4 H locs hq hB => ?_)
  refine lv_iconst (v := 0) hx hb dX12_gathers_11 (by decide) ?_
  refine lv_istore_n (lv' := [(1, .int (0 : Int32)), (0, .ref (ad a0))]) hx hb dX12_gathers_12 rfl hl (by decide) rfl (fun ls hl => ?_)
  have L13 : ∀ (n : Nat) (x5 : Int32) (s6 : zS) (H : Heap) (locs : List Loc) (ls : Array Slot), zl2 (f_X12_gathers_L13 T N a0) n x5 s6 = some σ0 → zB D cy T ad (zA T ad s.heap.size) s.heap s6 H locs s → lv_has ls 4 [(0, .ref (ad a0)), (1, .int x5)] → W p l e (headSpec wsX12_gathers ({ frames := 3, cells := 0, slots := 0, locals := 68 } : Room)).room s m args below meth c H locs 0 0 (MQ below (va_Qv (fun σ2 : zS => σ2 = σ0) (zAt D cy T ad (zA T ad s.heap.size)) (zA T ad s.heap.size)) args s 0 0 (zA T ad s.heap.size)) (F0 m 13 ls []) := by
    intro n
    induction n with
    | zero => intro x5 s6 H locs ls hq; exact zz_none hq
    | succ n ih13 =>
      intro x5 s6 H locs ls hq hB hl
      rw [zl2] at hq
      generalize zl2 (f_X12_gathers_L13 T N a0) n = k13 at ih13 hq
      unfold f_X12_gathers_L13 at hq
      refine lv_iload_n hx hb dX12_gathers_13 rfl (lv_at hl 1 rfl) ?_
      refine lv_bipush (v := 20) hx hb dX12_gathers_14 (by decide) ?_
      refine zz_icmp_ge (tgt := 138) hx hb dX12_gathers_16 (by decide) hq (fun hq => ?_) (fun hq => ?_)
      · exact zz_vret S hB hr hlocks dX12_gathers_138 hq
      · refine lv_aload_n hx hb dX12_gathers_19 rfl (lv_at hl 0 rfl) ?_
        refine lv_iload_n hx hb dX12_gathers_20 rfl (lv_at hl 1 rfl) ?_
        refine zz_callVi S hT hB (As := [.int x5]) (b := a0) (o := f_X12_isSelected T N s6 a0 x5) (c_X12_isSelected l D cy T hT ad N s6 _ a0 x5) (cwV 1 hts (gV wSub wd_697 wd_698 wd_699 wd_572 wd_700) rfl rfl rfl (by decide +kernel) ⟨Nat.le_of_ble_eq_true rfl, Nat.le_of_ble_eq_true rfl⟩) (F := TX12) (NF := 24) 12 rfl (by decide) (k_X12_isSelected T N s6 a0 x5) rfl hl.1 rfl (Nat.le_of_ble_eq_true rfl) dX12_gathers_21 hq (fun x8 s7 H locs hq hB => ?_)
        refine zz_if_eq (tgt := 132) hx hb dX12_gathers_24 (by decide) hq (fun hq => ?_) (fun hq => ?_)
        · refine zz_nmV hq (fun x9 ex9 hq => ?_)
          refine lv_iinc (v := x9) (lv' := [(1, .int x9), (0, .ref (ad a0))]) hx hb dX12_gathers_132 hl (k := 1) rfl (by rw [ex9]; rfl) (by decide) rfl (fun ls hl => ?_)
          refine lv_goto (tgt := 13) hx hb dX12_gathers_135 (by decide) ?_
          exact ih13 x9 s7 _ _ _ hq hB (lv_sub hl [1, 0] rfl)
        · refine lv_aload_n hx hb dX12_gathers_27 rfl (lv_at hl 0 rfl) ?_
          refine lv_iload_n hx hb dX12_gathers_28 rfl (lv_at hl 1 rfl) ?_
          refine zz_callVi S hT hB (As := [.int x5]) (b := a0) (o := f_X12_outermost T N s7 a0 x5) (c_X12_outermost l D cy T hT ad N s7 _ a0 x5) (cwV 1 hts (gV wSub wd_632 wd_633 wd_634 wd_572 wd_635) rfl rfl rfl (by decide +kernel) ⟨Nat.le_of_ble_eq_true rfl, Nat.le_of_ble_eq_true rfl⟩) (F := TX12) (NF := 24) 12 rfl (by decide) (k_X12_outermost T N s7 a0 x5) rfl hl.1 rfl (Nat.le_of_ble_eq_true rfl) dX12_gathers_29 hq (fun x11 s10 H locs hq hB => ?_)
          refine lv_istore_n (lv' := [(2, .int x11), (0, .ref (ad a0)), (1, .int x5)]) hx hb dX12_gathers_32 rfl hl (by decide) rfl (fun ls hl => ?_)
          refine lv_iconst (v := 0) hx hb dX12_gathers_33 (by decide) ?_
          refine lv_istore_n (lv' := [(3, .int (0 : Int32)), (2, .int x11), (0, .ref (ad a0)), (1, .int x5)]) hx hb dX12_gathers_34 rfl hl (by decide) rfl (fun ls hl => ?_)
          have L35 : ∀ (n : Nat) (x12 : Int32) (H : Heap) (locs : List Loc) (ls : Array Slot), zl1 (f_X12_gathers_L35 T N a0 x5 k13 s10 x11) n x12 = some σ0 → zB D cy T ad (zA T ad s.heap.size) s.heap s10 H locs s → lv_has ls 4 [(0, .ref (ad a0)), (1, .int x5), (2, .int x11), (3, .int x12)] → W p l e (headSpec wsX12_gathers ({ frames := 3, cells := 0, slots := 0, locals := 68 } : Room)).room s m args below meth c H locs 0 0 (MQ below (va_Qv (fun σ2 : zS => σ2 = σ0) (zAt D cy T ad (zA T ad s.heap.size)) (zA T ad s.heap.size)) args s 0 0 (zA T ad s.heap.size)) (F0 m 35 ls []) := by
            intro n
            induction n with
            | zero => intro x12 H locs ls hq; exact zz_none hq
            | succ n ih35 =>
              intro x12 H locs ls hq hB hl
              rw [zl1] at hq
              generalize zl1 (f_X12_gathers_L35 T N a0 x5 k13 s10 x11) n = k35 at ih35 hq
              unfold f_X12_gathers_L35 at hq
              refine lv_iload_n hx hb dX12_gathers_35 rfl (lv_at hl 3 rfl) ?_
              refine lv_aload_n hx hb dX12_gathers_36 rfl (lv_at hl 0 rfl) ?_
              refine zz_get S hT hB (C := RX12) (ref := "DiagramDeskModel") (F := TX12) (N := 24) (index := 181) 12 11 iwX12 rfl (by decide) (by decide) rfl rfl (wS wd_712) (fun _ h9 => h9) dX12_gathers_37 hq (fun x13 hq => ?_)
              have J65 : ∀ (H : Heap) (locs : List Loc) (ls : Array Slot), f_X12_gathers_J65 T N a0 x5 k13 s10 x11 x12 = some σ0 → zB D cy T ad (zA T ad s.heap.size) s.heap s10 H locs s → lv_has ls 4 [(0, .ref (ad a0)), (1, .int x5), (2, .int x11), (3, .int x12)] → W p l e (headSpec wsX12_gathers ({ frames := 3, cells := 0, slots := 0, locals := 68 } : Room)).room s m args below meth c H locs 0 0 (MQ below (va_Qv (fun σ2 : zS => σ2 = σ0) (zAt D cy T ad (zA T ad s.heap.size)) (zA T ad s.heap.size)) args s 0 0 (zA T ad s.heap.size)) (F0 m 65 ls []) := by
                intro H locs ls hq hB hl
                unfold f_X12_gathers_J65 at hq
                refine lv_iload_n hx hb dX12_gathers_65 rfl (lv_at hl 3 rfl) ?_
                refine lv_aload_n hx hb dX12_gathers_66 rfl (lv_at hl 0 rfl) ?_
                refine zz_get S hT hB (C := RX12) (ref := "DiagramDeskModel") (F := TX12) (N := 24) (index := 181) 12 11 iwX12 rfl (by decide) (by decide) rfl rfl (wS wd_712) (fun _ h9 => h9) dX12_gathers_67 hq (fun x14 hq => ?_)
                have J112 : ∀ (s15 : zS) (H : Heap) (locs : List Loc) (ls : Array Slot), f_X12_gathers_J112 T N a0 x5 k13 x12 s15 = some σ0 → zB D cy T ad (zA T ad s.heap.size) s.heap s15 H locs s → lv_has ls 4 [(0, .ref (ad a0)), (1, .int x5), (3, .int x12)] → W p l e (headSpec wsX12_gathers ({ frames := 3, cells := 0, slots := 0, locals := 68 } : Room)).room s m args below meth c H locs 0 0 (MQ below (va_Qv (fun σ2 : zS => σ2 = σ0) (zAt D cy T ad (zA T ad s.heap.size)) (zA T ad s.heap.size)) args s 0 0 (zA T ad s.heap.size)) (F0 m 112 ls []) := by
                  intro s15 H locs ls hq hB hl
                  unfold f_X12_gathers_J112 at hq
                  refine lv_aload_n hx hb dX12_gathers_112 rfl (lv_at hl 0 rfl) ?_
                  refine zz_getR S hT hB (C := RX12) (ref := "DiagramDeskModel") (F := TX12) (N := 24) (index := 34) 12 10 iwX12 rfl (by decide) (by decide) rfl rfl (wS wd_719) (fun _ h9 => h9) dX12_gathers_113 hq (fun a16 hq => ?_)
                  refine lv_iload_n hx hb dX12_gathers_116 rfl (lv_at hl 1 rfl) ?_
                  refine lv_iload_n hx hb dX12_gathers_117 rfl (lv_at hl 2 rfl) ?_
                  refine zz_ast S hT hB dX12_gathers_118 hq (fun s17 H locs hq hB => ?_)
                  refine lv_aload_n hx hb dX12_gathers_119 rfl (lv_at hl 0 rfl) ?_
                  refine lv_iload_n hx hb dX12_gathers_120 rfl (lv_at hl 2 rfl) ?_
                  refine lv_iload_n hx hb dX12_gathers_121 rfl (lv_at hl 1 rfl) ?_
                  refine zz_callVv S hT hB (As := [.int x12, .int x5]) (b := a0) (o := f_X12_widens T N s17 a0 x12 x5) (c_X12_widens l D cy T hT ad N s17 _ a0 x12 x5) (cwV 2 hts (gV wSub wd_720 wd_721 wd_722 wd_572 wd_723) rfl rfl rfl (by decide +kernel) ⟨Nat.le_of_ble_eq_true rfl, Nat.le_of_ble_eq_true rfl⟩) (F := TX12) (NF := 24) 12 rfl (by decide) (k_X12_widens T N s17 a0 x12 x5) rfl hl.1 rfl (Nat.le_of_ble_eq_true rfl) dX12_gathers_122 hq (fun s18 H locs hq hB => ?_)
                  refine lv_aload_n hx hb dX12_gathers_125 rfl (lv_at hl 0 rfl) ?_
                  refine lv_bipush (v := 20) hx hb dX12_gathers_126 (by decide) ?_
                  refine lv_iload_n hx hb dX12_gathers_128 rfl (lv_at hl 1 rfl) ?_
                  refine zz_callVv S hT hB (As := [.int (20 : Int32), .int x5]) (b := a0) (o := f_X12_widens T N s18 a0 (20 : Int32) x5) (c_X12_widens l D cy T hT ad N s18 _ a0 (20 : Int32) x5) (cwV 2 hts (gV wSub wd_720 wd_721 wd_722 wd_572 wd_723) rfl rfl rfl (by decide +kernel) ⟨Nat.le_of_ble_eq_true rfl, Nat.le_of_ble_eq_true rfl⟩) (F := TX12) (NF := 24) 12 rfl (by decide) (k_X12_widens T N s18 a0 (20 : Int32) x5) rfl hl.1 rfl (Nat.le_of_ble_eq_true rfl) dX12_gathers_129 hq (fun s19 H locs hq hB => ?_)
                  refine zz_nmV hq (fun x20 ex20 hq => ?_)
                  refine lv_iinc (v := x20) (lv' := [(1, .int x20), (0, .ref (ad a0)), (3, .int x12)]) hx hb dX12_gathers_132 hl (k := 1) rfl (by rw [ex20]; rfl) (by decide) rfl (fun ls hl => ?_)
                  refine lv_goto (tgt := 13) hx hb dX12_gathers_135 (by decide) ?_
                  exact ih13 x20 s19 _ _ _ hq hB (lv_sub hl [1, 0] rfl)
                refine zz_icmp_ne (tgt := 112) hx hb dX12_gathers_70 (by decide) hq (fun hq => ?_) (fun hq => ?_)
                · exact J112 s10 _ _ _ hq hB (lv_sub hl [0, 1, 3] rfl)
                · refine lv_aload_n hx hb dX12_gathers_73 rfl (lv_at hl 0 rfl) ?_
                  refine zz_getR S hT hB (C := RX12) (ref := "DiagramDeskModel") (F := TX12) (N := 24) (index := 22) 12 6 iwX12 rfl (by decide) (by decide) rfl rfl (wS wd_717) (fun _ h9 => h9) dX12_gathers_74 hq (fun a21 hq => ?_)
                  refine lv_iload_n hx hb dX12_gathers_77 rfl (lv_at hl 3 rfl) ?_
                  refine lv_iload_n hx hb dX12_gathers_78 rfl (lv_at hl 2 rfl) ?_
                  have J89 : ∀ (x22 : Int32) (H : Heap) (locs : List Loc) (ls : Array Slot), f_X12_gathers_J89 T N a0 x5 k13 s10 x12 a21 x22 = some σ0 → zB D cy T ad (zA T ad s.heap.size) s.heap s10 H locs s → lv_has ls 4 [(0, .ref (ad a0)), (1, .int x5), (3, .int x12)] → W p l e (headSpec wsX12_gathers ({ frames := 3, cells := 0, slots := 0, locals := 68 } : Room)).room s m args below meth c H locs 0 0 (MQ below (va_Qv (fun σ2 : zS => σ2 = σ0) (zAt D cy T ad (zA T ad s.heap.size)) (zA T ad s.heap.size)) args s 0 0 (zA T ad s.heap.size)) (F0 m 89 ls [.int x22, .int x12, .ref (ad a21)]) := by
                    intro x22 H locs ls hq hB hl
                    unfold f_X12_gathers_J89 at hq
                    refine zz_ast S hT hB dX12_gathers_89 hq (fun s23 H locs hq hB => ?_)
                    refine lv_aload_n hx hb dX12_gathers_90 rfl (lv_at hl 0 rfl) ?_
                    refine zz_getR S hT hB (C := RX12) (ref := "DiagramDeskModel") (F := TX12) (N := 24) (index := 25) 12 7 iwX12 rfl (by decide) (by decide) rfl rfl (wS wd_718) (fun _ h9 => h9) dX12_gathers_91 hq (fun a24 hq => ?_)
                    refine lv_iload_n hx hb dX12_gathers_94 rfl (lv_at hl 2 rfl) ?_
                    refine lv_iload_n hx hb dX12_gathers_95 rfl (lv_at hl 1 rfl) ?_
                    refine zz_ast S hT hB dX12_gathers_96 hq (fun s25 H locs hq hB => ?_)
                    refine lv_aload_n hx hb dX12_gathers_97 rfl (lv_at hl 0 rfl) ?_
                    refine lv_iload_n hx hb dX12_gathers_98 rfl (lv_at hl 2 rfl) ?_
                    refine zz_callVv S hT hB (As := [.int x12]) (b := a0) (o := f_X12_clears T N s25 a0 x12) (c_X12_clears l D cy T hT ad N s25 _ a0 x12) (cwV 1 hts (gV wSub wd_713 wd_714 wd_715 wd_572 wd_716) rfl rfl rfl (by decide +kernel) ⟨Nat.le_of_ble_eq_true rfl, Nat.le_of_ble_eq_true rfl⟩) (F := TX12) (NF := 24) 12 rfl (by decide) (k_X12_clears T N s25 a0 x12) rfl hl.1 rfl (Nat.le_of_ble_eq_true rfl) dX12_gathers_99 hq (fun s26 H locs hq hB => ?_)
                    refine lv_aload_n hx hb dX12_gathers_102 rfl (lv_at hl 0 rfl) ?_
                    refine lv_dup hx hb dX12_gathers_103 rfl ?_
                    refine zz_get S hT hB (C := RX12) (ref := "DiagramDeskModel") (F := TX12) (N := 24) (index := 181) 12 11 iwX12 rfl (by decide) (by decide) rfl rfl (wS wd_712) (fun _ h9 => h9) dX12_gathers_104 hq (fun x27 hq => ?_)
                    refine lv_iconst (v := 1) hx hb dX12_gathers_107 (by decide) ?_
                    refine lv_iadd hx hb dX12_gathers_108 ?_
                    refine zz_put S hT hB (C := RX12) (ref := "DiagramDeskModel") (F := TX12) (N := 24) (index := 181) 12 11 iwX12 tyX12 tyX12_ok nmX12 rfl (by decide) (by decide) rfl rfl (wS wd_712) (fun _ h9 => h9) rfl (by decide +kernel) dX12_gathers_109 hq (fun s28 H locs hq hB => ?_)
                    exact J112 s28 _ _ _ hq hB (lv_sub hl [0, 1, 2] rfl)
                  refine zz_if_ge (tgt := 86) hx hb dX12_gathers_79 (by decide) hq (fun hq => ?_) (fun hq => ?_)
                  · refine lv_iload_n hx hb dX12_gathers_86 rfl (lv_at hl 2 rfl) ?_
                    refine lv_iconst (v := 1) hx hb dX12_gathers_87 (by decide) ?_
                    refine lv_iadd hx hb dX12_gathers_88 ?_
                    exact J89 (x11 + (1 : Int32)) _ _ _ hq hB (lv_sub hl [0, 1, 3] rfl)
                  · refine lv_iconst (v := 0) hx hb dX12_gathers_82 (by decide) ?_
                    refine lv_goto (tgt := 89) hx hb dX12_gathers_83 (by decide) ?_
                    exact J89 (0 : Int32) _ _ _ hq hB (lv_sub hl [0, 1, 3] rfl)
              refine zz_icmp_ge (tgt := 65) hx hb dX12_gathers_40 (by decide) hq (fun hq => ?_) (fun hq => ?_)
              · exact J65  _ _ _ hq hB (lv_sub hl [0, 1, 2, 3] rfl)
              · refine lv_iload_n hx hb dX12_gathers_43 rfl (lv_at hl 2 rfl) ?_
                refine zz_if_lt (tgt := 59) hx hb dX12_gathers_44 (by decide) hq (fun hq => ?_) (fun hq => ?_)
                · refine zz_nmV hq (fun x29 ex29 hq => ?_)
                  refine lv_iinc (v := x29) (lv' := [(3, .int x29), (0, .ref (ad a0)), (1, .int x5), (2, .int x11)]) hx hb dX12_gathers_59 hl (k := 3) rfl (by rw [ex29]; rfl) (by decide) rfl (fun ls hl => ?_)
                  refine lv_goto (tgt := 35) hx hb dX12_gathers_62 (by decide) ?_
                  exact ih35 x29 _ _ _ hq hB (lv_sub hl [1, 2, 3, 0] rfl)
                · refine lv_aload_n hx hb dX12_gathers_47 rfl (lv_at hl 0 rfl) ?_
                  refine zz_getR S hT hB (C := RX12) (ref := "DiagramDeskModel") (F := TX12) (N := 24) (index := 22) 12 6 iwX12 rfl (by decide) (by decide) rfl rfl (wS wd_717) (fun _ h9 => h9) dX12_gathers_48 hq (fun a30 hq => ?_)
                  refine lv_iload_n hx hb dX12_gathers_51 rfl (lv_at hl 3 rfl) ?_
                  refine zz_ald S hT hB dX12_gathers_52 hq (fun x31 hq => ?_)
                  refine lv_iload_n hx hb dX12_gathers_53 rfl (lv_at hl 2 rfl) ?_
                  refine lv_iconst (v := 1) hx hb dX12_gathers_54 (by decide) ?_
                  refine lv_iadd hx hb dX12_gathers_55 ?_
                  refine zz_icmp_eq (tgt := 65) hx hb dX12_gathers_56 (by decide) hq (fun hq => ?_) (fun hq => ?_)
                  · exact J65  _ _ _ hq hB (lv_sub hl [0, 1, 2, 3] rfl)
                  · refine zz_nmV hq (fun x32 ex32 hq => ?_)
                    refine lv_iinc (v := x32) (lv' := [(3, .int x32), (0, .ref (ad a0)), (1, .int x5), (2, .int x11)]) hx hb dX12_gathers_59 hl (k := 3) rfl (by rw [ex32]; rfl) (by decide) rfl (fun ls hl => ?_)
                    refine lv_goto (tgt := 35) hx hb dX12_gathers_62 (by decide) ?_
                    exact ih35 x32 _ _ _ hq hB (lv_sub hl [1, 2, 3, 0] rfl)
          exact L35 N (0 : Int32) _ _ _ hq hB (lv_sub hl [2, 3, 1, 0] rfl)
  exact L13 N (0 : Int32) s4 _ _ _ hq hB (lv_sub hl [1, 0] rfl)
def f_X12_group_L80 (T : zT) (N : Nat) (a0 : Nat) (x5 : Int32) (k80 : Int32 → zS → Option (Int32 × zS)) (x13 : Int32) (s14 : zS) : Option (Int32 × zS) :=
  (gI T s14 a0 12 11).bind fun x15 =>
  if x15 ≤ x13 then (
    some (x5, s14))
  else (
    (gR T s14 a0 12 6).bind fun a16 =>
    (aI T s14 a16 13 x13).bind fun x17 =>
    if x17 ≤ 0 then (
      (gR T s14 a0 12 0).bind fun a18 =>
      (gR T s14 a0 12 7).bind fun a19 =>
      (aI T s14 a19 13 x13).bind fun x20 =>
      (sI T s14 a18 (((10 : Int32) + ((8 : Int32) * x20)) + (7 : Int32)) (x5 + (1 : Int32))).bind fun s21 =>
      zn (x13 + (1 : Int32)) fun x22 =>
      k80 x22 s21)
    else (
      (gR T s14 a0 12 0).bind fun a23 =>
      (gR T s14 a0 12 6).bind fun a24 =>
      (aI T s14 a24 13 x13).bind fun x25 =>
      (sI T s14 a23 (((290 : Int32) + ((2 : Int32) * x25)) - (1 : Int32)) (x5 + (1 : Int32))).bind fun s26 =>
      zn (x13 + (1 : Int32)) fun x27 =>
      k80 x27 s26))
def f_X12_group_J37 (T : zT) (N : Nat) (a0 : Nat) (x5 : Int32) (s7 : zS) : Option (Int32 × zS) :=
  if ¬ x5 = (8 : Int32) then (
    (f_X12_act T N s7 a0).bind fun s8 =>
    (gR T s8 a0 12 0).bind fun a9 =>
    (sI T s8 a9 ((290 : Int32) + ((2 : Int32) * x5)) (1 : Int32)).bind fun s10 =>
    (gR T s10 a0 12 0).bind fun a11 =>
    (sI T s10 a11 (((290 : Int32) + ((2 : Int32) * x5)) + (1 : Int32)) (0 : Int32)).bind fun s12 =>
    zl2 (f_X12_group_L80 T N a0 x5) N (0 : Int32) s12)
  else (
    some ((-3 : Int32), s7))
def f_X12_group_L17 (T : zT) (N : Nat) (a0 : Nat) (k17 : Int32 → zS → Option (Int32 × zS)) (x5 : Int32) (s6 : zS) : Option (Int32 × zS) :=
  if (8 : Int32) ≤ x5 then (
    f_X12_group_J37 T N a0 x5 s6)
  else (
    zb2 (f_X12_isGroup T N s6 a0 x5) fun x29 s28 =>
    if x29 = 0 then (
      f_X12_group_J37 T N a0 x5 s28)
    else (
      zn (x5 + (1 : Int32)) fun x30 =>
      k17 x30 s28))
def f_X12_group (T : zT) (N : Nat) (s0 : zS) (a0 : Nat) : Option (Int32 × zS) :=
  zz1 (T.1 a0 = 12) <|
  (f_X12_gathers T N s0 a0).bind fun s3 =>
  (gI T s3 a0 12 11).bind fun x4 =>
  if (2 : Int32) ≤ x4 then (
    zl2 (f_X12_group_L17 T N a0) N (0 : Int32) s3)
  else (
    some ((-2 : Int32), s3))
theorem k_X12_group (T : zT) (N : Nat) (s0 : zS) (a0 : Nat) : ∀ q, f_X12_group T N s0 a0 = some q → T.1 a0 = 12 := by
  intro q h
  unfold f_X12_group at h
  exact zz_guard h (fun h _ => h)
set_option maxHeartbeats 4000000 in
set_option maxRecDepth 100000 in
theorem c_X12_group (l : Launch) (D : va_G) (cy : Nat → ClassId) (T : zT) (hT : zok T) (ad : Nat → Nat) (N : Nat) (s0 : zS) (sz : Nat) (a0 : Nat) : ∀ (r0 : Int32) (σ0 : zS), f_X12_group T N s0 a0 = some (r0, σ0) → Met l yX12_group wsX12_group ({ frames := 4, cells := 0, slots := 0, locals := 91 }) (va_Pc [.ref (ad a0)] (zPre D cy T ad s0 sz)) (va_Qi (fun (r2 : Int32) (σ2 : zS) => r2 = r0 ∧ σ2 = σ0) (zAt D cy T ad (zA T ad sz)) (zA T ad sz)) 0 0 (zA T ad sz) := by
  intro r0 σ0 hq
  refine Met.ofW (cc := cX12_group) (maxL := 3) (ret := (some .int)) (by decide) rfl ?_
  intro p e s m args below meth c s₁ B hml hv
  obtain ⟨hargs, hsz, hP, hK, hD0, hN⟩ := hv
  have hx := B.exec
  have hb := B.bytes
  have hr := B.returns
  have hts := atoms_spec (ws := wsX12_group) B.pre
  have hown : s.vm.findClass RX12 = some m.cls := findClass_of_methodNamed B.named
  have hlocks := B.notSynchronized
  have S : CallFix p m c cX12_group 3 s args wsX12_group RX12 := ⟨hx, hb, hml, hown, hts⟩
  subst hsz
  have hB : zB D cy T ad (zA T ad s.heap.size) s.heap s0 s.heap [] s := zz_entry hP hK hD0 hN
  obtain ⟨ls, hent, hl⟩ := zz_ent m hargs (n := 3) (Nat.le_of_ble_eq_true rfl)
  rw [hent]
  have hl : lv_has ls 3 [(0, .ref (ad a0))] := hl
  have iwX12 : ∀ w ∈ u_ws RX12 TX12 24, w ∈ wsX12_group := fun w h => wS (inWX12 w h)
  unfold f_X12_group at hq
  refine zz_guard hq (fun hk0 hq => ?_)
  refine lv_aload_n hx hb dX12_group_0 rfl (lv_at hl 0 rfl) ?_
  refine zz_callVv S hT hB (As := []) (b := a0) (o := f_X12_gathers T N s0 a0) (c_X12_gathers l D cy T hT ad N s0 _ a0) (cwV 0 hts (gV wSub wd_724 wd_725 wd_726 wd_572 wd_727) rfl rfl rfl (by decide +kernel) ⟨Nat.le_of_ble_eq_true rfl, Nat.le_of_ble_eq_true rfl⟩) (F := TX12) (NF := 24) 12 rfl (by decide) (k_X12_gathers T N s0 a0) rfl hl.1 rfl (Nat.le_of_ble_eq_true rfl) dX12_group_1 hq (fun s3 H locs hq hB => ?_)
  refine lv_aload_n hx hb dX12_group_4 rfl (lv_at hl 0 rfl) ?_
  refine zz_get S hT hB (C := RX12) (ref := "DiagramDeskModel") (F := TX12) (N := 24) (index := 181) 12 11 iwX12 rfl (by decide) (by decide) rfl rfl (wS wd_712) (fun _ h9 => h9) dX12_group_5 hq (fun x4 hq => ?_)
  refine lv_iconst (v := 2) hx hb dX12_group_8 (by decide) ?_
  refine zz_icmp_ge (tgt := 15) hx hb dX12_group_9 (by decide) hq (fun hq => ?_) (fun hq => ?_)
  · refine lv_iconst (v := 0) hx hb dX12_group_15 (by decide) ?_
    refine lv_istore_n (lv' := [(1, .int (0 : Int32)), (0, .ref (ad a0))]) hx hb dX12_group_16 rfl hl (by decide) rfl (fun ls hl => ?_)
    have L17 : ∀ (n : Nat) (x5 : Int32) (s6 : zS) (H : Heap) (locs : List Loc) (ls : Array Slot), zl2 (f_X12_group_L17 T N a0) n x5 s6 = some (r0, σ0) → zB D cy T ad (zA T ad s.heap.size) s.heap s6 H locs s → lv_has ls 3 [(0, .ref (ad a0)), (1, .int x5)] → W p l e (headSpec wsX12_group ({ frames := 4, cells := 0, slots := 0, locals := 91 } : Room)).room s m args below meth c H locs 0 0 (MQ below (va_Qi (fun (r2 : Int32) (σ2 : zS) => r2 = r0 ∧ σ2 = σ0) (zAt D cy T ad (zA T ad s.heap.size)) (zA T ad s.heap.size)) args s 0 0 (zA T ad s.heap.size)) (F0 m 17 ls []) := by
      intro n
      induction n with
      | zero => intro x5 s6 H locs ls hq; exact zz_none hq
      | succ n ih17 =>
        intro x5 s6 H locs ls hq hB hl
        rw [zl2] at hq
        generalize zl2 (f_X12_group_L17 T N a0) n = k17 at ih17 hq
        unfold f_X12_group_L17 at hq
        refine lv_iload_n hx hb dX12_group_17 rfl (lv_at hl 1 rfl) ?_
        refine lv_bipush (v := 8) hx hb dX12_group_18 (by decide) ?_
        have J37 : ∀ (s7 : zS) (H : Heap) (locs : List Loc) (ls : Array Slot), f_X12_group_J37 T N a0 x5 s7 = some (r0, σ0) → zB D cy T ad (zA T ad s.heap.size) s.heap s7 H locs s → lv_has ls 3 [(0, .ref (ad a0)), (1, .int x5)] → W p l e (headSpec wsX12_group ({ frames := 4, cells := 0, slots := 0, locals := 91 } : Room)).room s m args below meth c H locs 0 0 (MQ below (va_Qi (fun (r2 : Int32) (σ2 : zS) => r2 = r0 ∧ σ2 = σ0) (zAt D cy T ad (zA T ad s.heap.size)) (zA T ad s.heap.size)) args s 0 0 (zA T ad s.heap.size)) (F0 m 37 ls []) := by
          intro s7 H locs ls hq hB hl
          unfold f_X12_group_J37 at hq
          refine lv_iload_n hx hb dX12_group_37 rfl (lv_at hl 1 rfl) ?_
          refine lv_bipush (v := 8) hx hb dX12_group_38 (by decide) ?_
          refine zz_icmp_ne (tgt := 46) hx hb dX12_group_40 (by decide) hq (fun hq => ?_) (fun hq => ?_)
          · refine lv_aload_n hx hb dX12_group_46 rfl (lv_at hl 0 rfl) ?_
            refine zz_callVv S hT hB (As := []) (b := a0) (o := f_X12_act T N s7 a0) (c_X12_act l D cy T hT ad N s7 _ a0) (cwV 0 hts (gV wSub wd_604 wd_605 wd_606 wd_572 wd_607) rfl rfl rfl (by decide +kernel) ⟨Nat.le_of_ble_eq_true rfl, Nat.le_of_ble_eq_true rfl⟩) (F := TX12) (NF := 24) 12 rfl (by decide) (k_X12_act T N s7 a0) rfl hl.1 rfl (Nat.le_of_ble_eq_true rfl) dX12_group_47 hq (fun s8 H locs hq hB => ?_)
            refine lv_aload_n hx hb dX12_group_50 rfl (lv_at hl 0 rfl) ?_
            refine zz_getR S hT hB (C := RX12) (ref := "DiagramDeskModel") (F := TX12) (N := 24) (index := 7) 12 0 iwX12 rfl (by decide) (by decide) rfl rfl (wS wd_569) (fun _ h9 => h9) dX12_group_51 hq (fun a9 hq => ?_)
            refine lv_sipush (v := 290) hx hb dX12_group_54 (by decide) ?_
            refine lv_iconst (v := 2) hx hb dX12_group_57 (by decide) ?_
            refine lv_iload_n hx hb dX12_group_58 rfl (lv_at hl 1 rfl) ?_
            refine lv_imul hx hb dX12_group_59 ?_
            refine lv_iadd hx hb dX12_group_60 ?_
            refine lv_iconst (v := 1) hx hb dX12_group_61 (by decide) ?_
            refine zz_ast S hT hB dX12_group_62 hq (fun s10 H locs hq hB => ?_)
            refine lv_aload_n hx hb dX12_group_63 rfl (lv_at hl 0 rfl) ?_
            refine zz_getR S hT hB (C := RX12) (ref := "DiagramDeskModel") (F := TX12) (N := 24) (index := 7) 12 0 iwX12 rfl (by decide) (by decide) rfl rfl (wS wd_569) (fun _ h9 => h9) dX12_group_64 hq (fun a11 hq => ?_)
            refine lv_sipush (v := 290) hx hb dX12_group_67 (by decide) ?_
            refine lv_iconst (v := 2) hx hb dX12_group_70 (by decide) ?_
            refine lv_iload_n hx hb dX12_group_71 rfl (lv_at hl 1 rfl) ?_
            refine lv_imul hx hb dX12_group_72 ?_
            refine lv_iadd hx hb dX12_group_73 ?_
            refine lv_iconst (v := 1) hx hb dX12_group_74 (by decide) ?_
            refine lv_iadd hx hb dX12_group_75 ?_
            refine lv_iconst (v := 0) hx hb dX12_group_76 (by decide) ?_
            refine zz_ast S hT hB dX12_group_77 hq (fun s12 H locs hq hB => ?_)
            refine lv_iconst (v := 0) hx hb dX12_group_78 (by decide) ?_
            refine lv_istore_n (lv' := [(2, .int (0 : Int32)), (0, .ref (ad a0)), (1, .int x5)]) hx hb dX12_group_79 rfl hl (by decide) rfl (fun ls hl => ?_)
            have L80 : ∀ (n : Nat) (x13 : Int32) (s14 : zS) (H : Heap) (locs : List Loc) (ls : Array Slot), zl2 (f_X12_group_L80 T N a0 x5) n x13 s14 = some (r0, σ0) → zB D cy T ad (zA T ad s.heap.size) s.heap s14 H locs s → lv_has ls 3 [(0, .ref (ad a0)), (1, .int x5), (2, .int x13)] → W p l e (headSpec wsX12_group ({ frames := 4, cells := 0, slots := 0, locals := 91 } : Room)).room s m args below meth c H locs 0 0 (MQ below (va_Qi (fun (r2 : Int32) (σ2 : zS) => r2 = r0 ∧ σ2 = σ0) (zAt D cy T ad (zA T ad s.heap.size)) (zA T ad s.heap.size)) args s 0 0 (zA T ad s.heap.size)) (F0 m 80 ls []) := by
              intro n
              induction n with
              | zero => intro x13 s14 H locs ls hq; exact zz_none hq
              | succ n ih80 =>
                intro x13 s14 H locs ls hq hB hl
                rw [zl2] at hq
                generalize zl2 (f_X12_group_L80 T N a0 x5) n = k80 at ih80 hq
                unfold f_X12_group_L80 at hq
                refine lv_iload_n hx hb dX12_group_80 rfl (lv_at hl 2 rfl) ?_
                refine lv_aload_n hx hb dX12_group_81 rfl (lv_at hl 0 rfl) ?_
                refine zz_get S hT hB (C := RX12) (ref := "DiagramDeskModel") (F := TX12) (N := 24) (index := 181) 12 11 iwX12 rfl (by decide) (by decide) rfl rfl (wS wd_712) (fun _ h9 => h9) dX12_group_82 hq (fun x15 hq => ?_)
                refine zz_icmp_ge (tgt := 151) hx hb dX12_group_85 (by decide) hq (fun hq => ?_) (fun hq => ?_)
                · refine lv_iload_n hx hb dX12_group_151 rfl (lv_at hl 1 rfl) ?_
                  exact zz_iret S hB hr hlocks dX12_group_152 hq
                · refine lv_aload_n hx hb dX12_group_88 rfl (lv_at hl 0 rfl) ?_
                  refine zz_getR S hT hB (C := RX12) (ref := "DiagramDeskModel") (F := TX12) (N := 24) (index := 22) 12 6 iwX12 rfl (by decide) (by decide) rfl rfl (wS wd_717) (fun _ h9 => h9) dX12_group_89 hq (fun a16 hq => ?_)
                  refine lv_iload_n hx hb dX12_group_92 rfl (lv_at hl 2 rfl) ?_
                  refine zz_ald S hT hB dX12_group_93 hq (fun x17 hq => ?_)
                  refine zz_if_le (tgt := 122) hx hb dX12_group_94 (by decide) hq (fun hq => ?_) (fun hq => ?_)
                  · refine lv_aload_n hx hb dX12_group_122 rfl (lv_at hl 0 rfl) ?_
                    refine zz_getR S hT hB (C := RX12) (ref := "DiagramDeskModel") (F := TX12) (N := 24) (index := 7) 12 0 iwX12 rfl (by decide) (by decide) rfl rfl (wS wd_569) (fun _ h9 => h9) dX12_group_123 hq (fun a18 hq => ?_)
                    refine lv_bipush (v := 10) hx hb dX12_group_126 (by decide) ?_
                    refine lv_bipush (v := 8) hx hb dX12_group_128 (by decide) ?_
                    refine lv_aload_n hx hb dX12_group_130 rfl (lv_at hl 0 rfl) ?_
                    refine zz_getR S hT hB (C := RX12) (ref := "DiagramDeskModel") (F := TX12) (N := 24) (index := 25) 12 7 iwX12 rfl (by decide) (by decide) rfl rfl (wS wd_718) (fun _ h9 => h9) dX12_group_131 hq (fun a19 hq => ?_)
                    refine lv_iload_n hx hb dX12_group_134 rfl (lv_at hl 2 rfl) ?_
                    refine zz_ald S hT hB dX12_group_135 hq (fun x20 hq => ?_)
                    refine lv_imul hx hb dX12_group_136 ?_
                    refine lv_iadd hx hb dX12_group_137 ?_
                    refine lv_bipush (v := 7) hx hb dX12_group_138 (by decide) ?_
                    refine lv_iadd hx hb dX12_group_140 ?_
                    refine lv_iload_n hx hb dX12_group_141 rfl (lv_at hl 1 rfl) ?_
                    refine lv_iconst (v := 1) hx hb dX12_group_142 (by decide) ?_
                    refine lv_iadd hx hb dX12_group_143 ?_
                    refine zz_ast S hT hB dX12_group_144 hq (fun s21 H locs hq hB => ?_)
                    refine zz_nmV hq (fun x22 ex22 hq => ?_)
                    refine lv_iinc (v := x22) (lv' := [(2, .int x22), (0, .ref (ad a0)), (1, .int x5)]) hx hb dX12_group_145 hl (k := 2) rfl (by rw [ex22]; rfl) (by decide) rfl (fun ls hl => ?_)
                    refine lv_goto (tgt := 80) hx hb dX12_group_148 (by decide) ?_
                    exact ih80 x22 s21 _ _ _ hq hB (lv_sub hl [1, 2, 0] rfl)
                  · refine lv_aload_n hx hb dX12_group_97 rfl (lv_at hl 0 rfl) ?_
                    refine zz_getR S hT hB (C := RX12) (ref := "DiagramDeskModel") (F := TX12) (N := 24) (index := 7) 12 0 iwX12 rfl (by decide) (by decide) rfl rfl (wS wd_569) (fun _ h9 => h9) dX12_group_98 hq (fun a23 hq => ?_)
                    refine lv_sipush (v := 290) hx hb dX12_group_101 (by decide) ?_
                    refine lv_iconst (v := 2) hx hb dX12_group_104 (by decide) ?_
                    refine lv_aload_n hx hb dX12_group_105 rfl (lv_at hl 0 rfl) ?_
                    refine zz_getR S hT hB (C := RX12) (ref := "DiagramDeskModel") (F := TX12) (N := 24) (index := 22) 12 6 iwX12 rfl (by decide) (by decide) rfl rfl (wS wd_717) (fun _ h9 => h9) dX12_group_106 hq (fun a24 hq => ?_)
                    refine lv_iload_n hx hb dX12_group_109 rfl (lv_at hl 2 rfl) ?_
                    refine zz_ald S hT hB dX12_group_110 hq (fun x25 hq => ?_)
                    refine lv_imul hx hb dX12_group_111 ?_
                    refine lv_iadd hx hb dX12_group_112 ?_
                    refine lv_iconst (v := 1) hx hb dX12_group_113 (by decide) ?_
                    refine lv_isub hx hb dX12_group_114 ?_
                    refine lv_iload_n hx hb dX12_group_115 rfl (lv_at hl 1 rfl) ?_
                    refine lv_iconst (v := 1) hx hb dX12_group_116 (by decide) ?_
                    refine lv_iadd hx hb dX12_group_117 ?_
                    refine zz_ast S hT hB dX12_group_118 hq (fun s26 H locs hq hB => ?_)
                    refine lv_goto (tgt := 145) hx hb dX12_group_119 (by decide) ?_
                    refine zz_nmV hq (fun x27 ex27 hq => ?_)
                    refine lv_iinc (v := x27) (lv' := [(2, .int x27), (0, .ref (ad a0)), (1, .int x5)]) hx hb dX12_group_145 hl (k := 2) rfl (by rw [ex27]; rfl) (by decide) rfl (fun ls hl => ?_)
                    refine lv_goto (tgt := 80) hx hb dX12_group_148 (by decide) ?_
                    exact ih80 x27 s26 _ _ _ hq hB (lv_sub hl [1, 2, 0] rfl)
            exact L80 N (0 : Int32) s12 _ _ _ hq hB (lv_sub hl [1, 2, 0] rfl)
          · refine lv_bipush (v := -3) hx hb dX12_group_43 (by decide) ?_
            exact zz_iret S hB hr hlocks dX12_group_45 hq
        refine zz_icmp_ge (tgt := 37) hx hb dX12_group_20 (by decide) hq (fun hq => ?_) (fun hq => ?_)
        · exact J37 s6 _ _ _ hq hB (lv_sub hl [0, 1] rfl)
        · refine lv_aload_n hx hb dX12_group_23 rfl (lv_at hl 0 rfl) ?_
          refine lv_iload_n hx hb dX12_group_24 rfl (lv_at hl 1 rfl) ?_
          refine zz_callVi S hT hB (As := [.int x5]) (b := a0) (o := f_X12_isGroup T N s6 a0 x5) (c_X12_isGroup l D cy T hT ad N s6 _ a0 x5) (cwV 1 hts (gV wSub wd_590 wd_591 wd_592 wd_572 wd_593) rfl rfl rfl (by decide +kernel) ⟨Nat.le_of_ble_eq_true rfl, Nat.le_of_ble_eq_true rfl⟩) (F := TX12) (NF := 24) 12 rfl (by decide) (k_X12_isGroup T N s6 a0 x5) rfl hl.1 rfl (Nat.le_of_ble_eq_true rfl) dX12_group_25 hq (fun x29 s28 H locs hq hB => ?_)
          refine zz_if_eq (tgt := 37) hx hb dX12_group_28 (by decide) hq (fun hq => ?_) (fun hq => ?_)
          · exact J37 s28 _ _ _ hq hB (lv_sub hl [0, 1] rfl)
          · refine zz_nmV hq (fun x30 ex30 hq => ?_)
            refine lv_iinc (v := x30) (lv' := [(1, .int x30), (0, .ref (ad a0))]) hx hb dX12_group_31 hl (k := 1) rfl (by rw [ex30]; rfl) (by decide) rfl (fun ls hl => ?_)
            refine lv_goto (tgt := 17) hx hb dX12_group_34 (by decide) ?_
            exact ih17 x30 s28 _ _ _ hq hB (lv_sub hl [1, 0] rfl)
    exact L17 N (0 : Int32) s3 _ _ _ hq hB (lv_sub hl [1, 0] rfl)
  · refine lv_bipush (v := -2) hx hb dX12_group_12 (by decide) ?_
    exact zz_iret S hB hr hlocks dX12_group_14 hq
def f_X12_ungroup_L84 (T : zT) (N : Nat) (a0 : Nat) (x1 : Int32) (x9 : Int32) (k84 : Int32 → Int32 → zS → Option (Int32 × zS)) (x13 : Int32) (x14 : Int32) (s15 : zS) : Option (Int32 × zS) :=
  if (8 : Int32) ≤ x14 then (
    (gR T s15 a0 12 0).bind fun a16 =>
    (sI T s15 a16 ((290 : Int32) + ((2 : Int32) * x1)) (0 : Int32)).bind fun s17 =>
    some (x13, s17))
  else (
    zb2 (f_X12_isGroup T N s15 a0 x14) fun x19 s18 =>
    if x19 = 0 then (
      zn (x14 + (1 : Int32)) fun x20 =>
      k84 x13 x20 s18)
    else (
      zb2 (f_X12_above T N s18 a0 x14) fun x22 s21 =>
      if ¬ x22 = x1 then (
        zn (x14 + (1 : Int32)) fun x23 =>
        k84 x13 x23 s21)
      else (
        (gR T s21 a0 12 0).bind fun a24 =>
        (sI T s21 a24 (((290 : Int32) + ((2 : Int32) * x14)) + (1 : Int32)) x9).bind fun s25 =>
        zn (x13 + (1 : Int32)) fun x26 =>
        zn (x14 + (1 : Int32)) fun x27 =>
        k84 x26 x27 s25)))
def f_X12_ungroup_L27 (T : zT) (N : Nat) (a0 : Nat) (x1 : Int32) (x9 : Int32) (k27 : Int32 → Int32 → zS → Option (Int32 × zS)) (x10 : Int32) (x11 : Int32) (s12 : zS) : Option (Int32 × zS) :=
  if (20 : Int32) ≤ x11 then (
    zl3 (f_X12_ungroup_L84 T N a0 x1 x9) N x10 (0 : Int32) s12)
  else (
    zb2 (f_X12_of T N s12 a0 x11 (0 : Int32)) fun x29 s28 =>
    if ¬ x29 = (1 : Int32) then (
      zn (x11 + (1 : Int32)) fun x30 =>
      k27 x10 x30 s28)
    else (
      zb2 (f_X12_groupOf T N s28 a0 x11) fun x32 s31 =>
      if ¬ x32 = x1 then (
        zn (x11 + (1 : Int32)) fun x33 =>
        k27 x10 x33 s31)
      else (
        (gR T s31 a0 12 0).bind fun a34 =>
        (sI T s31 a34 (((10 : Int32) + ((8 : Int32) * x11)) + (7 : Int32)) x9).bind fun s35 =>
        zn (x10 + (1 : Int32)) fun x36 =>
        zn (x11 + (1 : Int32)) fun x37 =>
        k27 x36 x37 s35)))
def f_X12_ungroup (T : zT) (N : Nat) (s0 : zS) (a0 : Nat) (x1 : Int32) : Option (Int32 × zS) :=
  zz1 (T.1 a0 = 12) <|
  zb2 (f_X12_isGroup T N s0 a0 x1) fun x5 s4 =>
  if ¬ x5 = 0 then (
    (f_X12_act T N s4 a0).bind fun s6 =>
    zb2 (f_X12_above T N s6 a0 x1) fun x8 s7 =>
    zn (x8 + (1 : Int32)) fun x9 =>
    zl3 (f_X12_ungroup_L27 T N a0 x1 x9) N (0 : Int32) (0 : Int32) s7)
  else (
    some ((-1 : Int32), s4))
theorem k_X12_ungroup (T : zT) (N : Nat) (s0 : zS) (a0 : Nat) (x1 : Int32) : ∀ q, f_X12_ungroup T N s0 a0 x1 = some q → T.1 a0 = 12 := by
  intro q h
  unfold f_X12_ungroup at h
  exact zz_guard h (fun h _ => h)
set_option maxHeartbeats 4000000 in
set_option maxRecDepth 100000 in
theorem c_X12_ungroup (l : Launch) (D : va_G) (cy : Nat → ClassId) (T : zT) (hT : zok T) (ad : Nat → Nat) (N : Nat) (s0 : zS) (sz : Nat) (a0 : Nat) (x1 : Int32) : ∀ (r0 : Int32) (σ0 : zS), f_X12_ungroup T N s0 a0 x1 = some (r0, σ0) → Met l yX12_ungroup wsX12_ungroup ({ frames := 2, cells := 0, slots := 0, locals := 43 }) (va_Pc [.ref (ad a0), .int x1] (zPre D cy T ad s0 sz)) (va_Qi (fun (r2 : Int32) (σ2 : zS) => r2 = r0 ∧ σ2 = σ0) (zAt D cy T ad (zA T ad sz)) (zA T ad sz)) 0 0 (zA T ad sz) := by
  intro r0 σ0 hq
  refine Met.ofW (cc := cX12_ungroup) (maxL := 5) (ret := (some .int)) (by decide) rfl ?_
  intro p e s m args below meth c s₁ B hml hv
  obtain ⟨hargs, hsz, hP, hK, hD0, hN⟩ := hv
  have hx := B.exec
  have hb := B.bytes
  have hr := B.returns
  have hts := atoms_spec (ws := wsX12_ungroup) B.pre
  have hown : s.vm.findClass RX12 = some m.cls := findClass_of_methodNamed B.named
  have hlocks := B.notSynchronized
  have S : CallFix p m c cX12_ungroup 5 s args wsX12_ungroup RX12 := ⟨hx, hb, hml, hown, hts⟩
  subst hsz
  have hB : zB D cy T ad (zA T ad s.heap.size) s.heap s0 s.heap [] s := zz_entry hP hK hD0 hN
  obtain ⟨ls, hent, hl⟩ := zz_ent m hargs (n := 5) (Nat.le_of_ble_eq_true rfl)
  rw [hent]
  have hl : lv_has ls 5 [(0, .ref (ad a0)), (1, .int x1)] := hl
  have iwX12 : ∀ w ∈ u_ws RX12 TX12 24, w ∈ wsX12_ungroup := fun w h => wS (inWX12 w h)
  unfold f_X12_ungroup at hq
  refine zz_guard hq (fun hk0 hq => ?_)
  refine lv_aload_n hx hb dX12_ungroup_0 rfl (lv_at hl 0 rfl) ?_
  refine lv_iload_n hx hb dX12_ungroup_1 rfl (lv_at hl 1 rfl) ?_
  refine zz_callVi S hT hB (As := [.int x1]) (b := a0) (o := f_X12_isGroup T N s0 a0 x1) (c_X12_isGroup l D cy T hT ad N s0 _ a0 x1) (cwV 1 hts (gV wSub wd_590 wd_591 wd_592 wd_572 wd_593) rfl rfl rfl (by decide +kernel) ⟨Nat.le_of_ble_eq_true rfl, Nat.le_of_ble_eq_true rfl⟩) (F := TX12) (NF := 24) 12 rfl (by decide) (k_X12_isGroup T N s0 a0 x1) rfl hl.1 rfl (Nat.le_of_ble_eq_true rfl) dX12_ungroup_2 hq (fun x5 s4 H locs hq hB => ?_)
  refine zz_if_ne (tgt := 10) hx hb dX12_ungroup_5 (by decide) hq (fun hq => ?_) (fun hq => ?_)
  · refine lv_aload_n hx hb dX12_ungroup_10 rfl (lv_at hl 0 rfl) ?_
    refine zz_callVv S hT hB (As := []) (b := a0) (o := f_X12_act T N s4 a0) (c_X12_act l D cy T hT ad N s4 _ a0) (cwV 0 hts (gV wSub wd_604 wd_605 wd_606 wd_572 wd_607) rfl rfl rfl (by decide +kernel) ⟨Nat.le_of_ble_eq_true rfl, Nat.le_of_ble_eq_true rfl⟩) (F := TX12) (NF := 24) 12 rfl (by decide) (k_X12_act T N s4 a0) rfl hl.1 rfl (Nat.le_of_ble_eq_true rfl) dX12_ungroup_11 hq (fun s6 H locs hq hB => ?_)
    refine lv_iconst (v := 0) hx hb dX12_ungroup_14 (by decide) ?_
    refine lv_istore_n (lv' := [(2, .int (0 : Int32)), (0, .ref (ad a0)), (1, .int x1)]) hx hb dX12_ungroup_15 rfl hl (by decide) rfl (fun ls hl => ?_)
    refine lv_aload_n hx hb dX12_ungroup_16 rfl (lv_at hl 1 rfl) ?_
    refine lv_iload_n hx hb dX12_ungroup_17 rfl (lv_at hl 2 rfl) ?_
    refine zz_callVi S hT hB (As := [.int x1]) (b := a0) (o := f_X12_above T N s6 a0 x1) (c_X12_above l D cy T hT ad N s6 _ a0 x1) (cwV 1 hts (gV wSub wd_582 wd_583 wd_584 wd_572 wd_585) rfl rfl rfl (by decide +kernel) ⟨Nat.le_of_ble_eq_true rfl, Nat.le_of_ble_eq_true rfl⟩) (F := TX12) (NF := 24) 12 rfl (by decide) (k_X12_above T N s6 a0 x1) rfl hl.1 rfl (Nat.le_of_ble_eq_true rfl) dX12_ungroup_18 hq (fun x8 s7 H locs hq hB => ?_)
    refine lv_iconst (v := 1) hx hb dX12_ungroup_21 (by decide) ?_
    refine lv_iadd hx hb dX12_ungroup_22 ?_
    refine zz_nmI hq (fun x9 hq => ?_)
    refine lv_istore_n (lv' := [(3, .int x9), (2, .int (0 : Int32)), (0, .ref (ad a0)), (1, .int x1)]) hx hb dX12_ungroup_23 rfl hl (by decide) rfl (fun ls hl => ?_)
    refine lv_iconst (v := 0) hx hb dX12_ungroup_24 (by decide) ?_
    refine lv_istore (lv' := [(4, .int (0 : Int32)), (3, .int x9), (2, .int (0 : Int32)), (0, .ref (ad a0)), (1, .int x1)]) hx hb dX12_ungroup_25 hl (by decide) rfl (fun ls hl => ?_)
    have L27 : ∀ (n : Nat) (x10 : Int32) (x11 : Int32) (s12 : zS) (H : Heap) (locs : List Loc) (ls : Array Slot), zl3 (f_X12_ungroup_L27 T N a0 x1 x9) n x10 x11 s12 = some (r0, σ0) → zB D cy T ad (zA T ad s.heap.size) s.heap s12 H locs s → lv_has ls 5 [(0, .ref (ad a0)), (1, .int x1), (2, .int x10), (3, .int x9), (4, .int x11)] → W p l e (headSpec wsX12_ungroup ({ frames := 2, cells := 0, slots := 0, locals := 43 } : Room)).room s m args below meth c H locs 0 0 (MQ below (va_Qi (fun (r2 : Int32) (σ2 : zS) => r2 = r0 ∧ σ2 = σ0) (zAt D cy T ad (zA T ad s.heap.size)) (zA T ad s.heap.size)) args s 0 0 (zA T ad s.heap.size)) (F0 m 27 ls []) := by
      intro n
      induction n with
      | zero => intro x10 x11 s12 H locs ls hq; exact zz_none hq
      | succ n ih27 =>
        intro x10 x11 s12 H locs ls hq hB hl
        rw [zl3] at hq
        generalize zl3 (f_X12_ungroup_L27 T N a0 x1 x9) n = k27 at ih27 hq
        unfold f_X12_ungroup_L27 at hq
        refine lv_iload hx hb dX12_ungroup_27 (lv_at hl 4 rfl) ?_
        refine lv_bipush (v := 20) hx hb dX12_ungroup_29 (by decide) ?_
        refine zz_icmp_ge (tgt := 81) hx hb dX12_ungroup_31 (by decide) hq (fun hq => ?_) (fun hq => ?_)
        · refine lv_iconst (v := 0) hx hb dX12_ungroup_81 (by decide) ?_
          refine lv_istore (lv' := [(4, .int (0 : Int32)), (0, .ref (ad a0)), (1, .int x1), (2, .int x10), (3, .int x9)]) hx hb dX12_ungroup_82 hl (by decide) rfl (fun ls hl => ?_)
          have L84 : ∀ (n : Nat) (x13 : Int32) (x14 : Int32) (s15 : zS) (H : Heap) (locs : List Loc) (ls : Array Slot), zl3 (f_X12_ungroup_L84 T N a0 x1 x9) n x13 x14 s15 = some (r0, σ0) → zB D cy T ad (zA T ad s.heap.size) s.heap s15 H locs s → lv_has ls 5 [(0, .ref (ad a0)), (1, .int x1), (2, .int x13), (3, .int x9), (4, .int x14)] → W p l e (headSpec wsX12_ungroup ({ frames := 2, cells := 0, slots := 0, locals := 43 } : Room)).room s m args below meth c H locs 0 0 (MQ below (va_Qi (fun (r2 : Int32) (σ2 : zS) => r2 = r0 ∧ σ2 = σ0) (zAt D cy T ad (zA T ad s.heap.size)) (zA T ad s.heap.size)) args s 0 0 (zA T ad s.heap.size)) (F0 m 84 ls []) := by
            intro n
            induction n with
            | zero => intro x13 x14 s15 H locs ls hq; exact zz_none hq
            | succ n ih84 =>
              intro x13 x14 s15 H locs ls hq hB hl
              rw [zl3] at hq
              generalize zl3 (f_X12_ungroup_L84 T N a0 x1 x9) n = k84 at ih84 hq
              unfold f_X12_ungroup_L84 at hq
              refine lv_iload hx hb dX12_ungroup_84 (lv_at hl 4 rfl) ?_
              refine lv_bipush (v := 8) hx hb dX12_ungroup_86 (by decide) ?_
              refine zz_icmp_ge (tgt := 135) hx hb dX12_ungroup_88 (by decide) hq (fun hq => ?_) (fun hq => ?_)
              · refine lv_aload_n hx hb dX12_ungroup_135 rfl (lv_at hl 0 rfl) ?_
                refine zz_getR S hT hB (C := RX12) (ref := "DiagramDeskModel") (F := TX12) (N := 24) (index := 7) 12 0 iwX12 rfl (by decide) (by decide) rfl rfl (wS wd_569) (fun _ h9 => h9) dX12_ungroup_136 hq (fun a16 hq => ?_)
                refine lv_sipush (v := 290) hx hb dX12_ungroup_139 (by decide) ?_
                refine lv_iconst (v := 2) hx hb dX12_ungroup_142 (by decide) ?_
                refine lv_iload_n hx hb dX12_ungroup_143 rfl (lv_at hl 1 rfl) ?_
                refine lv_imul hx hb dX12_ungroup_144 ?_
                refine lv_iadd hx hb dX12_ungroup_145 ?_
                refine lv_iconst (v := 0) hx hb dX12_ungroup_146 (by decide) ?_
                refine zz_ast S hT hB dX12_ungroup_147 hq (fun s17 H locs hq hB => ?_)
                refine lv_iload_n hx hb dX12_ungroup_148 rfl (lv_at hl 2 rfl) ?_
                exact zz_iret S hB hr hlocks dX12_ungroup_149 hq
              · refine lv_aload_n hx hb dX12_ungroup_91 rfl (lv_at hl 0 rfl) ?_
                refine lv_iload hx hb dX12_ungroup_92 (lv_at hl 4 rfl) ?_
                refine zz_callVi S hT hB (As := [.int x14]) (b := a0) (o := f_X12_isGroup T N s15 a0 x14) (c_X12_isGroup l D cy T hT ad N s15 _ a0 x14) (cwV 1 hts (gV wSub wd_590 wd_591 wd_592 wd_572 wd_593) rfl rfl rfl (by decide +kernel) ⟨Nat.le_of_ble_eq_true rfl, Nat.le_of_ble_eq_true rfl⟩) (F := TX12) (NF := 24) 12 rfl (by decide) (k_X12_isGroup T N s15 a0 x14) rfl hl.1 rfl (Nat.le_of_ble_eq_true rfl) dX12_ungroup_94 hq (fun x19 s18 H locs hq hB => ?_)
                refine zz_if_eq (tgt := 129) hx hb dX12_ungroup_97 (by decide) hq (fun hq => ?_) (fun hq => ?_)
                · refine zz_nmV hq (fun x20 ex20 hq => ?_)
                  refine lv_iinc (v := x20) (lv' := [(4, .int x20), (0, .ref (ad a0)), (1, .int x1), (2, .int x13), (3, .int x9)]) hx hb dX12_ungroup_129 hl (k := 4) rfl (by rw [ex20]; rfl) (by decide) rfl (fun ls hl => ?_)
                  refine lv_goto (tgt := 84) hx hb dX12_ungroup_132 (by decide) ?_
                  exact ih84 x13 x20 s18 _ _ _ hq hB (lv_sub hl [1, 2, 3, 4, 0] rfl)
                · refine lv_aload_n hx hb dX12_ungroup_100 rfl (lv_at hl 0 rfl) ?_
                  refine lv_iload hx hb dX12_ungroup_101 (lv_at hl 4 rfl) ?_
                  refine zz_callVi S hT hB (As := [.int x14]) (b := a0) (o := f_X12_above T N s18 a0 x14) (c_X12_above l D cy T hT ad N s18 _ a0 x14) (cwV 1 hts (gV wSub wd_582 wd_583 wd_584 wd_572 wd_585) rfl rfl rfl (by decide +kernel) ⟨Nat.le_of_ble_eq_true rfl, Nat.le_of_ble_eq_true rfl⟩) (F := TX12) (NF := 24) 12 rfl (by decide) (k_X12_above T N s18 a0 x14) rfl hl.1 rfl (Nat.le_of_ble_eq_true rfl) dX12_ungroup_103 hq (fun x22 s21 H locs hq hB => ?_)
                  refine lv_iload_n hx hb dX12_ungroup_106 rfl (lv_at hl 1 rfl) ?_
                  refine zz_icmp_ne (tgt := 129) hx hb dX12_ungroup_107 (by decide) hq (fun hq => ?_) (fun hq => ?_)
                  · refine zz_nmV hq (fun x23 ex23 hq => ?_)
                    refine lv_iinc (v := x23) (lv' := [(4, .int x23), (0, .ref (ad a0)), (1, .int x1), (2, .int x13), (3, .int x9)]) hx hb dX12_ungroup_129 hl (k := 4) rfl (by rw [ex23]; rfl) (by decide) rfl (fun ls hl => ?_)
                    refine lv_goto (tgt := 84) hx hb dX12_ungroup_132 (by decide) ?_
                    exact ih84 x13 x23 s21 _ _ _ hq hB (lv_sub hl [1, 2, 3, 4, 0] rfl)
                  · refine lv_aload_n hx hb dX12_ungroup_110 rfl (lv_at hl 0 rfl) ?_
                    refine zz_getR S hT hB (C := RX12) (ref := "DiagramDeskModel") (F := TX12) (N := 24) (index := 7) 12 0 iwX12 rfl (by decide) (by decide) rfl rfl (wS wd_569) (fun _ h9 => h9) dX12_ungroup_111 hq (fun a24 hq => ?_)
                    refine lv_sipush (v := 290) hx hb dX12_ungroup_114 (by decide) ?_
                    refine lv_iconst (v := 2) hx hb dX12_ungroup_117 (by decide) ?_
                    refine lv_iload hx hb dX12_ungroup_118 (lv_at hl 4 rfl) ?_
                    refine lv_imul hx hb dX12_ungroup_120 ?_
                    refine lv_iadd hx hb dX12_ungroup_121 ?_
                    refine lv_iconst (v := 1) hx hb dX12_ungroup_122 (by decide) ?_
                    refine lv_iadd hx hb dX12_ungroup_123 ?_
                    refine lv_iload_n hx hb dX12_ungroup_124 rfl (lv_at hl 3 rfl) ?_
                    refine zz_ast S hT hB dX12_ungroup_125 hq (fun s25 H locs hq hB => ?_)
                    refine zz_nmV hq (fun x26 ex26 hq => ?_)
                    refine lv_iinc (v := x26) (lv' := [(2, .int x26), (0, .ref (ad a0)), (1, .int x1), (3, .int x9), (4, .int x14)]) hx hb dX12_ungroup_126 hl (k := 2) rfl (by rw [ex26]; rfl) (by decide) rfl (fun ls hl => ?_)
                    refine zz_nmV hq (fun x27 ex27 hq => ?_)
                    refine lv_iinc (v := x27) (lv' := [(4, .int x27), (2, .int x26), (0, .ref (ad a0)), (1, .int x1), (3, .int x9)]) hx hb dX12_ungroup_129 hl (k := 4) rfl (by rw [ex27]; rfl) (by decide) rfl (fun ls hl => ?_)
                    refine lv_goto (tgt := 84) hx hb dX12_ungroup_132 (by decide) ?_
                    exact ih84 x26 x27 s25 _ _ _ hq hB (lv_sub hl [2, 3, 1, 4, 0] rfl)
          exact L84 N x10 (0 : Int32) s12 _ _ _ hq hB (lv_sub hl [1, 2, 3, 4, 0] rfl)
        · refine lv_aload_n hx hb dX12_ungroup_34 rfl (lv_at hl 0 rfl) ?_
          refine lv_iload hx hb dX12_ungroup_35 (lv_at hl 4 rfl) ?_
          refine lv_iconst (v := 0) hx hb dX12_ungroup_37 (by decide) ?_
          refine zz_callVi S hT hB (As := [.int x11, .int (0 : Int32)]) (b := a0) (o := f_X12_of T N s12 a0 x11 (0 : Int32)) (c_X12_of l D cy T hT ad N s12 _ a0 x11 (0 : Int32)) (cwV 2 hts (gV wSub wd_574 wd_575 wd_576 wd_572 wd_577) rfl rfl rfl (by decide +kernel) ⟨Nat.le_of_ble_eq_true rfl, Nat.le_of_ble_eq_true rfl⟩) (F := TX12) (NF := 24) 12 rfl (by decide) (k_X12_of T N s12 a0 x11 (0 : Int32)) rfl hl.1 rfl (Nat.le_of_ble_eq_true rfl) dX12_ungroup_38 hq (fun x29 s28 H locs hq hB => ?_)
          refine lv_iconst (v := 1) hx hb dX12_ungroup_41 (by decide) ?_
          refine zz_icmp_ne (tgt := 75) hx hb dX12_ungroup_42 (by decide) hq (fun hq => ?_) (fun hq => ?_)
          · refine zz_nmV hq (fun x30 ex30 hq => ?_)
            refine lv_iinc (v := x30) (lv' := [(4, .int x30), (0, .ref (ad a0)), (1, .int x1), (2, .int x10), (3, .int x9)]) hx hb dX12_ungroup_75 hl (k := 4) rfl (by rw [ex30]; rfl) (by decide) rfl (fun ls hl => ?_)
            refine lv_goto (tgt := 27) hx hb dX12_ungroup_78 (by decide) ?_
            exact ih27 x10 x30 s28 _ _ _ hq hB (lv_sub hl [1, 2, 3, 4, 0] rfl)
          · refine lv_aload_n hx hb dX12_ungroup_45 rfl (lv_at hl 0 rfl) ?_
            refine lv_iload hx hb dX12_ungroup_46 (lv_at hl 4 rfl) ?_
            refine zz_callVi S hT hB (As := [.int x11]) (b := a0) (o := f_X12_groupOf T N s28 a0 x11) (c_X12_groupOf l D cy T hT ad N s28 _ a0 x11) (cwV 1 hts (gV wSub wd_578 wd_579 wd_580 wd_572 wd_581) rfl rfl rfl (by decide +kernel) ⟨Nat.le_of_ble_eq_true rfl, Nat.le_of_ble_eq_true rfl⟩) (F := TX12) (NF := 24) 12 rfl (by decide) (k_X12_groupOf T N s28 a0 x11) rfl hl.1 rfl (Nat.le_of_ble_eq_true rfl) dX12_ungroup_48 hq (fun x32 s31 H locs hq hB => ?_)
            refine lv_iload_n hx hb dX12_ungroup_51 rfl (lv_at hl 1 rfl) ?_
            refine zz_icmp_ne (tgt := 75) hx hb dX12_ungroup_52 (by decide) hq (fun hq => ?_) (fun hq => ?_)
            · refine zz_nmV hq (fun x33 ex33 hq => ?_)
              refine lv_iinc (v := x33) (lv' := [(4, .int x33), (0, .ref (ad a0)), (1, .int x1), (2, .int x10), (3, .int x9)]) hx hb dX12_ungroup_75 hl (k := 4) rfl (by rw [ex33]; rfl) (by decide) rfl (fun ls hl => ?_)
              refine lv_goto (tgt := 27) hx hb dX12_ungroup_78 (by decide) ?_
              exact ih27 x10 x33 s31 _ _ _ hq hB (lv_sub hl [1, 2, 3, 4, 0] rfl)
            · refine lv_aload_n hx hb dX12_ungroup_55 rfl (lv_at hl 0 rfl) ?_
              refine zz_getR S hT hB (C := RX12) (ref := "DiagramDeskModel") (F := TX12) (N := 24) (index := 7) 12 0 iwX12 rfl (by decide) (by decide) rfl rfl (wS wd_569) (fun _ h9 => h9) dX12_ungroup_56 hq (fun a34 hq => ?_)
              refine lv_bipush (v := 10) hx hb dX12_ungroup_59 (by decide) ?_
              refine lv_bipush (v := 8) hx hb dX12_ungroup_61 (by decide) ?_
              refine lv_iload hx hb dX12_ungroup_63 (lv_at hl 4 rfl) ?_
              refine lv_imul hx hb dX12_ungroup_65 ?_
              refine lv_iadd hx hb dX12_ungroup_66 ?_
              refine lv_bipush (v := 7) hx hb dX12_ungroup_67 (by decide) ?_
              refine lv_iadd hx hb dX12_ungroup_69 ?_
              refine lv_iload_n hx hb dX12_ungroup_70 rfl (lv_at hl 3 rfl) ?_
              refine zz_ast S hT hB dX12_ungroup_71 hq (fun s35 H locs hq hB => ?_)
              refine zz_nmV hq (fun x36 ex36 hq => ?_)
              refine lv_iinc (v := x36) (lv' := [(2, .int x36), (0, .ref (ad a0)), (1, .int x1), (3, .int x9), (4, .int x11)]) hx hb dX12_ungroup_72 hl (k := 2) rfl (by rw [ex36]; rfl) (by decide) rfl (fun ls hl => ?_)
              refine zz_nmV hq (fun x37 ex37 hq => ?_)
              refine lv_iinc (v := x37) (lv' := [(4, .int x37), (2, .int x36), (0, .ref (ad a0)), (1, .int x1), (3, .int x9)]) hx hb dX12_ungroup_75 hl (k := 4) rfl (by rw [ex37]; rfl) (by decide) rfl (fun ls hl => ?_)
              refine lv_goto (tgt := 27) hx hb dX12_ungroup_78 (by decide) ?_
              exact ih27 x36 x37 s35 _ _ _ hq hB (lv_sub hl [2, 3, 1, 4, 0] rfl)
    exact L27 N (0 : Int32) (0 : Int32) s7 _ _ _ hq hB (lv_sub hl [3, 4, 2, 1, 0] rfl)
  · refine lv_iconst (v := -1) hx hb dX12_ungroup_8 (by decide) ?_
    exact zz_iret S hB hr hlocks dX12_ungroup_9 hq
def f_X12_shapesOf (T : zT) (N : Nat) (s0 : zS) (a0 : Nat) (x1 : Int32) : Option (Int32 × zS) :=
  zz1 (T.1 a0 = 12) <|
  zb2 (f_X12_isGroup T N s0 a0 x1) fun x5 s4 =>
  if x5 = 0 then (
    some ((-1 : Int32), s4))
  else (
    zb2 (f_X12_setOf T N s4 a0 x1) fun x7 s6 =>
    some (x7, s6))
theorem k_X12_shapesOf (T : zT) (N : Nat) (s0 : zS) (a0 : Nat) (x1 : Int32) : ∀ q, f_X12_shapesOf T N s0 a0 x1 = some q → T.1 a0 = 12 := by
  intro q h
  unfold f_X12_shapesOf at h
  exact zz_guard h (fun h _ => h)
set_option maxHeartbeats 4000000 in
set_option maxRecDepth 100000 in
theorem c_X12_shapesOf (l : Launch) (D : va_G) (cy : Nat → ClassId) (T : zT) (hT : zok T) (ad : Nat → Nat) (N : Nat) (s0 : zS) (sz : Nat) (a0 : Nat) (x1 : Int32) : ∀ (r0 : Int32) (σ0 : zS), f_X12_shapesOf T N s0 a0 x1 = some (r0, σ0) → Met l yX12_shapesOf wsX12_shapesOf ({ frames := 4, cells := 0, slots := 0, locals := 89 }) (va_Pc [.ref (ad a0), .int x1] (zPre D cy T ad s0 sz)) (va_Qi (fun (r2 : Int32) (σ2 : zS) => r2 = r0 ∧ σ2 = σ0) (zAt D cy T ad (zA T ad sz)) (zA T ad sz)) 0 0 (zA T ad sz) := by
  intro r0 σ0 hq
  refine Met.ofW (cc := cX12_shapesOf) (maxL := 2) (ret := (some .int)) (by decide) rfl ?_
  intro p e s m args below meth c s₁ B hml hv
  obtain ⟨hargs, hsz, hP, hK, hD0, hN⟩ := hv
  have hx := B.exec
  have hb := B.bytes
  have hr := B.returns
  have hts := atoms_spec (ws := wsX12_shapesOf) B.pre
  have hown : s.vm.findClass RX12 = some m.cls := findClass_of_methodNamed B.named
  have hlocks := B.notSynchronized
  have S : CallFix p m c cX12_shapesOf 2 s args wsX12_shapesOf RX12 := ⟨hx, hb, hml, hown, hts⟩
  subst hsz
  have hB : zB D cy T ad (zA T ad s.heap.size) s.heap s0 s.heap [] s := zz_entry hP hK hD0 hN
  obtain ⟨ls, hent, hl⟩ := zz_ent m hargs (n := 2) (Nat.le_of_ble_eq_true rfl)
  rw [hent]
  have hl : lv_has ls 2 [(0, .ref (ad a0)), (1, .int x1)] := hl
  unfold f_X12_shapesOf at hq
  refine zz_guard hq (fun hk0 hq => ?_)
  refine lv_aload_n hx hb dX12_shapesOf_0 rfl (lv_at hl 0 rfl) ?_
  refine lv_iload_n hx hb dX12_shapesOf_1 rfl (lv_at hl 1 rfl) ?_
  refine zz_callVi S hT hB (As := [.int x1]) (b := a0) (o := f_X12_isGroup T N s0 a0 x1) (c_X12_isGroup l D cy T hT ad N s0 _ a0 x1) (cwV 1 hts (gV wSub wd_590 wd_591 wd_592 wd_572 wd_593) rfl rfl rfl (by decide +kernel) ⟨Nat.le_of_ble_eq_true rfl, Nat.le_of_ble_eq_true rfl⟩) (F := TX12) (NF := 24) 12 rfl (by decide) (k_X12_isGroup T N s0 a0 x1) rfl hl.1 rfl (Nat.le_of_ble_eq_true rfl) dX12_shapesOf_2 hq (fun x5 s4 H locs hq hB => ?_)
  refine zz_if_eq (tgt := 16) hx hb dX12_shapesOf_5 (by decide) hq (fun hq => ?_) (fun hq => ?_)
  · refine lv_iconst (v := -1) hx hb dX12_shapesOf_16 (by decide) ?_
    exact zz_iret S hB hr hlocks dX12_shapesOf_17 hq
  · refine lv_aload_n hx hb dX12_shapesOf_8 rfl (lv_at hl 0 rfl) ?_
    refine lv_iload_n hx hb dX12_shapesOf_9 rfl (lv_at hl 1 rfl) ?_
    refine zz_callVi S hT hB (As := [.int x1]) (b := a0) (o := f_X12_setOf T N s4 a0 x1) (c_X12_setOf l D cy T hT ad N s4 _ a0 x1) (cwV 1 hts (gV wSub wd_594 wd_595 wd_596 wd_572 wd_597) rfl rfl rfl (by decide +kernel) ⟨Nat.le_of_ble_eq_true rfl, Nat.le_of_ble_eq_true rfl⟩) (F := TX12) (NF := 24) 12 rfl (by decide) (k_X12_setOf T N s4 a0 x1) rfl hl.1 rfl (Nat.le_of_ble_eq_true rfl) dX12_shapesOf_10 hq (fun x7 s6 H locs hq hB => ?_)
    refine lv_goto (tgt := 17) hx hb dX12_shapesOf_13 (by decide) ?_
    exact zz_iret S hB hr hlocks dX12_shapesOf_17 hq
