def f_X11_hasBit (T : zT) (N : Nat) (s0 : zS) (x0 : Int32) (x1 : Int32) : Option (Int32 × zS) :=
  if ((x0 >>> (x1 &&& 31)) &&& (1 : Int32)) = 0 then (
    rZ (0 : Int32) s0)
  else (
    rZ (1 : Int32) s0)
set_option maxHeartbeats 4000000 in
set_option maxRecDepth 100000 in
theorem c_X11_hasBit (l : Launch) (D : va_G) (cy : Nat → ClassId) (T : zT) (hT : zok T) (ad : Nat → Nat) (N : Nat) (s0 : zS) (sz : Nat) (x0 : Int32) (x1 : Int32) : ∀ (r0 : Int32) (σ0 : zS), f_X11_hasBit T N s0 x0 x1 = some (r0, σ0) → Met l yX11_hasBit wsX11_hasBit ({ frames := 0, cells := 0, slots := 0, locals := 0 }) (va_Pc [.int x0, .int x1] (zPre D cy T ad s0 sz)) (va_Qi (fun (r2 : Int32) (σ2 : zS) => r2 = r0 ∧ σ2 = σ0) (zAt D cy T ad (zA T ad sz)) (zA T ad sz)) 0 0 (zA T ad sz) := by
  intro r0 σ0 hq
  refine Met.ofW (cc := cX11_hasBit) (maxL := 2) (ret := (some .boolean)) (by decide) rfl ?_
  intro p e s m args below meth c s₁ B hml hv
  obtain ⟨hargs, hsz, hP, hK, hD0, hN⟩ := hv
  have hx := B.exec
  have hb := B.bytes
  have hr := B.returns
  have hts := atoms_spec (ws := wsX11_hasBit) B.pre
  have hown : s.vm.findClass RX11 = some m.cls := findClass_of_methodNamed B.named
  have hlocks := B.notSynchronized
  have S : CallFix p m c cX11_hasBit 2 s args wsX11_hasBit RX11 := ⟨hx, hb, hml, hown, hts⟩
  subst hsz
  have hB : zB D cy T ad (zA T ad s.heap.size) s.heap s0 s.heap [] s := zz_entry hP hK hD0 hN
  obtain ⟨ls, hent, hl⟩ := zz_ent m hargs (n := 2) (Nat.le_of_ble_eq_true rfl)
  rw [hent]
  have hl : lv_has ls 2 [(0, .int x0), (1, .int x1)] := hl
  unfold f_X11_hasBit at hq
  refine lv_iload_n hx hb dX11_hasBit_0 rfl (lv_at hl 0 rfl) ?_
  refine lv_iload_n hx hb dX11_hasBit_1 rfl (lv_at hl 1 rfl) ?_
  refine lv_ishr hx hb dX11_hasBit_2 ?_
  refine lv_iconst (v := 1) hx hb dX11_hasBit_3 (by decide) ?_
  refine lv_iand hx hb dX11_hasBit_4 ?_
  refine zz_if_eq (tgt := 12) hx hb dX11_hasBit_5 (by decide) hq (fun hq => ?_) (fun hq => ?_)
  · refine lv_iconst (v := 0) hx hb dX11_hasBit_12 (by decide) ?_
    exact zz_zret S hB hr hlocks dX11_hasBit_13 hq
  · refine lv_iconst (v := 1) hx hb dX11_hasBit_8 (by decide) ?_
    refine lv_goto (tgt := 13) hx hb dX11_hasBit_9 (by decide) ?_
    exact zz_zret S hB hr hlocks dX11_hasBit_13 hq
def f_X1_countHalfIn_L4 (T : zT) (N : Nat) (a0 : Nat) (x1 : Int32) (k4 : Int32 → Int32 → zS → Option (Int32 × zS)) (x4 : Int32) (x5 : Int32) (s6 : zS) : Option (Int32 × zS) :=
  (gR T s6 a0 1 0).bind fun a7 =>
  (aL T a7 15).bind fun x8 =>
  if x8 ≤ x5 then (
    some (x4, s6))
  else (
    zb2 (f_X1_find T N s6 a0 x5) fun o10 s9 => zo o10 (
      zn (x5 + (1 : Int32)) fun x12 =>
      k4 x4 x12 s9)
    fun a11 => (
      (gI T s9 a11 0 0).bind fun x13 =>
      zb2 (f_X11_hasBit T N s9 x1 x13) fun x15 s14 =>
      (gI T s14 a11 0 2).bind fun x16 =>
      zb2 (f_X11_hasBit T N s14 x1 x16) fun x18 s17 =>
      if x15 = x18 then (
        zn (x5 + (1 : Int32)) fun x19 =>
        k4 x4 x19 s17)
      else (
        zn (x4 + (1 : Int32)) fun x20 =>
        zn (x5 + (1 : Int32)) fun x21 =>
        k4 x20 x21 s17)))
def f_X1_countHalfIn (T : zT) (N : Nat) (s0 : zS) (a0 : Nat) (x1 : Int32) : Option (Int32 × zS) :=
  zz1 (T.1 a0 = 1) <|
  zl3 (f_X1_countHalfIn_L4 T N a0 x1) N (0 : Int32) (0 : Int32) s0
theorem k_X1_countHalfIn (T : zT) (N : Nat) (s0 : zS) (a0 : Nat) (x1 : Int32) : ∀ q, f_X1_countHalfIn T N s0 a0 x1 = some q → T.1 a0 = 1 := by
  intro q h
  unfold f_X1_countHalfIn at h
  exact zz_guard h (fun h _ => h)
set_option maxHeartbeats 4000000 in
set_option maxRecDepth 100000 in
theorem c_X1_countHalfIn (l : Launch) (D : va_G) (cy : Nat → ClassId) (T : zT) (hT : zok T) (ad : Nat → Nat) (N : Nat) (s0 : zS) (sz : Nat) (a0 : Nat) (x1 : Int32) : ∀ (r0 : Int32) (σ0 : zS), f_X1_countHalfIn T N s0 a0 x1 = some (r0, σ0) → Met l yX1_countHalfIn wsX1_countHalfIn ({ frames := 1, cells := 0, slots := 0, locals := 21 }) (va_Pc [.ref (ad a0), .int x1] (zPre D cy T ad s0 sz)) (va_Qi (fun (r2 : Int32) (σ2 : zS) => r2 = r0 ∧ σ2 = σ0) (zAt D cy T ad (zA T ad sz)) (zA T ad sz)) 0 0 (zA T ad sz) := by
  intro r0 σ0 hq
  refine Met.ofW (cc := cX1_countHalfIn) (maxL := 5) (ret := (some .int)) (by decide) rfl ?_
  intro p e s m args below meth c s₁ B hml hv
  obtain ⟨hargs, hsz, hP, hK, hD0, hN⟩ := hv
  have hx := B.exec
  have hb := B.bytes
  have hr := B.returns
  have hts := atoms_spec (ws := wsX1_countHalfIn) B.pre
  have hown : s.vm.findClass RX1 = some m.cls := findClass_of_methodNamed B.named
  have hlocks := B.notSynchronized
  have S : CallFix p m c cX1_countHalfIn 5 s args wsX1_countHalfIn RX1 := ⟨hx, hb, hml, hown, hts⟩
  subst hsz
  have hB : zB D cy T ad (zA T ad s.heap.size) s.heap s0 s.heap [] s := zz_entry hP hK hD0 hN
  obtain ⟨ls, hent, hl⟩ := zz_ent m hargs (n := 5) (Nat.le_of_ble_eq_true rfl)
  rw [hent]
  have hl : lv_has ls 5 [(0, .ref (ad a0)), (1, .int x1)] := hl
  have iwX1 : ∀ w ∈ u_ws RX1 TX1 2, w ∈ wsX1_countHalfIn := fun w h => wS (inWX1 w h)
  have iwX0 : ∀ w ∈ u_ws RX0 TX0 5, w ∈ wsX1_countHalfIn := fun w h => wS (inWX0 w h)
  unfold f_X1_countHalfIn at hq
  refine zz_guard hq (fun hk0 hq => ?_)
  refine lv_iconst (v := 0) hx hb dX1_countHalfIn_0 (by decide) ?_
  refine lv_istore_n (lv' := [(2, .int (0 : Int32)), (0, .ref (ad a0)), (1, .int x1)]) hx hb dX1_countHalfIn_1 rfl hl (by decide) rfl (fun ls hl => ?_)
  refine lv_iconst (v := 0) hx hb dX1_countHalfIn_2 (by decide) ?_
  refine lv_istore_n (lv' := [(3, .int (0 : Int32)), (2, .int (0 : Int32)), (0, .ref (ad a0)), (1, .int x1)]) hx hb dX1_countHalfIn_3 rfl hl (by decide) rfl (fun ls hl => ?_)
  have L4 : ∀ (n : Nat) (x4 : Int32) (x5 : Int32) (s6 : zS) (H : Heap) (locs : List Loc) (ls : Array Slot), zl3 (f_X1_countHalfIn_L4 T N a0 x1) n x4 x5 s6 = some (r0, σ0) → zB D cy T ad (zA T ad s.heap.size) s.heap s6 H locs s → lv_has ls 5 [(0, .ref (ad a0)), (1, .int x1), (2, .int x4), (3, .int x5)] → W p l e (headSpec wsX1_countHalfIn ({ frames := 1, cells := 0, slots := 0, locals := 21 } : Room)).room s m args below meth c H locs 0 0 (MQ below (va_Qi (fun (r2 : Int32) (σ2 : zS) => r2 = r0 ∧ σ2 = σ0) (zAt D cy T ad (zA T ad s.heap.size)) (zA T ad s.heap.size)) args s 0 0 (zA T ad s.heap.size)) (F0 m 4 ls []) := by
    intro n
    induction n with
    | zero => intro x4 x5 s6 H locs ls hq; exact zz_none hq
    | succ n ih4 =>
      intro x4 x5 s6 H locs ls hq hB hl
      rw [zl3] at hq
      generalize zl3 (f_X1_countHalfIn_L4 T N a0 x1) n = k4 at ih4 hq
      unfold f_X1_countHalfIn_L4 at hq
      refine lv_iload_n hx hb dX1_countHalfIn_4 rfl (lv_at hl 3 rfl) ?_
      refine lv_aload_n hx hb dX1_countHalfIn_5 rfl (lv_at hl 0 rfl) ?_
      refine zz_getR S hT hB (C := RX1) (ref := "DiagramDesk$Connectors") (F := TX1) (N := 2) (index := 11) 1 0 iwX1 rfl (by decide) (by decide) rfl rfl (wS wd_80) (fun _ h9 => h9) dX1_countHalfIn_6 hq (fun a7 hq => ?_)
      refine zz_alen S hT hB 15 (by decide) (by decide) dX1_countHalfIn_9 hq (fun x8 hq => ?_)
      refine zz_icmp_ge (tgt := 55) hx hb dX1_countHalfIn_10 (by decide) hq (fun hq => ?_) (fun hq => ?_)
      · refine lv_iload_n hx hb dX1_countHalfIn_55 rfl (lv_at hl 2 rfl) ?_
        exact zz_iret S hB hr hlocks dX1_countHalfIn_56 hq
      · refine lv_aload_n hx hb dX1_countHalfIn_13 rfl (lv_at hl 0 rfl) ?_
        refine lv_iload_n hx hb dX1_countHalfIn_14 rfl (lv_at hl 3 rfl) ?_
        refine zz_callVq S hT hB (As := [.int x5]) (b := a0) (o := f_X1_find T N s6 a0 x5) (c_X1_find l D cy T hT ad N s6 _ a0 x5) (cwV 1 hts (gV wSub wd_91 wd_92 wd_93 wd_94 wd_95) rfl rfl rfl (by decide +kernel) ⟨Nat.le_of_ble_eq_true rfl, Nat.le_of_ble_eq_true rfl⟩) (F := TX1) (NF := 2) 1 rfl (by decide) (k_X1_find T N s6 a0 x5) rfl hl.1 rfl (Nat.le_of_ble_eq_true rfl) dX1_countHalfIn_15 hq (fun s9 H locs hq hB => ?_) (fun a11 s9 H locs hq hB => ?_)
        · refine lv_astoreN (lv' := [(4, .null), (0, .ref (ad a0)), (1, .int x1), (2, .int x4), (3, .int x5)]) hx hb dX1_countHalfIn_18 hl (by decide) rfl (fun ls hl => ?_)
          refine lv_aloadN hx hb dX1_countHalfIn_20 (lv_at hl 0 rfl) ?_
          refine lv_ifnullN (tgt := 49) hx hb dX1_countHalfIn_22 (by decide) ?_
          refine zz_nmV hq (fun x12 ex12 hq => ?_)
          refine lv_iinc (v := x12) (lv' := [(3, .int x12), (4, .null), (0, .ref (ad a0)), (1, .int x1), (2, .int x4)]) hx hb dX1_countHalfIn_49 hl (k := 4) rfl (by rw [ex12]; rfl) (by decide) rfl (fun ls hl => ?_)
          refine lv_goto (tgt := 4) hx hb dX1_countHalfIn_52 (by decide) ?_
          exact ih4 x4 x12 s9 _ _ _ hq hB (lv_sub hl [2, 3, 4, 0] rfl)
        · refine lv_astore (lv' := [(4, .ref (ad a11)), (0, .ref (ad a0)), (1, .int x1), (2, .int x4), (3, .int x5)]) hx hb dX1_countHalfIn_18 hl (by decide) rfl (fun ls hl => ?_)
          refine lv_aload hx hb dX1_countHalfIn_20 (lv_at hl 0 rfl) ?_
          refine lv_ifnull hx hb dX1_countHalfIn_22 ?_
          refine lv_iload_n hx hb dX1_countHalfIn_25 rfl (lv_at hl 2 rfl) ?_
          refine lv_aload hx hb dX1_countHalfIn_26 (lv_at hl 0 rfl) ?_
          refine zz_get S hT hB (C := RX0) (ref := "DiagramDesk$Connector") (F := TX0) (N := 5) (index := 26) 0 0 iwX0 rfl (by decide) (by decide) rfl rfl (wS wd_86) (fun _ h9 => h9) dX1_countHalfIn_28 hq (fun x13 hq => ?_)
          refine zz_callNi S hT hB (As := [.int x1, .int x13]) (o := f_X11_hasBit T N s9 x1 x13) (c_X11_hasBit l D cy T hT ad N s9 _ x1 x13) ⟨va_cnB (host := "DiagramDesk") 2 hts (gN wSub wd_101) rfl rfl rfl (zN_at hN 14 rfl) (hts _ (wS wd_102)) (by decide +kernel) ⟨Nat.le_of_ble_eq_true rfl, Nat.le_of_ble_eq_true rfl⟩, hts _ (wS wd_103), trivial⟩ rfl hl.1 rfl (Nat.le_of_ble_eq_true rfl) dX1_countHalfIn_31 hq (fun x15 s14 H locs hq hB => ?_)
          refine lv_iload_n hx hb dX1_countHalfIn_34 rfl (lv_at hl 2 rfl) ?_
          refine lv_aload hx hb dX1_countHalfIn_35 (lv_at hl 0 rfl) ?_
          refine zz_get S hT hB (C := RX0) (ref := "DiagramDesk$Connector") (F := TX0) (N := 5) (index := 32) 0 2 iwX0 rfl (by decide) (by decide) rfl rfl (wS wd_88) (fun _ h9 => h9) dX1_countHalfIn_37 hq (fun x16 hq => ?_)
          refine zz_callNi S hT hB (As := [.int x1, .int x16]) (o := f_X11_hasBit T N s14 x1 x16) (c_X11_hasBit l D cy T hT ad N s14 _ x1 x16) ⟨va_cnB (host := "DiagramDesk") 2 hts (gN wSub wd_101) rfl rfl rfl (zN_at hN 14 rfl) (hts _ (wS wd_102)) (by decide +kernel) ⟨Nat.le_of_ble_eq_true rfl, Nat.le_of_ble_eq_true rfl⟩, hts _ (wS wd_103), trivial⟩ rfl hl.1 rfl (Nat.le_of_ble_eq_true rfl) dX1_countHalfIn_40 hq (fun x18 s17 H locs hq hB => ?_)
          refine zz_icmp_eq (tgt := 49) hx hb dX1_countHalfIn_43 (by decide) hq (fun hq => ?_) (fun hq => ?_)
          · refine zz_nmV hq (fun x19 ex19 hq => ?_)
            refine lv_iinc (v := x19) (lv' := [(3, .int x19), (4, .ref (ad a11)), (0, .ref (ad a0)), (1, .int x1), (2, .int x4)]) hx hb dX1_countHalfIn_49 hl (k := 4) rfl (by rw [ex19]; rfl) (by decide) rfl (fun ls hl => ?_)
            refine lv_goto (tgt := 4) hx hb dX1_countHalfIn_52 (by decide) ?_
            exact ih4 x4 x19 s17 _ _ _ hq hB (lv_sub hl [2, 3, 4, 0] rfl)
          · refine zz_nmV hq (fun x20 ex20 hq => ?_)
            refine lv_iinc (v := x20) (lv' := [(2, .int x20), (4, .ref (ad a11)), (0, .ref (ad a0)), (1, .int x1), (3, .int x5)]) hx hb dX1_countHalfIn_46 hl (k := 3) rfl (by rw [ex20]; rfl) (by decide) rfl (fun ls hl => ?_)
            refine zz_nmV hq (fun x21 ex21 hq => ?_)
            refine lv_iinc (v := x21) (lv' := [(3, .int x21), (2, .int x20), (4, .ref (ad a11)), (0, .ref (ad a0)), (1, .int x1)]) hx hb dX1_countHalfIn_49 hl (k := 4) rfl (by rw [ex21]; rfl) (by decide) rfl (fun ls hl => ?_)
            refine lv_goto (tgt := 4) hx hb dX1_countHalfIn_52 (by decide) ?_
            exact ih4 x20 x21 s17 _ _ _ hq hB (lv_sub hl [3, 4, 1, 0] rfl)
  exact L4 N (0 : Int32) (0 : Int32) s0 _ _ _ hq hB (lv_sub hl [2, 3, 1, 0] rfl)
def f_X6_copy (T : zT) (N : Nat) (s0 : zS) (a0 : Nat) (a1 : Nat) : Option zS :=
  zz1 (T.1 a0 = 6) <|
  (gI T s0 a1 6 0).bind fun x4 =>
  (pZ T s0 a0 6 0 x4).bind fun s5 =>
  (gI T s5 a1 6 1).bind fun x6 =>
  (pI T s5 a0 6 1 x6).bind fun s7 =>
  (gI T s7 a1 6 2).bind fun x8 =>
  (pI T s7 a0 6 2 x8).bind fun s9 =>
  (gI T s9 a1 6 3).bind fun x10 =>
  (pI T s9 a0 6 3 x10).bind fun s11 =>
  (gI T s11 a1 6 4).bind fun x12 =>
  (pI T s11 a0 6 4 x12).bind fun s13 =>
  (gI T s13 a1 6 5).bind fun x14 =>
  (pI T s13 a0 6 5 x14).bind fun s15 =>
  (gI T s15 a1 6 6).bind fun x16 =>
  (pI T s15 a0 6 6 x16).bind fun s17 =>
  (gI T s17 a1 6 7).bind fun x18 =>
  (pI T s17 a0 6 7 x18).bind fun s19 =>
  some s19
theorem k_X6_copy (T : zT) (N : Nat) (s0 : zS) (a0 : Nat) (a1 : Nat) : ∀ q, f_X6_copy T N s0 a0 a1 = some q → T.1 a0 = 6 := by
  intro q h
  unfold f_X6_copy at h
  exact zz_guard h (fun h _ => h)
set_option maxHeartbeats 4000000 in
set_option maxRecDepth 100000 in
theorem c_X6_copy (l : Launch) (D : va_G) (cy : Nat → ClassId) (T : zT) (hT : zok T) (ad : Nat → Nat) (N : Nat) (s0 : zS) (sz : Nat) (a0 : Nat) (a1 : Nat) : ∀ (σ0 : zS), f_X6_copy T N s0 a0 a1 = some σ0 → Met l yX6_copy wsX6_copy ({ frames := 0, cells := 0, slots := 0, locals := 0 }) (va_Pc [.ref (ad a0), .ref (ad a1)] (zPre D cy T ad s0 sz)) (va_Qv (fun σ2 : zS => σ2 = σ0) (zAt D cy T ad (zA T ad sz)) (zA T ad sz)) 0 0 (zA T ad sz) := by
  intro σ0 hq
  refine Met.ofW (cc := cX6_copy) (maxL := 2) (ret := none) (by decide) rfl ?_
  intro p e s m args below meth c s₁ B hml hv
  obtain ⟨hargs, hsz, hP, hK, hD0, hN⟩ := hv
  have hx := B.exec
  have hb := B.bytes
  have hr := B.returns
  have hts := atoms_spec (ws := wsX6_copy) B.pre
  have hown : s.vm.findClass RX6 = some m.cls := findClass_of_methodNamed B.named
  have hlocks := B.notSynchronized
  have S : CallFix p m c cX6_copy 2 s args wsX6_copy RX6 := ⟨hx, hb, hml, hown, hts⟩
  subst hsz
  have hB : zB D cy T ad (zA T ad s.heap.size) s.heap s0 s.heap [] s := zz_entry hP hK hD0 hN
  obtain ⟨ls, hent, hl⟩ := zz_ent m hargs (n := 2) (Nat.le_of_ble_eq_true rfl)
  rw [hent]
  have hl : lv_has ls 2 [(0, .ref (ad a0)), (1, .ref (ad a1))] := hl
  have iwX6 : ∀ w ∈ u_ws RX6 TX6 8, w ∈ wsX6_copy := fun w h => wS (inWX6 w h)
  unfold f_X6_copy at hq
  refine zz_guard hq (fun hk0 hq => ?_)
  refine lv_aload_n hx hb dX6_copy_0 rfl (lv_at hl 0 rfl) ?_
  refine lv_aload_n hx hb dX6_copy_1 rfl (lv_at hl 1 rfl) ?_
  refine zz_get S hT hB (C := RX6) (ref := "DiagramDesk$Shape") (F := TX6) (N := 8) (index := 9) 6 0 iwX6 rfl (by decide) (by decide) rfl rfl (wS wd_104) (fun _ h9 => h9) dX6_copy_2 hq (fun x4 hq => ?_)
  refine zz_putZ S hT hB (C := RX6) (ref := "DiagramDesk$Shape") (F := TX6) (N := 8) (index := 9) 6 0 iwX6 tyX6 tyX6_ok nmX6 rfl (by decide) (by decide) rfl rfl (wS wd_104) (fun _ h9 => h9) rfl (by decide +kernel) dX6_copy_5 hq (fun s5 H locs hq hB => ?_)
  refine lv_aload_n hx hb dX6_copy_8 rfl (lv_at hl 0 rfl) ?_
  refine lv_aload_n hx hb dX6_copy_9 rfl (lv_at hl 1 rfl) ?_
  refine zz_get S hT hB (C := RX6) (ref := "DiagramDesk$Shape") (F := TX6) (N := 8) (index := 15) 6 1 iwX6 rfl (by decide) (by decide) rfl rfl (wS wd_105) (fun _ h9 => h9) dX6_copy_10 hq (fun x6 hq => ?_)
  refine zz_put S hT hB (C := RX6) (ref := "DiagramDesk$Shape") (F := TX6) (N := 8) (index := 15) 6 1 iwX6 tyX6 tyX6_ok nmX6 rfl (by decide) (by decide) rfl rfl (wS wd_105) (fun _ h9 => h9) rfl (by decide +kernel) dX6_copy_13 hq (fun s7 H locs hq hB => ?_)
  refine lv_aload_n hx hb dX6_copy_16 rfl (lv_at hl 0 rfl) ?_
  refine lv_aload_n hx hb dX6_copy_17 rfl (lv_at hl 1 rfl) ?_
  refine zz_get S hT hB (C := RX6) (ref := "DiagramDesk$Shape") (F := TX6) (N := 8) (index := 19) 6 2 iwX6 rfl (by decide) (by decide) rfl rfl (wS wd_8) (fun _ h9 => h9) dX6_copy_18 hq (fun x8 hq => ?_)
  refine zz_put S hT hB (C := RX6) (ref := "DiagramDesk$Shape") (F := TX6) (N := 8) (index := 19) 6 2 iwX6 tyX6 tyX6_ok nmX6 rfl (by decide) (by decide) rfl rfl (wS wd_8) (fun _ h9 => h9) rfl (by decide +kernel) dX6_copy_21 hq (fun s9 H locs hq hB => ?_)
  refine lv_aload_n hx hb dX6_copy_24 rfl (lv_at hl 0 rfl) ?_
  refine lv_aload_n hx hb dX6_copy_25 rfl (lv_at hl 1 rfl) ?_
  refine zz_get S hT hB (C := RX6) (ref := "DiagramDesk$Shape") (F := TX6) (N := 8) (index := 22) 6 3 iwX6 rfl (by decide) (by decide) rfl rfl (wS wd_7) (fun _ h9 => h9) dX6_copy_26 hq (fun x10 hq => ?_)
  refine zz_put S hT hB (C := RX6) (ref := "DiagramDesk$Shape") (F := TX6) (N := 8) (index := 22) 6 3 iwX6 tyX6 tyX6_ok nmX6 rfl (by decide) (by decide) rfl rfl (wS wd_7) (fun _ h9 => h9) rfl (by decide +kernel) dX6_copy_29 hq (fun s11 H locs hq hB => ?_)
  refine lv_aload_n hx hb dX6_copy_32 rfl (lv_at hl 0 rfl) ?_
  refine lv_aload_n hx hb dX6_copy_33 rfl (lv_at hl 1 rfl) ?_
  refine zz_get S hT hB (C := RX6) (ref := "DiagramDesk$Shape") (F := TX6) (N := 8) (index := 25) 6 4 iwX6 rfl (by decide) (by decide) rfl rfl (wS wd_10) (fun _ h9 => h9) dX6_copy_34 hq (fun x12 hq => ?_)
  refine zz_put S hT hB (C := RX6) (ref := "DiagramDesk$Shape") (F := TX6) (N := 8) (index := 25) 6 4 iwX6 tyX6 tyX6_ok nmX6 rfl (by decide) (by decide) rfl rfl (wS wd_10) (fun _ h9 => h9) rfl (by decide +kernel) dX6_copy_37 hq (fun s13 H locs hq hB => ?_)
  refine lv_aload_n hx hb dX6_copy_40 rfl (lv_at hl 0 rfl) ?_
  refine lv_aload_n hx hb dX6_copy_41 rfl (lv_at hl 1 rfl) ?_
  refine zz_get S hT hB (C := RX6) (ref := "DiagramDesk$Shape") (F := TX6) (N := 8) (index := 28) 6 5 iwX6 rfl (by decide) (by decide) rfl rfl (wS wd_9) (fun _ h9 => h9) dX6_copy_42 hq (fun x14 hq => ?_)
  refine zz_put S hT hB (C := RX6) (ref := "DiagramDesk$Shape") (F := TX6) (N := 8) (index := 28) 6 5 iwX6 tyX6 tyX6_ok nmX6 rfl (by decide) (by decide) rfl rfl (wS wd_9) (fun _ h9 => h9) rfl (by decide +kernel) dX6_copy_45 hq (fun s15 H locs hq hB => ?_)
  refine lv_aload_n hx hb dX6_copy_48 rfl (lv_at hl 0 rfl) ?_
  refine lv_aload_n hx hb dX6_copy_49 rfl (lv_at hl 1 rfl) ?_
  refine zz_get S hT hB (C := RX6) (ref := "DiagramDesk$Shape") (F := TX6) (N := 8) (index := 31) 6 6 iwX6 rfl (by decide) (by decide) rfl rfl (wS wd_106) (fun _ h9 => h9) dX6_copy_50 hq (fun x16 hq => ?_)
  refine zz_put S hT hB (C := RX6) (ref := "DiagramDesk$Shape") (F := TX6) (N := 8) (index := 31) 6 6 iwX6 tyX6 tyX6_ok nmX6 rfl (by decide) (by decide) rfl rfl (wS wd_106) (fun _ h9 => h9) rfl (by decide +kernel) dX6_copy_53 hq (fun s17 H locs hq hB => ?_)
  refine lv_aload_n hx hb dX6_copy_56 rfl (lv_at hl 0 rfl) ?_
  refine lv_aload_n hx hb dX6_copy_57 rfl (lv_at hl 1 rfl) ?_
  refine zz_get S hT hB (C := RX6) (ref := "DiagramDesk$Shape") (F := TX6) (N := 8) (index := 34) 6 7 iwX6 rfl (by decide) (by decide) rfl rfl (wS wd_107) (fun _ h9 => h9) dX6_copy_58 hq (fun x18 hq => ?_)
  refine zz_put S hT hB (C := RX6) (ref := "DiagramDesk$Shape") (F := TX6) (N := 8) (index := 34) 6 7 iwX6 tyX6 tyX6_ok nmX6 rfl (by decide) (by decide) rfl rfl (wS wd_107) (fun _ h9 => h9) rfl (by decide +kernel) dX6_copy_61 hq (fun s19 H locs hq hB => ?_)
  exact zz_vret S hB hr hlocks dX6_copy_64 hq
def f_X7_copy_J59 (T : zT) (N : Nat) (a0 : Nat) (a1 : Nat) (s5 : zS) : Option zS :=
  (gI T s5 a1 7 1).bind fun x8 =>
  (pI T s5 a0 7 1 x8).bind fun s9 =>
  (gI T s9 a1 7 2).bind fun x10 =>
  (pI T s9 a0 7 2 x10).bind fun s11 =>
  some s11
def f_X7_copy_L2 (T : zT) (N : Nat) (a0 : Nat) (a1 : Nat) (k2 : Int32 → zS → Option zS) (x4 : Int32) (s5 : zS) : Option zS :=
  (gR T s5 a0 7 0).bind fun a6 =>
  (aL T a6 17).bind fun x7 =>
  if x7 ≤ x4 then (
    f_X7_copy_J59 T N a0 a1 s5)
  else (
    (gR T s5 a1 7 0).bind fun a12 =>
    (aL T a12 17).bind fun x13 =>
    if x13 ≤ x4 then (
      f_X7_copy_J59 T N a0 a1 s5)
    else (
      (gR T s5 a0 7 0).bind fun a14 =>
      (aR T s5 a14 17 x4).bind fun a15 =>
      (gR T s5 a1 7 0).bind fun a16 =>
      (aR T s5 a16 17 x4).bind fun a17 =>
      (gR T s5 a0 7 0).bind fun a18 =>
      (aR T s5 a18 17 x4).bind fun a19 =>
      (gR T s5 a1 7 0).bind fun a20 =>
      (aR T s5 a20 17 x4).bind fun a21 =>
      (f_X6_copy T N s5 a19 a21).bind fun s22 =>
      zn (x4 + (1 : Int32)) fun x23 =>
      k2 x23 s22))
def f_X7_copy (T : zT) (N : Nat) (s0 : zS) (a0 : Nat) (a1 : Nat) : Option zS :=
  zz1 (T.1 a0 = 7) <|
  zl2 (f_X7_copy_L2 T N a0 a1) N (0 : Int32) s0
theorem k_X7_copy (T : zT) (N : Nat) (s0 : zS) (a0 : Nat) (a1 : Nat) : ∀ q, f_X7_copy T N s0 a0 a1 = some q → T.1 a0 = 7 := by
  intro q h
  unfold f_X7_copy at h
  exact zz_guard h (fun h _ => h)
set_option maxHeartbeats 4000000 in
set_option maxRecDepth 100000 in
theorem c_X7_copy (l : Launch) (D : va_G) (cy : Nat → ClassId) (T : zT) (hT : zok T) (ad : Nat → Nat) (N : Nat) (s0 : zS) (sz : Nat) (a0 : Nat) (a1 : Nat) : ∀ (σ0 : zS), f_X7_copy T N s0 a0 a1 = some σ0 → Met l yX7_copy wsX7_copy ({ frames := 1, cells := 0, slots := 0, locals := 21 }) (va_Pc [.ref (ad a0), .ref (ad a1)] (zPre D cy T ad s0 sz)) (va_Qv (fun σ2 : zS => σ2 = σ0) (zAt D cy T ad (zA T ad sz)) (zA T ad sz)) 0 0 (zA T ad sz) := by
  intro σ0 hq
  refine Met.ofW (cc := cX7_copy) (maxL := 3) (ret := none) (by decide) rfl ?_
  intro p e s m args below meth c s₁ B hml hv
  obtain ⟨hargs, hsz, hP, hK, hD0, hN⟩ := hv
  have hx := B.exec
  have hb := B.bytes
  have hr := B.returns
  have hts := atoms_spec (ws := wsX7_copy) B.pre
  have hown : s.vm.findClass RX7 = some m.cls := findClass_of_methodNamed B.named
  have hlocks := B.notSynchronized
  have S : CallFix p m c cX7_copy 3 s args wsX7_copy RX7 := ⟨hx, hb, hml, hown, hts⟩
  subst hsz
  have hB : zB D cy T ad (zA T ad s.heap.size) s.heap s0 s.heap [] s := zz_entry hP hK hD0 hN
  obtain ⟨ls, hent, hl⟩ := zz_ent m hargs (n := 3) (Nat.le_of_ble_eq_true rfl)
  rw [hent]
  have hl : lv_has ls 3 [(0, .ref (ad a0)), (1, .ref (ad a1))] := hl
  have iwX7 : ∀ w ∈ u_ws RX7 TX7 3, w ∈ wsX7_copy := fun w h => wS (inWX7 w h)
  unfold f_X7_copy at hq
  refine zz_guard hq (fun hk0 hq => ?_)
  refine lv_iconst (v := 0) hx hb dX7_copy_0 (by decide) ?_
  refine lv_istore_n (lv' := [(2, .int (0 : Int32)), (0, .ref (ad a0)), (1, .ref (ad a1))]) hx hb dX7_copy_1 rfl hl (by decide) rfl (fun ls hl => ?_)
  have L2 : ∀ (n : Nat) (x4 : Int32) (s5 : zS) (H : Heap) (locs : List Loc) (ls : Array Slot), zl2 (f_X7_copy_L2 T N a0 a1) n x4 s5 = some σ0 → zB D cy T ad (zA T ad s.heap.size) s.heap s5 H locs s → lv_has ls 3 [(0, .ref (ad a0)), (1, .ref (ad a1)), (2, .int x4)] → W p l e (headSpec wsX7_copy ({ frames := 1, cells := 0, slots := 0, locals := 21 } : Room)).room s m args below meth c H locs 0 0 (MQ below (va_Qv (fun σ2 : zS => σ2 = σ0) (zAt D cy T ad (zA T ad s.heap.size)) (zA T ad s.heap.size)) args s 0 0 (zA T ad s.heap.size)) (F0 m 2 ls []) := by
    intro n
    induction n with
    | zero => intro x4 s5 H locs ls hq; exact zz_none hq
    | succ n ih2 =>
      intro x4 s5 H locs ls hq hB hl
      rw [zl2] at hq
      generalize zl2 (f_X7_copy_L2 T N a0 a1) n = k2 at ih2 hq
      unfold f_X7_copy_L2 at hq
      refine lv_iload_n hx hb dX7_copy_2 rfl (lv_at hl 2 rfl) ?_
      refine lv_aload_n hx hb dX7_copy_3 rfl (lv_at hl 0 rfl) ?_
      refine zz_getR S hT hB (C := RX7) (ref := "DiagramDesk$Shapes") (F := TX7) (N := 3) (index := 11) 7 0 iwX7 rfl (by decide) (by decide) rfl rfl (wS wd_5) (fun _ h9 => h9) dX7_copy_4 hq (fun a6 hq => ?_)
      refine zz_alen S hT hB 17 (by decide) (by decide) dX7_copy_7 hq (fun x7 hq => ?_)
      have J59 : ∀ (H : Heap) (locs : List Loc) (ls : Array Slot), f_X7_copy_J59 T N a0 a1 s5 = some σ0 → zB D cy T ad (zA T ad s.heap.size) s.heap s5 H locs s → lv_has ls 3 [(0, .ref (ad a0)), (1, .ref (ad a1))] → W p l e (headSpec wsX7_copy ({ frames := 1, cells := 0, slots := 0, locals := 21 } : Room)).room s m args below meth c H locs 0 0 (MQ below (va_Qv (fun σ2 : zS => σ2 = σ0) (zAt D cy T ad (zA T ad s.heap.size)) (zA T ad s.heap.size)) args s 0 0 (zA T ad s.heap.size)) (F0 m 59 ls []) := by
        intro H locs ls hq hB hl
        unfold f_X7_copy_J59 at hq
        refine lv_aload_n hx hb dX7_copy_59 rfl (lv_at hl 0 rfl) ?_
        refine lv_aload_n hx hb dX7_copy_60 rfl (lv_at hl 1 rfl) ?_
        refine zz_get S hT hB (C := RX7) (ref := "DiagramDesk$Shapes") (F := TX7) (N := 3) (index := 22) 7 1 iwX7 rfl (by decide) (by decide) rfl rfl (wS wd_112) (fun _ h9 => h9) dX7_copy_61 hq (fun x8 hq => ?_)
        refine zz_put S hT hB (C := RX7) (ref := "DiagramDesk$Shapes") (F := TX7) (N := 3) (index := 22) 7 1 iwX7 tyX7 tyX7_ok nmX7 rfl (by decide) (by decide) rfl rfl (wS wd_112) (fun _ h9 => h9) rfl (by decide +kernel) dX7_copy_64 hq (fun s9 H locs hq hB => ?_)
        refine lv_aload_n hx hb dX7_copy_67 rfl (lv_at hl 0 rfl) ?_
        refine lv_aload_n hx hb dX7_copy_68 rfl (lv_at hl 1 rfl) ?_
        refine zz_get S hT hB (C := RX7) (ref := "DiagramDesk$Shapes") (F := TX7) (N := 3) (index := 26) 7 2 iwX7 rfl (by decide) (by decide) rfl rfl (wS wd_113) (fun _ h9 => h9) dX7_copy_69 hq (fun x10 hq => ?_)
        refine zz_put S hT hB (C := RX7) (ref := "DiagramDesk$Shapes") (F := TX7) (N := 3) (index := 26) 7 2 iwX7 tyX7 tyX7_ok nmX7 rfl (by decide) (by decide) rfl rfl (wS wd_113) (fun _ h9 => h9) rfl (by decide +kernel) dX7_copy_72 hq (fun s11 H locs hq hB => ?_)
        exact zz_vret S hB hr hlocks dX7_copy_75 hq
      refine zz_icmp_ge (tgt := 59) hx hb dX7_copy_8 (by decide) hq (fun hq => ?_) (fun hq => ?_)
      · exact J59  _ _ _ hq hB (lv_sub hl [0, 1] rfl)
      · refine lv_iload_n hx hb dX7_copy_11 rfl (lv_at hl 2 rfl) ?_
        refine lv_aload_n hx hb dX7_copy_12 rfl (lv_at hl 1 rfl) ?_
        refine zz_getR S hT hB (C := RX7) (ref := "DiagramDesk$Shapes") (F := TX7) (N := 3) (index := 11) 7 0 iwX7 rfl (by decide) (by decide) rfl rfl (wS wd_5) (fun _ h9 => h9) dX7_copy_13 hq (fun a12 hq => ?_)
        refine zz_alen S hT hB 17 (by decide) (by decide) dX7_copy_16 hq (fun x13 hq => ?_)
        refine zz_icmp_ge (tgt := 59) hx hb dX7_copy_17 (by decide) hq (fun hq => ?_) (fun hq => ?_)
        · exact J59  _ _ _ hq hB (lv_sub hl [0, 1] rfl)
        · refine lv_aload_n hx hb dX7_copy_20 rfl (lv_at hl 0 rfl) ?_
          refine zz_getR S hT hB (C := RX7) (ref := "DiagramDesk$Shapes") (F := TX7) (N := 3) (index := 11) 7 0 iwX7 rfl (by decide) (by decide) rfl rfl (wS wd_5) (fun _ h9 => h9) dX7_copy_21 hq (fun a14 hq => ?_)
          refine lv_iload_n hx hb dX7_copy_24 rfl (lv_at hl 2 rfl) ?_
          refine zz_aldR S hT hB 17 4 rfl (by decide) (by decide) dX7_copy_25 hq (fun a15 hq => ?_)
          refine lv_ifnull hx hb dX7_copy_26 ?_
          refine lv_aload_n hx hb dX7_copy_29 rfl (lv_at hl 1 rfl) ?_
          refine zz_getR S hT hB (C := RX7) (ref := "DiagramDesk$Shapes") (F := TX7) (N := 3) (index := 11) 7 0 iwX7 rfl (by decide) (by decide) rfl rfl (wS wd_5) (fun _ h9 => h9) dX7_copy_30 hq (fun a16 hq => ?_)
          refine lv_iload_n hx hb dX7_copy_33 rfl (lv_at hl 2 rfl) ?_
          refine zz_aldR S hT hB 17 4 rfl (by decide) (by decide) dX7_copy_34 hq (fun a17 hq => ?_)
          refine lv_ifnull hx hb dX7_copy_35 ?_
          refine lv_aload_n hx hb dX7_copy_38 rfl (lv_at hl 0 rfl) ?_
          refine zz_getR S hT hB (C := RX7) (ref := "DiagramDesk$Shapes") (F := TX7) (N := 3) (index := 11) 7 0 iwX7 rfl (by decide) (by decide) rfl rfl (wS wd_5) (fun _ h9 => h9) dX7_copy_39 hq (fun a18 hq => ?_)
          refine lv_iload_n hx hb dX7_copy_42 rfl (lv_at hl 2 rfl) ?_
          refine zz_aldR S hT hB 17 4 rfl (by decide) (by decide) dX7_copy_43 hq (fun a19 hq => ?_)
          refine lv_aload_n hx hb dX7_copy_44 rfl (lv_at hl 1 rfl) ?_
          refine zz_getR S hT hB (C := RX7) (ref := "DiagramDesk$Shapes") (F := TX7) (N := 3) (index := 11) 7 0 iwX7 rfl (by decide) (by decide) rfl rfl (wS wd_5) (fun _ h9 => h9) dX7_copy_45 hq (fun a20 hq => ?_)
          refine lv_iload_n hx hb dX7_copy_48 rfl (lv_at hl 2 rfl) ?_
          refine zz_aldR S hT hB 17 4 rfl (by decide) (by decide) dX7_copy_49 hq (fun a21 hq => ?_)
          refine zz_callVv S hT hB (As := [.ref (ad a21)]) (b := a19) (o := f_X6_copy T N s5 a19 a21) (c_X6_copy l D cy T hT ad N s5 _ a19 a21) (cwV 1 hts (gV wSub wd_108 wd_109 wd_110 wd_14 wd_111) rfl rfl rfl (by decide +kernel) ⟨Nat.le_of_ble_eq_true rfl, Nat.le_of_ble_eq_true rfl⟩) (F := TX6) (NF := 8) 6 rfl (by decide) (k_X6_copy T N s5 a19 a21) rfl hl.1 rfl (Nat.le_of_ble_eq_true rfl) dX7_copy_50 hq (fun s22 H locs hq hB => ?_)
          refine zz_nmV hq (fun x23 ex23 hq => ?_)
          refine lv_iinc (v := x23) (lv' := [(2, .int x23), (0, .ref (ad a0)), (1, .ref (ad a1))]) hx hb dX7_copy_53 hl (k := 2) rfl (by rw [ex23]; rfl) (by decide) rfl (fun ls hl => ?_)
          refine lv_goto (tgt := 2) hx hb dX7_copy_56 (by decide) ?_
          exact ih2 x23 s22 _ _ _ hq hB (lv_sub hl [1, 2, 0] rfl)
  exact L2 N (0 : Int32) s0 _ _ _ hq hB (lv_sub hl [1, 2, 0] rfl)
def f_X3_has (T : zT) (N : Nat) (s0 : zS) (a0 : Nat) (x1 : Int32) : Option (Int32 × zS) :=
  zz1 (T.1 a0 = 3) <|
  if x1 < 0 then (
    rZ (0 : Int32) s0)
  else (
    (gR T s0 a0 3 0).bind fun a4 =>
    (aL T a4 14).bind fun x5 =>
    if x5 ≤ x1 then (
      rZ (0 : Int32) s0)
    else (
      (gR T s0 a0 3 0).bind fun a6 =>
      (aI T s0 a6 14 x1).bind fun x7 =>
      if x7 = 0 then (
        rZ (0 : Int32) s0)
      else (
        rZ (1 : Int32) s0)))
theorem k_X3_has (T : zT) (N : Nat) (s0 : zS) (a0 : Nat) (x1 : Int32) : ∀ q, f_X3_has T N s0 a0 x1 = some q → T.1 a0 = 3 := by
  intro q h
  unfold f_X3_has at h
  exact zz_guard h (fun h _ => h)
set_option maxHeartbeats 4000000 in
set_option maxRecDepth 100000 in
theorem c_X3_has (l : Launch) (D : va_G) (cy : Nat → ClassId) (T : zT) (hT : zok T) (ad : Nat → Nat) (N : Nat) (s0 : zS) (sz : Nat) (a0 : Nat) (x1 : Int32) : ∀ (r0 : Int32) (σ0 : zS), f_X3_has T N s0 a0 x1 = some (r0, σ0) → Met l yX3_has wsX3_has ({ frames := 0, cells := 0, slots := 0, locals := 0 }) (va_Pc [.ref (ad a0), .int x1] (zPre D cy T ad s0 sz)) (va_Qi (fun (r2 : Int32) (σ2 : zS) => r2 = r0 ∧ σ2 = σ0) (zAt D cy T ad (zA T ad sz)) (zA T ad sz)) 0 0 (zA T ad sz) := by
  intro r0 σ0 hq
  refine Met.ofW (cc := cX3_has) (maxL := 2) (ret := (some .boolean)) (by decide) rfl ?_
  intro p e s m args below meth c s₁ B hml hv
  obtain ⟨hargs, hsz, hP, hK, hD0, hN⟩ := hv
  have hx := B.exec
  have hb := B.bytes
  have hr := B.returns
  have hts := atoms_spec (ws := wsX3_has) B.pre
  have hown : s.vm.findClass RX3 = some m.cls := findClass_of_methodNamed B.named
  have hlocks := B.notSynchronized
  have S : CallFix p m c cX3_has 2 s args wsX3_has RX3 := ⟨hx, hb, hml, hown, hts⟩
  subst hsz
  have hB : zB D cy T ad (zA T ad s.heap.size) s.heap s0 s.heap [] s := zz_entry hP hK hD0 hN
  obtain ⟨ls, hent, hl⟩ := zz_ent m hargs (n := 2) (Nat.le_of_ble_eq_true rfl)
  rw [hent]
  have hl : lv_has ls 2 [(0, .ref (ad a0)), (1, .int x1)] := hl
  have iwX3 : ∀ w ∈ u_ws RX3 TX3 2, w ∈ wsX3_has := fun w h => wS (inWX3 w h)
  unfold f_X3_has at hq
  refine zz_guard hq (fun hk0 hq => ?_)
  refine lv_iload_n hx hb dX3_has_0 rfl (lv_at hl 1 rfl) ?_
  refine zz_if_lt (tgt := 26) hx hb dX3_has_1 (by decide) hq (fun hq => ?_) (fun hq => ?_)
  · refine lv_iconst (v := 0) hx hb dX3_has_26 (by decide) ?_
    exact zz_zret S hB hr hlocks dX3_has_27 hq
  · refine lv_iload_n hx hb dX3_has_4 rfl (lv_at hl 1 rfl) ?_
    refine lv_aload_n hx hb dX3_has_5 rfl (lv_at hl 0 rfl) ?_
    refine zz_getR S hT hB (C := RX3) (ref := "DiagramDesk$Groups") (F := TX3) (N := 2) (index := 9) 3 0 iwX3 rfl (by decide) (by decide) rfl rfl (wS wd_114) (fun _ h9 => h9) dX3_has_6 hq (fun a4 hq => ?_)
    refine zz_alen S hT hB 14 (by decide) (by decide) dX3_has_9 hq (fun x5 hq => ?_)
    refine zz_icmp_ge (tgt := 26) hx hb dX3_has_10 (by decide) hq (fun hq => ?_) (fun hq => ?_)
    · refine lv_iconst (v := 0) hx hb dX3_has_26 (by decide) ?_
      exact zz_zret S hB hr hlocks dX3_has_27 hq
    · refine lv_aload_n hx hb dX3_has_13 rfl (lv_at hl 0 rfl) ?_
      refine zz_getR S hT hB (C := RX3) (ref := "DiagramDesk$Groups") (F := TX3) (N := 2) (index := 9) 3 0 iwX3 rfl (by decide) (by decide) rfl rfl (wS wd_114) (fun _ h9 => h9) dX3_has_14 hq (fun a6 hq => ?_)
      refine lv_iload_n hx hb dX3_has_17 rfl (lv_at hl 1 rfl) ?_
      refine zz_aldZ S hT hB dX3_has_18 hq (fun x7 hq => ?_)
      refine zz_if_eq (tgt := 26) hx hb dX3_has_19 (by decide) hq (fun hq => ?_) (fun hq => ?_)
      · refine lv_iconst (v := 0) hx hb dX3_has_26 (by decide) ?_
        exact zz_zret S hB hr hlocks dX3_has_27 hq
      · refine lv_iconst (v := 1) hx hb dX3_has_22 (by decide) ?_
        refine lv_goto (tgt := 27) hx hb dX3_has_23 (by decide) ?_
        exact zz_zret S hB hr hlocks dX3_has_27 hq
def f_X3_homeOf (T : zT) (N : Nat) (s0 : zS) (a0 : Nat) (x1 : Int32) : Option (Int32 × zS) :=
  zz1 (T.1 a0 = 3) <|
  zb2 (f_X3_has T N s0 a0 x1) fun x5 s4 =>
  if x5 = 0 then (
    some ((-1000000 : Int32), s4))
  else (
    (gR T s4 a0 3 1).bind fun a6 =>
    (aL T a6 13).bind fun x7 =>
    if x7 ≤ x1 then (
      some ((-1000000 : Int32), s4))
    else (
      (gR T s4 a0 3 1).bind fun a8 =>
      (aI T s4 a8 13 x1).bind fun x9 =>
      some (x9, s4)))
theorem k_X3_homeOf (T : zT) (N : Nat) (s0 : zS) (a0 : Nat) (x1 : Int32) : ∀ q, f_X3_homeOf T N s0 a0 x1 = some q → T.1 a0 = 3 := by
  intro q h
  unfold f_X3_homeOf at h
  exact zz_guard h (fun h _ => h)
set_option maxHeartbeats 4000000 in
set_option maxRecDepth 100000 in
theorem c_X3_homeOf (l : Launch) (D : va_G) (cy : Nat → ClassId) (T : zT) (hT : zok T) (ad : Nat → Nat) (N : Nat) (s0 : zS) (sz : Nat) (a0 : Nat) (x1 : Int32) : ∀ (r0 : Int32) (σ0 : zS), f_X3_homeOf T N s0 a0 x1 = some (r0, σ0) → Met l yX3_homeOf wsX3_homeOf ({ frames := 1, cells := 0, slots := 0, locals := 21 }) (va_Pc [.ref (ad a0), .int x1] (zPre D cy T ad s0 sz)) (va_Qi (fun (r2 : Int32) (σ2 : zS) => r2 = r0 ∧ σ2 = σ0) (zAt D cy T ad (zA T ad sz)) (zA T ad sz)) 0 0 (zA T ad sz) := by
  intro r0 σ0 hq
  refine Met.ofW (cc := cX3_homeOf) (maxL := 2) (ret := (some .int)) (by decide) rfl ?_
  intro p e s m args below meth c s₁ B hml hv
  obtain ⟨hargs, hsz, hP, hK, hD0, hN⟩ := hv
  have hx := B.exec
  have hb := B.bytes
  have hr := B.returns
  have hts := atoms_spec (ws := wsX3_homeOf) B.pre
  have hown : s.vm.findClass RX3 = some m.cls := findClass_of_methodNamed B.named
  have hlocks := B.notSynchronized
  have S : CallFix p m c cX3_homeOf 2 s args wsX3_homeOf RX3 := ⟨hx, hb, hml, hown, hts⟩
  subst hsz
  have hB : zB D cy T ad (zA T ad s.heap.size) s.heap s0 s.heap [] s := zz_entry hP hK hD0 hN
  obtain ⟨ls, hent, hl⟩ := zz_ent m hargs (n := 2) (Nat.le_of_ble_eq_true rfl)
  rw [hent]
  have hl : lv_has ls 2 [(0, .ref (ad a0)), (1, .int x1)] := hl
  have iwX3 : ∀ w ∈ u_ws RX3 TX3 2, w ∈ wsX3_homeOf := fun w h => wS (inWX3 w h)
  unfold f_X3_homeOf at hq
  refine zz_guard hq (fun hk0 hq => ?_)
  refine lv_aload_n hx hb dX3_homeOf_0 rfl (lv_at hl 0 rfl) ?_
  refine lv_iload_n hx hb dX3_homeOf_1 rfl (lv_at hl 1 rfl) ?_
  refine zz_callVi S hT hB (As := [.int x1]) (b := a0) (o := f_X3_has T N s0 a0 x1) (c_X3_has l D cy T hT ad N s0 _ a0 x1) (cwV 1 hts (gV wSub wd_115 wd_116 wd_117 wd_118 wd_119) rfl rfl rfl (by decide +kernel) ⟨Nat.le_of_ble_eq_true rfl, Nat.le_of_ble_eq_true rfl⟩) (F := TX3) (NF := 2) 3 rfl (by decide) (k_X3_has T N s0 a0 x1) rfl hl.1 rfl (Nat.le_of_ble_eq_true rfl) dX3_homeOf_2 hq (fun x5 s4 H locs hq hB => ?_)
  refine zz_if_eq (tgt := 26) hx hb dX3_homeOf_5 (by decide) hq (fun hq => ?_) (fun hq => ?_)
  · refine lv_ldc (v := -1000000) hx hb hown (hts _ (wS wd_120)) dX3_homeOf_26 ?_
    exact zz_iret S hB hr hlocks dX3_homeOf_28 hq
  · refine lv_iload_n hx hb dX3_homeOf_8 rfl (lv_at hl 1 rfl) ?_
    refine lv_aload_n hx hb dX3_homeOf_9 rfl (lv_at hl 0 rfl) ?_
    refine zz_getR S hT hB (C := RX3) (ref := "DiagramDesk$Groups") (F := TX3) (N := 2) (index := 15) 3 1 iwX3 rfl (by decide) (by decide) rfl rfl (wS wd_121) (fun _ h9 => h9) dX3_homeOf_10 hq (fun a6 hq => ?_)
    refine zz_alen S hT hB 13 (by decide) (by decide) dX3_homeOf_13 hq (fun x7 hq => ?_)
    refine zz_icmp_ge (tgt := 26) hx hb dX3_homeOf_14 (by decide) hq (fun hq => ?_) (fun hq => ?_)
    · refine lv_ldc (v := -1000000) hx hb hown (hts _ (wS wd_120)) dX3_homeOf_26 ?_
      exact zz_iret S hB hr hlocks dX3_homeOf_28 hq
    · refine lv_aload_n hx hb dX3_homeOf_17 rfl (lv_at hl 0 rfl) ?_
      refine zz_getR S hT hB (C := RX3) (ref := "DiagramDesk$Groups") (F := TX3) (N := 2) (index := 15) 3 1 iwX3 rfl (by decide) (by decide) rfl rfl (wS wd_121) (fun _ h9 => h9) dX3_homeOf_18 hq (fun a8 hq => ?_)
      refine lv_iload_n hx hb dX3_homeOf_21 rfl (lv_at hl 1 rfl) ?_
      refine zz_ald S hT hB dX3_homeOf_22 hq (fun x9 hq => ?_)
      refine lv_goto (tgt := 28) hx hb dX3_homeOf_23 (by decide) ?_
      exact zz_iret S hB hr hlocks dX3_homeOf_28 hq
def f_X3_put (T : zT) (N : Nat) (s0 : zS) (a0 : Nat) (x1 : Int32) (x2 : Int32) (x3 : Int32) : Option zS :=
  zz1 (T.1 a0 = 3) <|
  if x1 < 0 then (
    some s0)
  else (
    (gR T s0 a0 3 0).bind fun a6 =>
    (aL T a6 14).bind fun x7 =>
    if x7 ≤ x1 then (
      some s0)
    else (
      (gR T s0 a0 3 1).bind fun a8 =>
      (aL T a8 13).bind fun x9 =>
      if x9 ≤ x1 then (
        some s0)
      else (
        (gR T s0 a0 3 0).bind fun a10 =>
        (sZ T s0 a10 x1 x2).bind fun s11 =>
        (gR T s11 a0 3 1).bind fun a12 =>
        (sI T s11 a12 x1 x3).bind fun s13 =>
        some s13)))
theorem k_X3_put (T : zT) (N : Nat) (s0 : zS) (a0 : Nat) (x1 : Int32) (x2 : Int32) (x3 : Int32) : ∀ q, f_X3_put T N s0 a0 x1 x2 x3 = some q → T.1 a0 = 3 := by
  intro q h
  unfold f_X3_put at h
  exact zz_guard h (fun h _ => h)
set_option maxHeartbeats 4000000 in
set_option maxRecDepth 100000 in
theorem c_X3_put (l : Launch) (D : va_G) (cy : Nat → ClassId) (T : zT) (hT : zok T) (ad : Nat → Nat) (N : Nat) (s0 : zS) (sz : Nat) (a0 : Nat) (x1 : Int32) (x2 : Int32) (x3 : Int32) : ∀ (σ0 : zS), f_X3_put T N s0 a0 x1 x2 x3 = some σ0 → Met l yX3_put wsX3_put ({ frames := 0, cells := 0, slots := 0, locals := 0 }) (va_Pc [.ref (ad a0), .int x1, .int x2, .int x3] (zPre D cy T ad s0 sz)) (va_Qv (fun σ2 : zS => σ2 = σ0) (zAt D cy T ad (zA T ad sz)) (zA T ad sz)) 0 0 (zA T ad sz) := by
  intro σ0 hq
  refine Met.ofW (cc := cX3_put) (maxL := 4) (ret := none) (by decide) rfl ?_
  intro p e s m args below meth c s₁ B hml hv
  obtain ⟨hargs, hsz, hP, hK, hD0, hN⟩ := hv
  have hx := B.exec
  have hb := B.bytes
  have hr := B.returns
  have hts := atoms_spec (ws := wsX3_put) B.pre
  have hown : s.vm.findClass RX3 = some m.cls := findClass_of_methodNamed B.named
  have hlocks := B.notSynchronized
  have S : CallFix p m c cX3_put 4 s args wsX3_put RX3 := ⟨hx, hb, hml, hown, hts⟩
  subst hsz
  have hB : zB D cy T ad (zA T ad s.heap.size) s.heap s0 s.heap [] s := zz_entry hP hK hD0 hN
  obtain ⟨ls, hent, hl⟩ := zz_ent m hargs (n := 4) (Nat.le_of_ble_eq_true rfl)
  rw [hent]
  have hl : lv_has ls 4 [(0, .ref (ad a0)), (1, .int x1), (2, .int x2), (3, .int x3)] := hl
  have iwX3 : ∀ w ∈ u_ws RX3 TX3 2, w ∈ wsX3_put := fun w h => wS (inWX3 w h)
  unfold f_X3_put at hq
  refine zz_guard hq (fun hk0 hq => ?_)
  refine lv_iload_n hx hb dX3_put_0 rfl (lv_at hl 1 rfl) ?_
  refine zz_if_lt (tgt := 36) hx hb dX3_put_1 (by decide) hq (fun hq => ?_) (fun hq => ?_)
  · exact zz_vret S hB hr hlocks dX3_put_36 hq
  · refine lv_iload_n hx hb dX3_put_4 rfl (lv_at hl 1 rfl) ?_
    refine lv_aload_n hx hb dX3_put_5 rfl (lv_at hl 0 rfl) ?_
    refine zz_getR S hT hB (C := RX3) (ref := "DiagramDesk$Groups") (F := TX3) (N := 2) (index := 9) 3 0 iwX3 rfl (by decide) (by decide) rfl rfl (wS wd_114) (fun _ h9 => h9) dX3_put_6 hq (fun a6 hq => ?_)
    refine zz_alen S hT hB 14 (by decide) (by decide) dX3_put_9 hq (fun x7 hq => ?_)
    refine zz_icmp_ge (tgt := 36) hx hb dX3_put_10 (by decide) hq (fun hq => ?_) (fun hq => ?_)
    · exact zz_vret S hB hr hlocks dX3_put_36 hq
    · refine lv_iload_n hx hb dX3_put_13 rfl (lv_at hl 1 rfl) ?_
      refine lv_aload_n hx hb dX3_put_14 rfl (lv_at hl 0 rfl) ?_
      refine zz_getR S hT hB (C := RX3) (ref := "DiagramDesk$Groups") (F := TX3) (N := 2) (index := 15) 3 1 iwX3 rfl (by decide) (by decide) rfl rfl (wS wd_121) (fun _ h9 => h9) dX3_put_15 hq (fun a8 hq => ?_)
      refine zz_alen S hT hB 13 (by decide) (by decide) dX3_put_18 hq (fun x9 hq => ?_)
      refine zz_icmp_ge (tgt := 36) hx hb dX3_put_19 (by decide) hq (fun hq => ?_) (fun hq => ?_)
      · exact zz_vret S hB hr hlocks dX3_put_36 hq
      · refine lv_aload_n hx hb dX3_put_22 rfl (lv_at hl 0 rfl) ?_
        refine zz_getR S hT hB (C := RX3) (ref := "DiagramDesk$Groups") (F := TX3) (N := 2) (index := 9) 3 0 iwX3 rfl (by decide) (by decide) rfl rfl (wS wd_114) (fun _ h9 => h9) dX3_put_23 hq (fun a10 hq => ?_)
        refine lv_iload_n hx hb dX3_put_26 rfl (lv_at hl 1 rfl) ?_
        refine lv_iload_n hx hb dX3_put_27 rfl (lv_at hl 2 rfl) ?_
        refine zz_astZ S hT hB dX3_put_28 hq (fun s11 H locs hq hB => ?_)
        refine lv_aload_n hx hb dX3_put_29 rfl (lv_at hl 0 rfl) ?_
        refine zz_getR S hT hB (C := RX3) (ref := "DiagramDesk$Groups") (F := TX3) (N := 2) (index := 15) 3 1 iwX3 rfl (by decide) (by decide) rfl rfl (wS wd_121) (fun _ h9 => h9) dX3_put_30 hq (fun a12 hq => ?_)
        refine lv_iload_n hx hb dX3_put_33 rfl (lv_at hl 1 rfl) ?_
        refine lv_iload_n hx hb dX3_put_34 rfl (lv_at hl 3 rfl) ?_
        refine zz_ast S hT hB dX3_put_35 hq (fun s13 H locs hq hB => ?_)
        exact zz_vret S hB hr hlocks dX3_put_36 hq
def f_X3_copy_L2 (T : zT) (N : Nat) (a0 : Nat) (a1 : Nat) (k2 : Int32 → zS → Option zS) (x4 : Int32) (s5 : zS) : Option zS :=
  if (8 : Int32) ≤ x4 then (
    some s5)
  else (
    zb2 (f_X3_has T N s5 a1 x4) fun x7 s6 =>
    zb2 (f_X3_homeOf T N s6 a1 x4) fun x9 s8 =>
    (f_X3_put T N s8 a0 x4 x7 x9).bind fun s10 =>
    zn (x4 + (1 : Int32)) fun x11 =>
    k2 x11 s10)
def f_X3_copy (T : zT) (N : Nat) (s0 : zS) (a0 : Nat) (a1 : Nat) : Option zS :=
  zz1 (T.1 a0 = 3) <|
  zl2 (f_X3_copy_L2 T N a0 a1) N (0 : Int32) s0
theorem k_X3_copy (T : zT) (N : Nat) (s0 : zS) (a0 : Nat) (a1 : Nat) : ∀ q, f_X3_copy T N s0 a0 a1 = some q → T.1 a0 = 3 := by
  intro q h
  unfold f_X3_copy at h
  exact zz_guard h (fun h _ => h)
set_option maxHeartbeats 4000000 in
set_option maxRecDepth 100000 in
theorem c_X3_copy (l : Launch) (D : va_G) (cy : Nat → ClassId) (T : zT) (hT : zok T) (ad : Nat → Nat) (N : Nat) (s0 : zS) (sz : Nat) (a0 : Nat) (a1 : Nat) : ∀ (σ0 : zS), f_X3_copy T N s0 a0 a1 = some σ0 → Met l yX3_copy wsX3_copy ({ frames := 2, cells := 0, slots := 0, locals := 42 }) (va_Pc [.ref (ad a0), .ref (ad a1)] (zPre D cy T ad s0 sz)) (va_Qv (fun σ2 : zS => σ2 = σ0) (zAt D cy T ad (zA T ad sz)) (zA T ad sz)) 0 0 (zA T ad sz) := by
  intro σ0 hq
  refine Met.ofW (cc := cX3_copy) (maxL := 3) (ret := none) (by decide) rfl ?_
  intro p e s m args below meth c s₁ B hml hv
  obtain ⟨hargs, hsz, hP, hK, hD0, hN⟩ := hv
  have hx := B.exec
  have hb := B.bytes
  have hr := B.returns
  have hts := atoms_spec (ws := wsX3_copy) B.pre
  have hown : s.vm.findClass RX3 = some m.cls := findClass_of_methodNamed B.named
  have hlocks := B.notSynchronized
  have S : CallFix p m c cX3_copy 3 s args wsX3_copy RX3 := ⟨hx, hb, hml, hown, hts⟩
  subst hsz
  have hB : zB D cy T ad (zA T ad s.heap.size) s.heap s0 s.heap [] s := zz_entry hP hK hD0 hN
  obtain ⟨ls, hent, hl⟩ := zz_ent m hargs (n := 3) (Nat.le_of_ble_eq_true rfl)
  rw [hent]
  have hl : lv_has ls 3 [(0, .ref (ad a0)), (1, .ref (ad a1))] := hl
  unfold f_X3_copy at hq
  refine zz_guard hq (fun hk0 hq => ?_)
  refine lv_iconst (v := 0) hx hb dX3_copy_0 (by decide) ?_
  refine lv_istore_n (lv' := [(2, .int (0 : Int32)), (0, .ref (ad a0)), (1, .ref (ad a1))]) hx hb dX3_copy_1 rfl hl (by decide) rfl (fun ls hl => ?_)
  have L2 : ∀ (n : Nat) (x4 : Int32) (s5 : zS) (H : Heap) (locs : List Loc) (ls : Array Slot), zl2 (f_X3_copy_L2 T N a0 a1) n x4 s5 = some σ0 → zB D cy T ad (zA T ad s.heap.size) s.heap s5 H locs s → lv_has ls 3 [(0, .ref (ad a0)), (1, .ref (ad a1)), (2, .int x4)] → W p l e (headSpec wsX3_copy ({ frames := 2, cells := 0, slots := 0, locals := 42 } : Room)).room s m args below meth c H locs 0 0 (MQ below (va_Qv (fun σ2 : zS => σ2 = σ0) (zAt D cy T ad (zA T ad s.heap.size)) (zA T ad s.heap.size)) args s 0 0 (zA T ad s.heap.size)) (F0 m 2 ls []) := by
    intro n
    induction n with
    | zero => intro x4 s5 H locs ls hq; exact zz_none hq
    | succ n ih2 =>
      intro x4 s5 H locs ls hq hB hl
      rw [zl2] at hq
      generalize zl2 (f_X3_copy_L2 T N a0 a1) n = k2 at ih2 hq
      unfold f_X3_copy_L2 at hq
      refine lv_iload_n hx hb dX3_copy_2 rfl (lv_at hl 2 rfl) ?_
      refine lv_bipush (v := 8) hx hb dX3_copy_3 (by decide) ?_
      refine zz_icmp_ge (tgt := 29) hx hb dX3_copy_5 (by decide) hq (fun hq => ?_) (fun hq => ?_)
      · exact zz_vret S hB hr hlocks dX3_copy_29 hq
      · refine lv_aload_n hx hb dX3_copy_8 rfl (lv_at hl 0 rfl) ?_
        refine lv_iload_n hx hb dX3_copy_9 rfl (lv_at hl 2 rfl) ?_
        refine lv_aload_n hx hb dX3_copy_10 rfl (lv_at hl 1 rfl) ?_
        refine lv_iload_n hx hb dX3_copy_11 rfl (lv_at hl 2 rfl) ?_
        refine zz_callVi S hT hB (As := [.int x4]) (b := a1) (o := f_X3_has T N s5 a1 x4) (c_X3_has l D cy T hT ad N s5 _ a1 x4) (cwV 1 hts (gV wSub wd_115 wd_116 wd_117 wd_118 wd_119) rfl rfl rfl (by decide +kernel) ⟨Nat.le_of_ble_eq_true rfl, Nat.le_of_ble_eq_true rfl⟩) (F := TX3) (NF := 2) 3 rfl (by decide) (k_X3_has T N s5 a1 x4) rfl hl.1 rfl (Nat.le_of_ble_eq_true rfl) dX3_copy_12 hq (fun x7 s6 H locs hq hB => ?_)
        refine lv_aload_n hx hb dX3_copy_15 rfl (lv_at hl 1 rfl) ?_
        refine lv_iload_n hx hb dX3_copy_16 rfl (lv_at hl 2 rfl) ?_
        refine zz_callVi S hT hB (As := [.int x4]) (b := a1) (o := f_X3_homeOf T N s6 a1 x4) (c_X3_homeOf l D cy T hT ad N s6 _ a1 x4) (cwV 1 hts (gV wSub wd_122 wd_123 wd_124 wd_118 wd_125) rfl rfl rfl (by decide +kernel) ⟨Nat.le_of_ble_eq_true rfl, Nat.le_of_ble_eq_true rfl⟩) (F := TX3) (NF := 2) 3 rfl (by decide) (k_X3_homeOf T N s6 a1 x4) rfl hl.1 rfl (Nat.le_of_ble_eq_true rfl) dX3_copy_17 hq (fun x9 s8 H locs hq hB => ?_)
        refine zz_callVv S hT hB (As := [.int x4, .int x7, .int x9]) (b := a0) (o := f_X3_put T N s8 a0 x4 x7 x9) (c_X3_put l D cy T hT ad N s8 _ a0 x4 x7 x9) (cwV 3 hts (gV wSub wd_126 wd_127 wd_128 wd_118 wd_129) rfl rfl rfl (by decide +kernel) ⟨Nat.le_of_ble_eq_true rfl, Nat.le_of_ble_eq_true rfl⟩) (F := TX3) (NF := 2) 3 rfl (by decide) (k_X3_put T N s8 a0 x4 x7 x9) rfl hl.1 rfl (Nat.le_of_ble_eq_true rfl) dX3_copy_20 hq (fun s10 H locs hq hB => ?_)
        refine zz_nmV hq (fun x11 ex11 hq => ?_)
        refine lv_iinc (v := x11) (lv' := [(2, .int x11), (0, .ref (ad a0)), (1, .ref (ad a1))]) hx hb dX3_copy_23 hl (k := 2) rfl (by rw [ex11]; rfl) (by decide) rfl (fun ls hl => ?_)
        refine lv_goto (tgt := 2) hx hb dX3_copy_26 (by decide) ?_
        exact ih2 x11 s10 _ _ _ hq hB (lv_sub hl [1, 2, 0] rfl)
  exact L2 N (0 : Int32) s0 _ _ _ hq hB (lv_sub hl [1, 2, 0] rfl)
def f_X4_add (T : zT) (N : Nat) (s0 : zS) (a0 : Nat) (x1 : Int32) (x2 : Int32) : Option zS :=
  zz1 (T.1 a0 = 4) <|
  (gI T s0 a0 4 2).bind fun x5 =>
  if x5 < 0 then (
    some s0)
  else (
    (gI T s0 a0 4 2).bind fun x6 =>
    (gR T s0 a0 4 0).bind fun a7 =>
    (aL T a7 13).bind fun x8 =>
    if x8 ≤ x6 then (
      some s0)
    else (
      (gI T s0 a0 4 2).bind fun x9 =>
      (gR T s0 a0 4 1).bind fun a10 =>
      (aL T a10 13).bind fun x11 =>
      if x11 ≤ x9 then (
        some s0)
      else (
        (gR T s0 a0 4 0).bind fun a12 =>
        (gI T s0 a0 4 2).bind fun x13 =>
        (sI T s0 a12 x13 x1).bind fun s14 =>
        (gR T s14 a0 4 1).bind fun a15 =>
        (gI T s14 a0 4 2).bind fun x16 =>
        (sI T s14 a15 x16 x2).bind fun s17 =>
        (gI T s17 a0 4 2).bind fun x18 =>
        (pI T s17 a0 4 2 (x18 + (1 : Int32))).bind fun s19 =>
        some s19)))
theorem k_X4_add (T : zT) (N : Nat) (s0 : zS) (a0 : Nat) (x1 : Int32) (x2 : Int32) : ∀ q, f_X4_add T N s0 a0 x1 x2 = some q → T.1 a0 = 4 := by
  intro q h
  unfold f_X4_add at h
  exact zz_guard h (fun h _ => h)
set_option maxHeartbeats 4000000 in
set_option maxRecDepth 100000 in
theorem c_X4_add (l : Launch) (D : va_G) (cy : Nat → ClassId) (T : zT) (hT : zok T) (ad : Nat → Nat) (N : Nat) (s0 : zS) (sz : Nat) (a0 : Nat) (x1 : Int32) (x2 : Int32) : ∀ (σ0 : zS), f_X4_add T N s0 a0 x1 x2 = some σ0 → Met l yX4_add wsX4_add ({ frames := 0, cells := 0, slots := 0, locals := 0 }) (va_Pc [.ref (ad a0), .int x1, .int x2] (zPre D cy T ad s0 sz)) (va_Qv (fun σ2 : zS => σ2 = σ0) (zAt D cy T ad (zA T ad sz)) (zA T ad sz)) 0 0 (zA T ad sz) := by
  intro σ0 hq
  refine Met.ofW (cc := cX4_add) (maxL := 3) (ret := none) (by decide) rfl ?_
  intro p e s m args below meth c s₁ B hml hv
  obtain ⟨hargs, hsz, hP, hK, hD0, hN⟩ := hv
  have hx := B.exec
  have hb := B.bytes
  have hr := B.returns
  have hts := atoms_spec (ws := wsX4_add) B.pre
  have hown : s.vm.findClass RX4 = some m.cls := findClass_of_methodNamed B.named
  have hlocks := B.notSynchronized
  have S : CallFix p m c cX4_add 3 s args wsX4_add RX4 := ⟨hx, hb, hml, hown, hts⟩
  subst hsz
  have hB : zB D cy T ad (zA T ad s.heap.size) s.heap s0 s.heap [] s := zz_entry hP hK hD0 hN
  obtain ⟨ls, hent, hl⟩ := zz_ent m hargs (n := 3) (Nat.le_of_ble_eq_true rfl)
  rw [hent]
  have hl : lv_has ls 3 [(0, .ref (ad a0)), (1, .int x1), (2, .int x2)] := hl
  have iwX4 : ∀ w ∈ u_ws RX4 TX4 5, w ∈ wsX4_add := fun w h => wS (inWX4 w h)
  unfold f_X4_add at hq
  refine zz_guard hq (fun hk0 hq => ?_)
  refine lv_aload_n hx hb dX4_add_0 rfl (lv_at hl 0 rfl) ?_
  refine zz_get S hT hB (C := RX4) (ref := "DiagramDesk$Guides") (F := TX4) (N := 5) (index := 22) 4 2 iwX4 rfl (by decide) (by decide) rfl rfl (wS wd_130) (fun _ h9 => h9) dX4_add_1 hq (fun x5 hq => ?_)
  refine zz_if_lt (tgt := 61) hx hb dX4_add_4 (by decide) hq (fun hq => ?_) (fun hq => ?_)
  · exact zz_vret S hB hr hlocks dX4_add_61 hq
  · refine lv_aload_n hx hb dX4_add_7 rfl (lv_at hl 0 rfl) ?_
    refine zz_get S hT hB (C := RX4) (ref := "DiagramDesk$Guides") (F := TX4) (N := 5) (index := 22) 4 2 iwX4 rfl (by decide) (by decide) rfl rfl (wS wd_130) (fun _ h9 => h9) dX4_add_8 hq (fun x6 hq => ?_)
    refine lv_aload_n hx hb dX4_add_11 rfl (lv_at hl 0 rfl) ?_
    refine zz_getR S hT hB (C := RX4) (ref := "DiagramDesk$Guides") (F := TX4) (N := 5) (index := 9) 4 0 iwX4 rfl (by decide) (by decide) rfl rfl (wS wd_131) (fun _ h9 => h9) dX4_add_12 hq (fun a7 hq => ?_)
    refine zz_alen S hT hB 13 (by decide) (by decide) dX4_add_15 hq (fun x8 hq => ?_)
    refine zz_icmp_ge (tgt := 61) hx hb dX4_add_16 (by decide) hq (fun hq => ?_) (fun hq => ?_)
    · exact zz_vret S hB hr hlocks dX4_add_61 hq
    · refine lv_aload_n hx hb dX4_add_19 rfl (lv_at hl 0 rfl) ?_
      refine zz_get S hT hB (C := RX4) (ref := "DiagramDesk$Guides") (F := TX4) (N := 5) (index := 22) 4 2 iwX4 rfl (by decide) (by decide) rfl rfl (wS wd_130) (fun _ h9 => h9) dX4_add_20 hq (fun x9 hq => ?_)
      refine lv_aload_n hx hb dX4_add_23 rfl (lv_at hl 0 rfl) ?_
      refine zz_getR S hT hB (C := RX4) (ref := "DiagramDesk$Guides") (F := TX4) (N := 5) (index := 15) 4 1 iwX4 rfl (by decide) (by decide) rfl rfl (wS wd_132) (fun _ h9 => h9) dX4_add_24 hq (fun a10 hq => ?_)
      refine zz_alen S hT hB 13 (by decide) (by decide) dX4_add_27 hq (fun x11 hq => ?_)
      refine zz_icmp_ge (tgt := 61) hx hb dX4_add_28 (by decide) hq (fun hq => ?_) (fun hq => ?_)
      · exact zz_vret S hB hr hlocks dX4_add_61 hq
      · refine lv_aload_n hx hb dX4_add_31 rfl (lv_at hl 0 rfl) ?_
        refine zz_getR S hT hB (C := RX4) (ref := "DiagramDesk$Guides") (F := TX4) (N := 5) (index := 9) 4 0 iwX4 rfl (by decide) (by decide) rfl rfl (wS wd_131) (fun _ h9 => h9) dX4_add_32 hq (fun a12 hq => ?_)
        refine lv_aload_n hx hb dX4_add_35 rfl (lv_at hl 0 rfl) ?_
        refine zz_get S hT hB (C := RX4) (ref := "DiagramDesk$Guides") (F := TX4) (N := 5) (index := 22) 4 2 iwX4 rfl (by decide) (by decide) rfl rfl (wS wd_130) (fun _ h9 => h9) dX4_add_36 hq (fun x13 hq => ?_)
        refine lv_iload_n hx hb dX4_add_39 rfl (lv_at hl 1 rfl) ?_
        refine zz_ast S hT hB dX4_add_40 hq (fun s14 H locs hq hB => ?_)
        refine lv_aload_n hx hb dX4_add_41 rfl (lv_at hl 0 rfl) ?_
        refine zz_getR S hT hB (C := RX4) (ref := "DiagramDesk$Guides") (F := TX4) (N := 5) (index := 15) 4 1 iwX4 rfl (by decide) (by decide) rfl rfl (wS wd_132) (fun _ h9 => h9) dX4_add_42 hq (fun a15 hq => ?_)
        refine lv_aload_n hx hb dX4_add_45 rfl (lv_at hl 0 rfl) ?_
        refine zz_get S hT hB (C := RX4) (ref := "DiagramDesk$Guides") (F := TX4) (N := 5) (index := 22) 4 2 iwX4 rfl (by decide) (by decide) rfl rfl (wS wd_130) (fun _ h9 => h9) dX4_add_46 hq (fun x16 hq => ?_)
        refine lv_iload_n hx hb dX4_add_49 rfl (lv_at hl 2 rfl) ?_
        refine zz_ast S hT hB dX4_add_50 hq (fun s17 H locs hq hB => ?_)
        refine lv_aload_n hx hb dX4_add_51 rfl (lv_at hl 0 rfl) ?_
        refine lv_dup hx hb dX4_add_52 rfl ?_
        refine zz_get S hT hB (C := RX4) (ref := "DiagramDesk$Guides") (F := TX4) (N := 5) (index := 22) 4 2 iwX4 rfl (by decide) (by decide) rfl rfl (wS wd_130) (fun _ h9 => h9) dX4_add_53 hq (fun x18 hq => ?_)
        refine lv_iconst (v := 1) hx hb dX4_add_56 (by decide) ?_
        refine lv_iadd hx hb dX4_add_57 ?_
        refine zz_put S hT hB (C := RX4) (ref := "DiagramDesk$Guides") (F := TX4) (N := 5) (index := 22) 4 2 iwX4 tyX4 tyX4_ok nmX4 rfl (by decide) (by decide) rfl rfl (wS wd_130) (fun _ h9 => h9) rfl (by decide +kernel) dX4_add_58 hq (fun s19 H locs hq hB => ?_)
        exact zz_vret S hB hr hlocks dX4_add_61 hq
def f_X4_copy_L7 (T : zT) (N : Nat) (a0 : Nat) (a1 : Nat) (k7 : Int32 → zS → Option zS) (x5 : Int32) (s6 : zS) : Option zS :=
  (gI T s6 a1 4 2).bind fun x7 =>
  if x7 ≤ x5 then (
    (gI T s6 a1 4 3).bind fun x8 =>
    (pI T s6 a0 4 3 x8).bind fun s9 =>
    (gI T s9 a1 4 4).bind fun x10 =>
    (pI T s9 a0 4 4 x10).bind fun s11 =>
    some s11)
  else (
    (gR T s6 a1 4 0).bind fun a12 =>
    (aL T a12 13).bind fun x13 =>
    if x13 ≤ x5 then (
      zn (x5 + (1 : Int32)) fun x14 =>
      k7 x14 s6)
    else (
      (gR T s6 a1 4 1).bind fun a15 =>
      (aL T a15 13).bind fun x16 =>
      if x16 ≤ x5 then (
        zn (x5 + (1 : Int32)) fun x17 =>
        k7 x17 s6)
      else (
        (gR T s6 a1 4 0).bind fun a18 =>
        (aI T s6 a18 13 x5).bind fun x19 =>
        (gR T s6 a1 4 1).bind fun a20 =>
        (aI T s6 a20 13 x5).bind fun x21 =>
        (f_X4_add T N s6 a0 x19 x21).bind fun s22 =>
        zn (x5 + (1 : Int32)) fun x23 =>
        k7 x23 s22)))
def f_X4_copy (T : zT) (N : Nat) (s0 : zS) (a0 : Nat) (a1 : Nat) : Option zS :=
  zz1 (T.1 a0 = 4) <|
  (pI T s0 a0 4 2 (0 : Int32)).bind fun s4 =>
  zl2 (f_X4_copy_L7 T N a0 a1) N (0 : Int32) s4
theorem k_X4_copy (T : zT) (N : Nat) (s0 : zS) (a0 : Nat) (a1 : Nat) : ∀ q, f_X4_copy T N s0 a0 a1 = some q → T.1 a0 = 4 := by
  intro q h
  unfold f_X4_copy at h
  exact zz_guard h (fun h _ => h)
set_option maxHeartbeats 4000000 in
set_option maxRecDepth 100000 in
theorem c_X4_copy (l : Launch) (D : va_G) (cy : Nat → ClassId) (T : zT) (hT : zok T) (ad : Nat → Nat) (N : Nat) (s0 : zS) (sz : Nat) (a0 : Nat) (a1 : Nat) : ∀ (σ0 : zS), f_X4_copy T N s0 a0 a1 = some σ0 → Met l yX4_copy wsX4_copy ({ frames := 1, cells := 0, slots := 0, locals := 22 }) (va_Pc [.ref (ad a0), .ref (ad a1)] (zPre D cy T ad s0 sz)) (va_Qv (fun σ2 : zS => σ2 = σ0) (zAt D cy T ad (zA T ad sz)) (zA T ad sz)) 0 0 (zA T ad sz) := by
  intro σ0 hq
  refine Met.ofW (cc := cX4_copy) (maxL := 3) (ret := none) (by decide) rfl ?_
  intro p e s m args below meth c s₁ B hml hv
  obtain ⟨hargs, hsz, hP, hK, hD0, hN⟩ := hv
  have hx := B.exec
  have hb := B.bytes
  have hr := B.returns
  have hts := atoms_spec (ws := wsX4_copy) B.pre
  have hown : s.vm.findClass RX4 = some m.cls := findClass_of_methodNamed B.named
  have hlocks := B.notSynchronized
  have S : CallFix p m c cX4_copy 3 s args wsX4_copy RX4 := ⟨hx, hb, hml, hown, hts⟩
  subst hsz
  have hB : zB D cy T ad (zA T ad s.heap.size) s.heap s0 s.heap [] s := zz_entry hP hK hD0 hN
  obtain ⟨ls, hent, hl⟩ := zz_ent m hargs (n := 3) (Nat.le_of_ble_eq_true rfl)
  rw [hent]
  have hl : lv_has ls 3 [(0, .ref (ad a0)), (1, .ref (ad a1))] := hl
  have iwX4 : ∀ w ∈ u_ws RX4 TX4 5, w ∈ wsX4_copy := fun w h => wS (inWX4 w h)
  unfold f_X4_copy at hq
  refine zz_guard hq (fun hk0 hq => ?_)
  refine lv_aload_n hx hb dX4_copy_0 rfl (lv_at hl 0 rfl) ?_
  refine lv_iconst (v := 0) hx hb dX4_copy_1 (by decide) ?_
  refine zz_put S hT hB (C := RX4) (ref := "DiagramDesk$Guides") (F := TX4) (N := 5) (index := 22) 4 2 iwX4 tyX4 tyX4_ok nmX4 rfl (by decide) (by decide) rfl rfl (wS wd_130) (fun _ h9 => h9) rfl (by decide +kernel) dX4_copy_2 hq (fun s4 H locs hq hB => ?_)
  refine lv_iconst (v := 0) hx hb dX4_copy_5 (by decide) ?_
  refine lv_istore_n (lv' := [(2, .int (0 : Int32)), (0, .ref (ad a0)), (1, .ref (ad a1))]) hx hb dX4_copy_6 rfl hl (by decide) rfl (fun ls hl => ?_)
  have L7 : ∀ (n : Nat) (x5 : Int32) (s6 : zS) (H : Heap) (locs : List Loc) (ls : Array Slot), zl2 (f_X4_copy_L7 T N a0 a1) n x5 s6 = some σ0 → zB D cy T ad (zA T ad s.heap.size) s.heap s6 H locs s → lv_has ls 3 [(0, .ref (ad a0)), (1, .ref (ad a1)), (2, .int x5)] → W p l e (headSpec wsX4_copy ({ frames := 1, cells := 0, slots := 0, locals := 22 } : Room)).room s m args below meth c H locs 0 0 (MQ below (va_Qv (fun σ2 : zS => σ2 = σ0) (zAt D cy T ad (zA T ad s.heap.size)) (zA T ad s.heap.size)) args s 0 0 (zA T ad s.heap.size)) (F0 m 7 ls []) := by
    intro n
    induction n with
    | zero => intro x5 s6 H locs ls hq; exact zz_none hq
    | succ n ih7 =>
      intro x5 s6 H locs ls hq hB hl
      rw [zl2] at hq
      generalize zl2 (f_X4_copy_L7 T N a0 a1) n = k7 at ih7 hq
      unfold f_X4_copy_L7 at hq
      refine lv_iload_n hx hb dX4_copy_7 rfl (lv_at hl 2 rfl) ?_
      refine lv_aload_n hx hb dX4_copy_8 rfl (lv_at hl 1 rfl) ?_
      refine zz_get S hT hB (C := RX4) (ref := "DiagramDesk$Guides") (F := TX4) (N := 5) (index := 22) 4 2 iwX4 rfl (by decide) (by decide) rfl rfl (wS wd_130) (fun _ h9 => h9) dX4_copy_9 hq (fun x7 hq => ?_)
      refine zz_icmp_ge (tgt := 55) hx hb dX4_copy_12 (by decide) hq (fun hq => ?_) (fun hq => ?_)
      · refine lv_aload_n hx hb dX4_copy_55 rfl (lv_at hl 0 rfl) ?_
        refine lv_aload_n hx hb dX4_copy_56 rfl (lv_at hl 1 rfl) ?_
        refine zz_get S hT hB (C := RX4) (ref := "DiagramDesk$Guides") (F := TX4) (N := 5) (index := 29) 4 3 iwX4 rfl (by decide) (by decide) rfl rfl (wS wd_133) (fun _ h9 => h9) dX4_copy_57 hq (fun x8 hq => ?_)
        refine zz_put S hT hB (C := RX4) (ref := "DiagramDesk$Guides") (F := TX4) (N := 5) (index := 29) 4 3 iwX4 tyX4 tyX4_ok nmX4 rfl (by decide) (by decide) rfl rfl (wS wd_133) (fun _ h9 => h9) rfl (by decide +kernel) dX4_copy_60 hq (fun s9 H locs hq hB => ?_)
        refine lv_aload_n hx hb dX4_copy_63 rfl (lv_at hl 0 rfl) ?_
        refine lv_aload_n hx hb dX4_copy_64 rfl (lv_at hl 1 rfl) ?_
        refine zz_get S hT hB (C := RX4) (ref := "DiagramDesk$Guides") (F := TX4) (N := 5) (index := 18) 4 4 iwX4 rfl (by decide) (by decide) rfl rfl (wS wd_134) (fun _ h9 => h9) dX4_copy_65 hq (fun x10 hq => ?_)
        refine zz_put S hT hB (C := RX4) (ref := "DiagramDesk$Guides") (F := TX4) (N := 5) (index := 18) 4 4 iwX4 tyX4 tyX4_ok nmX4 rfl (by decide) (by decide) rfl rfl (wS wd_134) (fun _ h9 => h9) rfl (by decide +kernel) dX4_copy_68 hq (fun s11 H locs hq hB => ?_)
        exact zz_vret S hB hr hlocks dX4_copy_71 hq
      · refine lv_iload_n hx hb dX4_copy_15 rfl (lv_at hl 2 rfl) ?_
        refine lv_aload_n hx hb dX4_copy_16 rfl (lv_at hl 1 rfl) ?_
        refine zz_getR S hT hB (C := RX4) (ref := "DiagramDesk$Guides") (F := TX4) (N := 5) (index := 9) 4 0 iwX4 rfl (by decide) (by decide) rfl rfl (wS wd_131) (fun _ h9 => h9) dX4_copy_17 hq (fun a12 hq => ?_)
        refine zz_alen S hT hB 13 (by decide) (by decide) dX4_copy_20 hq (fun x13 hq => ?_)
        refine zz_icmp_ge (tgt := 49) hx hb dX4_copy_21 (by decide) hq (fun hq => ?_) (fun hq => ?_)
        · refine zz_nmV hq (fun x14 ex14 hq => ?_)
          refine lv_iinc (v := x14) (lv' := [(2, .int x14), (0, .ref (ad a0)), (1, .ref (ad a1))]) hx hb dX4_copy_49 hl (k := 2) rfl (by rw [ex14]; rfl) (by decide) rfl (fun ls hl => ?_)
          refine lv_goto (tgt := 7) hx hb dX4_copy_52 (by decide) ?_
          exact ih7 x14 s6 _ _ _ hq hB (lv_sub hl [1, 2, 0] rfl)
        · refine lv_iload_n hx hb dX4_copy_24 rfl (lv_at hl 2 rfl) ?_
          refine lv_aload_n hx hb dX4_copy_25 rfl (lv_at hl 1 rfl) ?_
          refine zz_getR S hT hB (C := RX4) (ref := "DiagramDesk$Guides") (F := TX4) (N := 5) (index := 15) 4 1 iwX4 rfl (by decide) (by decide) rfl rfl (wS wd_132) (fun _ h9 => h9) dX4_copy_26 hq (fun a15 hq => ?_)
          refine zz_alen S hT hB 13 (by decide) (by decide) dX4_copy_29 hq (fun x16 hq => ?_)
          refine zz_icmp_ge (tgt := 49) hx hb dX4_copy_30 (by decide) hq (fun hq => ?_) (fun hq => ?_)
          · refine zz_nmV hq (fun x17 ex17 hq => ?_)
            refine lv_iinc (v := x17) (lv' := [(2, .int x17), (0, .ref (ad a0)), (1, .ref (ad a1))]) hx hb dX4_copy_49 hl (k := 2) rfl (by rw [ex17]; rfl) (by decide) rfl (fun ls hl => ?_)
            refine lv_goto (tgt := 7) hx hb dX4_copy_52 (by decide) ?_
            exact ih7 x17 s6 _ _ _ hq hB (lv_sub hl [1, 2, 0] rfl)
          · refine lv_aload_n hx hb dX4_copy_33 rfl (lv_at hl 0 rfl) ?_
            refine lv_aload_n hx hb dX4_copy_34 rfl (lv_at hl 1 rfl) ?_
            refine zz_getR S hT hB (C := RX4) (ref := "DiagramDesk$Guides") (F := TX4) (N := 5) (index := 9) 4 0 iwX4 rfl (by decide) (by decide) rfl rfl (wS wd_131) (fun _ h9 => h9) dX4_copy_35 hq (fun a18 hq => ?_)
            refine lv_iload_n hx hb dX4_copy_38 rfl (lv_at hl 2 rfl) ?_
            refine zz_ald S hT hB dX4_copy_39 hq (fun x19 hq => ?_)
            refine lv_aload_n hx hb dX4_copy_40 rfl (lv_at hl 1 rfl) ?_
            refine zz_getR S hT hB (C := RX4) (ref := "DiagramDesk$Guides") (F := TX4) (N := 5) (index := 15) 4 1 iwX4 rfl (by decide) (by decide) rfl rfl (wS wd_132) (fun _ h9 => h9) dX4_copy_41 hq (fun a20 hq => ?_)
            refine lv_iload_n hx hb dX4_copy_44 rfl (lv_at hl 2 rfl) ?_
            refine zz_ald S hT hB dX4_copy_45 hq (fun x21 hq => ?_)
            refine zz_callVv S hT hB (As := [.int x19, .int x21]) (b := a0) (o := f_X4_add T N s6 a0 x19 x21) (c_X4_add l D cy T hT ad N s6 _ a0 x19 x21) (cwV 2 hts (gV wSub wd_135 wd_136 wd_137 wd_138 wd_139) rfl rfl rfl (by decide +kernel) ⟨Nat.le_of_ble_eq_true rfl, Nat.le_of_ble_eq_true rfl⟩) (F := TX4) (NF := 5) 4 rfl (by decide) (k_X4_add T N s6 a0 x19 x21) rfl hl.1 rfl (Nat.le_of_ble_eq_true rfl) dX4_copy_46 hq (fun s22 H locs hq hB => ?_)
            refine zz_nmV hq (fun x23 ex23 hq => ?_)
            refine lv_iinc (v := x23) (lv' := [(2, .int x23), (0, .ref (ad a0)), (1, .ref (ad a1))]) hx hb dX4_copy_49 hl (k := 2) rfl (by rw [ex23]; rfl) (by decide) rfl (fun ls hl => ?_)
            refine lv_goto (tgt := 7) hx hb dX4_copy_52 (by decide) ?_
            exact ih7 x23 s22 _ _ _ hq hB (lv_sub hl [1, 2, 0] rfl)
  exact L7 N (0 : Int32) s4 _ _ _ hq hB (lv_sub hl [1, 2, 0] rfl)
def f_X2_copy (T : zT) (N : Nat) (s0 : zS) (a0 : Nat) (a1 : Nat) : Option zS :=
  zz1 (T.1 a0 = 2) <|
  (gR T s0 a0 2 0).bind fun a4 =>
  (gR T s0 a1 2 0).bind fun a5 =>
  (f_X7_copy T N s0 a4 a5).bind fun s6 =>
  (gR T s6 a0 2 1).bind fun a7 =>
  (gR T s6 a1 2 1).bind fun a8 =>
  (f_X1_copy T N s6 a7 a8).bind fun s9 =>
  (gR T s9 a0 2 2).bind fun a10 =>
  (gR T s9 a1 2 2).bind fun a11 =>
  (f_X3_copy T N s9 a10 a11).bind fun s12 =>
  (gR T s12 a0 2 3).bind fun a13 =>
  (gR T s12 a1 2 3).bind fun a14 =>
  (f_X4_copy T N s12 a13 a14).bind fun s15 =>
  some s15
theorem k_X2_copy (T : zT) (N : Nat) (s0 : zS) (a0 : Nat) (a1 : Nat) : ∀ q, f_X2_copy T N s0 a0 a1 = some q → T.1 a0 = 2 := by
  intro q h
  unfold f_X2_copy at h
  exact zz_guard h (fun h _ => h)
set_option maxHeartbeats 4000000 in
set_option maxRecDepth 100000 in
theorem c_X2_copy (l : Launch) (D : va_G) (cy : Nat → ClassId) (T : zT) (hT : zok T) (ad : Nat → Nat) (N : Nat) (s0 : zS) (sz : Nat) (a0 : Nat) (a1 : Nat) : ∀ (σ0 : zS), f_X2_copy T N s0 a0 a1 = some σ0 → Met l yX2_copy wsX2_copy ({ frames := 3, cells := 0, slots := 0, locals := 64 }) (va_Pc [.ref (ad a0), .ref (ad a1)] (zPre D cy T ad s0 sz)) (va_Qv (fun σ2 : zS => σ2 = σ0) (zAt D cy T ad (zA T ad sz)) (zA T ad sz)) 0 0 (zA T ad sz) := by
  intro σ0 hq
  refine Met.ofW (cc := cX2_copy) (maxL := 2) (ret := none) (by decide) rfl ?_
  intro p e s m args below meth c s₁ B hml hv
  obtain ⟨hargs, hsz, hP, hK, hD0, hN⟩ := hv
  have hx := B.exec
  have hb := B.bytes
  have hr := B.returns
  have hts := atoms_spec (ws := wsX2_copy) B.pre
  have hown : s.vm.findClass RX2 = some m.cls := findClass_of_methodNamed B.named
  have hlocks := B.notSynchronized
  have S : CallFix p m c cX2_copy 2 s args wsX2_copy RX2 := ⟨hx, hb, hml, hown, hts⟩
  subst hsz
  have hB : zB D cy T ad (zA T ad s.heap.size) s.heap s0 s.heap [] s := zz_entry hP hK hD0 hN
  obtain ⟨ls, hent, hl⟩ := zz_ent m hargs (n := 2) (Nat.le_of_ble_eq_true rfl)
  rw [hent]
  have hl : lv_has ls 2 [(0, .ref (ad a0)), (1, .ref (ad a1))] := hl
  have iwX2 : ∀ w ∈ u_ws RX2 TX2 4, w ∈ wsX2_copy := fun w h => wS (inWX2 w h)
  unfold f_X2_copy at hq
  refine zz_guard hq (fun hk0 hq => ?_)
  refine lv_aload_n hx hb dX2_copy_0 rfl (lv_at hl 0 rfl) ?_
  refine zz_getR S hT hB (C := RX2) (ref := "DiagramDesk$Diagram") (F := TX2) (N := 4) (index := 12) 2 0 iwX2 rfl (by decide) (by decide) rfl rfl (wS wd_140) (fun _ h9 => h9) dX2_copy_1 hq (fun a4 hq => ?_)
  refine lv_aload_n hx hb dX2_copy_4 rfl (lv_at hl 1 rfl) ?_
  refine zz_getR S hT hB (C := RX2) (ref := "DiagramDesk$Diagram") (F := TX2) (N := 4) (index := 12) 2 0 iwX2 rfl (by decide) (by decide) rfl rfl (wS wd_140) (fun _ h9 => h9) dX2_copy_5 hq (fun a5 hq => ?_)
  refine zz_callVv S hT hB (As := [.ref (ad a5)]) (b := a4) (o := f_X7_copy T N s0 a4 a5) (c_X7_copy l D cy T hT ad N s0 _ a4 a5) (cwV 1 hts (gV wSub wd_141 wd_142 wd_143 wd_35 wd_144) rfl rfl rfl (by decide +kernel) ⟨Nat.le_of_ble_eq_true rfl, Nat.le_of_ble_eq_true rfl⟩) (F := TX7) (NF := 3) 7 rfl (by decide) (k_X7_copy T N s0 a4 a5) rfl hl.1 rfl (Nat.le_of_ble_eq_true rfl) dX2_copy_8 hq (fun s6 H locs hq hB => ?_)
  refine lv_aload_n hx hb dX2_copy_11 rfl (lv_at hl 0 rfl) ?_
  refine zz_getR S hT hB (C := RX2) (ref := "DiagramDesk$Diagram") (F := TX2) (N := 4) (index := 21) 2 1 iwX2 rfl (by decide) (by decide) rfl rfl (wS wd_145) (fun _ h9 => h9) dX2_copy_12 hq (fun a7 hq => ?_)
  refine lv_aload_n hx hb dX2_copy_15 rfl (lv_at hl 1 rfl) ?_
  refine zz_getR S hT hB (C := RX2) (ref := "DiagramDesk$Diagram") (F := TX2) (N := 4) (index := 21) 2 1 iwX2 rfl (by decide) (by decide) rfl rfl (wS wd_145) (fun _ h9 => h9) dX2_copy_16 hq (fun a8 hq => ?_)
  refine zz_callVv S hT hB (As := [.ref (ad a8)]) (b := a7) (o := f_X1_copy T N s6 a7 a8) (c_X1_copy l D cy T hT ad N s6 _ a7 a8) (cwV 1 hts (gV wSub wd_146 wd_147 wd_148 wd_94 wd_149) rfl rfl rfl (by decide +kernel) ⟨Nat.le_of_ble_eq_true rfl, Nat.le_of_ble_eq_true rfl⟩) (F := TX1) (NF := 2) 1 rfl (by decide) (k_X1_copy T N s6 a7 a8) rfl hl.1 rfl (Nat.le_of_ble_eq_true rfl) dX2_copy_19 hq (fun s9 H locs hq hB => ?_)
  refine lv_aload_n hx hb dX2_copy_22 rfl (lv_at hl 0 rfl) ?_
  refine zz_getR S hT hB (C := RX2) (ref := "DiagramDesk$Diagram") (F := TX2) (N := 4) (index := 28) 2 2 iwX2 rfl (by decide) (by decide) rfl rfl (wS wd_150) (fun _ h9 => h9) dX2_copy_23 hq (fun a10 hq => ?_)
  refine lv_aload_n hx hb dX2_copy_26 rfl (lv_at hl 1 rfl) ?_
  refine zz_getR S hT hB (C := RX2) (ref := "DiagramDesk$Diagram") (F := TX2) (N := 4) (index := 28) 2 2 iwX2 rfl (by decide) (by decide) rfl rfl (wS wd_150) (fun _ h9 => h9) dX2_copy_27 hq (fun a11 hq => ?_)
  refine zz_callVv S hT hB (As := [.ref (ad a11)]) (b := a10) (o := f_X3_copy T N s9 a10 a11) (c_X3_copy l D cy T hT ad N s9 _ a10 a11) (cwV 1 hts (gV wSub wd_151 wd_152 wd_153 wd_118 wd_154) rfl rfl rfl (by decide +kernel) ⟨Nat.le_of_ble_eq_true rfl, Nat.le_of_ble_eq_true rfl⟩) (F := TX3) (NF := 2) 3 rfl (by decide) (k_X3_copy T N s9 a10 a11) rfl hl.1 rfl (Nat.le_of_ble_eq_true rfl) dX2_copy_30 hq (fun s12 H locs hq hB => ?_)
  refine lv_aload_n hx hb dX2_copy_33 rfl (lv_at hl 0 rfl) ?_
  refine zz_getR S hT hB (C := RX2) (ref := "DiagramDesk$Diagram") (F := TX2) (N := 4) (index := 35) 2 3 iwX2 rfl (by decide) (by decide) rfl rfl (wS wd_155) (fun _ h9 => h9) dX2_copy_34 hq (fun a13 hq => ?_)
  refine lv_aload_n hx hb dX2_copy_37 rfl (lv_at hl 1 rfl) ?_
  refine zz_getR S hT hB (C := RX2) (ref := "DiagramDesk$Diagram") (F := TX2) (N := 4) (index := 35) 2 3 iwX2 rfl (by decide) (by decide) rfl rfl (wS wd_155) (fun _ h9 => h9) dX2_copy_38 hq (fun a14 hq => ?_)
  refine zz_callVv S hT hB (As := [.ref (ad a14)]) (b := a13) (o := f_X4_copy T N s12 a13 a14) (c_X4_copy l D cy T hT ad N s12 _ a13 a14) (cwV 1 hts (gV wSub wd_156 wd_157 wd_158 wd_138 wd_159) rfl rfl rfl (by decide +kernel) ⟨Nat.le_of_ble_eq_true rfl, Nat.le_of_ble_eq_true rfl⟩) (F := TX4) (NF := 5) 4 rfl (by decide) (k_X4_copy T N s12 a13 a14) rfl hl.1 rfl (Nat.le_of_ble_eq_true rfl) dX2_copy_41 hq (fun s15 H locs hq hB => ?_)
  exact zz_vret S hB hr hlocks dX2_copy_44 hq
def f_X3_isInside_J35 (T : zT) (N : Nat) (x2 : Int32) (x5 : Int32) (s7 : zS) : Option (Int32 × zS) :=
  if ¬ x5 = x2 then (
    rZ (0 : Int32) s7)
  else (
    rZ (1 : Int32) s7)
def f_X3_isInside_L5 (T : zT) (N : Nat) (a0 : Nat) (x2 : Int32) (k5 : Int32 → Int32 → zS → Option (Int32 × zS)) (x5 : Int32) (x6 : Int32) (s7 : zS) : Option (Int32 × zS) :=
  if (8 : Int32) ≤ x6 then (
    f_X3_isInside_J35 T N x2 x5 s7)
  else (
    if x5 = x2 then (
      f_X3_isInside_J35 T N x2 x5 s7)
    else (
      if x5 = (-1000000 : Int32) then (
        f_X3_isInside_J35 T N x2 x5 s7)
      else (
        zb2 (f_X3_homeOf T N s7 a0 x5) fun x9 s8 =>
        zn (x6 + (1 : Int32)) fun x10 =>
        k5 x9 x10 s8)))
def f_X3_isInside (T : zT) (N : Nat) (s0 : zS) (a0 : Nat) (x1 : Int32) (x2 : Int32) : Option (Int32 × zS) :=
  zz1 (T.1 a0 = 3) <|
  zl3 (f_X3_isInside_L5 T N a0 x2) N x1 (0 : Int32) s0
theorem k_X3_isInside (T : zT) (N : Nat) (s0 : zS) (a0 : Nat) (x1 : Int32) (x2 : Int32) : ∀ q, f_X3_isInside T N s0 a0 x1 x2 = some q → T.1 a0 = 3 := by
  intro q h
  unfold f_X3_isInside at h
  exact zz_guard h (fun h _ => h)
set_option maxHeartbeats 4000000 in
set_option maxRecDepth 100000 in
theorem c_X3_isInside (l : Launch) (D : va_G) (cy : Nat → ClassId) (T : zT) (hT : zok T) (ad : Nat → Nat) (N : Nat) (s0 : zS) (sz : Nat) (a0 : Nat) (x1 : Int32) (x2 : Int32) : ∀ (r0 : Int32) (σ0 : zS), f_X3_isInside T N s0 a0 x1 x2 = some (r0, σ0) → Met l yX3_isInside wsX3_isInside ({ frames := 2, cells := 0, slots := 0, locals := 42 }) (va_Pc [.ref (ad a0), .int x1, .int x2] (zPre D cy T ad s0 sz)) (va_Qi (fun (r2 : Int32) (σ2 : zS) => r2 = r0 ∧ σ2 = σ0) (zAt D cy T ad (zA T ad sz)) (zA T ad sz)) 0 0 (zA T ad sz) := by
  intro r0 σ0 hq
  refine Met.ofW (cc := cX3_isInside) (maxL := 5) (ret := (some .boolean)) (by decide) rfl ?_
  intro p e s m args below meth c s₁ B hml hv
  obtain ⟨hargs, hsz, hP, hK, hD0, hN⟩ := hv
  have hx := B.exec
  have hb := B.bytes
  have hr := B.returns
  have hts := atoms_spec (ws := wsX3_isInside) B.pre
  have hown : s.vm.findClass RX3 = some m.cls := findClass_of_methodNamed B.named
  have hlocks := B.notSynchronized
  have S : CallFix p m c cX3_isInside 5 s args wsX3_isInside RX3 := ⟨hx, hb, hml, hown, hts⟩
  subst hsz
  have hB : zB D cy T ad (zA T ad s.heap.size) s.heap s0 s.heap [] s := zz_entry hP hK hD0 hN
  obtain ⟨ls, hent, hl⟩ := zz_ent m hargs (n := 5) (Nat.le_of_ble_eq_true rfl)
  rw [hent]
  have hl : lv_has ls 5 [(0, .ref (ad a0)), (1, .int x1), (2, .int x2)] := hl
  unfold f_X3_isInside at hq
  refine zz_guard hq (fun hk0 hq => ?_)
  refine lv_iload_n hx hb dX3_isInside_0 rfl (lv_at hl 1 rfl) ?_
  refine lv_istore_n (lv' := [(3, .int x1), (0, .ref (ad a0)), (1, .int x1), (2, .int x2)]) hx hb dX3_isInside_1 rfl hl (by decide) rfl (fun ls hl => ?_)
  refine lv_iconst (v := 0) hx hb dX3_isInside_2 (by decide) ?_
  refine lv_istore (lv' := [(4, .int (0 : Int32)), (3, .int x1), (0, .ref (ad a0)), (1, .int x1), (2, .int x2)]) hx hb dX3_isInside_3 hl (by decide) rfl (fun ls hl => ?_)
  have L5 : ∀ (n : Nat) (x5 : Int32) (x6 : Int32) (s7 : zS) (H : Heap) (locs : List Loc) (ls : Array Slot), zl3 (f_X3_isInside_L5 T N a0 x2) n x5 x6 s7 = some (r0, σ0) → zB D cy T ad (zA T ad s.heap.size) s.heap s7 H locs s → lv_has ls 5 [(0, .ref (ad a0)), (2, .int x2), (3, .int x5), (4, .int x6)] → W p l e (headSpec wsX3_isInside ({ frames := 2, cells := 0, slots := 0, locals := 42 } : Room)).room s m args below meth c H locs 0 0 (MQ below (va_Qi (fun (r2 : Int32) (σ2 : zS) => r2 = r0 ∧ σ2 = σ0) (zAt D cy T ad (zA T ad s.heap.size)) (zA T ad s.heap.size)) args s 0 0 (zA T ad s.heap.size)) (F0 m 5 ls []) := by
    intro n
    induction n with
    | zero => intro x5 x6 s7 H locs ls hq; exact zz_none hq
    | succ n ih5 =>
      intro x5 x6 s7 H locs ls hq hB hl
      rw [zl3] at hq
      generalize zl3 (f_X3_isInside_L5 T N a0 x2) n = k5 at ih5 hq
      unfold f_X3_isInside_L5 at hq
      refine lv_iload hx hb dX3_isInside_5 (lv_at hl 3 rfl) ?_
      refine lv_bipush (v := 8) hx hb dX3_isInside_7 (by decide) ?_
      have J35 : ∀ (H : Heap) (locs : List Loc) (ls : Array Slot), f_X3_isInside_J35 T N x2 x5 s7 = some (r0, σ0) → zB D cy T ad (zA T ad s.heap.size) s.heap s7 H locs s → lv_has ls 5 [(2, .int x2), (3, .int x5)] → W p l e (headSpec wsX3_isInside ({ frames := 2, cells := 0, slots := 0, locals := 42 } : Room)).room s m args below meth c H locs 0 0 (MQ below (va_Qi (fun (r2 : Int32) (σ2 : zS) => r2 = r0 ∧ σ2 = σ0) (zAt D cy T ad (zA T ad s.heap.size)) (zA T ad s.heap.size)) args s 0 0 (zA T ad s.heap.size)) (F0 m 35 ls []) := by
        intro H locs ls hq hB hl
        unfold f_X3_isInside_J35 at hq
        refine lv_iload_n hx hb dX3_isInside_35 rfl (lv_at hl 1 rfl) ?_
        refine lv_iload_n hx hb dX3_isInside_36 rfl (lv_at hl 0 rfl) ?_
        refine zz_icmp_ne (tgt := 44) hx hb dX3_isInside_37 (by decide) hq (fun hq => ?_) (fun hq => ?_)
        · refine lv_iconst (v := 0) hx hb dX3_isInside_44 (by decide) ?_
          exact zz_zret S hB hr hlocks dX3_isInside_45 hq
        · refine lv_iconst (v := 1) hx hb dX3_isInside_40 (by decide) ?_
          refine lv_goto (tgt := 45) hx hb dX3_isInside_41 (by decide) ?_
          exact zz_zret S hB hr hlocks dX3_isInside_45 hq
      refine zz_icmp_ge (tgt := 35) hx hb dX3_isInside_9 (by decide) hq (fun hq => ?_) (fun hq => ?_)
      · exact J35  _ _ _ hq hB (lv_sub hl [1, 2] rfl)
      · refine lv_iload_n hx hb dX3_isInside_12 rfl (lv_at hl 2 rfl) ?_
        refine lv_iload_n hx hb dX3_isInside_13 rfl (lv_at hl 1 rfl) ?_
        refine zz_icmp_eq (tgt := 35) hx hb dX3_isInside_14 (by decide) hq (fun hq => ?_) (fun hq => ?_)
        · exact J35  _ _ _ hq hB (lv_sub hl [1, 2] rfl)
        · refine lv_iload_n hx hb dX3_isInside_17 rfl (lv_at hl 2 rfl) ?_
          refine lv_ldc (v := -1000000) hx hb hown (hts _ (wS wd_120)) dX3_isInside_18 ?_
          refine zz_icmp_eq (tgt := 35) hx hb dX3_isInside_20 (by decide) hq (fun hq => ?_) (fun hq => ?_)
          · exact J35  _ _ _ hq hB (lv_sub hl [1, 2] rfl)
          · refine lv_aload_n hx hb dX3_isInside_23 rfl (lv_at hl 0 rfl) ?_
            refine lv_iload_n hx hb dX3_isInside_24 rfl (lv_at hl 2 rfl) ?_
            refine zz_callVi S hT hB (As := [.int x5]) (b := a0) (o := f_X3_homeOf T N s7 a0 x5) (c_X3_homeOf l D cy T hT ad N s7 _ a0 x5) (cwV 1 hts (gV wSub wd_122 wd_123 wd_124 wd_118 wd_125) rfl rfl rfl (by decide +kernel) ⟨Nat.le_of_ble_eq_true rfl, Nat.le_of_ble_eq_true rfl⟩) (F := TX3) (NF := 2) 3 rfl (by decide) (k_X3_homeOf T N s7 a0 x5) rfl hl.1 rfl (Nat.le_of_ble_eq_true rfl) dX3_isInside_25 hq (fun x9 s8 H locs hq hB => ?_)
            refine lv_istore_n (lv' := [(3, .int x9), (0, .ref (ad a0)), (2, .int x2), (4, .int x6)]) hx hb dX3_isInside_28 rfl hl (by decide) rfl (fun ls hl => ?_)
            refine zz_nmV hq (fun x10 ex10 hq => ?_)
            refine lv_iinc (v := x10) (lv' := [(4, .int x10), (3, .int x9), (0, .ref (ad a0)), (2, .int x2)]) hx hb dX3_isInside_29 hl (k := 3) rfl (by rw [ex10]; rfl) (by decide) rfl (fun ls hl => ?_)
            refine lv_goto (tgt := 5) hx hb dX3_isInside_32 (by decide) ?_
            exact ih5 x9 x10 s8 _ _ _ hq hB (lv_sub hl [2, 3, 1, 0] rfl)
  exact L5 N x1 (0 : Int32) s0 _ _ _ hq hB (lv_sub hl [2, 4, 1, 0] rfl)
def f_X2_shapesIn_L4 (T : zT) (N : Nat) (a0 : Nat) (x1 : Int32) (k4 : Int32 → Int32 → zS → Option (Int32 × zS)) (x4 : Int32) (x5 : Int32) (s6 : zS) : Option (Int32 × zS) :=
  if (20 : Int32) ≤ x5 then (
    some (x4, s6))
  else (
    (gR T s6 a0 2 0).bind fun a7 =>
    zb2 (f_X7_find T N s6 a7 x5) fun o9 s8 => zo o9 (
      zn (x5 + (1 : Int32)) fun x11 =>
      k4 x4 x11 s8)
    fun a10 => (
      (gR T s8 a0 2 2).bind fun a12 =>
      (gI T s8 a10 6 7).bind fun x13 =>
      zb2 (f_X3_isInside T N s8 a12 x13 x1) fun x15 s14 =>
      if x15 = 0 then (
        zn (x5 + (1 : Int32)) fun x16 =>
        k4 x4 x16 s14)
      else (
        zn (x4 ||| ((1 : Int32) <<< (x5 &&& 31))) fun x17 =>
        zn (x5 + (1 : Int32)) fun x18 =>
        k4 x17 x18 s14)))
def f_X2_shapesIn (T : zT) (N : Nat) (s0 : zS) (a0 : Nat) (x1 : Int32) : Option (Int32 × zS) :=
  zz1 (T.1 a0 = 2) <|
  zl3 (f_X2_shapesIn_L4 T N a0 x1) N (0 : Int32) (0 : Int32) s0
theorem k_X2_shapesIn (T : zT) (N : Nat) (s0 : zS) (a0 : Nat) (x1 : Int32) : ∀ q, f_X2_shapesIn T N s0 a0 x1 = some q → T.1 a0 = 2 := by
  intro q h
  unfold f_X2_shapesIn at h
  exact zz_guard h (fun h _ => h)
set_option maxHeartbeats 4000000 in
set_option maxRecDepth 100000 in
theorem c_X2_shapesIn (l : Launch) (D : va_G) (cy : Nat → ClassId) (T : zT) (hT : zok T) (ad : Nat → Nat) (N : Nat) (s0 : zS) (sz : Nat) (a0 : Nat) (x1 : Int32) : ∀ (r0 : Int32) (σ0 : zS), f_X2_shapesIn T N s0 a0 x1 = some (r0, σ0) → Met l yX2_shapesIn wsX2_shapesIn ({ frames := 3, cells := 0, slots := 0, locals := 66 }) (va_Pc [.ref (ad a0), .int x1] (zPre D cy T ad s0 sz)) (va_Qi (fun (r2 : Int32) (σ2 : zS) => r2 = r0 ∧ σ2 = σ0) (zAt D cy T ad (zA T ad sz)) (zA T ad sz)) 0 0 (zA T ad sz) := by
  intro r0 σ0 hq
  refine Met.ofW (cc := cX2_shapesIn) (maxL := 5) (ret := (some .int)) (by decide) rfl ?_
  intro p e s m args below meth c s₁ B hml hv
  obtain ⟨hargs, hsz, hP, hK, hD0, hN⟩ := hv
  have hx := B.exec
  have hb := B.bytes
  have hr := B.returns
  have hts := atoms_spec (ws := wsX2_shapesIn) B.pre
  have hown : s.vm.findClass RX2 = some m.cls := findClass_of_methodNamed B.named
  have hlocks := B.notSynchronized
  have S : CallFix p m c cX2_shapesIn 5 s args wsX2_shapesIn RX2 := ⟨hx, hb, hml, hown, hts⟩
  subst hsz
  have hB : zB D cy T ad (zA T ad s.heap.size) s.heap s0 s.heap [] s := zz_entry hP hK hD0 hN
  obtain ⟨ls, hent, hl⟩ := zz_ent m hargs (n := 5) (Nat.le_of_ble_eq_true rfl)
  rw [hent]
  have hl : lv_has ls 5 [(0, .ref (ad a0)), (1, .int x1)] := hl
  have iwX2 : ∀ w ∈ u_ws RX2 TX2 4, w ∈ wsX2_shapesIn := fun w h => wS (inWX2 w h)
  have iwX6 : ∀ w ∈ u_ws RX6 TX6 8, w ∈ wsX2_shapesIn := fun w h => wS (inWX6 w h)
  unfold f_X2_shapesIn at hq
  refine zz_guard hq (fun hk0 hq => ?_)
  refine lv_iconst (v := 0) hx hb dX2_shapesIn_0 (by decide) ?_
  refine lv_istore_n (lv' := [(2, .int (0 : Int32)), (0, .ref (ad a0)), (1, .int x1)]) hx hb dX2_shapesIn_1 rfl hl (by decide) rfl (fun ls hl => ?_)
  refine lv_iconst (v := 0) hx hb dX2_shapesIn_2 (by decide) ?_
  refine lv_istore_n (lv' := [(3, .int (0 : Int32)), (2, .int (0 : Int32)), (0, .ref (ad a0)), (1, .int x1)]) hx hb dX2_shapesIn_3 rfl hl (by decide) rfl (fun ls hl => ?_)
  have L4 : ∀ (n : Nat) (x4 : Int32) (x5 : Int32) (s6 : zS) (H : Heap) (locs : List Loc) (ls : Array Slot), zl3 (f_X2_shapesIn_L4 T N a0 x1) n x4 x5 s6 = some (r0, σ0) → zB D cy T ad (zA T ad s.heap.size) s.heap s6 H locs s → lv_has ls 5 [(0, .ref (ad a0)), (1, .int x1), (2, .int x4), (3, .int x5)] → W p l e (headSpec wsX2_shapesIn ({ frames := 3, cells := 0, slots := 0, locals := 66 } : Room)).room s m args below meth c H locs 0 0 (MQ below (va_Qi (fun (r2 : Int32) (σ2 : zS) => r2 = r0 ∧ σ2 = σ0) (zAt D cy T ad (zA T ad s.heap.size)) (zA T ad s.heap.size)) args s 0 0 (zA T ad s.heap.size)) (F0 m 4 ls []) := by
    intro n
    induction n with
    | zero => intro x4 x5 s6 H locs ls hq; exact zz_none hq
    | succ n ih4 =>
      intro x4 x5 s6 H locs ls hq hB hl
      rw [zl3] at hq
      generalize zl3 (f_X2_shapesIn_L4 T N a0 x1) n = k4 at ih4 hq
      unfold f_X2_shapesIn_L4 at hq
      refine lv_iload_n hx hb dX2_shapesIn_4 rfl (lv_at hl 3 rfl) ?_
      refine lv_bipush (v := 20) hx hb dX2_shapesIn_5 (by decide) ?_
      refine zz_icmp_ge (tgt := 53) hx hb dX2_shapesIn_7 (by decide) hq (fun hq => ?_) (fun hq => ?_)
      · refine lv_iload_n hx hb dX2_shapesIn_53 rfl (lv_at hl 2 rfl) ?_
        exact zz_iret S hB hr hlocks dX2_shapesIn_54 hq
      · refine lv_aload_n hx hb dX2_shapesIn_10 rfl (lv_at hl 0 rfl) ?_
        refine zz_getR S hT hB (C := RX2) (ref := "DiagramDesk$Diagram") (F := TX2) (N := 4) (index := 12) 2 0 iwX2 rfl (by decide) (by decide) rfl rfl (wS wd_140) (fun _ h9 => h9) dX2_shapesIn_11 hq (fun a7 hq => ?_)
        refine lv_iload_n hx hb dX2_shapesIn_14 rfl (lv_at hl 3 rfl) ?_
        refine zz_callVq S hT hB (As := [.int x5]) (b := a7) (o := f_X7_find T N s6 a7 x5) (c_X7_find l D cy T hT ad N s6 _ a7 x5) (cwV 1 hts (gV wSub wd_160 wd_33 wd_34 wd_35 wd_36) rfl rfl rfl (by decide +kernel) ⟨Nat.le_of_ble_eq_true rfl, Nat.le_of_ble_eq_true rfl⟩) (F := TX7) (NF := 3) 7 rfl (by decide) (k_X7_find T N s6 a7 x5) rfl hl.1 rfl (Nat.le_of_ble_eq_true rfl) dX2_shapesIn_15 hq (fun s8 H locs hq hB => ?_) (fun a10 s8 H locs hq hB => ?_)
        · refine lv_astoreN (lv' := [(4, .null), (0, .ref (ad a0)), (1, .int x1), (2, .int x4), (3, .int x5)]) hx hb dX2_shapesIn_18 hl (by decide) rfl (fun ls hl => ?_)
          refine lv_aloadN hx hb dX2_shapesIn_20 (lv_at hl 0 rfl) ?_
          refine lv_ifnullN (tgt := 47) hx hb dX2_shapesIn_22 (by decide) ?_
          refine zz_nmV hq (fun x11 ex11 hq => ?_)
          refine lv_iinc (v := x11) (lv' := [(3, .int x11), (4, .null), (0, .ref (ad a0)), (1, .int x1), (2, .int x4)]) hx hb dX2_shapesIn_47 hl (k := 4) rfl (by rw [ex11]; rfl) (by decide) rfl (fun ls hl => ?_)
          refine lv_goto (tgt := 4) hx hb dX2_shapesIn_50 (by decide) ?_
          exact ih4 x4 x11 s8 _ _ _ hq hB (lv_sub hl [2, 3, 4, 0] rfl)
        · refine lv_astore (lv' := [(4, .ref (ad a10)), (0, .ref (ad a0)), (1, .int x1), (2, .int x4), (3, .int x5)]) hx hb dX2_shapesIn_18 hl (by decide) rfl (fun ls hl => ?_)
          refine lv_aload hx hb dX2_shapesIn_20 (lv_at hl 0 rfl) ?_
          refine lv_ifnull hx hb dX2_shapesIn_22 ?_
          refine lv_aload_n hx hb dX2_shapesIn_25 rfl (lv_at hl 1 rfl) ?_
          refine zz_getR S hT hB (C := RX2) (ref := "DiagramDesk$Diagram") (F := TX2) (N := 4) (index := 28) 2 2 iwX2 rfl (by decide) (by decide) rfl rfl (wS wd_150) (fun _ h9 => h9) dX2_shapesIn_26 hq (fun a12 hq => ?_)
          refine lv_aload hx hb dX2_shapesIn_29 (lv_at hl 0 rfl) ?_
          refine zz_get S hT hB (C := RX6) (ref := "DiagramDesk$Shape") (F := TX6) (N := 8) (index := 56) 6 7 iwX6 rfl (by decide) (by decide) rfl rfl (wS wd_161) (fun _ h9 => h9) dX2_shapesIn_31 hq (fun x13 hq => ?_)
          refine lv_iload_n hx hb dX2_shapesIn_34 rfl (lv_at hl 2 rfl) ?_
          refine zz_callVi S hT hB (As := [.int x13, .int x1]) (b := a12) (o := f_X3_isInside T N s8 a12 x13 x1) (c_X3_isInside l D cy T hT ad N s8 _ a12 x13 x1) (cwV 2 hts (gV wSub wd_162 wd_163 wd_164 wd_118 wd_165) rfl rfl rfl (by decide +kernel) ⟨Nat.le_of_ble_eq_true rfl, Nat.le_of_ble_eq_true rfl⟩) (F := TX3) (NF := 2) 3 rfl (by decide) (k_X3_isInside T N s8 a12 x13 x1) rfl hl.1 rfl (Nat.le_of_ble_eq_true rfl) dX2_shapesIn_35 hq (fun x15 s14 H locs hq hB => ?_)
          refine zz_if_eq (tgt := 47) hx hb dX2_shapesIn_38 (by decide) hq (fun hq => ?_) (fun hq => ?_)
          · refine zz_nmV hq (fun x16 ex16 hq => ?_)
            refine lv_iinc (v := x16) (lv' := [(3, .int x16), (4, .ref (ad a10)), (0, .ref (ad a0)), (1, .int x1), (2, .int x4)]) hx hb dX2_shapesIn_47 hl (k := 4) rfl (by rw [ex16]; rfl) (by decide) rfl (fun ls hl => ?_)
            refine lv_goto (tgt := 4) hx hb dX2_shapesIn_50 (by decide) ?_
            exact ih4 x4 x16 s14 _ _ _ hq hB (lv_sub hl [2, 3, 4, 0] rfl)
          · refine lv_iload_n hx hb dX2_shapesIn_41 rfl (lv_at hl 3 rfl) ?_
            refine lv_iconst (v := 1) hx hb dX2_shapesIn_42 (by decide) ?_
            refine lv_iload_n hx hb dX2_shapesIn_43 rfl (lv_at hl 4 rfl) ?_
            refine lv_ishl hx hb dX2_shapesIn_44 ?_
            refine lv_ior hx hb dX2_shapesIn_45 ?_
            refine zz_nmI hq (fun x17 hq => ?_)
            refine lv_istore_n (lv' := [(2, .int x17), (4, .ref (ad a10)), (0, .ref (ad a0)), (1, .int x1), (3, .int x5)]) hx hb dX2_shapesIn_46 rfl hl (by decide) rfl (fun ls hl => ?_)
            refine zz_nmV hq (fun x18 ex18 hq => ?_)
            refine lv_iinc (v := x18) (lv' := [(3, .int x18), (2, .int x17), (4, .ref (ad a10)), (0, .ref (ad a0)), (1, .int x1)]) hx hb dX2_shapesIn_47 hl (k := 4) rfl (by rw [ex18]; rfl) (by decide) rfl (fun ls hl => ?_)
            refine lv_goto (tgt := 4) hx hb dX2_shapesIn_50 (by decide) ?_
            exact ih4 x17 x18 s14 _ _ _ hq hB (lv_sub hl [3, 4, 1, 0] rfl)
  exact L4 N (0 : Int32) (0 : Int32) s0 _ _ _ hq hB (lv_sub hl [2, 3, 1, 0] rfl)
def f_X3_outermost_L4 (T : zT) (N : Nat) (a0 : Nat) (k4 : Int32 → Int32 → zS → Option (Int32 × zS)) (x4 : Int32) (x5 : Int32) (s6 : zS) : Option (Int32 × zS) :=
  if (8 : Int32) ≤ x5 then (
    some (x4, s6))
  else (
    zb2 (f_X3_homeOf T N s6 a0 x4) fun x8 s7 =>
    if x8 = (-1000000 : Int32) then (
      some (x4, s7))
    else (
      zb2 (f_X3_homeOf T N s7 a0 x4) fun x10 s9 =>
      zn (x5 + (1 : Int32)) fun x11 =>
      k4 x10 x11 s9))
def f_X3_outermost (T : zT) (N : Nat) (s0 : zS) (a0 : Nat) (x1 : Int32) : Option (Int32 × zS) :=
  zz1 (T.1 a0 = 3) <|
  zl3 (f_X3_outermost_L4 T N a0) N x1 (0 : Int32) s0
theorem k_X3_outermost (T : zT) (N : Nat) (s0 : zS) (a0 : Nat) (x1 : Int32) : ∀ q, f_X3_outermost T N s0 a0 x1 = some q → T.1 a0 = 3 := by
  intro q h
  unfold f_X3_outermost at h
  exact zz_guard h (fun h _ => h)
set_option maxHeartbeats 4000000 in
set_option maxRecDepth 100000 in
theorem c_X3_outermost (l : Launch) (D : va_G) (cy : Nat → ClassId) (T : zT) (hT : zok T) (ad : Nat → Nat) (N : Nat) (s0 : zS) (sz : Nat) (a0 : Nat) (x1 : Int32) : ∀ (r0 : Int32) (σ0 : zS), f_X3_outermost T N s0 a0 x1 = some (r0, σ0) → Met l yX3_outermost wsX3_outermost ({ frames := 2, cells := 0, slots := 0, locals := 42 }) (va_Pc [.ref (ad a0), .int x1] (zPre D cy T ad s0 sz)) (va_Qi (fun (r2 : Int32) (σ2 : zS) => r2 = r0 ∧ σ2 = σ0) (zAt D cy T ad (zA T ad sz)) (zA T ad sz)) 0 0 (zA T ad sz) := by
  intro r0 σ0 hq
  refine Met.ofW (cc := cX3_outermost) (maxL := 4) (ret := (some .int)) (by decide) rfl ?_
  intro p e s m args below meth c s₁ B hml hv
  obtain ⟨hargs, hsz, hP, hK, hD0, hN⟩ := hv
  have hx := B.exec
  have hb := B.bytes
  have hr := B.returns
  have hts := atoms_spec (ws := wsX3_outermost) B.pre
  have hown : s.vm.findClass RX3 = some m.cls := findClass_of_methodNamed B.named
  have hlocks := B.notSynchronized
  have S : CallFix p m c cX3_outermost 4 s args wsX3_outermost RX3 := ⟨hx, hb, hml, hown, hts⟩
  subst hsz
  have hB : zB D cy T ad (zA T ad s.heap.size) s.heap s0 s.heap [] s := zz_entry hP hK hD0 hN
  obtain ⟨ls, hent, hl⟩ := zz_ent m hargs (n := 4) (Nat.le_of_ble_eq_true rfl)
  rw [hent]
  have hl : lv_has ls 4 [(0, .ref (ad a0)), (1, .int x1)] := hl
  unfold f_X3_outermost at hq
  refine zz_guard hq (fun hk0 hq => ?_)
  refine lv_iload_n hx hb dX3_outermost_0 rfl (lv_at hl 1 rfl) ?_
  refine lv_istore_n (lv' := [(2, .int x1), (0, .ref (ad a0)), (1, .int x1)]) hx hb dX3_outermost_1 rfl hl (by decide) rfl (fun ls hl => ?_)
  refine lv_iconst (v := 0) hx hb dX3_outermost_2 (by decide) ?_
  refine lv_istore_n (lv' := [(3, .int (0 : Int32)), (2, .int x1), (0, .ref (ad a0)), (1, .int x1)]) hx hb dX3_outermost_3 rfl hl (by decide) rfl (fun ls hl => ?_)
  have L4 : ∀ (n : Nat) (x4 : Int32) (x5 : Int32) (s6 : zS) (H : Heap) (locs : List Loc) (ls : Array Slot), zl3 (f_X3_outermost_L4 T N a0) n x4 x5 s6 = some (r0, σ0) → zB D cy T ad (zA T ad s.heap.size) s.heap s6 H locs s → lv_has ls 4 [(0, .ref (ad a0)), (2, .int x4), (3, .int x5)] → W p l e (headSpec wsX3_outermost ({ frames := 2, cells := 0, slots := 0, locals := 42 } : Room)).room s m args below meth c H locs 0 0 (MQ below (va_Qi (fun (r2 : Int32) (σ2 : zS) => r2 = r0 ∧ σ2 = σ0) (zAt D cy T ad (zA T ad s.heap.size)) (zA T ad s.heap.size)) args s 0 0 (zA T ad s.heap.size)) (F0 m 4 ls []) := by
    intro n
    induction n with
    | zero => intro x4 x5 s6 H locs ls hq; exact zz_none hq
    | succ n ih4 =>
      intro x4 x5 s6 H locs ls hq hB hl
      rw [zl3] at hq
      generalize zl3 (f_X3_outermost_L4 T N a0) n = k4 at ih4 hq
      unfold f_X3_outermost_L4 at hq
      refine lv_iload_n hx hb dX3_outermost_4 rfl (lv_at hl 2 rfl) ?_
      refine lv_bipush (v := 8) hx hb dX3_outermost_5 (by decide) ?_
      refine zz_icmp_ge (tgt := 32) hx hb dX3_outermost_7 (by decide) hq (fun hq => ?_) (fun hq => ?_)
      · refine lv_iload_n hx hb dX3_outermost_32 rfl (lv_at hl 1 rfl) ?_
        exact zz_iret S hB hr hlocks dX3_outermost_33 hq
      · refine lv_aload_n hx hb dX3_outermost_10 rfl (lv_at hl 0 rfl) ?_
        refine lv_iload_n hx hb dX3_outermost_11 rfl (lv_at hl 1 rfl) ?_
        refine zz_callVi S hT hB (As := [.int x4]) (b := a0) (o := f_X3_homeOf T N s6 a0 x4) (c_X3_homeOf l D cy T hT ad N s6 _ a0 x4) (cwV 1 hts (gV wSub wd_122 wd_123 wd_124 wd_118 wd_125) rfl rfl rfl (by decide +kernel) ⟨Nat.le_of_ble_eq_true rfl, Nat.le_of_ble_eq_true rfl⟩) (F := TX3) (NF := 2) 3 rfl (by decide) (k_X3_homeOf T N s6 a0 x4) rfl hl.1 rfl (Nat.le_of_ble_eq_true rfl) dX3_outermost_12 hq (fun x8 s7 H locs hq hB => ?_)
        refine lv_ldc (v := -1000000) hx hb hown (hts _ (wS wd_120)) dX3_outermost_15 ?_
        refine zz_icmp_eq (tgt := 32) hx hb dX3_outermost_17 (by decide) hq (fun hq => ?_) (fun hq => ?_)
        · refine lv_iload_n hx hb dX3_outermost_32 rfl (lv_at hl 1 rfl) ?_
          exact zz_iret S hB hr hlocks dX3_outermost_33 hq
        · refine lv_aload_n hx hb dX3_outermost_20 rfl (lv_at hl 0 rfl) ?_
          refine lv_iload_n hx hb dX3_outermost_21 rfl (lv_at hl 1 rfl) ?_
          refine zz_callVi S hT hB (As := [.int x4]) (b := a0) (o := f_X3_homeOf T N s7 a0 x4) (c_X3_homeOf l D cy T hT ad N s7 _ a0 x4) (cwV 1 hts (gV wSub wd_122 wd_123 wd_124 wd_118 wd_125) rfl rfl rfl (by decide +kernel) ⟨Nat.le_of_ble_eq_true rfl, Nat.le_of_ble_eq_true rfl⟩) (F := TX3) (NF := 2) 3 rfl (by decide) (k_X3_homeOf T N s7 a0 x4) rfl hl.1 rfl (Nat.le_of_ble_eq_true rfl) dX3_outermost_22 hq (fun x10 s9 H locs hq hB => ?_)
          refine lv_istore_n (lv' := [(2, .int x10), (0, .ref (ad a0)), (3, .int x5)]) hx hb dX3_outermost_25 rfl hl (by decide) rfl (fun ls hl => ?_)
          refine zz_nmV hq (fun x11 ex11 hq => ?_)
          refine lv_iinc (v := x11) (lv' := [(3, .int x11), (2, .int x10), (0, .ref (ad a0))]) hx hb dX3_outermost_26 hl (k := 2) rfl (by rw [ex11]; rfl) (by decide) rfl (fun ls hl => ?_)
          refine lv_goto (tgt := 4) hx hb dX3_outermost_29 (by decide) ?_
          exact ih4 x10 x11 s9 _ _ _ hq hB (lv_sub hl [2, 1, 0] rfl)
  exact L4 N x1 (0 : Int32) s0 _ _ _ hq hB (lv_sub hl [2, 1, 0] rfl)
def f_X2_unitOf (T : zT) (N : Nat) (s0 : zS) (a0 : Nat) (x1 : Int32) (a2 : Nat) : Option (Int32 × zS) :=
  zz1 (T.1 a0 = 2) <|
  (gR T s0 a0 2 2).bind fun a5 =>
  (gI T s0 a2 6 7).bind fun x6 =>
  zb2 (f_X3_outermost T N s0 a5 x6) fun x8 s7 =>
  if ¬ x8 = (-1000000 : Int32) then (
    zb2 (f_X2_shapesIn T N s7 a0 x8) fun x10 s9 =>
    some (x10, s9))
  else (
    some ((1 : Int32) <<< (x1 &&& 31), s7))
theorem k_X2_unitOf (T : zT) (N : Nat) (s0 : zS) (a0 : Nat) (x1 : Int32) (a2 : Nat) : ∀ q, f_X2_unitOf T N s0 a0 x1 a2 = some q → T.1 a0 = 2 := by
  intro q h
  unfold f_X2_unitOf at h
  exact zz_guard h (fun h _ => h)
set_option maxHeartbeats 4000000 in
set_option maxRecDepth 100000 in
theorem c_X2_unitOf (l : Launch) (D : va_G) (cy : Nat → ClassId) (T : zT) (hT : zok T) (ad : Nat → Nat) (N : Nat) (s0 : zS) (sz : Nat) (a0 : Nat) (x1 : Int32) (a2 : Nat) : ∀ (r0 : Int32) (σ0 : zS), f_X2_unitOf T N s0 a0 x1 a2 = some (r0, σ0) → Met l yX2_unitOf wsX2_unitOf ({ frames := 4, cells := 0, slots := 0, locals := 90 }) (va_Pc [.ref (ad a0), .int x1, .ref (ad a2)] (zPre D cy T ad s0 sz)) (va_Qi (fun (r2 : Int32) (σ2 : zS) => r2 = r0 ∧ σ2 = σ0) (zAt D cy T ad (zA T ad sz)) (zA T ad sz)) 0 0 (zA T ad sz) := by
  intro r0 σ0 hq
  refine Met.ofW (cc := cX2_unitOf) (maxL := 4) (ret := (some .int)) (by decide) rfl ?_
  intro p e s m args below meth c s₁ B hml hv
  obtain ⟨hargs, hsz, hP, hK, hD0, hN⟩ := hv
  have hx := B.exec
  have hb := B.bytes
  have hr := B.returns
  have hts := atoms_spec (ws := wsX2_unitOf) B.pre
  have hown : s.vm.findClass RX2 = some m.cls := findClass_of_methodNamed B.named
  have hlocks := B.notSynchronized
  have S : CallFix p m c cX2_unitOf 4 s args wsX2_unitOf RX2 := ⟨hx, hb, hml, hown, hts⟩
  subst hsz
  have hB : zB D cy T ad (zA T ad s.heap.size) s.heap s0 s.heap [] s := zz_entry hP hK hD0 hN
  obtain ⟨ls, hent, hl⟩ := zz_ent m hargs (n := 4) (Nat.le_of_ble_eq_true rfl)
  rw [hent]
  have hl : lv_has ls 4 [(0, .ref (ad a0)), (1, .int x1), (2, .ref (ad a2))] := hl
  have iwX2 : ∀ w ∈ u_ws RX2 TX2 4, w ∈ wsX2_unitOf := fun w h => wS (inWX2 w h)
  have iwX6 : ∀ w ∈ u_ws RX6 TX6 8, w ∈ wsX2_unitOf := fun w h => wS (inWX6 w h)
  unfold f_X2_unitOf at hq
  refine zz_guard hq (fun hk0 hq => ?_)
  refine lv_aload_n hx hb dX2_unitOf_0 rfl (lv_at hl 0 rfl) ?_
  refine zz_getR S hT hB (C := RX2) (ref := "DiagramDesk$Diagram") (F := TX2) (N := 4) (index := 28) 2 2 iwX2 rfl (by decide) (by decide) rfl rfl (wS wd_150) (fun _ h9 => h9) dX2_unitOf_1 hq (fun a5 hq => ?_)
  refine lv_aload_n hx hb dX2_unitOf_4 rfl (lv_at hl 2 rfl) ?_
  refine zz_get S hT hB (C := RX6) (ref := "DiagramDesk$Shape") (F := TX6) (N := 8) (index := 56) 6 7 iwX6 rfl (by decide) (by decide) rfl rfl (wS wd_161) (fun _ h9 => h9) dX2_unitOf_5 hq (fun x6 hq => ?_)
  refine zz_callVi S hT hB (As := [.int x6]) (b := a5) (o := f_X3_outermost T N s0 a5 x6) (c_X3_outermost l D cy T hT ad N s0 _ a5 x6) (cwV 1 hts (gV wSub wd_166 wd_167 wd_168 wd_118 wd_169) rfl rfl rfl (by decide +kernel) ⟨Nat.le_of_ble_eq_true rfl, Nat.le_of_ble_eq_true rfl⟩) (F := TX3) (NF := 2) 3 rfl (by decide) (k_X3_outermost T N s0 a5 x6) rfl hl.1 rfl (Nat.le_of_ble_eq_true rfl) dX2_unitOf_8 hq (fun x8 s7 H locs hq hB => ?_)
  refine lv_istore_n (lv' := [(3, .int x8), (0, .ref (ad a0)), (1, .int x1), (2, .ref (ad a2))]) hx hb dX2_unitOf_11 rfl hl (by decide) rfl (fun ls hl => ?_)
  refine lv_iload_n hx hb dX2_unitOf_12 rfl (lv_at hl 0 rfl) ?_
  refine lv_ldc (v := -1000000) hx hb hown (hts _ (wS wd_170)) dX2_unitOf_13 ?_
  refine zz_icmp_ne (tgt := 24) hx hb dX2_unitOf_15 (by decide) hq (fun hq => ?_) (fun hq => ?_)
  · refine lv_aload_n hx hb dX2_unitOf_24 rfl (lv_at hl 1 rfl) ?_
    refine lv_iload_n hx hb dX2_unitOf_25 rfl (lv_at hl 0 rfl) ?_
    refine zz_callVi S hT hB (As := [.int x8]) (b := a0) (o := f_X2_shapesIn T N s7 a0 x8) (c_X2_shapesIn l D cy T hT ad N s7 _ a0 x8) (cwV 1 hts (gV wSub wd_171 wd_172 wd_173 wd_174 wd_175) rfl rfl rfl (by decide +kernel) ⟨Nat.le_of_ble_eq_true rfl, Nat.le_of_ble_eq_true rfl⟩) (F := TX2) (NF := 4) 2 rfl (by decide) (k_X2_shapesIn T N s7 a0 x8) rfl hl.1 rfl (Nat.le_of_ble_eq_true rfl) dX2_unitOf_26 hq (fun x10 s9 H locs hq hB => ?_)
    exact zz_iret S hB hr hlocks dX2_unitOf_29 hq
  · refine lv_iconst (v := 1) hx hb dX2_unitOf_18 (by decide) ?_
    refine lv_iload_n hx hb dX2_unitOf_19 rfl (lv_at hl 2 rfl) ?_
    refine lv_ishl hx hb dX2_unitOf_20 ?_
    refine lv_goto (tgt := 29) hx hb dX2_unitOf_21 (by decide) ?_
    exact zz_iret S hB hr hlocks dX2_unitOf_29 hq
def f_X7_count_L4 (T : zT) (N : Nat) (a0 : Nat) (k4 : Int32 → Int32 → zS → Option (Int32 × zS)) (x3 : Int32) (x4 : Int32) (s5 : zS) : Option (Int32 × zS) :=
  (gR T s5 a0 7 0).bind fun a6 =>
  (aL T a6 17).bind fun x7 =>
  if x7 ≤ x4 then (
    some (x3, s5))
  else (
    zb2 (f_X7_find T N s5 a0 x4) fun o9 s8 => zo o9 (
      zn (x4 + (1 : Int32)) fun x11 =>
      k4 x3 x11 s8)
    fun a10 => (
      zn (x3 + (1 : Int32)) fun x12 =>
      zn (x4 + (1 : Int32)) fun x13 =>
      k4 x12 x13 s8))
def f_X7_count (T : zT) (N : Nat) (s0 : zS) (a0 : Nat) : Option (Int32 × zS) :=
  zz1 (T.1 a0 = 7) <|
  zl3 (f_X7_count_L4 T N a0) N (0 : Int32) (0 : Int32) s0
theorem k_X7_count (T : zT) (N : Nat) (s0 : zS) (a0 : Nat) : ∀ q, f_X7_count T N s0 a0 = some q → T.1 a0 = 7 := by
  intro q h
  unfold f_X7_count at h
  exact zz_guard h (fun h _ => h)
set_option maxHeartbeats 4000000 in
set_option maxRecDepth 100000 in
theorem c_X7_count (l : Launch) (D : va_G) (cy : Nat → ClassId) (T : zT) (hT : zok T) (ad : Nat → Nat) (N : Nat) (s0 : zS) (sz : Nat) (a0 : Nat) : ∀ (r0 : Int32) (σ0 : zS), f_X7_count T N s0 a0 = some (r0, σ0) → Met l yX7_count wsX7_count ({ frames := 1, cells := 0, slots := 0, locals := 22 }) (va_Pc [.ref (ad a0)] (zPre D cy T ad s0 sz)) (va_Qi (fun (r2 : Int32) (σ2 : zS) => r2 = r0 ∧ σ2 = σ0) (zAt D cy T ad (zA T ad sz)) (zA T ad sz)) 0 0 (zA T ad sz) := by
  intro r0 σ0 hq
  refine Met.ofW (cc := cX7_count) (maxL := 3) (ret := (some .int)) (by decide) rfl ?_
  intro p e s m args below meth c s₁ B hml hv
  obtain ⟨hargs, hsz, hP, hK, hD0, hN⟩ := hv
  have hx := B.exec
  have hb := B.bytes
  have hr := B.returns
  have hts := atoms_spec (ws := wsX7_count) B.pre
  have hown : s.vm.findClass RX7 = some m.cls := findClass_of_methodNamed B.named
  have hlocks := B.notSynchronized
  have S : CallFix p m c cX7_count 3 s args wsX7_count RX7 := ⟨hx, hb, hml, hown, hts⟩
  subst hsz
  have hB : zB D cy T ad (zA T ad s.heap.size) s.heap s0 s.heap [] s := zz_entry hP hK hD0 hN
  obtain ⟨ls, hent, hl⟩ := zz_ent m hargs (n := 3) (Nat.le_of_ble_eq_true rfl)
  rw [hent]
  have hl : lv_has ls 3 [(0, .ref (ad a0))] := hl
  have iwX7 : ∀ w ∈ u_ws RX7 TX7 3, w ∈ wsX7_count := fun w h => wS (inWX7 w h)
  unfold f_X7_count at hq
  refine zz_guard hq (fun hk0 hq => ?_)
  refine lv_iconst (v := 0) hx hb dX7_count_0 (by decide) ?_
  refine lv_istore_n (lv' := [(1, .int (0 : Int32)), (0, .ref (ad a0))]) hx hb dX7_count_1 rfl hl (by decide) rfl (fun ls hl => ?_)
  refine lv_iconst (v := 0) hx hb dX7_count_2 (by decide) ?_
  refine lv_istore_n (lv' := [(2, .int (0 : Int32)), (1, .int (0 : Int32)), (0, .ref (ad a0))]) hx hb dX7_count_3 rfl hl (by decide) rfl (fun ls hl => ?_)
  have L4 : ∀ (n : Nat) (x3 : Int32) (x4 : Int32) (s5 : zS) (H : Heap) (locs : List Loc) (ls : Array Slot), zl3 (f_X7_count_L4 T N a0) n x3 x4 s5 = some (r0, σ0) → zB D cy T ad (zA T ad s.heap.size) s.heap s5 H locs s → lv_has ls 3 [(0, .ref (ad a0)), (1, .int x3), (2, .int x4)] → W p l e (headSpec wsX7_count ({ frames := 1, cells := 0, slots := 0, locals := 22 } : Room)).room s m args below meth c H locs 0 0 (MQ below (va_Qi (fun (r2 : Int32) (σ2 : zS) => r2 = r0 ∧ σ2 = σ0) (zAt D cy T ad (zA T ad s.heap.size)) (zA T ad s.heap.size)) args s 0 0 (zA T ad s.heap.size)) (F0 m 4 ls []) := by
    intro n
    induction n with
    | zero => intro x3 x4 s5 H locs ls hq; exact zz_none hq
    | succ n ih4 =>
      intro x3 x4 s5 H locs ls hq hB hl
      rw [zl3] at hq
      generalize zl3 (f_X7_count_L4 T N a0) n = k4 at ih4 hq
      unfold f_X7_count_L4 at hq
      refine lv_iload_n hx hb dX7_count_4 rfl (lv_at hl 2 rfl) ?_
      refine lv_aload_n hx hb dX7_count_5 rfl (lv_at hl 0 rfl) ?_
      refine zz_getR S hT hB (C := RX7) (ref := "DiagramDesk$Shapes") (F := TX7) (N := 3) (index := 11) 7 0 iwX7 rfl (by decide) (by decide) rfl rfl (wS wd_5) (fun _ h9 => h9) dX7_count_6 hq (fun a6 hq => ?_)
      refine zz_alen S hT hB 17 (by decide) (by decide) dX7_count_9 hq (fun x7 hq => ?_)
      refine zz_icmp_ge (tgt := 30) hx hb dX7_count_10 (by decide) hq (fun hq => ?_) (fun hq => ?_)
      · refine lv_iload_n hx hb dX7_count_30 rfl (lv_at hl 1 rfl) ?_
        exact zz_iret S hB hr hlocks dX7_count_31 hq
      · refine lv_aload_n hx hb dX7_count_13 rfl (lv_at hl 0 rfl) ?_
        refine lv_iload_n hx hb dX7_count_14 rfl (lv_at hl 2 rfl) ?_
        refine zz_callVq S hT hB (As := [.int x4]) (b := a0) (o := f_X7_find T N s5 a0 x4) (c_X7_find l D cy T hT ad N s5 _ a0 x4) (cwV 1 hts (gV wSub wd_176 wd_33 wd_34 wd_35 wd_36) rfl rfl rfl (by decide +kernel) ⟨Nat.le_of_ble_eq_true rfl, Nat.le_of_ble_eq_true rfl⟩) (F := TX7) (NF := 3) 7 rfl (by decide) (k_X7_find T N s5 a0 x4) rfl hl.1 rfl (Nat.le_of_ble_eq_true rfl) dX7_count_15 hq (fun s8 H locs hq hB => ?_) (fun a10 s8 H locs hq hB => ?_)
        · refine lv_ifnullN (tgt := 24) hx hb dX7_count_18 (by decide) ?_
          refine zz_nmV hq (fun x11 ex11 hq => ?_)
          refine lv_iinc (v := x11) (lv' := [(2, .int x11), (0, .ref (ad a0)), (1, .int x3)]) hx hb dX7_count_24 hl (k := 2) rfl (by rw [ex11]; rfl) (by decide) rfl (fun ls hl => ?_)
          refine lv_goto (tgt := 4) hx hb dX7_count_27 (by decide) ?_
          exact ih4 x3 x11 s8 _ _ _ hq hB (lv_sub hl [1, 2, 0] rfl)
        · refine lv_ifnull hx hb dX7_count_18 ?_
          refine zz_nmV hq (fun x12 ex12 hq => ?_)
          refine lv_iinc (v := x12) (lv' := [(1, .int x12), (0, .ref (ad a0)), (2, .int x4)]) hx hb dX7_count_21 hl (k := 1) rfl (by rw [ex12]; rfl) (by decide) rfl (fun ls hl => ?_)
          refine zz_nmV hq (fun x13 ex13 hq => ?_)
          refine lv_iinc (v := x13) (lv' := [(2, .int x13), (1, .int x12), (0, .ref (ad a0))]) hx hb dX7_count_24 hl (k := 2) rfl (by rw [ex13]; rfl) (by decide) rfl (fun ls hl => ?_)
          refine lv_goto (tgt := 4) hx hb dX7_count_27 (by decide) ?_
          exact ih4 x12 x13 s8 _ _ _ hq hB (lv_sub hl [2, 1, 0] rfl)
  exact L4 N (0 : Int32) (0 : Int32) s0 _ _ _ hq hB (lv_sub hl [2, 1, 0] rfl)
def f_X7_putAtDepth_J66 (T : zT) (N : Nat) (x2 : Int32) (x5 : Int32) (x6 : Int32) (k8 : Int32 → zS → Option zS) (s11 : zS) (a13 : Nat) : Option zS :=
  (gI T s11 a13 6 6).bind fun x16 =>
  if x2 < x16 then (
    zn (x6 + (1 : Int32)) fun x17 =>
    k8 x17 s11)
  else (
    (gI T s11 a13 6 6).bind fun x18 =>
    if x18 ≤ x5 then (
      zn (x6 + (1 : Int32)) fun x19 =>
      k8 x19 s11)
    else (
      (gI T s11 a13 6 6).bind fun x20 =>
      (pI T s11 a13 6 6 (x20 - (1 : Int32))).bind fun s21 =>
      zn (x6 + (1 : Int32)) fun x22 =>
      k8 x22 s21))
def f_X7_putAtDepth_L8 (T : zT) (N : Nat) (a0 : Nat) (a1 : Nat) (x2 : Int32) (x5 : Int32) (k8 : Int32 → zS → Option zS) (x6 : Int32) (s7 : zS) : Option zS :=
  (gR T s7 a0 7 0).bind fun a8 =>
  (aL T a8 17).bind fun x9 =>
  if x9 ≤ x6 then (
    (pI T s7 a1 6 6 x2).bind fun s10 =>
    some s10)
  else (
    zb2 (f_X7_find T N s7 a0 x6) fun o12 s11 => zo o12 (
      zn (x6 + (1 : Int32)) fun x14 =>
      k8 x14 s11)
    fun a13 => (
      (gI T s11 a13 6 6).bind fun x15 =>
      if x15 < x2 then (
        f_X7_putAtDepth_J66 T N x2 x5 x6 k8 s11 a13)
      else (
        (gI T s11 a13 6 6).bind fun x23 =>
        if x5 ≤ x23 then (
          f_X7_putAtDepth_J66 T N x2 x5 x6 k8 s11 a13)
        else (
          (gI T s11 a13 6 6).bind fun x24 =>
          (pI T s11 a13 6 6 (x24 + (1 : Int32))).bind fun s25 =>
          zn (x6 + (1 : Int32)) fun x26 =>
          k8 x26 s25))))
def f_X7_putAtDepth (T : zT) (N : Nat) (s0 : zS) (a0 : Nat) (a1 : Nat) (x2 : Int32) : Option zS :=
  zz1 (T.1 a0 = 7) <|
  (gI T s0 a1 6 6).bind fun x5 =>
  zl2 (f_X7_putAtDepth_L8 T N a0 a1 x2 x5) N (0 : Int32) s0
theorem k_X7_putAtDepth (T : zT) (N : Nat) (s0 : zS) (a0 : Nat) (a1 : Nat) (x2 : Int32) : ∀ q, f_X7_putAtDepth T N s0 a0 a1 x2 = some q → T.1 a0 = 7 := by
  intro q h
  unfold f_X7_putAtDepth at h
  exact zz_guard h (fun h _ => h)
set_option maxHeartbeats 4000000 in
set_option maxRecDepth 100000 in
theorem c_X7_putAtDepth (l : Launch) (D : va_G) (cy : Nat → ClassId) (T : zT) (hT : zok T) (ad : Nat → Nat) (N : Nat) (s0 : zS) (sz : Nat) (a0 : Nat) (a1 : Nat) (x2 : Int32) : ∀ (σ0 : zS), f_X7_putAtDepth T N s0 a0 a1 x2 = some σ0 → Met l yX7_putAtDepth wsX7_putAtDepth ({ frames := 1, cells := 0, slots := 0, locals := 22 }) (va_Pc [.ref (ad a0), .ref (ad a1), .int x2] (zPre D cy T ad s0 sz)) (va_Qv (fun σ2 : zS => σ2 = σ0) (zAt D cy T ad (zA T ad sz)) (zA T ad sz)) 0 0 (zA T ad sz) := by
  intro σ0 hq
  refine Met.ofW (cc := cX7_putAtDepth) (maxL := 6) (ret := none) (by decide) rfl ?_
  intro p e s m args below meth c s₁ B hml hv
  obtain ⟨hargs, hsz, hP, hK, hD0, hN⟩ := hv
  have hx := B.exec
  have hb := B.bytes
  have hr := B.returns
  have hts := atoms_spec (ws := wsX7_putAtDepth) B.pre
  have hown : s.vm.findClass RX7 = some m.cls := findClass_of_methodNamed B.named
  have hlocks := B.notSynchronized
  have S : CallFix p m c cX7_putAtDepth 6 s args wsX7_putAtDepth RX7 := ⟨hx, hb, hml, hown, hts⟩
  subst hsz
  have hB : zB D cy T ad (zA T ad s.heap.size) s.heap s0 s.heap [] s := zz_entry hP hK hD0 hN
  obtain ⟨ls, hent, hl⟩ := zz_ent m hargs (n := 6) (Nat.le_of_ble_eq_true rfl)
  rw [hent]
  have hl : lv_has ls 6 [(0, .ref (ad a0)), (1, .ref (ad a1)), (2, .int x2)] := hl
  have iwX6 : ∀ w ∈ u_ws RX6 TX6 8, w ∈ wsX7_putAtDepth := fun w h => wS (inWX6 w h)
  have iwX7 : ∀ w ∈ u_ws RX7 TX7 3, w ∈ wsX7_putAtDepth := fun w h => wS (inWX7 w h)
  unfold f_X7_putAtDepth at hq
  refine zz_guard hq (fun hk0 hq => ?_)
  refine lv_aload_n hx hb dX7_putAtDepth_0 rfl (lv_at hl 1 rfl) ?_
  refine zz_get S hT hB (C := RX6) (ref := "DiagramDesk$Shape") (F := TX6) (N := 8) (index := 56) 6 6 iwX6 rfl (by decide) (by decide) rfl rfl (wS wd_177) (fun _ h9 => h9) dX7_putAtDepth_1 hq (fun x5 hq => ?_)
  refine lv_istore_n (lv' := [(3, .int x5), (0, .ref (ad a0)), (1, .ref (ad a1)), (2, .int x2)]) hx hb dX7_putAtDepth_4 rfl hl (by decide) rfl (fun ls hl => ?_)
  refine lv_iconst (v := 0) hx hb dX7_putAtDepth_5 (by decide) ?_
  refine lv_istore (lv' := [(4, .int (0 : Int32)), (3, .int x5), (0, .ref (ad a0)), (1, .ref (ad a1)), (2, .int x2)]) hx hb dX7_putAtDepth_6 hl (by decide) rfl (fun ls hl => ?_)
  have L8 : ∀ (n : Nat) (x6 : Int32) (s7 : zS) (H : Heap) (locs : List Loc) (ls : Array Slot), zl2 (f_X7_putAtDepth_L8 T N a0 a1 x2 x5) n x6 s7 = some σ0 → zB D cy T ad (zA T ad s.heap.size) s.heap s7 H locs s → lv_has ls 6 [(0, .ref (ad a0)), (1, .ref (ad a1)), (2, .int x2), (3, .int x5), (4, .int x6)] → W p l e (headSpec wsX7_putAtDepth ({ frames := 1, cells := 0, slots := 0, locals := 22 } : Room)).room s m args below meth c H locs 0 0 (MQ below (va_Qv (fun σ2 : zS => σ2 = σ0) (zAt D cy T ad (zA T ad s.heap.size)) (zA T ad s.heap.size)) args s 0 0 (zA T ad s.heap.size)) (F0 m 8 ls []) := by
    intro n
    induction n with
    | zero => intro x6 s7 H locs ls hq; exact zz_none hq
    | succ n ih8 =>
      intro x6 s7 H locs ls hq hB hl
      rw [zl2] at hq
      generalize zl2 (f_X7_putAtDepth_L8 T N a0 a1 x2 x5) n = k8 at ih8 hq
      unfold f_X7_putAtDepth_L8 at hq
      refine lv_iload hx hb dX7_putAtDepth_8 (lv_at hl 4 rfl) ?_
      refine lv_aload_n hx hb dX7_putAtDepth_10 rfl (lv_at hl 0 rfl) ?_
      refine zz_getR S hT hB (C := RX7) (ref := "DiagramDesk$Shapes") (F := TX7) (N := 3) (index := 11) 7 0 iwX7 rfl (by decide) (by decide) rfl rfl (wS wd_5) (fun _ h9 => h9) dX7_putAtDepth_11 hq (fun a8 hq => ?_)
      refine zz_alen S hT hB 17 (by decide) (by decide) dX7_putAtDepth_14 hq (fun x9 hq => ?_)
      refine zz_icmp_ge (tgt := 101) hx hb dX7_putAtDepth_15 (by decide) hq (fun hq => ?_) (fun hq => ?_)
      · refine lv_aload_n hx hb dX7_putAtDepth_101 rfl (lv_at hl 1 rfl) ?_
        refine lv_iload_n hx hb dX7_putAtDepth_102 rfl (lv_at hl 2 rfl) ?_
        refine zz_put S hT hB (C := RX6) (ref := "DiagramDesk$Shape") (F := TX6) (N := 8) (index := 56) 6 6 iwX6 tyX6 tyX6_ok nmX6 rfl (by decide) (by decide) rfl rfl (wS wd_177) (fun _ h9 => h9) rfl (by decide +kernel) dX7_putAtDepth_103 hq (fun s10 H locs hq hB => ?_)
        exact zz_vret S hB hr hlocks dX7_putAtDepth_106 hq
      · refine lv_aload_n hx hb dX7_putAtDepth_18 rfl (lv_at hl 0 rfl) ?_
        refine lv_iload hx hb dX7_putAtDepth_19 (lv_at hl 4 rfl) ?_
        refine zz_callVq S hT hB (As := [.int x6]) (b := a0) (o := f_X7_find T N s7 a0 x6) (c_X7_find l D cy T hT ad N s7 _ a0 x6) (cwV 1 hts (gV wSub wd_176 wd_33 wd_34 wd_35 wd_36) rfl rfl rfl (by decide +kernel) ⟨Nat.le_of_ble_eq_true rfl, Nat.le_of_ble_eq_true rfl⟩) (F := TX7) (NF := 3) 7 rfl (by decide) (k_X7_find T N s7 a0 x6) rfl hl.1 rfl (Nat.le_of_ble_eq_true rfl) dX7_putAtDepth_21 hq (fun s11 H locs hq hB => ?_) (fun a13 s11 H locs hq hB => ?_)
        · refine lv_astoreN (lv' := [(5, .null), (0, .ref (ad a0)), (1, .ref (ad a1)), (2, .int x2), (3, .int x5), (4, .int x6)]) hx hb dX7_putAtDepth_24 hl (by decide) rfl (fun ls hl => ?_)
          refine lv_aloadN hx hb dX7_putAtDepth_26 (lv_at hl 0 rfl) ?_
          refine lv_ifnonnullN hx hb dX7_putAtDepth_28 ?_
          refine lv_goto (tgt := 95) hx hb dX7_putAtDepth_31 (by decide) ?_
          refine zz_nmV hq (fun x14 ex14 hq => ?_)
          refine lv_iinc (v := x14) (lv' := [(4, .int x14), (5, .null), (0, .ref (ad a0)), (1, .ref (ad a1)), (2, .int x2), (3, .int x5)]) hx hb dX7_putAtDepth_95 hl (k := 5) rfl (by rw [ex14]; rfl) (by decide) rfl (fun ls hl => ?_)
          refine lv_goto (tgt := 8) hx hb dX7_putAtDepth_98 (by decide) ?_
          exact ih8 x14 s11 _ _ _ hq hB (lv_sub hl [2, 3, 4, 5, 0] rfl)
        · refine lv_astore (lv' := [(5, .ref (ad a13)), (0, .ref (ad a0)), (1, .ref (ad a1)), (2, .int x2), (3, .int x5), (4, .int x6)]) hx hb dX7_putAtDepth_24 hl (by decide) rfl (fun ls hl => ?_)
          refine lv_aload hx hb dX7_putAtDepth_26 (lv_at hl 0 rfl) ?_
          refine lv_ifnonnull (tgt := 34) hx hb dX7_putAtDepth_28 (by decide) ?_
          refine lv_aload hx hb dX7_putAtDepth_34 (lv_at hl 0 rfl) ?_
          refine zz_get S hT hB (C := RX6) (ref := "DiagramDesk$Shape") (F := TX6) (N := 8) (index := 56) 6 6 iwX6 rfl (by decide) (by decide) rfl rfl (wS wd_177) (fun _ h9 => h9) dX7_putAtDepth_36 hq (fun x15 hq => ?_)
          refine lv_iload_n hx hb dX7_putAtDepth_39 rfl (lv_at hl 3 rfl) ?_
          have J66 : ∀ (H : Heap) (locs : List Loc) (ls : Array Slot), f_X7_putAtDepth_J66 T N x2 x5 x6 k8 s11 a13 = some σ0 → zB D cy T ad (zA T ad s.heap.size) s.heap s11 H locs s → lv_has ls 6 [(0, .ref (ad a0)), (1, .ref (ad a1)), (2, .int x2), (3, .int x5), (4, .int x6), (5, .ref (ad a13))] → W p l e (headSpec wsX7_putAtDepth ({ frames := 1, cells := 0, slots := 0, locals := 22 } : Room)).room s m args below meth c H locs 0 0 (MQ below (va_Qv (fun σ2 : zS => σ2 = σ0) (zAt D cy T ad (zA T ad s.heap.size)) (zA T ad s.heap.size)) args s 0 0 (zA T ad s.heap.size)) (F0 m 66 ls []) := by
            intro H locs ls hq hB hl
            unfold f_X7_putAtDepth_J66 at hq
            refine lv_aload hx hb dX7_putAtDepth_66 (lv_at hl 5 rfl) ?_
            refine zz_get S hT hB (C := RX6) (ref := "DiagramDesk$Shape") (F := TX6) (N := 8) (index := 56) 6 6 iwX6 rfl (by decide) (by decide) rfl rfl (wS wd_177) (fun _ h9 => h9) dX7_putAtDepth_68 hq (fun x16 hq => ?_)
            refine lv_iload_n hx hb dX7_putAtDepth_71 rfl (lv_at hl 2 rfl) ?_
            refine zz_icmp_gt (tgt := 95) hx hb dX7_putAtDepth_72 (by decide) hq (fun hq => ?_) (fun hq => ?_)
            · refine zz_nmV hq (fun x17 ex17 hq => ?_)
              refine lv_iinc (v := x17) (lv' := [(4, .int x17), (0, .ref (ad a0)), (1, .ref (ad a1)), (2, .int x2), (3, .int x5), (5, .ref (ad a13))]) hx hb dX7_putAtDepth_95 hl (k := 4) rfl (by rw [ex17]; rfl) (by decide) rfl (fun ls hl => ?_)
              refine lv_goto (tgt := 8) hx hb dX7_putAtDepth_98 (by decide) ?_
              exact ih8 x17 s11 _ _ _ hq hB (lv_sub hl [1, 2, 3, 4, 0] rfl)
            · refine lv_aload hx hb dX7_putAtDepth_75 (lv_at hl 5 rfl) ?_
              refine zz_get S hT hB (C := RX6) (ref := "DiagramDesk$Shape") (F := TX6) (N := 8) (index := 56) 6 6 iwX6 rfl (by decide) (by decide) rfl rfl (wS wd_177) (fun _ h9 => h9) dX7_putAtDepth_77 hq (fun x18 hq => ?_)
              refine lv_iload_n hx hb dX7_putAtDepth_80 rfl (lv_at hl 3 rfl) ?_
              refine zz_icmp_le (tgt := 95) hx hb dX7_putAtDepth_81 (by decide) hq (fun hq => ?_) (fun hq => ?_)
              · refine zz_nmV hq (fun x19 ex19 hq => ?_)
                refine lv_iinc (v := x19) (lv' := [(4, .int x19), (0, .ref (ad a0)), (1, .ref (ad a1)), (2, .int x2), (3, .int x5), (5, .ref (ad a13))]) hx hb dX7_putAtDepth_95 hl (k := 4) rfl (by rw [ex19]; rfl) (by decide) rfl (fun ls hl => ?_)
                refine lv_goto (tgt := 8) hx hb dX7_putAtDepth_98 (by decide) ?_
                exact ih8 x19 s11 _ _ _ hq hB (lv_sub hl [1, 2, 3, 4, 0] rfl)
              · refine lv_aload hx hb dX7_putAtDepth_84 (lv_at hl 5 rfl) ?_
                refine lv_dup hx hb dX7_putAtDepth_86 rfl ?_
                refine zz_get S hT hB (C := RX6) (ref := "DiagramDesk$Shape") (F := TX6) (N := 8) (index := 56) 6 6 iwX6 rfl (by decide) (by decide) rfl rfl (wS wd_177) (fun _ h9 => h9) dX7_putAtDepth_87 hq (fun x20 hq => ?_)
                refine lv_iconst (v := 1) hx hb dX7_putAtDepth_90 (by decide) ?_
                refine lv_isub hx hb dX7_putAtDepth_91 ?_
                refine zz_put S hT hB (C := RX6) (ref := "DiagramDesk$Shape") (F := TX6) (N := 8) (index := 56) 6 6 iwX6 tyX6 tyX6_ok nmX6 rfl (by decide) (by decide) rfl rfl (wS wd_177) (fun _ h9 => h9) rfl (by decide +kernel) dX7_putAtDepth_92 hq (fun s21 H locs hq hB => ?_)
                refine zz_nmV hq (fun x22 ex22 hq => ?_)
                refine lv_iinc (v := x22) (lv' := [(4, .int x22), (0, .ref (ad a0)), (1, .ref (ad a1)), (2, .int x2), (3, .int x5), (5, .ref (ad a13))]) hx hb dX7_putAtDepth_95 hl (k := 4) rfl (by rw [ex22]; rfl) (by decide) rfl (fun ls hl => ?_)
                refine lv_goto (tgt := 8) hx hb dX7_putAtDepth_98 (by decide) ?_
                exact ih8 x22 s21 _ _ _ hq hB (lv_sub hl [1, 2, 3, 4, 0] rfl)
          refine zz_icmp_lt (tgt := 66) hx hb dX7_putAtDepth_40 (by decide) hq (fun hq => ?_) (fun hq => ?_)
          · exact J66  _ _ _ hq hB (lv_sub hl [1, 2, 3, 4, 5, 0] rfl)
          · refine lv_aload hx hb dX7_putAtDepth_43 (lv_at hl 0 rfl) ?_
            refine zz_get S hT hB (C := RX6) (ref := "DiagramDesk$Shape") (F := TX6) (N := 8) (index := 56) 6 6 iwX6 rfl (by decide) (by decide) rfl rfl (wS wd_177) (fun _ h9 => h9) dX7_putAtDepth_45 hq (fun x23 hq => ?_)
            refine lv_iload_n hx hb dX7_putAtDepth_48 rfl (lv_at hl 4 rfl) ?_
            refine zz_icmp_ge (tgt := 66) hx hb dX7_putAtDepth_49 (by decide) hq (fun hq => ?_) (fun hq => ?_)
            · exact J66  _ _ _ hq hB (lv_sub hl [1, 2, 3, 4, 5, 0] rfl)
            · refine lv_aload hx hb dX7_putAtDepth_52 (lv_at hl 0 rfl) ?_
              refine lv_dup hx hb dX7_putAtDepth_54 rfl ?_
              refine zz_get S hT hB (C := RX6) (ref := "DiagramDesk$Shape") (F := TX6) (N := 8) (index := 56) 6 6 iwX6 rfl (by decide) (by decide) rfl rfl (wS wd_177) (fun _ h9 => h9) dX7_putAtDepth_55 hq (fun x24 hq => ?_)
              refine lv_iconst (v := 1) hx hb dX7_putAtDepth_58 (by decide) ?_
              refine lv_iadd hx hb dX7_putAtDepth_59 ?_
              refine zz_put S hT hB (C := RX6) (ref := "DiagramDesk$Shape") (F := TX6) (N := 8) (index := 56) 6 6 iwX6 tyX6 tyX6_ok nmX6 rfl (by decide) (by decide) rfl rfl (wS wd_177) (fun _ h9 => h9) rfl (by decide +kernel) dX7_putAtDepth_60 hq (fun s25 H locs hq hB => ?_)
              refine lv_goto (tgt := 95) hx hb dX7_putAtDepth_63 (by decide) ?_
              refine zz_nmV hq (fun x26 ex26 hq => ?_)
              refine lv_iinc (v := x26) (lv' := [(4, .int x26), (5, .ref (ad a13)), (0, .ref (ad a0)), (1, .ref (ad a1)), (2, .int x2), (3, .int x5)]) hx hb dX7_putAtDepth_95 hl (k := 5) rfl (by rw [ex26]; rfl) (by decide) rfl (fun ls hl => ?_)
              refine lv_goto (tgt := 8) hx hb dX7_putAtDepth_98 (by decide) ?_
              exact ih8 x26 s25 _ _ _ hq hB (lv_sub hl [2, 3, 4, 5, 0] rfl)
  exact L8 N (0 : Int32) s0 _ _ _ hq hB (lv_sub hl [2, 3, 4, 1, 0] rfl)
def f_X7_drop (T : zT) (N : Nat) (s0 : zS) (a0 : Nat) (x1 : Int32) : Option zS :=
  zz1 (T.1 a0 = 7) <|
  zb2 (f_X7_find T N s0 a0 x1) fun o5 s4 => zo o5 (
    some s4)
  fun a6 => (
    zb2 (f_X7_count T N s4 a0) fun x8 s7 =>
    (f_X7_putAtDepth T N s7 a0 a6 (x8 - (1 : Int32))).bind fun s9 =>
    (pZ T s9 a6 6 0 (0 : Int32)).bind fun s10 =>
    (gI T s10 a0 7 2).bind fun x11 =>
    (pI T s10 a0 7 2 (x11 &&& (((1 : Int32) <<< (x1 &&& 31)) ^^^ (-1 : Int32)))).bind fun s12 =>
    some s12)
theorem k_X7_drop (T : zT) (N : Nat) (s0 : zS) (a0 : Nat) (x1 : Int32) : ∀ q, f_X7_drop T N s0 a0 x1 = some q → T.1 a0 = 7 := by
  intro q h
  unfold f_X7_drop at h
  exact zz_guard h (fun h _ => h)
set_option maxHeartbeats 4000000 in
set_option maxRecDepth 100000 in
theorem c_X7_drop (l : Launch) (D : va_G) (cy : Nat → ClassId) (T : zT) (hT : zok T) (ad : Nat → Nat) (N : Nat) (s0 : zS) (sz : Nat) (a0 : Nat) (x1 : Int32) : ∀ (σ0 : zS), f_X7_drop T N s0 a0 x1 = some σ0 → Met l yX7_drop wsX7_drop ({ frames := 2, cells := 0, slots := 0, locals := 47 }) (va_Pc [.ref (ad a0), .int x1] (zPre D cy T ad s0 sz)) (va_Qv (fun σ2 : zS => σ2 = σ0) (zAt D cy T ad (zA T ad sz)) (zA T ad sz)) 0 0 (zA T ad sz) := by
  intro σ0 hq
  refine Met.ofW (cc := cX7_drop) (maxL := 3) (ret := none) (by decide) rfl ?_
  intro p e s m args below meth c s₁ B hml hv
  obtain ⟨hargs, hsz, hP, hK, hD0, hN⟩ := hv
  have hx := B.exec
  have hb := B.bytes
  have hr := B.returns
  have hts := atoms_spec (ws := wsX7_drop) B.pre
  have hown : s.vm.findClass RX7 = some m.cls := findClass_of_methodNamed B.named
  have hlocks := B.notSynchronized
  have S : CallFix p m c cX7_drop 3 s args wsX7_drop RX7 := ⟨hx, hb, hml, hown, hts⟩
  subst hsz
  have hB : zB D cy T ad (zA T ad s.heap.size) s.heap s0 s.heap [] s := zz_entry hP hK hD0 hN
  obtain ⟨ls, hent, hl⟩ := zz_ent m hargs (n := 3) (Nat.le_of_ble_eq_true rfl)
  rw [hent]
  have hl : lv_has ls 3 [(0, .ref (ad a0)), (1, .int x1)] := hl
  have iwX6 : ∀ w ∈ u_ws RX6 TX6 8, w ∈ wsX7_drop := fun w h => wS (inWX6 w h)
  have iwX7 : ∀ w ∈ u_ws RX7 TX7 3, w ∈ wsX7_drop := fun w h => wS (inWX7 w h)
  unfold f_X7_drop at hq
  refine zz_guard hq (fun hk0 hq => ?_)
  refine lv_aload_n hx hb dX7_drop_0 rfl (lv_at hl 0 rfl) ?_
  refine lv_iload_n hx hb dX7_drop_1 rfl (lv_at hl 1 rfl) ?_
  refine zz_callVq S hT hB (As := [.int x1]) (b := a0) (o := f_X7_find T N s0 a0 x1) (c_X7_find l D cy T hT ad N s0 _ a0 x1) (cwV 1 hts (gV wSub wd_176 wd_33 wd_34 wd_35 wd_36) rfl rfl rfl (by decide +kernel) ⟨Nat.le_of_ble_eq_true rfl, Nat.le_of_ble_eq_true rfl⟩) (F := TX7) (NF := 3) 7 rfl (by decide) (k_X7_find T N s0 a0 x1) rfl hl.1 rfl (Nat.le_of_ble_eq_true rfl) dX7_drop_2 hq (fun s4 H locs hq hB => ?_) (fun a6 s4 H locs hq hB => ?_)
  · refine lv_astore_nN (lv' := [(2, .null), (0, .ref (ad a0)), (1, .int x1)]) hx hb dX7_drop_5 rfl hl (by decide) rfl (fun ls hl => ?_)
    refine lv_aload_nN hx hb dX7_drop_6 rfl (lv_at hl 0 rfl) ?_
    refine lv_ifnullN (tgt := 40) hx hb dX7_drop_7 (by decide) ?_
    exact zz_vret S hB hr hlocks dX7_drop_40 hq
  · refine lv_astore_n (lv' := [(2, .ref (ad a6)), (0, .ref (ad a0)), (1, .int x1)]) hx hb dX7_drop_5 rfl hl (by decide) rfl (fun ls hl => ?_)
    refine lv_aload_n hx hb dX7_drop_6 rfl (lv_at hl 0 rfl) ?_
    refine lv_ifnull hx hb dX7_drop_7 ?_
    refine lv_aload_n hx hb dX7_drop_10 rfl (lv_at hl 1 rfl) ?_
    refine lv_aload_n hx hb dX7_drop_11 rfl (lv_at hl 0 rfl) ?_
    refine lv_aload_n hx hb dX7_drop_12 rfl (lv_at hl 1 rfl) ?_
    refine zz_callVi S hT hB (As := []) (b := a0) (o := f_X7_count T N s4 a0) (c_X7_count l D cy T hT ad N s4 _ a0) (cwV 0 hts (gV wSub wd_178 wd_179 wd_180 wd_35 wd_181) rfl rfl rfl (by decide +kernel) ⟨Nat.le_of_ble_eq_true rfl, Nat.le_of_ble_eq_true rfl⟩) (F := TX7) (NF := 3) 7 rfl (by decide) (k_X7_count T N s4 a0) rfl hl.1 rfl (Nat.le_of_ble_eq_true rfl) dX7_drop_13 hq (fun x8 s7 H locs hq hB => ?_)
    refine lv_iconst (v := 1) hx hb dX7_drop_16 (by decide) ?_
    refine lv_isub hx hb dX7_drop_17 ?_
    refine zz_callVv S hT hB (As := [.ref (ad a6), .int (x8 - (1 : Int32))]) (b := a0) (o := f_X7_putAtDepth T N s7 a0 a6 (x8 - (1 : Int32))) (c_X7_putAtDepth l D cy T hT ad N s7 _ a0 a6 (x8 - (1 : Int32))) (cwV 2 hts (gV wSub wd_182 wd_183 wd_184 wd_35 wd_185) rfl rfl rfl (by decide +kernel) ⟨Nat.le_of_ble_eq_true rfl, Nat.le_of_ble_eq_true rfl⟩) (F := TX7) (NF := 3) 7 rfl (by decide) (k_X7_putAtDepth T N s7 a0 a6 (x8 - (1 : Int32))) rfl hl.1 rfl (Nat.le_of_ble_eq_true rfl) dX7_drop_18 hq (fun s9 H locs hq hB => ?_)
    refine lv_aload_n hx hb dX7_drop_21 rfl (lv_at hl 0 rfl) ?_
    refine lv_iconst (v := 0) hx hb dX7_drop_22 (by decide) ?_
    refine zz_putZ S hT hB (C := RX6) (ref := "DiagramDesk$Shape") (F := TX6) (N := 8) (index := 29) 6 0 iwX6 tyX6 tyX6_ok nmX6 rfl (by decide) (by decide) rfl rfl (wS wd_6) (fun _ h9 => h9) rfl (by decide +kernel) dX7_drop_23 hq (fun s10 H locs hq hB => ?_)
    refine lv_aload_n hx hb dX7_drop_26 rfl (lv_at hl 1 rfl) ?_
    refine lv_dup hx hb dX7_drop_27 rfl ?_
    refine zz_get S hT hB (C := RX7) (ref := "DiagramDesk$Shapes") (F := TX7) (N := 3) (index := 26) 7 2 iwX7 rfl (by decide) (by decide) rfl rfl (wS wd_113) (fun _ h9 => h9) dX7_drop_28 hq (fun x11 hq => ?_)
    refine lv_iconst (v := 1) hx hb dX7_drop_31 (by decide) ?_
    refine lv_iload_n hx hb dX7_drop_32 rfl (lv_at hl 2 rfl) ?_
    refine lv_ishl hx hb dX7_drop_33 ?_
    refine lv_iconst (v := -1) hx hb dX7_drop_34 (by decide) ?_
    refine lv_ixor hx hb dX7_drop_35 ?_
    refine lv_iand hx hb dX7_drop_36 ?_
    refine zz_put S hT hB (C := RX7) (ref := "DiagramDesk$Shapes") (F := TX7) (N := 3) (index := 26) 7 2 iwX7 tyX7 tyX7_ok nmX7 rfl (by decide) (by decide) rfl rfl (wS wd_113) (fun _ h9 => h9) rfl (by decide +kernel) dX7_drop_37 hq (fun s12 H locs hq hB => ?_)
    exact zz_vret S hB hr hlocks dX7_drop_40 hq
def f_X3_drop (T : zT) (N : Nat) (s0 : zS) (a0 : Nat) (x1 : Int32) : Option zS :=
  zz1 (T.1 a0 = 3) <|
  (f_X3_put T N s0 a0 x1 (0 : Int32) (-1000000 : Int32)).bind fun s4 =>
  some s4
theorem k_X3_drop (T : zT) (N : Nat) (s0 : zS) (a0 : Nat) (x1 : Int32) : ∀ q, f_X3_drop T N s0 a0 x1 = some q → T.1 a0 = 3 := by
  intro q h
  unfold f_X3_drop at h
  exact zz_guard h (fun h _ => h)
set_option maxHeartbeats 4000000 in
set_option maxRecDepth 100000 in
theorem c_X3_drop (l : Launch) (D : va_G) (cy : Nat → ClassId) (T : zT) (hT : zok T) (ad : Nat → Nat) (N : Nat) (s0 : zS) (sz : Nat) (a0 : Nat) (x1 : Int32) : ∀ (σ0 : zS), f_X3_drop T N s0 a0 x1 = some σ0 → Met l yX3_drop wsX3_drop ({ frames := 1, cells := 0, slots := 0, locals := 23 }) (va_Pc [.ref (ad a0), .int x1] (zPre D cy T ad s0 sz)) (va_Qv (fun σ2 : zS => σ2 = σ0) (zAt D cy T ad (zA T ad sz)) (zA T ad sz)) 0 0 (zA T ad sz) := by
  intro σ0 hq
  refine Met.ofW (cc := cX3_drop) (maxL := 2) (ret := none) (by decide) rfl ?_
  intro p e s m args below meth c s₁ B hml hv
  obtain ⟨hargs, hsz, hP, hK, hD0, hN⟩ := hv
  have hx := B.exec
  have hb := B.bytes
  have hr := B.returns
  have hts := atoms_spec (ws := wsX3_drop) B.pre
  have hown : s.vm.findClass RX3 = some m.cls := findClass_of_methodNamed B.named
  have hlocks := B.notSynchronized
  have S : CallFix p m c cX3_drop 2 s args wsX3_drop RX3 := ⟨hx, hb, hml, hown, hts⟩
  subst hsz
  have hB : zB D cy T ad (zA T ad s.heap.size) s.heap s0 s.heap [] s := zz_entry hP hK hD0 hN
  obtain ⟨ls, hent, hl⟩ := zz_ent m hargs (n := 2) (Nat.le_of_ble_eq_true rfl)
  rw [hent]
  have hl : lv_has ls 2 [(0, .ref (ad a0)), (1, .int x1)] := hl
  unfold f_X3_drop at hq
  refine zz_guard hq (fun hk0 hq => ?_)
  refine lv_aload_n hx hb dX3_drop_0 rfl (lv_at hl 0 rfl) ?_
  refine lv_iload_n hx hb dX3_drop_1 rfl (lv_at hl 1 rfl) ?_
  refine lv_iconst (v := 0) hx hb dX3_drop_2 (by decide) ?_
  refine lv_ldc (v := -1000000) hx hb hown (hts _ (wS wd_120)) dX3_drop_3 ?_
  refine zz_callVv S hT hB (As := [.int x1, .int (0 : Int32), .int (-1000000 : Int32)]) (b := a0) (o := f_X3_put T N s0 a0 x1 (0 : Int32) (-1000000 : Int32)) (c_X3_put l D cy T hT ad N s0 _ a0 x1 (0 : Int32) (-1000000 : Int32)) (cwV 3 hts (gV wSub wd_126 wd_127 wd_128 wd_118 wd_129) rfl rfl rfl (by decide +kernel) ⟨Nat.le_of_ble_eq_true rfl, Nat.le_of_ble_eq_true rfl⟩) (F := TX3) (NF := 2) 3 rfl (by decide) (k_X3_put T N s0 a0 x1 (0 : Int32) (-1000000 : Int32)) rfl hl.1 rfl (Nat.le_of_ble_eq_true rfl) dX3_drop_5 hq (fun s4 H locs hq hB => ?_)
  exact zz_vret S hB hr hlocks dX3_drop_8 hq
def f_X2_dropShape_L10 (T : zT) (N : Nat) (a0 : Nat) (x1 : Int32) (k10 : Int32 → zS → Option (Int32 × zS)) (x6 : Int32) (s7 : zS) : Option (Int32 × zS) :=
  if (8 : Int32) ≤ x6 then (
    (gR T s7 a0 2 1).bind fun a8 =>
    zb2 (f_X1_dropAt T N s7 a8 x1) fun x10 s9 =>
    some (x10, s9))
  else (
    (gR T s7 a0 2 2).bind fun a11 =>
    zb2 (f_X3_has T N s7 a11 x6) fun x13 s12 =>
    if x13 = 0 then (
      zn (x6 + (1 : Int32)) fun x14 =>
      k10 x14 s12)
    else (
      zb2 (f_X2_shapesIn T N s12 a0 x6) fun x16 s15 =>
      if ¬ x16 = 0 then (
        zn (x6 + (1 : Int32)) fun x17 =>
        k10 x17 s15)
      else (
        (gR T s15 a0 2 2).bind fun a18 =>
        (f_X3_drop T N s15 a18 x6).bind fun s19 =>
        zn (x6 + (1 : Int32)) fun x20 =>
        k10 x20 s19)))
def f_X2_dropShape (T : zT) (N : Nat) (s0 : zS) (a0 : Nat) (x1 : Int32) : Option (Int32 × zS) :=
  zz1 (T.1 a0 = 2) <|
  (gR T s0 a0 2 0).bind fun a4 =>
  (f_X7_drop T N s0 a4 x1).bind fun s5 =>
  zl2 (f_X2_dropShape_L10 T N a0 x1) N (0 : Int32) s5
theorem k_X2_dropShape (T : zT) (N : Nat) (s0 : zS) (a0 : Nat) (x1 : Int32) : ∀ q, f_X2_dropShape T N s0 a0 x1 = some q → T.1 a0 = 2 := by
  intro q h
  unfold f_X2_dropShape at h
  exact zz_guard h (fun h _ => h)
set_option maxHeartbeats 4000000 in
set_option maxRecDepth 100000 in
theorem c_X2_dropShape (l : Launch) (D : va_G) (cy : Nat → ClassId) (T : zT) (hT : zok T) (ad : Nat → Nat) (N : Nat) (s0 : zS) (sz : Nat) (a0 : Nat) (x1 : Int32) : ∀ (r0 : Int32) (σ0 : zS), f_X2_dropShape T N s0 a0 x1 = some (r0, σ0) → Met l yX2_dropShape wsX2_dropShape ({ frames := 4, cells := 0, slots := 0, locals := 90 }) (va_Pc [.ref (ad a0), .int x1] (zPre D cy T ad s0 sz)) (va_Qi (fun (r2 : Int32) (σ2 : zS) => r2 = r0 ∧ σ2 = σ0) (zAt D cy T ad (zA T ad sz)) (zA T ad sz)) 0 0 (zA T ad sz) := by
  intro r0 σ0 hq
  refine Met.ofW (cc := cX2_dropShape) (maxL := 3) (ret := (some .int)) (by decide) rfl ?_
  intro p e s m args below meth c s₁ B hml hv
  obtain ⟨hargs, hsz, hP, hK, hD0, hN⟩ := hv
  have hx := B.exec
  have hb := B.bytes
  have hr := B.returns
  have hts := atoms_spec (ws := wsX2_dropShape) B.pre
  have hown : s.vm.findClass RX2 = some m.cls := findClass_of_methodNamed B.named
  have hlocks := B.notSynchronized
  have S : CallFix p m c cX2_dropShape 3 s args wsX2_dropShape RX2 := ⟨hx, hb, hml, hown, hts⟩
  subst hsz
  have hB : zB D cy T ad (zA T ad s.heap.size) s.heap s0 s.heap [] s := zz_entry hP hK hD0 hN
  obtain ⟨ls, hent, hl⟩ := zz_ent m hargs (n := 3) (Nat.le_of_ble_eq_true rfl)
  rw [hent]
  have hl : lv_has ls 3 [(0, .ref (ad a0)), (1, .int x1)] := hl
  have iwX2 : ∀ w ∈ u_ws RX2 TX2 4, w ∈ wsX2_dropShape := fun w h => wS (inWX2 w h)
  unfold f_X2_dropShape at hq
  refine zz_guard hq (fun hk0 hq => ?_)
  refine lv_aload_n hx hb dX2_dropShape_0 rfl (lv_at hl 0 rfl) ?_
  refine zz_getR S hT hB (C := RX2) (ref := "DiagramDesk$Diagram") (F := TX2) (N := 4) (index := 12) 2 0 iwX2 rfl (by decide) (by decide) rfl rfl (wS wd_140) (fun _ h9 => h9) dX2_dropShape_1 hq (fun a4 hq => ?_)
  refine lv_iload_n hx hb dX2_dropShape_4 rfl (lv_at hl 1 rfl) ?_
  refine zz_callVv S hT hB (As := [.int x1]) (b := a4) (o := f_X7_drop T N s0 a4 x1) (c_X7_drop l D cy T hT ad N s0 _ a4 x1) (cwV 1 hts (gV wSub wd_186 wd_187 wd_188 wd_35 wd_189) rfl rfl rfl (by decide +kernel) ⟨Nat.le_of_ble_eq_true rfl, Nat.le_of_ble_eq_true rfl⟩) (F := TX7) (NF := 3) 7 rfl (by decide) (k_X7_drop T N s0 a4 x1) rfl hl.1 rfl (Nat.le_of_ble_eq_true rfl) dX2_dropShape_5 hq (fun s5 H locs hq hB => ?_)
  refine lv_iconst (v := 0) hx hb dX2_dropShape_8 (by decide) ?_
  refine lv_istore_n (lv' := [(2, .int (0 : Int32)), (0, .ref (ad a0)), (1, .int x1)]) hx hb dX2_dropShape_9 rfl hl (by decide) rfl (fun ls hl => ?_)
  have L10 : ∀ (n : Nat) (x6 : Int32) (s7 : zS) (H : Heap) (locs : List Loc) (ls : Array Slot), zl2 (f_X2_dropShape_L10 T N a0 x1) n x6 s7 = some (r0, σ0) → zB D cy T ad (zA T ad s.heap.size) s.heap s7 H locs s → lv_has ls 3 [(0, .ref (ad a0)), (1, .int x1), (2, .int x6)] → W p l e (headSpec wsX2_dropShape ({ frames := 4, cells := 0, slots := 0, locals := 90 } : Room)).room s m args below meth c H locs 0 0 (MQ below (va_Qi (fun (r2 : Int32) (σ2 : zS) => r2 = r0 ∧ σ2 = σ0) (zAt D cy T ad (zA T ad s.heap.size)) (zA T ad s.heap.size)) args s 0 0 (zA T ad s.heap.size)) (F0 m 10 ls []) := by
    intro n
    induction n with
    | zero => intro x6 s7 H locs ls hq; exact zz_none hq
    | succ n ih10 =>
      intro x6 s7 H locs ls hq hB hl
      rw [zl2] at hq
      generalize zl2 (f_X2_dropShape_L10 T N a0 x1) n = k10 at ih10 hq
      unfold f_X2_dropShape_L10 at hq
      refine lv_iload_n hx hb dX2_dropShape_10 rfl (lv_at hl 2 rfl) ?_
      refine lv_bipush (v := 8) hx hb dX2_dropShape_11 (by decide) ?_
      refine zz_icmp_ge (tgt := 49) hx hb dX2_dropShape_13 (by decide) hq (fun hq => ?_) (fun hq => ?_)
      · refine lv_aload_n hx hb dX2_dropShape_49 rfl (lv_at hl 0 rfl) ?_
        refine zz_getR S hT hB (C := RX2) (ref := "DiagramDesk$Diagram") (F := TX2) (N := 4) (index := 21) 2 1 iwX2 rfl (by decide) (by decide) rfl rfl (wS wd_145) (fun _ h9 => h9) dX2_dropShape_50 hq (fun a8 hq => ?_)
        refine lv_iload_n hx hb dX2_dropShape_53 rfl (lv_at hl 1 rfl) ?_
        refine zz_callVi S hT hB (As := [.int x1]) (b := a8) (o := f_X1_dropAt T N s7 a8 x1) (c_X1_dropAt l D cy T hT ad N s7 _ a8 x1) (cwV 1 hts (gV wSub wd_190 wd_191 wd_192 wd_94 wd_193) rfl rfl rfl (by decide +kernel) ⟨Nat.le_of_ble_eq_true rfl, Nat.le_of_ble_eq_true rfl⟩) (F := TX1) (NF := 2) 1 rfl (by decide) (k_X1_dropAt T N s7 a8 x1) rfl hl.1 rfl (Nat.le_of_ble_eq_true rfl) dX2_dropShape_54 hq (fun x10 s9 H locs hq hB => ?_)
        exact zz_iret S hB hr hlocks dX2_dropShape_57 hq
      · refine lv_aload_n hx hb dX2_dropShape_16 rfl (lv_at hl 0 rfl) ?_
        refine zz_getR S hT hB (C := RX2) (ref := "DiagramDesk$Diagram") (F := TX2) (N := 4) (index := 28) 2 2 iwX2 rfl (by decide) (by decide) rfl rfl (wS wd_150) (fun _ h9 => h9) dX2_dropShape_17 hq (fun a11 hq => ?_)
        refine lv_iload_n hx hb dX2_dropShape_20 rfl (lv_at hl 2 rfl) ?_
        refine zz_callVi S hT hB (As := [.int x6]) (b := a11) (o := f_X3_has T N s7 a11 x6) (c_X3_has l D cy T hT ad N s7 _ a11 x6) (cwV 1 hts (gV wSub wd_194 wd_116 wd_117 wd_118 wd_119) rfl rfl rfl (by decide +kernel) ⟨Nat.le_of_ble_eq_true rfl, Nat.le_of_ble_eq_true rfl⟩) (F := TX3) (NF := 2) 3 rfl (by decide) (k_X3_has T N s7 a11 x6) rfl hl.1 rfl (Nat.le_of_ble_eq_true rfl) dX2_dropShape_21 hq (fun x13 s12 H locs hq hB => ?_)
        refine zz_if_eq (tgt := 43) hx hb dX2_dropShape_24 (by decide) hq (fun hq => ?_) (fun hq => ?_)
        · refine zz_nmV hq (fun x14 ex14 hq => ?_)
          refine lv_iinc (v := x14) (lv' := [(2, .int x14), (0, .ref (ad a0)), (1, .int x1)]) hx hb dX2_dropShape_43 hl (k := 2) rfl (by rw [ex14]; rfl) (by decide) rfl (fun ls hl => ?_)
          refine lv_goto (tgt := 10) hx hb dX2_dropShape_46 (by decide) ?_
          exact ih10 x14 s12 _ _ _ hq hB (lv_sub hl [1, 2, 0] rfl)
        · refine lv_aload_n hx hb dX2_dropShape_27 rfl (lv_at hl 0 rfl) ?_
          refine lv_iload_n hx hb dX2_dropShape_28 rfl (lv_at hl 2 rfl) ?_
          refine zz_callVi S hT hB (As := [.int x6]) (b := a0) (o := f_X2_shapesIn T N s12 a0 x6) (c_X2_shapesIn l D cy T hT ad N s12 _ a0 x6) (cwV 1 hts (gV wSub wd_171 wd_172 wd_173 wd_174 wd_175) rfl rfl rfl (by decide +kernel) ⟨Nat.le_of_ble_eq_true rfl, Nat.le_of_ble_eq_true rfl⟩) (F := TX2) (NF := 4) 2 rfl (by decide) (k_X2_shapesIn T N s12 a0 x6) rfl hl.1 rfl (Nat.le_of_ble_eq_true rfl) dX2_dropShape_29 hq (fun x16 s15 H locs hq hB => ?_)
          refine zz_if_ne (tgt := 43) hx hb dX2_dropShape_32 (by decide) hq (fun hq => ?_) (fun hq => ?_)
          · refine zz_nmV hq (fun x17 ex17 hq => ?_)
            refine lv_iinc (v := x17) (lv' := [(2, .int x17), (0, .ref (ad a0)), (1, .int x1)]) hx hb dX2_dropShape_43 hl (k := 2) rfl (by rw [ex17]; rfl) (by decide) rfl (fun ls hl => ?_)
            refine lv_goto (tgt := 10) hx hb dX2_dropShape_46 (by decide) ?_
            exact ih10 x17 s15 _ _ _ hq hB (lv_sub hl [1, 2, 0] rfl)
          · refine lv_aload_n hx hb dX2_dropShape_35 rfl (lv_at hl 0 rfl) ?_
            refine zz_getR S hT hB (C := RX2) (ref := "DiagramDesk$Diagram") (F := TX2) (N := 4) (index := 28) 2 2 iwX2 rfl (by decide) (by decide) rfl rfl (wS wd_150) (fun _ h9 => h9) dX2_dropShape_36 hq (fun a18 hq => ?_)
            refine lv_iload_n hx hb dX2_dropShape_39 rfl (lv_at hl 2 rfl) ?_
            refine zz_callVv S hT hB (As := [.int x6]) (b := a18) (o := f_X3_drop T N s15 a18 x6) (c_X3_drop l D cy T hT ad N s15 _ a18 x6) (cwV 1 hts (gV wSub wd_195 wd_196 wd_197 wd_118 wd_198) rfl rfl rfl (by decide +kernel) ⟨Nat.le_of_ble_eq_true rfl, Nat.le_of_ble_eq_true rfl⟩) (F := TX3) (NF := 2) 3 rfl (by decide) (k_X3_drop T N s15 a18 x6) rfl hl.1 rfl (Nat.le_of_ble_eq_true rfl) dX2_dropShape_40 hq (fun s19 H locs hq hB => ?_)
            refine zz_nmV hq (fun x20 ex20 hq => ?_)
            refine lv_iinc (v := x20) (lv' := [(2, .int x20), (0, .ref (ad a0)), (1, .int x1)]) hx hb dX2_dropShape_43 hl (k := 2) rfl (by rw [ex20]; rfl) (by decide) rfl (fun ls hl => ?_)
            refine lv_goto (tgt := 10) hx hb dX2_dropShape_46 (by decide) ?_
            exact ih10 x20 s19 _ _ _ hq hB (lv_sub hl [1, 2, 0] rfl)
  exact L10 N (0 : Int32) s5 _ _ _ hq hB (lv_sub hl [1, 2, 0] rfl)
def f_X3_add (T : zT) (N : Nat) (s0 : zS) (a0 : Nat) (x1 : Int32) : Option zS :=
  zz1 (T.1 a0 = 3) <|
  (f_X3_put T N s0 a0 x1 (1 : Int32) (-1000000 : Int32)).bind fun s4 =>
  some s4
theorem k_X3_add (T : zT) (N : Nat) (s0 : zS) (a0 : Nat) (x1 : Int32) : ∀ q, f_X3_add T N s0 a0 x1 = some q → T.1 a0 = 3 := by
  intro q h
  unfold f_X3_add at h
  exact zz_guard h (fun h _ => h)
set_option maxHeartbeats 4000000 in
set_option maxRecDepth 100000 in
theorem c_X3_add (l : Launch) (D : va_G) (cy : Nat → ClassId) (T : zT) (hT : zok T) (ad : Nat → Nat) (N : Nat) (s0 : zS) (sz : Nat) (a0 : Nat) (x1 : Int32) : ∀ (σ0 : zS), f_X3_add T N s0 a0 x1 = some σ0 → Met l yX3_add wsX3_add ({ frames := 1, cells := 0, slots := 0, locals := 23 }) (va_Pc [.ref (ad a0), .int x1] (zPre D cy T ad s0 sz)) (va_Qv (fun σ2 : zS => σ2 = σ0) (zAt D cy T ad (zA T ad sz)) (zA T ad sz)) 0 0 (zA T ad sz) := by
  intro σ0 hq
  refine Met.ofW (cc := cX3_add) (maxL := 2) (ret := none) (by decide) rfl ?_
  intro p e s m args below meth c s₁ B hml hv
  obtain ⟨hargs, hsz, hP, hK, hD0, hN⟩ := hv
  have hx := B.exec
  have hb := B.bytes
  have hr := B.returns
  have hts := atoms_spec (ws := wsX3_add) B.pre
  have hown : s.vm.findClass RX3 = some m.cls := findClass_of_methodNamed B.named
  have hlocks := B.notSynchronized
  have S : CallFix p m c cX3_add 2 s args wsX3_add RX3 := ⟨hx, hb, hml, hown, hts⟩
  subst hsz
  have hB : zB D cy T ad (zA T ad s.heap.size) s.heap s0 s.heap [] s := zz_entry hP hK hD0 hN
  obtain ⟨ls, hent, hl⟩ := zz_ent m hargs (n := 2) (Nat.le_of_ble_eq_true rfl)
  rw [hent]
  have hl : lv_has ls 2 [(0, .ref (ad a0)), (1, .int x1)] := hl
  unfold f_X3_add at hq
  refine zz_guard hq (fun hk0 hq => ?_)
  refine lv_aload_n hx hb dX3_add_0 rfl (lv_at hl 0 rfl) ?_
  refine lv_iload_n hx hb dX3_add_1 rfl (lv_at hl 1 rfl) ?_
  refine lv_iconst (v := 1) hx hb dX3_add_2 (by decide) ?_
  refine lv_ldc (v := -1000000) hx hb hown (hts _ (wS wd_120)) dX3_add_3 ?_
  refine zz_callVv S hT hB (As := [.int x1, .int (1 : Int32), .int (-1000000 : Int32)]) (b := a0) (o := f_X3_put T N s0 a0 x1 (1 : Int32) (-1000000 : Int32)) (c_X3_put l D cy T hT ad N s0 _ a0 x1 (1 : Int32) (-1000000 : Int32)) (cwV 3 hts (gV wSub wd_126 wd_127 wd_128 wd_118 wd_129) rfl rfl rfl (by decide +kernel) ⟨Nat.le_of_ble_eq_true rfl, Nat.le_of_ble_eq_true rfl⟩) (F := TX3) (NF := 2) 3 rfl (by decide) (k_X3_put T N s0 a0 x1 (1 : Int32) (-1000000 : Int32)) rfl hl.1 rfl (Nat.le_of_ble_eq_true rfl) dX3_add_5 hq (fun s4 H locs hq hB => ?_)
  exact zz_vret S hB hr hlocks dX3_add_8 hq
def f_X3_join (T : zT) (N : Nat) (s0 : zS) (a0 : Nat) (x1 : Int32) (x2 : Int32) : Option zS :=
  zz1 (T.1 a0 = 3) <|
  zb2 (f_X3_has T N s0 a0 x1) fun x6 s5 =>
  if x6 = 0 then (
    some s5)
  else (
    (f_X3_put T N s5 a0 x1 (1 : Int32) x2).bind fun s7 =>
    some s7)
theorem k_X3_join (T : zT) (N : Nat) (s0 : zS) (a0 : Nat) (x1 : Int32) (x2 : Int32) : ∀ q, f_X3_join T N s0 a0 x1 x2 = some q → T.1 a0 = 3 := by
  intro q h
  unfold f_X3_join at h
  exact zz_guard h (fun h _ => h)
set_option maxHeartbeats 4000000 in
set_option maxRecDepth 100000 in
theorem c_X3_join (l : Launch) (D : va_G) (cy : Nat → ClassId) (T : zT) (hT : zok T) (ad : Nat → Nat) (N : Nat) (s0 : zS) (sz : Nat) (a0 : Nat) (x1 : Int32) (x2 : Int32) : ∀ (σ0 : zS), f_X3_join T N s0 a0 x1 x2 = some σ0 → Met l yX3_join wsX3_join ({ frames := 1, cells := 0, slots := 0, locals := 23 }) (va_Pc [.ref (ad a0), .int x1, .int x2] (zPre D cy T ad s0 sz)) (va_Qv (fun σ2 : zS => σ2 = σ0) (zAt D cy T ad (zA T ad sz)) (zA T ad sz)) 0 0 (zA T ad sz) := by
  intro σ0 hq
  refine Met.ofW (cc := cX3_join) (maxL := 3) (ret := none) (by decide) rfl ?_
  intro p e s m args below meth c s₁ B hml hv
  obtain ⟨hargs, hsz, hP, hK, hD0, hN⟩ := hv
  have hx := B.exec
  have hb := B.bytes
  have hr := B.returns
  have hts := atoms_spec (ws := wsX3_join) B.pre
  have hown : s.vm.findClass RX3 = some m.cls := findClass_of_methodNamed B.named
  have hlocks := B.notSynchronized
  have S : CallFix p m c cX3_join 3 s args wsX3_join RX3 := ⟨hx, hb, hml, hown, hts⟩
  subst hsz
  have hB : zB D cy T ad (zA T ad s.heap.size) s.heap s0 s.heap [] s := zz_entry hP hK hD0 hN
  obtain ⟨ls, hent, hl⟩ := zz_ent m hargs (n := 3) (Nat.le_of_ble_eq_true rfl)
  rw [hent]
  have hl : lv_has ls 3 [(0, .ref (ad a0)), (1, .int x1), (2, .int x2)] := hl
  unfold f_X3_join at hq
  refine zz_guard hq (fun hk0 hq => ?_)
  refine lv_aload_n hx hb dX3_join_0 rfl (lv_at hl 0 rfl) ?_
  refine lv_iload_n hx hb dX3_join_1 rfl (lv_at hl 1 rfl) ?_
  refine zz_callVi S hT hB (As := [.int x1]) (b := a0) (o := f_X3_has T N s0 a0 x1) (c_X3_has l D cy T hT ad N s0 _ a0 x1) (cwV 1 hts (gV wSub wd_115 wd_116 wd_117 wd_118 wd_119) rfl rfl rfl (by decide +kernel) ⟨Nat.le_of_ble_eq_true rfl, Nat.le_of_ble_eq_true rfl⟩) (F := TX3) (NF := 2) 3 rfl (by decide) (k_X3_has T N s0 a0 x1) rfl hl.1 rfl (Nat.le_of_ble_eq_true rfl) dX3_join_2 hq (fun x6 s5 H locs hq hB => ?_)
  refine zz_if_eq (tgt := 15) hx hb dX3_join_5 (by decide) hq (fun hq => ?_) (fun hq => ?_)
  · exact zz_vret S hB hr hlocks dX3_join_15 hq
  · refine lv_aload_n hx hb dX3_join_8 rfl (lv_at hl 0 rfl) ?_
    refine lv_iload_n hx hb dX3_join_9 rfl (lv_at hl 1 rfl) ?_
    refine lv_iconst (v := 1) hx hb dX3_join_10 (by decide) ?_
    refine lv_iload_n hx hb dX3_join_11 rfl (lv_at hl 2 rfl) ?_
    refine zz_callVv S hT hB (As := [.int x1, .int (1 : Int32), .int x2]) (b := a0) (o := f_X3_put T N s5 a0 x1 (1 : Int32) x2) (c_X3_put l D cy T hT ad N s5 _ a0 x1 (1 : Int32) x2) (cwV 3 hts (gV wSub wd_126 wd_127 wd_128 wd_118 wd_129) rfl rfl rfl (by decide +kernel) ⟨Nat.le_of_ble_eq_true rfl, Nat.le_of_ble_eq_true rfl⟩) (F := TX3) (NF := 2) 3 rfl (by decide) (k_X3_put T N s5 a0 x1 (1 : Int32) x2) rfl hl.1 rfl (Nat.le_of_ble_eq_true rfl) dX3_join_12 hq (fun s7 H locs hq hB => ?_)
    exact zz_vret S hB hr hlocks dX3_join_15 hq
def f_X2_joinChosen_L10 (T : zT) (N : Nat) (a0 : Nat) (x1 : Int32) (k10 : Int32 → zS → Option zS) (x6 : Int32) (s7 : zS) : Option zS :=
  if (20 : Int32) ≤ x6 then (
    some s7)
  else (
    (gR T s7 a0 2 0).bind fun a8 =>
    zb2 (f_X7_find T N s7 a8 x6) fun o10 s9 => zo o10 (
      zn (x6 + (1 : Int32)) fun x12 =>
      k10 x12 s9)
    fun a11 => (
      (gR T s9 a0 2 0).bind fun a13 =>
      (gI T s9 a13 7 2).bind fun x14 =>
      zb2 (f_X11_hasBit T N s9 x14 x6) fun x16 s15 =>
      if ¬ x16 = 0 then (
        (gR T s15 a0 2 2).bind fun a17 =>
        (gI T s15 a11 6 7).bind fun x18 =>
        zb2 (f_X3_outermost T N s15 a17 x18) fun x20 s19 =>
        if ¬ x20 = (-1000000 : Int32) then (
          if x20 = x1 then (
            zn (x6 + (1 : Int32)) fun x21 =>
            k10 x21 s19)
          else (
            (gR T s19 a0 2 2).bind fun a22 =>
            (f_X3_join T N s19 a22 x20 x1).bind fun s23 =>
            zn (x6 + (1 : Int32)) fun x24 =>
            k10 x24 s23))
        else (
          (pI T s19 a11 6 7 x1).bind fun s25 =>
          zn (x6 + (1 : Int32)) fun x26 =>
          k10 x26 s25))
      else (
        zn (x6 + (1 : Int32)) fun x27 =>
        k10 x27 s15)))
def f_X2_joinChosen (T : zT) (N : Nat) (s0 : zS) (a0 : Nat) (x1 : Int32) : Option zS :=
  zz1 (T.1 a0 = 2) <|
  (gR T s0 a0 2 2).bind fun a4 =>
  (f_X3_add T N s0 a4 x1).bind fun s5 =>
  zl2 (f_X2_joinChosen_L10 T N a0 x1) N (0 : Int32) s5
theorem k_X2_joinChosen (T : zT) (N : Nat) (s0 : zS) (a0 : Nat) (x1 : Int32) : ∀ q, f_X2_joinChosen T N s0 a0 x1 = some q → T.1 a0 = 2 := by
  intro q h
  unfold f_X2_joinChosen at h
  exact zz_guard h (fun h _ => h)
set_option maxHeartbeats 4000000 in
set_option maxRecDepth 100000 in
theorem c_X2_joinChosen (l : Launch) (D : va_G) (cy : Nat → ClassId) (T : zT) (hT : zok T) (ad : Nat → Nat) (N : Nat) (s0 : zS) (sz : Nat) (a0 : Nat) (x1 : Int32) : ∀ (σ0 : zS), f_X2_joinChosen T N s0 a0 x1 = some σ0 → Met l yX2_joinChosen wsX2_joinChosen ({ frames := 3, cells := 0, slots := 0, locals := 65 }) (va_Pc [.ref (ad a0), .int x1] (zPre D cy T ad s0 sz)) (va_Qv (fun σ2 : zS => σ2 = σ0) (zAt D cy T ad (zA T ad sz)) (zA T ad sz)) 0 0 (zA T ad sz) := by
  intro σ0 hq
  refine Met.ofW (cc := cX2_joinChosen) (maxL := 5) (ret := none) (by decide) rfl ?_
  intro p e s m args below meth c s₁ B hml hv
  obtain ⟨hargs, hsz, hP, hK, hD0, hN⟩ := hv
  have hx := B.exec
  have hb := B.bytes
  have hr := B.returns
  have hts := atoms_spec (ws := wsX2_joinChosen) B.pre
  have hown : s.vm.findClass RX2 = some m.cls := findClass_of_methodNamed B.named
  have hlocks := B.notSynchronized
  have S : CallFix p m c cX2_joinChosen 5 s args wsX2_joinChosen RX2 := ⟨hx, hb, hml, hown, hts⟩
  subst hsz
  have hB : zB D cy T ad (zA T ad s.heap.size) s.heap s0 s.heap [] s := zz_entry hP hK hD0 hN
  obtain ⟨ls, hent, hl⟩ := zz_ent m hargs (n := 5) (Nat.le_of_ble_eq_true rfl)
  rw [hent]
  have hl : lv_has ls 5 [(0, .ref (ad a0)), (1, .int x1)] := hl
  have iwX2 : ∀ w ∈ u_ws RX2 TX2 4, w ∈ wsX2_joinChosen := fun w h => wS (inWX2 w h)
  have iwX7 : ∀ w ∈ u_ws RX7 TX7 3, w ∈ wsX2_joinChosen := fun w h => wS (inWX7 w h)
  have iwX6 : ∀ w ∈ u_ws RX6 TX6 8, w ∈ wsX2_joinChosen := fun w h => wS (inWX6 w h)
  unfold f_X2_joinChosen at hq
  refine zz_guard hq (fun hk0 hq => ?_)
  refine lv_aload_n hx hb dX2_joinChosen_0 rfl (lv_at hl 0 rfl) ?_
  refine zz_getR S hT hB (C := RX2) (ref := "DiagramDesk$Diagram") (F := TX2) (N := 4) (index := 28) 2 2 iwX2 rfl (by decide) (by decide) rfl rfl (wS wd_150) (fun _ h9 => h9) dX2_joinChosen_1 hq (fun a4 hq => ?_)
  refine lv_iload_n hx hb dX2_joinChosen_4 rfl (lv_at hl 1 rfl) ?_
  refine zz_callVv S hT hB (As := [.int x1]) (b := a4) (o := f_X3_add T N s0 a4 x1) (c_X3_add l D cy T hT ad N s0 _ a4 x1) (cwV 1 hts (gV wSub wd_199 wd_200 wd_201 wd_118 wd_202) rfl rfl rfl (by decide +kernel) ⟨Nat.le_of_ble_eq_true rfl, Nat.le_of_ble_eq_true rfl⟩) (F := TX3) (NF := 2) 3 rfl (by decide) (k_X3_add T N s0 a4 x1) rfl hl.1 rfl (Nat.le_of_ble_eq_true rfl) dX2_joinChosen_5 hq (fun s5 H locs hq hB => ?_)
  refine lv_iconst (v := 0) hx hb dX2_joinChosen_8 (by decide) ?_
  refine lv_istore_n (lv' := [(2, .int (0 : Int32)), (0, .ref (ad a0)), (1, .int x1)]) hx hb dX2_joinChosen_9 rfl hl (by decide) rfl (fun ls hl => ?_)
  have L10 : ∀ (n : Nat) (x6 : Int32) (s7 : zS) (H : Heap) (locs : List Loc) (ls : Array Slot), zl2 (f_X2_joinChosen_L10 T N a0 x1) n x6 s7 = some σ0 → zB D cy T ad (zA T ad s.heap.size) s.heap s7 H locs s → lv_has ls 5 [(0, .ref (ad a0)), (1, .int x1), (2, .int x6)] → W p l e (headSpec wsX2_joinChosen ({ frames := 3, cells := 0, slots := 0, locals := 65 } : Room)).room s m args below meth c H locs 0 0 (MQ below (va_Qv (fun σ2 : zS => σ2 = σ0) (zAt D cy T ad (zA T ad s.heap.size)) (zA T ad s.heap.size)) args s 0 0 (zA T ad s.heap.size)) (F0 m 10 ls []) := by
    intro n
    induction n with
    | zero => intro x6 s7 H locs ls hq; exact zz_none hq
    | succ n ih10 =>
      intro x6 s7 H locs ls hq hB hl
      rw [zl2] at hq
      generalize zl2 (f_X2_joinChosen_L10 T N a0 x1) n = k10 at ih10 hq
      unfold f_X2_joinChosen_L10 at hq
      refine lv_iload_n hx hb dX2_joinChosen_10 rfl (lv_at hl 2 rfl) ?_
      refine lv_bipush (v := 20) hx hb dX2_joinChosen_11 (by decide) ?_
      refine zz_icmp_ge (tgt := 96) hx hb dX2_joinChosen_13 (by decide) hq (fun hq => ?_) (fun hq => ?_)
      · exact zz_vret S hB hr hlocks dX2_joinChosen_96 hq
      · refine lv_aload_n hx hb dX2_joinChosen_16 rfl (lv_at hl 0 rfl) ?_
        refine zz_getR S hT hB (C := RX2) (ref := "DiagramDesk$Diagram") (F := TX2) (N := 4) (index := 12) 2 0 iwX2 rfl (by decide) (by decide) rfl rfl (wS wd_140) (fun _ h9 => h9) dX2_joinChosen_17 hq (fun a8 hq => ?_)
        refine lv_iload_n hx hb dX2_joinChosen_20 rfl (lv_at hl 2 rfl) ?_
        refine zz_callVq S hT hB (As := [.int x6]) (b := a8) (o := f_X7_find T N s7 a8 x6) (c_X7_find l D cy T hT ad N s7 _ a8 x6) (cwV 1 hts (gV wSub wd_160 wd_33 wd_34 wd_35 wd_36) rfl rfl rfl (by decide +kernel) ⟨Nat.le_of_ble_eq_true rfl, Nat.le_of_ble_eq_true rfl⟩) (F := TX7) (NF := 3) 7 rfl (by decide) (k_X7_find T N s7 a8 x6) rfl hl.1 rfl (Nat.le_of_ble_eq_true rfl) dX2_joinChosen_21 hq (fun s9 H locs hq hB => ?_) (fun a11 s9 H locs hq hB => ?_)
        · refine lv_astore_nN (lv' := [(3, .null), (0, .ref (ad a0)), (1, .int x1), (2, .int x6)]) hx hb dX2_joinChosen_24 rfl hl (by decide) rfl (fun ls hl => ?_)
          refine lv_aload_nN hx hb dX2_joinChosen_25 rfl (lv_at hl 0 rfl) ?_
          refine lv_ifnullN (tgt := 90) hx hb dX2_joinChosen_26 (by decide) ?_
          refine zz_nmV hq (fun x12 ex12 hq => ?_)
          refine lv_iinc (v := x12) (lv' := [(2, .int x12), (3, .null), (0, .ref (ad a0)), (1, .int x1)]) hx hb dX2_joinChosen_90 hl (k := 3) rfl (by rw [ex12]; rfl) (by decide) rfl (fun ls hl => ?_)
          refine lv_goto (tgt := 10) hx hb dX2_joinChosen_93 (by decide) ?_
          exact ih10 x12 s9 _ _ _ hq hB (lv_sub hl [2, 3, 0] rfl)
        · refine lv_astore_n (lv' := [(3, .ref (ad a11)), (0, .ref (ad a0)), (1, .int x1), (2, .int x6)]) hx hb dX2_joinChosen_24 rfl hl (by decide) rfl (fun ls hl => ?_)
          refine lv_aload_n hx hb dX2_joinChosen_25 rfl (lv_at hl 0 rfl) ?_
          refine lv_ifnull hx hb dX2_joinChosen_26 ?_
          refine lv_aload_n hx hb dX2_joinChosen_29 rfl (lv_at hl 1 rfl) ?_
          refine zz_getR S hT hB (C := RX2) (ref := "DiagramDesk$Diagram") (F := TX2) (N := 4) (index := 12) 2 0 iwX2 rfl (by decide) (by decide) rfl rfl (wS wd_140) (fun _ h9 => h9) dX2_joinChosen_30 hq (fun a13 hq => ?_)
          refine zz_get S hT hB (C := RX7) (ref := "DiagramDesk$Shapes") (F := TX7) (N := 3) (index := 89) 7 2 iwX7 rfl (by decide) (by decide) rfl rfl (wS wd_203) (fun _ h9 => h9) dX2_joinChosen_33 hq (fun x14 hq => ?_)
          refine lv_iload_n hx hb dX2_joinChosen_36 rfl (lv_at hl 3 rfl) ?_
          refine zz_callNi S hT hB (As := [.int x14, .int x6]) (o := f_X11_hasBit T N s9 x14 x6) (c_X11_hasBit l D cy T hT ad N s9 _ x14 x6) ⟨va_cnB (host := "DiagramDesk") 2 hts (gN wSub wd_101) rfl rfl rfl (zN_at hN 11 rfl) (hts _ (wS wd_102)) (by decide +kernel) ⟨Nat.le_of_ble_eq_true rfl, Nat.le_of_ble_eq_true rfl⟩, hts _ (wS wd_103), trivial⟩ rfl hl.1 rfl (Nat.le_of_ble_eq_true rfl) dX2_joinChosen_37 hq (fun x16 s15 H locs hq hB => ?_)
          refine zz_if_ne (tgt := 46) hx hb dX2_joinChosen_40 (by decide) hq (fun hq => ?_) (fun hq => ?_)
          · refine lv_aload_n hx hb dX2_joinChosen_46 rfl (lv_at hl 1 rfl) ?_
            refine zz_getR S hT hB (C := RX2) (ref := "DiagramDesk$Diagram") (F := TX2) (N := 4) (index := 28) 2 2 iwX2 rfl (by decide) (by decide) rfl rfl (wS wd_150) (fun _ h9 => h9) dX2_joinChosen_47 hq (fun a17 hq => ?_)
            refine lv_aload_n hx hb dX2_joinChosen_50 rfl (lv_at hl 0 rfl) ?_
            refine zz_get S hT hB (C := RX6) (ref := "DiagramDesk$Shape") (F := TX6) (N := 8) (index := 56) 6 7 iwX6 rfl (by decide) (by decide) rfl rfl (wS wd_161) (fun _ h9 => h9) dX2_joinChosen_51 hq (fun x18 hq => ?_)
            refine zz_callVi S hT hB (As := [.int x18]) (b := a17) (o := f_X3_outermost T N s15 a17 x18) (c_X3_outermost l D cy T hT ad N s15 _ a17 x18) (cwV 1 hts (gV wSub wd_166 wd_167 wd_168 wd_118 wd_169) rfl rfl rfl (by decide +kernel) ⟨Nat.le_of_ble_eq_true rfl, Nat.le_of_ble_eq_true rfl⟩) (F := TX3) (NF := 2) 3 rfl (by decide) (k_X3_outermost T N s15 a17 x18) rfl hl.1 rfl (Nat.le_of_ble_eq_true rfl) dX2_joinChosen_54 hq (fun x20 s19 H locs hq hB => ?_)
            refine lv_istore (lv' := [(4, .int x20), (3, .ref (ad a11)), (0, .ref (ad a0)), (1, .int x1), (2, .int x6)]) hx hb dX2_joinChosen_57 hl (by decide) rfl (fun ls hl => ?_)
            refine lv_iload hx hb dX2_joinChosen_59 (lv_at hl 0 rfl) ?_
            refine lv_ldc (v := -1000000) hx hb hown (hts _ (wS wd_170)) dX2_joinChosen_61 ?_
            refine zz_icmp_ne (tgt := 74) hx hb dX2_joinChosen_63 (by decide) hq (fun hq => ?_) (fun hq => ?_)
            · refine lv_iload hx hb dX2_joinChosen_74 (lv_at hl 0 rfl) ?_
              refine lv_iload_n hx hb dX2_joinChosen_76 rfl (lv_at hl 3 rfl) ?_
              refine zz_icmp_eq (tgt := 90) hx hb dX2_joinChosen_77 (by decide) hq (fun hq => ?_) (fun hq => ?_)
              · refine zz_nmV hq (fun x21 ex21 hq => ?_)
                refine lv_iinc (v := x21) (lv' := [(2, .int x21), (4, .int x20), (3, .ref (ad a11)), (0, .ref (ad a0)), (1, .int x1)]) hx hb dX2_joinChosen_90 hl (k := 4) rfl (by rw [ex21]; rfl) (by decide) rfl (fun ls hl => ?_)
                refine lv_goto (tgt := 10) hx hb dX2_joinChosen_93 (by decide) ?_
                exact ih10 x21 s19 _ _ _ hq hB (lv_sub hl [3, 4, 0] rfl)
              · refine lv_aload_n hx hb dX2_joinChosen_80 rfl (lv_at hl 2 rfl) ?_
                refine zz_getR S hT hB (C := RX2) (ref := "DiagramDesk$Diagram") (F := TX2) (N := 4) (index := 28) 2 2 iwX2 rfl (by decide) (by decide) rfl rfl (wS wd_150) (fun _ h9 => h9) dX2_joinChosen_81 hq (fun a22 hq => ?_)
                refine lv_iload hx hb dX2_joinChosen_84 (lv_at hl 0 rfl) ?_
                refine lv_iload_n hx hb dX2_joinChosen_86 rfl (lv_at hl 3 rfl) ?_
                refine zz_callVv S hT hB (As := [.int x20, .int x1]) (b := a22) (o := f_X3_join T N s19 a22 x20 x1) (c_X3_join l D cy T hT ad N s19 _ a22 x20 x1) (cwV 2 hts (gV wSub wd_204 wd_205 wd_206 wd_118 wd_207) rfl rfl rfl (by decide +kernel) ⟨Nat.le_of_ble_eq_true rfl, Nat.le_of_ble_eq_true rfl⟩) (F := TX3) (NF := 2) 3 rfl (by decide) (k_X3_join T N s19 a22 x20 x1) rfl hl.1 rfl (Nat.le_of_ble_eq_true rfl) dX2_joinChosen_87 hq (fun s23 H locs hq hB => ?_)
                refine zz_nmV hq (fun x24 ex24 hq => ?_)
                refine lv_iinc (v := x24) (lv' := [(2, .int x24), (4, .int x20), (3, .ref (ad a11)), (0, .ref (ad a0)), (1, .int x1)]) hx hb dX2_joinChosen_90 hl (k := 4) rfl (by rw [ex24]; rfl) (by decide) rfl (fun ls hl => ?_)
                refine lv_goto (tgt := 10) hx hb dX2_joinChosen_93 (by decide) ?_
                exact ih10 x24 s23 _ _ _ hq hB (lv_sub hl [3, 4, 0] rfl)
            · refine lv_aload_n hx hb dX2_joinChosen_66 rfl (lv_at hl 1 rfl) ?_
              refine lv_iload_n hx hb dX2_joinChosen_67 rfl (lv_at hl 3 rfl) ?_
              refine zz_put S hT hB (C := RX6) (ref := "DiagramDesk$Shape") (F := TX6) (N := 8) (index := 56) 6 7 iwX6 tyX6 tyX6_ok nmX6 rfl (by decide) (by decide) rfl rfl (wS wd_161) (fun _ h9 => h9) rfl (by decide +kernel) dX2_joinChosen_68 hq (fun s25 H locs hq hB => ?_)
              refine lv_goto (tgt := 90) hx hb dX2_joinChosen_71 (by decide) ?_
              refine zz_nmV hq (fun x26 ex26 hq => ?_)
              refine lv_iinc (v := x26) (lv' := [(2, .int x26), (4, .int x20), (3, .ref (ad a11)), (0, .ref (ad a0)), (1, .int x1)]) hx hb dX2_joinChosen_90 hl (k := 4) rfl (by rw [ex26]; rfl) (by decide) rfl (fun ls hl => ?_)
              refine lv_goto (tgt := 10) hx hb dX2_joinChosen_93 (by decide) ?_
              exact ih10 x26 s25 _ _ _ hq hB (lv_sub hl [3, 4, 0] rfl)
          · refine lv_goto (tgt := 90) hx hb dX2_joinChosen_43 (by decide) ?_
            refine zz_nmV hq (fun x27 ex27 hq => ?_)
            refine lv_iinc (v := x27) (lv' := [(2, .int x27), (3, .ref (ad a11)), (0, .ref (ad a0)), (1, .int x1)]) hx hb dX2_joinChosen_90 hl (k := 3) rfl (by rw [ex27]; rfl) (by decide) rfl (fun ls hl => ?_)
            refine lv_goto (tgt := 10) hx hb dX2_joinChosen_93 (by decide) ?_
            exact ih10 x27 s15 _ _ _ hq hB (lv_sub hl [2, 3, 0] rfl)
  exact L10 N (0 : Int32) s5 _ _ _ hq hB (lv_sub hl [1, 2, 0] rfl)
