def f_X2_endGroup_L64 (T : zT) (N : Nat) (a0 : Nat) (x1 : Int32) (x6 : Int32) (k64 : Int32 → Int32 → zS → Option (Int32 × zS)) (x10 : Int32) (x11 : Int32) (s12 : zS) : Option (Int32 × zS) :=
  if (8 : Int32) ≤ x11 then (
    (gR T s12 a0 2 2).bind fun a13 =>
    (f_X3_drop T N s12 a13 x1).bind fun s14 =>
    some (x10, s14))
  else (
    (gR T s12 a0 2 2).bind fun a15 =>
    zb2 (f_X3_homeOf T N s12 a15 x11) fun x17 s16 =>
    if ¬ x17 = x1 then (
      zn (x11 + (1 : Int32)) fun x18 =>
      k64 x10 x18 s16)
    else (
      (gR T s16 a0 2 2).bind fun a19 =>
      (f_X3_join T N s16 a19 x11 x6).bind fun s20 =>
      zn (x10 + (1 : Int32)) fun x21 =>
      zn (x11 + (1 : Int32)) fun x22 =>
      k64 x21 x22 s20))
def f_X2_endGroup_L14 (T : zT) (N : Nat) (a0 : Nat) (x1 : Int32) (x6 : Int32) (k14 : Int32 → Int32 → zS → Option (Int32 × zS)) (x7 : Int32) (x8 : Int32) (s9 : zS) : Option (Int32 × zS) :=
  if (20 : Int32) ≤ x8 then (
    zl3 (f_X2_endGroup_L64 T N a0 x1 x6) N x7 (0 : Int32) s9)
  else (
    (gR T s9 a0 2 0).bind fun a23 =>
    zb2 (f_X7_find T N s9 a23 x8) fun o25 s24 => zo o25 (
      zn (x8 + (1 : Int32)) fun x27 =>
      k14 x7 x27 s24)
    fun a26 => (
      (gI T s24 a26 6 7).bind fun x28 =>
      if ¬ x28 = x1 then (
        zn (x8 + (1 : Int32)) fun x29 =>
        k14 x7 x29 s24)
      else (
        (pI T s24 a26 6 7 x6).bind fun s30 =>
        zn (x7 + (1 : Int32)) fun x31 =>
        zn (x8 + (1 : Int32)) fun x32 =>
        k14 x31 x32 s30)))
def f_X2_endGroup (T : zT) (N : Nat) (s0 : zS) (a0 : Nat) (x1 : Int32) : Option (Int32 × zS) :=
  zz1 (T.1 a0 = 2) <|
  (gR T s0 a0 2 2).bind fun a4 =>
  zb2 (f_X3_homeOf T N s0 a4 x1) fun x6 s5 =>
  zl3 (f_X2_endGroup_L14 T N a0 x1 x6) N (0 : Int32) (0 : Int32) s5
theorem k_X2_endGroup (T : zT) (N : Nat) (s0 : zS) (a0 : Nat) (x1 : Int32) : ∀ q, f_X2_endGroup T N s0 a0 x1 = some q → T.1 a0 = 2 := by
  intro q h
  unfold f_X2_endGroup at h
  exact zz_guard h (fun h _ => h)
set_option maxHeartbeats 4000000 in
set_option maxRecDepth 100000 in
theorem c_X2_endGroup (l : Launch) (D : va_G) (cy : Nat → ClassId) (T : zT) (hT : zok T) (ad : Nat → Nat) (N : Nat) (s0 : zS) (sz : Nat) (a0 : Nat) (x1 : Int32) : ∀ (r0 : Int32) (σ0 : zS), f_X2_endGroup T N s0 a0 x1 = some (r0, σ0) → Met l yX2_endGroup wsX2_endGroup ({ frames := 2, cells := 0, slots := 0, locals := 45 }) (va_Pc [.ref (ad a0), .int x1] (zPre D cy T ad s0 sz)) (va_Qi (fun (r2 : Int32) (σ2 : zS) => r2 = r0 ∧ σ2 = σ0) (zAt D cy T ad (zA T ad sz)) (zA T ad sz)) 0 0 (zA T ad sz) := by
  intro r0 σ0 hq
  refine Met.ofW (cc := cX2_endGroup) (maxL := 6) (ret := (some .int)) (by decide) rfl ?_
  intro p e s m args below meth c s₁ B hml hv
  obtain ⟨hargs, hsz, hP, hK, hD0, hN⟩ := hv
  have hx := B.exec
  have hb := B.bytes
  have hr := B.returns
  have hts := atoms_spec (ws := wsX2_endGroup) B.pre
  have hown : s.vm.findClass RX2 = some m.cls := findClass_of_methodNamed B.named
  have hlocks := B.notSynchronized
  have S : CallFix p m c cX2_endGroup 6 s args wsX2_endGroup RX2 := ⟨hx, hb, hml, hown, hts⟩
  subst hsz
  have hB : zB D cy T ad (zA T ad s.heap.size) s.heap s0 s.heap [] s := zz_entry hP hK hD0 hN
  obtain ⟨ls, hent, hl⟩ := zz_ent m hargs (n := 6) (Nat.le_of_ble_eq_true rfl)
  rw [hent]
  have hl : lv_has ls 6 [(0, .ref (ad a0)), (1, .int x1)] := hl
  have iwX2 : ∀ w ∈ u_ws RX2 TX2 4, w ∈ wsX2_endGroup := fun w h => wS (inWX2 w h)
  have iwX6 : ∀ w ∈ u_ws RX6 TX6 8, w ∈ wsX2_endGroup := fun w h => wS (inWX6 w h)
  unfold f_X2_endGroup at hq
  refine zz_guard hq (fun hk0 hq => ?_)
  refine lv_aload_n hx hb dX2_endGroup_0 rfl (lv_at hl 0 rfl) ?_
  refine zz_getR S hT hB (C := RX2) (ref := "DiagramDesk$Diagram") (F := TX2) (N := 4) (index := 28) 2 2 iwX2 rfl (by decide) (by decide) rfl rfl (wS wd_150) (fun _ h9 => h9) dX2_endGroup_1 hq (fun a4 hq => ?_)
  refine lv_iload_n hx hb dX2_endGroup_4 rfl (lv_at hl 1 rfl) ?_
  refine zz_callVi S hT hB (As := [.int x1]) (b := a4) (o := f_X3_homeOf T N s0 a4 x1) (c_X3_homeOf l D cy T hT ad N s0 _ a4 x1) (cwV 1 hts (gV wSub wd_208 wd_123 wd_124 wd_118 wd_125) rfl rfl rfl (by decide +kernel) ⟨Nat.le_of_ble_eq_true rfl, Nat.le_of_ble_eq_true rfl⟩) (F := TX3) (NF := 2) 3 rfl (by decide) (k_X3_homeOf T N s0 a4 x1) rfl hl.1 rfl (Nat.le_of_ble_eq_true rfl) dX2_endGroup_5 hq (fun x6 s5 H locs hq hB => ?_)
  refine lv_istore_n (lv' := [(2, .int x6), (0, .ref (ad a0)), (1, .int x1)]) hx hb dX2_endGroup_8 rfl hl (by decide) rfl (fun ls hl => ?_)
  refine lv_iconst (v := 0) hx hb dX2_endGroup_9 (by decide) ?_
  refine lv_istore_n (lv' := [(3, .int (0 : Int32)), (2, .int x6), (0, .ref (ad a0)), (1, .int x1)]) hx hb dX2_endGroup_10 rfl hl (by decide) rfl (fun ls hl => ?_)
  refine lv_iconst (v := 0) hx hb dX2_endGroup_11 (by decide) ?_
  refine lv_istore (lv' := [(4, .int (0 : Int32)), (3, .int (0 : Int32)), (2, .int x6), (0, .ref (ad a0)), (1, .int x1)]) hx hb dX2_endGroup_12 hl (by decide) rfl (fun ls hl => ?_)
  have L14 : ∀ (n : Nat) (x7 : Int32) (x8 : Int32) (s9 : zS) (H : Heap) (locs : List Loc) (ls : Array Slot), zl3 (f_X2_endGroup_L14 T N a0 x1 x6) n x7 x8 s9 = some (r0, σ0) → zB D cy T ad (zA T ad s.heap.size) s.heap s9 H locs s → lv_has ls 6 [(0, .ref (ad a0)), (1, .int x1), (2, .int x6), (3, .int x7), (4, .int x8)] → W p l e (headSpec wsX2_endGroup ({ frames := 2, cells := 0, slots := 0, locals := 45 } : Room)).room s m args below meth c H locs 0 0 (MQ below (va_Qi (fun (r2 : Int32) (σ2 : zS) => r2 = r0 ∧ σ2 = σ0) (zAt D cy T ad (zA T ad s.heap.size)) (zA T ad s.heap.size)) args s 0 0 (zA T ad s.heap.size)) (F0 m 14 ls []) := by
    intro n
    induction n with
    | zero => intro x7 x8 s9 H locs ls hq; exact zz_none hq
    | succ n ih14 =>
      intro x7 x8 s9 H locs ls hq hB hl
      rw [zl3] at hq
      generalize zl3 (f_X2_endGroup_L14 T N a0 x1 x6) n = k14 at ih14 hq
      unfold f_X2_endGroup_L14 at hq
      refine lv_iload hx hb dX2_endGroup_14 (lv_at hl 4 rfl) ?_
      refine lv_bipush (v := 20) hx hb dX2_endGroup_16 (by decide) ?_
      refine zz_icmp_ge (tgt := 61) hx hb dX2_endGroup_18 (by decide) hq (fun hq => ?_) (fun hq => ?_)
      · refine lv_iconst (v := 0) hx hb dX2_endGroup_61 (by decide) ?_
        refine lv_istore (lv' := [(4, .int (0 : Int32)), (0, .ref (ad a0)), (1, .int x1), (2, .int x6), (3, .int x7)]) hx hb dX2_endGroup_62 hl (by decide) rfl (fun ls hl => ?_)
        have L64 : ∀ (n : Nat) (x10 : Int32) (x11 : Int32) (s12 : zS) (H : Heap) (locs : List Loc) (ls : Array Slot), zl3 (f_X2_endGroup_L64 T N a0 x1 x6) n x10 x11 s12 = some (r0, σ0) → zB D cy T ad (zA T ad s.heap.size) s.heap s12 H locs s → lv_has ls 6 [(0, .ref (ad a0)), (1, .int x1), (2, .int x6), (3, .int x10), (4, .int x11)] → W p l e (headSpec wsX2_endGroup ({ frames := 2, cells := 0, slots := 0, locals := 45 } : Room)).room s m args below meth c H locs 0 0 (MQ below (va_Qi (fun (r2 : Int32) (σ2 : zS) => r2 = r0 ∧ σ2 = σ0) (zAt D cy T ad (zA T ad s.heap.size)) (zA T ad s.heap.size)) args s 0 0 (zA T ad s.heap.size)) (F0 m 64 ls []) := by
          intro n
          induction n with
          | zero => intro x10 x11 s12 H locs ls hq; exact zz_none hq
          | succ n ih64 =>
            intro x10 x11 s12 H locs ls hq hB hl
            rw [zl3] at hq
            generalize zl3 (f_X2_endGroup_L64 T N a0 x1 x6) n = k64 at ih64 hq
            unfold f_X2_endGroup_L64 at hq
            refine lv_iload hx hb dX2_endGroup_64 (lv_at hl 4 rfl) ?_
            refine lv_bipush (v := 8) hx hb dX2_endGroup_66 (by decide) ?_
            refine zz_icmp_ge (tgt := 103) hx hb dX2_endGroup_68 (by decide) hq (fun hq => ?_) (fun hq => ?_)
            · refine lv_aload_n hx hb dX2_endGroup_103 rfl (lv_at hl 0 rfl) ?_
              refine zz_getR S hT hB (C := RX2) (ref := "DiagramDesk$Diagram") (F := TX2) (N := 4) (index := 28) 2 2 iwX2 rfl (by decide) (by decide) rfl rfl (wS wd_150) (fun _ h9 => h9) dX2_endGroup_104 hq (fun a13 hq => ?_)
              refine lv_iload_n hx hb dX2_endGroup_107 rfl (lv_at hl 1 rfl) ?_
              refine zz_callVv S hT hB (As := [.int x1]) (b := a13) (o := f_X3_drop T N s12 a13 x1) (c_X3_drop l D cy T hT ad N s12 _ a13 x1) (cwV 1 hts (gV wSub wd_195 wd_196 wd_197 wd_118 wd_198) rfl rfl rfl (by decide +kernel) ⟨Nat.le_of_ble_eq_true rfl, Nat.le_of_ble_eq_true rfl⟩) (F := TX3) (NF := 2) 3 rfl (by decide) (k_X3_drop T N s12 a13 x1) rfl hl.1 rfl (Nat.le_of_ble_eq_true rfl) dX2_endGroup_108 hq (fun s14 H locs hq hB => ?_)
              refine lv_iload_n hx hb dX2_endGroup_111 rfl (lv_at hl 3 rfl) ?_
              exact zz_iret S hB hr hlocks dX2_endGroup_112 hq
            · refine lv_aload_n hx hb dX2_endGroup_71 rfl (lv_at hl 0 rfl) ?_
              refine zz_getR S hT hB (C := RX2) (ref := "DiagramDesk$Diagram") (F := TX2) (N := 4) (index := 28) 2 2 iwX2 rfl (by decide) (by decide) rfl rfl (wS wd_150) (fun _ h9 => h9) dX2_endGroup_72 hq (fun a15 hq => ?_)
              refine lv_iload hx hb dX2_endGroup_75 (lv_at hl 4 rfl) ?_
              refine zz_callVi S hT hB (As := [.int x11]) (b := a15) (o := f_X3_homeOf T N s12 a15 x11) (c_X3_homeOf l D cy T hT ad N s12 _ a15 x11) (cwV 1 hts (gV wSub wd_208 wd_123 wd_124 wd_118 wd_125) rfl rfl rfl (by decide +kernel) ⟨Nat.le_of_ble_eq_true rfl, Nat.le_of_ble_eq_true rfl⟩) (F := TX3) (NF := 2) 3 rfl (by decide) (k_X3_homeOf T N s12 a15 x11) rfl hl.1 rfl (Nat.le_of_ble_eq_true rfl) dX2_endGroup_77 hq (fun x17 s16 H locs hq hB => ?_)
              refine lv_iload_n hx hb dX2_endGroup_80 rfl (lv_at hl 1 rfl) ?_
              refine zz_icmp_ne (tgt := 97) hx hb dX2_endGroup_81 (by decide) hq (fun hq => ?_) (fun hq => ?_)
              · refine zz_nmV hq (fun x18 ex18 hq => ?_)
                refine lv_iinc (v := x18) (lv' := [(4, .int x18), (0, .ref (ad a0)), (1, .int x1), (2, .int x6), (3, .int x10)]) hx hb dX2_endGroup_97 hl (k := 4) rfl (by rw [ex18]; rfl) (by decide) rfl (fun ls hl => ?_)
                refine lv_goto (tgt := 64) hx hb dX2_endGroup_100 (by decide) ?_
                exact ih64 x10 x18 s16 _ _ _ hq hB (lv_sub hl [1, 2, 3, 4, 0] rfl)
              · refine lv_aload_n hx hb dX2_endGroup_84 rfl (lv_at hl 0 rfl) ?_
                refine zz_getR S hT hB (C := RX2) (ref := "DiagramDesk$Diagram") (F := TX2) (N := 4) (index := 28) 2 2 iwX2 rfl (by decide) (by decide) rfl rfl (wS wd_150) (fun _ h9 => h9) dX2_endGroup_85 hq (fun a19 hq => ?_)
                refine lv_iload hx hb dX2_endGroup_88 (lv_at hl 4 rfl) ?_
                refine lv_iload_n hx hb dX2_endGroup_90 rfl (lv_at hl 2 rfl) ?_
                refine zz_callVv S hT hB (As := [.int x11, .int x6]) (b := a19) (o := f_X3_join T N s16 a19 x11 x6) (c_X3_join l D cy T hT ad N s16 _ a19 x11 x6) (cwV 2 hts (gV wSub wd_204 wd_205 wd_206 wd_118 wd_207) rfl rfl rfl (by decide +kernel) ⟨Nat.le_of_ble_eq_true rfl, Nat.le_of_ble_eq_true rfl⟩) (F := TX3) (NF := 2) 3 rfl (by decide) (k_X3_join T N s16 a19 x11 x6) rfl hl.1 rfl (Nat.le_of_ble_eq_true rfl) dX2_endGroup_91 hq (fun s20 H locs hq hB => ?_)
                refine zz_nmV hq (fun x21 ex21 hq => ?_)
                refine lv_iinc (v := x21) (lv' := [(3, .int x21), (0, .ref (ad a0)), (1, .int x1), (2, .int x6), (4, .int x11)]) hx hb dX2_endGroup_94 hl (k := 3) rfl (by rw [ex21]; rfl) (by decide) rfl (fun ls hl => ?_)
                refine zz_nmV hq (fun x22 ex22 hq => ?_)
                refine lv_iinc (v := x22) (lv' := [(4, .int x22), (3, .int x21), (0, .ref (ad a0)), (1, .int x1), (2, .int x6)]) hx hb dX2_endGroup_97 hl (k := 4) rfl (by rw [ex22]; rfl) (by decide) rfl (fun ls hl => ?_)
                refine lv_goto (tgt := 64) hx hb dX2_endGroup_100 (by decide) ?_
                exact ih64 x21 x22 s20 _ _ _ hq hB (lv_sub hl [2, 3, 4, 1, 0] rfl)
        exact L64 N x7 (0 : Int32) s9 _ _ _ hq hB (lv_sub hl [1, 2, 3, 4, 0] rfl)
      · refine lv_aload_n hx hb dX2_endGroup_21 rfl (lv_at hl 0 rfl) ?_
        refine zz_getR S hT hB (C := RX2) (ref := "DiagramDesk$Diagram") (F := TX2) (N := 4) (index := 12) 2 0 iwX2 rfl (by decide) (by decide) rfl rfl (wS wd_140) (fun _ h9 => h9) dX2_endGroup_22 hq (fun a23 hq => ?_)
        refine lv_iload hx hb dX2_endGroup_25 (lv_at hl 4 rfl) ?_
        refine zz_callVq S hT hB (As := [.int x8]) (b := a23) (o := f_X7_find T N s9 a23 x8) (c_X7_find l D cy T hT ad N s9 _ a23 x8) (cwV 1 hts (gV wSub wd_160 wd_33 wd_34 wd_35 wd_36) rfl rfl rfl (by decide +kernel) ⟨Nat.le_of_ble_eq_true rfl, Nat.le_of_ble_eq_true rfl⟩) (F := TX7) (NF := 3) 7 rfl (by decide) (k_X7_find T N s9 a23 x8) rfl hl.1 rfl (Nat.le_of_ble_eq_true rfl) dX2_endGroup_27 hq (fun s24 H locs hq hB => ?_) (fun a26 s24 H locs hq hB => ?_)
        · refine lv_astoreN (lv' := [(5, .null), (0, .ref (ad a0)), (1, .int x1), (2, .int x6), (3, .int x7), (4, .int x8)]) hx hb dX2_endGroup_30 hl (by decide) rfl (fun ls hl => ?_)
          refine lv_aloadN hx hb dX2_endGroup_32 (lv_at hl 0 rfl) ?_
          refine lv_ifnullN (tgt := 55) hx hb dX2_endGroup_34 (by decide) ?_
          refine zz_nmV hq (fun x27 ex27 hq => ?_)
          refine lv_iinc (v := x27) (lv' := [(4, .int x27), (5, .null), (0, .ref (ad a0)), (1, .int x1), (2, .int x6), (3, .int x7)]) hx hb dX2_endGroup_55 hl (k := 5) rfl (by rw [ex27]; rfl) (by decide) rfl (fun ls hl => ?_)
          refine lv_goto (tgt := 14) hx hb dX2_endGroup_58 (by decide) ?_
          exact ih14 x7 x27 s24 _ _ _ hq hB (lv_sub hl [2, 3, 4, 5, 0] rfl)
        · refine lv_astore (lv' := [(5, .ref (ad a26)), (0, .ref (ad a0)), (1, .int x1), (2, .int x6), (3, .int x7), (4, .int x8)]) hx hb dX2_endGroup_30 hl (by decide) rfl (fun ls hl => ?_)
          refine lv_aload hx hb dX2_endGroup_32 (lv_at hl 0 rfl) ?_
          refine lv_ifnull hx hb dX2_endGroup_34 ?_
          refine lv_aload hx hb dX2_endGroup_37 (lv_at hl 0 rfl) ?_
          refine zz_get S hT hB (C := RX6) (ref := "DiagramDesk$Shape") (F := TX6) (N := 8) (index := 56) 6 7 iwX6 rfl (by decide) (by decide) rfl rfl (wS wd_161) (fun _ h9 => h9) dX2_endGroup_39 hq (fun x28 hq => ?_)
          refine lv_iload_n hx hb dX2_endGroup_42 rfl (lv_at hl 2 rfl) ?_
          refine zz_icmp_ne (tgt := 55) hx hb dX2_endGroup_43 (by decide) hq (fun hq => ?_) (fun hq => ?_)
          · refine zz_nmV hq (fun x29 ex29 hq => ?_)
            refine lv_iinc (v := x29) (lv' := [(4, .int x29), (5, .ref (ad a26)), (0, .ref (ad a0)), (1, .int x1), (2, .int x6), (3, .int x7)]) hx hb dX2_endGroup_55 hl (k := 5) rfl (by rw [ex29]; rfl) (by decide) rfl (fun ls hl => ?_)
            refine lv_goto (tgt := 14) hx hb dX2_endGroup_58 (by decide) ?_
            exact ih14 x7 x29 s24 _ _ _ hq hB (lv_sub hl [2, 3, 4, 5, 0] rfl)
          · refine lv_aload hx hb dX2_endGroup_46 (lv_at hl 0 rfl) ?_
            refine lv_iload_n hx hb dX2_endGroup_48 rfl (lv_at hl 3 rfl) ?_
            refine zz_put S hT hB (C := RX6) (ref := "DiagramDesk$Shape") (F := TX6) (N := 8) (index := 56) 6 7 iwX6 tyX6 tyX6_ok nmX6 rfl (by decide) (by decide) rfl rfl (wS wd_161) (fun _ h9 => h9) rfl (by decide +kernel) dX2_endGroup_49 hq (fun s30 H locs hq hB => ?_)
            refine zz_nmV hq (fun x31 ex31 hq => ?_)
            refine lv_iinc (v := x31) (lv' := [(3, .int x31), (5, .ref (ad a26)), (0, .ref (ad a0)), (1, .int x1), (2, .int x6), (4, .int x8)]) hx hb dX2_endGroup_52 hl (k := 4) rfl (by rw [ex31]; rfl) (by decide) rfl (fun ls hl => ?_)
            refine zz_nmV hq (fun x32 ex32 hq => ?_)
            refine lv_iinc (v := x32) (lv' := [(4, .int x32), (3, .int x31), (5, .ref (ad a26)), (0, .ref (ad a0)), (1, .int x1), (2, .int x6)]) hx hb dX2_endGroup_55 hl (k := 5) rfl (by rw [ex32]; rfl) (by decide) rfl (fun ls hl => ?_)
            refine lv_goto (tgt := 14) hx hb dX2_endGroup_58 (by decide) ?_
            exact ih14 x31 x32 s30 _ _ _ hq hB (lv_sub hl [3, 4, 5, 1, 0] rfl)
  exact L14 N (0 : Int32) (0 : Int32) s5 _ _ _ hq hB (lv_sub hl [3, 4, 2, 1, 0] rfl)
def f_X3_firstFree_L2 (T : zT) (N : Nat) (s0 : zS) (a0 : Nat) (k2 : Int32 → Option (Int32 × zS)) (x3 : Int32) : Option (Int32 × zS) :=
  (gR T s0 a0 3 0).bind fun a4 =>
  (aL T a4 14).bind fun x5 =>
  if x5 ≤ x3 then (
    some ((-1000000 : Int32), s0))
  else (
    (gR T s0 a0 3 0).bind fun a6 =>
    (aI T s0 a6 14 x3).bind fun x7 =>
    if ¬ x7 = 0 then (
      zn (x3 + (1 : Int32)) fun x8 =>
      k2 x8)
    else (
      some (x3, s0)))
def f_X3_firstFree (T : zT) (N : Nat) (s0 : zS) (a0 : Nat) : Option (Int32 × zS) :=
  zz1 (T.1 a0 = 3) <|
  zl1 (f_X3_firstFree_L2 T N s0 a0) N (0 : Int32)
theorem k_X3_firstFree (T : zT) (N : Nat) (s0 : zS) (a0 : Nat) : ∀ q, f_X3_firstFree T N s0 a0 = some q → T.1 a0 = 3 := by
  intro q h
  unfold f_X3_firstFree at h
  exact zz_guard h (fun h _ => h)
set_option maxHeartbeats 4000000 in
set_option maxRecDepth 100000 in
theorem c_X3_firstFree (l : Launch) (D : va_G) (cy : Nat → ClassId) (T : zT) (hT : zok T) (ad : Nat → Nat) (N : Nat) (s0 : zS) (sz : Nat) (a0 : Nat) : ∀ (r0 : Int32) (σ0 : zS), f_X3_firstFree T N s0 a0 = some (r0, σ0) → Met l yX3_firstFree wsX3_firstFree ({ frames := 0, cells := 0, slots := 0, locals := 0 }) (va_Pc [.ref (ad a0)] (zPre D cy T ad s0 sz)) (va_Qi (fun (r2 : Int32) (σ2 : zS) => r2 = r0 ∧ σ2 = σ0) (zAt D cy T ad (zA T ad sz)) (zA T ad sz)) 0 0 (zA T ad sz) := by
  intro r0 σ0 hq
  refine Met.ofW (cc := cX3_firstFree) (maxL := 2) (ret := (some .int)) (by decide) rfl ?_
  intro p e s m args below meth c s₁ B hml hv
  obtain ⟨hargs, hsz, hP, hK, hD0, hN⟩ := hv
  have hx := B.exec
  have hb := B.bytes
  have hr := B.returns
  have hts := atoms_spec (ws := wsX3_firstFree) B.pre
  have hown : s.vm.findClass RX3 = some m.cls := findClass_of_methodNamed B.named
  have hlocks := B.notSynchronized
  have S : CallFix p m c cX3_firstFree 2 s args wsX3_firstFree RX3 := ⟨hx, hb, hml, hown, hts⟩
  subst hsz
  have hB : zB D cy T ad (zA T ad s.heap.size) s.heap s0 s.heap [] s := zz_entry hP hK hD0 hN
  obtain ⟨ls, hent, hl⟩ := zz_ent m hargs (n := 2) (Nat.le_of_ble_eq_true rfl)
  rw [hent]
  have hl : lv_has ls 2 [(0, .ref (ad a0))] := hl
  have iwX3 : ∀ w ∈ u_ws RX3 TX3 2, w ∈ wsX3_firstFree := fun w h => wS (inWX3 w h)
  unfold f_X3_firstFree at hq
  refine zz_guard hq (fun hk0 hq => ?_)
  refine lv_iconst (v := 0) hx hb dX3_firstFree_0 (by decide) ?_
  refine lv_istore_n (lv' := [(1, .int (0 : Int32)), (0, .ref (ad a0))]) hx hb dX3_firstFree_1 rfl hl (by decide) rfl (fun ls hl => ?_)
  have L2 : ∀ (n : Nat) (x3 : Int32) (H : Heap) (locs : List Loc) (ls : Array Slot), zl1 (f_X3_firstFree_L2 T N s0 a0) n x3 = some (r0, σ0) → zB D cy T ad (zA T ad s.heap.size) s.heap s0 H locs s → lv_has ls 2 [(0, .ref (ad a0)), (1, .int x3)] → W p l e (headSpec wsX3_firstFree ({ frames := 0, cells := 0, slots := 0, locals := 0 } : Room)).room s m args below meth c H locs 0 0 (MQ below (va_Qi (fun (r2 : Int32) (σ2 : zS) => r2 = r0 ∧ σ2 = σ0) (zAt D cy T ad (zA T ad s.heap.size)) (zA T ad s.heap.size)) args s 0 0 (zA T ad s.heap.size)) (F0 m 2 ls []) := by
    intro n
    induction n with
    | zero => intro x3 H locs ls hq; exact zz_none hq
    | succ n ih2 =>
      intro x3 H locs ls hq hB hl
      rw [zl1] at hq
      generalize zl1 (f_X3_firstFree_L2 T N s0 a0) n = k2 at ih2 hq
      unfold f_X3_firstFree_L2 at hq
      refine lv_iload_n hx hb dX3_firstFree_2 rfl (lv_at hl 1 rfl) ?_
      refine lv_aload_n hx hb dX3_firstFree_3 rfl (lv_at hl 0 rfl) ?_
      refine zz_getR S hT hB (C := RX3) (ref := "DiagramDesk$Groups") (F := TX3) (N := 2) (index := 9) 3 0 iwX3 rfl (by decide) (by decide) rfl rfl (wS wd_114) (fun _ h9 => h9) dX3_firstFree_4 hq (fun a4 hq => ?_)
      refine zz_alen S hT hB 14 (by decide) (by decide) dX3_firstFree_7 hq (fun x5 hq => ?_)
      refine zz_icmp_ge (tgt := 28) hx hb dX3_firstFree_8 (by decide) hq (fun hq => ?_) (fun hq => ?_)
      · refine lv_ldc (v := -1000000) hx hb hown (hts _ (wS wd_120)) dX3_firstFree_28 ?_
        exact zz_iret S hB hr hlocks dX3_firstFree_30 hq
      · refine lv_aload_n hx hb dX3_firstFree_11 rfl (lv_at hl 0 rfl) ?_
        refine zz_getR S hT hB (C := RX3) (ref := "DiagramDesk$Groups") (F := TX3) (N := 2) (index := 9) 3 0 iwX3 rfl (by decide) (by decide) rfl rfl (wS wd_114) (fun _ h9 => h9) dX3_firstFree_12 hq (fun a6 hq => ?_)
        refine lv_iload_n hx hb dX3_firstFree_15 rfl (lv_at hl 1 rfl) ?_
        refine zz_aldZ S hT hB dX3_firstFree_16 hq (fun x7 hq => ?_)
        refine zz_if_ne (tgt := 22) hx hb dX3_firstFree_17 (by decide) hq (fun hq => ?_) (fun hq => ?_)
        · refine zz_nmV hq (fun x8 ex8 hq => ?_)
          refine lv_iinc (v := x8) (lv' := [(1, .int x8), (0, .ref (ad a0))]) hx hb dX3_firstFree_22 hl (k := 1) rfl (by rw [ex8]; rfl) (by decide) rfl (fun ls hl => ?_)
          refine lv_goto (tgt := 2) hx hb dX3_firstFree_25 (by decide) ?_
          exact ih2 x8 _ _ _ hq hB (lv_sub hl [1, 0] rfl)
        · refine lv_iload_n hx hb dX3_firstFree_20 rfl (lv_at hl 1 rfl) ?_
          exact zz_iret S hB hr hlocks dX3_firstFree_21 hq
  exact L2 N (0 : Int32) _ _ _ hq hB (lv_sub hl [1, 0] rfl)
def f_X4_isOn (T : zT) (N : Nat) (s0 : zS) (a0 : Nat) (x1 : Int32) (x2 : Int32) : Option (Int32 × zS) :=
  zz1 (T.1 a0 = 4) <|
  if x1 < 0 then (
    rZ (0 : Int32) s0)
  else (
    (gI T s0 a0 4 2).bind fun x5 =>
    if x5 ≤ x1 then (
      rZ (0 : Int32) s0)
    else (
      (gR T s0 a0 4 0).bind fun a6 =>
      (aL T a6 13).bind fun x7 =>
      if x7 ≤ x1 then (
        rZ (0 : Int32) s0)
      else (
        (gR T s0 a0 4 0).bind fun a8 =>
        (aI T s0 a8 13 x1).bind fun x9 =>
        if ¬ x9 = x2 then (
          rZ (0 : Int32) s0)
        else (
          rZ (1 : Int32) s0))))
theorem k_X4_isOn (T : zT) (N : Nat) (s0 : zS) (a0 : Nat) (x1 : Int32) (x2 : Int32) : ∀ q, f_X4_isOn T N s0 a0 x1 x2 = some q → T.1 a0 = 4 := by
  intro q h
  unfold f_X4_isOn at h
  exact zz_guard h (fun h _ => h)
set_option maxHeartbeats 4000000 in
set_option maxRecDepth 100000 in
theorem c_X4_isOn (l : Launch) (D : va_G) (cy : Nat → ClassId) (T : zT) (hT : zok T) (ad : Nat → Nat) (N : Nat) (s0 : zS) (sz : Nat) (a0 : Nat) (x1 : Int32) (x2 : Int32) : ∀ (r0 : Int32) (σ0 : zS), f_X4_isOn T N s0 a0 x1 x2 = some (r0, σ0) → Met l yX4_isOn wsX4_isOn ({ frames := 0, cells := 0, slots := 0, locals := 0 }) (va_Pc [.ref (ad a0), .int x1, .int x2] (zPre D cy T ad s0 sz)) (va_Qi (fun (r2 : Int32) (σ2 : zS) => r2 = r0 ∧ σ2 = σ0) (zAt D cy T ad (zA T ad sz)) (zA T ad sz)) 0 0 (zA T ad sz) := by
  intro r0 σ0 hq
  refine Met.ofW (cc := cX4_isOn) (maxL := 3) (ret := (some .boolean)) (by decide) rfl ?_
  intro p e s m args below meth c s₁ B hml hv
  obtain ⟨hargs, hsz, hP, hK, hD0, hN⟩ := hv
  have hx := B.exec
  have hb := B.bytes
  have hr := B.returns
  have hts := atoms_spec (ws := wsX4_isOn) B.pre
  have hown : s.vm.findClass RX4 = some m.cls := findClass_of_methodNamed B.named
  have hlocks := B.notSynchronized
  have S : CallFix p m c cX4_isOn 3 s args wsX4_isOn RX4 := ⟨hx, hb, hml, hown, hts⟩
  subst hsz
  have hB : zB D cy T ad (zA T ad s.heap.size) s.heap s0 s.heap [] s := zz_entry hP hK hD0 hN
  obtain ⟨ls, hent, hl⟩ := zz_ent m hargs (n := 3) (Nat.le_of_ble_eq_true rfl)
  rw [hent]
  have hl : lv_has ls 3 [(0, .ref (ad a0)), (1, .int x1), (2, .int x2)] := hl
  have iwX4 : ∀ w ∈ u_ws RX4 TX4 5, w ∈ wsX4_isOn := fun w h => wS (inWX4 w h)
  unfold f_X4_isOn at hq
  refine zz_guard hq (fun hk0 hq => ?_)
  refine lv_iload_n hx hb dX4_isOn_0 rfl (lv_at hl 1 rfl) ?_
  refine zz_if_lt (tgt := 35) hx hb dX4_isOn_1 (by decide) hq (fun hq => ?_) (fun hq => ?_)
  · refine lv_iconst (v := 0) hx hb dX4_isOn_35 (by decide) ?_
    exact zz_zret S hB hr hlocks dX4_isOn_36 hq
  · refine lv_iload_n hx hb dX4_isOn_4 rfl (lv_at hl 1 rfl) ?_
    refine lv_aload_n hx hb dX4_isOn_5 rfl (lv_at hl 0 rfl) ?_
    refine zz_get S hT hB (C := RX4) (ref := "DiagramDesk$Guides") (F := TX4) (N := 5) (index := 22) 4 2 iwX4 rfl (by decide) (by decide) rfl rfl (wS wd_130) (fun _ h9 => h9) dX4_isOn_6 hq (fun x5 hq => ?_)
    refine zz_icmp_ge (tgt := 35) hx hb dX4_isOn_9 (by decide) hq (fun hq => ?_) (fun hq => ?_)
    · refine lv_iconst (v := 0) hx hb dX4_isOn_35 (by decide) ?_
      exact zz_zret S hB hr hlocks dX4_isOn_36 hq
    · refine lv_iload_n hx hb dX4_isOn_12 rfl (lv_at hl 1 rfl) ?_
      refine lv_aload_n hx hb dX4_isOn_13 rfl (lv_at hl 0 rfl) ?_
      refine zz_getR S hT hB (C := RX4) (ref := "DiagramDesk$Guides") (F := TX4) (N := 5) (index := 9) 4 0 iwX4 rfl (by decide) (by decide) rfl rfl (wS wd_131) (fun _ h9 => h9) dX4_isOn_14 hq (fun a6 hq => ?_)
      refine zz_alen S hT hB 13 (by decide) (by decide) dX4_isOn_17 hq (fun x7 hq => ?_)
      refine zz_icmp_ge (tgt := 35) hx hb dX4_isOn_18 (by decide) hq (fun hq => ?_) (fun hq => ?_)
      · refine lv_iconst (v := 0) hx hb dX4_isOn_35 (by decide) ?_
        exact zz_zret S hB hr hlocks dX4_isOn_36 hq
      · refine lv_aload_n hx hb dX4_isOn_21 rfl (lv_at hl 0 rfl) ?_
        refine zz_getR S hT hB (C := RX4) (ref := "DiagramDesk$Guides") (F := TX4) (N := 5) (index := 9) 4 0 iwX4 rfl (by decide) (by decide) rfl rfl (wS wd_131) (fun _ h9 => h9) dX4_isOn_22 hq (fun a8 hq => ?_)
        refine lv_iload_n hx hb dX4_isOn_25 rfl (lv_at hl 1 rfl) ?_
        refine zz_ald S hT hB dX4_isOn_26 hq (fun x9 hq => ?_)
        refine lv_iload_n hx hb dX4_isOn_27 rfl (lv_at hl 2 rfl) ?_
        refine zz_icmp_ne (tgt := 35) hx hb dX4_isOn_28 (by decide) hq (fun hq => ?_) (fun hq => ?_)
        · refine lv_iconst (v := 0) hx hb dX4_isOn_35 (by decide) ?_
          exact zz_zret S hB hr hlocks dX4_isOn_36 hq
        · refine lv_iconst (v := 1) hx hb dX4_isOn_31 (by decide) ?_
          refine lv_goto (tgt := 36) hx hb dX4_isOn_32 (by decide) ?_
          exact zz_zret S hB hr hlocks dX4_isOn_36 hq
def f_X4_placeOf (T : zT) (N : Nat) (s0 : zS) (a0 : Nat) (x1 : Int32) : Option (Int32 × zS) :=
  zz1 (T.1 a0 = 4) <|
  if x1 < 0 then (
    some ((-1000000 : Int32), s0))
  else (
    (gR T s0 a0 4 1).bind fun a4 =>
    (aL T a4 13).bind fun x5 =>
    if x5 ≤ x1 then (
      some ((-1000000 : Int32), s0))
    else (
      (gR T s0 a0 4 1).bind fun a6 =>
      (aI T s0 a6 13 x1).bind fun x7 =>
      some (x7, s0)))
theorem k_X4_placeOf (T : zT) (N : Nat) (s0 : zS) (a0 : Nat) (x1 : Int32) : ∀ q, f_X4_placeOf T N s0 a0 x1 = some q → T.1 a0 = 4 := by
  intro q h
  unfold f_X4_placeOf at h
  exact zz_guard h (fun h _ => h)
set_option maxHeartbeats 4000000 in
set_option maxRecDepth 100000 in
theorem c_X4_placeOf (l : Launch) (D : va_G) (cy : Nat → ClassId) (T : zT) (hT : zok T) (ad : Nat → Nat) (N : Nat) (s0 : zS) (sz : Nat) (a0 : Nat) (x1 : Int32) : ∀ (r0 : Int32) (σ0 : zS), f_X4_placeOf T N s0 a0 x1 = some (r0, σ0) → Met l yX4_placeOf wsX4_placeOf ({ frames := 0, cells := 0, slots := 0, locals := 0 }) (va_Pc [.ref (ad a0), .int x1] (zPre D cy T ad s0 sz)) (va_Qi (fun (r2 : Int32) (σ2 : zS) => r2 = r0 ∧ σ2 = σ0) (zAt D cy T ad (zA T ad sz)) (zA T ad sz)) 0 0 (zA T ad sz) := by
  intro r0 σ0 hq
  refine Met.ofW (cc := cX4_placeOf) (maxL := 2) (ret := (some .int)) (by decide) rfl ?_
  intro p e s m args below meth c s₁ B hml hv
  obtain ⟨hargs, hsz, hP, hK, hD0, hN⟩ := hv
  have hx := B.exec
  have hb := B.bytes
  have hr := B.returns
  have hts := atoms_spec (ws := wsX4_placeOf) B.pre
  have hown : s.vm.findClass RX4 = some m.cls := findClass_of_methodNamed B.named
  have hlocks := B.notSynchronized
  have S : CallFix p m c cX4_placeOf 2 s args wsX4_placeOf RX4 := ⟨hx, hb, hml, hown, hts⟩
  subst hsz
  have hB : zB D cy T ad (zA T ad s.heap.size) s.heap s0 s.heap [] s := zz_entry hP hK hD0 hN
  obtain ⟨ls, hent, hl⟩ := zz_ent m hargs (n := 2) (Nat.le_of_ble_eq_true rfl)
  rw [hent]
  have hl : lv_has ls 2 [(0, .ref (ad a0)), (1, .int x1)] := hl
  have iwX4 : ∀ w ∈ u_ws RX4 TX4 5, w ∈ wsX4_placeOf := fun w h => wS (inWX4 w h)
  unfold f_X4_placeOf at hq
  refine zz_guard hq (fun hk0 hq => ?_)
  refine lv_iload_n hx hb dX4_placeOf_0 rfl (lv_at hl 1 rfl) ?_
  refine zz_if_lt (tgt := 22) hx hb dX4_placeOf_1 (by decide) hq (fun hq => ?_) (fun hq => ?_)
  · refine lv_ldc (v := -1000000) hx hb hown (hts _ (wS wd_209)) dX4_placeOf_22 ?_
    exact zz_iret S hB hr hlocks dX4_placeOf_24 hq
  · refine lv_iload_n hx hb dX4_placeOf_4 rfl (lv_at hl 1 rfl) ?_
    refine lv_aload_n hx hb dX4_placeOf_5 rfl (lv_at hl 0 rfl) ?_
    refine zz_getR S hT hB (C := RX4) (ref := "DiagramDesk$Guides") (F := TX4) (N := 5) (index := 15) 4 1 iwX4 rfl (by decide) (by decide) rfl rfl (wS wd_132) (fun _ h9 => h9) dX4_placeOf_6 hq (fun a4 hq => ?_)
    refine zz_alen S hT hB 13 (by decide) (by decide) dX4_placeOf_9 hq (fun x5 hq => ?_)
    refine zz_icmp_ge (tgt := 22) hx hb dX4_placeOf_10 (by decide) hq (fun hq => ?_) (fun hq => ?_)
    · refine lv_ldc (v := -1000000) hx hb hown (hts _ (wS wd_209)) dX4_placeOf_22 ?_
      exact zz_iret S hB hr hlocks dX4_placeOf_24 hq
    · refine lv_aload_n hx hb dX4_placeOf_13 rfl (lv_at hl 0 rfl) ?_
      refine zz_getR S hT hB (C := RX4) (ref := "DiagramDesk$Guides") (F := TX4) (N := 5) (index := 15) 4 1 iwX4 rfl (by decide) (by decide) rfl rfl (wS wd_132) (fun _ h9 => h9) dX4_placeOf_14 hq (fun a6 hq => ?_)
      refine lv_iload_n hx hb dX4_placeOf_17 rfl (lv_at hl 1 rfl) ?_
      refine zz_ald S hT hB dX4_placeOf_18 hq (fun x7 hq => ?_)
      refine lv_goto (tgt := 24) hx hb dX4_placeOf_19 (by decide) ?_
      exact zz_iret S hB hr hlocks dX4_placeOf_24 hq
def f_X5_dropOldest_L21 (T : zT) (N : Nat) (a0 : Nat) (k21 : Int32 → zS → Option zS) (x7 : Int32) (s8 : zS) : Option zS :=
  (gR T s8 a0 5 0).bind fun a9 =>
  (aL T a9 16).bind fun x10 =>
  if x10 ≤ (x7 + (1 : Int32)) then (
    (gR T s8 a0 5 0).bind fun a11 =>
    (aL T a11 16).bind fun x12 =>
    if x12 ≤ 0 then (
      (gI T s8 a0 5 1).bind fun x13 =>
      (pI T s8 a0 5 1 (x13 - (1 : Int32))).bind fun s14 =>
      some s14)
    else (
      (gR T s8 a0 5 0).bind fun a15 =>
      (gR T s8 a0 5 0).bind fun a16 =>
      (aL T a16 16).bind fun x17 =>
      none))
  else (
    (gR T s8 a0 5 0).bind fun a18 =>
    (gR T s8 a0 5 0).bind fun a19 =>
    (aR T s8 a19 16 (x7 + (1 : Int32))).bind fun a20 =>
    (sR T s8 a18 16 2 x7 a20).bind fun s21 =>
    zn (x7 + (1 : Int32)) fun x22 =>
    k21 x22 s21)
def f_X5_dropOldest_L21b (T : zT) (N : Nat) (a0 : Nat) (a6 : Nat) (k21 : Int32 → zS → Option zS) (x23 : Int32) (s24 : zS) : Option zS :=
  (gR T s24 a0 5 0).bind fun a25 =>
  (aL T a25 16).bind fun x26 =>
  if x26 ≤ (x23 + (1 : Int32)) then (
    (gR T s24 a0 5 0).bind fun a27 =>
    (aL T a27 16).bind fun x28 =>
    if x28 ≤ 0 then (
      (gI T s24 a0 5 1).bind fun x29 =>
      (pI T s24 a0 5 1 (x29 - (1 : Int32))).bind fun s30 =>
      some s30)
    else (
      (gR T s24 a0 5 0).bind fun a31 =>
      (gR T s24 a0 5 0).bind fun a32 =>
      (aL T a32 16).bind fun x33 =>
      (sR T s24 a31 16 2 (x33 - (1 : Int32)) a6).bind fun s34 =>
      (gI T s34 a0 5 1).bind fun x35 =>
      (pI T s34 a0 5 1 (x35 - (1 : Int32))).bind fun s36 =>
      some s36))
  else (
    (gR T s24 a0 5 0).bind fun a37 =>
    (gR T s24 a0 5 0).bind fun a38 =>
    (aR T s24 a38 16 (x23 + (1 : Int32))).bind fun a39 =>
    (sR T s24 a37 16 2 x23 a39).bind fun s40 =>
    zn (x23 + (1 : Int32)) fun x41 =>
    k21 x41 s40)
def f_X5_dropOldest_J18 (T : zT) (N : Nat) (s0 : zS) (a0 : Nat) (o5 : Option Nat) : Option zS :=
  zo o5 (
    zl2 (f_X5_dropOldest_L21 T N a0) N (0 : Int32) s0)
  fun a6 => (
    zl2 (f_X5_dropOldest_L21b T N a0 a6) N (0 : Int32) s0)
def f_X5_dropOldest (T : zT) (N : Nat) (s0 : zS) (a0 : Nat) : Option zS :=
  zz1 (T.1 a0 = 5) <|
  (gR T s0 a0 5 0).bind fun a3 =>
  (aL T a3 16).bind fun x4 =>
  if x4 ≤ 0 then (
    f_X5_dropOldest_J18 T N s0 a0 none)
  else (
    (gR T s0 a0 5 0).bind fun a42 =>
    (aR T s0 a42 16 (0 : Int32)).bind fun a43 =>
    f_X5_dropOldest_J18 T N s0 a0 (some a43))
theorem k_X5_dropOldest (T : zT) (N : Nat) (s0 : zS) (a0 : Nat) : ∀ q, f_X5_dropOldest T N s0 a0 = some q → T.1 a0 = 5 := by
  intro q h
  unfold f_X5_dropOldest at h
  exact zz_guard h (fun h _ => h)
set_option maxHeartbeats 4000000 in
set_option maxRecDepth 100000 in
theorem c_X5_dropOldest (l : Launch) (D : va_G) (cy : Nat → ClassId) (T : zT) (hT : zok T) (ad : Nat → Nat) (N : Nat) (s0 : zS) (sz : Nat) (a0 : Nat) : ∀ (σ0 : zS), f_X5_dropOldest T N s0 a0 = some σ0 → Met l yX5_dropOldest wsX5_dropOldest ({ frames := 0, cells := 0, slots := 0, locals := 0 }) (va_Pc [.ref (ad a0)] (zPre D cy T ad s0 sz)) (va_Qv (fun σ2 : zS => σ2 = σ0) (zAt D cy T ad (zA T ad sz)) (zA T ad sz)) 0 0 (zA T ad sz) := by
  intro σ0 hq
  refine Met.ofW (cc := cX5_dropOldest) (maxL := 3) (ret := none) (by decide) rfl ?_
  intro p e s m args below meth c s₁ B hml hv
  obtain ⟨hargs, hsz, hP, hK, hD0, hN⟩ := hv
  have hx := B.exec
  have hb := B.bytes
  have hr := B.returns
  have hts := atoms_spec (ws := wsX5_dropOldest) B.pre
  have hown : s.vm.findClass RX5 = some m.cls := findClass_of_methodNamed B.named
  have hlocks := B.notSynchronized
  have S : CallFix p m c cX5_dropOldest 3 s args wsX5_dropOldest RX5 := ⟨hx, hb, hml, hown, hts⟩
  subst hsz
  have hB : zB D cy T ad (zA T ad s.heap.size) s.heap s0 s.heap [] s := zz_entry hP hK hD0 hN
  obtain ⟨ls, hent, hl⟩ := zz_ent m hargs (n := 3) (Nat.le_of_ble_eq_true rfl)
  rw [hent]
  have hl : lv_has ls 3 [(0, .ref (ad a0))] := hl
  have iwX5 : ∀ w ∈ u_ws RX5 TX5 2, w ∈ wsX5_dropOldest := fun w h => wS (inWX5 w h)
  unfold f_X5_dropOldest at hq
  refine zz_guard hq (fun hk0 hq => ?_)
  refine lv_aload_n hx hb dX5_dropOldest_0 rfl (lv_at hl 0 rfl) ?_
  refine zz_getR S hT hB (C := RX5) (ref := "DiagramDesk$History") (F := TX5) (N := 2) (index := 11) 5 0 iwX5 rfl (by decide) (by decide) rfl rfl (wS wd_210) (fun _ h9 => h9) dX5_dropOldest_1 hq (fun a3 hq => ?_)
  refine zz_alen S hT hB 16 (by decide) (by decide) dX5_dropOldest_4 hq (fun x4 hq => ?_)
  have J18 : ∀ (o5 : Option Nat) (H : Heap) (locs : List Loc) (ls : Array Slot), f_X5_dropOldest_J18 T N s0 a0 o5 = some σ0 → zB D cy T ad (zA T ad s.heap.size) s.heap s0 H locs s → lv_has ls 3 [(0, .ref (ad a0))] → W p l e (headSpec wsX5_dropOldest ({ frames := 0, cells := 0, slots := 0, locals := 0 } : Room)).room s m args below meth c H locs 0 0 (MQ below (va_Qv (fun σ2 : zS => σ2 = σ0) (zAt D cy T ad (zA T ad s.heap.size)) (zA T ad s.heap.size)) args s 0 0 (zA T ad s.heap.size)) (F0 m 18 ls [va_rf (o5.map ad)]) := by
    intro o5 H locs ls hq hB hl
    unfold f_X5_dropOldest_J18 at hq
    cases o5 with
    | none =>
      have hl : lv_has ls 3 [(0, .ref (ad a0))] := hl
      show W p l e (headSpec wsX5_dropOldest ({ frames := 0, cells := 0, slots := 0, locals := 0 } : Room)).room s m args below meth c H locs 0 0 (MQ below (va_Qv (fun σ2 : zS => σ2 = σ0) (zAt D cy T ad (zA T ad s.heap.size)) (zA T ad s.heap.size)) args s 0 0 (zA T ad s.heap.size)) (F0 m 18 ls [.null])
      refine lv_astore_nN (lv' := [(1, .null), (0, .ref (ad a0))]) hx hb dX5_dropOldest_18 rfl hl (by decide) rfl (fun ls hl => ?_)
      refine lv_iconst (v := 0) hx hb dX5_dropOldest_19 (by decide) ?_
      refine lv_istore_n (lv' := [(2, .int (0 : Int32)), (1, .null), (0, .ref (ad a0))]) hx hb dX5_dropOldest_20 rfl hl (by decide) rfl (fun ls hl => ?_)
      have L21 : ∀ (n : Nat) (x7 : Int32) (s8 : zS) (H : Heap) (locs : List Loc) (ls : Array Slot), zl2 (f_X5_dropOldest_L21 T N a0) n x7 s8 = some σ0 → zB D cy T ad (zA T ad s.heap.size) s.heap s8 H locs s → lv_has ls 3 [(0, .ref (ad a0)), (1, .null), (2, .int x7)] → W p l e (headSpec wsX5_dropOldest ({ frames := 0, cells := 0, slots := 0, locals := 0 } : Room)).room s m args below meth c H locs 0 0 (MQ below (va_Qv (fun σ2 : zS => σ2 = σ0) (zAt D cy T ad (zA T ad s.heap.size)) (zA T ad s.heap.size)) args s 0 0 (zA T ad s.heap.size)) (F0 m 21 ls []) := by
        intro n
        induction n with
        | zero => intro x7 s8 H locs ls hq; exact zz_none hq
        | succ n ih21 =>
          intro x7 s8 H locs ls hq hB hl
          rw [zl2] at hq
          generalize zl2 (f_X5_dropOldest_L21 T N a0) n = k21 at ih21 hq
          unfold f_X5_dropOldest_L21 at hq
          refine lv_iload_n hx hb dX5_dropOldest_21 rfl (lv_at hl 2 rfl) ?_
          refine lv_iconst (v := 1) hx hb dX5_dropOldest_22 (by decide) ?_
          refine lv_iadd hx hb dX5_dropOldest_23 ?_
          refine lv_aload_n hx hb dX5_dropOldest_24 rfl (lv_at hl 0 rfl) ?_
          refine zz_getR S hT hB (C := RX5) (ref := "DiagramDesk$History") (F := TX5) (N := 2) (index := 11) 5 0 iwX5 rfl (by decide) (by decide) rfl rfl (wS wd_210) (fun _ h9 => h9) dX5_dropOldest_25 hq (fun a9 hq => ?_)
          refine zz_alen S hT hB 16 (by decide) (by decide) dX5_dropOldest_28 hq (fun x10 hq => ?_)
          refine zz_icmp_ge (tgt := 52) hx hb dX5_dropOldest_29 (by decide) hq (fun hq => ?_) (fun hq => ?_)
          · refine lv_aload_n hx hb dX5_dropOldest_52 rfl (lv_at hl 0 rfl) ?_
            refine zz_getR S hT hB (C := RX5) (ref := "DiagramDesk$History") (F := TX5) (N := 2) (index := 11) 5 0 iwX5 rfl (by decide) (by decide) rfl rfl (wS wd_210) (fun _ h9 => h9) dX5_dropOldest_53 hq (fun a11 hq => ?_)
            refine zz_alen S hT hB 16 (by decide) (by decide) dX5_dropOldest_56 hq (fun x12 hq => ?_)
            refine zz_if_le (tgt := 73) hx hb dX5_dropOldest_57 (by decide) hq (fun hq => ?_) (fun hq => ?_)
            · refine lv_aload_n hx hb dX5_dropOldest_73 rfl (lv_at hl 0 rfl) ?_
              refine lv_dup hx hb dX5_dropOldest_74 rfl ?_
              refine zz_get S hT hB (C := RX5) (ref := "DiagramDesk$History") (F := TX5) (N := 2) (index := 18) 5 1 iwX5 rfl (by decide) (by decide) rfl rfl (wS wd_211) (fun _ h9 => h9) dX5_dropOldest_75 hq (fun x13 hq => ?_)
              refine lv_iconst (v := 1) hx hb dX5_dropOldest_78 (by decide) ?_
              refine lv_isub hx hb dX5_dropOldest_79 ?_
              refine zz_put S hT hB (C := RX5) (ref := "DiagramDesk$History") (F := TX5) (N := 2) (index := 18) 5 1 iwX5 tyX5 tyX5_ok nmX5 rfl (by decide) (by decide) rfl rfl (wS wd_211) (fun _ h9 => h9) rfl (by decide +kernel) dX5_dropOldest_80 hq (fun s14 H locs hq hB => ?_)
              exact zz_vret S hB hr hlocks dX5_dropOldest_83 hq
            · refine lv_aload_n hx hb dX5_dropOldest_60 rfl (lv_at hl 0 rfl) ?_
              refine zz_getR S hT hB (C := RX5) (ref := "DiagramDesk$History") (F := TX5) (N := 2) (index := 11) 5 0 iwX5 rfl (by decide) (by decide) rfl rfl (wS wd_210) (fun _ h9 => h9) dX5_dropOldest_61 hq (fun a15 hq => ?_)
              refine lv_aload_n hx hb dX5_dropOldest_64 rfl (lv_at hl 0 rfl) ?_
              refine zz_getR S hT hB (C := RX5) (ref := "DiagramDesk$History") (F := TX5) (N := 2) (index := 11) 5 0 iwX5 rfl (by decide) (by decide) rfl rfl (wS wd_210) (fun _ h9 => h9) dX5_dropOldest_65 hq (fun a16 hq => ?_)
              refine zz_alen S hT hB 16 (by decide) (by decide) dX5_dropOldest_68 hq (fun x17 hq => ?_)
              refine lv_iconst (v := 1) hx hb dX5_dropOldest_69 (by decide) ?_
              refine lv_isub hx hb dX5_dropOldest_70 ?_
              refine lv_aload_nN hx hb dX5_dropOldest_71 rfl (lv_at hl 1 rfl) ?_
              exact zz_none hq
          · refine lv_aload_n hx hb dX5_dropOldest_32 rfl (lv_at hl 0 rfl) ?_
            refine zz_getR S hT hB (C := RX5) (ref := "DiagramDesk$History") (F := TX5) (N := 2) (index := 11) 5 0 iwX5 rfl (by decide) (by decide) rfl rfl (wS wd_210) (fun _ h9 => h9) dX5_dropOldest_33 hq (fun a18 hq => ?_)
            refine lv_iload_n hx hb dX5_dropOldest_36 rfl (lv_at hl 2 rfl) ?_
            refine lv_aload_n hx hb dX5_dropOldest_37 rfl (lv_at hl 0 rfl) ?_
            refine zz_getR S hT hB (C := RX5) (ref := "DiagramDesk$History") (F := TX5) (N := 2) (index := 11) 5 0 iwX5 rfl (by decide) (by decide) rfl rfl (wS wd_210) (fun _ h9 => h9) dX5_dropOldest_38 hq (fun a19 hq => ?_)
            refine lv_iload_n hx hb dX5_dropOldest_41 rfl (lv_at hl 2 rfl) ?_
            refine lv_iconst (v := 1) hx hb dX5_dropOldest_42 (by decide) ?_
            refine lv_iadd hx hb dX5_dropOldest_43 ?_
            refine zz_aldR S hT hB 16 3 rfl (by decide) (by decide) dX5_dropOldest_44 hq (fun a20 hq => ?_)
            refine zz_astR S hT hB 16 2 3 (r := (RX2, TX2, 4)) rfl rfl (by decide) (by decide) (by decide) dX5_dropOldest_45 hq (fun s21 H locs hq hB => ?_)
            refine zz_nmV hq (fun x22 ex22 hq => ?_)
            refine lv_iinc (v := x22) (lv' := [(2, .int x22), (0, .ref (ad a0)), (1, .null)]) hx hb dX5_dropOldest_46 hl (k := 2) rfl (by rw [ex22]; rfl) (by decide) rfl (fun ls hl => ?_)
            refine lv_goto (tgt := 21) hx hb dX5_dropOldest_49 (by decide) ?_
            exact ih21 x22 s21 _ _ _ hq hB (lv_sub hl [1, 2, 0] rfl)
      exact L21 N (0 : Int32) s0 _ _ _ hq hB (lv_sub hl [2, 1, 0] rfl)
    | some a6 =>
      have hl : lv_has ls 3 [(0, .ref (ad a0))] := hl
      show W p l e (headSpec wsX5_dropOldest ({ frames := 0, cells := 0, slots := 0, locals := 0 } : Room)).room s m args below meth c H locs 0 0 (MQ below (va_Qv (fun σ2 : zS => σ2 = σ0) (zAt D cy T ad (zA T ad s.heap.size)) (zA T ad s.heap.size)) args s 0 0 (zA T ad s.heap.size)) (F0 m 18 ls [.ref (ad a6)])
      refine lv_astore_n (lv' := [(1, .ref (ad a6)), (0, .ref (ad a0))]) hx hb dX5_dropOldest_18 rfl hl (by decide) rfl (fun ls hl => ?_)
      refine lv_iconst (v := 0) hx hb dX5_dropOldest_19 (by decide) ?_
      refine lv_istore_n (lv' := [(2, .int (0 : Int32)), (1, .ref (ad a6)), (0, .ref (ad a0))]) hx hb dX5_dropOldest_20 rfl hl (by decide) rfl (fun ls hl => ?_)
      have L21 : ∀ (n : Nat) (x23 : Int32) (s24 : zS) (H : Heap) (locs : List Loc) (ls : Array Slot), zl2 (f_X5_dropOldest_L21b T N a0 a6) n x23 s24 = some σ0 → zB D cy T ad (zA T ad s.heap.size) s.heap s24 H locs s → lv_has ls 3 [(0, .ref (ad a0)), (1, .ref (ad a6)), (2, .int x23)] → W p l e (headSpec wsX5_dropOldest ({ frames := 0, cells := 0, slots := 0, locals := 0 } : Room)).room s m args below meth c H locs 0 0 (MQ below (va_Qv (fun σ2 : zS => σ2 = σ0) (zAt D cy T ad (zA T ad s.heap.size)) (zA T ad s.heap.size)) args s 0 0 (zA T ad s.heap.size)) (F0 m 21 ls []) := by
        intro n
        induction n with
        | zero => intro x23 s24 H locs ls hq; exact zz_none hq
        | succ n ih21 =>
          intro x23 s24 H locs ls hq hB hl
          rw [zl2] at hq
          generalize zl2 (f_X5_dropOldest_L21b T N a0 a6) n = k21 at ih21 hq
          unfold f_X5_dropOldest_L21b at hq
          refine lv_iload_n hx hb dX5_dropOldest_21 rfl (lv_at hl 2 rfl) ?_
          refine lv_iconst (v := 1) hx hb dX5_dropOldest_22 (by decide) ?_
          refine lv_iadd hx hb dX5_dropOldest_23 ?_
          refine lv_aload_n hx hb dX5_dropOldest_24 rfl (lv_at hl 0 rfl) ?_
          refine zz_getR S hT hB (C := RX5) (ref := "DiagramDesk$History") (F := TX5) (N := 2) (index := 11) 5 0 iwX5 rfl (by decide) (by decide) rfl rfl (wS wd_210) (fun _ h9 => h9) dX5_dropOldest_25 hq (fun a25 hq => ?_)
          refine zz_alen S hT hB 16 (by decide) (by decide) dX5_dropOldest_28 hq (fun x26 hq => ?_)
          refine zz_icmp_ge (tgt := 52) hx hb dX5_dropOldest_29 (by decide) hq (fun hq => ?_) (fun hq => ?_)
          · refine lv_aload_n hx hb dX5_dropOldest_52 rfl (lv_at hl 0 rfl) ?_
            refine zz_getR S hT hB (C := RX5) (ref := "DiagramDesk$History") (F := TX5) (N := 2) (index := 11) 5 0 iwX5 rfl (by decide) (by decide) rfl rfl (wS wd_210) (fun _ h9 => h9) dX5_dropOldest_53 hq (fun a27 hq => ?_)
            refine zz_alen S hT hB 16 (by decide) (by decide) dX5_dropOldest_56 hq (fun x28 hq => ?_)
            refine zz_if_le (tgt := 73) hx hb dX5_dropOldest_57 (by decide) hq (fun hq => ?_) (fun hq => ?_)
            · refine lv_aload_n hx hb dX5_dropOldest_73 rfl (lv_at hl 0 rfl) ?_
              refine lv_dup hx hb dX5_dropOldest_74 rfl ?_
              refine zz_get S hT hB (C := RX5) (ref := "DiagramDesk$History") (F := TX5) (N := 2) (index := 18) 5 1 iwX5 rfl (by decide) (by decide) rfl rfl (wS wd_211) (fun _ h9 => h9) dX5_dropOldest_75 hq (fun x29 hq => ?_)
              refine lv_iconst (v := 1) hx hb dX5_dropOldest_78 (by decide) ?_
              refine lv_isub hx hb dX5_dropOldest_79 ?_
              refine zz_put S hT hB (C := RX5) (ref := "DiagramDesk$History") (F := TX5) (N := 2) (index := 18) 5 1 iwX5 tyX5 tyX5_ok nmX5 rfl (by decide) (by decide) rfl rfl (wS wd_211) (fun _ h9 => h9) rfl (by decide +kernel) dX5_dropOldest_80 hq (fun s30 H locs hq hB => ?_)
              exact zz_vret S hB hr hlocks dX5_dropOldest_83 hq
            · refine lv_aload_n hx hb dX5_dropOldest_60 rfl (lv_at hl 0 rfl) ?_
              refine zz_getR S hT hB (C := RX5) (ref := "DiagramDesk$History") (F := TX5) (N := 2) (index := 11) 5 0 iwX5 rfl (by decide) (by decide) rfl rfl (wS wd_210) (fun _ h9 => h9) dX5_dropOldest_61 hq (fun a31 hq => ?_)
              refine lv_aload_n hx hb dX5_dropOldest_64 rfl (lv_at hl 0 rfl) ?_
              refine zz_getR S hT hB (C := RX5) (ref := "DiagramDesk$History") (F := TX5) (N := 2) (index := 11) 5 0 iwX5 rfl (by decide) (by decide) rfl rfl (wS wd_210) (fun _ h9 => h9) dX5_dropOldest_65 hq (fun a32 hq => ?_)
              refine zz_alen S hT hB 16 (by decide) (by decide) dX5_dropOldest_68 hq (fun x33 hq => ?_)
              refine lv_iconst (v := 1) hx hb dX5_dropOldest_69 (by decide) ?_
              refine lv_isub hx hb dX5_dropOldest_70 ?_
              refine lv_aload_n hx hb dX5_dropOldest_71 rfl (lv_at hl 1 rfl) ?_
              refine zz_astR S hT hB 16 2 3 (r := (RX2, TX2, 4)) rfl rfl (by decide) (by decide) (by decide) dX5_dropOldest_72 hq (fun s34 H locs hq hB => ?_)
              refine lv_aload_n hx hb dX5_dropOldest_73 rfl (lv_at hl 0 rfl) ?_
              refine lv_dup hx hb dX5_dropOldest_74 rfl ?_
              refine zz_get S hT hB (C := RX5) (ref := "DiagramDesk$History") (F := TX5) (N := 2) (index := 18) 5 1 iwX5 rfl (by decide) (by decide) rfl rfl (wS wd_211) (fun _ h9 => h9) dX5_dropOldest_75 hq (fun x35 hq => ?_)
              refine lv_iconst (v := 1) hx hb dX5_dropOldest_78 (by decide) ?_
              refine lv_isub hx hb dX5_dropOldest_79 ?_
              refine zz_put S hT hB (C := RX5) (ref := "DiagramDesk$History") (F := TX5) (N := 2) (index := 18) 5 1 iwX5 tyX5 tyX5_ok nmX5 rfl (by decide) (by decide) rfl rfl (wS wd_211) (fun _ h9 => h9) rfl (by decide +kernel) dX5_dropOldest_80 hq (fun s36 H locs hq hB => ?_)
              exact zz_vret S hB hr hlocks dX5_dropOldest_83 hq
          · refine lv_aload_n hx hb dX5_dropOldest_32 rfl (lv_at hl 0 rfl) ?_
            refine zz_getR S hT hB (C := RX5) (ref := "DiagramDesk$History") (F := TX5) (N := 2) (index := 11) 5 0 iwX5 rfl (by decide) (by decide) rfl rfl (wS wd_210) (fun _ h9 => h9) dX5_dropOldest_33 hq (fun a37 hq => ?_)
            refine lv_iload_n hx hb dX5_dropOldest_36 rfl (lv_at hl 2 rfl) ?_
            refine lv_aload_n hx hb dX5_dropOldest_37 rfl (lv_at hl 0 rfl) ?_
            refine zz_getR S hT hB (C := RX5) (ref := "DiagramDesk$History") (F := TX5) (N := 2) (index := 11) 5 0 iwX5 rfl (by decide) (by decide) rfl rfl (wS wd_210) (fun _ h9 => h9) dX5_dropOldest_38 hq (fun a38 hq => ?_)
            refine lv_iload_n hx hb dX5_dropOldest_41 rfl (lv_at hl 2 rfl) ?_
            refine lv_iconst (v := 1) hx hb dX5_dropOldest_42 (by decide) ?_
            refine lv_iadd hx hb dX5_dropOldest_43 ?_
            refine zz_aldR S hT hB 16 3 rfl (by decide) (by decide) dX5_dropOldest_44 hq (fun a39 hq => ?_)
            refine zz_astR S hT hB 16 2 3 (r := (RX2, TX2, 4)) rfl rfl (by decide) (by decide) (by decide) dX5_dropOldest_45 hq (fun s40 H locs hq hB => ?_)
            refine zz_nmV hq (fun x41 ex41 hq => ?_)
            refine lv_iinc (v := x41) (lv' := [(2, .int x41), (0, .ref (ad a0)), (1, .ref (ad a6))]) hx hb dX5_dropOldest_46 hl (k := 2) rfl (by rw [ex41]; rfl) (by decide) rfl (fun ls hl => ?_)
            refine lv_goto (tgt := 21) hx hb dX5_dropOldest_49 (by decide) ?_
            exact ih21 x41 s40 _ _ _ hq hB (lv_sub hl [1, 2, 0] rfl)
      exact L21 N (0 : Int32) s0 _ _ _ hq hB (lv_sub hl [2, 1, 0] rfl)
  refine zz_if_le (tgt := 17) hx hb dX5_dropOldest_5 (by decide) hq (fun hq => ?_) (fun hq => ?_)
  · refine lv_null hx hb dX5_dropOldest_17 ?_
    exact J18 none _ _ _ hq hB (lv_sub hl [0] rfl)
  · refine lv_aload_n hx hb dX5_dropOldest_8 rfl (lv_at hl 0 rfl) ?_
    refine zz_getR S hT hB (C := RX5) (ref := "DiagramDesk$History") (F := TX5) (N := 2) (index := 11) 5 0 iwX5 rfl (by decide) (by decide) rfl rfl (wS wd_210) (fun _ h9 => h9) dX5_dropOldest_9 hq (fun a42 hq => ?_)
    refine lv_iconst (v := 0) hx hb dX5_dropOldest_12 (by decide) ?_
    refine zz_aldR S hT hB 16 3 rfl (by decide) (by decide) dX5_dropOldest_13 hq (fun a43 hq => ?_)
    refine lv_goto (tgt := 18) hx hb dX5_dropOldest_14 (by decide) ?_
    exact J18 (some a43) _ _ _ hq hB (lv_sub hl [0] rfl)
def f_X5_keep_J16 (T : zT) (N : Nat) (a0 : Nat) (a1 : Nat) (s7 : zS) : Option zS :=
  (gI T s7 a0 5 1).bind fun x8 =>
  if x8 < 0 then (
    some s7)
  else (
    (gI T s7 a0 5 1).bind fun x9 =>
    (gR T s7 a0 5 0).bind fun a10 =>
    (aL T a10 16).bind fun x11 =>
    if x11 ≤ x9 then (
      some s7)
    else (
      (gR T s7 a0 5 0).bind fun a12 =>
      (gI T s7 a0 5 1).bind fun x13 =>
      (aR T s7 a12 16 x13).bind fun a14 =>
      (gR T s7 a0 5 0).bind fun a15 =>
      (gI T s7 a0 5 1).bind fun x16 =>
      (aR T s7 a15 16 x16).bind fun a17 =>
      (f_X2_copy T N s7 a17 a1).bind fun s18 =>
      (gI T s18 a0 5 1).bind fun x19 =>
      (pI T s18 a0 5 1 (x19 + (1 : Int32))).bind fun s20 =>
      some s20))
def f_X5_keep (T : zT) (N : Nat) (s0 : zS) (a0 : Nat) (a1 : Nat) : Option zS :=
  zz1 (T.1 a0 = 5) <|
  (gI T s0 a0 5 1).bind fun x4 =>
  (gR T s0 a0 5 0).bind fun a5 =>
  (aL T a5 16).bind fun x6 =>
  if x4 < x6 then (
    f_X5_keep_J16 T N a0 a1 s0)
  else (
    (f_X5_dropOldest T N s0 a0).bind fun s21 =>
    f_X5_keep_J16 T N a0 a1 s21)
theorem k_X5_keep (T : zT) (N : Nat) (s0 : zS) (a0 : Nat) (a1 : Nat) : ∀ q, f_X5_keep T N s0 a0 a1 = some q → T.1 a0 = 5 := by
  intro q h
  unfold f_X5_keep at h
  exact zz_guard h (fun h _ => h)
set_option maxHeartbeats 4000000 in
set_option maxRecDepth 100000 in
theorem c_X5_keep (l : Launch) (D : va_G) (cy : Nat → ClassId) (T : zT) (hT : zok T) (ad : Nat → Nat) (N : Nat) (s0 : zS) (sz : Nat) (a0 : Nat) (a1 : Nat) : ∀ (σ0 : zS), f_X5_keep T N s0 a0 a1 = some σ0 → Met l yX5_keep wsX5_keep ({ frames := 4, cells := 0, slots := 0, locals := 85 }) (va_Pc [.ref (ad a0), .ref (ad a1)] (zPre D cy T ad s0 sz)) (va_Qv (fun σ2 : zS => σ2 = σ0) (zAt D cy T ad (zA T ad sz)) (zA T ad sz)) 0 0 (zA T ad sz) := by
  intro σ0 hq
  refine Met.ofW (cc := cX5_keep) (maxL := 2) (ret := none) (by decide) rfl ?_
  intro p e s m args below meth c s₁ B hml hv
  obtain ⟨hargs, hsz, hP, hK, hD0, hN⟩ := hv
  have hx := B.exec
  have hb := B.bytes
  have hr := B.returns
  have hts := atoms_spec (ws := wsX5_keep) B.pre
  have hown : s.vm.findClass RX5 = some m.cls := findClass_of_methodNamed B.named
  have hlocks := B.notSynchronized
  have S : CallFix p m c cX5_keep 2 s args wsX5_keep RX5 := ⟨hx, hb, hml, hown, hts⟩
  subst hsz
  have hB : zB D cy T ad (zA T ad s.heap.size) s.heap s0 s.heap [] s := zz_entry hP hK hD0 hN
  obtain ⟨ls, hent, hl⟩ := zz_ent m hargs (n := 2) (Nat.le_of_ble_eq_true rfl)
  rw [hent]
  have hl : lv_has ls 2 [(0, .ref (ad a0)), (1, .ref (ad a1))] := hl
  have iwX5 : ∀ w ∈ u_ws RX5 TX5 2, w ∈ wsX5_keep := fun w h => wS (inWX5 w h)
  unfold f_X5_keep at hq
  refine zz_guard hq (fun hk0 hq => ?_)
  refine lv_aload_n hx hb dX5_keep_0 rfl (lv_at hl 0 rfl) ?_
  refine zz_get S hT hB (C := RX5) (ref := "DiagramDesk$History") (F := TX5) (N := 2) (index := 18) 5 1 iwX5 rfl (by decide) (by decide) rfl rfl (wS wd_211) (fun _ h9 => h9) dX5_keep_1 hq (fun x4 hq => ?_)
  refine lv_aload_n hx hb dX5_keep_4 rfl (lv_at hl 0 rfl) ?_
  refine zz_getR S hT hB (C := RX5) (ref := "DiagramDesk$History") (F := TX5) (N := 2) (index := 11) 5 0 iwX5 rfl (by decide) (by decide) rfl rfl (wS wd_210) (fun _ h9 => h9) dX5_keep_5 hq (fun a5 hq => ?_)
  refine zz_alen S hT hB 16 (by decide) (by decide) dX5_keep_8 hq (fun x6 hq => ?_)
  have J16 : ∀ (s7 : zS) (H : Heap) (locs : List Loc) (ls : Array Slot), f_X5_keep_J16 T N a0 a1 s7 = some σ0 → zB D cy T ad (zA T ad s.heap.size) s.heap s7 H locs s → lv_has ls 2 [(0, .ref (ad a0)), (1, .ref (ad a1))] → W p l e (headSpec wsX5_keep ({ frames := 4, cells := 0, slots := 0, locals := 85 } : Room)).room s m args below meth c H locs 0 0 (MQ below (va_Qv (fun σ2 : zS => σ2 = σ0) (zAt D cy T ad (zA T ad s.heap.size)) (zA T ad s.heap.size)) args s 0 0 (zA T ad s.heap.size)) (F0 m 16 ls []) := by
    intro s7 H locs ls hq hB hl
    unfold f_X5_keep_J16 at hq
    refine lv_aload_n hx hb dX5_keep_16 rfl (lv_at hl 0 rfl) ?_
    refine zz_get S hT hB (C := RX5) (ref := "DiagramDesk$History") (F := TX5) (N := 2) (index := 18) 5 1 iwX5 rfl (by decide) (by decide) rfl rfl (wS wd_211) (fun _ h9 => h9) dX5_keep_17 hq (fun x8 hq => ?_)
    refine zz_if_lt (tgt := 70) hx hb dX5_keep_20 (by decide) hq (fun hq => ?_) (fun hq => ?_)
    · exact zz_vret S hB hr hlocks dX5_keep_70 hq
    · refine lv_aload_n hx hb dX5_keep_23 rfl (lv_at hl 0 rfl) ?_
      refine zz_get S hT hB (C := RX5) (ref := "DiagramDesk$History") (F := TX5) (N := 2) (index := 18) 5 1 iwX5 rfl (by decide) (by decide) rfl rfl (wS wd_211) (fun _ h9 => h9) dX5_keep_24 hq (fun x9 hq => ?_)
      refine lv_aload_n hx hb dX5_keep_27 rfl (lv_at hl 0 rfl) ?_
      refine zz_getR S hT hB (C := RX5) (ref := "DiagramDesk$History") (F := TX5) (N := 2) (index := 11) 5 0 iwX5 rfl (by decide) (by decide) rfl rfl (wS wd_210) (fun _ h9 => h9) dX5_keep_28 hq (fun a10 hq => ?_)
      refine zz_alen S hT hB 16 (by decide) (by decide) dX5_keep_31 hq (fun x11 hq => ?_)
      refine zz_icmp_ge (tgt := 70) hx hb dX5_keep_32 (by decide) hq (fun hq => ?_) (fun hq => ?_)
      · exact zz_vret S hB hr hlocks dX5_keep_70 hq
      · refine lv_aload_n hx hb dX5_keep_35 rfl (lv_at hl 0 rfl) ?_
        refine zz_getR S hT hB (C := RX5) (ref := "DiagramDesk$History") (F := TX5) (N := 2) (index := 11) 5 0 iwX5 rfl (by decide) (by decide) rfl rfl (wS wd_210) (fun _ h9 => h9) dX5_keep_36 hq (fun a12 hq => ?_)
        refine lv_aload_n hx hb dX5_keep_39 rfl (lv_at hl 0 rfl) ?_
        refine zz_get S hT hB (C := RX5) (ref := "DiagramDesk$History") (F := TX5) (N := 2) (index := 18) 5 1 iwX5 rfl (by decide) (by decide) rfl rfl (wS wd_211) (fun _ h9 => h9) dX5_keep_40 hq (fun x13 hq => ?_)
        refine zz_aldR S hT hB 16 3 rfl (by decide) (by decide) dX5_keep_43 hq (fun a14 hq => ?_)
        refine lv_ifnull hx hb dX5_keep_44 ?_
        refine lv_aload_n hx hb dX5_keep_47 rfl (lv_at hl 0 rfl) ?_
        refine zz_getR S hT hB (C := RX5) (ref := "DiagramDesk$History") (F := TX5) (N := 2) (index := 11) 5 0 iwX5 rfl (by decide) (by decide) rfl rfl (wS wd_210) (fun _ h9 => h9) dX5_keep_48 hq (fun a15 hq => ?_)
        refine lv_aload_n hx hb dX5_keep_51 rfl (lv_at hl 0 rfl) ?_
        refine zz_get S hT hB (C := RX5) (ref := "DiagramDesk$History") (F := TX5) (N := 2) (index := 18) 5 1 iwX5 rfl (by decide) (by decide) rfl rfl (wS wd_211) (fun _ h9 => h9) dX5_keep_52 hq (fun x16 hq => ?_)
        refine zz_aldR S hT hB 16 3 rfl (by decide) (by decide) dX5_keep_55 hq (fun a17 hq => ?_)
        refine lv_aload_n hx hb dX5_keep_56 rfl (lv_at hl 1 rfl) ?_
        refine zz_callVv S hT hB (As := [.ref (ad a1)]) (b := a17) (o := f_X2_copy T N s7 a17 a1) (c_X2_copy l D cy T hT ad N s7 _ a17 a1) (cwV 1 hts (gV wSub wd_217 wd_218 wd_219 wd_174 wd_220) rfl rfl rfl (by decide +kernel) ⟨Nat.le_of_ble_eq_true rfl, Nat.le_of_ble_eq_true rfl⟩) (F := TX2) (NF := 4) 2 rfl (by decide) (k_X2_copy T N s7 a17 a1) rfl hl.1 rfl (Nat.le_of_ble_eq_true rfl) dX5_keep_57 hq (fun s18 H locs hq hB => ?_)
        refine lv_aload_n hx hb dX5_keep_60 rfl (lv_at hl 0 rfl) ?_
        refine lv_dup hx hb dX5_keep_61 rfl ?_
        refine zz_get S hT hB (C := RX5) (ref := "DiagramDesk$History") (F := TX5) (N := 2) (index := 18) 5 1 iwX5 rfl (by decide) (by decide) rfl rfl (wS wd_211) (fun _ h9 => h9) dX5_keep_62 hq (fun x19 hq => ?_)
        refine lv_iconst (v := 1) hx hb dX5_keep_65 (by decide) ?_
        refine lv_iadd hx hb dX5_keep_66 ?_
        refine zz_put S hT hB (C := RX5) (ref := "DiagramDesk$History") (F := TX5) (N := 2) (index := 18) 5 1 iwX5 tyX5 tyX5_ok nmX5 rfl (by decide) (by decide) rfl rfl (wS wd_211) (fun _ h9 => h9) rfl (by decide +kernel) dX5_keep_67 hq (fun s20 H locs hq hB => ?_)
        exact zz_vret S hB hr hlocks dX5_keep_70 hq
  refine zz_icmp_lt (tgt := 16) hx hb dX5_keep_9 (by decide) hq (fun hq => ?_) (fun hq => ?_)
  · exact J16 s0 _ _ _ hq hB (lv_sub hl [0, 1] rfl)
  · refine lv_aload_n hx hb dX5_keep_12 rfl (lv_at hl 0 rfl) ?_
    refine zz_callVv S hT hB (As := []) (b := a0) (o := f_X5_dropOldest T N s0 a0) (c_X5_dropOldest l D cy T hT ad N s0 _ a0) (cwV 0 hts (gV wSub wd_212 wd_213 wd_214 wd_215 wd_216) rfl rfl rfl (by decide +kernel) ⟨Nat.le_of_ble_eq_true rfl, Nat.le_of_ble_eq_true rfl⟩) (F := TX5) (NF := 2) 5 rfl (by decide) (k_X5_dropOldest T N s0 a0) rfl hl.1 rfl (Nat.le_of_ble_eq_true rfl) dX5_keep_13 hq (fun s21 H locs hq hB => ?_)
    exact J16 s21 _ _ _ hq hB (lv_sub hl [0, 1] rfl)
def f_X5_back (T : zT) (N : Nat) (s0 : zS) (a0 : Nat) (a1 : Nat) : Option (Int32 × zS) :=
  zz1 (T.1 a0 = 5) <|
  (gI T s0 a0 5 1).bind fun x4 =>
  zn (x4 - (1 : Int32)) fun x5 =>
  if x5 < 0 then (
    rZ (0 : Int32) s0)
  else (
    (gR T s0 a0 5 0).bind fun a6 =>
    (aL T a6 16).bind fun x7 =>
    if x7 ≤ x5 then (
      rZ (0 : Int32) s0)
    else (
      (gR T s0 a0 5 0).bind fun a8 =>
      (aR T s0 a8 16 x5).bind fun a9 =>
      (gR T s0 a0 5 0).bind fun a10 =>
      (aR T s0 a10 16 x5).bind fun a11 =>
      (f_X2_copy T N s0 a1 a11).bind fun s12 =>
      (pI T s12 a0 5 1 x5).bind fun s13 =>
      rZ (1 : Int32) s13))
theorem k_X5_back (T : zT) (N : Nat) (s0 : zS) (a0 : Nat) (a1 : Nat) : ∀ q, f_X5_back T N s0 a0 a1 = some q → T.1 a0 = 5 := by
  intro q h
  unfold f_X5_back at h
  exact zz_guard h (fun h _ => h)
set_option maxHeartbeats 4000000 in
set_option maxRecDepth 100000 in
theorem c_X5_back (l : Launch) (D : va_G) (cy : Nat → ClassId) (T : zT) (hT : zok T) (ad : Nat → Nat) (N : Nat) (s0 : zS) (sz : Nat) (a0 : Nat) (a1 : Nat) : ∀ (r0 : Int32) (σ0 : zS), f_X5_back T N s0 a0 a1 = some (r0, σ0) → Met l yX5_back wsX5_back ({ frames := 4, cells := 0, slots := 0, locals := 85 }) (va_Pc [.ref (ad a0), .ref (ad a1)] (zPre D cy T ad s0 sz)) (va_Qi (fun (r2 : Int32) (σ2 : zS) => r2 = r0 ∧ σ2 = σ0) (zAt D cy T ad (zA T ad sz)) (zA T ad sz)) 0 0 (zA T ad sz) := by
  intro r0 σ0 hq
  refine Met.ofW (cc := cX5_back) (maxL := 3) (ret := (some .boolean)) (by decide) rfl ?_
  intro p e s m args below meth c s₁ B hml hv
  obtain ⟨hargs, hsz, hP, hK, hD0, hN⟩ := hv
  have hx := B.exec
  have hb := B.bytes
  have hr := B.returns
  have hts := atoms_spec (ws := wsX5_back) B.pre
  have hown : s.vm.findClass RX5 = some m.cls := findClass_of_methodNamed B.named
  have hlocks := B.notSynchronized
  have S : CallFix p m c cX5_back 3 s args wsX5_back RX5 := ⟨hx, hb, hml, hown, hts⟩
  subst hsz
  have hB : zB D cy T ad (zA T ad s.heap.size) s.heap s0 s.heap [] s := zz_entry hP hK hD0 hN
  obtain ⟨ls, hent, hl⟩ := zz_ent m hargs (n := 3) (Nat.le_of_ble_eq_true rfl)
  rw [hent]
  have hl : lv_has ls 3 [(0, .ref (ad a0)), (1, .ref (ad a1))] := hl
  have iwX5 : ∀ w ∈ u_ws RX5 TX5 2, w ∈ wsX5_back := fun w h => wS (inWX5 w h)
  unfold f_X5_back at hq
  refine zz_guard hq (fun hk0 hq => ?_)
  refine lv_aload_n hx hb dX5_back_0 rfl (lv_at hl 0 rfl) ?_
  refine zz_get S hT hB (C := RX5) (ref := "DiagramDesk$History") (F := TX5) (N := 2) (index := 18) 5 1 iwX5 rfl (by decide) (by decide) rfl rfl (wS wd_211) (fun _ h9 => h9) dX5_back_1 hq (fun x4 hq => ?_)
  refine lv_iconst (v := 1) hx hb dX5_back_4 (by decide) ?_
  refine lv_isub hx hb dX5_back_5 ?_
  refine zz_nmI hq (fun x5 hq => ?_)
  refine lv_istore_n (lv' := [(2, .int x5), (0, .ref (ad a0)), (1, .ref (ad a1))]) hx hb dX5_back_6 rfl hl (by decide) rfl (fun ls hl => ?_)
  refine lv_iload_n hx hb dX5_back_7 rfl (lv_at hl 0 rfl) ?_
  refine zz_if_lt (tgt := 29) hx hb dX5_back_8 (by decide) hq (fun hq => ?_) (fun hq => ?_)
  · refine lv_iconst (v := 0) hx hb dX5_back_29 (by decide) ?_
    exact zz_zret S hB hr hlocks dX5_back_30 hq
  · refine lv_iload_n hx hb dX5_back_11 rfl (lv_at hl 0 rfl) ?_
    refine lv_aload_n hx hb dX5_back_12 rfl (lv_at hl 1 rfl) ?_
    refine zz_getR S hT hB (C := RX5) (ref := "DiagramDesk$History") (F := TX5) (N := 2) (index := 11) 5 0 iwX5 rfl (by decide) (by decide) rfl rfl (wS wd_210) (fun _ h9 => h9) dX5_back_13 hq (fun a6 hq => ?_)
    refine zz_alen S hT hB 16 (by decide) (by decide) dX5_back_16 hq (fun x7 hq => ?_)
    refine zz_icmp_ge (tgt := 29) hx hb dX5_back_17 (by decide) hq (fun hq => ?_) (fun hq => ?_)
    · refine lv_iconst (v := 0) hx hb dX5_back_29 (by decide) ?_
      exact zz_zret S hB hr hlocks dX5_back_30 hq
    · refine lv_aload_n hx hb dX5_back_20 rfl (lv_at hl 1 rfl) ?_
      refine zz_getR S hT hB (C := RX5) (ref := "DiagramDesk$History") (F := TX5) (N := 2) (index := 11) 5 0 iwX5 rfl (by decide) (by decide) rfl rfl (wS wd_210) (fun _ h9 => h9) dX5_back_21 hq (fun a8 hq => ?_)
      refine lv_iload_n hx hb dX5_back_24 rfl (lv_at hl 0 rfl) ?_
      refine zz_aldR S hT hB 16 3 rfl (by decide) (by decide) dX5_back_25 hq (fun a9 hq => ?_)
      refine lv_ifnonnull (tgt := 31) hx hb dX5_back_26 (by decide) ?_
      refine lv_aload_n hx hb dX5_back_31 rfl (lv_at hl 2 rfl) ?_
      refine lv_aload_n hx hb dX5_back_32 rfl (lv_at hl 1 rfl) ?_
      refine zz_getR S hT hB (C := RX5) (ref := "DiagramDesk$History") (F := TX5) (N := 2) (index := 11) 5 0 iwX5 rfl (by decide) (by decide) rfl rfl (wS wd_210) (fun _ h9 => h9) dX5_back_33 hq (fun a10 hq => ?_)
      refine lv_iload_n hx hb dX5_back_36 rfl (lv_at hl 0 rfl) ?_
      refine zz_aldR S hT hB 16 3 rfl (by decide) (by decide) dX5_back_37 hq (fun a11 hq => ?_)
      refine zz_callVv S hT hB (As := [.ref (ad a11)]) (b := a1) (o := f_X2_copy T N s0 a1 a11) (c_X2_copy l D cy T hT ad N s0 _ a1 a11) (cwV 1 hts (gV wSub wd_217 wd_218 wd_219 wd_174 wd_220) rfl rfl rfl (by decide +kernel) ⟨Nat.le_of_ble_eq_true rfl, Nat.le_of_ble_eq_true rfl⟩) (F := TX2) (NF := 4) 2 rfl (by decide) (k_X2_copy T N s0 a1 a11) rfl hl.1 rfl (Nat.le_of_ble_eq_true rfl) dX5_back_38 hq (fun s12 H locs hq hB => ?_)
      refine lv_aload_n hx hb dX5_back_41 rfl (lv_at hl 1 rfl) ?_
      refine lv_iload_n hx hb dX5_back_42 rfl (lv_at hl 0 rfl) ?_
      refine zz_put S hT hB (C := RX5) (ref := "DiagramDesk$History") (F := TX5) (N := 2) (index := 18) 5 1 iwX5 tyX5 tyX5_ok nmX5 rfl (by decide) (by decide) rfl rfl (wS wd_211) (fun _ h9 => h9) rfl (by decide +kernel) dX5_back_43 hq (fun s13 H locs hq hB => ?_)
      refine lv_iconst (v := 1) hx hb dX5_back_46 (by decide) ?_
      exact zz_zret S hB hr hlocks dX5_back_47 hq
def f_X6_shift (T : zT) (N : Nat) (s0 : zS) (a0 : Nat) (x1 : Int32) (x2 : Int32) : Option zS :=
  zz1 (T.1 a0 = 6) <|
  if ¬ x1 = 0 then (
    (gI T s0 a0 6 3).bind fun x5 =>
    (pI T s0 a0 6 3 (x5 + x2)).bind fun s6 =>
    some s6)
  else (
    (gI T s0 a0 6 2).bind fun x7 =>
    (pI T s0 a0 6 2 (x7 + x2)).bind fun s8 =>
    some s8)
theorem k_X6_shift (T : zT) (N : Nat) (s0 : zS) (a0 : Nat) (x1 : Int32) (x2 : Int32) : ∀ q, f_X6_shift T N s0 a0 x1 x2 = some q → T.1 a0 = 6 := by
  intro q h
  unfold f_X6_shift at h
  exact zz_guard h (fun h _ => h)
set_option maxHeartbeats 4000000 in
set_option maxRecDepth 100000 in
theorem c_X6_shift (l : Launch) (D : va_G) (cy : Nat → ClassId) (T : zT) (hT : zok T) (ad : Nat → Nat) (N : Nat) (s0 : zS) (sz : Nat) (a0 : Nat) (x1 : Int32) (x2 : Int32) : ∀ (σ0 : zS), f_X6_shift T N s0 a0 x1 x2 = some σ0 → Met l yX6_shift wsX6_shift ({ frames := 0, cells := 0, slots := 0, locals := 0 }) (va_Pc [.ref (ad a0), .int x1, .int x2] (zPre D cy T ad s0 sz)) (va_Qv (fun σ2 : zS => σ2 = σ0) (zAt D cy T ad (zA T ad sz)) (zA T ad sz)) 0 0 (zA T ad sz) := by
  intro σ0 hq
  refine Met.ofW (cc := cX6_shift) (maxL := 3) (ret := none) (by decide) rfl ?_
  intro p e s m args below meth c s₁ B hml hv
  obtain ⟨hargs, hsz, hP, hK, hD0, hN⟩ := hv
  have hx := B.exec
  have hb := B.bytes
  have hr := B.returns
  have hts := atoms_spec (ws := wsX6_shift) B.pre
  have hown : s.vm.findClass RX6 = some m.cls := findClass_of_methodNamed B.named
  have hlocks := B.notSynchronized
  have S : CallFix p m c cX6_shift 3 s args wsX6_shift RX6 := ⟨hx, hb, hml, hown, hts⟩
  subst hsz
  have hB : zB D cy T ad (zA T ad s.heap.size) s.heap s0 s.heap [] s := zz_entry hP hK hD0 hN
  obtain ⟨ls, hent, hl⟩ := zz_ent m hargs (n := 3) (Nat.le_of_ble_eq_true rfl)
  rw [hent]
  have hl : lv_has ls 3 [(0, .ref (ad a0)), (1, .int x1), (2, .int x2)] := hl
  have iwX6 : ∀ w ∈ u_ws RX6 TX6 8, w ∈ wsX6_shift := fun w h => wS (inWX6 w h)
  unfold f_X6_shift at hq
  refine zz_guard hq (fun hk0 hq => ?_)
  refine lv_iload_n hx hb dX6_shift_0 rfl (lv_at hl 1 rfl) ?_
  refine zz_if_ne (tgt := 17) hx hb dX6_shift_1 (by decide) hq (fun hq => ?_) (fun hq => ?_)
  · refine lv_aload_n hx hb dX6_shift_17 rfl (lv_at hl 0 rfl) ?_
    refine lv_dup hx hb dX6_shift_18 rfl ?_
    refine zz_get S hT hB (C := RX6) (ref := "DiagramDesk$Shape") (F := TX6) (N := 8) (index := 22) 6 3 iwX6 rfl (by decide) (by decide) rfl rfl (wS wd_7) (fun _ h9 => h9) dX6_shift_19 hq (fun x5 hq => ?_)
    refine lv_iload_n hx hb dX6_shift_22 rfl (lv_at hl 2 rfl) ?_
    refine lv_iadd hx hb dX6_shift_23 ?_
    refine zz_put S hT hB (C := RX6) (ref := "DiagramDesk$Shape") (F := TX6) (N := 8) (index := 22) 6 3 iwX6 tyX6 tyX6_ok nmX6 rfl (by decide) (by decide) rfl rfl (wS wd_7) (fun _ h9 => h9) rfl (by decide +kernel) dX6_shift_24 hq (fun s6 H locs hq hB => ?_)
    exact zz_vret S hB hr hlocks dX6_shift_27 hq
  · refine lv_aload_n hx hb dX6_shift_4 rfl (lv_at hl 0 rfl) ?_
    refine lv_dup hx hb dX6_shift_5 rfl ?_
    refine zz_get S hT hB (C := RX6) (ref := "DiagramDesk$Shape") (F := TX6) (N := 8) (index := 19) 6 2 iwX6 rfl (by decide) (by decide) rfl rfl (wS wd_8) (fun _ h9 => h9) dX6_shift_6 hq (fun x7 hq => ?_)
    refine lv_iload_n hx hb dX6_shift_9 rfl (lv_at hl 2 rfl) ?_
    refine lv_iadd hx hb dX6_shift_10 ?_
    refine zz_put S hT hB (C := RX6) (ref := "DiagramDesk$Shape") (F := TX6) (N := 8) (index := 19) 6 2 iwX6 tyX6 tyX6_ok nmX6 rfl (by decide) (by decide) rfl rfl (wS wd_8) (fun _ h9 => h9) rfl (by decide +kernel) dX6_shift_11 hq (fun s8 H locs hq hB => ?_)
    refine lv_goto (tgt := 27) hx hb dX6_shift_14 (by decide) ?_
    exact zz_vret S hB hr hlocks dX6_shift_27 hq
def f_X11_isWithin (T : zT) (N : Nat) (s0 : zS) (x0 : Int32) (x1 : Int32) (x2 : Int32) : Option (Int32 × zS) :=
  if x0 < x1 then (
    rZ (0 : Int32) s0)
  else (
    if x2 < x0 then (
      rZ (0 : Int32) s0)
    else (
      rZ (1 : Int32) s0))
set_option maxHeartbeats 4000000 in
set_option maxRecDepth 100000 in
theorem c_X11_isWithin (l : Launch) (D : va_G) (cy : Nat → ClassId) (T : zT) (hT : zok T) (ad : Nat → Nat) (N : Nat) (s0 : zS) (sz : Nat) (x0 : Int32) (x1 : Int32) (x2 : Int32) : ∀ (r0 : Int32) (σ0 : zS), f_X11_isWithin T N s0 x0 x1 x2 = some (r0, σ0) → Met l yX11_isWithin wsX11_isWithin ({ frames := 0, cells := 0, slots := 0, locals := 0 }) (va_Pc [.int x0, .int x1, .int x2] (zPre D cy T ad s0 sz)) (va_Qi (fun (r2 : Int32) (σ2 : zS) => r2 = r0 ∧ σ2 = σ0) (zAt D cy T ad (zA T ad sz)) (zA T ad sz)) 0 0 (zA T ad sz) := by
  intro r0 σ0 hq
  refine Met.ofW (cc := cX11_isWithin) (maxL := 3) (ret := (some .boolean)) (by decide) rfl ?_
  intro p e s m args below meth c s₁ B hml hv
  obtain ⟨hargs, hsz, hP, hK, hD0, hN⟩ := hv
  have hx := B.exec
  have hb := B.bytes
  have hr := B.returns
  have hts := atoms_spec (ws := wsX11_isWithin) B.pre
  have hown : s.vm.findClass RX11 = some m.cls := findClass_of_methodNamed B.named
  have hlocks := B.notSynchronized
  have S : CallFix p m c cX11_isWithin 3 s args wsX11_isWithin RX11 := ⟨hx, hb, hml, hown, hts⟩
  subst hsz
  have hB : zB D cy T ad (zA T ad s.heap.size) s.heap s0 s.heap [] s := zz_entry hP hK hD0 hN
  obtain ⟨ls, hent, hl⟩ := zz_ent m hargs (n := 3) (Nat.le_of_ble_eq_true rfl)
  rw [hent]
  have hl : lv_has ls 3 [(0, .int x0), (1, .int x1), (2, .int x2)] := hl
  unfold f_X11_isWithin at hq
  refine lv_iload_n hx hb dX11_isWithin_0 rfl (lv_at hl 0 rfl) ?_
  refine lv_iload_n hx hb dX11_isWithin_1 rfl (lv_at hl 1 rfl) ?_
  refine zz_icmp_lt (tgt := 14) hx hb dX11_isWithin_2 (by decide) hq (fun hq => ?_) (fun hq => ?_)
  · refine lv_iconst (v := 0) hx hb dX11_isWithin_14 (by decide) ?_
    exact zz_zret S hB hr hlocks dX11_isWithin_15 hq
  · refine lv_iload_n hx hb dX11_isWithin_5 rfl (lv_at hl 0 rfl) ?_
    refine lv_iload_n hx hb dX11_isWithin_6 rfl (lv_at hl 2 rfl) ?_
    refine zz_icmp_gt (tgt := 14) hx hb dX11_isWithin_7 (by decide) hq (fun hq => ?_) (fun hq => ?_)
    · refine lv_iconst (v := 0) hx hb dX11_isWithin_14 (by decide) ?_
      exact zz_zret S hB hr hlocks dX11_isWithin_15 hq
    · refine lv_iconst (v := 1) hx hb dX11_isWithin_10 (by decide) ?_
      refine lv_goto (tgt := 15) hx hb dX11_isWithin_11 (by decide) ?_
      exact zz_zret S hB hr hlocks dX11_isWithin_15 hq
def f_X6_holds_J54 (T : zT) (N : Nat) (s0 : zS) (a0 : Nat) (x1 : Int32) (x2 : Int32) : Option (Int32 × zS) :=
  (gI T s0 a0 6 2).bind fun x6 =>
  (gI T s0 a0 6 4).bind fun x7 =>
  zn (if 0 < ((((2 : Int64) * ((x1).toInt64)) - ((2 : Int64) * ((x6).toInt64))) - ((x7).toInt64)) then ((((2 : Int64) * ((x1).toInt64)) - ((2 : Int64) * ((x6).toInt64))) - ((x7).toInt64)) else -((((2 : Int64) * ((x1).toInt64)) - ((2 : Int64) * ((x6).toInt64))) - ((x7).toInt64))) fun y8 =>
  (gI T s0 a0 6 3).bind fun x9 =>
  (gI T s0 a0 6 5).bind fun x10 =>
  zn (if 0 < ((((2 : Int64) * ((x2).toInt64)) - ((2 : Int64) * ((x9).toInt64))) - ((x10).toInt64)) then ((((2 : Int64) * ((x2).toInt64)) - ((2 : Int64) * ((x9).toInt64))) - ((x10).toInt64)) else -((((2 : Int64) * ((x2).toInt64)) - ((2 : Int64) * ((x9).toInt64))) - ((x10).toInt64))) fun y11 =>
  (gI T s0 a0 6 4).bind fun x12 =>
  zn ((x12).toInt64) fun y13 =>
  (gI T s0 a0 6 5).bind fun x14 =>
  zn ((x14).toInt64) fun y15 =>
  (gI T s0 a0 6 1).bind fun x16 =>
  if ¬ x16 = (1 : Int32) then (
    if 0 < (lg_cmp ((y8 * y15) + (y11 * y13)) (y13 * y15)) then (
      rZ (0 : Int32) s0)
    else (
      rZ (1 : Int32) s0))
  else (
    if 0 < (lg_cmp ((((y8 * y8) * y15) * y15) + (((y11 * y11) * y13) * y13)) (((y13 * y13) * y15) * y15)) then (
      rZ (0 : Int32) s0)
    else (
      rZ (1 : Int32) s0))
def f_X6_holds (T : zT) (N : Nat) (s0 : zS) (a0 : Nat) (x1 : Int32) (x2 : Int32) : Option (Int32 × zS) :=
  zz1 (T.1 a0 = 6) <|
  (gI T s0 a0 6 1).bind fun x5 =>
  if x5 = (1 : Int32) then (
    f_X6_holds_J54 T N s0 a0 x1 x2)
  else (
    (gI T s0 a0 6 1).bind fun x17 =>
    if x17 = (2 : Int32) then (
      f_X6_holds_J54 T N s0 a0 x1 x2)
    else (
      (gI T s0 a0 6 2).bind fun x18 =>
      zb2 (f_X6_end T N s0 a0 (0 : Int32)) fun x20 s19 =>
      zb2 (f_X11_isWithin T N s19 x1 x18 x20) fun x22 s21 =>
      if x22 = 0 then (
        rZ (0 : Int32) s21)
      else (
        (gI T s21 a0 6 3).bind fun x23 =>
        zb2 (f_X6_end T N s21 a0 (1 : Int32)) fun x25 s24 =>
        zb2 (f_X11_isWithin T N s24 x2 x23 x25) fun x27 s26 =>
        if x27 = 0 then (
          rZ (0 : Int32) s26)
        else (
          rZ (1 : Int32) s26))))
theorem k_X6_holds (T : zT) (N : Nat) (s0 : zS) (a0 : Nat) (x1 : Int32) (x2 : Int32) : ∀ q, f_X6_holds T N s0 a0 x1 x2 = some q → T.1 a0 = 6 := by
  intro q h
  unfold f_X6_holds at h
  exact zz_guard h (fun h _ => h)
set_option maxHeartbeats 4000000 in
set_option maxRecDepth 100000 in
theorem c_X6_holds (l : Launch) (D : va_G) (cy : Nat → ClassId) (T : zT) (hT : zok T) (ad : Nat → Nat) (N : Nat) (s0 : zS) (sz : Nat) (a0 : Nat) (x1 : Int32) (x2 : Int32) : ∀ (r0 : Int32) (σ0 : zS), f_X6_holds T N s0 a0 x1 x2 = some (r0, σ0) → Met l yX6_holds wsX6_holds ({ frames := 2, cells := 0, slots := 0, locals := 42 }) (va_Pc [.ref (ad a0), .int x1, .int x2] (zPre D cy T ad s0 sz)) (va_Qi (fun (r2 : Int32) (σ2 : zS) => r2 = r0 ∧ σ2 = σ0) (zAt D cy T ad (zA T ad sz)) (zA T ad sz)) 0 0 (zA T ad sz) := by
  intro r0 σ0 hq
  refine Met.ofW (cc := cX6_holds) (maxL := 11) (ret := (some .boolean)) (by decide) rfl ?_
  intro p e s m args below meth c s₁ B hml hv
  obtain ⟨hargs, hsz, hP, hK, hD0, hN⟩ := hv
  have hx := B.exec
  have hb := B.bytes
  have hr := B.returns
  have hts := atoms_spec (ws := wsX6_holds) B.pre
  have hown : s.vm.findClass RX6 = some m.cls := findClass_of_methodNamed B.named
  have hlocks := B.notSynchronized
  have S : CallFix p m c cX6_holds 11 s args wsX6_holds RX6 := ⟨hx, hb, hml, hown, hts⟩
  subst hsz
  have hB : zB D cy T ad (zA T ad s.heap.size) s.heap s0 s.heap [] s := zz_entry hP hK hD0 hN
  obtain ⟨ls, hent, hl⟩ := zz_ent m hargs (n := 11) (Nat.le_of_ble_eq_true rfl)
  rw [hent]
  have hl : lv_has ls 11 [(0, .ref (ad a0)), (1, .int x1), (2, .int x2)] := hl
  have iwX6 : ∀ w ∈ u_ws RX6 TX6 8, w ∈ wsX6_holds := fun w h => wS (inWX6 w h)
  unfold f_X6_holds at hq
  refine zz_guard hq (fun hk0 hq => ?_)
  refine lv_aload_n hx hb dX6_holds_0 rfl (lv_at hl 0 rfl) ?_
  refine zz_get S hT hB (C := RX6) (ref := "DiagramDesk$Shape") (F := TX6) (N := 8) (index := 15) 6 1 iwX6 rfl (by decide) (by decide) rfl rfl (wS wd_105) (fun _ h9 => h9) dX6_holds_1 hq (fun x5 hq => ?_)
  refine lv_iconst (v := 1) hx hb dX6_holds_4 (by decide) ?_
  have J54 : ∀ (H : Heap) (locs : List Loc) (ls : Array Slot), f_X6_holds_J54 T N s0 a0 x1 x2 = some (r0, σ0) → zB D cy T ad (zA T ad s.heap.size) s.heap s0 H locs s → lv_has ls 11 [(0, .ref (ad a0)), (1, .int x1), (2, .int x2)] → W p l e (headSpec wsX6_holds ({ frames := 2, cells := 0, slots := 0, locals := 42 } : Room)).room s m args below meth c H locs 0 0 (MQ below (va_Qi (fun (r2 : Int32) (σ2 : zS) => r2 = r0 ∧ σ2 = σ0) (zAt D cy T ad (zA T ad s.heap.size)) (zA T ad s.heap.size)) args s 0 0 (zA T ad s.heap.size)) (F0 m 54 ls []) := by
    intro H locs ls hq hB hl
    unfold f_X6_holds_J54 at hq
    refine lv_ldc2 (v := 2) hx hb hown (hts _ (wS wd_223)) dX6_holds_54 ?_
    refine lv_iload_n hx hb dX6_holds_57 rfl (lv_at hl 1 rfl) ?_
    refine lv_i2l (v := (x1).toInt64) hx hb dX6_holds_58 rfl ?_
    refine lv_lmul hx hb dX6_holds_59 ?_
    refine lv_ldc2 (v := 2) hx hb hown (hts _ (wS wd_223)) dX6_holds_60 ?_
    refine lv_aload_n hx hb dX6_holds_63 rfl (lv_at hl 0 rfl) ?_
    refine zz_get S hT hB (C := RX6) (ref := "DiagramDesk$Shape") (F := TX6) (N := 8) (index := 19) 6 2 iwX6 rfl (by decide) (by decide) rfl rfl (wS wd_8) (fun _ h9 => h9) dX6_holds_64 hq (fun x6 hq => ?_)
    refine lv_i2l (v := (x6).toInt64) hx hb dX6_holds_67 rfl ?_
    refine lv_lmul hx hb dX6_holds_68 ?_
    refine lv_lsub hx hb dX6_holds_69 ?_
    refine lv_aload_n hx hb dX6_holds_70 rfl (lv_at hl 0 rfl) ?_
    refine zz_get S hT hB (C := RX6) (ref := "DiagramDesk$Shape") (F := TX6) (N := 8) (index := 25) 6 4 iwX6 rfl (by decide) (by decide) rfl rfl (wS wd_10) (fun _ h9 => h9) dX6_holds_71 hq (fun x7 hq => ?_)
    refine lv_i2l (v := (x7).toInt64) hx hb dX6_holds_74 rfl ?_
    refine lv_lsub hx hb dX6_holds_75 ?_
    refine zz_absl S hl.1 (wS wd_224) (wS wd_225) (wS wd_54) (wS wd_226) (Nat.le_of_ble_eq_true rfl) (Nat.le_of_ble_eq_true rfl) dX6_holds_76 ?_
    refine zz_nmJ hq (fun y8 hq => ?_)
    refine lv_lstore_n (lv' := [(3, .long y8), (0, .ref (ad a0)), (1, .int x1), (2, .int x2)]) hx hb dX6_holds_79 rfl hl (by decide) rfl (fun ls hl => ?_)
    refine lv_ldc2 (v := 2) hx hb hown (hts _ (wS wd_223)) dX6_holds_80 ?_
    refine lv_iload_n hx hb dX6_holds_83 rfl (lv_at hl 3 rfl) ?_
    refine lv_i2l (v := (x2).toInt64) hx hb dX6_holds_84 rfl ?_
    refine lv_lmul hx hb dX6_holds_85 ?_
    refine lv_ldc2 (v := 2) hx hb hown (hts _ (wS wd_223)) dX6_holds_86 ?_
    refine lv_aload_n hx hb dX6_holds_89 rfl (lv_at hl 1 rfl) ?_
    refine zz_get S hT hB (C := RX6) (ref := "DiagramDesk$Shape") (F := TX6) (N := 8) (index := 22) 6 3 iwX6 rfl (by decide) (by decide) rfl rfl (wS wd_7) (fun _ h9 => h9) dX6_holds_90 hq (fun x9 hq => ?_)
    refine lv_i2l (v := (x9).toInt64) hx hb dX6_holds_93 rfl ?_
    refine lv_lmul hx hb dX6_holds_94 ?_
    refine lv_lsub hx hb dX6_holds_95 ?_
    refine lv_aload_n hx hb dX6_holds_96 rfl (lv_at hl 1 rfl) ?_
    refine zz_get S hT hB (C := RX6) (ref := "DiagramDesk$Shape") (F := TX6) (N := 8) (index := 28) 6 5 iwX6 rfl (by decide) (by decide) rfl rfl (wS wd_9) (fun _ h9 => h9) dX6_holds_97 hq (fun x10 hq => ?_)
    refine lv_i2l (v := (x10).toInt64) hx hb dX6_holds_100 rfl ?_
    refine lv_lsub hx hb dX6_holds_101 ?_
    refine zz_absl S hl.1 (wS wd_224) (wS wd_225) (wS wd_54) (wS wd_226) (Nat.le_of_ble_eq_true rfl) (Nat.le_of_ble_eq_true rfl) dX6_holds_102 ?_
    refine zz_nmJ hq (fun y11 hq => ?_)
    refine lv_lstore (lv' := [(5, .long y11), (3, .long y8), (0, .ref (ad a0)), (1, .int x1), (2, .int x2)]) hx hb dX6_holds_105 hl (by decide) rfl (fun ls hl => ?_)
    refine lv_aload_n hx hb dX6_holds_107 rfl (lv_at hl 2 rfl) ?_
    refine zz_get S hT hB (C := RX6) (ref := "DiagramDesk$Shape") (F := TX6) (N := 8) (index := 25) 6 4 iwX6 rfl (by decide) (by decide) rfl rfl (wS wd_10) (fun _ h9 => h9) dX6_holds_108 hq (fun x12 hq => ?_)
    refine lv_i2l (v := (x12).toInt64) hx hb dX6_holds_111 rfl ?_
    refine zz_nmJ hq (fun y13 hq => ?_)
    refine lv_lstore (lv' := [(7, .long y13), (5, .long y11), (3, .long y8), (0, .ref (ad a0)), (1, .int x1), (2, .int x2)]) hx hb dX6_holds_112 hl (by decide) rfl (fun ls hl => ?_)
    refine lv_aload_n hx hb dX6_holds_114 rfl (lv_at hl 3 rfl) ?_
    refine zz_get S hT hB (C := RX6) (ref := "DiagramDesk$Shape") (F := TX6) (N := 8) (index := 28) 6 5 iwX6 rfl (by decide) (by decide) rfl rfl (wS wd_9) (fun _ h9 => h9) dX6_holds_115 hq (fun x14 hq => ?_)
    refine lv_i2l (v := (x14).toInt64) hx hb dX6_holds_118 rfl ?_
    refine zz_nmJ hq (fun y15 hq => ?_)
    refine lv_lstore (lv' := [(9, .long y15), (7, .long y13), (5, .long y11), (3, .long y8), (0, .ref (ad a0)), (1, .int x1), (2, .int x2)]) hx hb dX6_holds_119 hl (by decide) rfl (fun ls hl => ?_)
    refine lv_aload_n hx hb dX6_holds_121 rfl (lv_at hl 4 rfl) ?_
    refine zz_get S hT hB (C := RX6) (ref := "DiagramDesk$Shape") (F := TX6) (N := 8) (index := 15) 6 1 iwX6 rfl (by decide) (by decide) rfl rfl (wS wd_105) (fun _ h9 => h9) dX6_holds_122 hq (fun x16 hq => ?_)
    refine lv_iconst (v := 1) hx hb dX6_holds_125 (by decide) ?_
    refine zz_icmp_ne (tgt := 171) hx hb dX6_holds_126 (by decide) hq (fun hq => ?_) (fun hq => ?_)
    · refine lv_lload_n hx hb dX6_holds_171 rfl (lv_at hl 3 rfl) ?_
      refine lv_lload hx hb dX6_holds_172 (lv_at hl 0 rfl) ?_
      refine lv_lmul hx hb dX6_holds_174 ?_
      refine lv_lload hx hb dX6_holds_175 (lv_at hl 2 rfl) ?_
      refine lv_lload hx hb dX6_holds_177 (lv_at hl 1 rfl) ?_
      refine lv_lmul hx hb dX6_holds_179 ?_
      refine lv_ladd hx hb dX6_holds_180 ?_
      refine lv_lload hx hb dX6_holds_181 (lv_at hl 1 rfl) ?_
      refine lv_lload hx hb dX6_holds_183 (lv_at hl 0 rfl) ?_
      refine lv_lmul hx hb dX6_holds_185 ?_
      refine W.lcmp hx hb dX6_holds_186 ?_
      refine zz_if_gt (tgt := 194) hx hb dX6_holds_187 (by decide) hq (fun hq => ?_) (fun hq => ?_)
      · refine lv_iconst (v := 0) hx hb dX6_holds_194 (by decide) ?_
        exact zz_zret S hB hr hlocks dX6_holds_195 hq
      · refine lv_iconst (v := 1) hx hb dX6_holds_190 (by decide) ?_
        refine lv_goto (tgt := 195) hx hb dX6_holds_191 (by decide) ?_
        exact zz_zret S hB hr hlocks dX6_holds_195 hq
    · refine lv_lload_n hx hb dX6_holds_129 rfl (lv_at hl 3 rfl) ?_
      refine lv_lload_n hx hb dX6_holds_130 rfl (lv_at hl 3 rfl) ?_
      refine lv_lmul hx hb dX6_holds_131 ?_
      refine lv_lload hx hb dX6_holds_132 (lv_at hl 0 rfl) ?_
      refine lv_lmul hx hb dX6_holds_134 ?_
      refine lv_lload hx hb dX6_holds_135 (lv_at hl 0 rfl) ?_
      refine lv_lmul hx hb dX6_holds_137 ?_
      refine lv_lload hx hb dX6_holds_138 (lv_at hl 2 rfl) ?_
      refine lv_lload hx hb dX6_holds_140 (lv_at hl 2 rfl) ?_
      refine lv_lmul hx hb dX6_holds_142 ?_
      refine lv_lload hx hb dX6_holds_143 (lv_at hl 1 rfl) ?_
      refine lv_lmul hx hb dX6_holds_145 ?_
      refine lv_lload hx hb dX6_holds_146 (lv_at hl 1 rfl) ?_
      refine lv_lmul hx hb dX6_holds_148 ?_
      refine lv_ladd hx hb dX6_holds_149 ?_
      refine lv_lload hx hb dX6_holds_150 (lv_at hl 1 rfl) ?_
      refine lv_lload hx hb dX6_holds_152 (lv_at hl 1 rfl) ?_
      refine lv_lmul hx hb dX6_holds_154 ?_
      refine lv_lload hx hb dX6_holds_155 (lv_at hl 0 rfl) ?_
      refine lv_lmul hx hb dX6_holds_157 ?_
      refine lv_lload hx hb dX6_holds_158 (lv_at hl 0 rfl) ?_
      refine lv_lmul hx hb dX6_holds_160 ?_
      refine W.lcmp hx hb dX6_holds_161 ?_
      refine zz_if_gt (tgt := 169) hx hb dX6_holds_162 (by decide) hq (fun hq => ?_) (fun hq => ?_)
      · refine lv_iconst (v := 0) hx hb dX6_holds_169 (by decide) ?_
        exact zz_zret S hB hr hlocks dX6_holds_170 hq
      · refine lv_iconst (v := 1) hx hb dX6_holds_165 (by decide) ?_
        refine lv_goto (tgt := 170) hx hb dX6_holds_166 (by decide) ?_
        exact zz_zret S hB hr hlocks dX6_holds_170 hq
  refine zz_icmp_eq (tgt := 54) hx hb dX6_holds_5 (by decide) hq (fun hq => ?_) (fun hq => ?_)
  · exact J54  _ _ _ hq hB (lv_sub hl [0, 1, 2] rfl)
  · refine lv_aload_n hx hb dX6_holds_8 rfl (lv_at hl 0 rfl) ?_
    refine zz_get S hT hB (C := RX6) (ref := "DiagramDesk$Shape") (F := TX6) (N := 8) (index := 15) 6 1 iwX6 rfl (by decide) (by decide) rfl rfl (wS wd_105) (fun _ h9 => h9) dX6_holds_9 hq (fun x17 hq => ?_)
    refine lv_iconst (v := 2) hx hb dX6_holds_12 (by decide) ?_
    refine zz_icmp_eq (tgt := 54) hx hb dX6_holds_13 (by decide) hq (fun hq => ?_) (fun hq => ?_)
    · exact J54  _ _ _ hq hB (lv_sub hl [0, 1, 2] rfl)
    · refine lv_iload_n hx hb dX6_holds_16 rfl (lv_at hl 1 rfl) ?_
      refine lv_aload_n hx hb dX6_holds_17 rfl (lv_at hl 0 rfl) ?_
      refine zz_get S hT hB (C := RX6) (ref := "DiagramDesk$Shape") (F := TX6) (N := 8) (index := 19) 6 2 iwX6 rfl (by decide) (by decide) rfl rfl (wS wd_8) (fun _ h9 => h9) dX6_holds_18 hq (fun x18 hq => ?_)
      refine lv_aload_n hx hb dX6_holds_21 rfl (lv_at hl 0 rfl) ?_
      refine lv_iconst (v := 0) hx hb dX6_holds_22 (by decide) ?_
      refine zz_callVi S hT hB (As := [.int (0 : Int32)]) (b := a0) (o := f_X6_end T N s0 a0 (0 : Int32)) (c_X6_end l D cy T hT ad N s0 _ a0 (0 : Int32)) (cwV 1 hts (gV wSub wd_24 wd_25 wd_26 wd_14 wd_27) rfl rfl rfl (by decide +kernel) ⟨Nat.le_of_ble_eq_true rfl, Nat.le_of_ble_eq_true rfl⟩) (F := TX6) (NF := 8) 6 rfl (by decide) (k_X6_end T N s0 a0 (0 : Int32)) rfl hl.1 rfl (Nat.le_of_ble_eq_true rfl) dX6_holds_23 hq (fun x20 s19 H locs hq hB => ?_)
      refine zz_callNi S hT hB (As := [.int x1, .int x18, .int x20]) (o := f_X11_isWithin T N s19 x1 x18 x20) (c_X11_isWithin l D cy T hT ad N s19 _ x1 x18 x20) ⟨va_cnB (host := "DiagramDesk") 3 hts (gN wSub wd_221) rfl rfl rfl (zN_at hN 9 rfl) (hts _ (wS wd_102)) (by decide +kernel) ⟨Nat.le_of_ble_eq_true rfl, Nat.le_of_ble_eq_true rfl⟩, hts _ (wS wd_222), trivial⟩ rfl hl.1 rfl (Nat.le_of_ble_eq_true rfl) dX6_holds_26 hq (fun x22 s21 H locs hq hB => ?_)
      refine zz_if_eq (tgt := 52) hx hb dX6_holds_29 (by decide) hq (fun hq => ?_) (fun hq => ?_)
      · refine lv_iconst (v := 0) hx hb dX6_holds_52 (by decide) ?_
        exact zz_zret S hB hr hlocks dX6_holds_53 hq
      · refine lv_iload_n hx hb dX6_holds_32 rfl (lv_at hl 2 rfl) ?_
        refine lv_aload_n hx hb dX6_holds_33 rfl (lv_at hl 0 rfl) ?_
        refine zz_get S hT hB (C := RX6) (ref := "DiagramDesk$Shape") (F := TX6) (N := 8) (index := 22) 6 3 iwX6 rfl (by decide) (by decide) rfl rfl (wS wd_7) (fun _ h9 => h9) dX6_holds_34 hq (fun x23 hq => ?_)
        refine lv_aload_n hx hb dX6_holds_37 rfl (lv_at hl 0 rfl) ?_
        refine lv_iconst (v := 1) hx hb dX6_holds_38 (by decide) ?_
        refine zz_callVi S hT hB (As := [.int (1 : Int32)]) (b := a0) (o := f_X6_end T N s21 a0 (1 : Int32)) (c_X6_end l D cy T hT ad N s21 _ a0 (1 : Int32)) (cwV 1 hts (gV wSub wd_24 wd_25 wd_26 wd_14 wd_27) rfl rfl rfl (by decide +kernel) ⟨Nat.le_of_ble_eq_true rfl, Nat.le_of_ble_eq_true rfl⟩) (F := TX6) (NF := 8) 6 rfl (by decide) (k_X6_end T N s21 a0 (1 : Int32)) rfl hl.1 rfl (Nat.le_of_ble_eq_true rfl) dX6_holds_39 hq (fun x25 s24 H locs hq hB => ?_)
        refine zz_callNi S hT hB (As := [.int x2, .int x23, .int x25]) (o := f_X11_isWithin T N s24 x2 x23 x25) (c_X11_isWithin l D cy T hT ad N s24 _ x2 x23 x25) ⟨va_cnB (host := "DiagramDesk") 3 hts (gN wSub wd_221) rfl rfl rfl (zN_at hN 9 rfl) (hts _ (wS wd_102)) (by decide +kernel) ⟨Nat.le_of_ble_eq_true rfl, Nat.le_of_ble_eq_true rfl⟩, hts _ (wS wd_222), trivial⟩ rfl hl.1 rfl (Nat.le_of_ble_eq_true rfl) dX6_holds_42 hq (fun x27 s26 H locs hq hB => ?_)
        refine zz_if_eq (tgt := 52) hx hb dX6_holds_45 (by decide) hq (fun hq => ?_) (fun hq => ?_)
        · refine lv_iconst (v := 0) hx hb dX6_holds_52 (by decide) ?_
          exact zz_zret S hB hr hlocks dX6_holds_53 hq
        · refine lv_iconst (v := 1) hx hb dX6_holds_48 (by decide) ?_
          refine lv_goto (tgt := 53) hx hb dX6_holds_49 (by decide) ?_
          exact zz_zret S hB hr hlocks dX6_holds_53 hq
def f_X7_add (T : zT) (N : Nat) (s0 : zS) (a0 : Nat) (x1 : Int32) (x2 : Int32) (x3 : Int32) (x4 : Int32) (x5 : Int32) : Option (Int32 × zS) :=
  zz1 (T.1 a0 = 7) <|
  (gI T s0 a0 7 1).bind fun x8 =>
  if x8 < 0 then (
    some ((-3 : Int32), s0))
  else (
    (gR T s0 a0 7 0).bind fun a9 =>
    (aL T a9 17).bind fun x10 =>
    if x10 ≤ x8 then (
      some ((-3 : Int32), s0))
    else (
      (gR T s0 a0 7 0).bind fun a11 =>
      (aR T s0 a11 17 x8).bind fun a12 =>
      (gR T s0 a0 7 0).bind fun a13 =>
      (aR T s0 a13 17 x8).bind fun a14 =>
      zb2 (f_X7_count T N s0 a0) fun x16 s15 =>
      (pZ T s15 a14 6 0 (1 : Int32)).bind fun s17 =>
      (pI T s17 a14 6 1 x1).bind fun s18 =>
      (pI T s18 a14 6 2 x2).bind fun s19 =>
      (pI T s19 a14 6 3 x3).bind fun s20 =>
      (pI T s20 a14 6 4 x4).bind fun s21 =>
      (pI T s21 a14 6 5 x5).bind fun s22 =>
      (pI T s22 a14 6 6 x16).bind fun s23 =>
      (pI T s23 a14 6 7 (-1000000 : Int32)).bind fun s24 =>
      (f_X7_putAtDepth T N s24 a0 a14 (0 : Int32)).bind fun s25 =>
      (gI T s25 a0 7 1).bind fun x26 =>
      (pI T s25 a0 7 1 (x26 + (1 : Int32))).bind fun s27 =>
      some (x8, s27)))
theorem k_X7_add (T : zT) (N : Nat) (s0 : zS) (a0 : Nat) (x1 : Int32) (x2 : Int32) (x3 : Int32) (x4 : Int32) (x5 : Int32) : ∀ q, f_X7_add T N s0 a0 x1 x2 x3 x4 x5 = some q → T.1 a0 = 7 := by
  intro q h
  unfold f_X7_add at h
  exact zz_guard h (fun h _ => h)
set_option maxHeartbeats 4000000 in
set_option maxRecDepth 100000 in
theorem c_X7_add (l : Launch) (D : va_G) (cy : Nat → ClassId) (T : zT) (hT : zok T) (ad : Nat → Nat) (N : Nat) (s0 : zS) (sz : Nat) (a0 : Nat) (x1 : Int32) (x2 : Int32) (x3 : Int32) (x4 : Int32) (x5 : Int32) : ∀ (r0 : Int32) (σ0 : zS), f_X7_add T N s0 a0 x1 x2 x3 x4 x5 = some (r0, σ0) → Met l yX7_add wsX7_add ({ frames := 2, cells := 0, slots := 0, locals := 47 }) (va_Pc [.ref (ad a0), .int x1, .int x2, .int x3, .int x4, .int x5] (zPre D cy T ad s0 sz)) (va_Qi (fun (r2 : Int32) (σ2 : zS) => r2 = r0 ∧ σ2 = σ0) (zAt D cy T ad (zA T ad sz)) (zA T ad sz)) 0 0 (zA T ad sz) := by
  intro r0 σ0 hq
  refine Met.ofW (cc := cX7_add) (maxL := 9) (ret := (some .int)) (by decide) rfl ?_
  intro p e s m args below meth c s₁ B hml hv
  obtain ⟨hargs, hsz, hP, hK, hD0, hN⟩ := hv
  have hx := B.exec
  have hb := B.bytes
  have hr := B.returns
  have hts := atoms_spec (ws := wsX7_add) B.pre
  have hown : s.vm.findClass RX7 = some m.cls := findClass_of_methodNamed B.named
  have hlocks := B.notSynchronized
  have S : CallFix p m c cX7_add 9 s args wsX7_add RX7 := ⟨hx, hb, hml, hown, hts⟩
  subst hsz
  have hB : zB D cy T ad (zA T ad s.heap.size) s.heap s0 s.heap [] s := zz_entry hP hK hD0 hN
  obtain ⟨ls, hent, hl⟩ := zz_ent m hargs (n := 9) (Nat.le_of_ble_eq_true rfl)
  rw [hent]
  have hl : lv_has ls 9 [(0, .ref (ad a0)), (1, .int x1), (2, .int x2), (3, .int x3), (4, .int x4), (5, .int x5)] := hl
  have iwX7 : ∀ w ∈ u_ws RX7 TX7 3, w ∈ wsX7_add := fun w h => wS (inWX7 w h)
  have iwX6 : ∀ w ∈ u_ws RX6 TX6 8, w ∈ wsX7_add := fun w h => wS (inWX6 w h)
  unfold f_X7_add at hq
  refine zz_guard hq (fun hk0 hq => ?_)
  refine lv_aload_n hx hb dX7_add_0 rfl (lv_at hl 0 rfl) ?_
  refine zz_get S hT hB (C := RX7) (ref := "DiagramDesk$Shapes") (F := TX7) (N := 3) (index := 22) 7 1 iwX7 rfl (by decide) (by decide) rfl rfl (wS wd_112) (fun _ h9 => h9) dX7_add_1 hq (fun x8 hq => ?_)
  refine lv_istore (lv' := [(6, .int x8), (0, .ref (ad a0)), (1, .int x1), (2, .int x2), (3, .int x3), (4, .int x4), (5, .int x5)]) hx hb dX7_add_4 hl (by decide) rfl (fun ls hl => ?_)
  refine lv_iload hx hb dX7_add_6 (lv_at hl 0 rfl) ?_
  refine zz_if_lt (tgt := 31) hx hb dX7_add_8 (by decide) hq (fun hq => ?_) (fun hq => ?_)
  · refine lv_bipush (v := -3) hx hb dX7_add_31 (by decide) ?_
    exact zz_iret S hB hr hlocks dX7_add_33 hq
  · refine lv_iload hx hb dX7_add_11 (lv_at hl 0 rfl) ?_
    refine lv_aload_n hx hb dX7_add_13 rfl (lv_at hl 1 rfl) ?_
    refine zz_getR S hT hB (C := RX7) (ref := "DiagramDesk$Shapes") (F := TX7) (N := 3) (index := 11) 7 0 iwX7 rfl (by decide) (by decide) rfl rfl (wS wd_5) (fun _ h9 => h9) dX7_add_14 hq (fun a9 hq => ?_)
    refine zz_alen S hT hB 17 (by decide) (by decide) dX7_add_17 hq (fun x10 hq => ?_)
    refine zz_icmp_ge (tgt := 31) hx hb dX7_add_18 (by decide) hq (fun hq => ?_) (fun hq => ?_)
    · refine lv_bipush (v := -3) hx hb dX7_add_31 (by decide) ?_
      exact zz_iret S hB hr hlocks dX7_add_33 hq
    · refine lv_aload_n hx hb dX7_add_21 rfl (lv_at hl 1 rfl) ?_
      refine zz_getR S hT hB (C := RX7) (ref := "DiagramDesk$Shapes") (F := TX7) (N := 3) (index := 11) 7 0 iwX7 rfl (by decide) (by decide) rfl rfl (wS wd_5) (fun _ h9 => h9) dX7_add_22 hq (fun a11 hq => ?_)
      refine lv_iload hx hb dX7_add_25 (lv_at hl 0 rfl) ?_
      refine zz_aldR S hT hB 17 4 rfl (by decide) (by decide) dX7_add_27 hq (fun a12 hq => ?_)
      refine lv_ifnonnull (tgt := 34) hx hb dX7_add_28 (by decide) ?_
      refine lv_aload_n hx hb dX7_add_34 rfl (lv_at hl 1 rfl) ?_
      refine zz_getR S hT hB (C := RX7) (ref := "DiagramDesk$Shapes") (F := TX7) (N := 3) (index := 11) 7 0 iwX7 rfl (by decide) (by decide) rfl rfl (wS wd_5) (fun _ h9 => h9) dX7_add_35 hq (fun a13 hq => ?_)
      refine lv_iload hx hb dX7_add_38 (lv_at hl 0 rfl) ?_
      refine zz_aldR S hT hB 17 4 rfl (by decide) (by decide) dX7_add_40 hq (fun a14 hq => ?_)
      refine lv_astore (lv' := [(7, .ref (ad a14)), (6, .int x8), (0, .ref (ad a0)), (1, .int x1), (2, .int x2), (3, .int x3), (4, .int x4), (5, .int x5)]) hx hb dX7_add_41 hl (by decide) rfl (fun ls hl => ?_)
      refine lv_aload_n hx hb dX7_add_43 rfl (lv_at hl 2 rfl) ?_
      refine zz_callVi S hT hB (As := []) (b := a0) (o := f_X7_count T N s0 a0) (c_X7_count l D cy T hT ad N s0 _ a0) (cwV 0 hts (gV wSub wd_178 wd_179 wd_180 wd_35 wd_181) rfl rfl rfl (by decide +kernel) ⟨Nat.le_of_ble_eq_true rfl, Nat.le_of_ble_eq_true rfl⟩) (F := TX7) (NF := 3) 7 rfl (by decide) (k_X7_count T N s0 a0) rfl hl.1 rfl (Nat.le_of_ble_eq_true rfl) dX7_add_44 hq (fun x16 s15 H locs hq hB => ?_)
      refine lv_istore (lv' := [(8, .int x16), (7, .ref (ad a14)), (6, .int x8), (0, .ref (ad a0)), (1, .int x1), (2, .int x2), (3, .int x3), (4, .int x4), (5, .int x5)]) hx hb dX7_add_47 hl (by decide) rfl (fun ls hl => ?_)
      refine lv_aload hx hb dX7_add_49 (lv_at hl 1 rfl) ?_
      refine lv_iconst (v := 1) hx hb dX7_add_51 (by decide) ?_
      refine zz_putZ S hT hB (C := RX6) (ref := "DiagramDesk$Shape") (F := TX6) (N := 8) (index := 29) 6 0 iwX6 tyX6 tyX6_ok nmX6 rfl (by decide) (by decide) rfl rfl (wS wd_6) (fun _ h9 => h9) rfl (by decide +kernel) dX7_add_52 hq (fun s17 H locs hq hB => ?_)
      refine lv_aload hx hb dX7_add_55 (lv_at hl 1 rfl) ?_
      refine lv_iload_n hx hb dX7_add_57 rfl (lv_at hl 4 rfl) ?_
      refine zz_put S hT hB (C := RX6) (ref := "DiagramDesk$Shape") (F := TX6) (N := 8) (index := 41) 6 1 iwX6 tyX6 tyX6_ok nmX6 rfl (by decide) (by decide) rfl rfl (wS wd_227) (fun _ h9 => h9) rfl (by decide +kernel) dX7_add_58 hq (fun s18 H locs hq hB => ?_)
      refine lv_aload hx hb dX7_add_61 (lv_at hl 1 rfl) ?_
      refine lv_iload_n hx hb dX7_add_63 rfl (lv_at hl 5 rfl) ?_
      refine zz_put S hT hB (C := RX6) (ref := "DiagramDesk$Shape") (F := TX6) (N := 8) (index := 44) 6 2 iwX6 tyX6 tyX6_ok nmX6 rfl (by decide) (by decide) rfl rfl (wS wd_228) (fun _ h9 => h9) rfl (by decide +kernel) dX7_add_64 hq (fun s19 H locs hq hB => ?_)
      refine lv_aload hx hb dX7_add_67 (lv_at hl 1 rfl) ?_
      refine lv_iload_n hx hb dX7_add_69 rfl (lv_at hl 6 rfl) ?_
      refine zz_put S hT hB (C := RX6) (ref := "DiagramDesk$Shape") (F := TX6) (N := 8) (index := 47) 6 3 iwX6 tyX6 tyX6_ok nmX6 rfl (by decide) (by decide) rfl rfl (wS wd_229) (fun _ h9 => h9) rfl (by decide +kernel) dX7_add_70 hq (fun s20 H locs hq hB => ?_)
      refine lv_aload hx hb dX7_add_73 (lv_at hl 1 rfl) ?_
      refine lv_iload hx hb dX7_add_75 (lv_at hl 7 rfl) ?_
      refine zz_put S hT hB (C := RX6) (ref := "DiagramDesk$Shape") (F := TX6) (N := 8) (index := 50) 6 4 iwX6 tyX6 tyX6_ok nmX6 rfl (by decide) (by decide) rfl rfl (wS wd_230) (fun _ h9 => h9) rfl (by decide +kernel) dX7_add_77 hq (fun s21 H locs hq hB => ?_)
      refine lv_aload hx hb dX7_add_80 (lv_at hl 1 rfl) ?_
      refine lv_iload hx hb dX7_add_82 (lv_at hl 8 rfl) ?_
      refine zz_put S hT hB (C := RX6) (ref := "DiagramDesk$Shape") (F := TX6) (N := 8) (index := 53) 6 5 iwX6 tyX6 tyX6_ok nmX6 rfl (by decide) (by decide) rfl rfl (wS wd_231) (fun _ h9 => h9) rfl (by decide +kernel) dX7_add_84 hq (fun s22 H locs hq hB => ?_)
      refine lv_aload hx hb dX7_add_87 (lv_at hl 1 rfl) ?_
      refine lv_iload hx hb dX7_add_89 (lv_at hl 0 rfl) ?_
      refine zz_put S hT hB (C := RX6) (ref := "DiagramDesk$Shape") (F := TX6) (N := 8) (index := 56) 6 6 iwX6 tyX6 tyX6_ok nmX6 rfl (by decide) (by decide) rfl rfl (wS wd_177) (fun _ h9 => h9) rfl (by decide +kernel) dX7_add_91 hq (fun s23 H locs hq hB => ?_)
      refine lv_aload hx hb dX7_add_94 (lv_at hl 1 rfl) ?_
      refine lv_ldc (v := -1000000) hx hb hown (hts _ (wS wd_232)) dX7_add_96 ?_
      refine zz_put S hT hB (C := RX6) (ref := "DiagramDesk$Shape") (F := TX6) (N := 8) (index := 60) 6 7 iwX6 tyX6 tyX6_ok nmX6 rfl (by decide) (by decide) rfl rfl (wS wd_233) (fun _ h9 => h9) rfl (by decide +kernel) dX7_add_98 hq (fun s24 H locs hq hB => ?_)
      refine lv_aload_n hx hb dX7_add_101 rfl (lv_at hl 3 rfl) ?_
      refine lv_aload hx hb dX7_add_102 (lv_at hl 1 rfl) ?_
      refine lv_iconst (v := 0) hx hb dX7_add_104 (by decide) ?_
      refine zz_callVv S hT hB (As := [.ref (ad a14), .int (0 : Int32)]) (b := a0) (o := f_X7_putAtDepth T N s24 a0 a14 (0 : Int32)) (c_X7_putAtDepth l D cy T hT ad N s24 _ a0 a14 (0 : Int32)) (cwV 2 hts (gV wSub wd_182 wd_183 wd_184 wd_35 wd_185) rfl rfl rfl (by decide +kernel) ⟨Nat.le_of_ble_eq_true rfl, Nat.le_of_ble_eq_true rfl⟩) (F := TX7) (NF := 3) 7 rfl (by decide) (k_X7_putAtDepth T N s24 a0 a14 (0 : Int32)) rfl hl.1 rfl (Nat.le_of_ble_eq_true rfl) dX7_add_105 hq (fun s25 H locs hq hB => ?_)
      refine lv_aload_n hx hb dX7_add_108 rfl (lv_at hl 3 rfl) ?_
      refine lv_dup hx hb dX7_add_109 rfl ?_
      refine zz_get S hT hB (C := RX7) (ref := "DiagramDesk$Shapes") (F := TX7) (N := 3) (index := 22) 7 1 iwX7 rfl (by decide) (by decide) rfl rfl (wS wd_112) (fun _ h9 => h9) dX7_add_110 hq (fun x26 hq => ?_)
      refine lv_iconst (v := 1) hx hb dX7_add_113 (by decide) ?_
      refine lv_iadd hx hb dX7_add_114 ?_
      refine zz_put S hT hB (C := RX7) (ref := "DiagramDesk$Shapes") (F := TX7) (N := 3) (index := 22) 7 1 iwX7 tyX7 tyX7_ok nmX7 rfl (by decide) (by decide) rfl rfl (wS wd_112) (fun _ h9 => h9) rfl (by decide +kernel) dX7_add_115 hq (fun s27 H locs hq hB => ?_)
      refine lv_iload hx hb dX7_add_118 (lv_at hl 2 rfl) ?_
      exact zz_iret S hB hr hlocks dX7_add_120 hq
def f_X7_frontmostOn_L10 (T : zT) (N : Nat) (a0 : Nat) (x1 : Int32) (x2 : Int32) (k10 : Int32 → Int32 → Int32 → zS → Option (Int32 × zS)) (x5 : Int32) (x6 : Int32) (x7 : Int32) (s8 : zS) : Option (Int32 × zS) :=
  (gR T s8 a0 7 0).bind fun a9 =>
  (aL T a9 17).bind fun x10 =>
  if x10 ≤ x7 then (
    some (x5, s8))
  else (
    zb2 (f_X7_find T N s8 a0 x7) fun o12 s11 => zo o12 (
      zn (x7 + (1 : Int32)) fun x14 =>
      k10 x5 x6 x14 s11)
    fun a13 => (
      (gI T s11 a13 6 6).bind fun x15 =>
      if x6 ≤ x15 then (
        zn (x7 + (1 : Int32)) fun x16 =>
        k10 x5 x6 x16 s11)
      else (
        zb2 (f_X6_holds T N s11 a13 x1 x2) fun x18 s17 =>
        if x18 = 0 then (
          zn (x7 + (1 : Int32)) fun x19 =>
          k10 x5 x6 x19 s17)
        else (
          (gI T s17 a13 6 6).bind fun x20 =>
          zn (x7 + (1 : Int32)) fun x21 =>
          k10 x7 x20 x21 s17))))
def f_X7_frontmostOn (T : zT) (N : Nat) (s0 : zS) (a0 : Nat) (x1 : Int32) (x2 : Int32) : Option (Int32 × zS) :=
  zz1 (T.1 a0 = 7) <|
  zl4 (f_X7_frontmostOn_L10 T N a0 x1 x2) N (-1000000 : Int32) (20 : Int32) (0 : Int32) s0
theorem k_X7_frontmostOn (T : zT) (N : Nat) (s0 : zS) (a0 : Nat) (x1 : Int32) (x2 : Int32) : ∀ q, f_X7_frontmostOn T N s0 a0 x1 x2 = some q → T.1 a0 = 7 := by
  intro q h
  unfold f_X7_frontmostOn at h
  exact zz_guard h (fun h _ => h)
set_option maxHeartbeats 4000000 in
set_option maxRecDepth 100000 in
theorem c_X7_frontmostOn (l : Launch) (D : va_G) (cy : Nat → ClassId) (T : zT) (hT : zok T) (ad : Nat → Nat) (N : Nat) (s0 : zS) (sz : Nat) (a0 : Nat) (x1 : Int32) (x2 : Int32) : ∀ (r0 : Int32) (σ0 : zS), f_X7_frontmostOn T N s0 a0 x1 x2 = some (r0, σ0) → Met l yX7_frontmostOn wsX7_frontmostOn ({ frames := 3, cells := 0, slots := 0, locals := 72 }) (va_Pc [.ref (ad a0), .int x1, .int x2] (zPre D cy T ad s0 sz)) (va_Qi (fun (r2 : Int32) (σ2 : zS) => r2 = r0 ∧ σ2 = σ0) (zAt D cy T ad (zA T ad sz)) (zA T ad sz)) 0 0 (zA T ad sz) := by
  intro r0 σ0 hq
  refine Met.ofW (cc := cX7_frontmostOn) (maxL := 7) (ret := (some .int)) (by decide) rfl ?_
  intro p e s m args below meth c s₁ B hml hv
  obtain ⟨hargs, hsz, hP, hK, hD0, hN⟩ := hv
  have hx := B.exec
  have hb := B.bytes
  have hr := B.returns
  have hts := atoms_spec (ws := wsX7_frontmostOn) B.pre
  have hown : s.vm.findClass RX7 = some m.cls := findClass_of_methodNamed B.named
  have hlocks := B.notSynchronized
  have S : CallFix p m c cX7_frontmostOn 7 s args wsX7_frontmostOn RX7 := ⟨hx, hb, hml, hown, hts⟩
  subst hsz
  have hB : zB D cy T ad (zA T ad s.heap.size) s.heap s0 s.heap [] s := zz_entry hP hK hD0 hN
  obtain ⟨ls, hent, hl⟩ := zz_ent m hargs (n := 7) (Nat.le_of_ble_eq_true rfl)
  rw [hent]
  have hl : lv_has ls 7 [(0, .ref (ad a0)), (1, .int x1), (2, .int x2)] := hl
  have iwX7 : ∀ w ∈ u_ws RX7 TX7 3, w ∈ wsX7_frontmostOn := fun w h => wS (inWX7 w h)
  have iwX6 : ∀ w ∈ u_ws RX6 TX6 8, w ∈ wsX7_frontmostOn := fun w h => wS (inWX6 w h)
  unfold f_X7_frontmostOn at hq
  refine zz_guard hq (fun hk0 hq => ?_)
  refine lv_ldc (v := -1000000) hx hb hown (hts _ (wS wd_232)) dX7_frontmostOn_0 ?_
  refine lv_istore_n (lv' := [(3, .int (-1000000 : Int32)), (0, .ref (ad a0)), (1, .int x1), (2, .int x2)]) hx hb dX7_frontmostOn_2 rfl hl (by decide) rfl (fun ls hl => ?_)
  refine lv_bipush (v := 20) hx hb dX7_frontmostOn_3 (by decide) ?_
  refine lv_istore (lv' := [(4, .int (20 : Int32)), (3, .int (-1000000 : Int32)), (0, .ref (ad a0)), (1, .int x1), (2, .int x2)]) hx hb dX7_frontmostOn_5 hl (by decide) rfl (fun ls hl => ?_)
  refine lv_iconst (v := 0) hx hb dX7_frontmostOn_7 (by decide) ?_
  refine lv_istore (lv' := [(5, .int (0 : Int32)), (4, .int (20 : Int32)), (3, .int (-1000000 : Int32)), (0, .ref (ad a0)), (1, .int x1), (2, .int x2)]) hx hb dX7_frontmostOn_8 hl (by decide) rfl (fun ls hl => ?_)
  have L10 : ∀ (n : Nat) (x5 : Int32) (x6 : Int32) (x7 : Int32) (s8 : zS) (H : Heap) (locs : List Loc) (ls : Array Slot), zl4 (f_X7_frontmostOn_L10 T N a0 x1 x2) n x5 x6 x7 s8 = some (r0, σ0) → zB D cy T ad (zA T ad s.heap.size) s.heap s8 H locs s → lv_has ls 7 [(0, .ref (ad a0)), (1, .int x1), (2, .int x2), (3, .int x5), (4, .int x6), (5, .int x7)] → W p l e (headSpec wsX7_frontmostOn ({ frames := 3, cells := 0, slots := 0, locals := 72 } : Room)).room s m args below meth c H locs 0 0 (MQ below (va_Qi (fun (r2 : Int32) (σ2 : zS) => r2 = r0 ∧ σ2 = σ0) (zAt D cy T ad (zA T ad s.heap.size)) (zA T ad s.heap.size)) args s 0 0 (zA T ad s.heap.size)) (F0 m 10 ls []) := by
    intro n
    induction n with
    | zero => intro x5 x6 x7 s8 H locs ls hq; exact zz_none hq
    | succ n ih10 =>
      intro x5 x6 x7 s8 H locs ls hq hB hl
      rw [zl4] at hq
      generalize zl4 (f_X7_frontmostOn_L10 T N a0 x1 x2) n = k10 at ih10 hq
      unfold f_X7_frontmostOn_L10 at hq
      refine lv_iload hx hb dX7_frontmostOn_10 (lv_at hl 5 rfl) ?_
      refine lv_aload_n hx hb dX7_frontmostOn_12 rfl (lv_at hl 0 rfl) ?_
      refine zz_getR S hT hB (C := RX7) (ref := "DiagramDesk$Shapes") (F := TX7) (N := 3) (index := 11) 7 0 iwX7 rfl (by decide) (by decide) rfl rfl (wS wd_5) (fun _ h9 => h9) dX7_frontmostOn_13 hq (fun a9 hq => ?_)
      refine zz_alen S hT hB 17 (by decide) (by decide) dX7_frontmostOn_16 hq (fun x10 hq => ?_)
      refine zz_icmp_ge (tgt := 69) hx hb dX7_frontmostOn_17 (by decide) hq (fun hq => ?_) (fun hq => ?_)
      · refine lv_iload_n hx hb dX7_frontmostOn_69 rfl (lv_at hl 3 rfl) ?_
        exact zz_iret S hB hr hlocks dX7_frontmostOn_70 hq
      · refine lv_aload_n hx hb dX7_frontmostOn_20 rfl (lv_at hl 0 rfl) ?_
        refine lv_iload hx hb dX7_frontmostOn_21 (lv_at hl 5 rfl) ?_
        refine zz_callVq S hT hB (As := [.int x7]) (b := a0) (o := f_X7_find T N s8 a0 x7) (c_X7_find l D cy T hT ad N s8 _ a0 x7) (cwV 1 hts (gV wSub wd_176 wd_33 wd_34 wd_35 wd_36) rfl rfl rfl (by decide +kernel) ⟨Nat.le_of_ble_eq_true rfl, Nat.le_of_ble_eq_true rfl⟩) (F := TX7) (NF := 3) 7 rfl (by decide) (k_X7_find T N s8 a0 x7) rfl hl.1 rfl (Nat.le_of_ble_eq_true rfl) dX7_frontmostOn_23 hq (fun s11 H locs hq hB => ?_) (fun a13 s11 H locs hq hB => ?_)
        · refine lv_astoreN (lv' := [(6, .null), (0, .ref (ad a0)), (1, .int x1), (2, .int x2), (3, .int x5), (4, .int x6), (5, .int x7)]) hx hb dX7_frontmostOn_26 hl (by decide) rfl (fun ls hl => ?_)
          refine lv_aloadN hx hb dX7_frontmostOn_28 (lv_at hl 0 rfl) ?_
          refine lv_ifnullN (tgt := 63) hx hb dX7_frontmostOn_30 (by decide) ?_
          refine zz_nmV hq (fun x14 ex14 hq => ?_)
          refine lv_iinc (v := x14) (lv' := [(5, .int x14), (6, .null), (0, .ref (ad a0)), (1, .int x1), (2, .int x2), (3, .int x5), (4, .int x6)]) hx hb dX7_frontmostOn_63 hl (k := 6) rfl (by rw [ex14]; rfl) (by decide) rfl (fun ls hl => ?_)
          refine lv_goto (tgt := 10) hx hb dX7_frontmostOn_66 (by decide) ?_
          exact ih10 x5 x6 x14 s11 _ _ _ hq hB (lv_sub hl [2, 3, 4, 5, 6, 0] rfl)
        · refine lv_astore (lv' := [(6, .ref (ad a13)), (0, .ref (ad a0)), (1, .int x1), (2, .int x2), (3, .int x5), (4, .int x6), (5, .int x7)]) hx hb dX7_frontmostOn_26 hl (by decide) rfl (fun ls hl => ?_)
          refine lv_aload hx hb dX7_frontmostOn_28 (lv_at hl 0 rfl) ?_
          refine lv_ifnull hx hb dX7_frontmostOn_30 ?_
          refine lv_aload hx hb dX7_frontmostOn_33 (lv_at hl 0 rfl) ?_
          refine zz_get S hT hB (C := RX6) (ref := "DiagramDesk$Shape") (F := TX6) (N := 8) (index := 56) 6 6 iwX6 rfl (by decide) (by decide) rfl rfl (wS wd_177) (fun _ h9 => h9) dX7_frontmostOn_35 hq (fun x15 hq => ?_)
          refine lv_iload hx hb dX7_frontmostOn_38 (lv_at hl 5 rfl) ?_
          refine zz_icmp_ge (tgt := 63) hx hb dX7_frontmostOn_40 (by decide) hq (fun hq => ?_) (fun hq => ?_)
          · refine zz_nmV hq (fun x16 ex16 hq => ?_)
            refine lv_iinc (v := x16) (lv' := [(5, .int x16), (6, .ref (ad a13)), (0, .ref (ad a0)), (1, .int x1), (2, .int x2), (3, .int x5), (4, .int x6)]) hx hb dX7_frontmostOn_63 hl (k := 6) rfl (by rw [ex16]; rfl) (by decide) rfl (fun ls hl => ?_)
            refine lv_goto (tgt := 10) hx hb dX7_frontmostOn_66 (by decide) ?_
            exact ih10 x5 x6 x16 s11 _ _ _ hq hB (lv_sub hl [2, 3, 4, 5, 6, 0] rfl)
          · refine lv_aload hx hb dX7_frontmostOn_43 (lv_at hl 0 rfl) ?_
            refine lv_iload_n hx hb dX7_frontmostOn_45 rfl (lv_at hl 2 rfl) ?_
            refine lv_iload_n hx hb dX7_frontmostOn_46 rfl (lv_at hl 3 rfl) ?_
            refine zz_callVi S hT hB (As := [.int x1, .int x2]) (b := a13) (o := f_X6_holds T N s11 a13 x1 x2) (c_X6_holds l D cy T hT ad N s11 _ a13 x1 x2) (cwV 2 hts (gV wSub wd_234 wd_235 wd_236 wd_14 wd_237) rfl rfl rfl (by decide +kernel) ⟨Nat.le_of_ble_eq_true rfl, Nat.le_of_ble_eq_true rfl⟩) (F := TX6) (NF := 8) 6 rfl (by decide) (k_X6_holds T N s11 a13 x1 x2) rfl hl.1 rfl (Nat.le_of_ble_eq_true rfl) dX7_frontmostOn_47 hq (fun x18 s17 H locs hq hB => ?_)
            refine zz_if_eq (tgt := 63) hx hb dX7_frontmostOn_50 (by decide) hq (fun hq => ?_) (fun hq => ?_)
            · refine zz_nmV hq (fun x19 ex19 hq => ?_)
              refine lv_iinc (v := x19) (lv' := [(5, .int x19), (6, .ref (ad a13)), (0, .ref (ad a0)), (1, .int x1), (2, .int x2), (3, .int x5), (4, .int x6)]) hx hb dX7_frontmostOn_63 hl (k := 6) rfl (by rw [ex19]; rfl) (by decide) rfl (fun ls hl => ?_)
              refine lv_goto (tgt := 10) hx hb dX7_frontmostOn_66 (by decide) ?_
              exact ih10 x5 x6 x19 s17 _ _ _ hq hB (lv_sub hl [2, 3, 4, 5, 6, 0] rfl)
            · refine lv_iload hx hb dX7_frontmostOn_53 (lv_at hl 6 rfl) ?_
              refine lv_istore_n (lv' := [(3, .int x7), (6, .ref (ad a13)), (0, .ref (ad a0)), (1, .int x1), (2, .int x2), (4, .int x6), (5, .int x7)]) hx hb dX7_frontmostOn_55 rfl hl (by decide) rfl (fun ls hl => ?_)
              refine lv_aload hx hb dX7_frontmostOn_56 (lv_at hl 1 rfl) ?_
              refine zz_get S hT hB (C := RX6) (ref := "DiagramDesk$Shape") (F := TX6) (N := 8) (index := 56) 6 6 iwX6 rfl (by decide) (by decide) rfl rfl (wS wd_177) (fun _ h9 => h9) dX7_frontmostOn_58 hq (fun x20 hq => ?_)
              refine lv_istore (lv' := [(4, .int x20), (3, .int x7), (6, .ref (ad a13)), (0, .ref (ad a0)), (1, .int x1), (2, .int x2), (5, .int x7)]) hx hb dX7_frontmostOn_61 hl (by decide) rfl (fun ls hl => ?_)
              refine zz_nmV hq (fun x21 ex21 hq => ?_)
              refine lv_iinc (v := x21) (lv' := [(5, .int x21), (4, .int x20), (3, .int x7), (6, .ref (ad a13)), (0, .ref (ad a0)), (1, .int x1), (2, .int x2)]) hx hb dX7_frontmostOn_63 hl (k := 6) rfl (by rw [ex21]; rfl) (by decide) rfl (fun ls hl => ?_)
              refine lv_goto (tgt := 10) hx hb dX7_frontmostOn_66 (by decide) ?_
              exact ih10 x7 x20 x21 s17 _ _ _ hq hB (lv_sub hl [4, 5, 6, 2, 1, 0] rfl)
  exact L10 N (-1000000 : Int32) (20 : Int32) (0 : Int32) s0 _ _ _ hq hB (lv_sub hl [3, 4, 5, 2, 1, 0] rfl)
def f_X7_low_L6 (T : zT) (N : Nat) (a0 : Nat) (x1 : Int32) (x2 : Int32) (k6 : Int32 → Int32 → zS → Option (Int32 × zS)) (x5 : Int32) (x6 : Int32) (s7 : zS) : Option (Int32 × zS) :=
  (gR T s7 a0 7 0).bind fun a8 =>
  (aL T a8 17).bind fun x9 =>
  if x9 ≤ x6 then (
    some (x5, s7))
  else (
    zb2 (f_X7_find T N s7 a0 x6) fun o11 s10 => zo o11 (
      zn (x6 + (1 : Int32)) fun x13 =>
      k6 x5 x13 s10)
    fun a12 => (
      zb2 (f_X11_hasBit T N s10 x1 x6) fun x15 s14 =>
      if x15 = 0 then (
        zn (x6 + (1 : Int32)) fun x16 =>
        k6 x5 x16 s14)
      else (
        zb2 (f_X6_start T N s14 a12 x2) fun x18 s17 =>
        zn (if x18 < x5 then x18 else x5) fun x19 =>
        zn (x6 + (1 : Int32)) fun x20 =>
        k6 x19 x20 s17)))
def f_X7_low (T : zT) (N : Nat) (s0 : zS) (a0 : Nat) (x1 : Int32) (x2 : Int32) : Option (Int32 × zS) :=
  zz1 (T.1 a0 = 7) <|
  zl3 (f_X7_low_L6 T N a0 x1 x2) N (2147483647 : Int32) (0 : Int32) s0
theorem k_X7_low (T : zT) (N : Nat) (s0 : zS) (a0 : Nat) (x1 : Int32) (x2 : Int32) : ∀ q, f_X7_low T N s0 a0 x1 x2 = some q → T.1 a0 = 7 := by
  intro q h
  unfold f_X7_low at h
  exact zz_guard h (fun h _ => h)
set_option maxHeartbeats 4000000 in
set_option maxRecDepth 100000 in
theorem c_X7_low (l : Launch) (D : va_G) (cy : Nat → ClassId) (T : zT) (hT : zok T) (ad : Nat → Nat) (N : Nat) (s0 : zS) (sz : Nat) (a0 : Nat) (x1 : Int32) (x2 : Int32) : ∀ (r0 : Int32) (σ0 : zS), f_X7_low T N s0 a0 x1 x2 = some (r0, σ0) → Met l yX7_low wsX7_low ({ frames := 1, cells := 0, slots := 0, locals := 24 }) (va_Pc [.ref (ad a0), .int x1, .int x2] (zPre D cy T ad s0 sz)) (va_Qi (fun (r2 : Int32) (σ2 : zS) => r2 = r0 ∧ σ2 = σ0) (zAt D cy T ad (zA T ad sz)) (zA T ad sz)) 0 0 (zA T ad sz) := by
  intro r0 σ0 hq
  refine Met.ofW (cc := cX7_low) (maxL := 6) (ret := (some .int)) (by decide) rfl ?_
  intro p e s m args below meth c s₁ B hml hv
  obtain ⟨hargs, hsz, hP, hK, hD0, hN⟩ := hv
  have hx := B.exec
  have hb := B.bytes
  have hr := B.returns
  have hts := atoms_spec (ws := wsX7_low) B.pre
  have hown : s.vm.findClass RX7 = some m.cls := findClass_of_methodNamed B.named
  have hlocks := B.notSynchronized
  have S : CallFix p m c cX7_low 6 s args wsX7_low RX7 := ⟨hx, hb, hml, hown, hts⟩
  subst hsz
  have hB : zB D cy T ad (zA T ad s.heap.size) s.heap s0 s.heap [] s := zz_entry hP hK hD0 hN
  obtain ⟨ls, hent, hl⟩ := zz_ent m hargs (n := 6) (Nat.le_of_ble_eq_true rfl)
  rw [hent]
  have hl : lv_has ls 6 [(0, .ref (ad a0)), (1, .int x1), (2, .int x2)] := hl
  have iwX7 : ∀ w ∈ u_ws RX7 TX7 3, w ∈ wsX7_low := fun w h => wS (inWX7 w h)
  unfold f_X7_low at hq
  refine zz_guard hq (fun hk0 hq => ?_)
  refine lv_ldc (v := 2147483647) hx hb hown (hts _ (wS wd_238)) dX7_low_0 ?_
  refine lv_istore_n (lv' := [(3, .int (2147483647 : Int32)), (0, .ref (ad a0)), (1, .int x1), (2, .int x2)]) hx hb dX7_low_2 rfl hl (by decide) rfl (fun ls hl => ?_)
  refine lv_iconst (v := 0) hx hb dX7_low_3 (by decide) ?_
  refine lv_istore (lv' := [(4, .int (0 : Int32)), (3, .int (2147483647 : Int32)), (0, .ref (ad a0)), (1, .int x1), (2, .int x2)]) hx hb dX7_low_4 hl (by decide) rfl (fun ls hl => ?_)
  have L6 : ∀ (n : Nat) (x5 : Int32) (x6 : Int32) (s7 : zS) (H : Heap) (locs : List Loc) (ls : Array Slot), zl3 (f_X7_low_L6 T N a0 x1 x2) n x5 x6 s7 = some (r0, σ0) → zB D cy T ad (zA T ad s.heap.size) s.heap s7 H locs s → lv_has ls 6 [(0, .ref (ad a0)), (1, .int x1), (2, .int x2), (3, .int x5), (4, .int x6)] → W p l e (headSpec wsX7_low ({ frames := 1, cells := 0, slots := 0, locals := 24 } : Room)).room s m args below meth c H locs 0 0 (MQ below (va_Qi (fun (r2 : Int32) (σ2 : zS) => r2 = r0 ∧ σ2 = σ0) (zAt D cy T ad (zA T ad s.heap.size)) (zA T ad s.heap.size)) args s 0 0 (zA T ad s.heap.size)) (F0 m 6 ls []) := by
    intro n
    induction n with
    | zero => intro x5 x6 s7 H locs ls hq; exact zz_none hq
    | succ n ih6 =>
      intro x5 x6 s7 H locs ls hq hB hl
      rw [zl3] at hq
      generalize zl3 (f_X7_low_L6 T N a0 x1 x2) n = k6 at ih6 hq
      unfold f_X7_low_L6 at hq
      refine lv_iload hx hb dX7_low_6 (lv_at hl 4 rfl) ?_
      refine lv_aload_n hx hb dX7_low_8 rfl (lv_at hl 0 rfl) ?_
      refine zz_getR S hT hB (C := RX7) (ref := "DiagramDesk$Shapes") (F := TX7) (N := 3) (index := 11) 7 0 iwX7 rfl (by decide) (by decide) rfl rfl (wS wd_5) (fun _ h9 => h9) dX7_low_9 hq (fun a8 hq => ?_)
      refine zz_alen S hT hB 17 (by decide) (by decide) dX7_low_12 hq (fun x9 hq => ?_)
      refine zz_icmp_ge (tgt := 55) hx hb dX7_low_13 (by decide) hq (fun hq => ?_) (fun hq => ?_)
      · refine lv_iload_n hx hb dX7_low_55 rfl (lv_at hl 3 rfl) ?_
        exact zz_iret S hB hr hlocks dX7_low_56 hq
      · refine lv_aload_n hx hb dX7_low_16 rfl (lv_at hl 0 rfl) ?_
        refine lv_iload hx hb dX7_low_17 (lv_at hl 4 rfl) ?_
        refine zz_callVq S hT hB (As := [.int x6]) (b := a0) (o := f_X7_find T N s7 a0 x6) (c_X7_find l D cy T hT ad N s7 _ a0 x6) (cwV 1 hts (gV wSub wd_176 wd_33 wd_34 wd_35 wd_36) rfl rfl rfl (by decide +kernel) ⟨Nat.le_of_ble_eq_true rfl, Nat.le_of_ble_eq_true rfl⟩) (F := TX7) (NF := 3) 7 rfl (by decide) (k_X7_find T N s7 a0 x6) rfl hl.1 rfl (Nat.le_of_ble_eq_true rfl) dX7_low_19 hq (fun s10 H locs hq hB => ?_) (fun a12 s10 H locs hq hB => ?_)
        · refine lv_astoreN (lv' := [(5, .null), (0, .ref (ad a0)), (1, .int x1), (2, .int x2), (3, .int x5), (4, .int x6)]) hx hb dX7_low_22 hl (by decide) rfl (fun ls hl => ?_)
          refine lv_aloadN hx hb dX7_low_24 (lv_at hl 0 rfl) ?_
          refine lv_ifnullN (tgt := 49) hx hb dX7_low_26 (by decide) ?_
          refine zz_nmV hq (fun x13 ex13 hq => ?_)
          refine lv_iinc (v := x13) (lv' := [(4, .int x13), (5, .null), (0, .ref (ad a0)), (1, .int x1), (2, .int x2), (3, .int x5)]) hx hb dX7_low_49 hl (k := 5) rfl (by rw [ex13]; rfl) (by decide) rfl (fun ls hl => ?_)
          refine lv_goto (tgt := 6) hx hb dX7_low_52 (by decide) ?_
          exact ih6 x5 x13 s10 _ _ _ hq hB (lv_sub hl [2, 3, 4, 5, 0] rfl)
        · refine lv_astore (lv' := [(5, .ref (ad a12)), (0, .ref (ad a0)), (1, .int x1), (2, .int x2), (3, .int x5), (4, .int x6)]) hx hb dX7_low_22 hl (by decide) rfl (fun ls hl => ?_)
          refine lv_aload hx hb dX7_low_24 (lv_at hl 0 rfl) ?_
          refine lv_ifnull hx hb dX7_low_26 ?_
          refine lv_iload_n hx hb dX7_low_29 rfl (lv_at hl 2 rfl) ?_
          refine lv_iload hx hb dX7_low_30 (lv_at hl 5 rfl) ?_
          refine zz_callNi S hT hB (As := [.int x1, .int x6]) (o := f_X11_hasBit T N s10 x1 x6) (c_X11_hasBit l D cy T hT ad N s10 _ x1 x6) ⟨va_cnB (host := "DiagramDesk") 2 hts (gN wSub wd_101) rfl rfl rfl (zN_at hN 12 rfl) (hts _ (wS wd_102)) (by decide +kernel) ⟨Nat.le_of_ble_eq_true rfl, Nat.le_of_ble_eq_true rfl⟩, hts _ (wS wd_103), trivial⟩ rfl hl.1 rfl (Nat.le_of_ble_eq_true rfl) dX7_low_32 hq (fun x15 s14 H locs hq hB => ?_)
          refine zz_if_eq (tgt := 49) hx hb dX7_low_35 (by decide) hq (fun hq => ?_) (fun hq => ?_)
          · refine zz_nmV hq (fun x16 ex16 hq => ?_)
            refine lv_iinc (v := x16) (lv' := [(4, .int x16), (5, .ref (ad a12)), (0, .ref (ad a0)), (1, .int x1), (2, .int x2), (3, .int x5)]) hx hb dX7_low_49 hl (k := 5) rfl (by rw [ex16]; rfl) (by decide) rfl (fun ls hl => ?_)
            refine lv_goto (tgt := 6) hx hb dX7_low_52 (by decide) ?_
            exact ih6 x5 x16 s14 _ _ _ hq hB (lv_sub hl [2, 3, 4, 5, 0] rfl)
          · refine lv_iload_n hx hb dX7_low_38 rfl (lv_at hl 4 rfl) ?_
            refine lv_aload hx hb dX7_low_39 (lv_at hl 0 rfl) ?_
            refine lv_iload_n hx hb dX7_low_41 rfl (lv_at hl 3 rfl) ?_
            refine zz_callVi S hT hB (As := [.int x2]) (b := a12) (o := f_X6_start T N s14 a12 x2) (c_X6_start l D cy T hT ad N s14 _ a12 x2) (cwV 1 hts (gV wSub wd_239 wd_12 wd_13 wd_14 wd_15) rfl rfl rfl (by decide +kernel) ⟨Nat.le_of_ble_eq_true rfl, Nat.le_of_ble_eq_true rfl⟩) (F := TX6) (NF := 8) 6 rfl (by decide) (k_X6_start T N s14 a12 x2) rfl hl.1 rfl (Nat.le_of_ble_eq_true rfl) dX7_low_42 hq (fun x18 s17 H locs hq hB => ?_)
            refine zz_min S hl.1 (wS wd_240) (wS wd_66) (wS wd_54) (wS wd_67) (Nat.le_of_ble_eq_true rfl) (Nat.le_of_ble_eq_true rfl) dX7_low_45 ?_
            refine zz_nmI hq (fun x19 hq => ?_)
            refine lv_istore_n (lv' := [(3, .int x19), (5, .ref (ad a12)), (0, .ref (ad a0)), (1, .int x1), (2, .int x2), (4, .int x6)]) hx hb dX7_low_48 rfl hl (by decide) rfl (fun ls hl => ?_)
            refine zz_nmV hq (fun x20 ex20 hq => ?_)
            refine lv_iinc (v := x20) (lv' := [(4, .int x20), (3, .int x19), (5, .ref (ad a12)), (0, .ref (ad a0)), (1, .int x1), (2, .int x2)]) hx hb dX7_low_49 hl (k := 5) rfl (by rw [ex20]; rfl) (by decide) rfl (fun ls hl => ?_)
            refine lv_goto (tgt := 6) hx hb dX7_low_52 (by decide) ?_
            exact ih6 x19 x20 s17 _ _ _ hq hB (lv_sub hl [3, 4, 5, 1, 0] rfl)
  exact L6 N (2147483647 : Int32) (0 : Int32) s0 _ _ _ hq hB (lv_sub hl [2, 3, 4, 1, 0] rfl)
def f_X7_high_L6 (T : zT) (N : Nat) (a0 : Nat) (x1 : Int32) (x2 : Int32) (k6 : Int32 → Int32 → zS → Option (Int32 × zS)) (x5 : Int32) (x6 : Int32) (s7 : zS) : Option (Int32 × zS) :=
  (gR T s7 a0 7 0).bind fun a8 =>
  (aL T a8 17).bind fun x9 =>
  if x9 ≤ x6 then (
    some (x5, s7))
  else (
    zb2 (f_X7_find T N s7 a0 x6) fun o11 s10 => zo o11 (
      zn (x6 + (1 : Int32)) fun x13 =>
      k6 x5 x13 s10)
    fun a12 => (
      zb2 (f_X11_hasBit T N s10 x1 x6) fun x15 s14 =>
      if x15 = 0 then (
        zn (x6 + (1 : Int32)) fun x16 =>
        k6 x5 x16 s14)
      else (
        zb2 (f_X6_end T N s14 a12 x2) fun x18 s17 =>
        zn (if x5 < x18 then x18 else x5) fun x19 =>
        zn (x6 + (1 : Int32)) fun x20 =>
        k6 x19 x20 s17)))
def f_X7_high (T : zT) (N : Nat) (s0 : zS) (a0 : Nat) (x1 : Int32) (x2 : Int32) : Option (Int32 × zS) :=
  zz1 (T.1 a0 = 7) <|
  zl3 (f_X7_high_L6 T N a0 x1 x2) N (-2147483648 : Int32) (0 : Int32) s0
theorem k_X7_high (T : zT) (N : Nat) (s0 : zS) (a0 : Nat) (x1 : Int32) (x2 : Int32) : ∀ q, f_X7_high T N s0 a0 x1 x2 = some q → T.1 a0 = 7 := by
  intro q h
  unfold f_X7_high at h
  exact zz_guard h (fun h _ => h)
set_option maxHeartbeats 4000000 in
set_option maxRecDepth 100000 in
theorem c_X7_high (l : Launch) (D : va_G) (cy : Nat → ClassId) (T : zT) (hT : zok T) (ad : Nat → Nat) (N : Nat) (s0 : zS) (sz : Nat) (a0 : Nat) (x1 : Int32) (x2 : Int32) : ∀ (r0 : Int32) (σ0 : zS), f_X7_high T N s0 a0 x1 x2 = some (r0, σ0) → Met l yX7_high wsX7_high ({ frames := 2, cells := 0, slots := 0, locals := 42 }) (va_Pc [.ref (ad a0), .int x1, .int x2] (zPre D cy T ad s0 sz)) (va_Qi (fun (r2 : Int32) (σ2 : zS) => r2 = r0 ∧ σ2 = σ0) (zAt D cy T ad (zA T ad sz)) (zA T ad sz)) 0 0 (zA T ad sz) := by
  intro r0 σ0 hq
  refine Met.ofW (cc := cX7_high) (maxL := 6) (ret := (some .int)) (by decide) rfl ?_
  intro p e s m args below meth c s₁ B hml hv
  obtain ⟨hargs, hsz, hP, hK, hD0, hN⟩ := hv
  have hx := B.exec
  have hb := B.bytes
  have hr := B.returns
  have hts := atoms_spec (ws := wsX7_high) B.pre
  have hown : s.vm.findClass RX7 = some m.cls := findClass_of_methodNamed B.named
  have hlocks := B.notSynchronized
  have S : CallFix p m c cX7_high 6 s args wsX7_high RX7 := ⟨hx, hb, hml, hown, hts⟩
  subst hsz
  have hB : zB D cy T ad (zA T ad s.heap.size) s.heap s0 s.heap [] s := zz_entry hP hK hD0 hN
  obtain ⟨ls, hent, hl⟩ := zz_ent m hargs (n := 6) (Nat.le_of_ble_eq_true rfl)
  rw [hent]
  have hl : lv_has ls 6 [(0, .ref (ad a0)), (1, .int x1), (2, .int x2)] := hl
  have iwX7 : ∀ w ∈ u_ws RX7 TX7 3, w ∈ wsX7_high := fun w h => wS (inWX7 w h)
  unfold f_X7_high at hq
  refine zz_guard hq (fun hk0 hq => ?_)
  refine lv_ldc (v := -2147483648) hx hb hown (hts _ (wS wd_241)) dX7_high_0 ?_
  refine lv_istore_n (lv' := [(3, .int (-2147483648 : Int32)), (0, .ref (ad a0)), (1, .int x1), (2, .int x2)]) hx hb dX7_high_2 rfl hl (by decide) rfl (fun ls hl => ?_)
  refine lv_iconst (v := 0) hx hb dX7_high_3 (by decide) ?_
  refine lv_istore (lv' := [(4, .int (0 : Int32)), (3, .int (-2147483648 : Int32)), (0, .ref (ad a0)), (1, .int x1), (2, .int x2)]) hx hb dX7_high_4 hl (by decide) rfl (fun ls hl => ?_)
  have L6 : ∀ (n : Nat) (x5 : Int32) (x6 : Int32) (s7 : zS) (H : Heap) (locs : List Loc) (ls : Array Slot), zl3 (f_X7_high_L6 T N a0 x1 x2) n x5 x6 s7 = some (r0, σ0) → zB D cy T ad (zA T ad s.heap.size) s.heap s7 H locs s → lv_has ls 6 [(0, .ref (ad a0)), (1, .int x1), (2, .int x2), (3, .int x5), (4, .int x6)] → W p l e (headSpec wsX7_high ({ frames := 2, cells := 0, slots := 0, locals := 42 } : Room)).room s m args below meth c H locs 0 0 (MQ below (va_Qi (fun (r2 : Int32) (σ2 : zS) => r2 = r0 ∧ σ2 = σ0) (zAt D cy T ad (zA T ad s.heap.size)) (zA T ad s.heap.size)) args s 0 0 (zA T ad s.heap.size)) (F0 m 6 ls []) := by
    intro n
    induction n with
    | zero => intro x5 x6 s7 H locs ls hq; exact zz_none hq
    | succ n ih6 =>
      intro x5 x6 s7 H locs ls hq hB hl
      rw [zl3] at hq
      generalize zl3 (f_X7_high_L6 T N a0 x1 x2) n = k6 at ih6 hq
      unfold f_X7_high_L6 at hq
      refine lv_iload hx hb dX7_high_6 (lv_at hl 4 rfl) ?_
      refine lv_aload_n hx hb dX7_high_8 rfl (lv_at hl 0 rfl) ?_
      refine zz_getR S hT hB (C := RX7) (ref := "DiagramDesk$Shapes") (F := TX7) (N := 3) (index := 11) 7 0 iwX7 rfl (by decide) (by decide) rfl rfl (wS wd_5) (fun _ h9 => h9) dX7_high_9 hq (fun a8 hq => ?_)
      refine zz_alen S hT hB 17 (by decide) (by decide) dX7_high_12 hq (fun x9 hq => ?_)
      refine zz_icmp_ge (tgt := 55) hx hb dX7_high_13 (by decide) hq (fun hq => ?_) (fun hq => ?_)
      · refine lv_iload_n hx hb dX7_high_55 rfl (lv_at hl 3 rfl) ?_
        exact zz_iret S hB hr hlocks dX7_high_56 hq
      · refine lv_aload_n hx hb dX7_high_16 rfl (lv_at hl 0 rfl) ?_
        refine lv_iload hx hb dX7_high_17 (lv_at hl 4 rfl) ?_
        refine zz_callVq S hT hB (As := [.int x6]) (b := a0) (o := f_X7_find T N s7 a0 x6) (c_X7_find l D cy T hT ad N s7 _ a0 x6) (cwV 1 hts (gV wSub wd_176 wd_33 wd_34 wd_35 wd_36) rfl rfl rfl (by decide +kernel) ⟨Nat.le_of_ble_eq_true rfl, Nat.le_of_ble_eq_true rfl⟩) (F := TX7) (NF := 3) 7 rfl (by decide) (k_X7_find T N s7 a0 x6) rfl hl.1 rfl (Nat.le_of_ble_eq_true rfl) dX7_high_19 hq (fun s10 H locs hq hB => ?_) (fun a12 s10 H locs hq hB => ?_)
        · refine lv_astoreN (lv' := [(5, .null), (0, .ref (ad a0)), (1, .int x1), (2, .int x2), (3, .int x5), (4, .int x6)]) hx hb dX7_high_22 hl (by decide) rfl (fun ls hl => ?_)
          refine lv_aloadN hx hb dX7_high_24 (lv_at hl 0 rfl) ?_
          refine lv_ifnullN (tgt := 49) hx hb dX7_high_26 (by decide) ?_
          refine zz_nmV hq (fun x13 ex13 hq => ?_)
          refine lv_iinc (v := x13) (lv' := [(4, .int x13), (5, .null), (0, .ref (ad a0)), (1, .int x1), (2, .int x2), (3, .int x5)]) hx hb dX7_high_49 hl (k := 5) rfl (by rw [ex13]; rfl) (by decide) rfl (fun ls hl => ?_)
          refine lv_goto (tgt := 6) hx hb dX7_high_52 (by decide) ?_
          exact ih6 x5 x13 s10 _ _ _ hq hB (lv_sub hl [2, 3, 4, 5, 0] rfl)
        · refine lv_astore (lv' := [(5, .ref (ad a12)), (0, .ref (ad a0)), (1, .int x1), (2, .int x2), (3, .int x5), (4, .int x6)]) hx hb dX7_high_22 hl (by decide) rfl (fun ls hl => ?_)
          refine lv_aload hx hb dX7_high_24 (lv_at hl 0 rfl) ?_
          refine lv_ifnull hx hb dX7_high_26 ?_
          refine lv_iload_n hx hb dX7_high_29 rfl (lv_at hl 2 rfl) ?_
          refine lv_iload hx hb dX7_high_30 (lv_at hl 5 rfl) ?_
          refine zz_callNi S hT hB (As := [.int x1, .int x6]) (o := f_X11_hasBit T N s10 x1 x6) (c_X11_hasBit l D cy T hT ad N s10 _ x1 x6) ⟨va_cnB (host := "DiagramDesk") 2 hts (gN wSub wd_101) rfl rfl rfl (zN_at hN 12 rfl) (hts _ (wS wd_102)) (by decide +kernel) ⟨Nat.le_of_ble_eq_true rfl, Nat.le_of_ble_eq_true rfl⟩, hts _ (wS wd_103), trivial⟩ rfl hl.1 rfl (Nat.le_of_ble_eq_true rfl) dX7_high_32 hq (fun x15 s14 H locs hq hB => ?_)
          refine zz_if_eq (tgt := 49) hx hb dX7_high_35 (by decide) hq (fun hq => ?_) (fun hq => ?_)
          · refine zz_nmV hq (fun x16 ex16 hq => ?_)
            refine lv_iinc (v := x16) (lv' := [(4, .int x16), (5, .ref (ad a12)), (0, .ref (ad a0)), (1, .int x1), (2, .int x2), (3, .int x5)]) hx hb dX7_high_49 hl (k := 5) rfl (by rw [ex16]; rfl) (by decide) rfl (fun ls hl => ?_)
            refine lv_goto (tgt := 6) hx hb dX7_high_52 (by decide) ?_
            exact ih6 x5 x16 s14 _ _ _ hq hB (lv_sub hl [2, 3, 4, 5, 0] rfl)
          · refine lv_iload_n hx hb dX7_high_38 rfl (lv_at hl 4 rfl) ?_
            refine lv_aload hx hb dX7_high_39 (lv_at hl 0 rfl) ?_
            refine lv_iload_n hx hb dX7_high_41 rfl (lv_at hl 3 rfl) ?_
            refine zz_callVi S hT hB (As := [.int x2]) (b := a12) (o := f_X6_end T N s14 a12 x2) (c_X6_end l D cy T hT ad N s14 _ a12 x2) (cwV 1 hts (gV wSub wd_242 wd_25 wd_26 wd_14 wd_27) rfl rfl rfl (by decide +kernel) ⟨Nat.le_of_ble_eq_true rfl, Nat.le_of_ble_eq_true rfl⟩) (F := TX6) (NF := 8) 6 rfl (by decide) (k_X6_end T N s14 a12 x2) rfl hl.1 rfl (Nat.le_of_ble_eq_true rfl) dX7_high_42 hq (fun x18 s17 H locs hq hB => ?_)
            refine zz_max S hl.1 (wS wd_243) (wS wd_63) (wS wd_54) (wS wd_64) (Nat.le_of_ble_eq_true rfl) (Nat.le_of_ble_eq_true rfl) dX7_high_45 ?_
            refine zz_nmI hq (fun x19 hq => ?_)
            refine lv_istore_n (lv' := [(3, .int x19), (5, .ref (ad a12)), (0, .ref (ad a0)), (1, .int x1), (2, .int x2), (4, .int x6)]) hx hb dX7_high_48 rfl hl (by decide) rfl (fun ls hl => ?_)
            refine zz_nmV hq (fun x20 ex20 hq => ?_)
            refine lv_iinc (v := x20) (lv' := [(4, .int x20), (3, .int x19), (5, .ref (ad a12)), (0, .ref (ad a0)), (1, .int x1), (2, .int x2)]) hx hb dX7_high_49 hl (k := 5) rfl (by rw [ex20]; rfl) (by decide) rfl (fun ls hl => ?_)
            refine lv_goto (tgt := 6) hx hb dX7_high_52 (by decide) ?_
            exact ih6 x19 x20 s17 _ _ _ hq hB (lv_sub hl [3, 4, 5, 1, 0] rfl)
  exact L6 N (-2147483648 : Int32) (0 : Int32) s0 _ _ _ hq hB (lv_sub hl [2, 3, 4, 1, 0] rfl)
def f_X7_lineOf (T : zT) (N : Nat) (s0 : zS) (a0 : Nat) (x1 : Int32) (x2 : Int32) (x3 : Int32) : Option (Int32 × zS) :=
  zz1 (T.1 a0 = 7) <|
  zb2 (f_X7_low T N s0 a0 x1 x2) fun x7 s6 =>
  zb2 (f_X7_high T N s6 a0 x1 x2) fun x9 s8 =>
  if ¬ x3 = 0 then (
    if ¬ x3 = (2 : Int32) then (
      zb2 (f_J9_floorDiv_7cf53 T N s8 (x9 - x7) (2 : Int32)) fun x11 s10 =>
      some (x7 + x11, s10))
    else (
      some (x9, s8)))
  else (
    some (x7, s8))
theorem k_X7_lineOf (T : zT) (N : Nat) (s0 : zS) (a0 : Nat) (x1 : Int32) (x2 : Int32) (x3 : Int32) : ∀ q, f_X7_lineOf T N s0 a0 x1 x2 x3 = some q → T.1 a0 = 7 := by
  intro q h
  unfold f_X7_lineOf at h
  exact zz_guard h (fun h _ => h)
set_option maxHeartbeats 4000000 in
set_option maxRecDepth 100000 in
theorem c_X7_lineOf (l : Launch) (D : va_G) (cy : Nat → ClassId) (T : zT) (hT : zok T) (ad : Nat → Nat) (N : Nat) (s0 : zS) (sz : Nat) (a0 : Nat) (x1 : Int32) (x2 : Int32) (x3 : Int32) : ∀ (r0 : Int32) (σ0 : zS), f_X7_lineOf T N s0 a0 x1 x2 x3 = some (r0, σ0) → Met l yX7_lineOf wsX7_lineOf ({ frames := 3, cells := 0, slots := 0, locals := 67 }) (va_Pc [.ref (ad a0), .int x1, .int x2, .int x3] (zPre D cy T ad s0 sz)) (va_Qi (fun (r2 : Int32) (σ2 : zS) => r2 = r0 ∧ σ2 = σ0) (zAt D cy T ad (zA T ad sz)) (zA T ad sz)) 0 0 (zA T ad sz) := by
  intro r0 σ0 hq
  refine Met.ofW (cc := cX7_lineOf) (maxL := 6) (ret := (some .int)) (by decide) rfl ?_
  intro p e s m args below meth c s₁ B hml hv
  obtain ⟨hargs, hsz, hP, hK, hD0, hN⟩ := hv
  have hx := B.exec
  have hb := B.bytes
  have hr := B.returns
  have hts := atoms_spec (ws := wsX7_lineOf) B.pre
  have hown : s.vm.findClass RX7 = some m.cls := findClass_of_methodNamed B.named
  have hlocks := B.notSynchronized
  have S : CallFix p m c cX7_lineOf 6 s args wsX7_lineOf RX7 := ⟨hx, hb, hml, hown, hts⟩
  subst hsz
  have hB : zB D cy T ad (zA T ad s.heap.size) s.heap s0 s.heap [] s := zz_entry hP hK hD0 hN
  obtain ⟨ls, hent, hl⟩ := zz_ent m hargs (n := 6) (Nat.le_of_ble_eq_true rfl)
  rw [hent]
  have hl : lv_has ls 6 [(0, .ref (ad a0)), (1, .int x1), (2, .int x2), (3, .int x3)] := hl
  unfold f_X7_lineOf at hq
  refine zz_guard hq (fun hk0 hq => ?_)
  refine lv_aload_n hx hb dX7_lineOf_0 rfl (lv_at hl 0 rfl) ?_
  refine lv_iload_n hx hb dX7_lineOf_1 rfl (lv_at hl 1 rfl) ?_
  refine lv_iload_n hx hb dX7_lineOf_2 rfl (lv_at hl 2 rfl) ?_
  refine zz_callVi S hT hB (As := [.int x1, .int x2]) (b := a0) (o := f_X7_low T N s0 a0 x1 x2) (c_X7_low l D cy T hT ad N s0 _ a0 x1 x2) (cwV 2 hts (gV wSub wd_244 wd_245 wd_246 wd_35 wd_247) rfl rfl rfl (by decide +kernel) ⟨Nat.le_of_ble_eq_true rfl, Nat.le_of_ble_eq_true rfl⟩) (F := TX7) (NF := 3) 7 rfl (by decide) (k_X7_low T N s0 a0 x1 x2) rfl hl.1 rfl (Nat.le_of_ble_eq_true rfl) dX7_lineOf_3 hq (fun x7 s6 H locs hq hB => ?_)
  refine lv_istore (lv' := [(4, .int x7), (0, .ref (ad a0)), (1, .int x1), (2, .int x2), (3, .int x3)]) hx hb dX7_lineOf_6 hl (by decide) rfl (fun ls hl => ?_)
  refine lv_aload_n hx hb dX7_lineOf_8 rfl (lv_at hl 1 rfl) ?_
  refine lv_iload_n hx hb dX7_lineOf_9 rfl (lv_at hl 2 rfl) ?_
  refine lv_iload_n hx hb dX7_lineOf_10 rfl (lv_at hl 3 rfl) ?_
  refine zz_callVi S hT hB (As := [.int x1, .int x2]) (b := a0) (o := f_X7_high T N s6 a0 x1 x2) (c_X7_high l D cy T hT ad N s6 _ a0 x1 x2) (cwV 2 hts (gV wSub wd_248 wd_249 wd_250 wd_35 wd_251) rfl rfl rfl (by decide +kernel) ⟨Nat.le_of_ble_eq_true rfl, Nat.le_of_ble_eq_true rfl⟩) (F := TX7) (NF := 3) 7 rfl (by decide) (k_X7_high T N s6 a0 x1 x2) rfl hl.1 rfl (Nat.le_of_ble_eq_true rfl) dX7_lineOf_11 hq (fun x9 s8 H locs hq hB => ?_)
  refine lv_istore (lv' := [(5, .int x9), (4, .int x7), (0, .ref (ad a0)), (1, .int x1), (2, .int x2), (3, .int x3)]) hx hb dX7_lineOf_14 hl (by decide) rfl (fun ls hl => ?_)
  refine lv_iload_n hx hb dX7_lineOf_16 rfl (lv_at hl 5 rfl) ?_
  refine zz_if_ne (tgt := 23) hx hb dX7_lineOf_17 (by decide) hq (fun hq => ?_) (fun hq => ?_)
  · refine lv_iload_n hx hb dX7_lineOf_23 rfl (lv_at hl 5 rfl) ?_
    refine lv_iconst (v := 2) hx hb dX7_lineOf_24 (by decide) ?_
    refine zz_icmp_ne (tgt := 33) hx hb dX7_lineOf_25 (by decide) hq (fun hq => ?_) (fun hq => ?_)
    · refine lv_iload hx hb dX7_lineOf_33 (lv_at hl 1 rfl) ?_
      refine lv_iload hx hb dX7_lineOf_35 (lv_at hl 0 rfl) ?_
      refine lv_iload hx hb dX7_lineOf_37 (lv_at hl 1 rfl) ?_
      refine lv_isub hx hb dX7_lineOf_39 ?_
      refine lv_iconst (v := 2) hx hb dX7_lineOf_40 (by decide) ?_
      refine zz_callSi S hT hB (As := [.int (x9 - x7), .int (2 : Int32)]) (o := f_J9_floorDiv_7cf53 T N s8 (x9 - x7) (2 : Int32)) (c_J9_floorDiv_7cf53 l D cy T hT ad N s8 _ (x9 - x7) (2 : Int32)) (va_cwS 2 hts (gS wSub wd_252 wd_21 wd_22 wd_23) rfl rfl rfl (by decide +kernel) ⟨Nat.le_of_ble_eq_true rfl, Nat.le_of_ble_eq_true rfl⟩) rfl hl.1 rfl (Nat.le_of_ble_eq_true rfl) dX7_lineOf_41 hq (fun x11 s10 H locs hq hB => ?_)
      refine lv_iadd hx hb dX7_lineOf_44 ?_
      exact zz_iret S hB hr hlocks dX7_lineOf_45 hq
    · refine lv_iload hx hb dX7_lineOf_28 (lv_at hl 0 rfl) ?_
      refine lv_goto (tgt := 45) hx hb dX7_lineOf_30 (by decide) ?_
      exact zz_iret S hB hr hlocks dX7_lineOf_45 hq
  · refine lv_iload hx hb dX7_lineOf_20 (lv_at hl 1 rfl) ?_
    exact zz_iret S hB hr hlocks dX7_lineOf_22 hq
def f_X11_isCoordinate (T : zT) (N : Nat) (s0 : zS) (x0 : Int32) : Option (Int32 × zS) :=
  zb2 (f_X11_isWithin T N s0 x0 (-10000 : Int32) (10000 : Int32)) fun x4 s3 =>
  rZ x4 s3
set_option maxHeartbeats 4000000 in
set_option maxRecDepth 100000 in
theorem c_X11_isCoordinate (l : Launch) (D : va_G) (cy : Nat → ClassId) (T : zT) (hT : zok T) (ad : Nat → Nat) (N : Nat) (s0 : zS) (sz : Nat) (x0 : Int32) : ∀ (r0 : Int32) (σ0 : zS), f_X11_isCoordinate T N s0 x0 = some (r0, σ0) → Met l yX11_isCoordinate wsX11_isCoordinate ({ frames := 1, cells := 0, slots := 0, locals := 22 }) (va_Pc [.int x0] (zPre D cy T ad s0 sz)) (va_Qi (fun (r2 : Int32) (σ2 : zS) => r2 = r0 ∧ σ2 = σ0) (zAt D cy T ad (zA T ad sz)) (zA T ad sz)) 0 0 (zA T ad sz) := by
  intro r0 σ0 hq
  refine Met.ofW (cc := cX11_isCoordinate) (maxL := 1) (ret := (some .boolean)) (by decide) rfl ?_
  intro p e s m args below meth c s₁ B hml hv
  obtain ⟨hargs, hsz, hP, hK, hD0, hN⟩ := hv
  have hx := B.exec
  have hb := B.bytes
  have hr := B.returns
  have hts := atoms_spec (ws := wsX11_isCoordinate) B.pre
  have hown : s.vm.findClass RX11 = some m.cls := findClass_of_methodNamed B.named
  have hlocks := B.notSynchronized
  have S : CallFix p m c cX11_isCoordinate 1 s args wsX11_isCoordinate RX11 := ⟨hx, hb, hml, hown, hts⟩
  subst hsz
  have hB : zB D cy T ad (zA T ad s.heap.size) s.heap s0 s.heap [] s := zz_entry hP hK hD0 hN
  obtain ⟨ls, hent, hl⟩ := zz_ent m hargs (n := 1) (Nat.le_of_ble_eq_true rfl)
  rw [hent]
  have hl : lv_has ls 1 [(0, .int x0)] := hl
  unfold f_X11_isCoordinate at hq
  refine lv_iload_n hx hb dX11_isCoordinate_0 rfl (lv_at hl 0 rfl) ?_
  refine lv_sipush (v := -10000) hx hb dX11_isCoordinate_1 (by decide) ?_
  refine lv_sipush (v := 10000) hx hb dX11_isCoordinate_4 (by decide) ?_
  refine zz_callSi S hT hB (As := [.int x0, .int (-10000 : Int32), .int (10000 : Int32)]) (o := f_X11_isWithin T N s0 x0 (-10000 : Int32) (10000 : Int32)) (c_X11_isWithin l D cy T hT ad N s0 _ x0 (-10000 : Int32) (10000 : Int32)) (va_cwS 3 hts (gS wSub wd_253 wd_222 wd_102 wd_221) rfl rfl rfl (by decide +kernel) ⟨Nat.le_of_ble_eq_true rfl, Nat.le_of_ble_eq_true rfl⟩) rfl hl.1 rfl (Nat.le_of_ble_eq_true rfl) dX11_isCoordinate_7 hq (fun x4 s3 H locs hq hB => ?_)
  exact zz_zret S hB hr hlocks dX11_isCoordinate_10 hq
def f_X7_canShift_L3 (T : zT) (N : Nat) (a0 : Nat) (x1 : Int32) (x2 : Int32) (x3 : Int32) (k3 : Int32 → zS → Option (Int32 × zS)) (x6 : Int32) (s7 : zS) : Option (Int32 × zS) :=
  (gR T s7 a0 7 0).bind fun a8 =>
  (aL T a8 17).bind fun x9 =>
  if x9 ≤ x6 then (
    rZ (1 : Int32) s7)
  else (
    zb2 (f_X7_find T N s7 a0 x6) fun o11 s10 => zo o11 (
      zn (x6 + (1 : Int32)) fun x13 =>
      k3 x13 s10)
    fun a12 => (
      zb2 (f_X11_hasBit T N s10 x1 x6) fun x15 s14 =>
      if x15 = 0 then (
        zn (x6 + (1 : Int32)) fun x16 =>
        k3 x16 s14)
      else (
        zb2 (f_X6_start T N s14 a12 x2) fun x18 s17 =>
        zb2 (f_X11_isCoordinate T N s17 (x18 + x3)) fun x20 s19 =>
        if ¬ x20 = 0 then (
          zn (x6 + (1 : Int32)) fun x21 =>
          k3 x21 s19)
        else (
          rZ (0 : Int32) s19))))
def f_X7_canShift (T : zT) (N : Nat) (s0 : zS) (a0 : Nat) (x1 : Int32) (x2 : Int32) (x3 : Int32) : Option (Int32 × zS) :=
  zz1 (T.1 a0 = 7) <|
  zl2 (f_X7_canShift_L3 T N a0 x1 x2 x3) N (0 : Int32) s0
theorem k_X7_canShift (T : zT) (N : Nat) (s0 : zS) (a0 : Nat) (x1 : Int32) (x2 : Int32) (x3 : Int32) : ∀ q, f_X7_canShift T N s0 a0 x1 x2 x3 = some q → T.1 a0 = 7 := by
  intro q h
  unfold f_X7_canShift at h
  exact zz_guard h (fun h _ => h)
set_option maxHeartbeats 4000000 in
set_option maxRecDepth 100000 in
theorem c_X7_canShift (l : Launch) (D : va_G) (cy : Nat → ClassId) (T : zT) (hT : zok T) (ad : Nat → Nat) (N : Nat) (s0 : zS) (sz : Nat) (a0 : Nat) (x1 : Int32) (x2 : Int32) (x3 : Int32) : ∀ (r0 : Int32) (σ0 : zS), f_X7_canShift T N s0 a0 x1 x2 x3 = some (r0, σ0) → Met l yX7_canShift wsX7_canShift ({ frames := 2, cells := 0, slots := 0, locals := 42 }) (va_Pc [.ref (ad a0), .int x1, .int x2, .int x3] (zPre D cy T ad s0 sz)) (va_Qi (fun (r2 : Int32) (σ2 : zS) => r2 = r0 ∧ σ2 = σ0) (zAt D cy T ad (zA T ad sz)) (zA T ad sz)) 0 0 (zA T ad sz) := by
  intro r0 σ0 hq
  refine Met.ofW (cc := cX7_canShift) (maxL := 6) (ret := (some .boolean)) (by decide) rfl ?_
  intro p e s m args below meth c s₁ B hml hv
  obtain ⟨hargs, hsz, hP, hK, hD0, hN⟩ := hv
  have hx := B.exec
  have hb := B.bytes
  have hr := B.returns
  have hts := atoms_spec (ws := wsX7_canShift) B.pre
  have hown : s.vm.findClass RX7 = some m.cls := findClass_of_methodNamed B.named
  have hlocks := B.notSynchronized
  have S : CallFix p m c cX7_canShift 6 s args wsX7_canShift RX7 := ⟨hx, hb, hml, hown, hts⟩
  subst hsz
  have hB : zB D cy T ad (zA T ad s.heap.size) s.heap s0 s.heap [] s := zz_entry hP hK hD0 hN
  obtain ⟨ls, hent, hl⟩ := zz_ent m hargs (n := 6) (Nat.le_of_ble_eq_true rfl)
  rw [hent]
  have hl : lv_has ls 6 [(0, .ref (ad a0)), (1, .int x1), (2, .int x2), (3, .int x3)] := hl
  have iwX7 : ∀ w ∈ u_ws RX7 TX7 3, w ∈ wsX7_canShift := fun w h => wS (inWX7 w h)
  unfold f_X7_canShift at hq
  refine zz_guard hq (fun hk0 hq => ?_)
  refine lv_iconst (v := 0) hx hb dX7_canShift_0 (by decide) ?_
  refine lv_istore (lv' := [(4, .int (0 : Int32)), (0, .ref (ad a0)), (1, .int x1), (2, .int x2), (3, .int x3)]) hx hb dX7_canShift_1 hl (by decide) rfl (fun ls hl => ?_)
  have L3 : ∀ (n : Nat) (x6 : Int32) (s7 : zS) (H : Heap) (locs : List Loc) (ls : Array Slot), zl2 (f_X7_canShift_L3 T N a0 x1 x2 x3) n x6 s7 = some (r0, σ0) → zB D cy T ad (zA T ad s.heap.size) s.heap s7 H locs s → lv_has ls 6 [(0, .ref (ad a0)), (1, .int x1), (2, .int x2), (3, .int x3), (4, .int x6)] → W p l e (headSpec wsX7_canShift ({ frames := 2, cells := 0, slots := 0, locals := 42 } : Room)).room s m args below meth c H locs 0 0 (MQ below (va_Qi (fun (r2 : Int32) (σ2 : zS) => r2 = r0 ∧ σ2 = σ0) (zAt D cy T ad (zA T ad s.heap.size)) (zA T ad s.heap.size)) args s 0 0 (zA T ad s.heap.size)) (F0 m 3 ls []) := by
    intro n
    induction n with
    | zero => intro x6 s7 H locs ls hq; exact zz_none hq
    | succ n ih3 =>
      intro x6 s7 H locs ls hq hB hl
      rw [zl2] at hq
      generalize zl2 (f_X7_canShift_L3 T N a0 x1 x2 x3) n = k3 at ih3 hq
      unfold f_X7_canShift_L3 at hq
      refine lv_iload hx hb dX7_canShift_3 (lv_at hl 4 rfl) ?_
      refine lv_aload_n hx hb dX7_canShift_5 rfl (lv_at hl 0 rfl) ?_
      refine zz_getR S hT hB (C := RX7) (ref := "DiagramDesk$Shapes") (F := TX7) (N := 3) (index := 11) 7 0 iwX7 rfl (by decide) (by decide) rfl rfl (wS wd_5) (fun _ h9 => h9) dX7_canShift_6 hq (fun a8 hq => ?_)
      refine zz_alen S hT hB 17 (by decide) (by decide) dX7_canShift_9 hq (fun x9 hq => ?_)
      refine zz_icmp_ge (tgt := 57) hx hb dX7_canShift_10 (by decide) hq (fun hq => ?_) (fun hq => ?_)
      · refine lv_iconst (v := 1) hx hb dX7_canShift_57 (by decide) ?_
        exact zz_zret S hB hr hlocks dX7_canShift_58 hq
      · refine lv_aload_n hx hb dX7_canShift_13 rfl (lv_at hl 0 rfl) ?_
        refine lv_iload hx hb dX7_canShift_14 (lv_at hl 4 rfl) ?_
        refine zz_callVq S hT hB (As := [.int x6]) (b := a0) (o := f_X7_find T N s7 a0 x6) (c_X7_find l D cy T hT ad N s7 _ a0 x6) (cwV 1 hts (gV wSub wd_176 wd_33 wd_34 wd_35 wd_36) rfl rfl rfl (by decide +kernel) ⟨Nat.le_of_ble_eq_true rfl, Nat.le_of_ble_eq_true rfl⟩) (F := TX7) (NF := 3) 7 rfl (by decide) (k_X7_find T N s7 a0 x6) rfl hl.1 rfl (Nat.le_of_ble_eq_true rfl) dX7_canShift_16 hq (fun s10 H locs hq hB => ?_) (fun a12 s10 H locs hq hB => ?_)
        · refine lv_astoreN (lv' := [(5, .null), (0, .ref (ad a0)), (1, .int x1), (2, .int x2), (3, .int x3), (4, .int x6)]) hx hb dX7_canShift_19 hl (by decide) rfl (fun ls hl => ?_)
          refine lv_aloadN hx hb dX7_canShift_21 (lv_at hl 0 rfl) ?_
          refine lv_ifnullN (tgt := 51) hx hb dX7_canShift_23 (by decide) ?_
          refine zz_nmV hq (fun x13 ex13 hq => ?_)
          refine lv_iinc (v := x13) (lv' := [(4, .int x13), (5, .null), (0, .ref (ad a0)), (1, .int x1), (2, .int x2), (3, .int x3)]) hx hb dX7_canShift_51 hl (k := 5) rfl (by rw [ex13]; rfl) (by decide) rfl (fun ls hl => ?_)
          refine lv_goto (tgt := 3) hx hb dX7_canShift_54 (by decide) ?_
          exact ih3 x13 s10 _ _ _ hq hB (lv_sub hl [2, 3, 4, 5, 0] rfl)
        · refine lv_astore (lv' := [(5, .ref (ad a12)), (0, .ref (ad a0)), (1, .int x1), (2, .int x2), (3, .int x3), (4, .int x6)]) hx hb dX7_canShift_19 hl (by decide) rfl (fun ls hl => ?_)
          refine lv_aload hx hb dX7_canShift_21 (lv_at hl 0 rfl) ?_
          refine lv_ifnull hx hb dX7_canShift_23 ?_
          refine lv_iload_n hx hb dX7_canShift_26 rfl (lv_at hl 2 rfl) ?_
          refine lv_iload hx hb dX7_canShift_27 (lv_at hl 5 rfl) ?_
          refine zz_callNi S hT hB (As := [.int x1, .int x6]) (o := f_X11_hasBit T N s10 x1 x6) (c_X11_hasBit l D cy T hT ad N s10 _ x1 x6) ⟨va_cnB (host := "DiagramDesk") 2 hts (gN wSub wd_101) rfl rfl rfl (zN_at hN 12 rfl) (hts _ (wS wd_102)) (by decide +kernel) ⟨Nat.le_of_ble_eq_true rfl, Nat.le_of_ble_eq_true rfl⟩, hts _ (wS wd_103), trivial⟩ rfl hl.1 rfl (Nat.le_of_ble_eq_true rfl) dX7_canShift_29 hq (fun x15 s14 H locs hq hB => ?_)
          refine zz_if_eq (tgt := 51) hx hb dX7_canShift_32 (by decide) hq (fun hq => ?_) (fun hq => ?_)
          · refine zz_nmV hq (fun x16 ex16 hq => ?_)
            refine lv_iinc (v := x16) (lv' := [(4, .int x16), (5, .ref (ad a12)), (0, .ref (ad a0)), (1, .int x1), (2, .int x2), (3, .int x3)]) hx hb dX7_canShift_51 hl (k := 5) rfl (by rw [ex16]; rfl) (by decide) rfl (fun ls hl => ?_)
            refine lv_goto (tgt := 3) hx hb dX7_canShift_54 (by decide) ?_
            exact ih3 x16 s14 _ _ _ hq hB (lv_sub hl [2, 3, 4, 5, 0] rfl)
          · refine lv_aload hx hb dX7_canShift_35 (lv_at hl 0 rfl) ?_
            refine lv_iload_n hx hb dX7_canShift_37 rfl (lv_at hl 3 rfl) ?_
            refine zz_callVi S hT hB (As := [.int x2]) (b := a12) (o := f_X6_start T N s14 a12 x2) (c_X6_start l D cy T hT ad N s14 _ a12 x2) (cwV 1 hts (gV wSub wd_239 wd_12 wd_13 wd_14 wd_15) rfl rfl rfl (by decide +kernel) ⟨Nat.le_of_ble_eq_true rfl, Nat.le_of_ble_eq_true rfl⟩) (F := TX6) (NF := 8) 6 rfl (by decide) (k_X6_start T N s14 a12 x2) rfl hl.1 rfl (Nat.le_of_ble_eq_true rfl) dX7_canShift_38 hq (fun x18 s17 H locs hq hB => ?_)
            refine lv_iload_n hx hb dX7_canShift_41 rfl (lv_at hl 4 rfl) ?_
            refine lv_iadd hx hb dX7_canShift_42 ?_
            refine zz_callNi S hT hB (As := [.int (x18 + x3)]) (o := f_X11_isCoordinate T N s17 (x18 + x3)) (c_X11_isCoordinate l D cy T hT ad N s17 _ (x18 + x3)) ⟨va_cnB (host := "DiagramDesk") 1 hts (gN wSub wd_254) rfl rfl rfl (zN_at hN 13 rfl) (hts _ (wS wd_102)) (by decide +kernel) ⟨Nat.le_of_ble_eq_true rfl, Nat.le_of_ble_eq_true rfl⟩, hts _ (wS wd_255), trivial⟩ rfl hl.1 rfl (Nat.le_of_ble_eq_true rfl) dX7_canShift_43 hq (fun x20 s19 H locs hq hB => ?_)
            refine zz_if_ne (tgt := 51) hx hb dX7_canShift_46 (by decide) hq (fun hq => ?_) (fun hq => ?_)
            · refine zz_nmV hq (fun x21 ex21 hq => ?_)
              refine lv_iinc (v := x21) (lv' := [(4, .int x21), (5, .ref (ad a12)), (0, .ref (ad a0)), (1, .int x1), (2, .int x2), (3, .int x3)]) hx hb dX7_canShift_51 hl (k := 5) rfl (by rw [ex21]; rfl) (by decide) rfl (fun ls hl => ?_)
              refine lv_goto (tgt := 3) hx hb dX7_canShift_54 (by decide) ?_
              exact ih3 x21 s19 _ _ _ hq hB (lv_sub hl [2, 3, 4, 5, 0] rfl)
            · refine lv_iconst (v := 0) hx hb dX7_canShift_49 (by decide) ?_
              exact zz_zret S hB hr hlocks dX7_canShift_50 hq
  exact L3 N (0 : Int32) s0 _ _ _ hq hB (lv_sub hl [1, 2, 3, 4, 0] rfl)
def f_X7_shift_L3 (T : zT) (N : Nat) (a0 : Nat) (x1 : Int32) (x2 : Int32) (x3 : Int32) (k3 : Int32 → zS → Option zS) (x6 : Int32) (s7 : zS) : Option zS :=
  (gR T s7 a0 7 0).bind fun a8 =>
  (aL T a8 17).bind fun x9 =>
  if x9 ≤ x6 then (
    some s7)
  else (
    zb2 (f_X7_find T N s7 a0 x6) fun o11 s10 => zo o11 (
      zn (x6 + (1 : Int32)) fun x13 =>
      k3 x13 s10)
    fun a12 => (
      zb2 (f_X11_hasBit T N s10 x1 x6) fun x15 s14 =>
      if x15 = 0 then (
        zn (x6 + (1 : Int32)) fun x16 =>
        k3 x16 s14)
      else (
        (f_X6_shift T N s14 a12 x2 x3).bind fun s17 =>
        zn (x6 + (1 : Int32)) fun x18 =>
        k3 x18 s17)))
def f_X7_shift (T : zT) (N : Nat) (s0 : zS) (a0 : Nat) (x1 : Int32) (x2 : Int32) (x3 : Int32) : Option zS :=
  zz1 (T.1 a0 = 7) <|
  zl2 (f_X7_shift_L3 T N a0 x1 x2 x3) N (0 : Int32) s0
theorem k_X7_shift (T : zT) (N : Nat) (s0 : zS) (a0 : Nat) (x1 : Int32) (x2 : Int32) (x3 : Int32) : ∀ q, f_X7_shift T N s0 a0 x1 x2 x3 = some q → T.1 a0 = 7 := by
  intro q h
  unfold f_X7_shift at h
  exact zz_guard h (fun h _ => h)
set_option maxHeartbeats 4000000 in
set_option maxRecDepth 100000 in
theorem c_X7_shift (l : Launch) (D : va_G) (cy : Nat → ClassId) (T : zT) (hT : zok T) (ad : Nat → Nat) (N : Nat) (s0 : zS) (sz : Nat) (a0 : Nat) (x1 : Int32) (x2 : Int32) (x3 : Int32) : ∀ (σ0 : zS), f_X7_shift T N s0 a0 x1 x2 x3 = some σ0 → Met l yX7_shift wsX7_shift ({ frames := 1, cells := 0, slots := 0, locals := 22 }) (va_Pc [.ref (ad a0), .int x1, .int x2, .int x3] (zPre D cy T ad s0 sz)) (va_Qv (fun σ2 : zS => σ2 = σ0) (zAt D cy T ad (zA T ad sz)) (zA T ad sz)) 0 0 (zA T ad sz) := by
  intro σ0 hq
  refine Met.ofW (cc := cX7_shift) (maxL := 6) (ret := none) (by decide) rfl ?_
  intro p e s m args below meth c s₁ B hml hv
  obtain ⟨hargs, hsz, hP, hK, hD0, hN⟩ := hv
  have hx := B.exec
  have hb := B.bytes
  have hr := B.returns
  have hts := atoms_spec (ws := wsX7_shift) B.pre
  have hown : s.vm.findClass RX7 = some m.cls := findClass_of_methodNamed B.named
  have hlocks := B.notSynchronized
  have S : CallFix p m c cX7_shift 6 s args wsX7_shift RX7 := ⟨hx, hb, hml, hown, hts⟩
  subst hsz
  have hB : zB D cy T ad (zA T ad s.heap.size) s.heap s0 s.heap [] s := zz_entry hP hK hD0 hN
  obtain ⟨ls, hent, hl⟩ := zz_ent m hargs (n := 6) (Nat.le_of_ble_eq_true rfl)
  rw [hent]
  have hl : lv_has ls 6 [(0, .ref (ad a0)), (1, .int x1), (2, .int x2), (3, .int x3)] := hl
  have iwX7 : ∀ w ∈ u_ws RX7 TX7 3, w ∈ wsX7_shift := fun w h => wS (inWX7 w h)
  unfold f_X7_shift at hq
  refine zz_guard hq (fun hk0 hq => ?_)
  refine lv_iconst (v := 0) hx hb dX7_shift_0 (by decide) ?_
  refine lv_istore (lv' := [(4, .int (0 : Int32)), (0, .ref (ad a0)), (1, .int x1), (2, .int x2), (3, .int x3)]) hx hb dX7_shift_1 hl (by decide) rfl (fun ls hl => ?_)
  have L3 : ∀ (n : Nat) (x6 : Int32) (s7 : zS) (H : Heap) (locs : List Loc) (ls : Array Slot), zl2 (f_X7_shift_L3 T N a0 x1 x2 x3) n x6 s7 = some σ0 → zB D cy T ad (zA T ad s.heap.size) s.heap s7 H locs s → lv_has ls 6 [(0, .ref (ad a0)), (1, .int x1), (2, .int x2), (3, .int x3), (4, .int x6)] → W p l e (headSpec wsX7_shift ({ frames := 1, cells := 0, slots := 0, locals := 22 } : Room)).room s m args below meth c H locs 0 0 (MQ below (va_Qv (fun σ2 : zS => σ2 = σ0) (zAt D cy T ad (zA T ad s.heap.size)) (zA T ad s.heap.size)) args s 0 0 (zA T ad s.heap.size)) (F0 m 3 ls []) := by
    intro n
    induction n with
    | zero => intro x6 s7 H locs ls hq; exact zz_none hq
    | succ n ih3 =>
      intro x6 s7 H locs ls hq hB hl
      rw [zl2] at hq
      generalize zl2 (f_X7_shift_L3 T N a0 x1 x2 x3) n = k3 at ih3 hq
      unfold f_X7_shift_L3 at hq
      refine lv_iload hx hb dX7_shift_3 (lv_at hl 4 rfl) ?_
      refine lv_aload_n hx hb dX7_shift_5 rfl (lv_at hl 0 rfl) ?_
      refine zz_getR S hT hB (C := RX7) (ref := "DiagramDesk$Shapes") (F := TX7) (N := 3) (index := 11) 7 0 iwX7 rfl (by decide) (by decide) rfl rfl (wS wd_5) (fun _ h9 => h9) dX7_shift_6 hq (fun a8 hq => ?_)
      refine zz_alen S hT hB 17 (by decide) (by decide) dX7_shift_9 hq (fun x9 hq => ?_)
      refine zz_icmp_ge (tgt := 48) hx hb dX7_shift_10 (by decide) hq (fun hq => ?_) (fun hq => ?_)
      · exact zz_vret S hB hr hlocks dX7_shift_48 hq
      · refine lv_aload_n hx hb dX7_shift_13 rfl (lv_at hl 0 rfl) ?_
        refine lv_iload hx hb dX7_shift_14 (lv_at hl 4 rfl) ?_
        refine zz_callVq S hT hB (As := [.int x6]) (b := a0) (o := f_X7_find T N s7 a0 x6) (c_X7_find l D cy T hT ad N s7 _ a0 x6) (cwV 1 hts (gV wSub wd_176 wd_33 wd_34 wd_35 wd_36) rfl rfl rfl (by decide +kernel) ⟨Nat.le_of_ble_eq_true rfl, Nat.le_of_ble_eq_true rfl⟩) (F := TX7) (NF := 3) 7 rfl (by decide) (k_X7_find T N s7 a0 x6) rfl hl.1 rfl (Nat.le_of_ble_eq_true rfl) dX7_shift_16 hq (fun s10 H locs hq hB => ?_) (fun a12 s10 H locs hq hB => ?_)
        · refine lv_astoreN (lv' := [(5, .null), (0, .ref (ad a0)), (1, .int x1), (2, .int x2), (3, .int x3), (4, .int x6)]) hx hb dX7_shift_19 hl (by decide) rfl (fun ls hl => ?_)
          refine lv_aloadN hx hb dX7_shift_21 (lv_at hl 0 rfl) ?_
          refine lv_ifnullN (tgt := 42) hx hb dX7_shift_23 (by decide) ?_
          refine zz_nmV hq (fun x13 ex13 hq => ?_)
          refine lv_iinc (v := x13) (lv' := [(4, .int x13), (5, .null), (0, .ref (ad a0)), (1, .int x1), (2, .int x2), (3, .int x3)]) hx hb dX7_shift_42 hl (k := 5) rfl (by rw [ex13]; rfl) (by decide) rfl (fun ls hl => ?_)
          refine lv_goto (tgt := 3) hx hb dX7_shift_45 (by decide) ?_
          exact ih3 x13 s10 _ _ _ hq hB (lv_sub hl [2, 3, 4, 5, 0] rfl)
        · refine lv_astore (lv' := [(5, .ref (ad a12)), (0, .ref (ad a0)), (1, .int x1), (2, .int x2), (3, .int x3), (4, .int x6)]) hx hb dX7_shift_19 hl (by decide) rfl (fun ls hl => ?_)
          refine lv_aload hx hb dX7_shift_21 (lv_at hl 0 rfl) ?_
          refine lv_ifnull hx hb dX7_shift_23 ?_
          refine lv_iload_n hx hb dX7_shift_26 rfl (lv_at hl 2 rfl) ?_
          refine lv_iload hx hb dX7_shift_27 (lv_at hl 5 rfl) ?_
          refine zz_callNi S hT hB (As := [.int x1, .int x6]) (o := f_X11_hasBit T N s10 x1 x6) (c_X11_hasBit l D cy T hT ad N s10 _ x1 x6) ⟨va_cnB (host := "DiagramDesk") 2 hts (gN wSub wd_101) rfl rfl rfl (zN_at hN 12 rfl) (hts _ (wS wd_102)) (by decide +kernel) ⟨Nat.le_of_ble_eq_true rfl, Nat.le_of_ble_eq_true rfl⟩, hts _ (wS wd_103), trivial⟩ rfl hl.1 rfl (Nat.le_of_ble_eq_true rfl) dX7_shift_29 hq (fun x15 s14 H locs hq hB => ?_)
          refine zz_if_eq (tgt := 42) hx hb dX7_shift_32 (by decide) hq (fun hq => ?_) (fun hq => ?_)
          · refine zz_nmV hq (fun x16 ex16 hq => ?_)
            refine lv_iinc (v := x16) (lv' := [(4, .int x16), (5, .ref (ad a12)), (0, .ref (ad a0)), (1, .int x1), (2, .int x2), (3, .int x3)]) hx hb dX7_shift_42 hl (k := 5) rfl (by rw [ex16]; rfl) (by decide) rfl (fun ls hl => ?_)
            refine lv_goto (tgt := 3) hx hb dX7_shift_45 (by decide) ?_
            exact ih3 x16 s14 _ _ _ hq hB (lv_sub hl [2, 3, 4, 5, 0] rfl)
          · refine lv_aload hx hb dX7_shift_35 (lv_at hl 0 rfl) ?_
            refine lv_iload_n hx hb dX7_shift_37 rfl (lv_at hl 3 rfl) ?_
            refine lv_iload_n hx hb dX7_shift_38 rfl (lv_at hl 4 rfl) ?_
            refine zz_callVv S hT hB (As := [.int x2, .int x3]) (b := a12) (o := f_X6_shift T N s14 a12 x2 x3) (c_X6_shift l D cy T hT ad N s14 _ a12 x2 x3) (cwV 2 hts (gV wSub wd_256 wd_257 wd_258 wd_14 wd_259) rfl rfl rfl (by decide +kernel) ⟨Nat.le_of_ble_eq_true rfl, Nat.le_of_ble_eq_true rfl⟩) (F := TX6) (NF := 8) 6 rfl (by decide) (k_X6_shift T N s14 a12 x2 x3) rfl hl.1 rfl (Nat.le_of_ble_eq_true rfl) dX7_shift_39 hq (fun s17 H locs hq hB => ?_)
            refine zz_nmV hq (fun x18 ex18 hq => ?_)
            refine lv_iinc (v := x18) (lv' := [(4, .int x18), (5, .ref (ad a12)), (0, .ref (ad a0)), (1, .int x1), (2, .int x2), (3, .int x3)]) hx hb dX7_shift_42 hl (k := 5) rfl (by rw [ex18]; rfl) (by decide) rfl (fun ls hl => ?_)
            refine lv_goto (tgt := 3) hx hb dX7_shift_45 (by decide) ?_
            exact ih3 x18 s17 _ _ _ hq hB (lv_sub hl [2, 3, 4, 5, 0] rfl)
  exact L3 N (0 : Int32) s0 _ _ _ hq hB (lv_sub hl [1, 2, 3, 4, 0] rfl)
def f_X8_isNearer (T : zT) (N : Nat) (s0 : zS) (a0 : Nat) (x1 : Int32) : Option (Int32 × zS) :=
  zz1 (T.1 a0 = 8) <|
  zn (if 0 ≤ x1 then x1 else 0 - x1) fun x4 =>
  (gI T s0 a0 8 1).bind fun x5 =>
  zn (if 0 ≤ x5 then x5 else 0 - x5) fun x6 =>
  if x4 < x6 then (
    rZ (1 : Int32) s0)
  else (
    if ¬ x4 = x6 then (
      rZ (0 : Int32) s0)
    else (
      (gI T s0 a0 8 1).bind fun x7 =>
      if x7 ≤ x1 then (
        rZ (0 : Int32) s0)
      else (
        rZ (1 : Int32) s0)))
theorem k_X8_isNearer (T : zT) (N : Nat) (s0 : zS) (a0 : Nat) (x1 : Int32) : ∀ q, f_X8_isNearer T N s0 a0 x1 = some q → T.1 a0 = 8 := by
  intro q h
  unfold f_X8_isNearer at h
  exact zz_guard h (fun h _ => h)
set_option maxHeartbeats 4000000 in
set_option maxRecDepth 100000 in
theorem c_X8_isNearer (l : Launch) (D : va_G) (cy : Nat → ClassId) (T : zT) (hT : zok T) (ad : Nat → Nat) (N : Nat) (s0 : zS) (sz : Nat) (a0 : Nat) (x1 : Int32) : ∀ (r0 : Int32) (σ0 : zS), f_X8_isNearer T N s0 a0 x1 = some (r0, σ0) → Met l yX8_isNearer wsX8_isNearer ({ frames := 1, cells := 0, slots := 0, locals := 24 }) (va_Pc [.ref (ad a0), .int x1] (zPre D cy T ad s0 sz)) (va_Qi (fun (r2 : Int32) (σ2 : zS) => r2 = r0 ∧ σ2 = σ0) (zAt D cy T ad (zA T ad sz)) (zA T ad sz)) 0 0 (zA T ad sz) := by
  intro r0 σ0 hq
  refine Met.ofW (cc := cX8_isNearer) (maxL := 4) (ret := (some .boolean)) (by decide) rfl ?_
  intro p e s m args below meth c s₁ B hml hv
  obtain ⟨hargs, hsz, hP, hK, hD0, hN⟩ := hv
  have hx := B.exec
  have hb := B.bytes
  have hr := B.returns
  have hts := atoms_spec (ws := wsX8_isNearer) B.pre
  have hown : s.vm.findClass RX8 = some m.cls := findClass_of_methodNamed B.named
  have hlocks := B.notSynchronized
  have S : CallFix p m c cX8_isNearer 4 s args wsX8_isNearer RX8 := ⟨hx, hb, hml, hown, hts⟩
  subst hsz
  have hB : zB D cy T ad (zA T ad s.heap.size) s.heap s0 s.heap [] s := zz_entry hP hK hD0 hN
  obtain ⟨ls, hent, hl⟩ := zz_ent m hargs (n := 4) (Nat.le_of_ble_eq_true rfl)
  rw [hent]
  have hl : lv_has ls 4 [(0, .ref (ad a0)), (1, .int x1)] := hl
  have iwX8 : ∀ w ∈ u_ws RX8 TX8 3, w ∈ wsX8_isNearer := fun w h => wS (inWX8 w h)
  unfold f_X8_isNearer at hq
  refine zz_guard hq (fun hk0 hq => ?_)
  refine lv_iload_n hx hb dX8_isNearer_0 rfl (lv_at hl 1 rfl) ?_
  refine zz_abs S hl.1 (wS wd_260) (wS wd_53) (wS wd_54) (wS wd_55) (Nat.le_of_ble_eq_true rfl) (Nat.le_of_ble_eq_true rfl) dX8_isNearer_1 ?_
  refine zz_nmI hq (fun x4 hq => ?_)
  refine lv_istore_n (lv' := [(2, .int x4), (0, .ref (ad a0)), (1, .int x1)]) hx hb dX8_isNearer_4 rfl hl (by decide) rfl (fun ls hl => ?_)
  refine lv_aload_n hx hb dX8_isNearer_5 rfl (lv_at hl 1 rfl) ?_
  refine zz_get S hT hB (C := RX8) (ref := "DiagramDesk$Snap") (F := TX8) (N := 3) (index := 30) 8 1 iwX8 rfl (by decide) (by decide) rfl rfl (wS wd_261) (fun _ h9 => h9) dX8_isNearer_6 hq (fun x5 hq => ?_)
  refine zz_abs S hl.1 (wS wd_260) (wS wd_53) (wS wd_54) (wS wd_55) (Nat.le_of_ble_eq_true rfl) (Nat.le_of_ble_eq_true rfl) dX8_isNearer_9 ?_
  refine zz_nmI hq (fun x6 hq => ?_)
  refine lv_istore_n (lv' := [(3, .int x6), (2, .int x4), (0, .ref (ad a0)), (1, .int x1)]) hx hb dX8_isNearer_12 rfl hl (by decide) rfl (fun ls hl => ?_)
  refine lv_iload_n hx hb dX8_isNearer_13 rfl (lv_at hl 1 rfl) ?_
  refine lv_iload_n hx hb dX8_isNearer_14 rfl (lv_at hl 0 rfl) ?_
  refine zz_icmp_lt (tgt := 31) hx hb dX8_isNearer_15 (by decide) hq (fun hq => ?_) (fun hq => ?_)
  · refine lv_iconst (v := 1) hx hb dX8_isNearer_31 (by decide) ?_
    refine lv_goto (tgt := 36) hx hb dX8_isNearer_32 (by decide) ?_
    exact zz_zret S hB hr hlocks dX8_isNearer_36 hq
  · refine lv_iload_n hx hb dX8_isNearer_18 rfl (lv_at hl 1 rfl) ?_
    refine lv_iload_n hx hb dX8_isNearer_19 rfl (lv_at hl 0 rfl) ?_
    refine zz_icmp_ne (tgt := 35) hx hb dX8_isNearer_20 (by decide) hq (fun hq => ?_) (fun hq => ?_)
    · refine lv_iconst (v := 0) hx hb dX8_isNearer_35 (by decide) ?_
      exact zz_zret S hB hr hlocks dX8_isNearer_36 hq
    · refine lv_iload_n hx hb dX8_isNearer_23 rfl (lv_at hl 3 rfl) ?_
      refine lv_aload_n hx hb dX8_isNearer_24 rfl (lv_at hl 2 rfl) ?_
      refine zz_get S hT hB (C := RX8) (ref := "DiagramDesk$Snap") (F := TX8) (N := 3) (index := 30) 8 1 iwX8 rfl (by decide) (by decide) rfl rfl (wS wd_261) (fun _ h9 => h9) dX8_isNearer_25 hq (fun x7 hq => ?_)
      refine zz_icmp_ge (tgt := 35) hx hb dX8_isNearer_28 (by decide) hq (fun hq => ?_) (fun hq => ?_)
      · refine lv_iconst (v := 0) hx hb dX8_isNearer_35 (by decide) ?_
        exact zz_zret S hB hr hlocks dX8_isNearer_36 hq
      · refine lv_iconst (v := 1) hx hb dX8_isNearer_31 (by decide) ?_
        refine lv_goto (tgt := 36) hx hb dX8_isNearer_32 (by decide) ?_
        exact zz_zret S hB hr hlocks dX8_isNearer_36 hq
