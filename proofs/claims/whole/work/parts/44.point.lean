/-! point, length -/
theorem INV_scr {G G' M M' : Nat → Nat → Int32} {q : Nat → Option Nat} (hR : QR G (M 1)) (hH : Hist G q M) (hT : Txt G M) (e1 : ∀ a j, a < 360 → G' a j = G a j) (e2 : G' 360 2 = G 360 2) (e3 : ∀ j, G' 361 j = G 361 j) (f1 : ∀ j, M' 1 j = M 1 j) (f2 : ∀ j, M' 2 j = M 2 j) (f3 : M' 0 2 = M 0 2) (f4 : M' 0 18 = M 0 18) (f5 : ∀ j, M' 13 j = M 13 j) : INV (G', rfC q) (M', rfM) :=
  INV_mk (QR_same hR (fun i _ => f1 i) (fun o j _ h => e1 _ _ (by omega))) (Hist_fr hH (fun a j _ h => e1 _ _ h) f2 f3) (Txt_fr hT e2 e3 f4 f5)
theorem gm1 {M : Nat → Nat → Int32} : gR TM (M, rfM) 0 12 1 = some 2 := (gR_of TM_0).trans rm_1
theorem gm3 {M : Nat → Nat → Int32} : gR TM (M, rfM) 0 12 3 = some 3 := (gR_of TM_0).trans rm_3
theorem gm4 {M : Nat → Nat → Int32} : gR TM (M, rfM) 0 12 4 = some 4 := (gR_of TM_0).trans rm_4
theorem gm6 {M : Nat → Nat → Int32} : gR TM (M, rfM) 0 12 6 = some 5 := (gR_of TM_0).trans rm_6
theorem gm7 {M : Nat → Nat → Int32} : gR TM (M, rfM) 0 12 7 = some 6 := (gR_of TM_0).trans rm_7
theorem gm8 {M : Nat → Nat → Int32} : gR TM (M, rfM) 0 12 8 = some 7 := (gR_of TM_0).trans rm_8
theorem gm9 {M : Nat → Nat → Int32} : gR TM (M, rfM) 0 12 9 = some 8 := (gR_of TM_0).trans rm_9
theorem gm10 {M : Nat → Nat → Int32} : gR TM (M, rfM) 0 12 10 = some 9 := (gR_of TM_0).trans rm_10
theorem gm12 {M : Nat → Nat → Int32} : gR TM (M, rfM) 0 12 12 = some 10 := (gR_of TM_0).trans rm_12
theorem gm13 {M : Nat → Nat → Int32} : gR TM (M, rfM) 0 12 13 = some 11 := (gR_of TM_0).trans rm_13
theorem gm16 {M : Nat → Nat → Int32} : gR TM (M, rfM) 0 12 16 = some 12 := (gR_of TM_0).trans rm_16
theorem gm17 {M : Nat → Nat → Int32} : gR TM (M, rfM) 0 12 17 = some 13 := (gR_of TM_0).trans rm_17
theorem gm22 {M : Nat → Nat → Int32} : gR TM (M, rfM) 0 12 22 = some 14 := (gR_of TM_0).trans rm_22
theorem gm23 {M : Nat → Nat → Int32} : gR TM (M, rfM) 0 12 23 = some 15 := (gR_of TM_0).trans rm_23
def dst (a b : Int32) : Int32 := if b ≤ a then a - b else b - a
def lenL (X Y : Nat → Int32) : Nat → Int32
  | 0 => 0
  | k + 1 => lenL X Y k + dst (X (k + 1)) (X k) + dst (Y (k + 1)) (Y k)
/-- a number as a coordinate of a point may be -/
def Bd (x : Int32) : Prop := -10000 ≤ x.toInt ∧ x.toInt ≤ 10500
theorem dst_abs {a b : Int32} (ha : Bd a) (hb : Bd b) : (if 0 ≤ a - b then a - b else 0 - (a - b)) = dst a b := by
  unfold dst
  unfold Bd at ha hb
  have e : (a - b).toInt = a.toInt - b.toInt := Jvm.Kit.i32_sub (by omega) (by omega)
  have e0 : (0 : Int32).toInt = 0 := by decide
  by_cases h : b ≤ a
  · rw [if_pos h, if_pos (by rw [fa_le, e, e0]; rw [fa_le] at h; omega)]
  · rw [if_neg h, if_neg (by rw [fa_le, e, e0]; rw [fa_le] at h; omega), Int32.zero_sub, Int32.neg_sub]
section PTL
variable {G M : Nat → Nat → Int32} {q : Nat → Option Nat} {N : Nat} {n c ln : Nat} {th sel gt : Nat → Bool} {p : Nat → Nat} {hs hg : Nat → Option Nat} {ρ : Nat → Nat → Option Nat} {V : Nat → Int32} {s t a b y k α : Nat} {A B : Nat → Int32} {X Y : Nat → Int32}
theorem ptA_b (hF : Fld G s) (hα : α < 2) : Bd (ptA G (4 + s) a α) := by
  obtain ⟨-, h2, h3⟩ := hF
  have b2 := h2 (2 + α) (by omega) (by omega)
  have b3 := h3 (4 + α) (by omega) (by omega)
  have e1 : (G (4 + s) (2 + α) + G (4 + s) (4 + α)).toInt = (G (4 + s) (2 + α)).toInt + (G (4 + s) (4 + α)).toInt := Jvm.Kit.i32_add (by omega) (by omega)
  have e2 : (G (4 + s) (4 + α) / 2).toInt = (G (4 + s) (4 + α)).toInt / 2 := (i_div_pos (by omega) (by decide)).1
  have e3 : (G (4 + s) (2 + α) + G (4 + s) (4 + α) / 2).toInt = (G (4 + s) (2 + α)).toInt + (G (4 + s) (4 + α) / 2).toInt := Jvm.Kit.i32_add (by omega) (by omega)
  unfold ptA Bd
  split
  · split
    · omega
    · omega
  · omega
theorem ptL_b (hA : Bd (A α)) (hB : Bd (B α)) : Bd (ptL A B a y k α) := by
  unfold ptL
  have hm : Bd (fdJ (A α + B α) 2) := by
    unfold Bd at *
    rw [fdJ_int (by decide), Jvm.Kit.i32_add (by omega) (by omega), show (2 : Int32).toInt = 2 by decide]
    omega
  split
  · exact hA
  · split
    · exact hB
    · split
      · split
        · exact hB
        · exact hA
      · split
        · exact hm
        · split
          · exact hA
          · exact hB
/-- a connector of both sides: how it is drawn -/
theorem conn (hA : QA n th sel c p hs hg gt ln G (M 1)) (hk : k < ln) : ∃ (X Y : Nat → Int32) (y : Nat), y < 3 ∧ G (26 + k) 4 = nI y ∧ (∀ i, i < 100 → f_X0_place TC N (G, rfC q) (26 + k) 2 (nI i) (0 : Int32) = some (X i, (G, rfC q))) ∧ (∀ i, i < 100 → f_X0_place TC N (G, rfC q) (26 + k) 2 (nI i) (1 : Int32) = some (Y i, (G, rfC q))) ∧ (∀ i, Bd (X i)) ∧ (∀ i, Bd (Y i)) ∧
    ∃ M', f_X12_draws TM N (M, rfM) 0 (nI k) = some (M', rfM) ∧ M' 0 5 = nI (y + 2) ∧ (∀ i, i < y + 2 → M' 3 i = X i ∧ M' 4 i = Y i) ∧ ∀ a j, ¬ (a = 0 ∧ j = 5) → a ≠ 3 → a ≠ 4 → M' a j = M a j := by
  obtain ⟨a1, a2, a3, a4, a5, a6⟩ := hA
  have h20 := a5.l20
  obtain ⟨s, a, t, b, y, hs20, hts, ht20, htt, ha, hb, hy, v0, v1, v2, v3, v4⟩ := a5.ok k hk
  have g0 : G (26 + k) 0 = nI s := (a5.eq k hk 0 (by omega)).trans v0
  have g1 : G (26 + k) 1 = nI a := (a5.eq k hk 1 (by omega)).trans v1
  have g2 : G (26 + k) 2 = nI t := (a5.eq k hk 2 (by omega)).trans v2
  have g3 : G (26 + k) 3 = nI b := (a5.eq k hk 3 (by omega)).trans v3
  have g4 : G (26 + k) 4 = nI y := (a5.eq k hk 4 (by omega)).trans v4
  refine ⟨fun i => ptL (ptA G (4 + s) a) (ptA G (4 + t) b) a y i 0, fun i => ptL (ptA G (4 + s) a) (ptA G (4 + t) b) a y i 1, y, hy, g4, fun i hi => ?_, fun i hi => ?_, fun i => ?_, fun i => ?_, ?_⟩
  · exact e_place (α := 0) (by omega) a1 hs20 hts ht20 htt ha hb hy g0 g1 g2 g3 g4 hi (by omega)
  · exact e_place (α := 1) (by omega) a1 hs20 hts ht20 htt ha hb hy g0 g1 g2 g3 g4 hi (by omega)
  · exact ptL_b (ptA_b (a1.fD s hs20 hts) (by omega)) (ptA_b (a1.fD t ht20 htt) (by omega))
  · exact ptL_b (ptA_b (a1.fD s hs20 hts) (by omega)) (ptA_b (a1.fD t ht20 htt) (by omega))
  · exact m_draws a1 hs20 hts ht20 htt ha hb hy (by omega) v0 v1 v2 v3 v4
theorem e_extent (hN : 20 < N) (hc : c < 20) (g4 : G (26 + c) 4 = nI y) (hy : y < 3) (h0 : ∀ i, i < 100 → f_X0_place TC N (G, rfC q) (26 + c) 2 (nI i) (0 : Int32) = some (X i, (G, rfC q))) (h1 : ∀ i, i < 100 → f_X0_place TC N (G, rfC q) (26 + c) 2 (nI i) (1 : Int32) = some (Y i, (G, rfC q))) (bX : ∀ i, Bd (X i)) (bY : ∀ i, Bd (Y i)) : f_X0_extent TC N (G, rfC q) (26 + c) 2 = some (lenL X Y (y + 1), (G, rfC q)) := by
  unfold f_X0_extent
  rw [zz1_of (TC_cn hc)]
  refine zl3_end (y + 1) (fun i => lenL X Y i) (fun i => nI i) (fun _ => (G, rfC q)) rfl nI_0.symm rfl (by omega) (fun i hi k => ?_) (fun k => ?_)
  · unfold f_X0_extent_L4
    rw [e_lastPoint hc g4, zb2_some, if_neg (nI_ge hi (by omega)), nI_1, h0 _ (by omega), zb2_some, h0 _ (by omega), zb2_some, zn_eq, zn_eq, h1 _ (by omega), zb2_some, h1 _ (by omega), zb2_some, zn_eq, zn_eq, zn_eq, dst_abs (bX _) (bX _), dst_abs (bY _) (bY _)]
    rfl
  · unfold f_X0_extent_L4
    rw [e_lastPoint hc g4, zb2_some, if_pos (nI_le (Nat.le_refl _) (by omega))]
theorem m_lenL (hN : 20 < N) (hy : y < 3) (c5 : M 0 5 = nI (y + 2)) (hX : ∀ i, i < y + 2 → M 3 i = X i ∧ M 4 i = Y i) : zl3 (f_X12_lengthOf_L9 TM N 0) N (0 : Int32) (1 : Int32) (M, rfM) = some (lenL X Y (y + 1), (M, rfM)) := by
  have hd : ∀ {x z : Int32} {σ : zS}, f_X12_distance TM N σ x z = some (dst x z, σ) := fun {x z σ} => by
    unfold f_X12_distance dst
    by_cases h : z ≤ x
    · rw [if_pos h, if_pos h]
    · rw [if_neg h, if_neg h]
  refine zl3_end (y + 1) (fun i => lenL X Y i) (fun i => nI (i + 1)) (fun _ => (M, rfM)) rfl rfl rfl (by omega) (fun i hi k => ?_) (fun k => ?_)
  · unfold f_X12_lengthOf_L9
    rw [gI_of TM_0, c5, Option.bind_some, if_neg (nI_ge (by omega) (by omega)), nI_pred]
    simp only [gm3, gm4, Option.bind_some]
    rw [aI_of TM_3 ML_3 (show i + 1 < 4 by omega) (by decide), Option.bind_some, aI_of TM_3 ML_3 (show i < 4 by omega) (by decide), Option.bind_some, hd, zb2_some]
    simp only [gm3, gm4, Option.bind_some]
    rw [aI_of TM_4 ML_4 (show i + 1 < 4 by omega) (by decide), Option.bind_some, aI_of TM_4 ML_4 (show i < 4 by omega) (by decide), Option.bind_some, hd, zb2_some, zn_eq, zn_eq, (hX (i + 1) (by omega)).1, (hX (i + 1) (by omega)).2, (hX i (by omega)).1, (hX i (by omega)).2, ← Int32.add_assoc, nI_1]
    rfl
  · unfold f_X12_lengthOf_L9
    rw [gI_of TM_0, c5, Option.bind_some, if_pos (nI_le (by omega) (by omega))]
theorem o_length (hN : 1901 < N) {σC σM : zS} (h : INV σC σM) (x : Int32) : zAg INV (f_X11_length TC N σC 0 x) (f_X12_length TM N σM 0 x) := by
  obtain ⟨G, q, M, rfl, rfl, ⟨n, th, sel, c, p, hs, hg, gt, ln, hA⟩, hH, hT⟩ := id h
  unfold f_X11_length f_X12_length
  rw [zz1_of TC_0, zz1_of TM_0]
  simp only [g_now, g_conns, Option.bind_some]
  rcases lin (q := q) (N := N) hA.2.2.2.2.1 x with ⟨k, hk, rfl, k1, k2⟩ | ⟨k1, k2⟩
  · have h20 := hA.2.2.2.2.1.l20
    rw [k1, k2, zb2_some, zb2_some, zo_some, if_neg (by decide)]
    obtain ⟨X, Y, y, hy, g4, p0, p1, bX, bY, M1, e1, c5, hX, f1⟩ := conn (q := q) (N := N) hA hk
    refine ⟨lenL X Y (y + 1), (G, rfC q), (M1, rfM), ?_, ?_, ?_⟩
    · simp only [g_now, g_shapes, Option.bind_some]
      rw [e_extent (by omega) (by omega) g4 hy p0 p1 bX bY, zb2_some]
    · unfold f_X12_lengthOf
      rw [zz1_of TM_0, e1, Option.bind_some, m_lenL (by omega) hy c5 hX, zb2_some]
    · exact INV_scr (QA_QR hA) hH hT (fun a j _ => rfl) rfl (fun j => rfl) (fun j => f1 _ _ (by omega) (by omega) (by omega)) (fun j => f1 _ _ (by omega) (by omega) (by omega)) (f1 _ _ (by omega) (by omega) (by omega)) (f1 _ _ (by omega) (by omega) (by omega)) (fun j => f1 _ _ (by omega) (by omega) (by omega))
  · rw [k1, k2, zb2_some, zb2_some, zo_none, if_pos rfl]
    exact ⟨_, _, _, rfl, rfl, h⟩
theorem o_point (hN : 1901 < N) {σC σM : zS} (h : INV σC σM) (x1 x2 x3 : Int32) : zAg INV (f_X11_point TC N σC 0 x1 x2 x3) (f_X12_point TM N σM 0 x1 x2 x3) := by
  obtain ⟨G, q, M, rfl, rfl, ⟨n, th, sel, c, p, hs, hg, gt, ln, hA⟩, hH, hT⟩ := id h
  unfold f_X11_point f_X12_point
  rw [zz1_of TC_0, zz1_of TM_0]
  simp only [g_now, g_conns, Option.bind_some]
  rcases lin (q := q) (N := N) hA.2.2.2.2.1 x1 with ⟨k, hk, rfl, k1, k2⟩ | ⟨k1, k2⟩
  · have h20 := hA.2.2.2.2.1.l20
    obtain ⟨X, Y, y, hy, g4, p0, p1, bX, bY, M1, e1, c5, hX, f1⟩ := conn (q := q) (N := N) hA hk
    have hI : INV (G, rfC q) (M1, rfM) := INV_scr (QA_QR hA) hH hT (fun a j _ => rfl) rfl (fun j => rfl) (fun j => f1 _ _ (by omega) (by omega) (by omega)) (fun j => f1 _ _ (by omega) (by omega) (by omega)) (f1 _ _ (by omega) (by omega) (by omega)) (f1 _ _ (by omega) (by omega) (by omega)) (fun j => f1 _ _ (by omega) (by omega) (by omega))
    rw [k1, k2, zb2_some, zb2_some, zo_some, if_neg (show ¬ (1 : Int32) = 0 by decide), e_lastPoint (by omega) g4, zb2_some, e_isWithin, zb2_some, m_in, zb2_some, isAxis_wth]
    by_cases hz : x3 = 0 ∨ x3 = 1
    · rw [if_pos hz, if_pos (show ¬ (1 : Int32) = 0 by decide), e1, Option.bind_some, gI_of TM_0, c5, Option.bind_some, show nI (y + 2) - 1 = nI (y + 1) from nI_pred (y + 1), m_in, zb2_some, e_isAxis, if_pos hz]
      rcases nI_big (x := x2) (n := y + 2) (by omega) with hx | ⟨i, hi, rfl⟩
      · rw [show wth x2 0 (nI (y + 1)) = 0 from wth_out (a := 0) (b := y + 1) (by omega) hx (by omega), if_pos rfl, if_pos rfl]
        exact ⟨_, _, _, rfl, rfl, hI⟩
      · rw [show wth (nI i) 0 (nI (y + 1)) = 1 from wth_in (a := 0) (b := y + 1) (by omega) (by omega) (by omega), if_neg (by decide), if_neg (by decide), zb2_some, if_pos (by decide)]
        simp only [g_now, g_shapes, Option.bind_some]
        rcases hz with rfl | rfl
        · rw [p0 i (by omega), zb2_some, if_neg (by decide), gR_of TM_0, rm_3, Option.bind_some, aI_of TM_3 ML_3 (show i < 4 by omega) (by decide), Option.bind_some, (hX i hi).1]
          exact ⟨_, _, _, rfl, rfl, hI⟩
        · rw [p1 i (by omega), zb2_some, if_pos (by decide), gR_of TM_0, rm_4, Option.bind_some, aI_of TM_4 ML_4 (show i < 4 by omega) (by decide), Option.bind_some, (hX i hi).2]
          exact ⟨_, _, _, rfl, rfl, hI⟩
    · rw [if_neg hz, if_neg (show ¬ ¬ (0 : Int32) = 0 by decide), e_isAxis, if_neg hz]
      rcases wth01 x2 0 (nI (y + 1)) with hw | hw
      · rw [hw, if_pos rfl]
        exact ⟨_, _, _, rfl, rfl, h⟩
      · rw [hw, if_neg (by decide), zb2_some, if_neg (by decide)]
        exact ⟨_, _, _, rfl, rfl, h⟩
  · rw [k1, k2, zb2_some, zb2_some, zo_none, if_pos rfl]
    exact ⟨_, _, _, rfl, rfl, h⟩
end PTL
