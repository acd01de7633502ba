/-! move -/
section OMV
variable {G M : Nat → Nat → Int32} {q : Nat → Option Nat} {N : Nat} {n c ln : Nat} {th sel gt : Nat → Bool} {p : Nat → Nat} {hs hg : Nat → Option Nat} {ρ : Nat → Nat → Option Nat} {V : Nat → Int32} {s t a b y k o d : Nat} {dx dy : Int32}
/-- both sides move the selection -/
theorem go_both (hN : 20 < N) (hA : QA n th sel c p hs hg gt ln G (M 1)) (hx : ∀ s, s < 20 → M 10 s = (if sel s = true then dx else 0) ∧ M 11 s = if sel s = true then dy else 0) (hi : allB (stB th G (fun s => if sel s = true then dx else 0) (fun s => if sel s = true then dy else 0)) 20 = true) :
    ∃ G' M', f_X11_shiftChosen TC N (G, rfC q) 0 dx dy = some (G', rfC q) ∧ f_X12_movesAll TM N (M, rfM) 0 = some (M', rfM) ∧ QA n th sel c p hs hg gt ln G' (M' 1) ∧ (∀ a j, 24 ≤ a → G' a j = G a j) ∧ ∀ a j, a ≠ 1 → M' a j = M a j := by
  obtain ⟨a1, a2, a3, a4, a5, a6⟩ := hA
  obtain ⟨M2, e2, f1, f2⟩ := m_movesAll (N := N) (M := M) hN
  have hlv : ∀ s, s < 20 → (liv G s && bt (mkS sel 20) s) = sel s := fun s h => by
    rw [QS_liv a1 h, bt_S sel h]
    cases e : sel s
    · rw [Bool.and_false]
    · rw [a2.ct s h e]; rfl
  have fo : ∀ a j, 24 ≤ a ∨ a < 4 → mapC (mapC G (fun s => liv G s && bt (mkS sel 20) s) 2 (fun x => x + dx) 20) (fun s => liv (mapC G (fun s => liv G s && bt (mkS sel 20) s) 2 (fun x => x + dx) 20) s && bt (mkS sel 20) s) 3 (fun x => x + dy) 20 a j = G a j := fun a j h => by
    rw [mapC_out (by omega), mapC_out (by omega)]
  refine ⟨_, M2, e_shiftChosen hN a2, e2, ⟨?_, QC_fr a2 ?_ ?_, QP_fr a3 ?_ ?_ ?_, QH_fr a4 ?_ ?_ ?_ ?_ ?_, QL_fr a5 ?_ ?_ ?_ ?_, QU_fr a6 ?_ ?_ ?_ ?_⟩, fun a j h => fo a j (Or.inl h), fun a j h => f2 a j (fun q => h q.1)⟩
  · refine QS_go a1 (bx := fun s => if sel s = true then dx else 0) (bz := fun s => if sel s = true then dy else 0) (fun s h ht => ?_) (fun s h ht => ?_) (fun s h j j1 j2 j3 => ?_) (fo _ _ (by omega)) (fun s h ht => ?_) (fun s h j j1 j2 j3 => f2 _ _ (fun ⟨_, k, _, e⟩ => by omega)) (f2 _ _ (fun ⟨_, k, _, e⟩ => by omega))
    · have h2 := allB_iff.mp hi s h
      unfold stB at h2
      rw [ht, Bool.not_true, Bool.false_or, Bool.and_eq_true, decide_eq_true_iff, decide_eq_true_iff] at h2
      exact h2
    · refine ⟨?_, ?_⟩
      · rw [shift2 h, if_pos rfl, hlv s h]
        by_cases e : sel s = true
        · simp only [if_pos e]
        · simp only [if_neg e, Int32.add_zero]
      · rw [shift2 h, if_neg (by decide), if_pos rfl, hlv s h]
        by_cases e : sel s = true
        · simp only [if_pos e]
        · simp only [if_neg e, Int32.add_zero]
    · rw [shift2 h, if_neg j2, if_neg j3]
    · rw [(f1 s h).1, (f1 s h).2, (hx s h).1, (hx s h).2]
      exact ⟨rfl, rfl⟩
  all_goals (intros; first | exact fo _ _ (by omega) | exact f2 _ _ (fun ⟨_, k, _, e⟩ => by omega) | exact ⟨fo _ _ (by omega), fo _ _ (by omega)⟩ | (rw [shift2 (by assumption), if_neg (by omega), if_neg (by omega)]))
/-- a connector has just one selected shape at its ends -/
def hfB (V : Nat → Int32) (sel : Nat → Bool) (k : Nat) : Bool := xor (sel (V (190 + 5 * k)).toNatClampNeg) (sel (V (190 + 5 * k + 2)).toNatClampNeg)
theorem hfB_of {V : Nat → Int32} (h1 : V (190 + 5 * k) = nI s) (h2 : V (190 + 5 * k + 2) = nI t) (hs : s < 20) (ht : t < 20) : hfB V sel k = xor (sel s) (sel t) := by
  unfold hfB
  rw [h1, h2, nI_clamp (by omega), nI_clamp (by omega)]
theorem bI_eq {a b : Bool} : bI a = bI b ↔ xor a b = false := by cases a <;> cases b <;> decide
theorem e_countHalf (hN : 20 < N) (hL : QL th ln G V) : f_X1_countHalfIn TC N (G, rfC q) 24 (mkS sel 20) = some (nI (cnt (hfB V sel) ln), (G, rfC q)) := by
  unfold f_X1_countHalfIn
  rw [zz1_of TC_24, ← cnt_cut (P := hfB V sel) hL.l20]
  refine zl3_end 20 (fun i => nI (cnt (fun k => decide (k < ln) && hfB V sel k) i)) (fun i => nI i) (fun _ => (G, rfC q)) nI_0.symm nI_0.symm rfl hN (fun i hi k => ?_) (fun k => ?_)
  · unfold f_X1_countHalfIn_L4
    simp only [gR_of TC_24, rf_24_0, Option.bind_some, aL_of TC_25, TL_25]
    rw [if_neg (nI_ge hi (by decide)), e_cfind_k hL.lD hL.l20 (by omega), zb2_some]
    by_cases hk : i < ln
    · obtain ⟨s, a, t, b, y, h1, h2, h3, h4, h5, h6, h7, h8, h9, h10, h11, h12⟩ := hL.ok i hk
      have g0 : G (26 + i) 0 = nI s := (hL.eq i hk 0 (by omega)).trans h8
      have g2 : G (26 + i) 2 = nI t := (hL.eq i hk 2 (by omega)).trans h10
      have hb : ∀ {k : Nat} {σ : zS}, k < 20 → f_X11_hasBit TC N σ (mkS sel 20) (nI k) = some (bI (sel k), σ) := fun {k σ} h => by
        rw [e_hasBit (by omega), bt_S sel h]
        rfl
      have hh := hfB_of (sel := sel) h8 h10 h1 h3
      rw [if_pos hk, zo_some, gI_of (TC_cn hi), g0, Option.bind_some, hb h1, zb2_some, gI_of (TC_cn hi), g2, Option.bind_some, hb h3, zb2_some]
      by_cases e : xor (sel s) (sel t) = true
      · rw [if_neg (fun q => by rw [bI_eq.mp q] at e; cases e), zn_eq, zn_eq, nI_1, nI_1, cnt_t (by rw [hh, e]; simp [hk])]
      · have e2 : xor (sel s) (sel t) = false := by simpa using e
        rw [if_pos (bI_eq.mpr e2), zn_eq, nI_1, cnt_f (by rw [hh, e2]; simp)]
    · rw [if_neg hk, zo_none, zn_eq, nI_1, cnt_f (by simp [hk])]
  · unfold f_X1_countHalfIn_L4
    simp only [gR_of TC_24, rf_24_0, Option.bind_some, aL_of TC_25, TL_25]
    rw [if_pos (nI_le (Nat.le_refl 20) (by decide))]
theorem m_countHalf (hN : 20 < N) (hS : QS n th G (M 1)) (hC : QC th sel G (M 1)) (hL : QL th ln G (M 1)) : zl3 (f_X12_move_L55 TM N 0) N (0 : Int32) (0 : Int32) (M, rfM) = some (nI (cnt (hfB (M 1) sel) ln), (M, rfM)) := by
  have h20 := hL.l20
  refine zl3_end ln (fun i => nI (cnt (hfB (M 1) sel) i)) (fun i => nI i) (fun _ => (M, rfM)) nI_0.symm nI_0.symm rfl (by omega) (fun i hi k => ?_) (fun k => ?_)
  · obtain ⟨s, a, t, b, y, h1, h2, h3, h4, h5, h6, h7, h8, h9, h10, h11, h12⟩ := hL.ok i hi
    have hh := hfB_of (sel := sel) h8 h10 h1 h3
    unfold f_X12_move_L55
    simp only [g_v, Option.bind_some, v2_, hL.lV, ix5]
    rw [if_neg (nI_ge hi (by omega)), v_rd (by omega), h8, Option.bind_some, m_isSelected h1 hS hC, zb2_some]
    simp only [g_v, Option.bind_some]
    rw [show nI (190 + 5 * i) + (2 : Int32) = nI (190 + 5 * i + 2) from nI_add _ 2, v_rd (by omega), h10, Option.bind_some, m_isSelected h3 hS hC, zb2_some]
    by_cases e : xor (sel s) (sel t) = true
    · rw [if_neg (fun q => by rw [bI_eq.mp q] at e; cases e), zn_eq, zn_eq, nI_1, nI_1, cnt_t (by rw [hh, e])]
    · have e2 : xor (sel s) (sel t) = false := by simpa using e
      rw [if_pos (bI_eq.mpr e2), zn_eq, zn_eq, nI_1, cnt_f (by rw [hh, e2]; decide), Int32.add_zero]
  · unfold f_X12_move_L55
    simp only [g_v, Option.bind_some, v2_, hL.lV]
    rw [if_pos (nI_le (Nat.le_refl ln) (by omega))]
/-- act on both sides, after the reference's scratch -/
theorem keep3 {M0 : Nat → Nat → Int32} (hN : 1901 < N) (hA : QA n th sel c p hs hg gt ln G (M 1)) (hH : Hist G q M) (hT : Txt G M) {G0 : Nat → Nat → Int32} (e1 : ∀ a j, a < 360 → G0 a j = G a j) (e2 : G0 360 2 = G 360 2) (e3 : ∀ j, G0 361 j = G 361 j) (f1 : ∀ j, M0 1 j = M 1 j) (f2 : ∀ j, M0 2 j = M 2 j) (f3 : M0 0 2 = M 0 2) (f4 : M0 0 18 = M 0 18) (f5 : ∀ j, M0 13 j = M 13 j) :
    ∃ G1 q1 M1, f_X5_keep TC N (G0, rfC q) 52 1 = some (G1, rfC q1) ∧ f_X12_act TM N (M0, rfM) 0 = some (M1, rfM) ∧ QA n th sel c p hs hg gt ln G1 (M1 1) ∧ Hist G1 q1 M1 ∧ Txt G1 M1 ∧ (∀ a j, (a < 52 ∨ 360 ≤ a) → G1 a j = G0 a j) ∧ ∀ a j, ¬ (a = 0 ∧ j = 2) → a ≠ 2 → M1 a j = M0 a j :=
  keep2 hN (QA_same hA (fun i _ => f1 i) (fun o j _ h => e1 _ _ (by omega))) (Hist_fr hH (fun a j _ h => e1 _ _ h) f2 f3) (Txt_fr hT e2 e3 f4 f5)
theorem sel0 {sel : Nat → Bool} : mkS sel 20 = 0 ∨ ¬ mkS sel 20 = 0 := by
  by_cases h : mkS sel 20 = 0
  · exact Or.inl h
  · exact Or.inr h
theorem o_move (hN : 1901 < N) {σC σM : zS} (hI : INV σC σM) (x y : Int32) : zAg INV (f_X11_move TC N σC 0 x y) (f_X12_move TM N σM 0 x y) := by
  obtain ⟨G, q, M, rfl, rfl, ⟨n, th, sel, c, p, hs, hg, gt, ln, hA⟩, hH, hT⟩ := id hI
  unfold f_X11_move f_X12_move
  rw [zz1_of TC_0, zz1_of TM_0, e_isWay, m_isStep, zb2_some, zb2_some]
  rcases wth01 x (-20000) 20000 with hw | hw
  · rw [hw, if_pos rfl, if_pos rfl]
    exact ⟨_, _, _, rfl, rfl, hI⟩
  rw [hw, if_neg (by decide), if_neg (by decide), e_isWay, m_isStep, zb2_some, zb2_some]
  rcases wth01 y (-20000) 20000 with hw2 | hw2
  · rw [hw2, if_neg (by decide), if_neg (by decide)]
    exact ⟨_, _, _, rfl, rfl, hI⟩
  rw [hw2, if_pos (by decide), if_pos (by decide)]
  simp only [g_now, g_shapes, Option.bind_some, gI_of TC_2, hA.2.1.cD]
  rw [m_chosen (by omega) hA.1 hA.2.1, zb2_some]
  by_cases h0 : mkS sel 20 = 0
  · rw [if_neg (fun n => n h0), if_neg (fun n => n h0)]
    exact ⟨_, _, _, rfl, rfl, hI⟩
  rw [if_pos h0, if_pos h0]
  obtain ⟨M0, e0, l1, l2⟩ := m_lays (N := N) (dx := x) (dy := y) (by omega) hA.1 hA.2.1
  have l21 : M0 1 = M 1 := funext (fun j => l2 _ _ (by omega) (by omega))
  have ex : ∀ s, s < 20 → stB th G (M0 10) (M0 11) s = stB th G (fun s => if sel s = true then x else 0) (fun s => if sel s = true then y else 0) s := fun s h => by
    unfold stB
    rw [(l1 s h).1, (l1 s h).2]
  have ea : allB (stB th G (M0 10) (M0 11)) 20 = allB (stB th G (fun s => if sel s = true then x else 0) (fun s => if sel s = true then y else 0)) 20 := by
    rw [Bool.eq_iff_iff, allB_iff, allB_iff]
    exact ⟨fun h i hi => by rw [← ex i hi]; exact h i hi, fun h i hi => by rw [ex i hi]; exact h i hi⟩
  rw [e_canShiftChosen (by omega) hA.1 hA.2.1, zb2_some, e0, Option.bind_some, m_isInside (n := n) (G := G) (th := th) (by omega) (by rw [l21]; exact hA.1), zb2_some, ea]
  cases hb : allB (stB th G (fun s => if sel s = true then x else 0) (fun s => if sel s = true then y else 0)) 20
  · rw [if_neg (by decide), if_neg (by decide)]
    exact ⟨_, _, _, rfl, rfl, INV_scr (QA_QR hA) hH hT (fun a j _ => rfl) rfl (fun j => rfl) (fun j => l2 _ _ (by omega) (by omega)) (fun j => l2 _ _ (by omega) (by omega)) (l2 _ _ (by omega) (by omega)) (l2 _ _ (by omega) (by omega)) (fun j => l2 _ _ (by omega) (by omega))⟩
  · rw [if_pos (by decide), if_pos (by decide)]
    obtain ⟨G1, q1, M1, e1, e2, hA1, h1, h2, h3, h4⟩ := keep3 (M0 := M0) (G0 := G) hN hA hH hT (fun a j _ => rfl) rfl (fun j => rfl) (fun j => l2 _ _ (by omega) (by omega)) (fun j => l2 _ _ (by omega) (by omega)) (l2 _ _ (by omega) (by omega)) (l2 _ _ (by omega) (by omega)) (fun j => l2 _ _ (by omega) (by omega))
    have hb1 : allB (stB th G1 (fun s => if sel s = true then x else 0) (fun s => if sel s = true then y else 0)) 20 = true := by
      rw [allB_iff] at hb ⊢
      intro i hi
      have := hb i hi
      unfold stB at this ⊢
      rw [h3 _ _ (by omega), h3 _ _ (by omega)]
      exact this
    obtain ⟨G2, M2, e3, e4, hA2, d1, d2⟩ := go_both (q := q1) (N := N) (dx := x) (dy := y) (by omega) hA1 (fun s h => ⟨(h4 _ _ (by omega) (by omega)).trans (l1 s h).1, (h4 _ _ (by omega) (by omega)).trans (l1 s h).2⟩) hb1
    refine ⟨nI (cnt (hfB (M2 1) sel) ln), (G2, rfC q1), (M2, rfM), ?_, ?_, INV_now h1 h2 (QA_QR hA2) (fun a j _ _ => d1 _ _ (by omega)) (fun j => d2 _ _ (by omega)) (d2 _ _ (by omega)) (d2 _ _ (by omega)) (fun j => d2 _ _ (by omega))⟩
    · simp only [g_hist, g_now, g_shapes, g_conns, Option.bind_some, e1, e3, gI_of TC_2, hA2.2.1.cD]
      rw [e_countHalf (by omega) hA2.2.2.2.2.1, zb2_some]
    · rw [e2, Option.bind_some, e4, Option.bind_some, m_countHalf (by omega) hA2.1 hA2.2.1 hA2.2.2.2.2.1]
end OMV
