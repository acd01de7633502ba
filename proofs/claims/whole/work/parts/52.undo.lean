/-! undo -/
section UND
variable {G M : Nat → Nat → Int32} {q : Nat → Option Nat} {N : Nat} {h m : Nat} {t : Nat → Nat}
theorem m_undoL (hN : 380 < N) (hm : m < 6) (hv : M 0 2 = nI m) : ∃ M', zl2 (f_X12_undo_L22 TM N 0) N (0 : Int32) (M, rfM) = some (nI m, (M', rfM)) ∧ (∀ i, i < 380 → M' 1 i = M 2 (380 * m + i)) ∧ ∀ a j, a ≠ 1 → M' a j = M a j := by
  refine zl2_inv (P := fun r => ∃ M' : Nat → Nat → Int32, r = some (nI m, (M', rfM)) ∧ (∀ i, i < 380 → M' 1 i = M 2 (380 * m + i)) ∧ ∀ a j, a ≠ 1 → M' a j = M a j) 380
    (fun i (x : Int32) s => x = nI i ∧ ∃ M' : Nat → Nat → Int32, s = (M', rfM) ∧ (∀ k, k < i → M' 1 k = M 2 (380 * m + k)) ∧ ∀ a j, a ≠ 1 → M' a j = M a j) ?_ ?_ 380 0 N (0 : Int32) (M, rfM) rfl hN ⟨nI_0.symm, M, rfl, fun k h => by omega, fun a j _ => rfl⟩
  · rintro i hi x s ⟨rfl, M1, rfl, hA, hB⟩
    refine Or.inl ⟨nI (i + 1), (zu M1 1 i (M 2 (380 * m + i)), rfM), ⟨rfl, _, rfl, fun k hk => ?_, fun a j ha => ?_⟩, fun kk => ?_⟩
    · by_cases e : k = i
      · subst e; rw [zu_same]
      · rw [zu_ne (fun _ => e), hA k (by omega)]
    · rw [zu_cell ha, hB a j ha]
    · unfold f_X12_undo_L22
      rw [if_neg (show ¬ (380 : Int32) ≤ nI i from nI_ge hi (by decide)), g_v, Option.bind_some, gm1, Option.bind_some, gI_of TM_0, hB 0 2 (by omega), hv, Option.bind_some, show (380 : Int32) * nI m + nI i = nI (380 * m + i) from m_idx, aI_of TM_2 ML_2 (show 380 * m + i < 2280 by omega) (by decide), Option.bind_some, hB 2 _ (by omega), v_wr hi, Option.bind_some, zn_eq, nI_1]
  · rintro x s ⟨rfl, M1, rfl, hA, hB⟩ kk
    refine ⟨M1, ?_, hA, hB⟩
    unfold f_X12_undo_L22
    rw [if_pos (show (380 : Int32) ≤ nI 380 by decide), gI_of TM_0, hB 0 2 (by omega), hv, Option.bind_some]
theorem o_undo (hN : 1901 < N) {σC σM : zS} (hI : INV σC σM) : zAg INV (f_X11_undo TC N σC 0) (f_X12_undo TM N σM 0) := by
  obtain ⟨G, q, M, rfl, rfl, hR, ⟨h, t, ⟨c1, c2, c3, c4⟩, c5, c6⟩, hT⟩ := id hI
  unfold f_X11_undo f_X12_undo f_X5_back
  rw [zz1_of TC_0, zz1_of TM_0]
  simp only [g_hist, g_now, Option.bind_some]
  rw [zz1_of TC_52, gI_of TC_52, c2, Option.bind_some, zn_eq, gI_of TM_0, c5, Option.bind_some]
  by_cases h0 : h = 0
  · subst h0
    rw [if_pos (show nI 0 - 1 < 0 by decide), rZ_0, zb2_some, if_pos rfl, if_neg (show ¬ ¬ nI 0 = (0 : Int32) by decide)]
    exact ⟨_, _, _, rfl, rfl, hI⟩
  · obtain ⟨m, rfl⟩ : ∃ m, h = m + 1 := ⟨h - 1, by omega⟩
    have hm6 : m < 6 := by omega
    rw [nI_pred, if_neg (nI_pos (by omega)), gR_of TC_52, rf_52_0, Option.bind_some, aL_of TC_53, TL_53, Option.bind_some, if_neg (nI_ge hm6 (by decide)), Option.bind_some, aR_of TC_53 TL_53 hm6 (by decide), rfC_53, (c3 m hm6).1]
    simp only [gR_of TC_52, rf_52_0, Option.bind_some]
    rw [aR_of TC_53 TL_53 hm6 (by decide), rfC_53, (c3 m hm6).1]
    simp only [Option.bind_some]
    have hb1 : ∀ b ∈ bases, 1 ≤ b := by decide
    obtain ⟨G1, e1, d1, d2⟩ := e_dcopy (G := G) (q := q) (N := N) (by omega) (c3 m hm6).2.1 (b2 := 1) (by decide) (c3 m hm6).2.2 (QR_WFd (hb1 _ (c3 m hm6).2.1) (c6 m (by omega)))
    rw [e1, Option.bind_some, pI_of TC_52, Option.bind_some, rZ_1, zb2_some, if_neg (by decide), g_hist, Option.bind_some, gI_of TC_52, zu_same, Option.bind_some]
    rw [if_pos (show ¬ nI (m + 1) = (0 : Int32) from nI_ne0 (by omega) (by omega)), nI_pred, pI_of TM_0, Option.bind_some]
    obtain ⟨M1, e2, f1, f2⟩ := m_undoL (N := N) (M := zu M 0 2 (nI m)) (by omega) hm6 zu_same
    rw [e2]
    refine ⟨nI m, _, _, rfl, rfl, zu G1 52 1 (nI m), q, M1, rfl, rfl, ?_, ⟨m, t, ⟨by omega, zu_same, c3, c4⟩, ?_, fun k hk => ?_⟩, ?_⟩
    · have h3 : QR (at_ G1 1) (M1 1) := QR_Dag (hb1 _ (c3 m hm6).2.1) (Nat.le_refl 1) (c6 m (by omega)) (fun i hi => (f1 i hi).trans (by rw [zu_cell (by decide)])) d1
      exact QR_same h3 (fun i _ => rfl) (fun o j h1 h2 => by rw [zu_cell (by omega)]; rfl)
    · rw [f2 0 2 (by omega), zu_same]
    · refine QR_same (c6 k (by omega)) (fun i hi => ?_) (fun o j h1 h2 => ?_)
      · show M1 2 (380 * k + i) = M 2 (380 * k + i)
        rw [f2 2 _ (by omega), zu_cell (by decide)]
      · have hb := (c3 k (by omega)).2
        have : ∀ b ∈ bases, b ≠ 1 → 54 ≤ b ∧ b + 51 ≤ 360 := by decide
        have := this _ hb.1 hb.2
        show zu G1 52 1 (nI m) (o + (t k - 1)) j = G (o + (t k - 1)) j
        rw [zu_cell (by omega), d2 _ _ (fun o2 h => by omega)]
    · refine Txt_fr hT ?_ (fun j => ?_) ?_ (fun j => ?_)
      · rw [zu_cell (by decide), d2 _ _ (fun o2 h => by omega)]
      · rw [zu_cell (by decide), d2 _ _ (fun o2 h => by omega)]
      · rw [f2 _ _ (by omega), zu_ne (fun _ => by decide)]
      · rw [f2 _ _ (by omega), zu_cell (by decide)]
end UND
