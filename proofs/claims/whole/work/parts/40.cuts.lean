/-! removing a connector -/
section CUT
variable {G M : Nat → Nat → Int32} {q : Nat → Option Nat} {N : Nat} {n c ln : Nat} {th sel gt : Nat → Bool} {p : Nat → Nat} {hs hg : Nat → Option Nat} {ρ : Nat → Nat → Option Nat} {V : Nat → Int32}
theorem e_cdrop {m k : Nat} (hN : 20 < N) (hl : G 24 1 = nI (m + 1)) (hm : m < 20) (hk : k ≤ m) :
    ∃ G', f_X1_drop TC N (G, rfC q) 24 (nI k) = some (G', rfC q) ∧ G' 24 1 = nI m ∧ (∀ c, c < 20 → ∀ j, j < 5 → G' (26 + c) j = if k ≤ c ∧ c < m then G (26 + (c + 1)) j else G (26 + c) j) ∧ ∀ a j, (∀ c, c < 20 → a ≠ 26 + c) → ¬ (a = 24 ∧ j = 1) → G' a j = G a j := by
  unfold f_X1_drop
  rw [zz1_of TC_24]
  refine zl2_inv (P := fun (o : Option zS) => ∃ G' : Nat → Nat → Int32, o = some (G', rfC q) ∧ G' 24 1 = nI m ∧ (∀ c, c < 20 → ∀ j, j < 5 → G' (26 + c) j = if k ≤ c ∧ c < m then G (26 + (c + 1)) j else G (26 + c) j) ∧ ∀ a j, (∀ c, c < 20 → a ≠ 26 + c) → ¬ (a = 24 ∧ j = 1) → G' a j = G a j) (m - k)
    (fun i (x : Int32) (s : zS) => x = nI (k + i) ∧ ∃ G' : Nat → Nat → Int32, s = (G', rfC q) ∧ (∀ c, c < 20 → ∀ j, j < 5 → G' (26 + c) j = if k ≤ c ∧ c < k + i then G (26 + (c + 1)) j else G (26 + c) j) ∧ ∀ a j, (∀ c, c < 20 → a ≠ 26 + c) → G' a j = G a j) ?_ ?_ (m - k) 0 N (nI k) (G, rfC q) (by omega) (by omega) ⟨rfl, G, rfl, fun c _ j _ => by rw [if_neg (by omega)], fun a j _ => rfl⟩
  · rintro i hi x s ⟨rfl, G1, rfl, hA, hB⟩
    have hc : G1 24 1 = nI (m + 1) := (hB 24 1 (fun c _ => by omega)).trans hl
    obtain ⟨G2, e2, hC, hD⟩ := e_ccopy (G := G1) (ρ := rfC q) (N := N) (c := 26 + (k + i)) (c2 := 26 + (k + i + 1)) (TC_cn (by omega)) (TC_cn (by omega)) (by omega)
    refine Or.inl ⟨nI (k + (i + 1)), (G2, rfC q), ⟨rfl, G2, rfl, fun c hc j hj => ?_, fun a j ha => ?_⟩, fun kk => ?_⟩
    · by_cases e : c = k + i
      · subst e
        rw [hC j hj, hA (k + i + 1) (by omega) j hj, if_neg (by omega), if_pos (by omega)]
      · rw [hD _ _ (by omega), hA c hc j hj]
        by_cases e2 : k ≤ c ∧ c < k + i
        · rw [if_pos e2, if_pos (by omega)]
        · rw [if_neg e2, if_neg (by omega)]
    · rw [hD _ _ (ha _ (by omega)), hB a j ha]
    · unfold f_X1_drop_L2
      rw [gI_of TC_24, Option.bind_some, hc, nI_1, if_neg (nI_ge (by omega) (by omega)), e_cfind_k hc (by omega) (by omega), zb2_some, if_pos (by omega), zo_some, e_cfind_k hc (by omega) (by omega), zb2_some, if_pos (by omega), zo_some, e2, Option.bind_some, zn_eq]
      rfl
  · rintro x s ⟨rfl, G1, rfl, hA, hB⟩ kk
    have hc : G1 24 1 = nI (m + 1) := (hB 24 1 (fun c _ => by omega)).trans hl
    have e0 : k + (m - k) = m := by omega
    refine ⟨zu G1 24 1 (nI m), ?_, zu_same, fun c hc j hj => ?_, fun a j ha hb => ?_⟩
    · unfold f_X1_drop_L2
      rw [gI_of TC_24, Option.bind_some, hc, nI_1, if_pos (nI_le (by omega) (by omega)), Option.bind_some, nI_pred, pI_of TC_24, Option.bind_some]
    · rw [zu_cell (by omega), hA c hc j hj, e0]
    · rw [zu_ne (fun e e2 => hb ⟨e, e2⟩), hB a j ha]
theorem m_cuts {m k : Nat} (hN : 100 < N) (hl : M 1 2 = nI (m + 1)) (hm : m < 20) (hk : k ≤ m) :
    ∃ M', f_X12_cuts TM N (M, rfM) 0 (nI k) = some (M', rfM) ∧ M' 1 2 = nI m ∧ (∀ i, i < 100 → M' 1 (190 + i) = if 5 * k ≤ i ∧ i < 5 * m then M 1 (190 + i + 5) else M 1 (190 + i)) ∧ ∀ a j, ¬ (a = 1 ∧ (j = 2 ∨ (190 ≤ j ∧ j < 290))) → M' a j = M a j := by
  unfold f_X12_cuts
  rw [zz1_of TM_0]
  simp only [g_v, Option.bind_some, v2_, hl, nI_pred, w2_, zn_eq, ix5]
  refine zl2_inv (P := fun (o : Option zS) => ∃ M' : Nat → Nat → Int32, o = some (M', rfM) ∧ M' 1 2 = nI m ∧ (∀ i, i < 100 → M' 1 (190 + i) = if 5 * k ≤ i ∧ i < 5 * m then M 1 (190 + i + 5) else M 1 (190 + i)) ∧ ∀ a j, ¬ (a = 1 ∧ (j = 2 ∨ (190 ≤ j ∧ j < 290))) → M' a j = M a j) (5 * (m - k))
    (fun i (x : Int32) (s : zS) => x = nI (190 + (5 * k + i)) ∧ ∃ M' : Nat → Nat → Int32, s = (M', rfM) ∧ M' 1 2 = nI m ∧ (∀ t, t < 100 → M' 1 (190 + t) = if 5 * k ≤ t ∧ t < 5 * k + i then M 1 (190 + t + 5) else M 1 (190 + t)) ∧ ∀ a j, ¬ (a = 1 ∧ (j = 2 ∨ (190 ≤ j ∧ j < 290))) → M' a j = M a j) ?_ ?_ (5 * (m - k)) 0 N (nI (190 + 5 * k)) (zu M 1 2 (nI m), rfM) (by omega) (by omega) ⟨rfl, _, rfl, zu_same, fun t _ => by rw [if_neg (by omega), zu_ne (fun _ => by omega)], fun a j h => zu_ne (fun e e2 => h ⟨e, Or.inl e2⟩)⟩
  · rintro i hi x s ⟨rfl, M1, rfl, hc, hA, hB⟩
    refine Or.inl ⟨nI (190 + (5 * k + (i + 1))), (zu M1 1 (190 + (5 * k + i)) (M1 1 (190 + (5 * k + i) + 5)), rfM), ⟨rfl, _, rfl, ?_, fun t ht => ?_, fun a j ha => ?_⟩, fun kk => ?_⟩
    · rw [zu_ne (fun _ => by omega), hc]
    · by_cases e : t = 5 * k + i
      · subst e
        rw [zu_same, if_pos (by omega)]
        have h2 := hA (5 * k + i + 5) (by omega)
        rw [if_neg (by omega)] at h2
        exact h2
      · rw [zu_ne (fun _ => by omega), hA t ht]
        by_cases e2 : 5 * k ≤ t ∧ t < 5 * k + i
        · rw [if_pos e2, if_pos (by omega)]
        · rw [if_neg e2, if_neg (by omega)]
    · rw [zu_ne (fun e e2 => ha ⟨e, Or.inr (by omega)⟩), hB a j ha]
    · unfold f_X12_cuts_L18
      simp only [g_v, Option.bind_some, v2_, hc, ix5]
      rw [if_neg (nI_ge (by omega) (by omega)), show nI (190 + (5 * k + i)) + (5 : Int32) = nI (190 + (5 * k + i) + 5) from nI_add _ 5, v_rd (by omega), Option.bind_some, v_wr (by omega), Option.bind_some, zn_eq, nI_1]
      rfl
  · rintro x s ⟨rfl, M1, rfl, hc, hA, hB⟩ kk
    have e0 : 5 * k + 5 * (m - k) = 5 * m := by omega
    refine ⟨M1, ?_, hc, fun i hi => ?_, hB⟩
    · unfold f_X12_cuts_L18
      simp only [g_v, Option.bind_some, v2_, hc, ix5]
      rw [if_pos (nI_le (by omega) (by omega))]
    · rw [hA i hi, e0]
/-- the relation of the lines when one is removed on both sides -/
theorem QL_cut {D D' : Nat → Nat → Int32} {V V' : Nat → Int32} {m k : Nat} (h : QL th (m + 1) D V) (hk : k ≤ m) (e1 : D' 24 1 = nI m) (e2 : V' 2 = nI m) (e3 : ∀ c, c < 20 → ∀ j, j < 5 → D' (26 + c) j = if k ≤ c ∧ c < m then D (26 + (c + 1)) j else D (26 + c) j) (e4 : ∀ i, i < 100 → V' (190 + i) = if 5 * k ≤ i ∧ i < 5 * m then V (190 + i + 5) else V (190 + i)) : QL th m D' V' ∧ ∀ c, c < m → ∀ j, j < 5 → V' (190 + 5 * c + j) = V (190 + 5 * (if k ≤ c then c + 1 else c) + j) := by
  have h20 := h.l20
  have e5 : ∀ c, c < m → ∀ j, j < 5 → V' (190 + 5 * c + j) = V (190 + 5 * (if k ≤ c then c + 1 else c) + j) := fun c hc j hj => by
    rw [Nat.add_assoc, e4 _ (by omega)]
    by_cases e : k ≤ c
    · rw [if_pos (by omega), if_pos e]
      congr 1
      omega
    · rw [if_neg (by omega), if_neg e]
      congr 1
      omega
  refine ⟨⟨by omega, e1, e2, fun c hc j hj => ?_, fun c hc => ?_⟩, e5⟩
  · rw [e3 c (by omega) j hj, e5 c hc j hj]
    by_cases e : k ≤ c
    · rw [if_pos ⟨e, hc⟩, if_pos e]
      exact h.eq (c + 1) (by omega) j hj
    · rw [if_neg (fun q => e q.1), if_neg e]
      exact h.eq c (by omega) j hj
  · have hlt : (if k ≤ c then c + 1 else c) < m + 1 := by split <;> omega
    exact LOK_mv (h.ok _ hlt) (fun j hj => e5 c hc j hj)
theorem o_disconnect (hN : 1901 < N) {σC σM : zS} (h : INV σC σM) (x : Int32) : zAg INV (f_X11_disconnect TC N σC 0 x) (f_X12_disconnect TM N σM 0 x) := by
  obtain ⟨G, q, M, rfl, rfl, ⟨n, th, sel, c, p, hs, hg, gt, ln, hA⟩, hH, hT⟩ := id h
  unfold f_X11_disconnect f_X12_disconnect
  rw [zz1_of TC_0, zz1_of TM_0]
  simp only [g_now, g_conns, Option.bind_some]
  rcases lin (q := q) (N := N) hA.2.2.2.2.1 x with ⟨k, hk, rfl, k1, k2⟩ | ⟨k1, k2⟩
  · rw [k1, k2, zb2_some, zb2_some, zo_some, if_pos (by decide)]
    obtain ⟨m, rfl⟩ : ∃ m, ln = m + 1 := ⟨ln - 1, by omega⟩
    obtain ⟨G1, q1, M1, e1, e2, ⟨a1, a2, a3, a4, a5, a6⟩, h1, h2, h3, h4⟩ := keep2 hN hA hH hT
    have h20 := a5.l20
    obtain ⟨G2, e3, c1, c2, c3⟩ := e_cdrop (q := q1) (N := N) (by omega) a5.lD (by omega) (show k ≤ m by omega)
    obtain ⟨M2, e4, d1, d2, d3⟩ := m_cuts (N := N) (by omega) a5.lV (by omega) (show k ≤ m by omega)
    have hl := (QL_cut a5 (show k ≤ m by omega) c1 d1 c2 d2).1
    refine ⟨nI m, (G2, rfC q1), (M2, rfM), ?_, ?_, ?_⟩
    · simp only [g_hist, g_now, g_conns, Option.bind_some, e1, e3, gI_of TC_24, c1]
    · simp only [e2, e4, g_v, Option.bind_some, v2_, d1]
    · refine INV_now h1 h2 ⟨n, th, sel, c, p, hs, hg, gt, m, QS_fr a1 ?_ ?_ ?_ ?_, QC_fr a2 ?_ ?_, QP_fr a3 ?_ ?_ ?_, QH_fr a4 ?_ ?_ ?_ ?_ ?_, hl, QU_fr a6 ?_ ?_ ?_ ?_⟩ ?_ ?_ ?_ ?_ ?_
      all_goals (intros; first | exact c3 _ _ (fun c hc => by omega) (by omega) | exact d3 _ _ (by omega) | exact ⟨c3 _ _ (fun c hc => by omega) (by omega), c3 _ _ (fun c hc => by omega) (by omega)⟩)
  · rw [k1, k2, zb2_some, zb2_some, zo_none, if_neg (by decide)]
    exact ⟨_, _, _, rfl, rfl, h⟩
end CUT
