/-! ungroup: the reference's side, and both -/
section OU2
variable {G M : Nat → Nat → Int32} {q : Nat → Option Nat} {N : Nat} {n c ln : Nat} {th sel gt : Nat → Bool} {p : Nat → Nat} {hs hg : Nat → Option Nat} {D : Nat → Nat → Int32} {V : Nat → Int32} {s u g a : Nat}
theorem m_abv {k : Nat} (h : k < 8) : f_X12_above TM N (M, rfM) 0 (nI k) = some (M 1 (290 + 2 * k + 1) - 1, (M, rfM)) := by
  unfold f_X12_above
  rw [zz1_of TM_0]
  simp only [g_v, Option.bind_some]
  rw [ix2, nI_1, v_rd (by omega)]
  rfl
theorem m_ug2 (hN : 20 < N) (h8 : g < 8) (hx : ∀ k, k < 8 → gt k = true → ∀ k2, hg k = some k2 → k2 < 8) (t47 : ∀ k, k < 8 → M 1 (290 + 2 * k) = bI (gt k)) (t48 : ∀ k, k < 8 → gt k = true → M 1 (290 + 2 * k + 1) = hM (hg k)) :
    ∃ M', zl3 (f_X12_ungroup_L84 TM N 0 (nI g) (hM (hg g))) N (nI a) (0 : Int32) (M, rfM) = some (nI (a + cnt (fun h => gt h && decide (hg h = some g)) 8), (M', rfM)) ∧ (∀ h, h < 8 → M' 1 (290 + 2 * h) = bI (gt h && !decide (h = g))) ∧ (∀ h, h < 8 → (gt h && !decide (h = g)) = true → M' 1 (290 + 2 * h + 1) = hM (upU g hg (hg h))) ∧ ∀ a j, ¬ (a = 1 ∧ 290 ≤ j ∧ j < 306) → M' a j = M a j := by
  refine zl3_inv (P := fun r => ∃ M' : Nat → Nat → Int32, r = some (nI (a + cnt (fun h => gt h && decide (hg h = some g)) 8), (M', rfM)) ∧ (∀ h, h < 8 → M' 1 (290 + 2 * h) = bI (gt h && !decide (h = g))) ∧ (∀ h, h < 8 → (gt h && !decide (h = g)) = true → M' 1 (290 + 2 * h + 1) = hM (upU g hg (hg h))) ∧ ∀ a j, ¬ (a = 1 ∧ 290 ≤ j ∧ j < 306) → M' a j = M a j) 8
    (fun i (x : Int32) (z : Int32) st => x = nI (a + cnt (fun h => gt h && decide (hg h = some g)) i) ∧ z = nI i ∧ ∃ M' : Nat → Nat → Int32, st = (M', rfM) ∧ (∀ h, h < 8 → M' 1 (290 + 2 * h) = bI (gt h)) ∧ (∀ h, h < 8 → gt h = true → M' 1 (290 + 2 * h + 1) = if h < i then hM (upU g hg (hg h)) else hM (hg h)) ∧ ∀ a j, ¬ (a = 1 ∧ 290 ≤ j ∧ j < 306) → M' a j = M a j) ?_ ?_ 8 0 N (nI a) (0 : Int32) (M, rfM) rfl (by omega) ⟨rfl, nI_0.symm, M, rfl, t47, fun h h8 hq => by rw [if_neg (by omega)]; exact t48 h h8 hq, fun a j _ => rfl⟩
  · rintro i hi x z st ⟨rfl, rfl, M1, rfl, hA, hB, hD⟩
    have hskip : ¬ (gt i = true ∧ hg i = some g) → (∀ k : Int32 → Int32 → zS → Option (Int32 × zS), f_X12_ungroup_L84 TM N 0 (nI g) (hM (hg g)) k (nI (a + cnt (fun h => gt h && decide (hg h = some g)) i)) (nI i) (M1, rfM) = k (nI (a + cnt (fun h => gt h && decide (hg h = some g)) i)) (nI (i + 1)) (M1, rfM)) → ∃ b0 b1 b2, (b0 = nI (a + cnt (fun h => gt h && decide (hg h = some g)) (i + 1)) ∧ b1 = nI (i + 1) ∧ ∃ M' : Nat → Nat → Int32, b2 = (M', rfM) ∧ (∀ h, h < 8 → M' 1 (290 + 2 * h) = bI (gt h)) ∧ (∀ h, h < 8 → gt h = true → M' 1 (290 + 2 * h + 1) = if h < i + 1 then hM (upU g hg (hg h)) else hM (hg h)) ∧ ∀ a j, ¬ (a = 1 ∧ 290 ≤ j ∧ j < 306) → M' a j = M a j) ∧ ∀ k : Int32 → Int32 → zS → Option (Int32 × zS), f_X12_ungroup_L84 TM N 0 (nI g) (hM (hg g)) k (nI (a + cnt (fun h => gt h && decide (hg h = some g)) i)) (nI i) (M1, rfM) = k b0 b1 b2 := fun hc hst => by
      refine ⟨_, nI (i + 1), (M1, rfM), ⟨?_, rfl, M1, rfl, hA, fun h h8 hq => ?_, hD⟩, hst⟩
      · rw [cnt_f]
        intro q
        rw [Bool.and_eq_true, decide_eq_true_iff] at q
        exact hc q
      · rw [hB h h8 hq]
        by_cases e : h = i
        · have hne : hg h ≠ some g := fun q => hc ⟨by rw [← e]; exact hq, by rw [← e]; exact q⟩
          rw [if_neg (by omega), if_pos (by omega)]
          unfold upU
          rw [if_neg hne]
        · by_cases e2 : h < i
          · rw [if_pos e2, if_pos (by omega)]
          · rw [if_neg e2, if_neg (by omega)]
    refine Or.inl ?_
    by_cases hgi : gt i = true
    · have hv : M1 1 (290 + 2 * i + 1) = hM (hg i) := by rw [hB i hi hgi, if_neg (by omega)]
      by_cases hc : hg i = some g
      · refine ⟨nI (a + cnt (fun h => gt h && decide (hg h = some g)) i + 1), nI (i + 1), (zu M1 1 (290 + 2 * i + 1) (hM (hg g)), rfM), ⟨?_, rfl, _, rfl, fun h h8 => ?_, fun h h8 hq => ?_, fun a j h1 => ?_⟩, fun k => ?_⟩
        · rw [cnt_t (by rw [hgi, decide_eq_true hc]; rfl)]
          rfl
        · rw [zu_ne (fun _ => by omega)]; exact hA h h8
        · by_cases e : h = i
          · rw [e, zu_same, if_pos (by omega)]
            unfold upU
            rw [if_pos hc]
          · rw [zu_ne (fun _ => by omega), hB h h8 hq]
            by_cases e2 : h < i
            · rw [if_pos e2, if_pos (by omega)]
            · rw [if_neg e2, if_neg (by omega)]
        · rw [zu_ne (fun e e2 => h1 ⟨e, by omega, by omega⟩)]; exact hD a j h1
        · unfold f_X12_ungroup_L84
          rw [if_neg (nI_n8 hi), m_isGrp hi (hA i hi), zb2_some, hgi, if_neg (by decide), m_abv hi, zb2_some, hv, if_neg (fun n => n ((hJ_g (hx i hi hgi) h8).mpr hc)), g_v, Option.bind_some, ix2, nI_1, v_wr (by omega), Option.bind_some, zn_eq, zn_eq, nI_1, nI_1]
      · refine hskip (fun q => hc q.2) (fun k => ?_)
        unfold f_X12_ungroup_L84
        rw [if_neg (nI_n8 hi), m_isGrp hi (hA i hi), zb2_some, hgi, if_neg (by decide), m_abv hi, zb2_some, hv, if_pos (fun q => hc ((hJ_g (hx i hi hgi) h8).mp q)), zn_eq, nI_1]
    · have hgi2 : gt i = false := by simpa using hgi
      refine hskip (fun q => hgi q.1) (fun k => ?_)
      unfold f_X12_ungroup_L84
      rw [if_neg (nI_n8 hi), m_isGrp hi (hA i hi), zb2_some, hgi2, if_pos (by decide), zn_eq, nI_1]
  · rintro x z st ⟨rfl, rfl, M1, rfl, hA, hB, hD⟩ k
    refine ⟨zu M1 1 (290 + 2 * g) 0, ?_, fun h h8 => ?_, fun h h8 hq => ?_, fun a j h1 => ?_⟩
    · unfold f_X12_ungroup_L84
      rw [if_pos (nI_8 (Nat.le_refl 8) (by decide)), g_v, Option.bind_some, ix2, v_wr (by omega), Option.bind_some]
    · by_cases e : h = g
      · rw [e, zu_same, decide_eq_true rfl, Bool.not_true, Bool.and_false]
        rfl
      · rw [zu_ne (fun _ => by omega), decide_eq_false e, Bool.not_false, Bool.and_true]
        exact hA h h8
    · rw [Bool.and_eq_true] at hq
      rw [zu_ne (fun _ => by omega), hB h h8 hq.1, if_pos h8]
    · rw [zu_ne (fun e e2 => h1 ⟨e, by omega, by omega⟩)]; exact hD a j h1
theorem m_ug1 (hN : 20 < N) (hS : QS n th G (M 1)) (hH : QH th sel hs hg gt G (M 1)) (h8 : g < 8) :
    ∃ M', zl3 (f_X12_ungroup_L27 TM N 0 (nI g) (hM (hg g))) N (0 : Int32) (0 : Int32) (M, rfM) = some (nI (cnt (fun s => th s && decide (hs s = some g)) 20 + cnt (fun h => gt h && decide (hg h = some g)) 8), (M', rfM)) ∧ (∀ s, s < 20 → th s = true → M' 1 (10 + 8 * s + 7) = hM (upU g hg (hs s))) ∧ (∀ h, h < 8 → M' 1 (290 + 2 * h) = bI (gt h && !decide (h = g))) ∧ (∀ h, h < 8 → (gt h && !decide (h = g)) = true → M' 1 (290 + 2 * h + 1) = hM (upU g hg (hg h))) ∧ ∀ a j, ¬ (a = 1 ∧ ((290 ≤ j ∧ j < 306) ∨ ∃ s, s < 20 ∧ j = 10 + 8 * s + 7)) → M' a j = M a j := by
  refine zl3_inv (P := fun r => ∃ M' : Nat → Nat → Int32, r = some (nI (cnt (fun s => th s && decide (hs s = some g)) 20 + cnt (fun h => gt h && decide (hg h = some g)) 8), (M', rfM)) ∧ (∀ s, s < 20 → th s = true → M' 1 (10 + 8 * s + 7) = hM (upU g hg (hs s))) ∧ (∀ h, h < 8 → M' 1 (290 + 2 * h) = bI (gt h && !decide (h = g))) ∧ (∀ h, h < 8 → (gt h && !decide (h = g)) = true → M' 1 (290 + 2 * h + 1) = hM (upU g hg (hg h))) ∧ ∀ a j, ¬ (a = 1 ∧ ((290 ≤ j ∧ j < 306) ∨ ∃ s, s < 20 ∧ j = 10 + 8 * s + 7)) → M' a j = M a j) 20
    (fun i (x : Int32) (z : Int32) st => x = nI (cnt (fun s => th s && decide (hs s = some g)) i) ∧ z = nI i ∧ ∃ M' : Nat → Nat → Int32, st = (M', rfM) ∧ (∀ s, s < 20 → th s = true → M' 1 (10 + 8 * s + 7) = if s < i then hM (upU g hg (hs s)) else hM (hs s)) ∧ ∀ a j, ¬ (a = 1 ∧ ∃ s, s < 20 ∧ j = 10 + 8 * s + 7) → M' a j = M a j) ?_ ?_ 20 0 N (0 : Int32) (0 : Int32) (M, rfM) rfl hN ⟨nI_0.symm, nI_0.symm, M, rfl, fun s h ht => by rw [if_neg (by omega)]; exact hH.sV s h ht, fun a j _ => rfl⟩
  · rintro i hi x z st ⟨rfl, rfl, M1, rfl, hA, hD⟩
    have of0 : f_X12_of TM N (M1, rfM) 0 (nI i) (0 : Int32) = some (bI (th i), (M1, rfM)) := (m_of (j := 0) (by omega)).trans (by rw [hD _ _ (fun ⟨_, k, _, e⟩ => by omega), show 10 + 8 * i + 0 = 10 + 8 * i from rfl, hS.tV i hi])
    have hskip : ¬ (th i = true ∧ hs i = some g) → (∀ k : Int32 → Int32 → zS → Option (Int32 × zS), f_X12_ungroup_L27 TM N 0 (nI g) (hM (hg g)) k (nI (cnt (fun s => th s && decide (hs s = some g)) i)) (nI i) (M1, rfM) = k (nI (cnt (fun s => th s && decide (hs s = some g)) i)) (nI (i + 1)) (M1, rfM)) → ∃ b0 b1 b2, (b0 = nI (cnt (fun s => th s && decide (hs s = some g)) (i + 1)) ∧ b1 = nI (i + 1) ∧ ∃ M' : Nat → Nat → Int32, b2 = (M', rfM) ∧ (∀ s, s < 20 → th s = true → M' 1 (10 + 8 * s + 7) = if s < i + 1 then hM (upU g hg (hs s)) else hM (hs s)) ∧ ∀ a j, ¬ (a = 1 ∧ ∃ s, s < 20 ∧ j = 10 + 8 * s + 7) → M' a j = M a j) ∧ ∀ k : Int32 → Int32 → zS → Option (Int32 × zS), f_X12_ungroup_L27 TM N 0 (nI g) (hM (hg g)) k (nI (cnt (fun s => th s && decide (hs s = some g)) i)) (nI i) (M1, rfM) = k b0 b1 b2 := fun hc hst => by
      refine ⟨_, nI (i + 1), (M1, rfM), ⟨?_, rfl, M1, rfl, fun s h ht => ?_, hD⟩, hst⟩
      · rw [cnt_f]
        intro q
        rw [Bool.and_eq_true, decide_eq_true_iff] at q
        exact hc q
      · rw [hA s h ht]
        by_cases e : s = i
        · have hne : hs s ≠ some g := fun q => hc ⟨by rw [← e]; exact ht, by rw [← e]; exact q⟩
          rw [if_neg (by omega), if_pos (by omega)]
          unfold upU
          rw [if_neg hne]
        · by_cases e2 : s < i
          · rw [if_pos e2, if_pos (by omega)]
          · rw [if_neg e2, if_neg (by omega)]
    refine Or.inl ?_
    by_cases ht : th i = true
    · have hv : M1 1 (10 + 8 * i + 7) = hM (hs i) := by rw [hA i hi ht, if_neg (by omega)]
      by_cases hc : hs i = some g
      · refine ⟨nI (cnt (fun s => th s && decide (hs s = some g)) i + 1), nI (i + 1), (zu M1 1 (10 + 8 * i + 7) (hM (hg g)), rfM), ⟨?_, rfl, _, rfl, fun s h hst => ?_, fun a j h1 => ?_⟩, fun k => ?_⟩
        · rw [cnt_t (by rw [ht, decide_eq_true hc]; rfl)]
        · by_cases e : s = i
          · rw [e, zu_same, if_pos (by omega)]
            unfold upU
            rw [if_pos hc]
          · rw [zu_ne (fun e2 => by omega), hA s h hst]
            by_cases e2 : s < i
            · rw [if_pos e2, if_pos (by omega)]
            · rw [if_neg e2, if_neg (by omega)]
        · rw [zu_ne (fun e1 e2 => h1 ⟨e1, i, hi, e2⟩)]; exact hD a j h1
        · unfold f_X12_ungroup_L27
          rw [if_neg (nI_n20 hi), of0, zb2_some, ht, if_neg (show ¬ ¬ bI true = 1 from fun n => n rfl), m_groupOf hi, zb2_some, hv, if_neg (fun n => n ((hJ_g (fun k e => (hH.sg i hi ht k e).1) h8).mpr hc)), g_v, Option.bind_some, v_wrL (show (10 : Int32) + 8 * nI i + 7 = nI (10 + 8 * i + 7) from ix8j i 7) (by omega), Option.bind_some, zn_eq, zn_eq, nI_1, nI_1]
      · refine hskip (fun q => hc q.2) (fun k => ?_)
        unfold f_X12_ungroup_L27
        rw [if_neg (nI_n20 hi), of0, zb2_some, ht, if_neg (show ¬ ¬ bI true = 1 from fun n => n rfl), m_groupOf hi, zb2_some, hv, if_pos (fun q => hc ((hJ_g (fun k e => (hH.sg i hi ht k e).1) h8).mp q)), zn_eq, nI_1]
    · have ht2 : th i = false := by simpa using ht
      refine hskip (fun q => ht q.1) (fun k => ?_)
      unfold f_X12_ungroup_L27
      rw [if_neg (nI_n20 hi), of0, zb2_some, ht2, if_pos (by decide), zn_eq, nI_1]
  · rintro x z st ⟨rfl, rfl, M1, rfl, hA, hD⟩ k
    obtain ⟨M2, e2, c1, c2, c3⟩ := m_ug2 (M := M1) (N := N) (a := cnt (fun s => th s && decide (hs s = some g)) 20) (gt := gt) (hg := hg) hN h8 (fun k hk hq k2 e => (hH.gg k hk hq k2 e).1) (fun k hk => (hD _ _ (fun ⟨_, s, _, e⟩ => by omega)).trans (hH.tV k hk)) (fun k hk hq => (hD _ _ (fun ⟨_, s, _, e⟩ => by omega)).trans (hH.gV k hk hq))
    refine ⟨M2, ?_, fun s h ht => ?_, c1, c2, fun a j h1 => ?_⟩
    · unfold f_X12_ungroup_L27
      rw [if_pos (nI_20 (Nat.le_refl 20) (by decide))]
      exact e2
    · rw [c3 _ _ (by omega), hA s h ht, if_pos h]
    · rw [c3 a j (fun q => h1 ⟨q.1, Or.inl q.2⟩)]
      exact hD a j (fun q => h1 ⟨q.1, Or.inr q.2⟩)
theorem o_ungroup (hN : 1901 < N) {σC σM : zS} (hI : INV σC σM) (x : Int32) : zAg INV (f_X11_ungroup TC N σC 0 x) (f_X12_ungroup TM N σM 0 x) := by
  obtain ⟨G, q, M, rfl, rfl, ⟨n, th, sel, c, p, hs, hg, gt, ln, hA⟩, hHi, hT⟩ := id hI
  unfold f_X11_ungroup f_X12_ungroup
  rw [zz1_of TC_0, zz1_of TM_0, g_now, Option.bind_some, g_groups, Option.bind_some]
  rcases grp (q := q) (N := N) hA.2.2.2.1 x with ⟨g, h8, rfl, hgt, k1, k2⟩ | ⟨k1, k2, -⟩
  · rw [k1, k2, zb2_some, zb2_some, if_pos (by decide), if_pos (by decide)]
    obtain ⟨G1, q1, M1, e1, e2, ⟨a1, a2, a3, a4, a5, a6⟩, h1, h2, h3, h4⟩ := keep2 hN hA hHi hT
    obtain ⟨G2, c0, c1, c2, c3, c4⟩ := e_endGroup (q := q1) (N := N) (by omega) a1 a4 h8 hgt
    obtain ⟨M2, d0, d1, d2, d3, d4⟩ := m_ug1 (N := N) (by omega) a1 a4 h8
    refine ⟨nI (cnt (fun s => th s && decide (hs s = some g)) 20 + cnt (fun h => gt h && decide (hg h = some g)) 8), (G2, rfC q1), (M2, rfM), ?_, ?_, ?_⟩
    · simp only [g_hist, g_now, Option.bind_some, e1]
      rw [c0, zb2_some]
    · rw [e2, Option.bind_some, m_abv h8, zb2_some, zn_eq, a4.gV g h8 hgt, hM_back]
      exact d0
    · have hh := QH_ungroup a4 h8 hgt c1 d1 c2 d2 c3 d3
      refine INV_now h1 h2 ⟨n, th, sel, c, p, fun s => upU g hg (hs s), fun h => upU g hg (hg h), fun h => gt h && !decide (h = g), ln, QS_fr a1 ?_ ?_ ?_ ?_, QC_fr a2 ?_ ?_, QP_fr a3 ?_ ?_ ?_, hh, QL_fr a5 ?_ ?_ ?_ ?_, QU_fr a6 ?_ ?_ ?_ ?_⟩ ?_ ?_ ?_ ?_ ?_
      all_goals (intros; first | exact c4 _ _ (fun ⟨_, k, _, e⟩ => by omega) (by omega) (by omega) | exact d4 _ _ (fun ⟨_, q⟩ => by rcases q with q | ⟨k, _, e⟩ <;> omega) | exact ⟨c4 _ _ (fun ⟨_, k, _, e⟩ => by omega) (by omega) (by omega), c4 _ _ (fun ⟨_, k, _, e⟩ => by omega) (by omega) (by omega)⟩)
  · rw [k1, k2, zb2_some, zb2_some, if_neg (by decide), if_neg (by decide)]
    exact ⟨_, _, _, rfl, rfl, hI⟩
end OU2
