/-! distribute: the whole operation -/
section ODI
variable {G M G1 M1 C D : Nat → Nat → Int32} {q : Nat → Option Nat} {N : Nat} {n c ln : Nat} {th sel gt P : Nat → Bool} {p uo o : Nat → Nat} {hs hg : Nat → Option Nat} {ρ : Nat → Nat → Option Nat} {V w wy : Nat → Int32} {s t a b y k d u α m i l r : Nat} {x z S : Int32}
theorem GB_fr {M2 : Nat → Nat → Int32} (hB : GB th sel uo m G M G1 M1) (h : ∀ a j, a ≠ 10 → a ≠ 11 → M2 a j = M1 a j) : GB th sel uo m G M G1 M2 := by
  obtain ⟨b1, b2, b3, b4, b5, b6, b7, b8, b9, b10⟩ := hB
  refine ⟨b1, b2, b3, (h _ _ (by decide) (by decide)).trans b4, fun s h1 h2 => ⟨(h _ _ (by decide) (by decide)).trans (b5 s h1 h2).1, (b5 s h1 h2).2⟩, fun u hu α hα => ?_, fun α hα => ?_, b8, b9, fun a j h1 h2 => ?_⟩
  · rw [h _ _ (by decide) (by decide), h _ _ (by decide) (by decide)]
    exact b6 u hu α hα
  · rw [h _ _ (by decide) (by decide), h _ _ (by decide) (by decide)]
    exact b7 α hα
  · exact (h _ _ (by omega) (by omega)).trans (b10 a j h1 h2)
theorem o_distribute (hN : 1901 < N) {σC σM : zS} (hI : INV σC σM) (x : Int32) : zAg INV (f_X11_distribute TC N σC 0 x) (f_X12_distribute TM N σM 0 x) := by
  obtain ⟨G, q, M, rfl, rfl, ⟨n, th, sel, c, p, hs, hg, gt, ln, hA⟩, hH, hT⟩ := id hI
  obtain ⟨m, G1, M1, g1, g2, hB⟩ := gat_both (q := q) (N := N) (by omega) hA
  obtain ⟨b1, b2, b3, b4, b5, b6, b7, b8, b9, b10⟩ := id hB
  unfold f_X11_distribute f_X12_distribute
  rw [zz1_of TC_0, zz1_of TM_0, g2, Option.bind_some, e_isAxis, m_in, zb2_some, zb2_some, isAxis_wth]
  by_cases hx : x = 0 ∨ x = 1
  · have hα : ∃ α, α < 2 ∧ x = nI α := by
      rcases hx with rfl | rfl
      · exact ⟨0, by decide, rfl⟩
      · exact ⟨1, by decide, rfl⟩
    obtain ⟨α, hα, rfl⟩ := hα
    rw [if_pos hx, if_pos (by decide), if_neg (by decide), g_units, Option.bind_some, g_now, Option.bind_some, g1, Option.bind_some, g_units, Option.bind_some, gI_of TC_370, b2, Option.bind_some, gI_of TM_0, b4, Option.bind_some]
    by_cases hm : 3 ≤ m
    · have hm2 : (3 : Int32) ≤ nI m := nI_le hm (by omega)
      rw [if_pos hm2, Option.bind_some, if_pos hm2]
      obtain ⟨o, C, D, s1, s2, c1, c2, d1, d2, ho⟩ := sort_both (q := q) (N := N) (by omega) hα hA hB hm
      obtain ⟨Ms, e2, z1, z2⟩ := m_staysAll (N := N) (M := D) (by omega)
      obtain ⟨r, r1, r2, r3, r4, r5⟩ := gaps b1 hm (sp_b hα hA hB ho) rfl
      obtain ⟨Gp, e1, p1, p2⟩ := e_planD (q := q) (N := N) (by omega) hα hA hB hm ho s1 c1 c2 rfl r1 r2 r5
      obtain ⟨Mp, e3, t1, t2⟩ := m_planD (N := N) (D := Ms) (by omega) hα hA hB hm ho (fun t ht => (z2 _ _ (by decide) (by decide)).trans (d1 t ht)) (fun a b h1 h2 h3 => (z2 _ _ h1 h2).trans (d2 _ _ h3)) z1 rfl r1 r3 r4
      generalize hS : spF (lwO G sel (uoF sel (kyS hs hg)) o α) (hgO G sel (uoF sel (kyS hs hg)) o α) (lwO G sel (uoF sel (kyS hs hg)) o α (m - 1) - hgO G sel (uoF sel (kyS hs hg)) o α 0) (m - 2) = S at *
      have c3 : ∀ a j, ¬ (a = 0 ∧ j = 11) → ¬ (5 ≤ a ∧ a ≤ 12) → Mp a j = M a j := fun a j h1 h2 => (((t2 _ _ (by omega) (by omega)).trans (z2 _ _ (by omega) (by omega))).trans (d2 _ _ (by omega))).trans (b10 _ _ (by omega) (by omega))
      have c4 : ∀ a j, a < 370 → Gp a j = G a j := fun a j h => ((p2 _ _ (by omega)).trans (c2 _ _ (by omega))).trans (b9 _ _ (by omega) (by omega))
      have hU : UN Gp sel (uoF sel (kyS hs hg)) o m (wF (lwO G sel (uoF sel (kyS hs hg)) o α) (hgO G sel (uoF sel (kyS hs hg)) o α) (fdJ S (nI (m - 1))) r) (wyO sel (uoF sel (kyS hs hg)) o m (wF (lwO G sel (uoF sel (kyS hs hg)) o α) (hgO G sel (uoF sel (kyS hs hg)) o α) (fdJ S (nI (m - 1))) r)) :=
        ⟨b1, ((p2 _ _ (by decide)).trans (c2 _ _ (by decide))).trans b2, fun i hi => ⟨(p2 _ _ (by decide)).trans (c1 i hi), p1 i hi⟩, ho.2.1, fun s h1 h2 => ⟨poF o m (uoF sel (kyS hs hg) s), (po_ok ho (b5 s h1 h2).2).1, (po_ok ho (b5 s h1 h2).2).2.symm, wyF_t h2⟩, fun s h1 h2 => wyF_f h2⟩
      obtain ⟨b, k1, k2, k3, k4⟩ := units_end (q := q) hN hα hA hH hT hU t1 (fun a j h => c4 _ _ (by omega)) (c4 _ _ (by decide)) (fun j => c4 _ _ (by decide)) (fun j => c3 _ _ (by omega) (by omega)) (fun j => c3 _ _ (by omega) (by omega)) (c3 _ _ (by omega) (by omega)) (c3 _ _ (by omega) (by omega)) (fun j => c3 _ _ (by omega) (by omega))
      -- the reference's reads
      have rr : ∀ a j, a ≠ 10 → a ≠ 11 → a ≠ 12 → Ms a j = M1 a j := fun a j h1 h2 h3 => (z2 _ _ h1 h2).trans (d2 _ _ h3)
      have r12 : ∀ t, t < m → aI TM (Ms, rfM) 12 13 (nI t) = some (nI (o t)) := fun t ht => by
        rw [aI_of TM_12 ML_12 (show t < 20 by omega) (by decide), z2 _ _ (by decide) (by decide), d1 t ht]
      have r7 : ∀ t, t < m → aI TM (Ms, rfM) 7 13 ((2 : Int32) * nI (o t) + nI α) = some (lwO G sel (uoF sel (kyS hs hg)) o α t) := fun t ht => by
        have := ho.1 t ht
        rw [ixB, aI_of TM_7 ML_7 (show 2 * o t + α < 42 by omega) (by decide), rr _ _ (by decide) (by decide) (by decide), (b6 _ this α hα).1]
        rfl
      have r8 : ∀ t, t < m → aI TM (Ms, rfM) 8 13 ((2 : Int32) * nI (o t) + nI α) = some (hgO G sel (uoF sel (kyS hs hg)) o α t) := fun t ht => by
        have := ho.1 t ht
        rw [ixB, aI_of TM_8 ML_8 (show 2 * o t + α < 42 by omega) (by decide), rr _ _ (by decide) (by decide) (by decide), (b6 _ this α hα).2]
        rfl
      have em : nI m - (1 : Int32) = nI (m - 1) := by
        rw [show nI m = nI (m - 1) + 1 by rw [nI_1, show m - 1 + 1 = m by omega], Int32.add_sub_cancel]
      rw [s2, Option.bind_some, e2, Option.bind_some, gI_of TM_0, rr _ _ (by decide) (by decide) (by decide), b4, Option.bind_some, zn_eq, em, gm8, Option.bind_some, gm16, Option.bind_some, r12 (m - 1) (by omega), Option.bind_some, r7 (m - 1) (by omega), Option.bind_some, gm9, Option.bind_some, Option.bind_some, show aI TM (Ms, rfM) 12 13 (0 : Int32) = some (nI (o 0)) from r12 0 (by omega), Option.bind_some, r8 0 (by omega), Option.bind_some, zn_eq, e3, k2, zb2_some]
      rw [g_now, Option.bind_some, g_shapes, Option.bind_some, e1, zb2_some, g_units, Option.bind_some, g_now, Option.bind_some, g_shapes, Option.bind_some, k1, zb2_some]
      cases b
      · rw [if_neg (by decide), if_neg (by decide)]
        exact ⟨_, _, _, rfl, rfl, k3⟩
      · obtain ⟨G3, q1, M3, G2, M2, v1, v2, v3, v4, v5⟩ := k4 rfl
        rw [if_pos (by decide), if_pos (by decide)]
        refine ⟨S, (G2, rfC q1), (M2, rfM), ?_, ?_, v5⟩
        · rw [g_hist, Option.bind_some, g_now, Option.bind_some, v1, Option.bind_some, g_units, Option.bind_some, g_now, Option.bind_some, g_shapes, Option.bind_some, v3, zb2_some]
        · rw [v2, Option.bind_some, v4, Option.bind_some]
    · have hm2 : ¬ (3 : Int32) ≤ nI m := nI_ge (a := m) (b := 3) (by omega) (by decide)
      rw [if_neg hm2, Option.bind_some, if_neg hm2]
      exact ⟨_, _, _, rfl, rfl, INV_scr (QA_QR hA) hH hT (fun a j h => b9 _ _ (by omega) (by omega)) (b9 _ _ (by omega) (by omega)) (fun j => b9 _ _ (by omega) (by omega)) (fun j => b10 _ _ (by omega) (by omega)) (fun j => b10 _ _ (by omega) (by omega)) (b10 _ _ (by omega) (by omega)) (b10 _ _ (by omega) (by omega)) (fun j => b10 _ _ (by omega) (by omega))⟩
  · rw [if_neg hx, if_neg (by decide), if_pos rfl]
    exact ⟨_, _, _, rfl, rfl, INV_scr (QA_QR hA) hH hT (fun a j h => rfl) rfl (fun j => rfl) (fun j => b10 _ _ (by omega) (by omega)) (fun j => b10 _ _ (by omega) (by omega)) (b10 _ _ (by omega) (by omega)) (b10 _ _ (by omega) (by omega)) (fun j => b10 _ _ (by omega) (by omega))⟩
end ODI
