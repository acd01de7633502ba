/-! shifting the units, on both sides -/
section WSH
variable {G M : Nat → Nat → Int32} {q : Nat → Option Nat} {N : Nat} {n c ln : Nat} {th sel gt : Nat → Bool} {p uo o : Nat → Nat} {hs hg : Nat → Option Nat} {ρ : Nat → Nat → Option Nat} {V w wy : Nat → Int32} {s t a b y k d u α m i : Nat} {x z : Int32}
theorem UN_fr {D : Nat → Nat → Int32} (h : UN G sel uo o m w wy) (e1 : D 370 2 = G 370 2) (e2 : ∀ j, D 371 j = G 371 j) (e3 : ∀ j, D 372 j = G 372 j) : UN D sel uo o m w wy :=
  ⟨h.1, e1.trans h.2.1, fun i hi => ⟨(e2 i).trans (h.2.2.1 i hi).1, (e3 i).trans (h.2.2.1 i hi).2⟩, h.2.2.2⟩
/-- the shapes of the first i units have gone their ways -/
def goU (G : Nat → Nat → Int32) (sel : Nat → Bool) (uo o : Nat → Nat) (wy : Nat → Int32) (α i : Nat) (D : Nat → Nat → Int32) : Prop :=
  (∀ s, s < 20 → D (4 + s) (2 + α) = if (liv G s && anyB (fun j => uB sel uo (o j) s) i) = true then G (4 + s) (2 + α) + wy s else G (4 + s) (2 + α)) ∧
  ∀ a j, ¬ ((4 ≤ a ∧ a < 24) ∧ j = 2 + α) → D a j = G a j
theorem e_ushift (hN : 20 < N) (hα : α < 2) (hU : UN G sel uo o m w wy) : ∃ G', f_X10_shift TC N (G, rfC q) 370 2 (nI α) = some (nI (cnt (fun i => decide (¬ w i = 0)) m), (G', rfC q)) ∧ goU G sel uo o wy α m G' := by
  obtain ⟨hm, h2, h3, ho, -, -⟩ := id hU
  unfold f_X10_shift
  rw [zz1_of TC_370]
  refine zl3_inv (P := fun r => ∃ G' : Nat → Nat → Int32, r = some (nI (cnt (fun i => decide (¬ w i = 0)) m), (G', rfC q)) ∧ goU G sel uo o wy α m G') m
    (fun i (x5 : Int32) (x6 : Int32) st => x5 = nI (cnt (fun i => decide (¬ w i = 0)) i) ∧ x6 = nI i ∧ ∃ G' : Nat → Nat → Int32, st = (G', rfC q) ∧ goU G sel uo o wy α i G') ?_ ?_ m 0 N (0 : Int32) (0 : Int32) _ (by omega) (by omega) ⟨nI_0.symm, nI_0.symm, G, rfl, fun s hs => ?_, fun a j h => rfl⟩
  · rintro i hi x5 x6 st ⟨rfl, rfl, D, rfl, g1, g2⟩
    have d2 : D 370 2 = nI m := (g2 _ _ (by omega)).trans h2
    have d1 : D 371 i = mkS (uB sel uo (o i)) 20 := (g2 _ _ (by omega)).trans (h3 i hi).1
    have d3 : D 372 i = w i := (g2 _ _ (by omega)).trans (h3 i hi).2
    have hcl := cnt_le (fun i => decide (¬ w i = 0)) i
    refine Or.inl ?_
    by_cases hw : w i = 0
    · refine ⟨_, nI (i + 1), (D, rfC q), ⟨by rw [cnt_f (by simp [hw])], rfl, D, rfl, fun s hs => ?_, g2⟩, fun k => ?_⟩
      · rw [g1 s hs]
        show _ = if (liv G s && (anyB (fun j => uB sel uo (o j) s) i || uB sel uo (o i) s)) = true then _ else _
        by_cases hb : uB sel uo (o i) s = true
        · rw [UN_w hU hi hs hb, hw, Int32.add_zero]
          by_cases hc : (liv G s && anyB (fun j => uB sel uo (o j) s) i) = true <;> by_cases hc2 : (liv G s && (anyB (fun j => uB sel uo (o j) s) i || uB sel uo (o i) s)) = true
          · rw [if_pos hc, if_pos hc2]
          · rw [if_pos hc, if_neg hc2]
          · rw [if_neg hc, if_pos hc2]
          · rw [if_neg hc, if_neg hc2]
        · rw [eq_false_of_ne_true hb, Bool.or_false]
      · unfold f_X10_shift_L5
        rw [gI_of TC_370, d2, Option.bind_some, if_neg (nI_ge hi (by omega)), e_wayOf d2 hm hi, d3, zb2_some, if_pos hw, zn_eq, nI_1]
    · refine ⟨_, nI (i + 1), (mapC D (fun s => liv D s && bt (mkS (uB sel uo (o i)) 20) s) (2 + α) (fun x => x + w i) 20, rfC q), ⟨rfl, rfl, _, rfl, fun s hs => ?_, fun a j h => ?_⟩, fun k => ?_⟩
      · rw [mapC_in hs, bt_S _ hs, show liv D s = liv G s by unfold liv; rw [g2 _ _ (by omega)], g1 s hs]
        show _ = if (liv G s && (anyB (fun j => uB sel uo (o j) s) i || uB sel uo (o i) s)) = true then _ else _
        by_cases hb : uB sel uo (o i) s = true
        · have hno : anyB (fun j => uB sel uo (o j) s) i = false := by
            cases e : anyB (fun j => uB sel uo (o j) s) i
            · rfl
            · obtain ⟨j, j1, j2⟩ := anyB_iff.mp e
              have := (uB_iff.mp hb).2.symm.trans (uB_iff.mp j2).2
              have := ho i j hi (by omega) this
              omega
          rw [hb, hno, Bool.and_false, Bool.false_or, Bool.and_true, if_neg (show ¬ false = true by decide), UN_w hU hi hs hb]
        · rw [eq_false_of_ne_true hb, Bool.or_false, Bool.and_false, if_neg (by decide)]
      · rw [mapC_out (by omega)]
        exact g2 a j h
      · unfold f_X10_shift_L5
        rw [gI_of TC_370, d2, Option.bind_some, if_neg (nI_ge hi (by omega)), e_wayOf d2 hm hi, d3, zb2_some, if_neg hw, e_setOf d2 hm hi, d1, zb2_some, e_wayOf d2 hm hi, d3, zb2_some, e_shift hN hα, Option.bind_some, zn_eq, zn_eq, nI_1, nI_1, cnt_t (P := fun i => decide (¬ w i = 0)) (decide_eq_true hw)]
  · rintro x5 x6 st ⟨rfl, rfl, D, rfl, g1, g2⟩ k
    refine ⟨D, ?_, g1, g2⟩
    unfold f_X10_shift_L5
    rw [gI_of TC_370, g2 _ _ (by omega), h2, Option.bind_some, if_pos (nI_le (Nat.le_refl m) (by omega))]
  · rw [if_neg (by rw [show anyB (fun j => uB sel uo (o j) s) 0 = false from rfl, Bool.and_false]; decide)]
/-- both sides move the units -/
theorem go_units (hN : 20 < N) (hα : α < 2) (hA : QA n th sel c p hs hg gt ln G (M 1)) (hU : UN G sel uo o m w wy) (hx : ∀ s, s < 20 → M 10 s = axs α 0 wy s ∧ M 11 s = axs α 1 wy s) (hi : allB (stB th G (axs α 0 wy) (axs α 1 wy)) 20 = true) :
    ∃ G' M', f_X10_shift TC N (G, rfC q) 370 2 (nI α) = some (nI (cnt (fun i => decide (¬ w i = 0)) m), (G', rfC q)) ∧ f_X12_movesAll TM N (M, rfM) 0 = some (M', rfM) ∧ QA n th sel c p hs hg gt ln G' (M' 1) ∧ (∀ a j, 24 ≤ a → G' a j = G a j) ∧ ∀ a j, a ≠ 1 → M' a j = M a j := by
  obtain ⟨a1, a2, a3, a4, a5, a6⟩ := hA
  obtain ⟨M2, e2, f1, f2⟩ := m_movesAll (N := N) (M := M) hN
  obtain ⟨G2, e1, g1, g2⟩ := e_ushift (q := q) hN hα hU
  have hα2 : α = 0 ∨ α = 1 := by omega
  have hcell : ∀ s, s < 20 → th s = true → G2 (4 + s) (2 + α) = G (4 + s) (2 + α) + wy s := fun s h ht => by
    rw [g1 s h, QS_liv a1 h, ht, Bool.true_and]
    cases hsl : sel s
    · rw [hU.2.2.2.2.2 s h hsl, Int32.add_zero]
      by_cases hc : anyB (fun j => uB sel uo (o j) s) m = true
      · rw [if_pos hc]
      · rw [if_neg hc]
    · obtain ⟨i, i1, i2, i3⟩ := hU.2.2.2.2.1 s h hsl
      rw [if_pos (show anyB (fun j => uB sel uo (o j) s) m = true from anyB_iff.mpr ⟨i, i1, uB_iff.mpr ⟨hsl, i2⟩⟩)]
  refine ⟨G2, M2, e1, e2, ⟨?_, QC_fr a2 ?_ ?_, QP_fr a3 ?_ ?_ ?_, QH_fr a4 ?_ ?_ ?_ ?_ ?_, QL_fr a5 ?_ ?_ ?_ ?_, QU_fr a6 ?_ ?_ ?_ ?_⟩, fun a j h => g2 a j (by omega), fun a j h => f2 a j (fun q => h q.1)⟩
  · refine QS_go a1 (bx := axs α 0 wy) (bz := axs α 1 wy) (fun s h ht => ?_) (fun s h ht => ?_) (fun s h j j1 j2 j3 => g2 _ _ (by omega)) (g2 _ _ (by omega)) (fun s h ht => ?_) (fun s h j j1 j2 j3 => f2 _ _ (fun ⟨_, k, _, e⟩ => by omega)) (f2 _ _ (fun ⟨_, k, _, e⟩ => by omega))
    · have h2 := allB_iff.mp hi s h
      unfold stB at h2
      rw [ht, Bool.not_true, Bool.false_or, Bool.and_eq_true, decide_eq_true_iff, decide_eq_true_iff] at h2
      exact h2
    · have hc := hcell s h ht
      rcases hα2 with rfl | rfl
      · refine ⟨hc, ?_⟩
        rw [g2 _ _ (by omega)]
        exact (Int32.add_zero _).symm
      · refine ⟨?_, hc⟩
        rw [g2 _ _ (by omega)]
        exact (Int32.add_zero _).symm
    · rw [(f1 s h).1, (f1 s h).2, (hx s h).1, (hx s h).2]
      exact ⟨rfl, rfl⟩
  all_goals (intros; first | exact g2 _ _ (by omega) | exact f2 _ _ (fun ⟨_, k, _, e⟩ => by omega) | exact ⟨g2 _ _ (by omega), g2 _ _ (by omega)⟩)
end WSH
