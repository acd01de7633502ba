/-! group -/
section GRQ
variable {G M : Nat → Nat → Int32} {q : Nat → Option Nat} {N : Nat} {n c ln : Nat} {th sel gt : Nat → Bool} {p : Nat → Nat} {hs hg : Nat → Option Nat} {ρ : Nat → Nat → Option Nat} {V : Nat → Int32} {s t a b y k o d u m g : Nat}
theorem e_firstFree (hN : 20 < N) (h : ∀ k, k < 8 → G 47 k = bI (gt k)) : f_X3_firstFree TC N (G, rfC q) 46 = some (if fdx (fun g => !gt g) 8 < 8 then nI (fdx (fun g => !gt g) 8) else -1000000, (G, rfC q)) := by
  obtain ⟨f1, f2, f3⟩ := fdx_spec (f := fun g => !gt g) 8
  unfold f_X3_firstFree
  rw [zz1_of TC_46]
  refine zl1_end (fdx (fun g => !gt g) 8) (fun i => nI i) nI_0.symm (by omega) (fun i hi k => ?_) (fun k => ?_)
  · have hg := f2 i hi
    have hg : (!gt i) = false := hg
    unfold f_X3_firstFree_L2
    simp only [gR_of TC_46, rf_46_0, Option.bind_some, aL_of TC_47, TL_47]
    rw [if_neg (nI_ge (by omega) (by decide)), aI_of TC_47 TL_47 (show i < 8 by omega) (by decide), Option.bind_some, h i (by omega), if_pos, zn_eq, nI_1]
    cases e : gt i
    · rw [e] at hg; cases hg
    · decide
  · unfold f_X3_firstFree_L2
    simp only [gR_of TC_46, rf_46_0, Option.bind_some, aL_of TC_47, TL_47]
    by_cases e : fdx (fun g => !gt g) 8 < 8
    · have hg : (!gt (fdx (fun g => !gt g) 8)) = true := f3 e
      rw [if_neg (nI_ge e (by decide)), aI_of TC_47 TL_47 e (by decide), Option.bind_some, h _ e, if_pos e]
      cases e2 : gt (fdx (fun g => !gt g) 8)
      · rw [if_neg (by decide)]
      · rw [e2] at hg; cases hg
    · have : fdx (fun g => !gt g) 8 = 8 := by omega
      rw [if_neg e, this, if_pos (nI_le (Nat.le_refl 8) (by decide))]
theorem m_isGrp (h8 : g < 8) (h : M 1 (290 + 2 * g) = bI (gt g)) : f_X12_isGroup TM N (M, rfM) 0 (nI g) = some (bI (gt g), (M, rfM)) := by
  unfold f_X12_isGroup
  rw [zz1_of TM_0, m_in, show wth (nI g) 0 7 = 1 from wth_in (a := 0) (b := 7) (by decide) (by omega) (by omega), zb2_some, if_neg (by decide)]
  simp only [g_v, Option.bind_some]
  rw [ix2, v_rd (by omega), h]
  simp only [Option.bind_some]
  cases gt g
  · rw [if_pos (by decide)]; rfl
  · rw [if_neg (by decide)]; rfl
theorem m_freeL (hN : 20 < N) (h : ∀ k, k < 8 → M 1 (290 + 2 * k) = bI (gt k)) : zl2 (f_X12_group_L17 TM N 0) N (0 : Int32) (M, rfM) = f_X12_group_J37 TM N 0 (nI (fdx (fun g => !gt g) 8)) (M, rfM) := by
  obtain ⟨f1, f2, f3⟩ := fdx_spec (f := fun g => !gt g) 8
  refine zl2_end (fdx (fun g => !gt g) 8) (fun i => nI i) (fun _ => (M, rfM)) nI_0.symm rfl (by omega) (fun i hi k => ?_) (fun k => ?_)
  · have hg : (!gt i) = false := f2 i hi
    unfold f_X12_group_L17
    rw [if_neg (nI_n8 (by omega)), m_isGrp (by omega) (h i (by omega)), zb2_some, if_neg, zn_eq, nI_1]
    cases e : gt i
    · rw [e] at hg; cases hg
    · decide
  · unfold f_X12_group_L17
    by_cases e : fdx (fun g => !gt g) 8 < 8
    · have hg : (!gt (fdx (fun g => !gt g) 8)) = true := f3 e
      rw [if_neg (nI_n8 e), m_isGrp e (h _ e), zb2_some, if_pos]
      cases e2 : gt (fdx (fun g => !gt g) 8)
      · rfl
      · rw [e2] at hg; cases hg
    · have : fdx (fun g => !gt g) 8 = 8 := by omega
      rw [this, if_pos (nI_8 (Nat.le_refl 8) (by decide))]
theorem m_joinL (hN : 30 < N) {us : Nat → Nat} (hm : m ≤ 20) (hg8 : g < 8) (h0 : M 0 11 = nI m) (h5 : ∀ u, u < m → us u < 20 ∧ (∀ h, unO hs hg (us u) = some h → h < 8) ∧ M 5 u = hM (unO hs hg (us u)) ∧ M 6 u = nI (us u)) :
    ∃ M', zl2 (f_X12_group_L80 TM N 0 (nI g)) N (0 : Int32) (M, rfM) = some (nI g, (M', rfM)) ∧ (∀ k, k < 8 → M' 1 (290 + 2 * k + 1) = if anyB (fun u => decide (unO hs hg (us u) = some k)) m = true then nI (g + 1) else M 1 (290 + 2 * k + 1)) ∧ (∀ s, s < 20 → M' 1 (10 + 8 * s + 7) = if anyB (fun u => decide (us u = s) && decide (unO hs hg (us u) = none)) m = true then nI (g + 1) else M 1 (10 + 8 * s + 7)) ∧ ∀ a j, ¬ (a = 1 ∧ ((∃ k, k < 8 ∧ j = 290 + 2 * k + 1) ∨ ∃ s, s < 20 ∧ j = 10 + 8 * s + 7)) → M' a j = M a j := by
  refine zl2_inv (P := fun r => ∃ M' : Nat → Nat → Int32, r = some (nI g, (M', rfM)) ∧ (∀ k, k < 8 → M' 1 (290 + 2 * k + 1) = if anyB (fun u => decide (unO hs hg (us u) = some k)) m = true then nI (g + 1) else M 1 (290 + 2 * k + 1)) ∧ (∀ s, s < 20 → M' 1 (10 + 8 * s + 7) = if anyB (fun u => decide (us u = s) && decide (unO hs hg (us u) = none)) m = true then nI (g + 1) else M 1 (10 + 8 * s + 7)) ∧ ∀ a j, ¬ (a = 1 ∧ ((∃ k, k < 8 ∧ j = 290 + 2 * k + 1) ∨ ∃ s, s < 20 ∧ j = 10 + 8 * s + 7)) → M' a j = M a j) m
    (fun i (x : Int32) st => x = nI i ∧ ∃ M' : Nat → Nat → Int32, st = (M', rfM) ∧ (∀ k, k < 8 → M' 1 (290 + 2 * k + 1) = if anyB (fun u => decide (unO hs hg (us u) = some k)) i = true then nI (g + 1) else M 1 (290 + 2 * k + 1)) ∧ (∀ s, s < 20 → M' 1 (10 + 8 * s + 7) = if anyB (fun u => decide (us u = s) && decide (unO hs hg (us u) = none)) i = true then nI (g + 1) else M 1 (10 + 8 * s + 7)) ∧ ∀ a j, ¬ (a = 1 ∧ ((∃ k, k < 8 ∧ j = 290 + 2 * k + 1) ∨ ∃ s, s < 20 ∧ j = 10 + 8 * s + 7)) → M' a j = M a j) ?_ ?_ m 0 N (0 : Int32) (M, rfM) (by omega) (by omega) ⟨nI_0.symm, M, rfl, fun k _ => rfl, fun s _ => rfl, fun a j _ => rfl⟩
  · rintro i hi x st ⟨rfl, M1, rfl, hA, hB, hD⟩
    obtain ⟨u1, u2, u3, u4⟩ := h5 i hi
    have e0 : M1 0 11 = nI m := (hD 0 11 (by omega)).trans h0
    have e5 : M1 5 i = hM (unO hs hg (us i)) := (hD 5 i (by omega)).trans u3
    have e6 : M1 6 i = nI (us i) := (hD 6 i (by omega)).trans u4
    have a1 : ∀ k, anyB (fun u => decide (unO hs hg (us u) = some k)) (i + 1) = (anyB (fun u => decide (unO hs hg (us u) = some k)) i || decide (unO hs hg (us i) = some k)) := fun k => rfl
    have a2 : ∀ s, anyB (fun u => decide (us u = s) && decide (unO hs hg (us u) = none)) (i + 1) = (anyB (fun u => decide (us u = s) && decide (unO hs hg (us u) = none)) i || (decide (us i = s) && decide (unO hs hg (us i) = none))) := fun s => rfl
    refine Or.inl ?_
    cases eu : unO hs hg (us i) with
    | none =>
      refine ⟨nI (i + 1), (zu M1 1 (10 + 8 * us i + 7) (nI (g + 1)), rfM), ⟨rfl, _, rfl, fun k hk => ?_, fun s hs => ?_, fun a j h => ?_⟩, fun kk => ?_⟩
      · rw [zu_ne (fun _ => by omega), a1, eu, decide_eq_false (fun q => by cases q), Bool.or_false]
        exact hA k hk
      · rw [a2, eu, decide_eq_true rfl, Bool.and_true]
        by_cases e : us i = s
        · rw [← e, zu_same, decide_eq_true rfl, Bool.or_true, if_pos rfl]
        · rw [zu_ne (fun _ => by omega), decide_eq_false e, Bool.or_false]
          exact hB s hs
      · rw [zu_ne (fun e1 e2 => h ⟨e1, Or.inr ⟨us i, u1, e2⟩⟩), hD a j h]
      · unfold f_X12_group_L80
        rw [gI_of TM_0, e0, Option.bind_some, if_neg (nI_ge hi (by omega)), gm6, Option.bind_some, aI_of TM_5 ML_5 (show i < 20 by omega) (by decide), e5, eu, Option.bind_some, if_pos (show hM none ≤ 0 by decide), g_v, Option.bind_some, gm7, Option.bind_some, aI_of TM_6 ML_6 (show i < 20 by omega) (by decide), e6, Option.bind_some, v_wrL (show (10 : Int32) + 8 * nI (us i) + 7 = nI (10 + 8 * us i + 7) from ix8j (us i) 7) (by omega), Option.bind_some, zn_eq, nI_1, nI_1]
    | some h =>
      have h8 := u2 h eu
      refine ⟨nI (i + 1), (zu M1 1 (290 + 2 * h + 1) (nI (g + 1)), rfM), ⟨rfl, _, rfl, fun k hk => ?_, fun s hs => ?_, fun a j hh => ?_⟩, fun kk => ?_⟩
      · rw [a1, eu]
        by_cases e : h = k
        · rw [← e, zu_same, decide_eq_true rfl, Bool.or_true, if_pos rfl]
        · rw [zu_ne (fun _ => by omega), decide_eq_false (fun q => e (Option.some.inj q)), Bool.or_false]
          exact hA k hk
      · rw [zu_ne (fun _ => by omega), a2, eu, decide_eq_false (show ¬ some h = (none : Option Nat) from fun q => by cases q), Bool.and_false, Bool.or_false]
        exact hB s hs
      · rw [zu_ne (fun e1 e2 => hh ⟨e1, Or.inl ⟨h, h8, e2⟩⟩), hD a j hh]
      · unfold f_X12_group_L80
        rw [gI_of TM_0, e0, Option.bind_some, if_neg (nI_ge hi (by omega)), gm6, Option.bind_some, aI_of TM_5 ML_5 (show i < 20 by omega) (by decide), e5, eu, Option.bind_some, if_neg (show ¬ hM (some h) ≤ 0 from nI_nle (by omega) (by omega)), g_v, Option.bind_some, Option.bind_some, aI_of TM_5 ML_5 (show i < 20 by omega) (by decide), e5, eu, Option.bind_some]
        show (sI TM (M1, rfM) 1 ((290 : Int32) + 2 * nI (h + 1) - 1) (nI g + 1)).bind _ = _
        rw [ix2, show 290 + 2 * (h + 1) = 290 + 2 * h + 1 + 1 from rfl, nI_pred, v_wr (by omega), Option.bind_some, zn_eq, nI_1, nI_1]
  · rintro x st ⟨rfl, M1, rfl, hA, hB, hD⟩ k
    refine ⟨M1, ?_, hA, hB, hD⟩
    unfold f_X12_group_L80
    rw [gI_of TM_0, hD 0 11 (by omega), h0, Option.bind_some, if_pos (nI_le (Nat.le_refl m) (by omega))]
theorem e_join (h8 : k < 8) (h : G 47 k = 1) {x : Int32} : f_X3_join TC N (G, rfC q) 46 (nI k) x = some (zu G 48 k x, rfC q) := by
  unfold f_X3_join
  rw [zz1_of TC_46, e_has_g h8, h, zb2_some, if_neg (by decide), show f_X3_put TC N (G, rfC q) 46 (nI k) 1 x = _ from e_bput (b := 1) (by decide) h8 (Or.inr rfl), Option.bind_some, show (1 + 46 : Nat) = 47 from rfl, show (1 + 47 : Nat) = 48 from rfl, zu_id h]
/-- the class joins the units of the selection -/
theorem e_joinC (hN : 20 < N) (hS : QS n th G V) (hQ : QC th sel G V) (hH : QH th sel hs hg gt G V) (hg8 : g < 8) (hgt : gt g = false) :
    ∃ G', f_X2_joinChosen TC N (G, rfC q) 1 (nI g) = some (G', rfC q) ∧ (∀ s, s < 20 → th s = true → G' (4 + s) 7 = hC (hsX sel hs hg g s)) ∧ (∀ h, h < 8 → G' 47 h = bI (gt h || decide (h = g))) ∧ (∀ h, h < 8 → (gt h || decide (h = g)) = true → G' 48 h = hC (hgX (tpB sel hs hg 20) g hg h)) ∧ ∀ a j, ¬ (j = 7 ∧ ∃ s, s < 20 ∧ a = 4 + s) → a ≠ 47 → a ≠ 48 → G' a j = G a j := by
  unfold f_X2_joinChosen f_X3_add
  rw [zz1_of TC_1, gR_of TC_1, rf_1_2, Option.bind_some, zz1_of TC_46, show f_X3_put TC N (G, rfC q) 46 (nI g) 1 (-1000000) = _ from e_bput (b := 1) (by decide) hg8 (Or.inr rfl), Option.bind_some, Option.bind_some, show (1 + 46 : Nat) = 47 from rfl, show (1 + 47 : Nat) = 48 from rfl]
  refine zl2_inv (P := fun r => ∃ G' : Nat → Nat → Int32, r = some (G', rfC q) ∧ (∀ s, s < 20 → th s = true → G' (4 + s) 7 = hC (hsX sel hs hg g s)) ∧ (∀ h, h < 8 → G' 47 h = bI (gt h || decide (h = g))) ∧ (∀ h, h < 8 → (gt h || decide (h = g)) = true → G' 48 h = hC (hgX (tpB sel hs hg 20) g hg h)) ∧ ∀ a j, ¬ (j = 7 ∧ ∃ s, s < 20 ∧ a = 4 + s) → a ≠ 47 → a ≠ 48 → G' a j = G a j) 20
    (fun i (x : Int32) st => x = nI i ∧ ∃ G' : Nat → Nat → Int32, st = (G', rfC q) ∧ (∀ s, s < 20 → G' (4 + s) 7 = if s < i ∧ sel s = true ∧ unO hs hg s = none then nI g else G (4 + s) 7) ∧ (∀ h, h < 8 → G' 47 h = bI (gt h || decide (h = g))) ∧ (∀ h, h < 8 → (gt h || decide (h = g)) = true → G' 48 h = hC (hgX (tpB sel hs hg i) g hg h)) ∧ ∀ a j, ¬ (j = 7 ∧ ∃ s, s < 20 ∧ a = 4 + s) → a ≠ 47 → a ≠ 48 → G' a j = G a j) ?_ ?_ 20 0 N (0 : Int32) _ rfl hN ⟨nI_0.symm, _, rfl, fun s _ => ?_, fun h h8 => ?_, fun h h8 hq => ?_, fun a j _ h2 h3 => ?_⟩
  · rintro i hi x st ⟨rfl, G1, rfl, hA, hB, hD, hE⟩
    have hS1 : QS n th G1 V := QS_fr hS (fun s _ j _ => hE _ _ (by omega) (by omega) (by omega)) (hE _ _ (by omega) (by omega) (by omega)) rfl (fun s _ j _ => rfl)
    have hC1 : QC th sel G1 V := QC_fr hQ (hE _ _ (by omega) (by omega) (by omega)) (fun s _ => rfl)
    have tp1 : ∀ h, tpB sel hs hg (i + 1) h = (tpB sel hs hg i h || (sel i && decide (unO hs hg i = some h))) := fun h => rfl
    have hskip : (∀ h, tpB sel hs hg (i + 1) h = tpB sel hs hg i h) → (¬ (sel i = true ∧ unO hs hg i = none)) → (∀ k : Int32 → zS → Option zS, f_X2_joinChosen_L10 TC N 1 (nI g) k (nI i) (G1, rfC q) = k (nI (i + 1)) (G1, rfC q)) → ∃ b0 b1, (b0 = nI (i + 1) ∧ ∃ G' : Nat → Nat → Int32, b1 = (G', rfC q) ∧ (∀ s, s < 20 → G' (4 + s) 7 = if s < i + 1 ∧ sel s = true ∧ unO hs hg s = none then nI g else G (4 + s) 7) ∧ (∀ h, h < 8 → G' 47 h = bI (gt h || decide (h = g))) ∧ (∀ h, h < 8 → (gt h || decide (h = g)) = true → G' 48 h = hC (hgX (tpB sel hs hg (i + 1)) g hg h)) ∧ ∀ a j, ¬ (j = 7 ∧ ∃ s, s < 20 ∧ a = 4 + s) → a ≠ 47 → a ≠ 48 → G' a j = G a j) ∧ ∀ k : Int32 → zS → Option zS, f_X2_joinChosen_L10 TC N 1 (nI g) k (nI i) (G1, rfC q) = k b0 b1 := fun h1 h2 h3 => by
      have et : tpB sel hs hg (i + 1) = tpB sel hs hg i := funext h1
      refine ⟨nI (i + 1), (G1, rfC q), ⟨rfl, G1, rfl, fun s hs2 => ?_, hB, by rw [et]; exact hD, hE⟩, h3⟩
      rw [hA s hs2]
      by_cases e : s < i ∧ sel s = true ∧ unO hs hg s = none
      · rw [if_pos e, if_pos ⟨by omega, e.2⟩]
      · rw [if_neg e, if_neg]
        rintro ⟨q1, q2⟩
        by_cases e2 : s = i
        · rw [e2] at q2; exact h2 q2
        · exact e ⟨by omega, q2⟩
    refine Or.inl ?_
    by_cases ht : th i = true
    · by_cases hsl : sel i = true
      · have hK : QK (fun h => h < 8 ∧ (gt h || decide (h = g)) = true) (hgX (tpB sel hs hg i) g hg) G1 (fun j => hM (hgX (tpB sel hs hg i) g hg ((j - 291) / 2))) := by
          refine fun h ⟨h8, hq⟩ => ⟨h8, by rw [hB h h8, hq]; rfl, hD h h8 hq, ?_, fun h2 e => ?_⟩
          · show hM (hgX (tpB sel hs hg i) g hg ((290 + 2 * h + 1 - 291) / 2)) = _
            rw [show (290 + 2 * h + 1 - 291) / 2 = h by omega]
          · unfold hgX at e
            by_cases hc : h = g
            · rw [if_pos hc] at e; cases e
            · rw [if_neg hc] at e
              by_cases hT : tpB sel hs hg i h = true
              · rw [if_pos hT] at e
                cases e
                exact ⟨hg8, by simp⟩
              · rw [if_neg hT] at e
                rw [decide_eq_false hc, Bool.or_false] at hq
                obtain ⟨a, b⟩ := hH.gg h h8 hq h2 e
                exact ⟨a, by rw [b]; rfl⟩
        have hhome : G1 (4 + i) 7 = hC (hs i) := by
          rw [hA i hi, if_neg (by omega), hH.sD i hi ht]
        have hout : outG G1 8 (G1 (4 + i) 7) = hC (fX (tpB sel hs hg i) g (unO hs hg i)) := by
          rw [hhome, outG_K hK 8 (hs i) (fun k e => ⟨(hH.sg i hi ht k e).1, by rw [(hH.sg i hi ht k e).2]; rfl⟩), top_in hH hQ.ct hg8 hgt (Nat.le_of_lt hi) hi ht]
        have hstep : ∀ k : Int32 → zS → Option zS, f_X2_joinChosen_L10 TC N 1 (nI g) k (nI i) (G1, rfC q) = if ¬ hC (fX (tpB sel hs hg i) g (unO hs hg i)) = -1000000 then (if hC (fX (tpB sel hs hg i) g (unO hs hg i)) = nI g then k (nI (i + 1)) (G1, rfC q) else (f_X3_join TC N (G1, rfC q) 46 (hC (fX (tpB sel hs hg i) g (unO hs hg i))) (nI g)).bind fun s23 => k (nI (i + 1)) s23) else k (nI (i + 1)) (zu G1 (4 + i) 7 (nI g), rfC q) := fun k => by
          unfold f_X2_joinChosen_L10
          rw [if_neg (nI_n20 hi), g_shapes, Option.bind_some, e_find_k hi, QS_liv hS1 hi, if_pos ht, zb2_some, zo_some, g_shapes, Option.bind_some, gI_of TC_2, hC1.cD, Option.bind_some, e_hasBit (by omega), bt_S sel hi, hsl, if_pos rfl, zb2_some, if_pos (by decide), g_groups, Option.bind_some, gI_of (TC_sh hi), Option.bind_some, e_outermost (by omega), zb2_some, hout]
          simp only [zn_eq, nI_1, g_groups, Option.bind_some, pI_of (TC_sh hi)]
        cases eu : unO hs hg i with
        | none =>
          rw [eu] at hstep
          refine ⟨nI (i + 1), (zu G1 (4 + i) 7 (nI g), rfC q), ⟨rfl, _, rfl, fun s hs2 => ?_, fun h h8 => ?_, fun h h8 hq => ?_, fun a j h1 h2 h3 => ?_⟩, fun k => ?_⟩
          · by_cases e : s = i
            · rw [e, zu_same, if_pos ⟨by omega, hsl, eu⟩]
            · rw [zu_ne (fun e2 => by omega), hA s hs2]
              by_cases e2 : s < i ∧ sel s = true ∧ unO hs hg s = none
              · rw [if_pos e2, if_pos ⟨by omega, e2.2⟩]
              · rw [if_neg e2, if_neg (fun q => e2 ⟨by omega, q.2⟩)]
          · rw [zu_ne (fun e => by omega)]; exact hB h h8
          · have et : tpB sel hs hg (i + 1) = tpB sel hs hg i := funext (fun h => by rw [tp1, eu, decide_eq_false (fun q => by cases q), Bool.and_false, Bool.or_false])
            rw [zu_ne (fun e => by omega), et]; exact hD h h8 hq
          · rw [zu_ne (fun e1 e2 => h1 ⟨e2, i, hi, e1⟩)]; exact hE a j h1 h2 h3
          · rw [hstep k, if_neg (show ¬ ¬ hC (fX (tpB sel hs hg i) g none) = -1000000 from fun n => n rfl)]
        | some h0 =>
          obtain ⟨h8, hgt0, hn0⟩ := unO_8 hH hi ht eu
          have hne0 : h0 ≠ g := fun e => by rw [e, hgt] at hgt0; cases hgt0
          have hnn : ¬ (sel i = true ∧ unO hs hg i = none) := fun q => by rw [eu] at q; cases q.2
          rw [eu] at hstep
          by_cases hT : tpB sel hs hg i h0 = true
          · have ef : fX (tpB sel hs hg i) g (some h0) = some g := by
              show (if tpB sel hs hg i h0 = true then some g else some h0) = _
              rw [if_pos hT]
            refine hskip (fun h => ?_) hnn (fun k => ?_)
            · rw [tp1, hsl, eu, Bool.true_and]
              by_cases e : h0 = h
              · rw [← e, hT]; rfl
              · rw [decide_eq_false (fun q => e (Option.some.inj q)), Bool.or_false]
            · rw [hstep k, ef, if_pos (show ¬ hC (some g) = -1000000 from nI_nNN (by omega)), if_pos (show hC (some g) = nI g from rfl)]
          · have ef : fX (tpB sel hs hg i) g (some h0) = some h0 := by
              show (if tpB sel hs hg i h0 = true then some g else some h0) = _
              rw [if_neg hT]
            refine ⟨nI (i + 1), (zu G1 48 h0 (nI g), rfC q), ⟨rfl, _, rfl, fun s hs2 => ?_, fun h h8 => ?_, fun h h8 hq => ?_, fun a j h1 h2 h3 => ?_⟩, fun k => ?_⟩
            · rw [zu_ne (fun e => by omega), hA s hs2]
              by_cases e2 : s < i ∧ sel s = true ∧ unO hs hg s = none
              · rw [if_pos e2, if_pos ⟨by omega, e2.2⟩]
              · rw [if_neg e2, if_neg]
                rintro ⟨q1, q2⟩
                by_cases e3 : s = i
                · rw [e3] at q2; exact hnn q2
                · exact e2 ⟨by omega, q2⟩
            · rw [zu_ne (fun e => by omega)]; exact hB h h8
            · unfold hgX
              rw [tp1, hsl, eu, Bool.true_and]
              by_cases e : h0 = h
              · rw [← e, zu_same, if_neg hne0, decide_eq_true rfl, Bool.or_true, if_pos rfl]
                rfl
              · rw [zu_ne (fun _ q => e q.symm), hD h h8 hq, decide_eq_false (fun q => e (Option.some.inj q)), Bool.or_false]
                rfl
            · rw [zu_ne (fun e => absurd e h3)]; exact hE a j h1 h2 h3
            · rw [hstep k, ef, if_pos (show ¬ hC (some h0) = -1000000 from nI_nNN (by omega)), if_neg (show ¬ hC (some h0) = nI g from fun e => hne0 ((nI_eq (by omega) (by omega)).mp e))]
              show (f_X3_join TC N (G1, rfC q) 46 (nI h0) (nI g)).bind _ = _
              rw [e_join h8 (by rw [hB h0 h8, hgt0]; rfl), Option.bind_some]
      · have hsl2 : sel i = false := by simpa using hsl
        refine hskip (fun h => by rw [tp1, hsl2, Bool.false_and, Bool.or_false]) (fun q => hsl q.1) (fun k => ?_)
        unfold f_X2_joinChosen_L10
        rw [if_neg (nI_n20 hi), g_shapes, Option.bind_some, e_find_k hi, QS_liv hS1 hi, if_pos ht, zb2_some, zo_some, g_shapes, Option.bind_some, gI_of TC_2, hC1.cD, Option.bind_some, e_hasBit (by omega), bt_S sel hi, hsl2, if_neg (show ¬ false = true by decide), zb2_some, if_neg (by decide), zn_eq, nI_1]
    · have hsl2 : sel i = false := by
        cases e : sel i
        · rfl
        · exact absurd (hQ.ct i hi e) ht
      refine hskip (fun h => by rw [tp1, hsl2, Bool.false_and, Bool.or_false]) (fun q => by rw [hsl2] at q; cases q.1) (fun k => ?_)
      unfold f_X2_joinChosen_L10
      rw [if_neg (nI_n20 hi), g_shapes, Option.bind_some, e_find_k hi, QS_liv hS1 hi, if_neg ht, zb2_some, zo_none, zn_eq, nI_1]
  · rintro x st ⟨rfl, G1, rfl, hA, hB, hD, hE⟩ k
    refine ⟨G1, ?_, fun s h ht => ?_, hB, hD, hE⟩
    · unfold f_X2_joinChosen_L10
      rw [if_pos (nI_20 (Nat.le_refl 20) (by decide))]
    · rw [hA s h]
      unfold hsX
      by_cases e : sel s = true ∧ unO hs hg s = none
      · rw [if_pos ⟨h, e⟩, if_pos e]
        rfl
      · rw [if_neg (fun q => e q.2), if_neg e]
        exact hH.sD s h ht
  · rw [zu_ne (fun e => by omega), zu_ne (fun e => by omega), if_neg (by omega)]
  · rw [zu_cell (by decide)]
    by_cases e : h = g
    · rw [e, zu_same, decide_eq_true rfl, Bool.or_true]
      rfl
    · rw [zu_ne (fun _ => e), decide_eq_false e, Bool.or_false]
      exact hH.tD h h8
  · unfold hgX
    by_cases e : h = g
    · rw [e, zu_same, if_pos rfl]
      rfl
    · rw [decide_eq_false e, Bool.or_false] at hq
      rw [zu_ne (fun _ => e), zu_cell (by decide), if_neg e]
      show G 48 h = hC (if false = true then some g else hg h)
      rw [if_neg (by decide)]
      exact hH.gD h h8 hq
  · rw [zu_ne (fun e => absurd e h3), zu_ne (fun e => absurd e h2)]
end GRQ
