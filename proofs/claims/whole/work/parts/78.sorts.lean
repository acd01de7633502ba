/-! distribute: both sides sort the units -/
def pmO (o : Nat → Nat) (m : Nat) : Prop := (∀ t, t < m → o t < m) ∧ (∀ i j, i < m → j < m → o i = o j → i = j) ∧ ∀ v, v < m → ∃ t, t < m ∧ o t = v
def swO (o : Nat → Nat) (j : Nat) (t : Nat) : Nat := if t = j + 1 then o j else if t = j then o (j + 1) else o t
theorem swO_a {o : Nat → Nat} {j : Nat} : swO o j (j + 1) = o j := if_pos rfl
theorem swO_b {o : Nat → Nat} {j : Nat} : swO o j j = o (j + 1) := by unfold swO; rw [if_neg (by omega), if_pos rfl]
theorem swO_c {o : Nat → Nat} {j t : Nat} (h : t ≠ j + 1) (h2 : t ≠ j) : swO o j t = o t := by unfold swO; rw [if_neg h, if_neg h2]
theorem swO_is {o : Nat → Nat} {j : Nat} (t : Nat) : ∃ r, swO o j t = o r ∧ ((t = j + 1 ∧ r = j) ∨ (t = j ∧ r = j + 1) ∨ (t ≠ j + 1 ∧ t ≠ j ∧ r = t)) := by
  by_cases h : t = j + 1
  · exact ⟨j, by rw [h, swO_a], Or.inl ⟨h, rfl⟩⟩
  · by_cases h2 : t = j
    · exact ⟨j + 1, by rw [h2, swO_b], Or.inr (Or.inl ⟨h2, rfl⟩)⟩
    · exact ⟨t, swO_c h h2, Or.inr (Or.inr ⟨h, h2, rfl⟩)⟩
theorem pm_sw {o : Nat → Nat} {m j : Nat} (h : pmO o m) (hj : j + 1 < m) : pmO (swO o j) m := by
  obtain ⟨h1, h2, h3⟩ := h
  refine ⟨fun t ht => ?_, fun a b ha hb e => ?_, fun v hv => ?_⟩
  · obtain ⟨r, e, hr⟩ := swO_is (o := o) (j := j) t
    rw [e]
    exact h1 r (by omega)
  · obtain ⟨r, e1, hr⟩ := swO_is (o := o) (j := j) a
    obtain ⟨r2, e2, hr2⟩ := swO_is (o := o) (j := j) b
    have := h2 r r2 (by omega) (by omega) (by rw [← e1, ← e2]; exact e)
    omega
  · obtain ⟨t, t1, t2⟩ := h3 v hv
    by_cases e : t = j + 1
    · exact ⟨j, by omega, by rw [swO_b, ← e]; exact t2⟩
    · by_cases e2 : t = j
      · exact ⟨j + 1, by omega, by rw [swO_a, ← e2]; exact t2⟩
      · exact ⟨t, t1, by rw [swO_c e e2]; exact t2⟩
section SRT
variable {G M G1 M1 : Nat → Nat → Int32} {q : Nat → Option Nat} {N : Nat} {n c ln : Nat} {th sel gt P : Nat → Bool} {p uo o : Nat → Nat} {hs hg : Nat → Option Nat} {ρ : Nat → Nat → Option Nat} {V w wy : Nat → Int32} {s t a b y k d u α m i l : Nat} {x z : Int32}
theorem e_lowU (hN : 20 < N) (hα : α < 2) (hS : QS n th G V) {D : Nat → Nat → Int32} (hD : ∀ a j, a < 360 → D a j = G a j) (hP : okP th P) : f_X7_low TC N (D, rfC q) 2 (mkS P 20) (nI α) = some (lwU G α P, (D, rfC q)) := by
  have hS1 : QS n th D V := QS_fr hS (fun s _ j _ => hD _ _ (by omega)) (hD _ _ (by omega)) rfl (fun _ _ _ _ => rfl)
  rw [e_low hN hα, box_lo hS1 hα hP.1 hP.2, ← lwU_fr hα (fun s _ j _ _ => hD _ _ (by omega))]
  rfl
theorem e_highU (hN : 20 < N) (hα : α < 2) (hS : QS n th G V) {D : Nat → Nat → Int32} (hD : ∀ a j, a < 360 → D a j = G a j) (hP : okP th P) : f_X7_high TC N (D, rfC q) 2 (mkS P 20) (nI α) = some (hgU G α P, (D, rfC q)) := by
  have hS1 : QS n th D V := QS_fr hS (fun s _ j _ => hD _ _ (by omega)) (hD _ _ (by omega)) rfl (fun _ _ _ _ => rfl)
  rw [e_high hN hα, box_hi hS1 hα hP.1 hP.2, ← hgU_fr hα (fun s _ j _ _ => hD _ _ (by omega))]
  rfl
/-- one unit comes to its place -/
theorem ins_both (hN : 20 < N) (hα : α < 2) (hA : QA n th sel c p hs hg gt ln G V) (hB : GB th sel uo m G M G1 M1) (hi : i < m) : ∀ (j : Nat), j ≤ i → ∀ (n1 n2 : Nat), j < n1 → j < n2 → ∀ (o : Nat → Nat) (C D : Nat → Nat → Int32),
    (∀ t, t < m → t ≠ j → C 371 t = mkS (uB sel uo (o t)) 20) → (∀ a b, a ≠ 371 → C a b = G1 a b) → (∀ t, t ≤ i → t ≠ j → D 12 t = nI (o t)) → (∀ a b, a ≠ 12 → D a b = M1 a b) → o j = i → pmO o m →
    ∃ (o' : Nat → Nat) (C' D' : Nat → Nat → Int32), (∀ t, t < m → C' 371 t = mkS (uB sel uo (o' t)) 20) ∧ (∀ a b, a ≠ 371 → C' a b = G1 a b) ∧ (∀ t, t ≤ i → D' 12 t = nI (o' t)) ∧ (∀ a b, a ≠ 12 → D' a b = M1 a b) ∧ pmO o' m ∧ (∀ t, i < t → o' t = o t) ∧
      (∀ kc, zl2 (f_X10_sortAlong_L39 TC N 370 2 (nI α) (nI i) kc (mkS (uB sel uo i) 20) (lwU G α (uB sel uo i))) n1 (nI j) (C, rfC q) = kc (nI (i + 1)) (C', rfC q)) ∧
      ∀ kr, zl2 (f_X12_sorts_L12 TM N 0 (nI α) (nI i) kr) n2 (nI j) (D, rfM) = kr (nI (i + 1)) (D', rfM) := by
  obtain ⟨b1, b2, b3, b4, b5, b6, b7, b8, b9, b10⟩ := hB
  obtain ⟨hS, hC, -⟩ := hA
  have fC : ∀ C : Nat → Nat → Int32, (∀ a b, a ≠ 371 → C a b = G1 a b) → ∀ a j, a < 360 → C a j = G a j := fun C h a j ha => (h _ _ (by omega)).trans (b9 _ _ (by omega) (by omega))
  -- the unit is put at j
  have hput : ∀ (j : Nat), j ≤ i → ∀ (o : Nat → Nat) (C D : Nat → Nat → Int32),
    (∀ t, t < m → t ≠ j → C 371 t = mkS (uB sel uo (o t)) 20) → (∀ a b, a ≠ 371 → C a b = G1 a b) → (∀ t, t ≤ i → t ≠ j → D 12 t = nI (o t)) → (∀ a b, a ≠ 12 → D a b = M1 a b) → o j = i →
    (∀ t, t < m → zu C 371 j (mkS (uB sel uo i) 20) 371 t = mkS (uB sel uo (o t)) 20) ∧ (∀ a b, a ≠ 371 → zu C 371 j (mkS (uB sel uo i) 20) a b = G1 a b) ∧ (∀ t, t ≤ i → zu D 12 j (nI i) 12 t = nI (o t)) ∧ (∀ a b, a ≠ 12 → zu D 12 j (nI i) a b = M1 a b) := by
    intro j hj o C D h1 h2 h3 h4 h5
    refine ⟨fun t ht => ?_, fun a b h => by rw [zu_cell h]; exact h2 a b h, fun t ht => ?_, fun a b h => by rw [zu_cell h]; exact h4 a b h⟩
    · by_cases e : t = j
      · rw [e, zu_same, h5]
      · rw [zu_ne (fun _ => e)]
        exact h1 t ht e
    · by_cases e : t = j
      · rw [e, zu_same, h5]
      · rw [zu_ne (fun _ => e)]
        exact h3 t ht e
  intro j
  induction j with
  | zero =>
    intro hj n1 n2 hn1 hn2 o C D h1 h2 h3 h4 h5 h6
    obtain ⟨n1, rfl⟩ : ∃ r, n1 = r + 1 := ⟨n1 - 1, by omega⟩
    obtain ⟨n2, rfl⟩ : ∃ r, n2 = r + 1 := ⟨n2 - 1, by omega⟩
    obtain ⟨g1, g2, g3, g4⟩ := hput 0 hj o C D h1 h2 h3 h4 h5
    refine ⟨o, _, _, g1, g2, g3, g4, h6, fun t _ => rfl, fun kc => ?_, fun kr => ?_⟩
    · rw [zl2]
      unfold f_X10_sortAlong_L39
      rw [if_pos (show nI 0 ≤ 0 by decide), gR_of TC_370, rf_370_0, Option.bind_some, sI_of TC_371 TL_371 (show 0 < 20 by decide) (by decide), Option.bind_some, zn_eq, nI_1]
    · rw [zl2]
      unfold f_X12_sorts_L12
      rw [if_pos (show nI 0 ≤ 0 by decide), gm16, Option.bind_some, sI_of TM_12 ML_12 (show 0 < 20 by decide) (by decide), Option.bind_some, zn_eq, nI_1]
  | succ j ih =>
    intro hj n1 n2 hn1 hn2 o C D h1 h2 h3 h4 h5 h6
    obtain ⟨n1, rfl⟩ : ∃ r, n1 = r + 1 := ⟨n1 - 1, by omega⟩
    obtain ⟨n2, rfl⟩ : ∃ r, n2 = r + 1 := ⟨n2 - 1, by omega⟩
    have hoj := h6.1 j (by omega)
    have ej : nI (j + 1) - (1 : Int32) = nI j := by rw [← nI_1, Int32.add_sub_cancel]
    have ej2 : nI (j + 1) + (-1 : Int32) = nI j := by rw [i_m1, ej]
    have hc1 : ∀ kc (K : Int32 → zS → Option zS), f_X10_sortAlong_L39 TC N 370 2 (nI α) (nI i) kc (mkS (uB sel uo i) 20) (lwU G α (uB sel uo i)) K (nI (j + 1)) (C, rfC q) = if lwU G α (uB sel uo (o j)) ≤ lwU G α (uB sel uo i) then kc (nI (i + 1)) (zu C 371 (j + 1) (mkS (uB sel uo i) 20), rfC q) else K (nI j) (zu C 371 (j + 1) (mkS (uB sel uo (o j)) 20), rfC q) := fun kc K => by
      unfold f_X10_sortAlong_L39
      rw [if_neg (nI_nle (by omega) (by omega)), gR_of TC_370, rf_370_0, Option.bind_some, ej, aI_of TC_371 TL_371 (show j < 20 by omega) (by decide), Option.bind_some, h1 j (by omega) (by omega), e_lowU hN hα hS (fC C h2) (b8 _ hoj), zb2_some]
      by_cases hle : lwU G α (uB sel uo (o j)) ≤ lwU G α (uB sel uo i)
      · rw [if_pos hle, if_pos hle, gR_of TC_370, rf_370_0, Option.bind_some, sI_of TC_371 TL_371 (show j + 1 < 20 by omega) (by decide), Option.bind_some, zn_eq, nI_1]
      · rw [if_neg hle, if_neg hle, gR_of TC_370, rf_370_0, Option.bind_some, Option.bind_some, aI_of TC_371 TL_371 (show j < 20 by omega) (by decide), Option.bind_some, h1 j (by omega) (by omega), sI_of TC_371 TL_371 (show j + 1 < 20 by omega) (by decide), Option.bind_some, zn_eq, ej2]
    have hr1 : ∀ kr (K : Int32 → zS → Option zS), f_X12_sorts_L12 TM N 0 (nI α) (nI i) kr K (nI (j + 1)) (D, rfM) = if lwU G α (uB sel uo (o j)) ≤ lwU G α (uB sel uo i) then kr (nI (i + 1)) (zu D 12 (j + 1) (nI i), rfM) else K (nI j) (zu D 12 (j + 1) (nI (o j)), rfM) := fun kr K => by
      unfold f_X12_sorts_L12
      rw [if_neg (nI_nle (by omega) (by omega)), gm8, Option.bind_some, gm16, Option.bind_some, ej, aI_of TM_12 ML_12 (show j < 20 by omega) (by decide), Option.bind_some, h3 j (by omega) (by omega), ixB, aI_of TM_7 ML_7 (show 2 * o j + α < 42 by omega) (by decide), Option.bind_some, Option.bind_some, ixB, aI_of TM_7 ML_7 (show 2 * i + α < 42 by omega) (by decide), Option.bind_some, h4 _ _ (by decide), h4 _ _ (by decide), (b6 _ hoj α hα).1, (b6 _ hi α hα).1]
      by_cases hle : lwU G α (uB sel uo (o j)) ≤ lwU G α (uB sel uo i)
      · rw [if_pos hle, if_pos hle, Option.bind_some, sI_of TM_12 ML_12 (show j + 1 < 20 by omega) (by decide), Option.bind_some, zn_eq, nI_1]
      · rw [if_neg hle, if_neg hle, Option.bind_some, Option.bind_some, aI_of TM_12 ML_12 (show j < 20 by omega) (by decide), Option.bind_some, h3 j (by omega) (by omega), sI_of TM_12 ML_12 (show j + 1 < 20 by omega) (by decide), Option.bind_some, zn_eq, ej2]
    by_cases hle : lwU G α (uB sel uo (o j)) ≤ lwU G α (uB sel uo i)
    · obtain ⟨g1, g2, g3, g4⟩ := hput (j + 1) hj o C D h1 h2 h3 h4 h5
      refine ⟨o, _, _, g1, g2, g3, g4, h6, fun t _ => rfl, fun kc => ?_, fun kr => ?_⟩
      · rw [zl2]
        exact (hc1 kc _).trans (if_pos hle)
      · rw [zl2]
        exact (hr1 kr _).trans (if_pos hle)
    · obtain ⟨o', C', D', k1, k2, k3, k4, k5, k6, k7, k8⟩ := ih (by omega) n1 n2 (by omega) (by omega) (swO o j) (zu C 371 (j + 1) (mkS (uB sel uo (o j)) 20)) (zu D 12 (j + 1) (nI (o j)))
        (fun t ht htj => by
          by_cases e : t = j + 1
          · rw [e, zu_same, swO_a]
          · rw [zu_ne (fun _ => e), swO_c e htj]
            exact h1 t ht e)
        (fun a b h => by rw [zu_cell h]; exact h2 a b h)
        (fun t ht htj => by
          by_cases e : t = j + 1
          · rw [e, zu_same, swO_a]
          · rw [zu_ne (fun _ => e), swO_c e htj]
            exact h3 t ht e)
        (fun a b h => by rw [zu_cell h]; exact h4 a b h) (by rw [swO_b]; exact h5) (pm_sw h6 (by omega))
      refine ⟨o', C', D', k1, k2, k3, k4, k5, fun t ht => (k6 t ht).trans (swO_c (by omega) (by omega)), fun kc => ?_, fun kr => ?_⟩
      · rw [zl2]
        exact ((hc1 kc _).trans (if_neg hle)).trans (k7 kc)
      · rw [zl2]
        exact ((hr1 kr _).trans (if_neg hle)).trans (k8 kr)
end SRT
