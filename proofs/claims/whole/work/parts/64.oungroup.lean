/-! ungroup -/
section OUG
variable {G M : Nat → Nat → Int32} {q : Nat → Option Nat} {N : Nat} {n c ln : Nat} {th sel gt : Nat → Bool} {p : Nat → Nat} {hs hg : Nat → Option Nat} {D : Nat → Nat → Int32} {V : Nat → Int32} {s u g a : Nat}
theorem hC_g {x : Option Nat} (hx : ∀ k, x = some k → k < 8) (h8 : g < 8) : hC x = nI g ↔ x = some g := by
  cases x with
  | none => exact ⟨fun e => absurd e.symm (nI_nNN (by omega)), fun e => by cases e⟩
  | some k =>
    have := hx k rfl
    exact ⟨fun e => by rw [(nI_eq (by omega) (by omega)).mp e], fun e => by cases e; rfl⟩
theorem hJ_g {x : Option Nat} (hx : ∀ k, x = some k → k < 8) (h8 : g < 8) : hM x - 1 = nI g ↔ x = some g := by
  rw [hM_1]
  cases x with
  | none =>
    refine ⟨fun e => ?_, fun e => by cases e⟩
    have h1 : (0 : Int32) ≤ nI g := nI_pos' (by omega)
    rw [← e] at h1
    exact absurd h1 (by decide)
  | some k =>
    have := hx k rfl
    exact ⟨fun e => by rw [(nI_eq (by omega) (by omega)).mp e], fun e => by cases e; rfl⟩
theorem hM_back {x : Option Nat} : hM x - 1 + 1 = hM x := by
  rw [hM_1]
  cases x with
  | none => decide
  | some k => exact nI_1 k
theorem hmG_k {k : Nat} (h8 : k < 8) : hmG G (nI k) = if G 47 k = 0 then -1000000 else G 48 k := by
  unfold hmG
  rw [nI_clamp (by omega)]
  by_cases h : G 47 k = 0
  · rw [if_pos h, if_pos (Or.inr (Or.inr h))]
  · rw [if_neg h, if_neg]
    rintro (h1 | h1 | h1)
    · exact nI_pos (by omega) h1
    · exact nI_n8 h8 h1
    · exact h h1
theorem e_eg2 (hN : 20 < N) (h8 : g < 8) (hgg : hg g ≠ some g) (hx : ∀ k, k < 8 → gt k = true → ∀ k2, hg k = some k2 → k2 < 8) (t47 : ∀ k, k < 8 → G 47 k = bI (gt k)) (t48 : ∀ k, k < 8 → gt k = true → G 48 k = hC (hg k)) :
    ∃ G', zl3 (f_X2_endGroup_L64 TC N 1 (nI g) (hC (hg g))) N (nI a) (0 : Int32) (G, rfC q) = some (nI (a + cnt (fun h => gt h && decide (hg h = some g)) 8), (G', rfC q)) ∧ (∀ h, h < 8 → G' 47 h = bI (gt h && !decide (h = g))) ∧ (∀ h, h < 8 → (gt h && !decide (h = g)) = true → G' 48 h = hC (upU g hg (hg h))) ∧ ∀ a j, a ≠ 47 → a ≠ 48 → G' a j = G a j := by
  refine zl3_inv (P := fun r => ∃ G' : Nat → Nat → Int32, r = some (nI (a + cnt (fun h => gt h && decide (hg h = some g)) 8), (G', rfC q)) ∧ (∀ h, h < 8 → G' 47 h = bI (gt h && !decide (h = g))) ∧ (∀ h, h < 8 → (gt h && !decide (h = g)) = true → G' 48 h = hC (upU g hg (hg h))) ∧ ∀ a j, a ≠ 47 → a ≠ 48 → G' a j = G a j) 8
    (fun i (x : Int32) (z : Int32) st => x = nI (a + cnt (fun h => gt h && decide (hg h = some g)) i) ∧ z = nI i ∧ ∃ G' : Nat → Nat → Int32, st = (G', rfC q) ∧ (∀ h, h < 8 → G' 47 h = bI (gt h)) ∧ (∀ h, h < 8 → gt h = true → G' 48 h = if h < i then hC (upU g hg (hg h)) else hC (hg h)) ∧ ∀ a j, a ≠ 47 → a ≠ 48 → G' a j = G a j) ?_ ?_ 8 0 N (nI a) (0 : Int32) (G, rfC q) rfl (by omega) ⟨rfl, nI_0.symm, G, rfl, t47, fun h h8 hq => by rw [if_neg (by omega)]; exact t48 h h8 hq, fun a j _ _ => rfl⟩
  · rintro i hi x z st ⟨rfl, rfl, G1, rfl, hA, hB, hD⟩
    have hh : hmG G1 (nI i) = if gt i = true then hC (hg i) else -1000000 := by
      rw [hmG_k hi, hA i hi]
      by_cases e : gt i = true
      · rw [e, if_neg (by decide), if_pos rfl, hB i hi e, if_neg (by omega)]
      · have e2 : gt i = false := by simpa using e
        rw [e2, if_pos (by decide), if_neg (by decide)]
    have hstep : ∀ k : Int32 → Int32 → zS → Option (Int32 × zS), f_X2_endGroup_L64 TC N 1 (nI g) (hC (hg g)) k (nI (a + cnt (fun h => gt h && decide (hg h = some g)) i)) (nI i) (G1, rfC q) = if ¬ (if gt i = true then hC (hg i) else -1000000) = nI g then k (nI (a + cnt (fun h => gt h && decide (hg h = some g)) i)) (nI (i + 1)) (G1, rfC q) else (f_X3_join TC N (G1, rfC q) 46 (nI i) (hC (hg g))).bind fun s20 => k (nI (a + cnt (fun h => gt h && decide (hg h = some g)) i + 1)) (nI (i + 1)) s20 := fun k => by
      unfold f_X2_endGroup_L64
      rw [if_neg (nI_n8 hi), gR_of TC_1, rf_1_2, Option.bind_some, e_homeOf, zb2_some, hh]
      simp only [zn_eq, nI_1, g_groups, Option.bind_some]
    refine Or.inl ?_
    by_cases hc : gt i = true ∧ hg i = some g
    · refine ⟨nI (a + cnt (fun h => gt h && decide (hg h = some g)) i + 1), nI (i + 1), (zu G1 48 i (hC (hg g)), rfC q), ⟨?_, rfl, _, rfl, fun h h8 => ?_, fun h h8 hq => ?_, fun a j h1 h2 => ?_⟩, fun k => ?_⟩
      · rw [cnt_t (by rw [hc.1, decide_eq_true hc.2]; rfl)]
        rfl
      · rw [zu_cell (by decide)]; exact hA h h8
      · by_cases e : h = i
        · rw [e, zu_same, if_pos (by omega)]
          unfold upU
          rw [if_pos hc.2]
        · rw [zu_ne (fun _ => e), hB h h8 hq]
          by_cases e2 : h < i
          · rw [if_pos e2, if_pos (by omega)]
          · rw [if_neg e2, if_neg (by omega)]
      · rw [zu_cell h2]; exact hD a j h1 h2
      · rw [hstep k, if_pos hc.1, if_neg (fun n => n ((hC_g (hx i hi hc.1) h8).mpr hc.2)), e_join hi (by rw [hA i hi, hc.1]; rfl), Option.bind_some]
    · refine ⟨nI (a + cnt (fun h => gt h && decide (hg h = some g)) i), nI (i + 1), (G1, rfC q), ⟨?_, rfl, G1, rfl, hA, fun h h8 hq => ?_, hD⟩, fun k => ?_⟩
      · rw [cnt_f]
        intro q
        rw [Bool.and_eq_true, decide_eq_true_iff] at q
        exact hc q
      · rw [hB h h8 hq]
        by_cases e : h = i
        · have hne : hg h ≠ some g := fun q => hc ⟨by rw [← e]; exact hq, by rw [← e]; exact q⟩
          rw [if_neg (by omega), if_pos (by omega)]
          unfold upU
          rw [if_neg hne]
        · by_cases e2 : h < i
          · rw [if_pos e2, if_pos (by omega)]
          · rw [if_neg e2, if_neg (by omega)]
      · rw [hstep k, if_pos]
        by_cases e : gt i = true
        · rw [if_pos e]
          exact fun q => hc ⟨e, (hC_g (hx i hi e) h8).mp q⟩
        · rw [if_neg e]
          exact fun q => nI_nNN (by omega) q.symm
  · rintro x z st ⟨rfl, rfl, G1, rfl, hA, hB, hD⟩ k
    refine ⟨zu (zu G1 47 g 0) 48 g (-1000000), ?_, fun h h8 => ?_, fun h h8 hq => ?_, fun a j h1 h2 => ?_⟩
    · unfold f_X2_endGroup_L64 f_X3_drop
      rw [if_pos (nI_8 (Nat.le_refl 8) (by decide)), gR_of TC_1, rf_1_2, Option.bind_some, zz1_of TC_46, show f_X3_put TC N (G1, rfC q) 46 (nI g) 0 (-1000000) = _ from e_bput (b := 1) (by decide) h8 (Or.inl rfl)]
      rfl
    · rw [zu_cell (by decide)]
      by_cases e : h = g
      · rw [e, zu_same, decide_eq_true rfl, Bool.not_true, Bool.and_false]
        rfl
      · rw [zu_ne (fun _ => e), decide_eq_false e, Bool.not_false, Bool.and_true]
        exact hA h h8
    · rw [Bool.and_eq_true, Bool.not_eq_true', decide_eq_false_iff_not] at hq
      rw [zu_ne (fun _ => hq.2), zu_cell (by decide), hB h h8 hq.1, if_pos h8]
    · rw [zu_cell h2, zu_cell h1]; exact hD a j h1 h2
theorem e_endGroup (hN : 20 < N) (hS : QS n th G V) (hH : QH th sel hs hg gt G V) (h8 : g < 8) (hgt : gt g = true) :
    ∃ G', f_X2_endGroup TC N (G, rfC q) 1 (nI g) = some (nI (cnt (fun s => th s && decide (hs s = some g)) 20 + cnt (fun h => gt h && decide (hg h = some g)) 8), (G', rfC q)) ∧ (∀ s, s < 20 → th s = true → G' (4 + s) 7 = hC (upU g hg (hs s))) ∧ (∀ h, h < 8 → G' 47 h = bI (gt h && !decide (h = g))) ∧ (∀ h, h < 8 → (gt h && !decide (h = g)) = true → G' 48 h = hC (upU g hg (hg h))) ∧ ∀ a j, ¬ (j = 7 ∧ ∃ s, s < 20 ∧ a = 4 + s) → a ≠ 47 → a ≠ 48 → G' a j = G a j := by
  obtain ⟨r, hr⟩ := rk8 hH.gg hH.rk
  have hgg : hg g ≠ some g := fun e => by have := (hr g ⟨h8, hgt⟩).2 g e; omega
  have hhome : hmG G (nI g) = hC (hg g) := by
    rw [hmG_k h8, hH.tD g h8, hgt, if_neg (by decide), hH.gD g h8 hgt]
  unfold f_X2_endGroup
  rw [zz1_of TC_1, gR_of TC_1, rf_1_2, Option.bind_some, e_homeOf, zb2_some, hhome]
  refine zl3_inv (P := fun r => ∃ G' : Nat → Nat → Int32, r = some (nI (cnt (fun s => th s && decide (hs s = some g)) 20 + cnt (fun h => gt h && decide (hg h = some g)) 8), (G', rfC q)) ∧ (∀ s, s < 20 → th s = true → G' (4 + s) 7 = hC (upU g hg (hs s))) ∧ (∀ h, h < 8 → G' 47 h = bI (gt h && !decide (h = g))) ∧ (∀ h, h < 8 → (gt h && !decide (h = g)) = true → G' 48 h = hC (upU g hg (hg h))) ∧ ∀ a j, ¬ (j = 7 ∧ ∃ s, s < 20 ∧ a = 4 + s) → a ≠ 47 → a ≠ 48 → G' a j = G a j) 20
    (fun i (x : Int32) (z : Int32) st => x = nI (cnt (fun s => th s && decide (hs s = some g)) i) ∧ z = nI i ∧ ∃ G' : Nat → Nat → Int32, st = (G', rfC q) ∧ (∀ s, s < 20 → th s = true → G' (4 + s) 7 = if s < i then hC (upU g hg (hs s)) else hC (hs s)) ∧ ∀ a j, ¬ (j = 7 ∧ ∃ s, s < 20 ∧ a = 4 + s) → G' a j = G a j) ?_ ?_ 20 0 N (0 : Int32) (0 : Int32) (G, rfC q) rfl hN ⟨nI_0.symm, nI_0.symm, G, rfl, fun s h ht => by rw [if_neg (by omega)]; exact hH.sD s h ht, fun a j _ => rfl⟩
  · rintro i hi x z st ⟨rfl, rfl, G1, rfl, hA, hD⟩
    have hl : liv G1 i = th i := by
      unfold liv
      rw [hD _ _ (fun q => by omega)]
      exact QS_liv hS hi
    have hskip : ¬ (th i = true ∧ hs i = some g) → (∀ k : Int32 → Int32 → zS → Option (Int32 × zS), f_X2_endGroup_L14 TC N 1 (nI g) (hC (hg g)) k (nI (cnt (fun s => th s && decide (hs s = some g)) i)) (nI i) (G1, rfC q) = k (nI (cnt (fun s => th s && decide (hs s = some g)) i)) (nI (i + 1)) (G1, rfC q)) → ∃ b0 b1 b2, (b0 = nI (cnt (fun s => th s && decide (hs s = some g)) (i + 1)) ∧ b1 = nI (i + 1) ∧ ∃ G' : Nat → Nat → Int32, b2 = (G', rfC q) ∧ (∀ s, s < 20 → th s = true → G' (4 + s) 7 = if s < i + 1 then hC (upU g hg (hs s)) else hC (hs s)) ∧ ∀ a j, ¬ (j = 7 ∧ ∃ s, s < 20 ∧ a = 4 + s) → G' a j = G a j) ∧ ∀ k : Int32 → Int32 → zS → Option (Int32 × zS), f_X2_endGroup_L14 TC N 1 (nI g) (hC (hg g)) k (nI (cnt (fun s => th s && decide (hs s = some g)) i)) (nI i) (G1, rfC q) = k b0 b1 b2 := fun hc hst => by
      refine ⟨_, nI (i + 1), (G1, rfC q), ⟨?_, rfl, G1, rfl, fun s h ht => ?_, hD⟩, hst⟩
      · rw [cnt_f]
        intro q
        rw [Bool.and_eq_true, decide_eq_true_iff] at q
        exact hc q
      · rw [hA s h ht]
        by_cases e : s = i
        · have hne : hs s ≠ some g := fun q => hc ⟨by rw [← e]; exact ht, by rw [← e]; exact q⟩
          rw [if_neg (by omega), if_pos (by omega)]
          unfold upU
          rw [if_neg hne]
        · by_cases e2 : s < i
          · rw [if_pos e2, if_pos (by omega)]
          · rw [if_neg e2, if_neg (by omega)]
    refine Or.inl ?_
    by_cases ht : th i = true
    · have hv : G1 (4 + i) 7 = hC (hs i) := by rw [hA i hi ht, if_neg (by omega)]
      by_cases hc : hs i = some g
      · refine ⟨nI (cnt (fun s => th s && decide (hs s = some g)) i + 1), nI (i + 1), (zu G1 (4 + i) 7 (hC (hg g)), rfC q), ⟨?_, rfl, _, rfl, fun s h hst => ?_, fun a j h1 => ?_⟩, fun k => ?_⟩
        · rw [cnt_t (by rw [ht, decide_eq_true hc]; rfl)]
        · by_cases e : s = i
          · rw [e, zu_same, if_pos (by omega)]
            unfold upU
            rw [if_pos hc]
          · rw [zu_ne (fun e2 => by omega), hA s h hst]
            by_cases e2 : s < i
            · rw [if_pos e2, if_pos (by omega)]
            · rw [if_neg e2, if_neg (by omega)]
        · rw [zu_ne (fun e1 e2 => h1 ⟨e2, i, hi, e1⟩)]; exact hD a j h1
        · unfold f_X2_endGroup_L14
          rw [if_neg (nI_n20 hi), g_shapes, Option.bind_some, e_find_k hi, hl, if_pos ht, zb2_some, zo_some, gI_of (TC_sh hi), hv, Option.bind_some, if_neg (fun n => n ((hC_g (fun k e => (hH.sg i hi ht k e).1) h8).mpr hc)), pI_of (TC_sh hi), Option.bind_some, zn_eq, zn_eq, nI_1, nI_1]
      · refine hskip (fun q => hc q.2) (fun k => ?_)
        unfold f_X2_endGroup_L14
        rw [if_neg (nI_n20 hi), g_shapes, Option.bind_some, e_find_k hi, hl, if_pos ht, zb2_some, zo_some, gI_of (TC_sh hi), hv, Option.bind_some, if_pos (fun q => hc ((hC_g (fun k e => (hH.sg i hi ht k e).1) h8).mp q)), zn_eq, nI_1]
    · refine hskip (fun q => ht q.1) (fun k => ?_)
      unfold f_X2_endGroup_L14
      rw [if_neg (nI_n20 hi), g_shapes, Option.bind_some, e_find_k hi, hl, if_neg ht, zb2_some, zo_none, zn_eq, nI_1]
  · rintro x z st ⟨rfl, rfl, G1, rfl, hA, hD⟩ k
    obtain ⟨G2, e2, c1, c2, c3⟩ := e_eg2 (G := G1) (q := q) (N := N) (a := cnt (fun s => th s && decide (hs s = some g)) 20) (gt := gt) hN h8 hgg (fun k hk hq k2 e => (hH.gg k hk hq k2 e).1) (fun k hk => (hD _ _ (fun q => by omega)).trans (hH.tD k hk)) (fun k hk hq => (hD _ _ (fun q => by omega)).trans (hH.gD k hk hq))
    refine ⟨G2, ?_, fun s h ht => ?_, c1, c2, fun a j h1 h2 h3 => (c3 a j h2 h3).trans (hD a j h1)⟩
    · unfold f_X2_endGroup_L14
      rw [if_pos (nI_20 (Nat.le_refl 20) (by decide))]
      exact e2
    · rw [c3 _ _ (by omega) (by omega), hA s h ht, if_pos h]
end OUG
