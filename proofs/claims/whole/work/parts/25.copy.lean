/-! copying a diagram to another -/
section CPY
variable {G : Nat → Nat → Int32} {q : Nat → Option Nat} {N : Nat} {ρ : Nat → Nat → Option Nat} {b b1 b2 : Nat}
theorem kB {o : Nat} (hb : b ∈ bases) (ho : o < 51) : TC.1 (b + o) = kD o := TC_b hb ho
theorem kB0 (hb : b ∈ bases) : TC.1 b = 2 := by
  have h := TC_b (o := 0) hb (by decide)
  rw [Nat.add_zero] at h
  exact h.trans (by decide)
theorem kB1 (hb : b ∈ bases) : TC.1 (b + 1) = 7 := TC_b (o := 1) hb (by decide)
theorem kB2 (hb : b ∈ bases) : TC.1 (b + 2) = 17 := TC_b (o := 2) hb (by decide)
theorem lB2 (hb : b ∈ bases) : TC.2.1 (b + 2) = 20 := TC_lb (o := 2) hb (by decide)
theorem kB23 (hb : b ∈ bases) : TC.1 (b + 23) = 1 := TC_b (o := 23) hb (by decide)
theorem kB24 (hb : b ∈ bases) : TC.1 (b + 24) = 15 := TC_b (o := 24) hb (by decide)
theorem lB24 (hb : b ∈ bases) : TC.2.1 (b + 24) = 20 := TC_lb (o := 24) hb (by decide)
theorem kB45 (hb : b ∈ bases) : TC.1 (b + 45) = 3 := TC_b (o := 45) hb (by decide)
theorem kB46 (hb : b ∈ bases) : TC.1 (b + 46) = 14 := TC_b (o := 46) hb (by decide)
theorem lB46 (hb : b ∈ bases) : TC.2.1 (b + 46) = 8 := TC_lb (o := 46) hb (by decide)
theorem kB47 (hb : b ∈ bases) : TC.1 (b + 47) = 13 := TC_b (o := 47) hb (by decide)
theorem lB47 (hb : b ∈ bases) : TC.2.1 (b + 47) = 8 := TC_lb (o := 47) hb (by decide)
theorem kB48 (hb : b ∈ bases) : TC.1 (b + 48) = 4 := TC_b (o := 48) hb (by decide)
theorem kB49 (hb : b ∈ bases) : TC.1 (b + 49) = 13 := TC_b (o := 49) hb (by decide)
theorem lB49 (hb : b ∈ bases) : TC.2.1 (b + 49) = 10 := TC_lb (o := 49) hb (by decide)
theorem kB50 (hb : b ∈ bases) : TC.1 (b + 50) = 13 := TC_b (o := 50) hb (by decide)
theorem lB50 (hb : b ∈ bases) : TC.2.1 (b + 50) = 10 := TC_lb (o := 50) hb (by decide)
theorem kBs {k : Nat} (hb : b ∈ bases) (hk : k < 20) : TC.1 (b + (3 + k)) = 6 := by
  rw [kB hb (by omega)]
  exact (by decide : ∀ k, k < 20 → kD (3 + k) = 6) k hk
theorem kBc {k : Nat} (hb : b ∈ bases) (hk : k < 20) : TC.1 (b + (25 + k)) = 0 := by
  rw [kB hb (by omega)]
  exact (by decide : ∀ k, k < 20 → kD (25 + k) = 0) k hk
theorem rBz {j : Nat} (hb : b ∈ bases) (hj : j < 4) : rfC q b j = rD b 0 j := by
  have h := rfC_b (q := q) (o := 0) (j := j) hb (by decide) hj
  rw [Nat.add_zero] at h
  exact h
theorem rB0 (hb : b ∈ bases) : rfC q b 0 = some (b + 1) := rBz hb (by decide)
theorem rB1 (hb : b ∈ bases) : rfC q b 1 = some (b + 23) := rBz hb (by decide)
theorem rB2 (hb : b ∈ bases) : rfC q b 2 = some (b + 45) := rBz hb (by decide)
theorem rB3 (hb : b ∈ bases) : rfC q b 3 = some (b + 48) := rBz hb (by decide)
theorem rBr (hb : b ∈ bases) : rfC q (b + 1) 0 = some (b + 2) := rfC_b (o := 1) (j := 0) hb (by decide) (by decide)
theorem rBs {k : Nat} (hb : b ∈ bases) (hk : k < 20) : rfC q (b + 2) k = some (b + (3 + k)) := (rfC_b (o := 2) (j := k) hb (by decide) (by simpa [nD] using hk)).trans (by simp [rD, Nat.add_assoc])
theorem rBl (hb : b ∈ bases) : rfC q (b + 23) 0 = some (b + 24) := rfC_b (o := 23) (j := 0) hb (by decide) (by decide)
theorem rBc {k : Nat} (hb : b ∈ bases) (hk : k < 20) : rfC q (b + 24) k = some (b + (25 + k)) := (rfC_b (o := 24) (j := k) hb (by decide) (by simpa [nD] using hk)).trans (by simp [rD, Nat.add_assoc])
theorem rBt (hb : b ∈ bases) : rfC q (b + 45) 0 = some (b + 46) := rfC_b (o := 45) (j := 0) hb (by decide) (by decide)
theorem rBh (hb : b ∈ bases) : rfC q (b + 45) 1 = some (b + 47) := rfC_b (o := 45) (j := 1) hb (by decide) (by decide)
theorem rBa (hb : b ∈ bases) : rfC q (b + 48) 0 = some (b + 49) := rfC_b (o := 48) (j := 0) hb (by decide) (by decide)
theorem rBp (hb : b ∈ bases) : rfC q (b + 48) 1 = some (b + 50) := rfC_b (o := 48) (j := 1) hb (by decide) (by decide)
/-- two diagrams' cells don't meet -/
theorem bases_apart (h1 : b1 ∈ bases) (h2 : b2 ∈ bases) (h : b1 ≠ b2) {o o2 : Nat} (ho : o < 51) (ho2 : o2 < 51) : b1 + o ≠ b2 + o2 := by
  have : ∀ b1 ∈ bases, ∀ b2 ∈ bases, b1 ≠ b2 → b1 + 51 ≤ b2 ∨ b2 + 51 ≤ b1 := by decide
  have := this b1 h1 b2 h2 h
  omega
theorem e_scopy {c c2 : Nat} (hc : TC.1 c = 6) (hc2 : TC.1 c2 = 6) (hne : c2 ≠ c) (h01 : G c2 0 = 0 ∨ G c2 0 = 1) : ∃ G', f_X6_copy TC N (G, ρ) c c2 = some (G', ρ) ∧ (∀ j, j < 8 → G' c j = G c2 j) ∧ ∀ a j, a ≠ c → G' a j = G a j := by
  unfold f_X6_copy
  rw [zz1_of hc]
  simp only [gI_of hc2, Option.bind_some, pZ_of hc h01, pI_of hc, zu_cell hne]
  refine ⟨_, rfl, fun j hj => ?_, fun a j ha => ?_⟩
  · simp only [zu_at, true_and]
    have : j = 0 ∨ j = 1 ∨ j = 2 ∨ j = 3 ∨ j = 4 ∨ j = 5 ∨ j = 6 ∨ j = 7 := by omega
    rcases this with rfl | rfl | rfl | rfl | rfl | rfl | rfl | rfl <;> simp
  · simp only [zu_cell ha]
theorem e_ccopy {c c2 : Nat} (hc : TC.1 c = 0) (hc2 : TC.1 c2 = 0) (hne : c2 ≠ c) : ∃ G', f_X0_copy TC N (G, ρ) c c2 = some (G', ρ) ∧ (∀ j, j < 5 → G' c j = G c2 j) ∧ ∀ a j, a ≠ c → G' a j = G a j := by
  unfold f_X0_copy
  rw [zz1_of hc]
  simp only [gI_of hc2, Option.bind_some, pI_of hc, zu_cell hne]
  refine ⟨_, rfl, fun j hj => ?_, fun a j ha => ?_⟩
  · simp only [zu_at, true_and]
    have : j = 0 ∨ j = 1 ∨ j = 2 ∨ j = 3 ∨ j = 4 := by omega
    rcases this with rfl | rfl | rfl | rfl | rfl <;> simp
  · simp only [zu_cell ha]
theorem e_shcopy (hN : 20 < N) (h1 : b1 ∈ bases) (h2 : b2 ∈ bases) (hne : b1 ≠ b2) (h01 : ∀ s, s < 20 → G (b1 + (3 + s)) 0 = 0 ∨ G (b1 + (3 + s)) 0 = 1) :
    ∃ G', f_X7_copy TC N (G, rfC q) (b2 + 1) (b1 + 1) = some (G', rfC q) ∧ (∀ s, s < 20 → ∀ j, j < 8 → G' (b2 + (3 + s)) j = G (b1 + (3 + s)) j) ∧ G' (b2 + 1) 1 = G (b1 + 1) 1 ∧ G' (b2 + 1) 2 = G (b1 + 1) 2 ∧ ∀ a j, (∀ o, o < 23 → a ≠ b2 + o) → G' a j = G a j := by
  unfold f_X7_copy
  rw [zz1_of (kB1 h2)]
  refine zl2_inv (P := fun (o : Option zS) => ∃ G' : Nat → Nat → Int32, o = some (G', rfC q) ∧ (∀ s, s < 20 → ∀ j, j < 8 → G' (b2 + (3 + s)) j = G (b1 + (3 + s)) j) ∧ G' (b2 + 1) 1 = G (b1 + 1) 1 ∧ G' (b2 + 1) 2 = G (b1 + 1) 2 ∧ ∀ a j, (∀ o, o < 23 → a ≠ b2 + o) → G' a j = G a j) 20
    (fun i (x : Int32) (s : zS) => x = nI i ∧ ∃ G' : Nat → Nat → Int32, s = (G', rfC q) ∧ (∀ s, s < i → ∀ j, j < 8 → G' (b2 + (3 + s)) j = G (b1 + (3 + s)) j) ∧ ∀ a j, (∀ s, s < 20 → a ≠ b2 + (3 + s)) → G' a j = G a j) ?_ ?_ 20 0 N (0 : Int32) (G, rfC q) rfl hN ⟨nI_0.symm, G, rfl, fun s h => by omega, fun a j _ => rfl⟩
  · rintro i hi x s ⟨rfl, G1, rfl, hA, hB⟩
    have hsrc : ∀ j, G1 (b1 + (3 + i)) j = G (b1 + (3 + i)) j := fun j => hB _ j (fun s hs => bases_apart h1 h2 hne (by omega) (by omega))
    obtain ⟨G2, e2, hC, hD⟩ := e_scopy (G := G1) (ρ := rfC q) (N := N) (kBs h2 hi) (kBs h1 hi) (bases_apart h1 h2 hne (by omega) (by omega)) (by rw [hsrc]; exact h01 i hi)
    refine Or.inl ⟨nI (i + 1), (G2, rfC q), ⟨rfl, G2, rfl, fun s hs j hj => ?_, fun a j ha => ?_⟩, fun k => ?_⟩
    · by_cases e : s = i
      · subst e
        rw [hC j hj, hsrc]
      · rw [hD _ _ (by omega), hA s (by omega) j hj]
    · rw [hD _ _ (ha i hi), hB a j ha]
    · unfold f_X7_copy_L2
      simp only [gR_of (kB1 h2), gR_of (kB1 h1), rBr h2, rBr h1, Option.bind_some, aL_of (kB2 h2), aL_of (kB2 h1), lB2 h2, lB2 h1]
      rw [if_neg (nI_ge hi (by decide)), if_neg (nI_ge hi (by decide))]
      simp only [aR_of (kB2 h2) (lB2 h2) hi (by decide), aR_of (kB2 h1) (lB2 h1) hi (by decide), rBs h2 hi, rBs h1 hi, Option.bind_some]
      rw [e2, Option.bind_some, zn_eq, nI_1]
  · rintro x s ⟨rfl, G1, rfl, hA, hB⟩ k
    have e1 : ∀ j, G1 (b1 + 1) j = G (b1 + 1) j := fun j => hB _ j (fun s hs => bases_apart h1 h2 hne (by omega) (by omega))
    unfold f_X7_copy_L2 f_X7_copy_J59
    simp only [gR_of (kB1 h2), gR_of (kB1 h1), rBr h2, rBr h1, Option.bind_some, aL_of (kB2 h2), aL_of (kB2 h1), lB2 h2, lB2 h1]
    rw [if_pos (nI_le (Nat.le_refl 20) (by decide))]
    have hne1 : b1 + 1 ≠ b2 + 1 := bases_apart h1 h2 hne (by omega) (by omega)
    simp only [gI_of (kB1 h1), pI_of (kB1 h2), Option.bind_some, zu_cell hne1, e1]
    refine ⟨_, rfl, fun s hs j hj => ?_, ?_, ?_, fun a j ha => ?_⟩
    · rw [zu_cell (by omega), zu_cell (by omega), hA s hs j hj]
    · rw [zu_ne (fun _ => by decide), zu_same]
    · rw [zu_same]
    · rw [zu_cell (ha 1 (by omega)), zu_cell (ha 1 (by omega)), hB a j (fun s hs => by have := ha (3 + s) (by omega); omega)]
theorem e_cncopy (hN : 20 < N) (h1 : b1 ∈ bases) (h2 : b2 ∈ bases) (hne : b1 ≠ b2) :
    ∃ G', f_X1_copy TC N (G, rfC q) (b2 + 23) (b1 + 23) = some (G', rfC q) ∧ (∀ s, s < 20 → ∀ j, j < 5 → G' (b2 + (25 + s)) j = G (b1 + (25 + s)) j) ∧ G' (b2 + 23) 1 = G (b1 + 23) 1 ∧ ∀ a j, (∀ o, 23 ≤ o → o < 45 → a ≠ b2 + o) → G' a j = G a j := by
  unfold f_X1_copy
  rw [zz1_of (kB23 h2)]
  refine zl2_inv (P := fun (o : Option zS) => ∃ G' : Nat → Nat → Int32, o = some (G', rfC q) ∧ (∀ s, s < 20 → ∀ j, j < 5 → G' (b2 + (25 + s)) j = G (b1 + (25 + s)) j) ∧ G' (b2 + 23) 1 = G (b1 + 23) 1 ∧ ∀ a j, (∀ o, 23 ≤ o → o < 45 → a ≠ b2 + o) → G' a j = G a j) 20
    (fun i (x : Int32) (s : zS) => x = nI i ∧ ∃ G' : Nat → Nat → Int32, s = (G', rfC q) ∧ (∀ s, s < i → ∀ j, j < 5 → G' (b2 + (25 + s)) j = G (b1 + (25 + s)) j) ∧ ∀ a j, (∀ s, s < 20 → a ≠ b2 + (25 + s)) → G' a j = G a j) ?_ ?_ 20 0 N (0 : Int32) (G, rfC q) rfl hN ⟨nI_0.symm, G, rfl, fun s h => by omega, fun a j _ => rfl⟩
  · rintro i hi x s ⟨rfl, G1, rfl, hA, hB⟩
    have hsrc : ∀ j, G1 (b1 + (25 + i)) j = G (b1 + (25 + i)) j := fun j => hB _ j (fun s hs => bases_apart h1 h2 hne (by omega) (by omega))
    obtain ⟨G2, e2, hC, hD⟩ := e_ccopy (G := G1) (ρ := rfC q) (N := N) (kBc h2 hi) (kBc h1 hi) (bases_apart h1 h2 hne (by omega) (by omega))
    refine Or.inl ⟨nI (i + 1), (G2, rfC q), ⟨rfl, G2, rfl, fun s hs j hj => ?_, fun a j ha => ?_⟩, fun k => ?_⟩
    · by_cases e : s = i
      · subst e
        rw [hC j hj, hsrc]
      · rw [hD _ _ (by omega), hA s (by omega) j hj]
    · rw [hD _ _ (ha i hi), hB a j ha]
    · unfold f_X1_copy_L2
      simp only [gR_of (kB23 h2), gR_of (kB23 h1), rBl h2, rBl h1, Option.bind_some, aL_of (kB24 h2), aL_of (kB24 h1), lB24 h2, lB24 h1]
      rw [if_neg (nI_ge hi (by decide)), if_neg (nI_ge hi (by decide))]
      simp only [aR_of (kB24 h2) (lB24 h2) hi (by decide), aR_of (kB24 h1) (lB24 h1) hi (by decide), rBc h2 hi, rBc h1 hi, Option.bind_some]
      rw [e2, Option.bind_some, zn_eq, nI_1]
  · rintro x s ⟨rfl, G1, rfl, hA, hB⟩ k
    have e1 : ∀ j, G1 (b1 + 23) j = G (b1 + 23) j := fun j => hB _ j (fun s hs => bases_apart h1 h2 hne (by omega) (by omega))
    unfold f_X1_copy_L2
    simp only [gR_of (kB23 h2), gR_of (kB23 h1), rBl h2, rBl h1, Option.bind_some, aL_of (kB24 h2), aL_of (kB24 h1), lB24 h2, lB24 h1]
    rw [if_pos (nI_le (Nat.le_refl 20) (by decide))]
    simp only [gI_of (kB23 h1), pI_of (kB23 h2), Option.bind_some, e1]
    refine ⟨_, rfl, fun s hs j hj => ?_, ?_, fun a j ha => ?_⟩
    · rw [zu_cell (by omega), hA s hs j hj]
    · rw [zu_same]
    · rw [zu_cell (ha 23 (by omega) (by omega)), hB a j (fun s hs => by have := ha (25 + s) (by omega) (by omega); omega)]
theorem e_bhas (hb : b ∈ bases) {g : Nat} (hg : g < 8) : f_X3_has TC N (G, rfC q) (b + 45) (nI g) = some (if G (b + 46) g = 0 then 0 else 1, (G, rfC q)) := by
  unfold f_X3_has
  rw [zz1_of (kB45 hb), if_neg (nI_pos (by omega))]
  simp only [gR_of (kB45 hb), rBt hb, Option.bind_some, aL_of (kB46 hb), lB46 hb]
  rw [if_neg (nI_ge hg (by decide)), aI_of (kB46 hb) (lB46 hb) hg (by decide)]
  simp only [Option.bind_some]
  by_cases h : G (b + 46) g = 0
  · rw [if_pos h, if_pos h]; rfl
  · rw [if_neg h, if_neg h]; rfl
theorem e_bhome (hb : b ∈ bases) {g : Nat} (hg : g < 8) : f_X3_homeOf TC N (G, rfC q) (b + 45) (nI g) = some (if G (b + 46) g = 0 then -1000000 else G (b + 47) g, (G, rfC q)) := by
  unfold f_X3_homeOf
  rw [zz1_of (kB45 hb), e_bhas hb hg, zb2_some]
  by_cases h : G (b + 46) g = 0
  · rw [if_pos h, if_pos rfl, if_pos h]
  · rw [if_neg h, if_neg (by decide), if_neg h]
    simp only [gR_of (kB45 hb), rBh hb, Option.bind_some, aL_of (kB47 hb), lB47 hb]
    rw [if_neg (nI_ge hg (by decide)), aI_of (kB47 hb) (lB47 hb) hg (by decide)]
    simp only [Option.bind_some]
theorem e_bput (hb : b ∈ bases) {g : Nat} (hg : g < 8) {x y : Int32} (hx : x = 0 ∨ x = 1) : f_X3_put TC N (G, rfC q) (b + 45) (nI g) x y = some (zu (zu G (b + 46) g x) (b + 47) g y, rfC q) := by
  unfold f_X3_put
  rw [zz1_of (kB45 hb), if_neg (nI_pos (by omega))]
  simp only [gR_of (kB45 hb), rBt hb, rBh hb, Option.bind_some, aL_of (kB46 hb), lB46 hb, aL_of (kB47 hb), lB47 hb]
  rw [if_neg (nI_ge hg (by decide)), if_neg (nI_ge hg (by decide)), sZ_of (kB46 hb) (lB46 hb) hg (by decide) hx]
  simp only [Option.bind_some, gR_of (kB45 hb), rBh hb]
  rw [sI_of (kB47 hb) (lB47 hb) hg (by decide)]
  simp only [Option.bind_some]
theorem e_gcopy (hN : 20 < N) (h1 : b1 ∈ bases) (h2 : b2 ∈ bases) (hne : b1 ≠ b2) (h01 : ∀ g, g < 8 → G (b1 + 46) g = 0 ∨ G (b1 + 46) g = 1) :
    ∃ G', f_X3_copy TC N (G, rfC q) (b2 + 45) (b1 + 45) = some (G', rfC q) ∧ (∀ g, g < 8 → G' (b2 + 46) g = G (b1 + 46) g) ∧ (∀ g, g < 8 → G (b1 + 46) g = 1 → G' (b2 + 47) g = G (b1 + 47) g) ∧ ∀ a j, a ≠ b2 + 46 → a ≠ b2 + 47 → G' a j = G a j := by
  unfold f_X3_copy
  rw [zz1_of (kB45 h2)]
  refine zl2_inv (P := fun (o : Option zS) => ∃ G' : Nat → Nat → Int32, o = some (G', rfC q) ∧ (∀ g, g < 8 → G' (b2 + 46) g = G (b1 + 46) g) ∧ (∀ g, g < 8 → G (b1 + 46) g = 1 → G' (b2 + 47) g = G (b1 + 47) g) ∧ ∀ a j, a ≠ b2 + 46 → a ≠ b2 + 47 → G' a j = G a j) 8
    (fun i (x : Int32) (s : zS) => x = nI i ∧ ∃ G' : Nat → Nat → Int32, s = (G', rfC q) ∧ (∀ g, g < i → G' (b2 + 46) g = G (b1 + 46) g) ∧ (∀ g, g < i → G (b1 + 46) g = 1 → G' (b2 + 47) g = G (b1 + 47) g) ∧ ∀ a j, a ≠ b2 + 46 → a ≠ b2 + 47 → G' a j = G a j) ?_ ?_ 8 0 N (0 : Int32) (G, rfC q) rfl (by omega) ⟨nI_0.symm, G, rfl, fun s h => by omega, fun s h => by omega, fun a j _ _ => rfl⟩
  · rintro i hi x s ⟨rfl, G1, rfl, hA, hB, hC⟩
    have e46 : ∀ j, G1 (b1 + 46) j = G (b1 + 46) j := fun j => hC _ j (bases_apart h1 h2 hne (by omega) (by omega)) (bases_apart h1 h2 hne (by omega) (by omega))
    have e47 : ∀ j, G1 (b1 + 47) j = G (b1 + 47) j := fun j => hC _ j (bases_apart h1 h2 hne (by omega) (by omega)) (bases_apart h1 h2 hne (by omega) (by omega))
    have hv : (if G1 (b1 + 46) i = 0 then (0 : Int32) else 1) = G (b1 + 46) i := by
      rw [e46]
      rcases h01 i hi with h | h <;> rw [h] <;> decide
    refine Or.inl ⟨nI (i + 1), _, ⟨rfl, zu (zu G1 (b2 + 46) i (G (b1 + 46) i)) (b2 + 47) i (if G (b1 + 46) i = 0 then -1000000 else G (b1 + 47) i), rfl, fun g hg => ?_, fun g hg h => ?_, fun a j ha ha2 => ?_⟩, fun k => ?_⟩
    · rw [zu_cell (by omega)]
      by_cases e : g = i
      · subst e; rw [zu_same]
      · rw [zu_ne (fun _ => e), hA g (by omega)]
    · by_cases e : g = i
      · subst e
        rw [zu_same, h, if_neg (by decide)]
      · rw [zu_ne (fun _ => e), zu_cell (by omega), hB g (by omega) h]
    · rw [zu_cell ha2, zu_cell ha, hC a j ha ha2]
    · unfold f_X3_copy_L2
      rw [if_neg (nI_n8 hi), e_bhas h1 hi, zb2_some, e_bhome h1 hi, zb2_some, hv, e46, e47, e_bput h2 hi (h01 i hi), Option.bind_some, zn_eq, nI_1]
  · rintro x s ⟨rfl, G1, rfl, hA, hB, hC⟩ k
    unfold f_X3_copy_L2
    rw [if_pos (nI_8 (Nat.le_refl 8) (by decide))]
    exact ⟨G1, rfl, hA, hB, hC⟩
theorem e_gadd (hb : b ∈ bases) {n : Nat} (hn : n < 10) {x y : Int32} (hc : G (b + 48) 2 = nI n) : f_X4_add TC N (G, rfC q) (b + 48) x y = some (zu (zu (zu G (b + 49) n x) (b + 50) n y) (b + 48) 2 (nI (n + 1)), rfC q) := by
  unfold f_X4_add
  rw [zz1_of (kB48 hb)]
  simp only [gI_of (kB48 hb), gR_of (kB48 hb), rBa hb, rBp hb, Option.bind_some, aL_of (kB49 hb), lB49 hb, aL_of (kB50 hb), lB50 hb, hc]
  rw [if_neg (nI_pos (by omega)), if_neg (nI_ge hn (by decide)), if_neg (nI_ge hn (by decide)), sI_of (kB49 hb) (lB49 hb) hn (by decide)]
  have e1 : zu G (b + 49) n x (b + 48) 2 = nI n := by rw [zu_cell (by omega), hc]
  simp only [Option.bind_some, gR_of (kB48 hb), rBp hb, gI_of (kB48 hb), e1]
  rw [sI_of (kB50 hb) (lB50 hb) hn (by decide)]
  have e2 : zu (zu G (b + 49) n x) (b + 50) n y (b + 48) 2 = nI n := by rw [zu_cell (by omega), e1]
  simp only [Option.bind_some, gI_of (kB48 hb), e2, pI_of (kB48 hb), nI_1]
theorem e_ucopy (hN : 20 < N) (h1 : b1 ∈ bases) (h2 : b2 ∈ bases) (hne : b1 ≠ b2) {n : Nat} (hn : n ≤ 10) (hc : G (b1 + 48) 2 = nI n) :
    ∃ G', f_X4_copy TC N (G, rfC q) (b2 + 48) (b1 + 48) = some (G', rfC q) ∧ (∀ k, k < n → G' (b2 + 49) k = G (b1 + 49) k) ∧ (∀ k, k < n → G' (b2 + 50) k = G (b1 + 50) k) ∧ G' (b2 + 48) 2 = nI n ∧ G' (b2 + 48) 3 = G (b1 + 48) 3 ∧ G' (b2 + 48) 4 = G (b1 + 48) 4 ∧ ∀ a j, a ≠ b2 + 48 → a ≠ b2 + 49 → a ≠ b2 + 50 → G' a j = G a j := by
  unfold f_X4_copy
  rw [zz1_of (kB48 h2)]
  simp only [pI_of (kB48 h2), Option.bind_some]
  refine zl2_inv (P := fun (o : Option zS) => ∃ G' : Nat → Nat → Int32, o = some (G', rfC q) ∧ (∀ k, k < n → G' (b2 + 49) k = G (b1 + 49) k) ∧ (∀ k, k < n → G' (b2 + 50) k = G (b1 + 50) k) ∧ G' (b2 + 48) 2 = nI n ∧ G' (b2 + 48) 3 = G (b1 + 48) 3 ∧ G' (b2 + 48) 4 = G (b1 + 48) 4 ∧ ∀ a j, a ≠ b2 + 48 → a ≠ b2 + 49 → a ≠ b2 + 50 → G' a j = G a j) n
    (fun i (x : Int32) (s : zS) => x = nI i ∧ ∃ G' : Nat → Nat → Int32, s = (G', rfC q) ∧ (∀ k, k < i → G' (b2 + 49) k = G (b1 + 49) k) ∧ (∀ k, k < i → G' (b2 + 50) k = G (b1 + 50) k) ∧ G' (b2 + 48) 2 = nI i ∧ ∀ a j, a ≠ b2 + 48 → a ≠ b2 + 49 → a ≠ b2 + 50 → G' a j = G a j) ?_ ?_ n 0 N (0 : Int32) _ (by omega) (by omega) ⟨nI_0.symm, _, rfl, fun s h => by omega, fun s h => by omega, by rw [zu_same]; exact nI_0.symm, fun a j h _ _ => by rw [zu_cell h]⟩
  · rintro i hi x s ⟨rfl, G1, rfl, hA, hB, hC, hD⟩
    have es : ∀ o j, o < 51 → G1 (b1 + o) j = G (b1 + o) j := fun o j ho => hD _ j (bases_apart h1 h2 hne ho (by omega)) (bases_apart h1 h2 hne ho (by omega)) (bases_apart h1 h2 hne ho (by omega))
    refine Or.inl ⟨nI (i + 1), _, ⟨rfl, zu (zu (zu G1 (b2 + 49) i (G (b1 + 49) i)) (b2 + 50) i (G (b1 + 50) i)) (b2 + 48) 2 (nI (i + 1)), rfl, fun k hk => ?_, fun k hk => ?_, ?_, fun a j ha ha2 ha3 => ?_⟩, fun k => ?_⟩
    · rw [zu_cell (by omega), zu_cell (by omega)]
      by_cases e : k = i
      · subst e; rw [zu_same]
      · rw [zu_ne (fun _ => e), hA k (by omega)]
    · rw [zu_cell (by omega)]
      by_cases e : k = i
      · subst e; rw [zu_same]
      · rw [zu_ne (fun _ => e), zu_cell (by omega), hB k (by omega)]
    · rw [zu_same]
    · rw [zu_cell ha, zu_cell ha3, zu_cell ha2, hD a j ha ha2 ha3]
    · unfold f_X4_copy_L7
      have ec : G1 (b1 + 48) 2 = nI n := by rw [es 48 2 (by omega), hc]
      simp only [gI_of (kB48 h1), Option.bind_some, ec]
      rw [if_neg (nI_ge hi (by omega))]
      simp only [gR_of (kB48 h1), rBa h1, rBp h1, Option.bind_some, aL_of (kB49 h1), lB49 h1, aL_of (kB50 h1), lB50 h1]
      rw [if_neg (nI_ge (show i < 10 by omega) (by decide)), if_neg (nI_ge (show i < 10 by omega) (by decide)), aI_of (kB49 h1) (lB49 h1) (show i < 10 by omega) (by decide)]
      simp only [Option.bind_some]
      rw [aI_of (kB50 h1) (lB50 h1) (show i < 10 by omega) (by decide)]
      simp only [Option.bind_some, es 49 i (by omega), es 50 i (by omega)]
      rw [e_gadd h2 (show i < 10 by omega) hC, Option.bind_some, zn_eq, nI_1]
  · rintro x s ⟨rfl, G1, rfl, hA, hB, hC, hD⟩ k
    have es : ∀ o j, o < 51 → G1 (b1 + o) j = G (b1 + o) j := fun o j ho => hD _ j (bases_apart h1 h2 hne ho (by omega)) (bases_apart h1 h2 hne ho (by omega)) (bases_apart h1 h2 hne ho (by omega))
    unfold f_X4_copy_L7
    have ec : G1 (b1 + 48) 2 = nI n := by rw [es 48 2 (by omega), hc]
    simp only [gI_of (kB48 h1), Option.bind_some, ec]
    rw [if_pos (nI_le (Nat.le_refl n) (by omega))]
    have hne1 : b1 + 48 ≠ b2 + 48 := bases_apart h1 h2 hne (by omega) (by omega)
    simp only [pI_of (kB48 h2), Option.bind_some, zu_cell hne1, es 48 3 (by omega), es 48 4 (by omega)]
    refine ⟨_, rfl, fun k hk => ?_, fun k hk => ?_, ?_, ?_, ?_, fun a j ha ha2 ha3 => ?_⟩
    · rw [zu_cell (by omega), zu_cell (by omega), hA k hk]
    · rw [zu_cell (by omega), zu_cell (by omega), hB k hk]
    · rw [zu_ne (fun _ => by decide), zu_ne (fun _ => by decide), hC]
    · rw [zu_ne (fun _ => by decide), zu_same]
    · rw [zu_same]
    · rw [zu_cell ha, zu_cell ha, hD a j ha ha2 ha3]
end CPY
