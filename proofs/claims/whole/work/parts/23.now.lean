/-! the class, its diagram 'now': what its functions answer -/
def fnd (G : Nat → Nat → Int32) (x : Int32) : Option Nat := if x < 0 ∨ 20 ≤ x ∨ G (4 + x.toNatClampNeg) 0 = 0 then none else some (4 + x.toNatClampNeg)
def liv (G : Nat → Nat → Int32) (s : Nat) : Bool := decide (¬ G (4 + s) 0 = 0)
theorem nI_n20 {k : Nat} (hk : k < 20) : ¬ (20 : Int32) ≤ nI k := nI_ge hk (by decide)
theorem nI_20 {k : Nat} (hk : 20 ≤ k) (h : k < 2 ^ 31) : (20 : Int32) ≤ nI k := nI_le hk h
theorem nlt_of_le {a b : Int32} (h : a ≤ b) : ¬ b < a := fun h2 => by rw [fa_lt] at h2; rw [fa_le] at h; omega
theorem nle_of_lt {a b : Int32} (h : a < b) : ¬ b ≤ a := fun h2 => by rw [fa_le] at h2; rw [fa_lt] at h; omega
theorem nI_n8 {k : Nat} (hk : k < 8) : ¬ (8 : Int32) ≤ nI k := nI_ge hk (by decide)
theorem nI_8 {k : Nat} (hk : 8 ≤ k) (h : k < 2 ^ 31) : (8 : Int32) ≤ nI k := nI_le hk h
theorem nI_b20 (x : Int32) : (x < 0 ∨ (20 : Int32) ≤ x) ∨ ∃ k, k < 20 ∧ x = nI k := nI_big (n := 20) (by decide)
theorem nI_b8 (x : Int32) : (x < 0 ∨ (8 : Int32) ≤ x) ∨ ∃ k, k < 8 ∧ x = nI k := nI_big (n := 8) (by decide)
theorem fnd_k {G : Nat → Nat → Int32} {k : Nat} (hk : k < 20) : fnd G (nI k) = if G (4 + k) 0 = 0 then none else some (4 + k) := by
  unfold fnd
  rw [nI_clamp (by omega)]
  by_cases h : G (4 + k) 0 = 0
  · rw [if_pos (Or.inr (Or.inr h)), if_pos h]
  · rw [if_neg h, if_neg]
    rintro (h1 | h1 | h1)
    · exact nI_pos (by omega) h1
    · exact nI_n20 hk h1
    · exact h h1
theorem fnd_liv {G : Nat → Nat → Int32} {k : Nat} (hk : k < 20) : fnd G (nI k) = if liv G k = true then some (4 + k) else none := by
  rw [fnd_k hk]
  unfold liv
  by_cases h : G (4 + k) 0 = 0
  · simp [h]
  · simp [h]
theorem fnd_some {G : Nat → Nat → Int32} {x : Int32} {c : Nat} (h : fnd G x = some c) : ∃ k, k < 20 ∧ x = nI k ∧ c = 4 + k ∧ liv G k = true := by
  rcases nI_b20 x with (h1 | h1) | ⟨k, hk, rfl⟩
  · unfold fnd at h; rw [if_pos (Or.inl h1)] at h; cases h
  · unfold fnd at h; rw [if_pos (Or.inr (Or.inl h1))] at h; cases h
  · rw [fnd_liv hk] at h
    by_cases hl : liv G k = true
    · rw [if_pos hl] at h
      exact ⟨k, hk, rfl, (Option.some.inj h).symm, hl⟩
    · rw [if_neg hl] at h; cases h
theorem fnd_none {G : Nat → Nat → Int32} {x : Int32} (h : fnd G x = none) : (x < 0 ∨ 20 ≤ x) ∨ ∃ k, k < 20 ∧ x = nI k ∧ liv G k = false := by
  rcases nI_b20 x with h1 | ⟨k, hk, rfl⟩
  · exact Or.inl h1
  · rw [fnd_liv hk] at h
    refine Or.inr ⟨k, hk, rfl, ?_⟩
    by_cases hl : liv G k = true
    · rw [if_pos hl] at h; cases h
    · simpa using hl
section NOW
variable {G : Nat → Nat → Int32} {q : Nat → Option Nat} {N : Nat}
theorem e_find (x : Int32) : f_X7_find TC N (G, rfC q) 2 x = some (fnd G x, (G, rfC q)) := by
  unfold f_X7_find
  rw [zz1_of TC_2]
  by_cases h0 : x < 0
  · rw [if_pos h0]
    unfold fnd
    rw [if_pos (Or.inl h0)]
  · rw [if_neg h0]
    simp only [gR_of TC_2, rf_2_0, Option.bind_some, aL_of TC_3, TL_3]
    rcases nI_b20 x with (h1 | h1) | ⟨k, hk, rfl⟩
    · exact absurd h1 h0
    · have h2 : ¬ x < nI 20 := nlt_of_le h1
      rw [if_neg h2]
      unfold fnd
      rw [if_pos (Or.inr (Or.inl h1))]
    · rw [if_pos (nI_lt hk (by decide)), aR_of TC_3 TL_3 hk (by decide), rf_3 hk]
      simp only [Option.bind_some, gI_of (TC_sh hk)]
      rw [fnd_k hk]
      by_cases h : G (4 + k) 0 = 0
      · rw [if_pos h, if_pos h]
      · rw [if_neg h, if_neg h]
theorem e_find_k {k : Nat} (hk : k < 20) : f_X7_find TC N (G, rfC q) 2 (nI k) = some (if liv G k = true then some (4 + k) else none, (G, rfC q)) := by
  rw [e_find, fnd_liv hk]
/-! groups -/
def NN : Int32 := -1000000
def hmG (G : Nat → Nat → Int32) (x : Int32) : Int32 := if x < 0 ∨ 8 ≤ x ∨ G 47 x.toNatClampNeg = 0 then -1000000 else G 48 x.toNatClampNeg
theorem e_has_no {x : Int32} (h : x < 0 ∨ 8 ≤ x) : f_X3_has TC N (G, rfC q) 46 x = some (0, (G, rfC q)) := by
  unfold f_X3_has
  rw [zz1_of TC_46]
  by_cases h0 : x < 0
  · rw [if_pos h0]; rfl
  · rw [if_neg h0]
    simp only [gR_of TC_46, rf_46_0, Option.bind_some, aL_of TC_47, TL_47]
    rcases h with h | h
    · exact absurd h h0
    · rw [if_pos (show nI 8 ≤ x from h)]; rfl
theorem e_has_g {g : Nat} (hg : g < 8) : f_X3_has TC N (G, rfC q) 46 (nI g) = some (if G 47 g = 0 then 0 else 1, (G, rfC q)) := by
  unfold f_X3_has
  rw [zz1_of TC_46, if_neg (nI_pos (by omega))]
  simp only [gR_of TC_46, rf_46_0, Option.bind_some, aL_of TC_47, TL_47]
  rw [if_neg (nI_ge hg (by decide)), aI_of TC_47 TL_47 hg (by decide)]
  simp only [Option.bind_some]
  by_cases h : G 47 g = 0
  · rw [if_pos h, if_pos h]; rfl
  · rw [if_neg h, if_neg h]; rfl
theorem e_homeOf (x : Int32) : f_X3_homeOf TC N (G, rfC q) 46 x = some (hmG G x, (G, rfC q)) := by
  unfold f_X3_homeOf hmG
  rw [zz1_of TC_46]
  rcases nI_b8 x with h | ⟨g, hg, rfl⟩
  · rw [e_has_no h, zb2_some, if_pos rfl]
    rw [if_pos (by rcases h with h | h; exact Or.inl h; exact Or.inr (Or.inl h))]
  · rw [e_has_g hg, zb2_some, nI_clamp (by omega)]
    by_cases h : G 47 g = 0
    · rw [if_pos h, if_pos rfl, if_pos (Or.inr (Or.inr h))]
    · rw [if_neg h, if_neg (by decide)]
      simp only [gR_of TC_46, rf_46_1, Option.bind_some, aL_of TC_48, TL_48]
      rw [if_neg (nI_ge hg (by decide)), aI_of TC_48 TL_48 hg (by decide)]
      simp only [Option.bind_some]
      rw [if_neg]
      rintro (h1 | h1 | h1)
      · exact nI_pos (by omega) h1
      · exact nI_ge hg (by decide) h1
      · exact h h1
def outG (G : Nat → Nat → Int32) : Nat → Int32 → Int32
  | 0, x => x
  | n + 1, x => if hmG G x = -1000000 then x else outG G n (hmG G x)
theorem s_outermost {k : Int32 → Int32 → zS → Option (Int32 × zS)} {x : Int32} {i : Nat} (hi : i < 8) : f_X3_outermost_L4 TC N 46 k x (nI i) (G, rfC q) = if hmG G x = -1000000 then some (x, (G, rfC q)) else k (hmG G x) (nI (i + 1)) (G, rfC q) := by
  unfold f_X3_outermost_L4
  rw [if_neg (nI_n8 hi), e_homeOf, zb2_some]
  by_cases h : hmG G x = -1000000
  · rw [if_pos h, if_pos h]
  · rw [if_neg h, if_neg h, e_homeOf, zb2_some, zn_eq, nI_1]
theorem e_outermost_l : ∀ (d i M : Nat) (x : Int32), i + d = 8 → d < M → zl3 (f_X3_outermost_L4 TC N 46) M x (nI i) (G, rfC q) = some (outG G d x, (G, rfC q)) := by
  intro d
  induction d with
  | zero =>
    intro i M x hi hM
    obtain ⟨n, rfl⟩ : ∃ n, M = n + 1 := ⟨M - 1, by omega⟩
    have hi : i = 8 := by omega
    subst hi
    rw [zl3]
    unfold f_X3_outermost_L4
    rw [if_pos (nI_8 (Nat.le_refl 8) (by decide))]
    rfl
  | succ d ih =>
    intro i M x hi hM
    obtain ⟨n, rfl⟩ : ∃ n, M = n + 1 := ⟨M - 1, by omega⟩
    rw [zl3, s_outermost (by omega)]
    unfold outG
    by_cases h : hmG G x = -1000000
    · rw [if_pos h, if_pos h]
    · rw [if_neg h, if_neg h]
      exact ih (i + 1) n _ (by omega) (by omega)
theorem e_outermost (hN : 8 < N) (x : Int32) : f_X3_outermost TC N (G, rfC q) 46 x = some (outG G 8 x, (G, rfC q)) := by
  unfold f_X3_outermost
  rw [zz1_of TC_46, ← nI_0]
  exact e_outermost_l 8 0 N x (by omega) hN
def insG (G : Nat → Nat → Int32) (g : Int32) : Nat → Int32 → Int32
  | 0, x => x
  | n + 1, x => if x = g ∨ x = -1000000 then x else insG G g n (hmG G x)
theorem e_isInside_J {σ : zS} {g x : Int32} : f_X3_isInside_J35 TC N g x σ = some (if x = g then 1 else 0, σ) := by
  unfold f_X3_isInside_J35
  by_cases h : x = g
  · rw [if_neg (fun n => n h), if_pos h]; rfl
  · rw [if_pos h, if_neg h]; rfl
theorem s_isInside {g : Int32} {k : Int32 → Int32 → zS → Option (Int32 × zS)} {x : Int32} {i : Nat} (hi : i < 8) : f_X3_isInside_L5 TC N 46 g k x (nI i) (G, rfC q) = if x = g ∨ x = -1000000 then some (if x = g then 1 else 0, (G, rfC q)) else k (hmG G x) (nI (i + 1)) (G, rfC q) := by
  unfold f_X3_isInside_L5
  rw [if_neg (nI_n8 hi)]
  by_cases h : x = g
  · rw [if_pos h, e_isInside_J, if_pos (Or.inl h)]
  · rw [if_neg h]
    by_cases h2 : x = -1000000
    · rw [if_pos h2, e_isInside_J, if_pos (Or.inr h2)]
    · have h3 : ¬ (x = g ∨ x = -1000000) := fun q => q.elim h h2
      rw [if_neg h2, if_neg h3, e_homeOf, zb2_some, zn_eq, nI_1]
theorem e_isInside_l (g : Int32) : ∀ (d i M : Nat) (x : Int32), i + d = 8 → d < M → zl3 (f_X3_isInside_L5 TC N 46 g) M x (nI i) (G, rfC q) = some (if insG G g d x = g then 1 else 0, (G, rfC q)) := by
  intro d
  induction d with
  | zero =>
    intro i M x hi hM
    obtain ⟨n, rfl⟩ : ∃ n, M = n + 1 := ⟨M - 1, by omega⟩
    have hi : i = 8 := by omega
    subst hi
    rw [zl3]
    unfold f_X3_isInside_L5
    rw [if_pos (nI_8 (Nat.le_refl 8) (by decide)), e_isInside_J]
    rfl
  | succ d ih =>
    intro i M x hi hM
    obtain ⟨n, rfl⟩ : ∃ n, M = n + 1 := ⟨M - 1, by omega⟩
    rw [zl3, s_isInside (by omega)]
    by_cases h : x = g ∨ x = -1000000
    · have e : insG G g (d + 1) x = x := by unfold insG; rw [if_pos h]
      rw [if_pos h, e]
    · have e : insG G g (d + 1) x = insG G g d (hmG G x) := by
        show (if x = g ∨ x = -1000000 then x else insG G g d (hmG G x)) = _
        rw [if_neg h]
      rw [if_neg h, e]
      exact ih (i + 1) n _ (by omega) (by omega)
theorem e_isInside (hN : 8 < N) (x g : Int32) : f_X3_isInside TC N (G, rfC q) 46 x g = some (if insG G g 8 x = g then 1 else 0, (G, rfC q)) := by
  unfold f_X3_isInside
  rw [zz1_of TC_46, ← nI_0]
  exact e_isInside_l g 8 0 N x (by omega) hN
/-- the shapes of a group -/
def inG (G : Nat → Nat → Int32) (g : Int32) (s : Nat) : Bool := liv G s && decide (insG G g 8 (G (4 + s) 7) = g)
theorem e_shapesIn (hN : 20 < N) (g : Int32) : f_X2_shapesIn TC N (G, rfC q) 1 g = some (mkS (inG G g) 20, (G, rfC q)) := by
  unfold f_X2_shapesIn
  rw [zz1_of TC_1]
  refine zl3_end 20 (fun i => mkS (inG G g) i) (fun i => nI i) (fun _ => (G, rfC q)) rfl nI_0.symm rfl hN (fun i hi k => ?_) (fun k => ?_)
  · unfold f_X2_shapesIn_L4
    rw [if_neg (nI_n20 hi)]
    simp only [gR_of TC_1, rf_1_0, Option.bind_some]
    rw [e_find_k hi, zb2_some]
    by_cases hl : liv G i = true
    · rw [if_pos hl, zo_some]
      simp only [gR_of TC_1, rf_1_2, Option.bind_some, gI_of (TC_sh hi)]
      rw [e_isInside (by omega), zb2_some]
      have e : inG G g i = decide (insG G g 8 (G (4 + i) 7) = g) := by unfold inG; rw [hl, Bool.true_and]
      by_cases h : insG G g 8 (G (4 + i) 7) = g
      · rw [if_pos h, if_neg (by decide), mkS_t (by rw [e]; exact decide_eq_true h), zn_eq, zn_eq, nI_1]
      · rw [if_neg h, if_pos rfl, mkS_f (by rw [e]; simpa using h), zn_eq, nI_1]
    · rw [if_neg hl, zo_none, zn_eq, nI_1, mkS_f (by unfold inG; simp [hl])]
  · unfold f_X2_shapesIn_L4
    rw [if_pos (nI_20 (Nat.le_refl 20) (by decide))]
/-- the shapes that are selected together with shape k -/
def untG (G : Nat → Nat → Int32) (k s : Nat) : Bool := if outG G 8 (G (4 + k) 7) = -1000000 then decide (s = k) else inG G (outG G 8 (G (4 + k) 7)) s
theorem e_unitOf (hN : 20 < N) {k : Nat} (hk : k < 20) : f_X2_unitOf TC N (G, rfC q) 1 (nI k) (4 + k) = some (mkS (untG G k) 20, (G, rfC q)) := by
  unfold f_X2_unitOf
  rw [zz1_of TC_1]
  simp only [gR_of TC_1, rf_1_2, Option.bind_some, gI_of (TC_sh hk)]
  rw [e_outermost (by omega), zb2_some]
  by_cases h : outG G 8 (G (4 + k) 7) = -1000000
  · rw [if_neg (fun n => n h), S_one hk]
    have : untG G k = fun s => decide (s = k) := by funext s; unfold untG; rw [if_pos h]
    rw [this]
  · rw [if_pos h, e_shapesIn hN, zb2_some]
    have : untG G k = inG G (outG G 8 (G (4 + k) 7)) := by funext s; unfold untG; rw [if_neg h]
    rw [this]
theorem e_count (hN : 20 < N) : f_X7_count TC N (G, rfC q) 2 = some (nI (cnt (liv G) 20), (G, rfC q)) := by
  unfold f_X7_count
  rw [zz1_of TC_2]
  refine zl3_end 20 (fun i => nI (cnt (liv G) i)) (fun i => nI i) (fun _ => (G, rfC q)) nI_0.symm nI_0.symm rfl hN (fun i hi k => ?_) (fun k => ?_)
  · unfold f_X7_count_L4
    simp only [gR_of TC_2, rf_2_0, Option.bind_some, aL_of TC_3, TL_3]
    rw [if_neg (nI_ge hi (by decide)), e_find_k hi, zb2_some]
    by_cases hl : liv G i = true
    · rw [if_pos hl, cnt_t hl, zo_some, zn_eq, zn_eq, nI_1, nI_1]
    · rw [if_neg hl, cnt_f hl, zo_none, zn_eq, nI_1]
  · unfold f_X7_count_L4
    simp only [gR_of TC_2, rf_2_0, Option.bind_some, aL_of TC_3, TL_3]
    rw [if_pos (nI_le (Nat.le_refl 20) (by decide))]
end NOW
/-- a field of all shapes below n with P -/
def mapC (G : Nat → Nat → Int32) (P : Nat → Bool) (j0 : Nat) (f : Int32 → Int32) (n : Nat) : Nat → Nat → Int32 := fun a j => if (4 ≤ a ∧ a < 4 + n) ∧ P (a - 4) = true ∧ j = j0 then f (G a j) else G a j
theorem mapC_0 {G : Nat → Nat → Int32} {P : Nat → Bool} {j0 : Nat} {f : Int32 → Int32} : mapC G P j0 f 0 = G := by
  funext a j
  unfold mapC
  rw [if_neg (by omega)]
theorem mapC_t {G : Nat → Nat → Int32} {P : Nat → Bool} {j0 : Nat} {f : Int32 → Int32} {n : Nat} (h : P n = true) : mapC G P j0 f (n + 1) = zu (mapC G P j0 f n) (4 + n) j0 (f (G (4 + n) j0)) := by
  funext a j
  rw [zu_at]
  unfold mapC
  by_cases e : a = 4 + n ∧ j = j0
  · obtain ⟨rfl, rfl⟩ := e
    have h1 : (4 ≤ 4 + n ∧ 4 + n < 4 + (n + 1)) ∧ P (4 + n - 4) = true ∧ j = j := ⟨by omega, by rw [Nat.add_sub_cancel_left]; exact h, rfl⟩
    have h2 : 4 + n = 4 + n ∧ j = j := ⟨rfl, rfl⟩
    rw [if_pos h1, if_pos h2]
  · rw [if_neg e]
    by_cases e1 : (4 ≤ a ∧ a < 4 + n) ∧ P (a - 4) = true ∧ j = j0
    · rw [if_pos e1, if_pos ⟨by omega, e1.2⟩]
    · rw [if_neg e1, if_neg]
      rintro ⟨⟨h1, h2⟩, h3, h4⟩
      by_cases e2 : a = 4 + n
      · exact e ⟨e2, h4⟩
      · exact e1 ⟨⟨h1, by omega⟩, h3, h4⟩
theorem mapC_f {G : Nat → Nat → Int32} {P : Nat → Bool} {j0 : Nat} {f : Int32 → Int32} {n : Nat} (h : ¬ P n = true) : mapC G P j0 f (n + 1) = mapC G P j0 f n := by
  funext a j
  unfold mapC
  by_cases e1 : (4 ≤ a ∧ a < 4 + n) ∧ P (a - 4) = true ∧ j = j0
  · rw [if_pos e1, if_pos ⟨by omega, e1.2⟩]
  · rw [if_neg e1, if_neg]
    rintro ⟨⟨h1, h2⟩, h3, h4⟩
    by_cases e2 : a = 4 + n
    · subst e2
      rw [Nat.add_sub_cancel_left] at h3
      exact h h3
    · exact e1 ⟨⟨h1, by omega⟩, h3, h4⟩
theorem mapC_out {G : Nat → Nat → Int32} {P : Nat → Bool} {j0 : Nat} {f : Int32 → Int32} {n a j : Nat} (h : a < 4 ∨ 4 + n ≤ a ∨ j ≠ j0) : mapC G P j0 f n a j = G a j := by
  unfold mapC
  rw [if_neg (by rintro ⟨⟨h1, h2⟩, h3, h4⟩; rcases h with h | h | h; omega; omega; exact h h4)]
theorem mapC_in {G : Nat → Nat → Int32} {P : Nat → Bool} {j0 : Nat} {f : Int32 → Int32} {n s : Nat} (hs : s < n) : mapC G P j0 f n (4 + s) j0 = if P s = true then f (G (4 + s) j0) else G (4 + s) j0 := by
  unfold mapC
  rw [Nat.add_sub_cancel_left]
  by_cases h : P s = true
  · rw [if_pos h, if_pos ⟨by omega, h, rfl⟩]
  · rw [if_neg h, if_neg (fun q => h q.2.1)]
theorem zu_id {G : Nat → Nat → Int32} {c j : Nat} {x : Int32} (h : G c j = x) : zu G c j x = G := by
  funext a i
  rw [zu_at]
  by_cases e : a = c ∧ i = j
  · obtain ⟨rfl, rfl⟩ := e
    rw [if_pos ⟨rfl, rfl⟩, h]
  · rw [if_neg e]
/-- closing up behind a shape that goes from depth o to depth d -/
def pdv (d o x : Int32) : Int32 := if d ≤ x ∧ x < o then x + 1 else if x ≤ d ∧ o < x then x - 1 else x
section NOW2
variable {G : Nat → Nat → Int32} {q : Nat → Option Nat} {N : Nat}
theorem liv_mapC {P : Nat → Bool} {j0 : Nat} {f : Int32 → Int32} {n s : Nat} (h : j0 ≠ 0) : liv (mapC G P j0 f n) s = liv G s := by
  unfold liv
  rw [mapC_out (Or.inr (Or.inr (fun e => h e.symm)))]
theorem e_putAtDepth_J {d o : Int32} {i c : Nat} {k : Int32 → zS → Option zS} (hi : i < 20) (hc : c = 4 + i) {x : Int32} (hx : G c 6 = x) (hn : ¬ (d ≤ x ∧ x < o)) : f_X7_putAtDepth_J66 TC N d o (nI i) k (G, rfC q) c = k (nI (i + 1)) (zu G c 6 (pdv d o x), rfC q) := by
  subst hc
  unfold f_X7_putAtDepth_J66
  simp only [gI_of (TC_sh hi), Option.bind_some, pI_of (TC_sh hi), zn_eq, nI_1]
  rw [hx]
  unfold pdv
  rw [if_neg hn]
  by_cases h1 : d < x
  · rw [if_pos h1, if_neg (by rw [fa_lt] at h1; rw [fa_le]; omega), zu_id hx]
  · rw [if_neg h1]
    by_cases h2 : x ≤ o
    · rw [if_pos h2, if_neg (by rw [fa_le] at h2; rw [fa_lt x o, fa_lt o x] at *; omega), zu_id hx]
    · rw [if_neg h2, if_pos ⟨fa_of_nlt h1, fa_of_nle h2⟩]
theorem e_putAtDepth (hN : 20 < N) {k0 : Nat} (hk : k0 < 20) (d : Int32) : f_X7_putAtDepth TC N (G, rfC q) 2 (4 + k0) d = some (zu (mapC G (liv G) 6 (pdv d (G (4 + k0) 6)) 20) (4 + k0) 6 d, rfC q) := by
  unfold f_X7_putAtDepth
  rw [zz1_of TC_2]
  simp only [gI_of (TC_sh hk), Option.bind_some]
  refine zl2_end 20 (fun i => nI i) (fun i => (mapC G (liv G) 6 (pdv d (G (4 + k0) 6)) i, rfC q)) nI_0.symm (by rw [mapC_0]) hN (fun i hi k => ?_) (fun k => ?_)
  · unfold f_X7_putAtDepth_L8
    simp only [gR_of TC_2, rf_2_0, Option.bind_some, aL_of TC_3, TL_3]
    rw [if_neg (nI_ge hi (by decide)), e_find_k hi, zb2_some, liv_mapC (by decide)]
    have e6 : mapC G (liv G) 6 (pdv d (G (4 + k0) 6)) i (4 + i) 6 = G (4 + i) 6 := mapC_out (Or.inr (Or.inl (by omega)))
    by_cases hl : liv G i = true
    · rw [if_pos hl, zo_some, mapC_t hl]
      simp only [gI_of (TC_sh hi), Option.bind_some, pI_of (TC_sh hi), zn_eq]
      rw [e6]
      by_cases h1 : G (4 + i) 6 < d
      · rw [if_pos h1]
        exact e_putAtDepth_J hi rfl e6 (by rintro ⟨h, -⟩; rw [fa_le] at h; rw [fa_lt] at h1; omega)
      · rw [if_neg h1]
        by_cases h2 : G (4 + k0) 6 ≤ G (4 + i) 6
        · rw [if_pos h2]
          exact e_putAtDepth_J hi rfl e6 (by rintro ⟨-, h⟩; rw [fa_lt] at h; rw [fa_le] at h2; omega)
        · rw [if_neg h2, nI_1]
          unfold pdv
          rw [if_pos ⟨fa_of_nlt h1, fa_of_nle h2⟩]
    · rw [if_neg hl, zo_none, zn_eq, nI_1, mapC_f hl]
  · unfold f_X7_putAtDepth_L8
    simp only [gR_of TC_2, rf_2_0, Option.bind_some, aL_of TC_3, TL_3]
    rw [if_pos (nI_le (Nat.le_refl 20) (by decide))]
    simp only [pI_of (TC_sh hk), Option.bind_some]
end NOW2
