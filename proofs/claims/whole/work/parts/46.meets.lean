/-! a line and a rectangle: the reference's side -/
def lsB (f : Nat → Int64) : Nat → Bool
  | 0 => false
  | i + 1 => lsB f i || decide (f i < 0)
def mrB (f : Nat → Int64) : Nat → Bool
  | 0 => false
  | i + 1 => mrB f i || decide (0 < f i)
/-- on which side of the line corner i lies -/
def sdI (x1 x2 x3 x4 L R T B : Int32) (i : Nat) : Int64 := ((x3 - x1).toInt64 * ((if 2 ≤ i then B else T).toInt64 - x2.toInt64)) - ((x4 - x2).toInt64 * ((if i % 2 = 1 then R else L).toInt64 - x1.toInt64))
theorem zls_4 {f : Nat → Int64} : lsB f 4 = true ↔ (f 0).toInt < 0 ∨ (f 1).toInt < 0 ∨ (f 2).toInt < 0 ∨ (f 3).toInt < 0 := by
  have e0 : (0 : Int64).toInt = 0 := by decide
  simp only [lsB, Bool.or_eq_true, decide_eq_true_eq, fa_lt64, e0, Bool.false_or]
  constructor
  · rintro (((h | h) | h) | h)
    · exact Or.inl h
    · exact Or.inr (Or.inl h)
    · exact Or.inr (Or.inr (Or.inl h))
    · exact Or.inr (Or.inr (Or.inr h))
  · rintro (h | h | h | h)
    · exact Or.inl (Or.inl (Or.inl h))
    · exact Or.inl (Or.inl (Or.inr h))
    · exact Or.inl (Or.inr h)
    · exact Or.inr h
theorem zmr_4 {f : Nat → Int64} : mrB f 4 = true ↔ 0 < (f 0).toInt ∨ 0 < (f 1).toInt ∨ 0 < (f 2).toInt ∨ 0 < (f 3).toInt := by
  have e0 : (0 : Int64).toInt = 0 := by decide
  simp only [mrB, Bool.or_eq_true, decide_eq_true_eq, fa_lt64, e0, Bool.false_or]
  constructor
  · rintro (((h | h) | h) | h)
    · exact Or.inl h
    · exact Or.inr (Or.inl h)
    · exact Or.inr (Or.inr (Or.inl h))
    · exact Or.inr (Or.inr (Or.inr h))
  · rintro (h | h | h | h)
    · exact Or.inl (Or.inl (Or.inl h))
    · exact Or.inl (Or.inl (Or.inr h))
    · exact Or.inl (Or.inr h)
    · exact Or.inr h
section MTS
variable {G M : Nat → Nat → Int32} {q : Nat → Option Nat} {N : Nat} {ρ : Nat → Nat → Option Nat} {s i c : Nat} {x1 x2 x3 x4 : Int32}
theorem mB0 (hs : s < 20) (hf : ∀ j, 2 ≤ j → j < 6 → M 1 (10 + 8 * s + j) = G (4 + s) j) : f_X12_begin TM N (M, rfM) 0 (nI s) (0 : Int32) = some (G (4 + s) 2, (M, rfM)) := (m_begin (α := 0) hs (by omega)).trans (by rw [hf _ (by omega) (by omega)])
theorem mB1 (hs : s < 20) (hf : ∀ j, 2 ≤ j → j < 6 → M 1 (10 + 8 * s + j) = G (4 + s) j) : f_X12_begin TM N (M, rfM) 0 (nI s) (1 : Int32) = some (G (4 + s) 3, (M, rfM)) := (m_begin (α := 1) hs (by omega)).trans (by rw [hf _ (by omega) (by omega)])
theorem mE0 (hs : s < 20) (hf : ∀ j, 2 ≤ j → j < 6 → M 1 (10 + 8 * s + j) = G (4 + s) j) : f_X12_end TM N (M, rfM) 0 (nI s) (0 : Int32) = some (G (4 + s) 2 + G (4 + s) 4, (M, rfM)) := (m_end (α := 0) hs (by omega)).trans (by rw [hf _ (by omega) (by omega), hf _ (by omega) (by omega)])
theorem mE1 (hs : s < 20) (hf : ∀ j, 2 ≤ j → j < 6 → M 1 (10 + 8 * s + j) = G (4 + s) j) : f_X12_end TM N (M, rfM) 0 (nI s) (1 : Int32) = some (G (4 + s) 3 + G (4 + s) 5, (M, rfM)) := (m_end (α := 1) hs (by omega)).trans (by rw [hf _ (by omega) (by omega), hf _ (by omega) (by omega)])
theorem m_J211 {a b : Bool} {k : Int32 → Int32 → Int32 → zS → Option (Int32 × zS)} {y23 y25 v : Int64} {σ : zS} (hv : ((x3 - x1).toInt64 * (y25 - x2.toInt64)) - ((x4 - x2).toInt64 * (y23 - x1.toInt64)) = v) : f_X12_meets_J211 TM N x1 x2 x3 x4 (bI a) (bI b) (nI i) k y23 y25 σ = k (bI (a || decide (v < 0))) (bI (b || decide (0 < v))) (nI (i + 1)) σ := by
  have hj : ∀ z : Int32, f_X12_meets_J257 TM N (bI b) (nI i) k σ v z = k z (bI (b || decide (0 < v))) (nI (i + 1)) σ := fun z => by
    unfold f_X12_meets_J257
    cases b
    · rw [if_neg (by decide)]
      by_cases h : 0 < v
      · rw [if_neg (fun q => absurd ((lg_cmp_le _ _).mp q) (by rw [fa_le64]; rw [fa_lt64] at h; omega)), zn_eq, nI_1, decide_eq_true h]
        rfl
      · rw [if_pos ((lg_cmp_le _ _).mpr (by rw [fa_le64]; rw [fa_lt64] at h; omega)), zn_eq, nI_1, decide_eq_false h]
        rfl
    · rw [if_pos (by decide), zn_eq, nI_1]
      rfl
  unfold f_X12_meets_J211
  rw [zn_eq, hv]
  cases a
  · rw [if_neg (by decide)]
    by_cases h : v < 0
    · rw [if_neg (fun q => absurd ((lg_cmp_ge _ _).mp q) (by rw [fa_le64]; rw [fa_lt64] at h; omega)), hj, decide_eq_true h]
      rfl
    · rw [if_pos ((lg_cmp_ge _ _).mpr (by rw [fa_le64]; rw [fa_lt64] at h; omega)), hj, decide_eq_false h]
      rfl
  · rw [if_pos (by decide), hj]
    rfl
theorem m_meetsL (hN : 20 < N) (hs : s < 20) (hf : ∀ j, 2 ≤ j → j < 6 → M 1 (10 + 8 * s + j) = G (4 + s) j) {f : Nat → Int64} (hF : f = sdI x1 x2 x3 x4 (G (4 + s) 2) (G (4 + s) 2 + G (4 + s) 4) (G (4 + s) 3) (G (4 + s) 3 + G (4 + s) 5)) :
    zl4 (f_X12_meets_L156 TM N 0 (nI s) x1 x2 x3 x4) N (0 : Int32) (0 : Int32) (0 : Int32) (M, rfM) = some (bI (decide (x1 = x3 ∧ x2 = x4) || (lsB f 4 && mrB f 4)), (M, rfM)) := by
  refine zl4_end 4 (fun i => bI (lsB f i)) (fun i => bI (mrB f i)) (fun i => nI i) (fun _ => (M, rfM)) rfl rfl nI_0.symm rfl (by omega) (fun i hi k => ?_) (fun k => ?_)
  · unfold f_X12_meets_L156 f_X12_meets_J186
    rw [if_neg (show ¬ (4 : Int32) ≤ nI i from nI_ge hi (by decide))]
    have h4 : i = 0 ∨ i = 1 ∨ i = 2 ∨ i = 3 := by omega
    subst hF
    rcases h4 with rfl | rfl | rfl | rfl
    · rw [if_neg (by decide), mB0 hs hf, zb2_some, if_neg (by decide), mB1 hs hf, zb2_some]
      exact m_J211 rfl
    · rw [if_pos (by decide), mE0 hs hf, zb2_some, if_neg (by decide), mB1 hs hf, zb2_some]
      exact m_J211 rfl
    · rw [if_neg (by decide), mB0 hs hf, zb2_some, if_pos (by decide), mE1 hs hf, zb2_some]
      exact m_J211 rfl
    · rw [if_pos (by decide), mE0 hs hf, zb2_some, if_pos (by decide), mE1 hs hf, zb2_some]
      exact m_J211 rfl
  · unfold f_X12_meets_L156 f_X12_meets_J297
    rw [if_pos (show (4 : Int32) ≤ nI 4 by decide)]
    have hj : (if bI (lsB f 4) = 0 then rZ 0 (M, rfM) else if bI (mrB f 4) = 0 then rZ 0 (M, rfM) else rZ 1 (M, rfM)) = some (bI (lsB f 4 && mrB f 4), (M, rfM)) := by
      cases lsB f 4 <;> cases mrB f 4 <;> rfl
    rw [hj]
    by_cases h1 : x1 = x3
    · rw [if_neg (fun n => n h1)]
      by_cases h2 : x2 = x4
      · rw [if_pos h2, decide_eq_true ⟨h1, h2⟩]
        rfl
      · rw [if_neg h2, decide_eq_false (fun q => h2 q.2)]
        rfl
    · rw [if_pos h1, decide_eq_false (fun q => h1 q.1)]
      rfl
end MTS
