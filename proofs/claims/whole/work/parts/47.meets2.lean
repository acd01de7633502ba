/-! a line and a rectangle: both sides are one -/
theorem sd_gen {x1 x2 x3 x4 u v : Int32} (b1 : Bd x1) (b2 : Bd x2) (b3 : Bd x3) (b4 : Bd x4) (bu : Bd u) (bv : Bd v) : (((x3 - x1).toInt64 * (u.toInt64 - x2.toInt64)) - ((x4 - x2).toInt64 * (v.toInt64 - x1.toInt64))).toInt = (x3.toInt - x1.toInt) * (u.toInt - x2.toInt) - (x4.toInt - x2.toInt) * (v.toInt - x1.toInt) := by
  unfold Bd at *
  have a1 : (x3 - x1).toInt64.toInt = x3.toInt - x1.toInt := by rw [Int32.toInt_toInt64, Jvm.Kit.i32_sub (by omega) (by omega)]
  have a2 : (x4 - x2).toInt64.toInt = x4.toInt - x2.toInt := by rw [Int32.toInt_toInt64, Jvm.Kit.i32_sub (by omega) (by omega)]
  have a3 : (u.toInt64 - x2.toInt64).toInt = u.toInt - x2.toInt := by rw [Jvm.Kit.i64_sub (by rw [Int32.toInt_toInt64, Int32.toInt_toInt64]; omega) (by rw [Int32.toInt_toInt64, Int32.toInt_toInt64]; omega), Int32.toInt_toInt64, Int32.toInt_toInt64]
  have a4 : (v.toInt64 - x1.toInt64).toInt = v.toInt - x1.toInt := by rw [Jvm.Kit.i64_sub (by rw [Int32.toInt_toInt64, Int32.toInt_toInt64]; omega) (by rw [Int32.toInt_toInt64, Int32.toInt_toInt64]; omega), Int32.toInt_toInt64, Int32.toInt_toInt64]
  have m1 : ((x3 - x1).toInt64 * (u.toInt64 - x2.toInt64)).toInt = (x3.toInt - x1.toInt) * (u.toInt - x2.toInt) := by rw [mul64 (by omega) (by omega) (by omega) (by omega), a1, a3]
  have m2 : ((x4 - x2).toInt64 * (v.toInt64 - x1.toInt64)).toInt = (x4.toInt - x2.toInt) * (v.toInt - x1.toInt) := by rw [mul64 (by omega) (by omega) (by omega) (by omega), a2, a4]
  have n1 := mulb (a := x3.toInt - x1.toInt) (b := u.toInt - x2.toInt) (by omega) (by omega) (by omega) (by omega)
  have n2 := mulb (a := x4.toInt - x2.toInt) (b := v.toInt - x1.toInt) (by omega) (by omega) (by omega) (by omega)
  rw [Jvm.Kit.i64_sub (by rw [m1, m2]; omega) (by rw [m1, m2]; omega), m1, m2]
/-- an upright or level line that is not beside the rectangle has corners on both sides -/
theorem both_sides {d L R a t1 t2 : Int} (hd : d ≠ 0) (h1 : ¬ a ≤ L) (h2 : ¬ R ≤ a) (e1 : t1 = 0) (e2 : t2 = 0) : (t1 < d * (L - a) ∨ t1 < d * (R - a) ∨ t2 < d * (L - a) ∨ t2 < d * (R - a)) ∧ (d * (L - a) < t1 ∨ d * (R - a) < t1 ∨ d * (L - a) < t2 ∨ d * (R - a) < t2) := by
  subst e1
  subst e2
  rcases Int.lt_or_gt_of_ne hd with h | h
  · have p1 := Int.mul_pos_of_neg_of_neg h (show L - a < 0 by omega)
    have p2 := Int.mul_neg_of_neg_of_pos h (show 0 < R - a by omega)
    exact ⟨Or.inl p1, Or.inr (Or.inl p2)⟩
  · have p1 := Int.mul_neg_of_pos_of_neg h (show L - a < 0 by omega)
    have p2 := Int.mul_pos h (show 0 < R - a by omega)
    exact ⟨Or.inr (Or.inl p2), Or.inl p1⟩
section MT2
variable {G M : Nat → Nat → Int32} {q : Nat → Option Nat} {N : Nat} {ρ : Nat → Nat → Option Nat} {s i c : Nat} {x1 x2 x3 x4 : Int32}
theorem m_J138_1 {σ : zS} : f_X12_meets_J138 TM N 0 (nI s) x1 x2 x3 x4 1 σ = some (0, σ) := by
  unfold f_X12_meets_J138
  rw [if_neg (by decide)]
  rfl
theorem m_J138_0 {σ : zS} : f_X12_meets_J138 TM N 0 (nI s) x1 x2 x3 x4 0 σ = zl4 (f_X12_meets_L156 TM N 0 (nI s) x1 x2 x3 x4) N (0 : Int32) (0 : Int32) (0 : Int32) σ := by
  unfold f_X12_meets_J138
  rw [if_pos rfl]
theorem m_meetsW (hs : s < 20) (hf : ∀ j, 2 ≤ j → j < 6 → M 1 (10 + 8 * s + j) = G (4 + s) j) {Wv : Option (Int32 × zS)} (hW : zl4 (f_X12_meets_L156 TM N 0 (nI s) x1 x2 x3 x4) N (0 : Int32) (0 : Int32) (0 : Int32) (M, rfM) = Wv) (hi : i < 3) (v1 : M 3 i = x1) (v2 : M 4 i = x2) (v3 : M 3 (i + 1) = x3) (v4 : M 4 (i + 1) = x4) :
    f_X12_meets TM N (M, rfM) 0 (nI i) (nI s) = if (x1.toInt ≤ (G (4 + s) 2).toInt ∧ x3.toInt ≤ (G (4 + s) 2).toInt) ∨ ((G (4 + s) 2 + G (4 + s) 4).toInt ≤ x1.toInt ∧ (G (4 + s) 2 + G (4 + s) 4).toInt ≤ x3.toInt) ∨ (x2.toInt ≤ (G (4 + s) 3).toInt ∧ x4.toInt ≤ (G (4 + s) 3).toInt) ∨ ((G (4 + s) 3 + G (4 + s) 5).toInt ≤ x2.toInt ∧ (G (4 + s) 3 + G (4 + s) 5).toInt ≤ x4.toInt) then some (0, (M, rfM)) else Wv := by
  have j111 : f_X12_meets_J111 TM N 0 (nI s) x1 x2 x3 x4 (M, rfM) = if (G (4 + s) 3 + G (4 + s) 5).toInt ≤ x2.toInt ∧ (G (4 + s) 3 + G (4 + s) 5).toInt ≤ x4.toInt then some (0, (M, rfM)) else Wv := by
    unfold f_X12_meets_J111
    rw [mE1 hs hf, zb2_some]
    by_cases h : x2 < G (4 + s) 3 + G (4 + s) 5
    · rw [if_pos h, m_J138_0, hW, if_neg (by rw [fa_lt] at h; omega)]
    · rw [if_neg h, mE1 hs hf, zb2_some]
      by_cases h2 : x4 < G (4 + s) 3 + G (4 + s) 5
      · rw [if_pos h2, m_J138_0, hW, if_neg (by rw [fa_lt] at h2; omega)]
      · rw [if_neg h2, m_J138_1, if_pos (by rw [fa_lt] at h h2; omega)]
  have j82 : f_X12_meets_J82 TM N 0 (nI s) x1 x2 x3 x4 0 (M, rfM) = if (x2.toInt ≤ (G (4 + s) 3).toInt ∧ x4.toInt ≤ (G (4 + s) 3).toInt) ∨ ((G (4 + s) 3 + G (4 + s) 5).toInt ≤ x2.toInt ∧ (G (4 + s) 3 + G (4 + s) 5).toInt ≤ x4.toInt) then some (0, (M, rfM)) else Wv := by
    unfold f_X12_meets_J82
    rw [if_neg (show ¬ ¬ (0 : Int32) = 0 by decide), mB1 hs hf, zb2_some]
    by_cases h : G (4 + s) 3 < x2
    · rw [if_pos h, j111]
      rw [fa_lt] at h
      by_cases h2 : (G (4 + s) 3 + G (4 + s) 5).toInt ≤ x2.toInt ∧ (G (4 + s) 3 + G (4 + s) 5).toInt ≤ x4.toInt
      · rw [if_pos h2, if_pos (Or.inr h2)]
      · rw [if_neg h2, if_neg (by omega)]
    · rw [if_neg h, mB1 hs hf, zb2_some]
      by_cases h3 : x4 ≤ G (4 + s) 3
      · rw [if_pos h3, m_J138_1, if_pos (by rw [fa_lt] at h; rw [fa_le] at h3; omega)]
      · rw [if_neg h3, j111]
        rw [fa_le] at h3
        by_cases h2 : (G (4 + s) 3 + G (4 + s) 5).toInt ≤ x2.toInt ∧ (G (4 + s) 3 + G (4 + s) 5).toInt ≤ x4.toInt
        · rw [if_pos h2, if_pos (Or.inr h2)]
        · rw [if_neg h2, if_neg (by omega)]
  have j82' : f_X12_meets_J82 TM N 0 (nI s) x1 x2 x3 x4 1 (M, rfM) = some (0, (M, rfM)) := by
    unfold f_X12_meets_J82
    rw [if_pos (by decide), m_J138_1]
  have j56 : f_X12_meets_J56 TM N 0 (nI s) x1 x2 x3 x4 (M, rfM) = if ((G (4 + s) 2 + G (4 + s) 4).toInt ≤ x1.toInt ∧ (G (4 + s) 2 + G (4 + s) 4).toInt ≤ x3.toInt) ∨ (x2.toInt ≤ (G (4 + s) 3).toInt ∧ x4.toInt ≤ (G (4 + s) 3).toInt) ∨ ((G (4 + s) 3 + G (4 + s) 5).toInt ≤ x2.toInt ∧ (G (4 + s) 3 + G (4 + s) 5).toInt ≤ x4.toInt) then some (0, (M, rfM)) else Wv := by
    unfold f_X12_meets_J56
    rw [mE0 hs hf, zb2_some]
    by_cases h : x1 < G (4 + s) 2 + G (4 + s) 4
    · rw [if_pos h, j82]
      rw [fa_lt] at h
      split
      · rename_i h2
        rw [if_pos (Or.inr h2)]
      · rename_i h2
        rw [if_neg (fun q => q.elim (fun q => by omega) h2)]
    · rw [if_neg h, mE0 hs hf, zb2_some]
      by_cases h3 : x3 < G (4 + s) 2 + G (4 + s) 4
      · rw [if_pos h3, j82]
        rw [fa_lt] at h3
        split
        · rename_i h2
          rw [if_pos (Or.inr h2)]
        · rename_i h2
          rw [if_neg (fun q => q.elim (fun q => by omega) h2)]
      · rw [if_neg h3, j82', if_pos (by rw [fa_lt] at h h3; omega)]
  unfold f_X12_meets
  rw [zz1_of TM_0, gm3, Option.bind_some, aI_of TM_3 ML_3 (show i < 4 by omega) (by decide), v1, Option.bind_some, gm4, Option.bind_some, aI_of TM_4 ML_4 (show i < 4 by omega) (by decide), v2, Option.bind_some]
  simp only [gm3, gm4, Option.bind_some, nI_1]
  rw [aI_of TM_3 ML_3 (show i + 1 < 4 by omega) (by decide), v3, Option.bind_some, aI_of TM_4 ML_4 (show i + 1 < 4 by omega) (by decide), v4, Option.bind_some, mB0 hs hf, zb2_some]
  by_cases h : G (4 + s) 2 < x1
  · rw [if_pos h, j56]
    rw [fa_lt] at h
    split
    · rename_i h2
      rw [if_pos (Or.inr h2)]
    · rename_i h2
      rw [if_neg (fun q => q.elim (fun q => by omega) h2)]
  · rw [if_neg h, mB0 hs hf, zb2_some]
    by_cases h3 : x3 ≤ G (4 + s) 2
    · rw [if_pos h3, j82', if_pos (by rw [fa_lt] at h; rw [fa_le] at h3; omega)]
    · rw [if_neg h3, j56]
      rw [fa_le] at h3
      split
      · rename_i h2
        rw [if_pos (Or.inr h2)]
      · rename_i h2
        rw [if_neg (fun q => q.elim (fun q => by omega) h2)]
theorem m_meets (hN : 20 < N) (hs : s < 20) (hF : Rct G (4 + s)) (hf : ∀ j, 2 ≤ j → j < 6 → M 1 (10 + 8 * s + j) = G (4 + s) j) (b1 : Bd x1) (b2 : Bd x2) (b3 : Bd x3) (b4 : Bd x4) (hi : i < 3) (v1 : M 3 i = x1) (v2 : M 4 i = x2) (v3 : M 3 (i + 1) = x3) (v4 : M 4 (i + 1) = x4) :
    f_X12_meets TM N (M, rfM) 0 (nI i) (nI s) = some (bI (crB x1.toInt x2.toInt x3.toInt x4.toInt (G (4 + s) 2).toInt (G (4 + s) 2 + G (4 + s) 4).toInt (G (4 + s) 3).toInt (G (4 + s) 3 + G (4 + s) 5).toInt), (M, rfM)) := by
  rw [m_meetsW hs hf (m_meetsL hN hs hf rfl) hi v1 v2 v3 v4]
  have f2 := hF.1 2 (by omega) (by omega)
  have f3 := hF.1 3 (by omega) (by omega)
  have f4 := hF.2 4 (by omega) (by omega)
  have f5 := hF.2 5 (by omega) (by omega)
  have g0 : (G (4 + s) 2 + G (4 + s) 4).toInt = (G (4 + s) 2).toInt + (G (4 + s) 4).toInt := Rct_end hF (α := 0) (by omega)
  have g1 : (G (4 + s) 3 + G (4 + s) 5).toInt = (G (4 + s) 3).toInt + (G (4 + s) 5).toInt := Rct_end hF (α := 1) (by omega)
  have bL : Bd (G (4 + s) 2) := ⟨by omega, by omega⟩
  have bT : Bd (G (4 + s) 3) := ⟨by omega, by omega⟩
  have bR : Bd (G (4 + s) 2 + G (4 + s) 4) := ⟨by omega, by omega⟩
  have bB : Bd (G (4 + s) 3 + G (4 + s) 5) := ⟨by omega, by omega⟩
  split
  · rename_i h
    refine congrArg (fun d => some (d, (M, rfM))) ?_
    unfold crB
    rw [decide_eq_false (fun q => ?_)]
    · rfl
    · rcases h with h | h | h | h
      · exact q.1 h
      · exact q.2.1 h
      · exact q.2.2.1 h
      · exact q.2.2.2.1 h
  · rename_i h
    refine congrArg (fun d => some (bI d, (M, rfM))) ?_
    have k0 : (sdI x1 x2 x3 x4 (G (4 + s) 2) (G (4 + s) 2 + G (4 + s) 4) (G (4 + s) 3) (G (4 + s) 3 + G (4 + s) 5) 0).toInt = (x3.toInt - x1.toInt) * ((G (4 + s) 3).toInt - x2.toInt) - (x4.toInt - x2.toInt) * ((G (4 + s) 2).toInt - x1.toInt) := sd_gen b1 b2 b3 b4 bT bL
    have k1 : (sdI x1 x2 x3 x4 (G (4 + s) 2) (G (4 + s) 2 + G (4 + s) 4) (G (4 + s) 3) (G (4 + s) 3 + G (4 + s) 5) 1).toInt = (x3.toInt - x1.toInt) * ((G (4 + s) 3).toInt - x2.toInt) - (x4.toInt - x2.toInt) * ((G (4 + s) 2 + G (4 + s) 4).toInt - x1.toInt) := sd_gen b1 b2 b3 b4 bT bR
    have k2 : (sdI x1 x2 x3 x4 (G (4 + s) 2) (G (4 + s) 2 + G (4 + s) 4) (G (4 + s) 3) (G (4 + s) 3 + G (4 + s) 5) 2).toInt = (x3.toInt - x1.toInt) * ((G (4 + s) 3 + G (4 + s) 5).toInt - x2.toInt) - (x4.toInt - x2.toInt) * ((G (4 + s) 2).toInt - x1.toInt) := sd_gen b1 b2 b3 b4 bB bL
    have k3 : (sdI x1 x2 x3 x4 (G (4 + s) 2) (G (4 + s) 2 + G (4 + s) 4) (G (4 + s) 3) (G (4 + s) 3 + G (4 + s) 5) 3).toInt = (x3.toInt - x1.toInt) * ((G (4 + s) 3 + G (4 + s) 5).toInt - x2.toInt) - (x4.toInt - x2.toInt) * ((G (4 + s) 2 + G (4 + s) 4).toInt - x1.toInt) := sd_gen b1 b2 b3 b4 bB bR
    have hl := zls_4 (f := sdI x1 x2 x3 x4 (G (4 + s) 2) (G (4 + s) 2 + G (4 + s) 4) (G (4 + s) 3) (G (4 + s) 3 + G (4 + s) 5))
    have hm := zmr_4 (f := sdI x1 x2 x3 x4 (G (4 + s) 2) (G (4 + s) 2 + G (4 + s) 4) (G (4 + s) 3) (G (4 + s) 3 + G (4 + s) 5))
    rw [k0, k1, k2, k3] at hl hm
    unfold crB
    rw [Bool.eq_iff_iff, Bool.or_eq_true, Bool.and_eq_true, hl, hm, decide_eq_true_iff, decide_eq_true_iff]
    have nL := both_sides (d := x4.toInt - x2.toInt) (L := (G (4 + s) 2).toInt) (R := (G (4 + s) 2 + G (4 + s) 4).toInt) (a := x1.toInt) (t1 := (x3.toInt - x1.toInt) * ((G (4 + s) 3).toInt - x2.toInt)) (t2 := (x3.toInt - x1.toInt) * ((G (4 + s) 3 + G (4 + s) 5).toInt - x2.toInt))
    have nT := both_sides (d := x3.toInt - x1.toInt) (L := (G (4 + s) 3).toInt) (R := (G (4 + s) 3 + G (4 + s) 5).toInt) (a := x2.toInt) (t1 := (x4.toInt - x2.toInt) * ((G (4 + s) 2).toInt - x1.toInt)) (t2 := (x4.toInt - x2.toInt) * ((G (4 + s) 2 + G (4 + s) 4).toInt - x1.toInt))
    have z : ∀ u v : Int, u = v → ∀ w : Int, (u - v) * w = 0 := fun u v e w => by rw [e, Int.sub_self, Int.zero_mul]
    have zT1 := z x3.toInt x1.toInt
    have zL1 := z x4.toInt x2.toInt
    have e13 : x1 = x3 ↔ x1.toInt = x3.toInt := fa_eq _ _
    have e24 : x2 = x4 ↔ x2.toInt = x4.toInt := fa_eq _ _
    have c1 : x3.toInt = x1.toInt → (x3.toInt - x1.toInt) * ((G (4 + s) 3).toInt - x2.toInt) = 0 := fun e => zT1 e _
    have c2 : x3.toInt = x1.toInt → (x3.toInt - x1.toInt) * ((G (4 + s) 3 + G (4 + s) 5).toInt - x2.toInt) = 0 := fun e => zT1 e _
    have c3 : x4.toInt = x2.toInt → (x4.toInt - x2.toInt) * ((G (4 + s) 2).toInt - x1.toInt) = 0 := fun e => zL1 e _
    have c4 : x4.toInt = x2.toInt → (x4.toInt - x2.toInt) * ((G (4 + s) 2 + G (4 + s) 4).toInt - x1.toInt) = 0 := fun e => zL1 e _
    rw [e13, e24]
    generalize (x3.toInt - x1.toInt) * ((G (4 + s) 3).toInt - x2.toInt) = T1 at *
    generalize (x3.toInt - x1.toInt) * ((G (4 + s) 3 + G (4 + s) 5).toInt - x2.toInt) = T2 at *
    generalize (x4.toInt - x2.toInt) * ((G (4 + s) 2).toInt - x1.toInt) = P1 at *
    generalize (x4.toInt - x2.toInt) * ((G (4 + s) 2 + G (4 + s) 4).toInt - x1.toInt) = P2 at *
    constructor
    · rintro (⟨h1, h2⟩ | ⟨h1, h2⟩)
      · exact ⟨fun q => h (Or.inl q), fun q => h (Or.inr (Or.inl q)), fun q => h (Or.inr (Or.inr (Or.inl q))), fun q => h (Or.inr (Or.inr (Or.inr q))), Or.inl h1⟩
      · exact ⟨fun q => h (Or.inl q), fun q => h (Or.inr (Or.inl q)), fun q => h (Or.inr (Or.inr (Or.inl q))), fun q => h (Or.inr (Or.inr (Or.inr q))), Or.inr (Or.inr ⟨by omega, by omega⟩)⟩
    · rintro ⟨h1, h2, h3, h4, h5⟩
      by_cases hx : x1.toInt = x3.toInt
      · by_cases hy : x2.toInt = x4.toInt
        · exact Or.inl ⟨hx, hy⟩
        · have := nL (by omega) (by omega) (by omega) (c1 hx.symm) (c2 hx.symm)
          exact Or.inr ⟨by omega, by omega⟩
      · by_cases hy : x2.toInt = x4.toInt
        · have := nT (by omega) (by omega) (by omega) (c3 hy.symm) (c4 hy.symm)
          exact Or.inr ⟨by omega, by omega⟩
        · have h6 := (h5.resolve_left hx).resolve_left hy
          exact Or.inr ⟨by omega, by omega⟩
end MT2
