/-! floorDiv and floorMod of the class, the reference's rest: by a positive divisor -/
theorem xor_pos {x d : Int32} (hd : 0 ≤ d.toInt) : 0 ≤ (x ^^^ d) ↔ 0 ≤ x.toInt := by
  have key : ∀ y : Int32, 0 ≤ y.toInt ↔ bt y 31 = false := by
    intro y
    show 0 ≤ y.toBitVec.toInt ↔ y.toBitVec.getLsbD 31 = false
    rw [BitVec.toInt_eq_msb_cond, BitVec.msb_eq_getLsbD_last]
    have := y.toBitVec.isLt
    by_cases hm : y.toBitVec.getLsbD 31 = true
    · rw [if_pos hm, hm]
      constructor
      · intro h; omega
      · intro h; cases h
    · rw [if_neg hm]
      constructor
      · intro _; simpa using hm
      · intro _; omega
  rw [fa_le, show (0 : Int32).toInt = 0 by decide, key, b_xor, (key d).mp hd, Bool.xor_false, ← key]
/-- quotient and rest towards 0 of a negative number -/
theorem tq_neg {X D : Int} (hX : X < 0) (hD : 0 < D) : ∃ k r : Int, X.tdiv D = -k ∧ 0 ≤ k ∧ k ≤ -X ∧ 0 ≤ r ∧ r < D ∧ X = -(D * k) - r ∧ (r = 0 → X / D = -k ∧ X % D = 0) ∧ (0 < r → X / D = -k - 1 ∧ X % D = D - r) := by
  have hY : 0 ≤ -X := by omega
  have e1 : X.tdiv D = -((-X) / D) := by
    have h := Int.neg_tdiv (-X) D
    rw [Int.neg_neg] at h
    rw [h, Int.tdiv_eq_ediv_of_nonneg hY]
  have e2 : (-X) % D + D * ((-X) / D) = -X := Int.emod_add_mul_ediv (-X) D
  have e3 := Int.emod_nonneg (-X) (show D ≠ 0 by omega)
  have e4 := Int.emod_lt_of_pos (-X) hD
  refine ⟨(-X) / D, (-X) % D, e1, Int.ediv_nonneg hY (by omega), Int.ediv_le_self D hY, e3, e4, by omega, fun h => ?_, fun h => ?_⟩
  · refine (Int.ediv_emod_unique hD).mpr ⟨?_, by omega, hD⟩
    rw [Int.mul_neg]
    omega
  · refine (Int.ediv_emod_unique hD).mpr ⟨?_, by omega, by omega⟩
    rw [Int.mul_sub, Int.mul_neg, Int.mul_one]
    omega
theorem i_div_neg {x d : Int32} (hx : x.toInt < 0) (hd : 0 < d.toInt) : ∃ k r : Int, (x / d).toInt = -k ∧ 0 ≤ k ∧ k ≤ -x.toInt ∧ 0 ≤ r ∧ r < d.toInt ∧ x.toInt = -(d.toInt * k) - r ∧ (r = 0 → x.toInt / d.toInt = -k ∧ x.toInt % d.toInt = 0) ∧ (0 < r → x.toInt / d.toInt = -k - 1 ∧ x.toInt % d.toInt = d.toInt - r) ∧ (x / d * d).toInt = -(d.toInt * k) ∧ (x - x / d * d).toInt = -r := by
  obtain ⟨k, r, h1, h2, h3, h4, h5, h6, h7, h8⟩ := tq_neg hx hd
  have l1 := x.le_toInt
  have l2 := d.toInt_lt
  have e1 : (x / d).toInt = -k := by rw [Jvm.Kit.i32_div (by omega), h1]
  have e2 : (x / d * d).toInt = -(d.toInt * k) := by
    have em : (x / d).toInt * d.toInt = -(d.toInt * k) := by rw [e1, Int.neg_mul, Int.mul_comm]
    rw [Jvm.Kit.i32_mul (by rw [em]; omega) (by rw [em]; omega), em]
  exact ⟨k, r, e1, h2, h3, h4, h5, h6, h7, h8, e2, by rw [Jvm.Kit.i32_sub (by rw [e2]; omega) (by rw [e2]; omega), e2]; omega⟩
theorem i_div_pos {x d : Int32} (hx : 0 ≤ x.toInt) (hd : 0 < d.toInt) : (x / d).toInt = x.toInt / d.toInt ∧ (x - x / d * d).toInt = x.toInt % d.toInt := by
  have e1 : (x / d).toInt = x.toInt / d.toInt := by rw [Jvm.Kit.i32_div (by omega), Int.tdiv_eq_ediv_of_nonneg hx]
  have e2 : x.toInt % d.toInt + d.toInt * (x.toInt / d.toInt) = x.toInt := Int.emod_add_mul_ediv _ _
  have e3 := Int.emod_nonneg x.toInt (show d.toInt ≠ 0 by omega)
  have e4 : 0 ≤ d.toInt * (x.toInt / d.toInt) := Int.mul_nonneg (by omega) (Int.ediv_nonneg hx (by omega))
  have l2 := x.toInt_lt
  have em : (x / d).toInt * d.toInt = d.toInt * (x.toInt / d.toInt) := by rw [e1, Int.mul_comm]
  have e5 : (x / d * d).toInt = d.toInt * (x.toInt / d.toInt) := by rw [Jvm.Kit.i32_mul (by rw [em]; omega) (by rw [em]; omega), em]
  exact ⟨e1, by rw [Jvm.Kit.i32_sub (by rw [e5]; omega) (by rw [e5]; omega), e5]; omega⟩
theorem fdJ_int {x d : Int32} (hd : 0 < d.toInt) : (fdJ x d).toInt = x.toInt / d.toInt := by
  unfold fdJ
  by_cases hx : 0 ≤ x.toInt
  · rw [if_pos ((xor_pos (by omega)).mpr hx)]
    exact (i_div_pos hx hd).1
  · rw [if_neg (fun h => hx ((xor_pos (by omega)).mp h))]
    obtain ⟨k, r, h1, h2, h3, h4, h5, h6, h7, h8, h9, h10⟩ := i_div_neg (x := x) (d := d) (by omega) hd
    have l1 := x.le_toInt
    by_cases e : x / d * d = x
    · rw [if_pos e]
      have : (x / d * d).toInt = x.toInt := by rw [e]
      rw [h1, (h7 (by omega)).1]
    · rw [if_neg e]
      have hr : r ≠ 0 := fun hr => e ((fa_eq _ _).mpr (by omega))
      have e1 : (1 : Int32).toInt = 1 := by decide
      have hk : 1 * k ≤ d.toInt * k := Int.mul_le_mul_of_nonneg_right (by omega) h2
      rw [Jvm.Kit.i32_sub (by rw [h1, e1]; omega) (by rw [h1, e1]; omega), e1, h1, (h8 (by omega)).1]
/-- the class's floorMod -/
def fmJ (x y : Int32) : Int32 := if 0 ≤ (x ^^^ y) then x - x / y * y else if x - x / y * y = 0 then x - x / y * y else x - x / y * y + y
theorem e_fmod {T : zT} {N : Nat} {σ : zS} {x y : Int32} (hy : ¬ y = 0) : f_J9_floorMod_7cf53 T N σ x y = some (fmJ x y, σ) := by
  unfold f_J9_floorMod_7cf53 fmJ
  rw [zz1_of hy, zn_eq]
  by_cases h : 0 ≤ (x ^^^ y)
  · rw [if_pos h, if_pos h]
  · rw [if_neg h, if_neg h]
    by_cases h2 : x - x / y * y = 0
    · rw [if_pos h2, if_pos h2]
    · rw [if_neg h2, if_neg h2]
/-- the reference's rest -/
def rsJ (x y : Int32) : Int32 := if 0 ≤ x - x / y * y then x - x / y * y else x - x / y * y + y
theorem rsJ_fm {x d : Int32} (hd : 0 < d.toInt) : rsJ x d = fmJ x d ∧ (rsJ x d).toInt = x.toInt % d.toInt := by
  have e0 : (0 : Int32).toInt = 0 := by decide
  unfold rsJ fmJ
  by_cases hx : 0 ≤ x.toInt
  · obtain ⟨h1, h2⟩ := i_div_pos hx hd
    have h3 : 0 ≤ x - x / d * d := by
      rw [fa_le, h2, e0]
      exact Int.emod_nonneg _ (by omega)
    rw [if_pos ((xor_pos (by omega)).mpr hx), if_pos h3]
    exact ⟨rfl, h2⟩
  · rw [if_neg (fun h => hx ((xor_pos (by omega)).mp h))]
    obtain ⟨k, r, h1, h2, h3, h4, h5, h6, h7, h8, h9, h10⟩ := i_div_neg (x := x) (d := d) (by omega) hd
    have l2 := d.toInt_lt
    by_cases e : x - x / d * d = 0
    · have hr : r = 0 := by rw [e, e0] at h10; omega
      rw [if_pos e, e, if_pos (by decide)]
      exact ⟨rfl, by rw [e0, (h7 hr).2]⟩
    · have hr : r ≠ 0 := fun hr => e ((fa_eq _ _).mpr (by rw [h10, e0]; omega))
      rw [if_neg e, if_neg (by rw [fa_le, h10, e0]; omega)]
      refine ⟨rfl, ?_⟩
      rw [Jvm.Kit.i32_add (by omega) (by omega), h10, (h8 (by omega)).2]
      omega
theorem i_half2 (x : Int32) : x >>> ((1 : Int32) &&& 31) = fdJ x 2 := by
  rw [fa_eq, fdJ_int (by decide), Jvm.Kit.i32_shr x _ (k := 1) (by decide)]
  rfl
