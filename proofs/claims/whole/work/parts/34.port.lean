/-! ports -/
section PRT
variable {G M : Nat → Nat → Int32} {q : Nat → Option Nat} {N : Nat} {n : Nat} {th : Nat → Bool}
theorem i_half {x : Int32} (h : 0 ≤ x.toInt) : fdJ x 2 = x / 2 := by
  unfold fdJ
  by_cases h1 : 0 ≤ (x ^^^ 2)
  · rw [if_pos h1]
  · exfalso
    apply h1
    rw [fa_le]
    have hb : bt (x ^^^ 2) 31 = bt x 31 := by
      rw [b_xor, show bt 2 31 = false by decide +kernel, Bool.xor_false]
    have key : ∀ y : Int32, 0 ≤ y.toInt ↔ bt y 31 = false := by
      intro y
      show 0 ≤ y.toBitVec.toInt ↔ y.toBitVec.getLsbD 31 = false
      rw [BitVec.toInt_eq_msb_cond, BitVec.msb_eq_getLsbD_last]
      have := y.toBitVec.isLt
      by_cases hm : y.toBitVec.getLsbD 31 = true
      · rw [if_pos hm, hm]
        constructor
        · intro h; omega
        · intro h; cases h
      · rw [if_neg hm]
        constructor
        · intro _; simpa using hm
        · intro _; omega
    have e0 : (0 : Int32).toInt = 0 := by decide
    rw [e0, key, hb, ← key]
    exact h
end PRT
