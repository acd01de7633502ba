/-! distribute: the numbers -/
def spF (lw hh : Nat → Int32) (x : Int32) : Nat → Int32
  | 0 => x
  | k + 1 => spF lw hh x k - (hh (k + 1) - lw (k + 1))
def gpF (g : Int32) (r t : Nat) : Int32 := if t ≤ r then g + 1 else g
def cuF (lw hh : Nat → Int32) (g : Int32) (r : Nat) : Nat → Int32
  | 0 => hh 0
  | k + 1 => cuF lw hh g r k + gpF g r (k + 1) + (hh (k + 1) - lw (k + 1))
def wF (lw hh : Nat → Int32) (g : Int32) (r t : Nat) : Int32 := if t = 0 then 0 else cuF lw hh g r (t - 1) + gpF g r t - lw t
/-- sizes of the units 1 to k; k gaps -/
def zI (lw hh : Nat → Int32) : Nat → Int
  | 0 => 0
  | k + 1 => zI lw hh k + ((hh (k + 1)).toInt - (lw (k + 1)).toInt)
def kI (g : Int) : Nat → Int
  | 0 => 0
  | k + 1 => kI g k + g
theorem kI_eq {g : Int} : ∀ k : Nat, kI g k = (k : Int) * g := by
  intro k
  induction k with
  | zero => rw [show ((0 : Nat) : Int) = 0 from rfl, Int.zero_mul]; rfl
  | succ k ih =>
    show kI g k + g = _
    rw [ih, Int.natCast_succ, Int.add_mul, Int.one_mul]
section GPS
variable {lw hh : Nat → Int32} {g x : Int32} {m r k t : Nat}
theorem zI_b (hb : ∀ t, t < m → -10000 ≤ (lw t).toInt ∧ (lw t).toInt < (hh t).toInt ∧ (hh t).toInt ≤ 10500) : ∀ k, k < m → 0 ≤ zI lw hh k ∧ zI lw hh k ≤ 20500 * k := by
  intro k
  induction k with
  | zero => intro _; show (0 : Int) ≤ 0 ∧ (0 : Int) ≤ 20500 * ((0 : Nat) : Int); omega
  | succ k ih =>
    intro hk
    have h1 := ih (by omega)
    have h2 := hb (k + 1) hk
    show 0 ≤ zI lw hh k + ((hh (k + 1)).toInt - (lw (k + 1)).toInt) ∧ zI lw hh k + ((hh (k + 1)).toInt - (lw (k + 1)).toInt) ≤ _
    omega
theorem sz_i (hb : ∀ t, t < m → -10000 ≤ (lw t).toInt ∧ (lw t).toInt < (hh t).toInt ∧ (hh t).toInt ≤ 10500) (ht : t < m) : (hh t - lw t).toInt = (hh t).toInt - (lw t).toInt := by
  have := hb t ht
  exact Jvm.Kit.i32_sub (by omega) (by omega)
theorem spF_i (hm : m ≤ 20) (hb : ∀ t, t < m → -10000 ≤ (lw t).toInt ∧ (lw t).toInt < (hh t).toInt ∧ (hh t).toInt ≤ 10500) (hx : -30000 ≤ x.toInt ∧ x.toInt ≤ 30000) : ∀ k, k < m → (spF lw hh x k).toInt = x.toInt - zI lw hh k := by
  intro k
  induction k with
  | zero => intro _; show x.toInt = x.toInt - 0; omega
  | succ k ih =>
    intro hk
    have h1 := ih (by omega)
    have h2 := sz_i hb hk
    have h3 := zI_b hb k (by omega)
    have h4 := hb (k + 1) hk
    show (spF lw hh x k - (hh (k + 1) - lw (k + 1))).toInt = x.toInt - (zI lw hh k + ((hh (k + 1)).toInt - (lw (k + 1)).toInt))
    rw [Jvm.Kit.i32_sub (by omega) (by omega)]
    omega
theorem gpF_i (hg : -400000 ≤ g.toInt ∧ g.toInt ≤ 400000) : (gpF g r t).toInt = g.toInt + if t ≤ r then 1 else 0 := by
  have e1 : (1 : Int32).toInt = 1 := by decide
  unfold gpF
  by_cases h : t ≤ r
  · rw [if_pos h, if_pos h, Jvm.Kit.i32_add (by omega) (by omega), e1]
  · rw [if_neg h, if_neg h, Int.add_zero]
theorem kI_b {g : Int} (hg : -400000 ≤ g ∧ g ≤ 400000) : ∀ k : Nat, -400000 * (k : Int) ≤ kI g k ∧ kI g k ≤ 400000 * (k : Int) := by
  intro k
  induction k with
  | zero => show -400000 * ((0 : Nat) : Int) ≤ 0 ∧ (0 : Int) ≤ 400000 * ((0 : Nat) : Int); omega
  | succ k ih =>
    show _ ≤ kI g k + g ∧ kI g k + g ≤ _
    omega
theorem cuF_i (hm : m ≤ 20) (hb : ∀ t, t < m → -10000 ≤ (lw t).toInt ∧ (lw t).toInt < (hh t).toInt ∧ (hh t).toInt ≤ 10500) (hg : -400000 ≤ g.toInt ∧ g.toInt ≤ 400000) : ∀ k, k < m → (cuF lw hh g r k).toInt = (hh 0).toInt + zI lw hh k + kI g.toInt k + ((if k ≤ r then k else r : Nat) : Int) := by
  intro k
  induction k with
  | zero =>
    intro _
    show (hh 0).toInt = (hh 0).toInt + 0 + 0 + _
    by_cases h : 0 ≤ r
    · rw [if_pos h]; omega
    · omega
  | succ k ih =>
    intro hk
    have h1 := ih (by omega)
    have h2 := sz_i hb hk
    have h3 := zI_b hb k (by omega)
    have h4 := hb (k + 1) hk
    have h5 := gpF_i (r := r) (t := k + 1) hg
    have h6 := kI_b hg k
    have h7 := hb 0 (by omega)
    show (cuF lw hh g r k + gpF g r (k + 1) + (hh (k + 1) - lw (k + 1))).toInt = (hh 0).toInt + (zI lw hh k + ((hh (k + 1)).toInt - (lw (k + 1)).toInt)) + (kI g.toInt k + g.toInt) + _
    by_cases h : k + 1 ≤ r
    · rw [if_pos h] at h5
      rw [if_pos (show k ≤ r by omega)] at h1
      have e1 : (cuF lw hh g r k + gpF g r (k + 1)).toInt = (cuF lw hh g r k).toInt + (gpF g r (k + 1)).toInt := Jvm.Kit.i32_add (by omega) (by omega)
      rw [if_pos h, Jvm.Kit.i32_add (by omega) (by omega)]
      omega
    · rw [if_neg h] at h5
      have e0 : ((if k ≤ r then k else r : Nat) : Int) = (r : Int) := by
        by_cases h8 : k ≤ r
        · rw [if_pos h8]; omega
        · rw [if_neg h8]
      have e2 : r ≤ k := by omega
      rw [e0] at h1
      have e1 : (cuF lw hh g r k + gpF g r (k + 1)).toInt = (cuF lw hh g r k).toInt + (gpF g r (k + 1)).toInt := Jvm.Kit.i32_add (by omega) (by omega)
      rw [if_neg h, Jvm.Kit.i32_add (by omega) (by omega)]
      omega
/-- the gap, the rest, the last way -/
theorem gaps (hm : m ≤ 20) (hm3 : 3 ≤ m) (hb : ∀ t, t < m → -10000 ≤ (lw t).toInt ∧ (lw t).toInt < (hh t).toInt ∧ (hh t).toInt ≤ 10500) {S : Int32} (hS : S = spF lw hh (lw (m - 1) - hh 0) (m - 2)) :
    ∃ r, r < m - 1 ∧ fmJ S (nI (m - 1)) = nI r ∧ rsJ S (nI (m - 1)) = nI r ∧ (S - nI r) / nI (m - 1) = fdJ S (nI (m - 1)) ∧ wF lw hh (fdJ S (nI (m - 1))) r (m - 1) = 0 := by
  have hd : (nI (m - 1)).toInt = ((m - 1 : Nat) : Int) := nI_toInt (by omega)
  have h0 := hb 0 (by omega)
  have hl := hb (m - 1) (by omega)
  have hx : (lw (m - 1) - hh 0).toInt = (lw (m - 1)).toInt - (hh 0).toInt := Jvm.Kit.i32_sub (by omega) (by omega)
  have hSi := spF_i (x := lw (m - 1) - hh 0) hm hb (by omega) (m - 2) (by omega)
  rw [← hS, hx] at hSi
  have hz := zI_b hb (m - 2) (by omega)
  have hdp : 0 < (nI (m - 1)).toInt := by omega
  obtain ⟨e1, e2⟩ := rsJ_fm (x := S) hdp
  have e3 := fdJ_int (x := S) hdp
  have e4 := Int.emod_nonneg S.toInt (show (nI (m - 1)).toInt ≠ 0 by omega)
  have e5 := Int.emod_lt_of_pos S.toInt hdp
  have e6 : S.toInt % (nI (m - 1)).toInt + (nI (m - 1)).toInt * (S.toInt / (nI (m - 1)).toInt) = S.toInt := Int.emod_add_mul_ediv _ _
  have e7 : (rsJ S (nI (m - 1))) = nI (S.toInt % (nI (m - 1)).toInt).toNat := by
    rw [fa_eq, e2, nI_toInt (n := (S.toInt % (nI (m - 1)).toInt).toNat) (by omega)]
    omega
  have hq1 : -400000 ≤ S.toInt / (nI (m - 1)).toInt := by
    rw [Int.le_ediv_iff_mul_le hdp]
    omega
  have hq2 : S.toInt / (nI (m - 1)).toInt ≤ 400000 := by
    apply Int.le_of_lt_add_one
    rw [Int.ediv_lt_iff_lt_mul hdp]
    omega
  refine ⟨(S.toInt % (nI (m - 1)).toInt).toNat, by omega, by rw [← e1, e7], e7, ?_, ?_⟩
  · rw [← e7, fa_eq, e3]
    have e8 : (S - rsJ S (nI (m - 1))).toInt = S.toInt - S.toInt % (nI (m - 1)).toInt := by rw [← e2]; exact Jvm.Kit.i32_sub (by omega) (by omega)
    rw [Jvm.Kit.i32_div (by omega), e8, show S.toInt - S.toInt % (nI (m - 1)).toInt = (nI (m - 1)).toInt * (S.toInt / (nI (m - 1)).toInt) by omega, Int.mul_tdiv_cancel_left _ (by omega)]
  · generalize hr : (S.toInt % (nI (m - 1)).toInt).toNat = r at *
    have hg : -400000 ≤ (fdJ S (nI (m - 1))).toInt ∧ (fdJ S (nI (m - 1))).toInt ≤ 400000 := by omega
    have hc := cuF_i (r := r) hm hb hg (m - 2) (by omega)
    have hrm : r ≤ m - 2 := by omega
    have hmin : ((if m - 2 ≤ r then m - 2 else r : Nat) : Int) = (r : Int) := by
      by_cases h8 : m - 2 ≤ r
      · rw [if_pos h8]; omega
      · rw [if_neg h8]
    have hk : kI (fdJ S (nI (m - 1))).toInt (m - 2) + (fdJ S (nI (m - 1))).toInt = (nI (m - 1)).toInt * (S.toInt / (nI (m - 1)).toInt) := by
      have : kI (fdJ S (nI (m - 1))).toInt (m - 2 + 1) = ((m - 2 + 1 : Nat) : Int) * (fdJ S (nI (m - 1))).toInt := kI_eq _
      rw [show m - 2 + 1 = m - 1 by omega, ← hd, e3] at this
      rw [e3, ← this, show m - 1 = m - 2 + 1 by omega]
      rfl
    have hkb := kI_b hg (m - 2)
    have hgp : gpF (fdJ S (nI (m - 1))) r (m - 1) = fdJ S (nI (m - 1)) := if_neg (by omega)
    have e9 : (cuF lw hh (fdJ S (nI (m - 1))) r (m - 2) + fdJ S (nI (m - 1))).toInt = (lw (m - 1)).toInt := by
      rw [Jvm.Kit.i32_add (by omega) (by omega)]
      omega
    unfold wF
    rw [if_neg (by omega), hgp, show m - 1 - 1 = m - 2 by omega, (fa_eq _ _).mpr e9, Int32.sub_self]
end GPS
