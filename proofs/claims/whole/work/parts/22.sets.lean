/-! bits; sets of shapes as ints -/
def bt (x : Int32) (i : Nat) : Bool := x.toBitVec.getLsbD i
theorem b_ext {x y : Int32} (h : ∀ i, i < 32 → bt x i = bt y i) : x = y := Int32.toBitVec_inj.mp (BitVec.eq_of_getLsbD_eq (fun i hi => h i hi))
theorem b_or (x y : Int32) (i : Nat) : bt (x ||| y) i = (bt x i || bt y i) := by unfold bt; rw [Int32.toBitVec_or, BitVec.getLsbD_or]
theorem b_and (x y : Int32) (i : Nat) : bt (x &&& y) i = (bt x i && bt y i) := by unfold bt; rw [Int32.toBitVec_and, BitVec.getLsbD_and]
theorem b_xor (x y : Int32) (i : Nat) : bt (x ^^^ y) i = (bt x i ^^ bt y i) := by unfold bt; rw [Int32.toBitVec_xor, BitVec.getLsbD_xor]
theorem b_big {x : Int32} {i : Nat} (h : 32 ≤ i) : bt x i = false := BitVec.getLsbD_of_ge _ _ h
theorem b_255 (i : Nat) : bt 255 i = decide (i < 8) := by
  rcases Nat.lt_or_ge i 32 with h | h
  · exact (by decide +kernel : ∀ i, i < 32 → bt 255 i = decide (i < 8)) i h
  · rw [b_big h, decide_eq_false (by omega)]
theorem b_65535 (i : Nat) : bt 65535 i = decide (i < 16) := by
  rcases Nat.lt_or_ge i 32 with h | h
  · exact (by decide +kernel : ∀ i, i < 32 → bt 65535 i = decide (i < 16)) i h
  · rw [b_big h, decide_eq_false (by omega)]
theorem b_m1 : ∀ i, i < 32 → bt (-1) i = true := by decide +kernel
theorem b_0 (i : Nat) : bt 0 i = false := BitVec.getLsbD_zero
theorem s_l : ∀ n, n < 32 → ((nI n &&& 31).toBitVec.smod 32).toNat = n := by decide +kernel
theorem s_u : ∀ n, n < 32 → (((nI n).toUInt32 &&& Int32.toUInt32 31).toBitVec % 32).toNat = n := by decide +kernel
theorem b_shl (n : Nat) (hn : n < 32) (x : Int32) {i : Nat} (hi : i < 32) : bt (x <<< (nI n &&& 31)) i = (decide (n ≤ i) && bt x (i - n)) := by
  unfold bt
  rw [Int32.toBitVec_shiftLeft]
  show (x.toBitVec <<< ((nI n &&& 31).toBitVec.smod 32).toNat).getLsbD i = _
  rw [s_l n hn, BitVec.getLsbD_shiftLeft]
  rcases Nat.lt_or_ge i n with h | h
  · simp [h, Nat.not_le.mpr h]
  · simp [hi, h, Nat.not_lt.mpr h]
theorem b_ushr (n : Nat) (hn : n < 32) (x : Int32) (i : Nat) : bt ((x.toUInt32 >>> ((nI n).toUInt32 &&& Int32.toUInt32 31)).toInt32) i = bt x (n + i) := by
  show (x.toUInt32 >>> ((nI n).toUInt32 &&& Int32.toUInt32 31)).toBitVec.getLsbD i = x.toUInt32.toBitVec.getLsbD (n + i)
  rw [UInt32.toBitVec_shiftRight]
  show (x.toUInt32.toBitVec >>> (((nI n).toUInt32 &&& Int32.toUInt32 31).toBitVec % 32).toNat).getLsbD i = _
  rw [s_u n hn, BitVec.getLsbD_ushiftRight]
theorem b_sshr (n : Nat) (hn : n < 32) (x : Int32) {i : Nat} (hi : i < 32) : bt (x >>> (nI n &&& 31)) i = if n + i < 32 then bt x (n + i) else bt x 31 := by
  unfold bt
  rw [Int32.toBitVec_shiftRight]
  show (x.toBitVec.sshiftRight ((nI n &&& 31).toBitVec.smod 32).toNat).getLsbD i = _
  rw [s_l n hn, BitVec.getLsbD_sshiftRight, BitVec.msb_eq_getLsbD_last]
  simp [hi]
theorem b_shl8 (x : Int32) {i : Nat} (hi : i < 32) : bt (x <<< ((8 : Int32) &&& 31)) i = (decide (8 ≤ i) && bt x (i - 8)) := b_shl 8 (by omega) x hi
theorem b_shl16 (x : Int32) {i : Nat} (hi : i < 32) : bt (x <<< ((16 : Int32) &&& 31)) i = (decide (16 ≤ i) && bt x (i - 16)) := b_shl 16 (by omega) x hi
theorem b_shl24 (x : Int32) {i : Nat} (hi : i < 32) : bt (x <<< ((24 : Int32) &&& 31)) i = (decide (24 ≤ i) && bt x (i - 24)) := b_shl 24 (by omega) x hi
theorem b_sshr8 (x : Int32) {i : Nat} (hi : i < 32) : bt (x >>> ((8 : Int32) &&& 31)) i = if 8 + i < 32 then bt x (8 + i) else bt x 31 := b_sshr 8 (by omega) x hi
theorem b_1 : ∀ i, i < 32 → bt 1 i = decide (i = 0) := by decide +kernel
theorem b_not (x : Int32) {i : Nat} (h : i < 32) : bt (x ^^^ (-1)) i = !bt x i := by
  rw [b_xor, b_m1 i h]
  cases bt x i <;> rfl
theorem b_one {k i : Nat} (hk : k < 32) (hi : i < 32) : bt ((1 : Int32) <<< (nI k &&& 31)) i = decide (i = k) := by
  rw [b_shl k hk 1 hi]
  rcases Nat.lt_trichotomy i k with h | h | h
  · rw [decide_eq_false (by omega : ¬ k ≤ i), decide_eq_false (by omega : ¬ i = k)]; rfl
  · subst h
    rw [Nat.sub_self, b_1 0 (by omega)]
    simp
  · rw [b_1 _ (by omega), decide_eq_false (by omega : ¬ i - k = 0), decide_eq_false (by omega : ¬ i = k), Bool.and_false]
/-- the bit k of x, as the programs ask for it -/
theorem b_ask {x : Int32} {k : Nat} (hk : k < 32) : (x >>> (nI k &&& 31)) &&& 1 = if bt x k = true then 1 else 0 := by
  have h0 : bt (x >>> (nI k &&& 31)) 0 = bt x k := by rw [b_sshr k hk x (by omega), if_pos (by omega)]; rfl
  apply b_ext
  intro i hi
  rw [b_and, b_1 i hi]
  by_cases hi0 : i = 0
  · subst hi0
    rw [h0]
    cases bt x k
    · rfl
    · simp [b_1]
  · rw [decide_eq_false hi0, Bool.and_false]
    cases bt x k
    · exact (b_0 i).symm
    · simp [b_1 i hi, hi0]
theorem b_ask0 {x : Int32} {k : Nat} (hk : k < 32) : (x >>> (nI k &&& 31)) &&& 1 = 0 ↔ bt x k = false := by
  rw [b_ask hk]
  cases bt x k
  · simp
  · simp only [if_true]
    exact ⟨fun h => absurd h (by decide), fun h => by cases h⟩
/-- the set of all k below n with P, as the programs build it -/
def mkS (P : Nat → Bool) : Nat → Int32
  | 0 => 0
  | k + 1 => if P k = true then mkS P k ||| ((1 : Int32) <<< (nI k &&& 31)) else mkS P k
theorem bt_mkS (P : Nat → Bool) : ∀ n, n ≤ 32 → ∀ i, i < 32 → bt (mkS P n) i = (decide (i < n) && P i) := by
  intro n
  induction n with
  | zero => intro _ i _; simp [mkS, b_0]
  | succ n ih =>
    intro hn i hi
    unfold mkS
    by_cases hP : P n = true
    · rw [if_pos hP, b_or, ih (by omega) i hi, b_one (by omega) hi]
      rcases Nat.lt_trichotomy i n with h | h | h
      · rw [decide_eq_true h, decide_eq_false (by omega : ¬ i = n), decide_eq_true (by omega : i < n + 1)]; simp
      · subst h
        simp [hP]
      · rw [decide_eq_false (by omega : ¬ i < n), decide_eq_false (by omega : ¬ i = n), decide_eq_false (by omega : ¬ i < n + 1)]; rfl
    · rw [if_neg hP, ih (by omega) i hi]
      have hP : P n = false := by simpa using hP
      rcases Nat.lt_trichotomy i n with h | h | h
      · rw [decide_eq_true h, decide_eq_true (by omega : i < n + 1)]
      · subst h
        simp [hP]
      · rw [decide_eq_false (by omega : ¬ i < n), decide_eq_false (by omega : ¬ i < n + 1)]
theorem mkS_ext {P Q : Nat → Bool} : ∀ {n : Nat}, (∀ i, i < n → P i = Q i) → mkS P n = mkS Q n := by
  intro n
  induction n with
  | zero => intro _; rfl
  | succ n ih =>
    intro h
    unfold mkS
    rw [h n (by omega), ih (fun i hi => h i (by omega))]
theorem bt_S (P : Nat → Bool) {i : Nat} (hi : i < 20) : bt (mkS P 20) i = P i := by
  rw [bt_mkS P 20 (by omega) i (by omega), decide_eq_true hi, Bool.true_and]
theorem S_inj {P Q : Nat → Bool} (h : mkS P 20 = mkS Q 20) : ∀ i, i < 20 → P i = Q i := fun i hi => by
  rw [← bt_S P hi, ← bt_S Q hi, h]
theorem S_of {x : Int32} {P : Nat → Bool} (h : ∀ i, i < 32 → bt x i = (decide (i < 20) && P i)) : x = mkS P 20 := b_ext (fun i hi => by rw [h i hi, bt_mkS P 20 (by omega) i hi])
theorem S_or (P Q : Nat → Bool) : mkS P 20 ||| mkS Q 20 = mkS (fun i => P i || Q i) 20 := S_of (fun i hi => by
  rw [b_or, bt_mkS P 20 (by omega) i hi, bt_mkS Q 20 (by omega) i hi]
  cases decide (i < 20) <;> simp)
theorem S_diff (P Q : Nat → Bool) : mkS P 20 &&& (mkS Q 20 ^^^ (-1)) = mkS (fun i => P i && !Q i) 20 := S_of (fun i hi => by
  rw [b_and, b_not _ hi, bt_mkS P 20 (by omega) i hi, bt_mkS Q 20 (by omega) i hi]
  cases decide (i < 20) <;> simp)
theorem S_one {k : Nat} (hk : k < 20) : (1 : Int32) <<< (nI k &&& 31) = mkS (fun i => decide (i = k)) 20 := S_of (fun i hi => by
  rw [b_one (by omega) hi]
  by_cases h : i = k
  · subst h
    simp [hk]
  · simp [h])
theorem S_zero : mkS (fun _ => false) 20 = 0 := (S_of (fun i hi => by rw [b_0]; simp)).symm
theorem S_eq0 {P : Nat → Bool} : mkS P 20 = 0 ↔ ∀ i, i < 20 → P i = false := by
  rw [← S_zero]
  exact ⟨fun h => S_inj h, fun h => mkS_ext h⟩
/-- how many -/
def cnt (P : Nat → Bool) : Nat → Nat
  | 0 => 0
  | k + 1 => if P k = true then cnt P k + 1 else cnt P k
theorem cnt_le (P : Nat → Bool) : ∀ n, cnt P n ≤ n := by
  intro n
  induction n with
  | zero => exact Nat.le_refl _
  | succ n ih => unfold cnt; split <;> omega
theorem cnt_ext {P Q : Nat → Bool} : ∀ {n : Nat}, (∀ i, i < n → P i = Q i) → cnt P n = cnt Q n := by
  intro n
  induction n with
  | zero => intro _; rfl
  | succ n ih =>
    intro h
    unfold cnt
    rw [h n (by omega), ih (fun i hi => h i (by omega))]
/-- one more -/
theorem cnt_add {P Q : Nat → Bool} {s : Nat} : ∀ {n : Nat}, s < n → P s = false → Q s = true → (∀ i, i < n → i ≠ s → Q i = P i) → cnt Q n = cnt P n + 1 := by
  intro n
  induction n with
  | zero => intro h; omega
  | succ n ih =>
    intro hs hP hQ ho
    unfold cnt
    by_cases e : s = n
    · subst e
      rw [if_pos hQ, if_neg (by simp [hP]), cnt_ext (P := Q) (Q := P) (fun i hi => ho i (by omega) (by omega))]
    · rw [ho n (by omega) (fun q => e q.symm), ih (by omega) hP hQ (fun i hi hi2 => ho i (by omega) hi2)]
      split <;> omega
theorem cnt_pos {P : Nat → Bool} {s : Nat} : ∀ {n : Nat}, s < n → P s = true → 0 < cnt P n := by
  intro n
  induction n with
  | zero => intro h; omega
  | succ n ih =>
    intro hs hP
    unfold cnt
    by_cases e : s = n
    · subst e
      rw [if_pos hP]; omega
    · have := ih (by omega) hP
      split <;> omega
theorem mkS_t {P : Nat → Bool} {n : Nat} (h : P n = true) : mkS P (n + 1) = mkS P n ||| ((1 : Int32) <<< (nI n &&& 31)) := by
  show (if P n = true then _ else _) = _
  rw [if_pos h]
theorem mkS_f {P : Nat → Bool} {n : Nat} (h : ¬ P n = true) : mkS P (n + 1) = mkS P n := by
  show (if P n = true then _ else _) = _
  rw [if_neg h]
theorem cnt_t {P : Nat → Bool} {n : Nat} (h : P n = true) : cnt P (n + 1) = cnt P n + 1 := by
  show (if P n = true then _ else _) = _
  rw [if_pos h]
theorem cnt_f {P : Nat → Bool} {n : Nat} (h : ¬ P n = true) : cnt P (n + 1) = cnt P n := by
  show (if P n = true then _ else _) = _
  rw [if_neg h]
