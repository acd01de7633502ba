/-! Integer.bitCount of a set of shapes -/
theorem land_split {k a b c d : Nat} (ha : a < 2 ^ k) (hc : c < 2 ^ k) : (a + 2 ^ k * b) &&& (c + 2 ^ k * d) = (a &&& c) + 2 ^ k * (b &&& d) := by
  have h1 : ((a + 2 ^ k * b) &&& (c + 2 ^ k * d)) / 2 ^ k = b &&& d := by
    rw [Nat.and_div_two_pow, Nat.add_mul_div_left _ _ (Nat.two_pow_pos k), Nat.add_mul_div_left _ _ (Nat.two_pow_pos k), Nat.div_eq_of_lt ha, Nat.div_eq_of_lt hc, Nat.zero_add, Nat.zero_add]
  have h2 : ((a + 2 ^ k * b) &&& (c + 2 ^ k * d)) % 2 ^ k = a &&& c := by
    rw [Nat.and_mod_two_pow, Nat.add_mul_mod_self_left, Nat.add_mul_mod_self_left, Nat.mod_eq_of_lt ha, Nat.mod_eq_of_lt hc]
  have h3 := Nat.mod_add_div ((a + 2 ^ k * b) &&& (c + 2 ^ k * d)) (2 ^ k)
  rw [h1, h2] at h3
  exact h3.symm
theorem nI_and (a b : Nat) : nI a &&& nI b = nI (a &&& b) := by
  apply Int32.toBitVec_inj.mp
  rw [Int32.toBitVec_and]
  exact BitVec.ofNat_and.symm
theorem nI_or (a b : Nat) : nI a ||| nI b = nI (a ||| b) := by
  apply Int32.toBitVec_inj.mp
  rw [Int32.toBitVec_or]
  exact BitVec.ofNat_or.symm
theorem mask20 {n m : Nat} (h : n < 2 ^ 20) : n &&& m = n &&& (m % 2 ^ 20) := by
  have h1 := Nat.and_mod_two_pow (a := n) (b := m) (n := 20)
  rw [Nat.mod_eq_of_lt (Nat.lt_of_le_of_lt Nat.and_le_left h), Nat.mod_eq_of_lt h] at h1
  exact h1
/-- five digits of four bits -/
def N5 (f : Nat → Nat) : Nat := f 0 + 16 * (f 1 + 16 * (f 2 + 16 * (f 3 + 16 * f 4)))
theorem N5_lt {f : Nat → Nat} (h : ∀ i, f i < 16) : N5 f < 2 ^ 20 := by
  have h0 := h 0
  have h1 := h 1
  have h2 := h 2
  have h3 := h 3
  have h4 := h 4
  unfold N5
  generalize f 0 = a0 at *
  generalize f 1 = a1 at *
  generalize f 2 = a2 at *
  generalize f 3 = a3 at *
  generalize f 4 = a4 at *
  clear h
  omega
theorem N5_ext {f g : Nat → Nat} (h : ∀ i, i < 5 → f i = g i) : N5 f = N5 g := by
  unfold N5
  rw [h 0 (by omega), h 1 (by omega), h 2 (by omega), h 3 (by omega), h 4 (by omega)]
theorem N5_and {f c : Nat → Nat} (h : ∀ i, f i < 16) (hc : ∀ i, c i < 16) : N5 f &&& N5 c = N5 (fun i => f i &&& c i) := by
  have l : ∀ a b c d : Nat, a < 16 → c < 16 → (a + 16 * b) &&& (c + 16 * d) = (a &&& c) + 16 * (b &&& d) := fun a b c d h1 h2 => land_split (k := 4) h1 h2
  unfold N5
  rw [l _ _ _ _ (h 0) (hc 0), l _ _ _ _ (h 1) (hc 1), l _ _ _ _ (h 2) (hc 2), l _ _ _ _ (h 3) (hc 3)]
theorem N5_add (f g : Nat → Nat) : N5 f + N5 g = N5 (fun i => f i + g i) := by
  simp only [N5]
  omega
theorem N5_sub {f g : Nat → Nat} (h : ∀ i, g i ≤ f i) : N5 g ≤ N5 f ∧ N5 f - N5 g = N5 (fun i => f i - g i) := by
  have e : N5 f = N5 g + N5 (fun i => f i - g i) := by
    rw [N5_add]
    exact N5_ext (fun i _ => by have := h i; omega)
  omega
theorem d2 (a r : Nat) : (a + 16 * r) / 2 = a / 2 + 8 * r := by omega
theorem d4 (a r : Nat) : (a + 16 * r) / 4 = a / 4 + 4 * r := by omega
theorem N5_half {f : Nat → Nat} (h5 : f 5 = 0) : N5 f / 2 = N5 (fun i => f i / 2 + 8 * (f (i + 1) % 2)) := by
  have s : ∀ a b r : Nat, a / 2 + 8 * (b + 16 * r) = (a / 2 + 8 * (b % 2)) + 16 * ((b + 16 * r) / 2) := fun a b r => by omega
  have s0 : ∀ a b : Nat, a / 2 + 8 * b = (a / 2 + 8 * (b % 2)) + 16 * (b / 2) := fun a b => by omega
  simp only [N5]
  rw [d2, s (f 0), d2, s (f 1), d2, s (f 2), d2, s0 (f 3), h5, Nat.zero_mod, Nat.mul_zero]
  rfl
theorem N5_quart {f : Nat → Nat} (h5 : f 5 = 0) : N5 f / 4 = N5 (fun i => f i / 4 + 4 * (f (i + 1) % 4)) := by
  have s : ∀ a b r : Nat, a / 4 + 4 * (b + 16 * r) = (a / 4 + 4 * (b % 4)) + 16 * ((b + 16 * r) / 4) := fun a b r => by omega
  have s0 : ∀ a b : Nat, a / 4 + 4 * b = (a / 4 + 4 * (b % 4)) + 16 * (b / 4) := fun a b => by omega
  simp only [N5]
  rw [d4, s (f 0), d4, s (f 1), d4, s (f 2), d4, s0 (f 3), h5, Nat.zero_mod, Nat.mul_zero]
  rfl
theorem N5_16 {f : Nat → Nat} (h0 : f 0 < 16) (h5 : f 5 = 0) : N5 f / 16 = N5 (fun i => f (i + 1)) := by
  simp only [N5]
  rw [h5]
  generalize f 0 = a0 at *
  generalize f 1 = a1 at *
  generalize f 2 = a2 at *
  generalize f 3 = a3 at *
  generalize f 4 = a4 at *
  clear h5
  omega
/-- how many bits a digit has -/
def pc4 (a : Nat) : Nat := a % 2 + a / 2 % 2 + a / 4 % 2 + a / 8 % 2
theorem t_1 : ∀ a, a < 16 → ∀ e, e < 2 → ((a / 2 + 8 * e) &&& 5) = a / 2 % 2 + 4 * (a / 8 % 2) := by decide +kernel
theorem t_2 : ∀ a, a < 16 → (a / 2 % 2 + 4 * (a / 8 % 2) ≤ a) ∧ (a - (a / 2 % 2 + 4 * (a / 8 % 2)) < 16) ∧ ((a - (a / 2 % 2 + 4 * (a / 8 % 2))) &&& 3) + (((a - (a / 2 % 2 + 4 * (a / 8 % 2))) / 4) &&& 3) = pc4 a ∧ ((a - (a / 2 % 2 + 4 * (a / 8 % 2))) / 4) < 4 := by decide +kernel
theorem t_3 : ∀ u, u < 4 → ∀ v, v < 4 → ((u + 4 * v) &&& 3) = (u &&& 3) := by decide +kernel
theorem t_4 : ∀ a, a < 16 → pc4 a ≤ 4 := by decide +kernel
theorem t_5 : ∀ u, u < 16 → (u &&& 15) = u := by decide +kernel
/-- the steps of bitCount, as numbers -/
theorem bc_1 {a : Nat → Nat} (h : ∀ i, a i < 16) (h5 : a 5 = 0) : (N5 a / 2 &&& 1431655765) ≤ N5 a ∧ N5 a - (N5 a / 2 &&& 1431655765) = N5 (fun i => a i - (a i / 2 % 2 + 4 * (a i / 8 % 2))) := by
  have e : N5 a / 2 &&& 1431655765 = N5 (fun i => a i / 2 % 2 + 4 * (a i / 8 % 2)) := by
    rw [N5_half h5, mask20 (N5_lt (fun i => by have := h i; have := Nat.mod_lt (a (i + 1)) (show 0 < 2 by decide); omega)), show (1431655765 : Nat) % 2 ^ 20 = N5 (fun _ => 5) by decide +kernel, N5_and (fun i => by have := h i; have := Nat.mod_lt (a (i + 1)) (show 0 < 2 by decide); omega) (fun _ => by decide)]
    exact N5_ext (fun i _ => t_1 _ (h i) _ (Nat.mod_lt _ (by decide)))
  rw [e]
  exact N5_sub (fun i => (t_2 _ (h i)).1)
theorem bc_2 {a : Nat → Nat} (h : ∀ i, a i < 16) (h5 : a 5 = 0) {x3 : Nat} (e : x3 = N5 (fun i => a i - (a i / 2 % 2 + 4 * (a i / 8 % 2)))) : x3 < 2 ^ 20 ∧ (x3 &&& 858993459) + (x3 / 4 &&& 858993459) = N5 (fun i => pc4 (a i)) := by
  have hf : ∀ i, a i - (a i / 2 % 2 + 4 * (a i / 8 % 2)) < 16 := fun i => (t_2 _ (h i)).2.1
  have hl : x3 < 2 ^ 20 := by rw [e]; exact N5_lt hf
  have hm : (858993459 : Nat) % 2 ^ 20 = N5 (fun _ => 3) := by decide +kernel
  have hq : ∀ i, (a i - (a i / 2 % 2 + 4 * (a i / 8 % 2))) / 4 + 4 * ((a (i + 1) - (a (i + 1) / 2 % 2 + 4 * (a (i + 1) / 8 % 2))) % 4) < 16 := fun i => by
    have h1 := (t_2 _ (h i)).2.2.2
    have h2 := Nat.mod_lt (a (i + 1) - (a (i + 1) / 2 % 2 + 4 * (a (i + 1) / 8 % 2))) (show 0 < 4 by decide)
    omega
  refine ⟨hl, ?_⟩
  rw [mask20 hl, mask20 (Nat.lt_of_le_of_lt (Nat.div_le_self _ _) hl), hm, e, N5_quart (by rw [h5]), N5_and hf (fun _ => by decide), N5_and hq (fun _ => by decide), N5_add]
  refine N5_ext (fun i _ => ?_)
  show _ + ((_ + 4 * _) &&& 3) = _
  rw [t_3 _ (t_2 _ (h i)).2.2.2 _ (Nat.mod_lt _ (by decide))]
  exact (t_2 _ (h i)).2.2.1
theorem bc_3 {a : Nat → Nat} (h : ∀ i, a i < 16) (h5 : a 5 = 0) {x4 : Nat} (e : x4 = N5 (fun i => pc4 (a i))) : x4 < 2 ^ 20 ∧ (x4 + x4 / 16 &&& 252645135) = N5 (fun i => if i % 2 = 0 then pc4 (a i) + pc4 (a (i + 1)) else 0) := by
  have hp : ∀ i, pc4 (a i) < 16 := fun i => by have := t_4 _ (h i); omega
  have hs : ∀ i, pc4 (a i) + pc4 (a (i + 1)) < 16 := fun i => by have := t_4 _ (h i); have := t_4 _ (h (i + 1)); omega
  have hm : (252645135 : Nat) % 2 ^ 20 = N5 (fun i => if i % 2 = 0 then 15 else 0) := by decide +kernel
  refine ⟨by rw [e]; exact N5_lt hp, ?_⟩
  rw [e, N5_16 (hp 0) (by rw [h5]; decide), N5_add, mask20 (N5_lt hs), hm, N5_and hs (fun i => by split <;> omega)]
  refine N5_ext (fun i _ => ?_)
  show (pc4 (a i) + pc4 (a (i + 1)) &&& if i % 2 = 0 then 15 else 0) = _
  by_cases hi : i % 2 = 0
  · rw [if_pos hi, if_pos hi, t_5 _ (hs i)]
  · rw [if_neg hi, if_neg hi, Nat.and_zero]
theorem bc_4 {a : Nat → Nat} (h : ∀ i, a i < 16) (h5 : a 5 = 0) {x5 : Nat} (e : x5 = N5 (fun i => if i % 2 = 0 then pc4 (a i) + pc4 (a (i + 1)) else 0)) : x5 < 2 ^ 20 ∧ ((x5 + x5 / 256) + (x5 + x5 / 256) / 65536) % 64 = pc4 (a 0) + pc4 (a 1) + pc4 (a 2) + pc4 (a 3) + pc4 (a 4) := by
  have p0 := t_4 _ (h 0)
  have p1 := t_4 _ (h 1)
  have p2 := t_4 _ (h 2)
  have p3 := t_4 _ (h 3)
  have p4 := t_4 _ (h 4)
  have e1 : x5 = (pc4 (a 0) + pc4 (a 1)) + 256 * ((pc4 (a 2) + pc4 (a 3)) + 256 * pc4 (a 4)) := by
    rw [e]
    show (pc4 (a 0) + pc4 (a 1)) + 16 * (0 + 16 * ((pc4 (a 2) + pc4 (a 3)) + 16 * (0 + 16 * (pc4 (a 4) + pc4 (a 5))))) = _
    rw [h5, show pc4 0 = 0 by decide]
    omega
  clear e h h5
  generalize pc4 (a 0) = b0 at *
  generalize pc4 (a 1) = b1 at *
  generalize pc4 (a 2) = b2 at *
  generalize pc4 (a 3) = b3 at *
  generalize pc4 (a 4) = b4 at *
  have e2 : x5 / 256 = (b2 + b3) + 256 * b4 := by omega
  have e3 : x5 + x5 / 256 = (b0 + b1 + b2 + b3) + 256 * ((b2 + b3 + b4) + 256 * b4) := by omega
  have e4 : (x5 + x5 / 256) / 65536 = b4 := by
    rw [e3]
    omega
  refine ⟨by omega, ?_⟩
  rw [e4, e3]
  omega
/-- a set as a number -/
def bP (P : Nat → Bool) (i : Nat) : Nat := if P i = true then 1 else 0
theorem bP_lt (P : Nat → Bool) (i : Nat) : bP P i < 2 := by
  unfold bP
  split <;> omega
def vsN (P : Nat → Bool) : Nat → Nat
  | 0 => 0
  | k + 1 => vsN P k + 2 ^ k * bP P k
theorem vsN_lt (P : Nat → Bool) : ∀ k, vsN P k < 2 ^ k := by
  intro k
  induction k with
  | zero => exact Nat.one_pos
  | succ k ih =>
    have h := bP_lt P k
    unfold vsN
    rw [Nat.pow_succ]
    have : bP P k = 0 ∨ bP P k = 1 := by omega
    rcases this with e | e
    · rw [e, Nat.mul_zero]; omega
    · rw [e, Nat.mul_one]; omega
theorem one_shl : ∀ k, k < 20 → (1 : Int32) <<< (nI k &&& 31) = nI (2 ^ k) := by decide +kernel
theorem mkS_N (P : Nat → Bool) : ∀ k, k ≤ 20 → mkS P k = nI (vsN P k) := by
  intro k
  induction k with
  | zero => intro _; rfl
  | succ k ih =>
    intro hk
    have h1 := vsN_lt P k
    by_cases h : P k = true
    · rw [mkS_t h, ih (by omega), one_shl k (by omega), nI_or, Nat.or_two_pow_eq_add_of_lt h1]
      congr 1
      unfold vsN bP
      rw [if_pos h, Nat.mul_one]
      cases k <;> rfl
    · rw [mkS_f h, ih (by omega)]
      congr 1
      show _ = vsN P k + 2 ^ k * bP P k
      unfold bP
      rw [if_neg h, Nat.mul_zero, Nat.add_zero]
theorem cnt_bP (P : Nat → Bool) {n : Nat} : cnt P (n + 1) = cnt P n + bP P n := by
  unfold bP
  by_cases h : P n = true
  · rw [cnt_t h, if_pos h]
  · rw [cnt_f h, if_neg h]; rfl
/-- the digits of a set -/
def nbP (P : Nat → Bool) (i : Nat) : Nat := if i < 5 then bP P (4 * i) + 2 * bP P (4 * i + 1) + 4 * bP P (4 * i + 2) + 8 * bP P (4 * i + 3) else 0
theorem nbP_lt (P : Nat → Bool) (i : Nat) : nbP P i < 16 := by
  have h0 := bP_lt P (4 * i)
  have h1 := bP_lt P (4 * i + 1)
  have h2 := bP_lt P (4 * i + 2)
  have h3 := bP_lt P (4 * i + 3)
  unfold nbP
  split <;> omega
theorem t_6 : ∀ u, u < 2 → ∀ v, v < 2 → ∀ w, w < 2 → ∀ z, z < 2 → pc4 (u + 2 * v + 4 * w + 8 * z) = u + v + w + z := by decide +kernel
theorem pc_nb (P : Nat → Bool) {i : Nat} (h : i < 5) : pc4 (nbP P i) = bP P (4 * i) + bP P (4 * i + 1) + bP P (4 * i + 2) + bP P (4 * i + 3) := by
  unfold nbP
  rw [if_pos h, t_6 _ (bP_lt _ _) _ (bP_lt _ _) _ (bP_lt _ _) _ (bP_lt _ _)]
theorem vs4 (P : Nat → Bool) (k : Nat) : vsN P (k + 4) = vsN P k + 2 ^ k * (bP P k + 2 * bP P (k + 1) + 4 * bP P (k + 2) + 8 * bP P (k + 3)) := by
  show vsN P k + 2 ^ k * bP P k + 2 ^ (k + 1) * bP P (k + 1) + 2 ^ (k + 2) * bP P (k + 2) + 2 ^ (k + 3) * bP P (k + 3) = _
  rw [Nat.pow_succ 2 (k + 2), Nat.pow_succ 2 (k + 1), Nat.pow_succ 2 k]
  generalize 2 ^ k = X
  have e8 : X * 2 * 2 * 2 = X * 8 := by omega
  have e4 : X * 2 * 2 = X * 4 := by omega
  rw [e8, e4, Nat.mul_add, Nat.mul_add, Nat.mul_add, Nat.mul_assoc X 2, Nat.mul_assoc X 4, Nat.mul_assoc X 8]
  omega
theorem vsN_20 (P : Nat → Bool) : vsN P 20 = N5 (nbP P) := by
  rw [show vsN P 20 = vsN P (16 + 4) from rfl, vs4, show vsN P 16 = vsN P (12 + 4) from rfl, vs4, show vsN P 12 = vsN P (8 + 4) from rfl, vs4, show vsN P 8 = vsN P (4 + 4) from rfl, vs4, show vsN P 4 = vsN P (0 + 4) from rfl, vs4, show vsN P 0 = 0 from rfl]
  have e : ∀ i, i < 5 → nbP P i = bP P (4 * i) + 2 * bP P (4 * i + 1) + 4 * bP P (4 * i + 2) + 8 * bP P (4 * i + 3) := fun i h => if_pos h
  have e0 := e 0 (by decide)
  have e1 := e 1 (by decide)
  have e2 := e 2 (by decide)
  have e3 := e 3 (by decide)
  have e4 := e 4 (by decide)
  show 0 + 2 ^ 0 * (bP P (4 * 0) + 2 * bP P (4 * 0 + 1) + 4 * bP P (4 * 0 + 2) + 8 * bP P (4 * 0 + 3)) + 2 ^ 4 * (bP P (4 * 1) + 2 * bP P (4 * 1 + 1) + 4 * bP P (4 * 1 + 2) + 8 * bP P (4 * 1 + 3)) + 2 ^ 8 * (bP P (4 * 2) + 2 * bP P (4 * 2 + 1) + 4 * bP P (4 * 2 + 2) + 8 * bP P (4 * 2 + 3)) + 2 ^ 12 * (bP P (4 * 3) + 2 * bP P (4 * 3 + 1) + 4 * bP P (4 * 3 + 2) + 8 * bP P (4 * 3 + 3)) + 2 ^ 16 * (bP P (4 * 4) + 2 * bP P (4 * 4 + 1) + 4 * bP P (4 * 4 + 2) + 8 * bP P (4 * 4 + 3)) = _
  rw [← e0, ← e1, ← e2, ← e3, ← e4]
  unfold N5
  clear e e0 e1 e2 e3 e4
  generalize nbP P 0 = a0
  generalize nbP P 1 = a1
  generalize nbP P 2 = a2
  generalize nbP P 3 = a3
  generalize nbP P 4 = a4
  omega
theorem ct4 (P : Nat → Bool) (k : Nat) : cnt P (k + 4) = cnt P k + (bP P k + bP P (k + 1) + bP P (k + 2) + bP P (k + 3)) := by
  rw [show k + 4 = k + 3 + 1 from rfl, cnt_bP, show k + 3 = k + 2 + 1 from rfl, cnt_bP, show k + 2 = k + 1 + 1 from rfl, cnt_bP, cnt_bP]
  omega
theorem cnt_20 (P : Nat → Bool) : cnt P 20 = pc4 (nbP P 0) + pc4 (nbP P 1) + pc4 (nbP P 2) + pc4 (nbP P 3) + pc4 (nbP P 4) := by
  rw [pc_nb P (by decide), pc_nb P (by decide), pc_nb P (by decide), pc_nb P (by decide), pc_nb P (by decide)]
  rw [show (20 : Nat) = 16 + 4 from rfl, ct4, show (16 : Nat) = 12 + 4 from rfl, ct4, show (12 : Nat) = 8 + 4 from rfl, ct4, show (8 : Nat) = 4 + 4 from rfl, ct4, show (4 : Nat) = 0 + 4 from rfl, ct4, show cnt P 0 = 0 from rfl, Nat.zero_add]
theorem e_bitCount {T : zT} {N : Nat} {σ : zS} (P : Nat → Bool) : f_J6_bitCount_0f7a4 T N σ (mkS P 20) = some (nI (cnt P 20), σ) := by
  have h := nbP_lt P
  have h5 : nbP P 5 = 0 := rfl
  obtain ⟨k1, k2⟩ := bc_1 h h5
  have k0 : N5 (nbP P) < 2 ^ 20 := N5_lt h
  obtain ⟨x3, y3⟩ : ∃ x, x = N5 (nbP P) - (N5 (nbP P) / 2 &&& 1431655765) := ⟨_, rfl⟩
  obtain ⟨k3, k4⟩ := bc_2 h h5 (y3.trans k2)
  obtain ⟨x4, y4⟩ : ∃ x, x = (x3 &&& 858993459) + (x3 / 4 &&& 858993459) := ⟨_, rfl⟩
  obtain ⟨k5, k6⟩ := bc_3 h h5 (y4.trans k4)
  obtain ⟨x5, y5⟩ : ∃ x, x = x4 + x4 / 16 &&& 252645135 := ⟨_, rfl⟩
  obtain ⟨k7, k8⟩ := bc_4 h h5 (y5.trans k6)
  have l3 : x3 < 2 ^ 32 := Nat.lt_trans k3 (by decide)
  have l4 : x4 < 2 ^ 32 := Nat.lt_trans k5 (by decide)
  have l5 : x5 < 2 ^ 32 := Nat.lt_trans k7 (by decide)
  have l6 : x5 + x5 / 256 < 2 ^ 32 := by omega
  unfold f_J6_bitCount_0f7a4
  rw [mkS_N P 20 (Nat.le_refl 20), vsN_20, zn_eq, pk_ushrN (Nat.lt_trans k0 (by decide)) 1 1 (by decide), show (1431655765 : Int32) = nI 1431655765 from rfl, nI_and, show 2 ^ 1 = 2 from rfl, pk_sub k1, ← y3]
  rw [zn_eq, pk_ushrN l3 2 2 (by decide), show (858993459 : Int32) = nI 858993459 from rfl, nI_and, nI_and, nI_add, show 2 ^ 2 = 4 from rfl, ← y4]
  rw [zn_eq, pk_ushrN l4 4 4 (by decide), nI_add, show (252645135 : Int32) = nI 252645135 from rfl, nI_and, show 2 ^ 4 = 16 from rfl, ← y5]
  rw [zn_eq, pk_ushrN l5 8 8 (by decide), nI_add, show 2 ^ 8 = 256 from rfl]
  rw [zn_eq, pk_ushrN l6 16 16 (by decide), nI_add, show 2 ^ 16 = 65536 from rfl]
  rw [pk_andN (show x5 + x5 / 256 + (x5 + x5 / 256) / 65536 < 2 ^ 32 by omega) 6 (by decide), show 2 ^ 6 = 64 from rfl, k8, cnt_20]
