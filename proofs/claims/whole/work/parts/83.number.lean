/-! read: the codes, one number -/
def okn (j : Nat) (v : Int32) : Int32 := if 2 ≤ j then wth v 1 500 else wth v (-10000) 10000
def isD (c : Nat → Int32) (len i : Nat) : Bool := decide (i < len) && decide (wth (c i) 48 57 = 1)
theorem isD_iff {c : Nat → Int32} {len i : Nat} : isD c len i = true ↔ i < len ∧ wth (c i) 48 57 = 1 := by
  unfold isD
  rw [Bool.and_eq_true, decide_eq_true_iff, decide_eq_true_iff]
/-- the digits from a: how many, at most 5; what they say -/
def dkF (c : Nat → Int32) (len a : Nat) : Nat := fdx (fun k => !isD c len (a + k)) 5
def dvF (c : Nat → Int32) (a : Nat) : Nat → Int32
  | 0 => 0
  | k + 1 => 10 * dvF c a k + c (a + k) - 48
def sgB (c : Nat → Int32) (len a : Nat) : Bool := decide (a < len) && decide (c a = 45)
theorem sgB_iff {c : Nat → Int32} {len a : Nat} : sgB c len a = true ↔ a < len ∧ c a = 45 := by
  unfold sgB
  rw [Bool.and_eq_true, decide_eq_true_iff, decide_eq_true_iff]
def sgN (c : Nat → Int32) (len a : Nat) : Nat := if sgB c len a = true then 1 else 0
def nvF (c : Nat → Int32) (len a : Nat) : Int32 := if sgB c len a = true then -dvF c (a + 1) (dkF c len (a + 1)) else dvF c a (dkF c len a)
def neF (c : Nat → Int32) (len a : Nat) : Nat := if sgB c len a = true then a + 1 + dkF c len (a + 1) else a + dkF c len a
def nkF (c : Nat → Int32) (len a : Nat) : Nat := if sgB c len a = true then dkF c len (a + 1) else dkF c len a
section NUM
variable {G M C D : Nat → Nat → Int32} {q : Nat → Option Nat} {N : Nat} {c : Nat → Int32} {len a i j k f : Nat} {x z v : Int32}
theorem dk_ok : dkF c len a ≤ 5 ∧ (∀ k, k < dkF c len a → isD c len (a + k) = true) ∧ (dkF c len a < 5 → isD c len (a + dkF c len a) = false) := by
  obtain ⟨h1, h2, h3⟩ := fdx_spec (f := fun k => !isD c len (a + k)) 5
  refine ⟨h1, fun k hk => ?_, fun h => ?_⟩
  · have := h2 k hk
    simpa using this
  · have := h3 h
    have h4 : (!isD c len (a + dkF c len a)) = true := this
    simpa using h4
theorem dk_len (ha : a ≤ len) : a + dkF c len a ≤ len := by
  obtain ⟨h1, h2, h3⟩ := dk_ok (c := c) (len := len) (a := a)
  rcases Nat.eq_zero_or_pos (dkF c len a) with h | h
  · omega
  · have := (isD_iff.mp (h2 (dkF c len a - 1) (by omega))).1
    omega
theorem ne_b (ha : a ≤ len) : a ≤ neF c len a ∧ neF c len a ≤ len ∧ (0 < nkF c len a → a < neF c len a) := by
  unfold neF nkF
  by_cases h : sgB c len a = true
  · rw [if_pos h, if_pos h]
    have := (sgB_iff.mp h).1
    have := dk_len (c := c) (len := len) (a := a + 1) (by omega)
    omega
  · rw [if_neg h, if_neg h]
    have := dk_len (c := c) (len := len) (a := a) ha
    omega
/-- the text of both sides -/
def TX (c : Nat → Int32) (len : Nat) (C D : Nat → Nat → Int32) : Prop := len ≤ 60 ∧ C 360 2 = nI len ∧ D 0 18 = nI len ∧ (∀ i, i < len → C 361 i = c i) ∧ ∀ i, i < len → D 13 i = c i
def cdC (c : Nat → Int32) (len a : Nat) : Int32 := if a < len then c a else -1000000
def cdM (c : Nat → Int32) (len a : Nat) : Int32 := if a < len then c a else -1
theorem e_code (h0 : len ≤ 60) (h1 : C 360 2 = nI len) (h2 : ∀ i, i < len → C 361 i = c i) (ha : C 360 4 = nI a) (hal : a ≤ len) : f_X9_code TC N (C, rfC q) 360 = some (cdC c len a, (C, rfC q)) := by
  unfold f_X9_code cdC
  rw [zz1_of TC_360, gI_of TC_360, ha, Option.bind_some, if_neg (nI_pos (by omega)), Option.bind_some, gI_of TC_360, h1, Option.bind_some]
  by_cases h : a < len
  · rw [if_neg (nI_ge h (by omega)), if_pos h, Option.bind_some, gR_of TC_360, rf_360_0, Option.bind_some, aL_of TC_361, TL_361, Option.bind_some, if_neg (nI_ge (show a < 60 by omega) (by decide)), Option.bind_some, Option.bind_some, aI_of TC_361 TL_361 (show a < 60 by omega) (by decide), Option.bind_some, h2 a h]
  · rw [if_pos (nI_le (by omega) (by omega)), if_neg h]
theorem m_sign (h0 : len ≤ 60) (h1 : D 0 18 = nI len) (h2 : ∀ i, i < len → D 13 i = c i) (ha : D 0 19 = nI a) (hal : a ≤ len) : f_X12_sign TM N (D, rfM) 0 = some (cdM c len a, (D, rfM)) := by
  unfold f_X12_sign cdM
  rw [zz1_of TM_0, gI_of TM_0, ha, Option.bind_some, gI_of TM_0, h1, Option.bind_some]
  by_cases h : a < len
  · rw [if_neg (nI_ge h (by omega)), if_pos h, gm17, Option.bind_some, Option.bind_some, aI_of TM_13 ML_13 (show a < 60 by omega) (by decide), Option.bind_some, h2 a h]
  · rw [if_pos (nI_le (by omega) (by omega)), if_neg h]
theorem cd_eq {x : Int32} (h1 : x ≠ -1000000) (h2 : x ≠ -1) : (cdC c len a = x ↔ a < len ∧ c a = x) ∧ (cdM c len a = x ↔ a < len ∧ c a = x) := by
  unfold cdC cdM
  by_cases h : a < len
  · rw [if_pos h, if_pos h]
    exact ⟨⟨fun e => ⟨h, e⟩, fun e => e.2⟩, ⟨fun e => ⟨h, e⟩, fun e => e.2⟩⟩
  · rw [if_neg h, if_neg h]
    exact ⟨⟨fun e => absurd e.symm h1, fun e => absurd e.1 h⟩, ⟨fun e => absurd e.symm h2, fun e => absurd e.1 h⟩⟩
theorem cd_dig : wth (cdC c len a) 48 57 = bI (isD c len a) ∧ wth (cdM c len a) 48 57 = bI (isD c len a) := by
  unfold cdC cdM isD
  by_cases h : a < len
  · rw [if_pos h, if_pos h, decide_eq_true h, Bool.true_and]
    rcases wth01 (c a) 48 57 with e | e
    · rw [e]; exact ⟨by decide, by decide⟩
    · rw [e]; exact ⟨by decide, by decide⟩
  · rw [if_neg h, if_neg h, decide_eq_false h, Bool.false_and]
    exact ⟨by decide, by decide⟩
theorem e_digits (hN : 20 < N) (h0 : len ≤ 60) (h1 : C 360 2 = nI len) (h2 : ∀ i, i < len → C 361 i = c i) (ha : C 360 4 = nI a) (hal : a ≤ len) :
    ∃ E : Nat → Nat → Int32, zl3 (f_X9_parseNumber_L33 TC N 360 x) N (0 : Int32) (0 : Int32) (C, rfC q) = f_X9_parseNumber_J81 TC N 360 x (dvF c a (dkF c len a)) (nI (dkF c len a)) (E, rfC q) ∧ E 360 4 = nI (a + dkF c len a) ∧ ∀ b j, ¬ (b = 360 ∧ j = 4) → E b j = C b j := by
  obtain ⟨k1, k2, k3⟩ := dk_ok (c := c) (len := len) (a := a)
  have kl := dk_len (c := c) hal
  refine zl3_inv (P := fun r => ∃ E : Nat → Nat → Int32, r = f_X9_parseNumber_J81 TC N 360 x (dvF c a (dkF c len a)) (nI (dkF c len a)) (E, rfC q) ∧ E 360 4 = nI (a + dkF c len a) ∧ ∀ b j, ¬ (b = 360 ∧ j = 4) → E b j = C b j) (dkF c len a)
    (fun i (x0 : Int32) (x1 : Int32) st => x0 = dvF c a i ∧ x1 = nI i ∧ ∃ E : Nat → Nat → Int32, st = (E, rfC q) ∧ E 360 4 = nI (a + i) ∧ ∀ b j, ¬ (b = 360 ∧ j = 4) → E b j = C b j) ?_ ?_ (dkF c len a) 0 N _ _ _ (by omega) (by omega) ⟨rfl, rfl, C, rfl, ha, fun b j _ => rfl⟩
  · rintro i hi x0 x1 st ⟨rfl, rfl, E, rfl, g1, g2⟩
    have hd := k2 i hi
    have hdl := (isD_iff.mp hd).1
    have ec : f_X9_code TC N (E, rfC q) 360 = some (c (a + i), (E, rfC q)) := by
      rw [e_code h0 ((g2 _ _ (by omega)).trans h1) (fun i hi => (g2 _ _ (by omega)).trans (h2 i hi)) g1 (by omega)]
      unfold cdC
      rw [if_pos hdl]
    refine Or.inl ⟨_, nI (i + 1), (zu E 360 4 (nI (a + (i + 1))), rfC q), ⟨rfl, rfl, _, rfl, zu_same, fun b j h => ?_⟩, fun k => ?_⟩
    · rw [zu_ne (fun e e2 => h ⟨e, e2⟩)]
      exact g2 b j h
    · unfold f_X9_parseNumber_L33
      rw [if_neg (show ¬ (5 : Int32) ≤ nI i from nI_ge (show i < 5 by omega) (by decide)), ec, zb2_some, e_isWithin, zb2_some, (isD_iff.mp hd).2, if_neg (by decide), ec, zb2_some, zn_eq, zn_eq, gI_of TC_360, g1, Option.bind_some, pI_of TC_360, Option.bind_some, nI_1, nI_1]
      rfl
  · rintro x0 x1 st ⟨rfl, rfl, E, rfl, g1, g2⟩ k
    refine ⟨E, ?_, g1, g2⟩
    unfold f_X9_parseNumber_L33
    by_cases h5 : dkF c len a < 5
    · rw [if_neg (show ¬ (5 : Int32) ≤ nI (dkF c len a) from nI_ge h5 (by decide)), e_code h0 ((g2 _ _ (by omega)).trans h1) (fun i hi => (g2 _ _ (by omega)).trans (h2 i hi)) g1 (by omega), zb2_some, e_isWithin, zb2_some, cd_dig.1, k3 h5, if_pos (show bI false = 0 from rfl)]
    · rw [if_pos (show (5 : Int32) ≤ nI (dkF c len a) from nI_le (a := 5) (b := dkF c len a) (by omega) (by omega))]
theorem m_digits (hN : 20 < N) (h0 : len ≤ 60) (h1 : D 0 18 = nI len) (h2 : ∀ i, i < len → D 13 i = c i) (ha : D 0 19 = nI a) (hal : a ≤ len) {y w : Int32} :
    ∃ E : Nat → Nat → Int32, zl3 (f_X12_reads_L44 TM N 0 x y w) N (0 : Int32) (0 : Int32) (D, rfM) = f_X12_reads_J95 TM N 0 x y w (nI (dkF c len a)) (dvF c a (dkF c len a)) (E, rfM) ∧ E 0 19 = nI (a + dkF c len a) ∧ ∀ b j, ¬ (b = 0 ∧ j = 19) → E b j = D b j := by
  obtain ⟨k1, k2, k3⟩ := dk_ok (c := c) (len := len) (a := a)
  have kl := dk_len (c := c) hal
  refine zl3_inv (P := fun r => ∃ E : Nat → Nat → Int32, r = f_X12_reads_J95 TM N 0 x y w (nI (dkF c len a)) (dvF c a (dkF c len a)) (E, rfM) ∧ E 0 19 = nI (a + dkF c len a) ∧ ∀ b j, ¬ (b = 0 ∧ j = 19) → E b j = D b j) (dkF c len a)
    (fun i (x0 : Int32) (x1 : Int32) st => x0 = nI i ∧ x1 = dvF c a i ∧ ∃ E : Nat → Nat → Int32, st = (E, rfM) ∧ E 0 19 = nI (a + i) ∧ ∀ b j, ¬ (b = 0 ∧ j = 19) → E b j = D b j) ?_ ?_ (dkF c len a) 0 N _ _ _ (by omega) (by omega) ⟨rfl, rfl, D, rfl, ha, fun b j _ => rfl⟩
  · rintro i hi x0 x1 st ⟨rfl, rfl, E, rfl, g1, g2⟩
    have hd := k2 i hi
    have hdl := (isD_iff.mp hd).1
    have ec : f_X12_sign TM N (E, rfM) 0 = some (c (a + i), (E, rfM)) := by
      rw [m_sign h0 ((g2 _ _ (by omega)).trans h1) (fun i hi => (g2 _ _ (by omega)).trans (h2 i hi)) g1 (by omega)]
      unfold cdM
      rw [if_pos hdl]
    refine Or.inl ⟨nI (i + 1), _, (zu E 0 19 (nI (a + (i + 1))), rfM), ⟨rfl, rfl, _, rfl, zu_same, fun b j h => ?_⟩, fun k => ?_⟩
    · rw [zu_ne (fun e e2 => h ⟨e, e2⟩)]
      exact g2 b j h
    · unfold f_X12_reads_L44
      rw [if_neg (show ¬ (5 : Int32) ≤ nI i from nI_ge (show i < 5 by omega) (by decide)), ec, zb2_some, m_in, zb2_some, (isD_iff.mp hd).2, if_neg (by decide), ec, zb2_some, zn_eq, gI_of TM_0, g1, Option.bind_some, pI_of TM_0, Option.bind_some, zn_eq, nI_1, nI_1]
      rfl
  · rintro x0 x1 st ⟨rfl, rfl, E, rfl, g1, g2⟩ k
    refine ⟨E, ?_, g1, g2⟩
    unfold f_X12_reads_L44
    by_cases h5 : dkF c len a < 5
    · rw [if_neg (show ¬ (5 : Int32) ≤ nI (dkF c len a) from nI_ge h5 (by decide)), m_sign h0 ((g2 _ _ (by omega)).trans h1) (fun i hi => (g2 _ _ (by omega)).trans (h2 i hi)) g1 (by omega), zb2_some, m_in, zb2_some, cd_dig.2, k3 h5, if_pos (show bI false = 0 from rfl)]
    · rw [if_pos (show (5 : Int32) ≤ nI (dkF c len a) from nI_le (a := 5) (b := dkF c len a) (by omega) (by omega))]
end NUM
