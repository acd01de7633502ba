/-! groups, on both sides -/
def hJ : Option Nat → Int32
  | none => -1
  | some g => nI g
/-- the groups of K, and those above them, are the same on both sides -/
def QK (K : Nat → Prop) (hg : Nat → Option Nat) (D : Nat → Nat → Int32) (V : Nat → Int32) : Prop := ∀ g, K g → g < 8 ∧ D 47 g = 1 ∧ D 48 g = hC (hg g) ∧ V (290 + 2 * g + 1) = hM (hg g) ∧ ∀ g2, hg g = some g2 → K g2
def QR8 (K : Nat → Prop) (hg : Nat → Option Nat) (r : Nat → Nat) : Prop := ∀ g, K g → r g < 8 ∧ ∀ g2, hg g = some g2 → r g2 < r g
theorem nI_nNN {g : Nat} (h : g < 2 ^ 31) : ¬ nI g = -1000000 := fun e => by
  have h1 := nI_toInt h
  rw [e] at h1
  have h2 : (-1000000 : Int32).toInt = -1000000 := by decide +kernel
  rw [h2] at h1
  omega
theorem hC_NN {x : Option Nat} (h : ∀ g, x = some g → g < 8) : hC x = -1000000 ↔ x = none := by
  cases x with
  | none => exact ⟨fun _ => rfl, fun _ => rfl⟩
  | some g => exact ⟨fun e => absurd e (nI_nNN (by have := h g rfl; omega)), fun e => by cases e⟩
theorem hM_1 (x : Option Nat) : hM x - 1 = hJ x := by
  cases x with
  | none => decide
  | some g => exact nI_pred g
theorem cnt_lt {P : Nat → Bool} {s n : Nat} (hs : s < n) (h : P s = false) : cnt P n < n := by
  have e := cnt_add (P := P) (Q := fun i => if i = s then true else P i) hs h (if_pos rfl) (fun i _ hi => if_neg hi)
  have := cnt_le (fun i => if i = s then true else P i) n
  omega
theorem cnt_mono {P Q : Nat → Bool} : ∀ {n : Nat}, (∀ i, i < n → P i = true → Q i = true) → cnt P n ≤ cnt Q n := by
  intro n
  induction n with
  | zero => intro _; exact Nat.le_refl _
  | succ n ih =>
    intro h
    have h1 := ih (fun i hi => h i (by omega))
    by_cases hP : P n = true
    · rw [cnt_t hP, cnt_t (h n (by omega) hP)]; omega
    · rw [cnt_f hP]
      by_cases hQ : Q n = true
      · rw [cnt_t hQ]; omega
      · rw [cnt_f hQ]; exact h1
theorem cnt_slt {P Q : Nat → Bool} {s n : Nat} (hs : s < n) (hP : P s = false) (hQ : Q s = true) (h : ∀ i, i < n → P i = true → Q i = true) : cnt P n < cnt Q n := by
  have e := cnt_add (P := P) (Q := fun i => if i = s then true else P i) hs hP (if_pos rfl) (fun i _ hi => if_neg hi)
  have e2 := cnt_mono (P := fun i => if i = s then true else P i) (Q := Q) (n := n) (fun i hi hx => by
    by_cases e : i = s
    · subst e; exact hQ
    · simp only [if_neg e] at hx; exact h i hi hx)
  omega
/-- any rank gives one below 8 -/
theorem rk8 {gt : Nat → Bool} {hg : Nat → Option Nat} (gg : ∀ g, g < 8 → gt g = true → ∀ g2, hg g = some g2 → g2 < 8 ∧ gt g2 = true) (h : ∃ r : Nat → Nat, ∀ g, g < 8 → gt g = true → ∀ g2, hg g = some g2 → r g2 < r g) : ∃ r, QR8 (fun g => g < 8 ∧ gt g = true) hg r := by
  obtain ⟨r, hr⟩ := h
  refine ⟨fun g => cnt (fun k => gt k && decide (r k < r g)) 8, fun g ⟨hg8, hgt⟩ => ⟨cnt_lt hg8 (by simp), fun g2 h2 => ?_⟩⟩
  obtain ⟨a, b⟩ := gg g hg8 hgt g2 h2
  have hlt := hr g hg8 hgt g2 h2
  refine cnt_slt a (by simp) (by simp [b, hlt]) (fun i hi hx => ?_)
  simp only [Bool.and_eq_true, decide_eq_true_eq] at hx ⊢
  exact ⟨hx.1, by omega⟩
section GRP
variable {G M : Nat → Nat → Int32} {K : Nat → Prop} {hg : Nat → Option Nat} {r : Nat → Nat} {N : Nat} {V : Nat → Int32}
theorem hmG_K (hk : QK K hg G V) {g : Nat} (h : K g) : hmG G (nI g) = hC (hg g) := by
  obtain ⟨h8, h1, h2, h3, h4⟩ := hk g h
  unfold hmG
  rw [nI_clamp (by omega), h1, h2, if_neg]
  rintro (h | h | h)
  · exact nI_pos (by omega) h
  · exact nI_n8 h8 h
  · exact absurd h (by decide)
theorem hmG_NN : hmG G (-1000000) = -1000000 := by
  unfold hmG
  rw [if_pos (Or.inl (by decide))]
theorem K8 (hk : QK K hg G V) {x : Option Nat} (h : ∀ g, x = some g → K g) : ∀ g, x = some g → g < 8 := fun g e => (hk g (h g e)).1
theorem outG_K (hk : QK K hg G V) : ∀ (n : Nat) (x : Option Nat), (∀ g, x = some g → K g) → outG G n (hC x) = hC (topA hg n x) := by
  intro n
  induction n with
  | zero => intro x _; rfl
  | succ n ih =>
    intro x hx
    unfold outG
    cases x with
    | none =>
      show (if hmG G (-1000000) = -1000000 then _ else _) = _
      rw [hmG_NN, if_pos rfl]
      rfl
    | some g =>
      have hKg := hx g rfl
      show (if hmG G (nI g) = -1000000 then _ else _) = _
      rw [hmG_K hk hKg]
      have h4 := (hk g hKg).2.2.2.2
      unfold topA
      cases e : hg g with
      | none => rw [if_pos (show hC none = -1000000 from rfl)]
      | some k =>
        have hKk := h4 k e
        rw [if_neg (show ¬ hC (some k) = -1000000 from nI_nNN (by have := (hk k hKk).1; omega))]
        show outG G n (hmG G (nI g)) = hC (topA hg n (some k))
        rw [hmG_K hk hKg, e]
        exact ih (some k) (fun g h => by cases h; exact hKk)
theorem insG_K (hk : QK K hg G V) {g0 : Nat} (h0 : g0 < 8) : ∀ (n : Nat) (x : Option Nat), (∀ g, x = some g → K g) → (insG G (nI g0) n (hC x) = nI g0 ↔ insA hg g0 n x = true) := by
  intro n
  induction n with
  | zero =>
    intro x hx
    show hC x = nI g0 ↔ decide (x = some g0) = true
    rw [decide_eq_true_iff]
    cases x with
    | none => exact ⟨fun e => absurd e.symm (nI_nNN (by omega)), fun e => by cases e⟩
    | some g =>
      have := (hk g (hx g rfl)).1
      exact ⟨fun e => by rw [(nI_eq (by omega) (by omega)).mp e], fun e => by cases e; rfl⟩
  | succ n ih =>
    intro x hx
    unfold insG
    cases x with
    | none =>
      rw [if_pos (Or.inr (show hC none = -1000000 from rfl))]
      exact ⟨fun e => absurd e.symm (nI_nNN (by omega)), fun e => by cases e⟩
    | some g =>
      have hKg := hx g rfl
      have h8 := (hk g hKg).1
      show (if nI g = nI g0 ∨ nI g = -1000000 then nI g else _) = _ ↔ (decide (g = g0) || insA hg g0 n (hg g)) = true
      by_cases e : g = g0
      · subst e
        rw [if_pos (Or.inl rfl)]
        simp
      · have e2 : ¬ nI g = nI g0 := fun q => e ((nI_eq (by omega) (by omega)).mp q)
        rw [if_neg (fun q => q.elim e2 (nI_nNN (by omega)))]
        show insG G (nI g0) n (hmG G (nI g)) = nI g0 ↔ _
        rw [hmG_K hk hKg, ih (hg g) (hk g hKg).2.2.2.2]
        simp [e]
/-! the reference's side -/
theorem v_rd {i : Nat} (hi : i < 380) : aI TM (M, rfM) 1 13 (nI i) = some (M 1 i) := aI_of TM_1 ML_1 hi (by decide)
theorem v_wr {i : Nat} (hi : i < 380) {x : Int32} : sI TM (M, rfM) 1 (nI i) x = some (zu M 1 i x, rfM) := sI_of TM_1 ML_1 hi (by decide)
theorem g_v : gR TM (M, rfM) 0 12 0 = some 1 := (gR_of TM_0).trans rm_0
theorem ix8 (s : Nat) : (10 : Int32) + 8 * nI s = nI (10 + 8 * s) := by
  rw [show (8 : Int32) * nI s = nI (8 * s) from pk_mul 8 s]
  exact nI_add 10 (8 * s)
theorem ix2 (g : Nat) : (290 : Int32) + 2 * nI g = nI (290 + 2 * g) := by
  rw [show (2 : Int32) * nI g = nI (2 * g) from pk_mul 2 g]
  exact nI_add 290 (2 * g)
theorem ix5 (c : Nat) : (190 : Int32) + 5 * nI c = nI (190 + 5 * c) := by
  rw [show (5 : Int32) * nI c = nI (5 * c) from pk_mul 5 c]
  exact nI_add 190 (5 * c)
theorem ixG (c : Nat) : (310 : Int32) + 2 * nI c = nI (310 + 2 * c) := by
  rw [show (2 : Int32) * nI c = nI (2 * c) from pk_mul 2 c]
  exact nI_add 310 (2 * c)
theorem ixD (k : Nat) : (170 : Int32) + nI k = nI (170 + k) := nI_add 170 k
theorem m_of {s j : Nat} (h : 10 + 8 * s + j < 380) : f_X12_of TM N (M, rfM) 0 (nI s) (nI j) = some (M 1 (10 + 8 * s + j), (M, rfM)) := by
  unfold f_X12_of
  rw [zz1_of TM_0]
  simp only [g_v, Option.bind_some]
  rw [ix8, nI_add, v_rd h, Option.bind_some]
theorem m_in {T : zT} {σ : zS} {x a b : Int32} : f_X12_in T N σ x a b = some (wth x a b, σ) := by
  unfold f_X12_in wth
  by_cases h : x < a
  · rw [if_pos h, if_pos h]; rfl
  · rw [if_neg h, if_neg h]
    by_cases h2 : b < x
    · rw [if_pos h2, if_pos h2]; rfl
    · rw [if_neg h2, if_neg h2]; rfl
theorem m_groupOf {s : Nat} (h : s < 20) : f_X12_groupOf TM N (M, rfM) 0 (nI s) = some (M 1 (10 + 8 * s + 7) - 1, (M, rfM)) := by
  unfold f_X12_groupOf
  rw [zz1_of TM_0, show (7 : Int32) = nI 7 from rfl, m_of (by omega), zb2_some]
theorem m_above (hk : QK K hg G (M 1)) {g : Nat} (h : K g) : f_X12_above TM N (M, rfM) 0 (nI g) = some (hJ (hg g), (M, rfM)) := by
  obtain ⟨h8, h1, h2, h3, h4⟩ := hk g h
  unfold f_X12_above
  rw [zz1_of TM_0]
  simp only [g_v, Option.bind_some]
  rw [ix2, nI_1, v_rd (by omega), h3]
  simp only [Option.bind_some]
  rw [hM_1]
theorem hJ_neg {x : Option Nat} (h : ∀ g, x = some g → g < 8) : hJ x < 0 ↔ x = none := by
  cases x with
  | none => exact ⟨fun _ => rfl, fun _ => by decide⟩
  | some g => exact ⟨fun e => absurd e (nI_pos (by have := h g rfl; omega)), fun e => by cases e⟩
theorem m_outermost_l (hk : QK K hg G (M 1)) (hr : QR8 K hg r) : ∀ (b n : Nat) (x : Option Nat), (∀ g, x = some g → K g ∧ r g < b) → b < n → zl2 (f_X12_outermost_L6 TM N 0) n (hJ x) (M, rfM) = some (hJ (topA hg b x), (M, rfM)) := by
  intro b
  induction b with
  | zero =>
    intro n x hx hn
    obtain ⟨m, rfl⟩ : ∃ m, n = m + 1 := ⟨n - 1, by omega⟩
    cases x with
    | none =>
      rw [zl2]
      unfold f_X12_outermost_L6
      rw [if_pos (show hJ none < 0 by decide)]
      rfl
    | some g => exact absurd (hx g rfl).2 (by omega)
  | succ b ih =>
    intro n x hx hn
    obtain ⟨m, rfl⟩ : ∃ m, n = m + 1 := ⟨n - 1, by omega⟩
    rw [zl2]
    unfold f_X12_outermost_L6
    cases x with
    | none =>
      rw [if_pos (show hJ none < 0 by decide)]
      rfl
    | some g =>
      obtain ⟨hKg, hrg⟩ := hx g rfl
      obtain ⟨h8, h1, h2, h3, h4⟩ := hk g hKg
      rw [if_neg (show ¬ hJ (some g) < 0 from nI_pos (by omega))]
      show zb2 (f_X12_above TM N (M, rfM) 0 (nI g)) _ = _
      rw [m_above hk hKg, zb2_some]
      unfold topA
      cases e : hg g with
      | none =>
        rw [if_pos (show hJ none < 0 by decide)]
      | some k =>
        have hKk := h4 k e
        rw [if_neg (show ¬ hJ (some k) < 0 from nI_pos (by have := (hk k hKk).1; omega))]
        show zb2 (f_X12_above TM N (M, rfM) 0 (nI g)) _ = _
        rw [m_above hk hKg, zb2_some, e]
        refine ih m (some k) (fun g2 h => ?_) (by omega)
        cases h
        exact ⟨hKk, by have := (hr g hKg).2 k e; omega⟩
theorem m_outermost (hN : 9 < N) (hk : QK K hg G (M 1)) (hr : QR8 K hg r) {s : Nat} (hs : s < 20) {x : Option Nat} (hx : ∀ g, x = some g → K g) (hv : M 1 (10 + 8 * s + 7) = hM x) : f_X12_outermost TM N (M, rfM) 0 (nI s) = some (hJ (topA hg 8 x), (M, rfM)) := by
  unfold f_X12_outermost
  rw [zz1_of TM_0, m_groupOf hs, zb2_some, hv, hM_1]
  exact m_outermost_l hk hr 8 N x (fun g h => ⟨hx g h, (hr g (hx g h)).1⟩) (by omega)
theorem m_isWithin_J {σ : zS} {x g : Int32} : f_X12_isWithin_J24 TM N g x σ = some (if x = g then 1 else 0, σ) := by
  unfold f_X12_isWithin_J24
  by_cases h : x = g
  · rw [if_neg (fun n => n h), if_pos h]; rfl
  · rw [if_pos h, if_neg h]; rfl
theorem m_isWithin_l (hk : QK K hg G (M 1)) (hr : QR8 K hg r) {g0 : Nat} (h0 : g0 < 8) : ∀ (b n : Nat) (x : Option Nat), (∀ g, x = some g → K g ∧ r g < b) → b < n → zl2 (f_X12_isWithin_L6 TM N 0 (nI g0)) n (hJ x) (M, rfM) = some (bI (insA hg g0 b x), (M, rfM)) := by
  have hnone : ¬ (hJ none = nI g0) := fun e => by
    have := nI_pos (n := g0) (by omega)
    rw [← e] at this
    exact this (by decide)
  intro b
  induction b with
  | zero =>
    intro n x hx hn
    obtain ⟨m, rfl⟩ : ∃ m, n = m + 1 := ⟨n - 1, by omega⟩
    cases x with
    | none =>
      rw [zl2]
      unfold f_X12_isWithin_L6
      rw [if_pos (show hJ none < 0 by decide), m_isWithin_J, if_neg hnone]
      rfl
    | some g => exact absurd (hx g rfl).2 (by omega)
  | succ b ih =>
    intro n x hx hn
    obtain ⟨m, rfl⟩ : ∃ m, n = m + 1 := ⟨n - 1, by omega⟩
    rw [zl2]
    unfold f_X12_isWithin_L6
    cases x with
    | none =>
      rw [if_pos (show hJ none < 0 by decide), m_isWithin_J, if_neg hnone]
      rfl
    | some g =>
      obtain ⟨hKg, hrg⟩ := hx g rfl
      obtain ⟨h8, h1, h2, h3, h4⟩ := hk g hKg
      rw [if_neg (show ¬ hJ (some g) < 0 from nI_pos (by omega))]
      show (if nI g = nI g0 then _ else zb2 (f_X12_above TM N (M, rfM) 0 (nI g)) _) = _
      by_cases e : g = g0
      · subst e
        rw [if_pos rfl, m_isWithin_J, if_pos (show hJ (some g) = nI g from rfl)]
        show _ = some (bI (decide (g = g) || insA hg g b (hg g)), _)
        rw [decide_eq_true rfl, Bool.true_or]
        rfl
      · rw [if_neg (fun q => e ((nI_eq (by omega) (by omega)).mp q)), m_above hk hKg, zb2_some]
        show _ = some (bI (decide (g = g0) || insA hg g0 b (hg g)), _)
        rw [decide_eq_false e, Bool.false_or]
        exact ih m (hg g) (fun g2 h => ⟨h4 g2 h, by have := (hr g hKg).2 g2 h; omega⟩) (by omega)
theorem m_isWithin (hN : 9 < N) (hk : QK K hg G (M 1)) (hr : QR8 K hg r) {s g0 : Nat} (h0 : g0 < 8) (hs : s < 20) {x : Option Nat} (hx : ∀ g, x = some g → K g) (hv : M 1 (10 + 8 * s + 7) = hM x) : f_X12_isWithin TM N (M, rfM) 0 (nI s) (nI g0) = some (bI (insA hg g0 8 x), (M, rfM)) := by
  unfold f_X12_isWithin
  rw [zz1_of TM_0, m_groupOf hs, zb2_some, hv, hM_1]
  exact m_isWithin_l hk hr h0 8 N x (fun g h => ⟨hx g h, (hr g (hx g h)).1⟩) (by omega)
/-- the shapes of a group, in the relation's words -/
def inA (th : Nat → Bool) (hs hg : Nat → Option Nat) (g s : Nat) : Bool := th s && insA hg g 8 (hs s)
theorem m_setOf (hN : 20 < N) (hk : QK K hg G (M 1)) (hr : QR8 K hg r) {th : Nat → Bool} {hs : Nat → Option Nat} {g0 : Nat} (h0 : g0 < 8) (ht : ∀ s, s < 20 → M 1 (10 + 8 * s) = bI (th s)) (hh : ∀ s, s < 20 → th s = true → M 1 (10 + 8 * s + 7) = hM (hs s) ∧ ∀ g, hs s = some g → K g) : f_X12_setOf TM N (M, rfM) 0 (nI g0) = some (mkS (inA th hs hg g0) 20, (M, rfM)) := by
  unfold f_X12_setOf
  rw [zz1_of TM_0]
  refine zl3_end 20 (fun i => mkS (inA th hs hg g0) i) (fun i => nI i) (fun _ => (M, rfM)) rfl nI_0.symm rfl hN (fun i hi k => ?_) (fun k => ?_)
  · unfold f_X12_setOf_L4
    rw [if_neg (nI_n20 hi), show (0 : Int32) = nI 0 from rfl, m_of (by omega), zb2_some]
    have e := ht i hi
    rw [show 10 + 8 * i + 0 = 10 + 8 * i from rfl, e]
    have hor : mkS (inA th hs hg g0) i ||| nI 0 = mkS (inA th hs hg g0) i := by
      apply b_ext
      intro j hj
      rw [b_or, show bt (nI 0) j = false from b_0 j, Bool.or_false]
    by_cases h : th i = true
    · rw [h, if_neg (fun n => n rfl), m_isWithin (by omega) hk hr h0 hi (hh i hi h).2 (hh i hi h).1, zb2_some]
      have e2 : inA th hs hg g0 i = insA hg g0 8 (hs i) := by unfold inA; rw [h, Bool.true_and]
      by_cases h2 : insA hg g0 8 (hs i) = true
      · rw [h2, if_neg (by decide), zn_eq, zn_eq, nI_1, mkS_t (e2.trans h2)]
      · have h3 : insA hg g0 8 (hs i) = false := by simpa using h2
        rw [h3, if_pos (show bI false = nI 0 from rfl), zn_eq, zn_eq, nI_1, hor, mkS_f (by rw [e2]; exact h2)]
    · have h3 : th i = false := by simpa using h
      rw [h3, if_pos (by decide), zn_eq, zn_eq, nI_1, hor, mkS_f (by unfold inA; rw [h3]; simp)]
  · unfold f_X12_setOf_L4
    rw [if_pos (nI_20 (Nat.le_refl 20) (by decide))]
end GRP
