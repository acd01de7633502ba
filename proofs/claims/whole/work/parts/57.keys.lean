/-! units by keys: which shape begins a unit, its number, who is in which -/
theorem anyB_iff {f : Nat → Bool} : ∀ {n : Nat}, anyB f n = true ↔ ∃ i, i < n ∧ f i = true := by
  intro n
  induction n with
  | zero => exact ⟨fun h => (by cases h), fun ⟨i, h, _⟩ => (by omega)⟩
  | succ n ih =>
    show (anyB f n || f n) = true ↔ _
    rw [Bool.or_eq_true, ih]
    constructor
    · rintro (⟨i, h1, h2⟩ | h)
      · exact ⟨i, by omega, h2⟩
      · exact ⟨n, by omega, h⟩
    · rintro ⟨i, h1, h2⟩
      by_cases e : i = n
      · subst e; exact Or.inr h2
      · exact Or.inl ⟨i, by omega, h2⟩
/-- the first place below n with f, else n -/
def fdx (f : Nat → Bool) : Nat → Nat
  | 0 => 0
  | n + 1 => if anyB f n = true then fdx f n else if f n = true then n else n + 1
theorem fdx_spec {f : Nat → Bool} : ∀ n, fdx f n ≤ n ∧ (∀ u, u < fdx f n → f u = false) ∧ (fdx f n < n → f (fdx f n) = true) := by
  intro n
  induction n with
  | zero => exact ⟨Nat.le_refl _, fun u h => (by cases h), fun h => (by cases h)⟩
  | succ n ih =>
    obtain ⟨h1, h2, h3⟩ := ih
    unfold fdx
    by_cases ha : anyB f n = true
    · rw [if_pos ha]
      have hlt : fdx f n < n := by
        obtain ⟨i, hi, hf⟩ := anyB_iff.mp ha
        by_cases e : fdx f n < n
        · exact e
        · have := h2 i (by omega)
          rw [hf] at this
          cases this
      exact ⟨by omega, h2, fun _ => h3 hlt⟩
    · rw [if_neg ha]
      have hno : ∀ u, u < n → f u = false := fun u hu => by
        cases e : f u
        · rfl
        · exact absurd (anyB_iff.mpr ⟨u, hu, e⟩) ha
      by_cases hf : f n = true
      · rw [if_pos hf]
        exact ⟨by omega, hno, fun _ => hf⟩
      · rw [if_neg hf]
        refine ⟨Nat.le_refl _, fun u hu => ?_, fun h => by omega⟩
        by_cases e : u = n
        · rw [e]; simpa using hf
        · exact hno u (by omega)
/-- shape i is the first one of its unit -/
def nwB (sel : Nat → Bool) (ky : Nat → Nat) (i : Nat) : Bool := sel i && !anyB (fun u => sel u && decide (ky u = ky i)) i
/-- the first shape of unit u, of the units begun below i -/
def usF (sel : Nat → Bool) (ky : Nat → Nat) : Nat → Nat → Nat
  | 0 => fun _ => 0
  | i + 1 => if nwB sel ky i = true then (fun u => if u = cnt (nwB sel ky) i then i else usF sel ky i u) else usF sel ky i
/-- the unit of shape i -/
def uoF (sel : Nat → Bool) (ky : Nat → Nat) (i : Nat) : Nat := fdx (fun u => decide (ky (usF sel ky i u) = ky i)) (cnt (nwB sel ky) i)
section KEY
variable {sel : Nat → Bool} {ky : Nat → Nat}
theorem nw_sel {i : Nat} (h : nwB sel ky i = true) : sel i = true := by
  unfold nwB at h
  rw [Bool.and_eq_true] at h
  exact h.1
theorem nw_no {i v : Nat} (h : nwB sel ky i = true) (hv : v < i) (hs : sel v = true) : ky v ≠ ky i := fun e => by
  unfold nwB at h
  rw [Bool.and_eq_true, Bool.not_eq_true'] at h
  have := anyB_iff (f := fun u => sel u && decide (ky u = ky i)).mpr ⟨v, hv, show (sel v && decide (ky v = ky i)) = true by rw [hs, decide_eq_true e]; rfl⟩
  rw [h.2] at this
  cases this
theorem us_s {i u : Nat} (h : nwB sel ky i = true) : usF sel ky (i + 1) u = if u = cnt (nwB sel ky) i then i else usF sel ky i u := by
  show (if nwB sel ky i = true then (fun u => if u = cnt (nwB sel ky) i then i else usF sel ky i u) else usF sel ky i) u = _
  rw [if_pos h]
theorem us_f {i u : Nat} (h : ¬ nwB sel ky i = true) : usF sel ky (i + 1) u = usF sel ky i u := by
  show (if nwB sel ky i = true then (fun u => if u = cnt (nwB sel ky) i then i else usF sel ky i u) else usF sel ky i) u = _
  rw [if_neg h]
theorem us_st {i u : Nat} (hu : u < cnt (nwB sel ky) i) : usF sel ky (i + 1) u = usF sel ky i u := by
  by_cases h : nwB sel ky i = true
  · rw [us_s h, if_neg (by omega)]
  · rw [us_f h]
theorem cnt_up {P : Nat → Bool} {i j : Nat} (h : i ≤ j) : cnt P i ≤ cnt P j := by
  induction j with
  | zero =>
    have : i = 0 := by omega
    rw [this]
    exact Nat.le_refl _
  | succ j ih =>
    by_cases e : i = j + 1
    · rw [e]; exact Nat.le_refl _
    · have := ih (by omega)
      by_cases hP : P j = true
      · rw [cnt_t hP]; omega
      · rw [cnt_f hP]; omega
theorem us_sts {i j u : Nat} (h : i ≤ j) (hu : u < cnt (nwB sel ky) i) : usF sel ky j u = usF sel ky i u := by
  induction j with
  | zero =>
    have : i = 0 := by omega
    rw [this]
  | succ j ih =>
    by_cases e : i = j + 1
    · rw [e]
    · have := cnt_up (P := nwB sel ky) (show i ≤ j by omega)
      rw [us_st (by omega), ih (by omega)]
theorem us_ok : ∀ {i u : Nat}, u < cnt (nwB sel ky) i → usF sel ky i u < i ∧ nwB sel ky (usF sel ky i u) = true ∧ cnt (nwB sel ky) (usF sel ky i u) = u := by
  intro i
  induction i with
  | zero => intro u h; cases h
  | succ i ih =>
    intro u h
    by_cases hn : nwB sel ky i = true
    · rw [us_s hn]
      by_cases e : u = cnt (nwB sel ky) i
      · rw [if_pos e]
        exact ⟨by omega, hn, e.symm⟩
      · rw [cnt_t hn] at h
        rw [if_neg e]
        obtain ⟨a, b, c⟩ := ih (u := u) (by omega)
        exact ⟨by omega, b, c⟩
    · rw [us_f hn]
      rw [cnt_f hn] at h
      obtain ⟨a, b, c⟩ := ih h
      exact ⟨by omega, b, c⟩
theorem us_of {i v : Nat} (hv : v < i) (h : nwB sel ky v = true) : cnt (nwB sel ky) v < cnt (nwB sel ky) i ∧ usF sel ky i (cnt (nwB sel ky) v) = v := by
  have h1 : cnt (nwB sel ky) v < cnt (nwB sel ky) (v + 1) := by rw [cnt_t h]; omega
  have h2 := cnt_up (P := nwB sel ky) (show v + 1 ≤ i by omega)
  refine ⟨by omega, ?_⟩
  rw [us_sts (show v + 1 ≤ i by omega) h1, us_s h, if_pos rfl]
theorem us_inj {i u v : Nat} (hu : u < cnt (nwB sel ky) i) (hv : v < cnt (nwB sel ky) i) (e : ky (usF sel ky i u) = ky (usF sel ky i v)) : u = v := by
  obtain ⟨a1, a2, a3⟩ := us_ok hu
  obtain ⟨b1, b2, b3⟩ := us_ok hv
  rcases Nat.lt_trichotomy (usF sel ky i u) (usF sel ky i v) with h | h | h
  · exact absurd e (nw_no b2 h (nw_sel a2))
  · rw [← a3, ← b3, h]
  · exact absurd e.symm (nw_no a2 h (nw_sel b2))
/-- each selected shape has a first one with its key -/
theorem first_of : ∀ {s : Nat}, sel s = true → ∃ v, v ≤ s ∧ nwB sel ky v = true ∧ ky v = ky s := by
  intro s
  induction s using Nat.strongRecOn with
  | ind s ih =>
    intro hs
    by_cases h : nwB sel ky s = true
    · exact ⟨s, Nat.le_refl _, h, rfl⟩
    · have ha : anyB (fun u => sel u && decide (ky u = ky s)) s = true := by
        unfold nwB at h
        rw [hs, Bool.true_and] at h
        cases e : anyB (fun u => sel u && decide (ky u = ky s)) s
        · rw [e] at h; exact absurd rfl h
        · rfl
      obtain ⟨u, hu, hf⟩ := anyB_iff.mp ha
      have hf : (sel u && decide (ky u = ky s)) = true := hf
      rw [Bool.and_eq_true, decide_eq_true_iff] at hf
      obtain ⟨v, h1, h2, h3⟩ := ih u hu hf.1
      exact ⟨v, by omega, h2, h3.trans hf.2⟩
theorem uo_new {i : Nat} (h : nwB sel ky i = true) : uoF sel ky i = cnt (nwB sel ky) i := by
  obtain ⟨h1, h2, h3⟩ := fdx_spec (f := fun u => decide (ky (usF sel ky i u) = ky i)) (cnt (nwB sel ky) i)
  by_cases e : fdx (fun u => decide (ky (usF sel ky i u) = ky i)) (cnt (nwB sel ky) i) < cnt (nwB sel ky) i
  · obtain ⟨a1, a2, a3⟩ := us_ok e
    exact absurd (of_decide_eq_true (h3 e)) (nw_no h a1 (nw_sel a2))
  · exact Nat.le_antisymm h1 (Nat.le_of_not_lt e)
theorem uo_old {i : Nat} (hs : sel i = true) (h : ¬ nwB sel ky i = true) : uoF sel ky i < cnt (nwB sel ky) i ∧ ky (usF sel ky i (uoF sel ky i)) = ky i := by
  obtain ⟨h1, h2, h3⟩ := fdx_spec (f := fun u => decide (ky (usF sel ky i u) = ky i)) (cnt (nwB sel ky) i)
  obtain ⟨v, v1, v2, v3⟩ := first_of (ky := ky) hs
  have hvi : v < i := by
    by_cases e : v = i
    · rw [e] at v2; exact absurd v2 h
    · omega
  obtain ⟨w1, w2⟩ := us_of hvi v2
  have hlt : fdx (fun u => decide (ky (usF sel ky i u) = ky i)) (cnt (nwB sel ky) i) < cnt (nwB sel ky) i := by
    by_cases e : fdx (fun u => decide (ky (usF sel ky i u) = ky i)) (cnt (nwB sel ky) i) < cnt (nwB sel ky) i
    · exact e
    · have := h2 (cnt (nwB sel ky) v) (by omega)
      have := of_decide_eq_false this
      rw [w2] at this
      exact absurd v3 this
  exact ⟨hlt, of_decide_eq_true (h3 hlt)⟩
theorem uo_lt {i : Nat} : ∀ u, u < uoF sel ky i → ky (usF sel ky i u) ≠ ky i := fun u hu => of_decide_eq_false ((fdx_spec (f := fun u => decide (ky (usF sel ky i u) = ky i)) (cnt (nwB sel ky) i)).2.1 u hu)
theorem uo_le {i : Nat} : uoF sel ky i ≤ cnt (nwB sel ky) i := (fdx_spec (f := fun u => decide (ky (usF sel ky i u) = ky i)) (cnt (nwB sel ky) i)).1
theorem uo_ok {i s : Nat} (hs : sel s = true) (hi : s < i) : uoF sel ky s < cnt (nwB sel ky) i ∧ ky (usF sel ky i (uoF sel ky s)) = ky s := by
  have hup := cnt_up (P := nwB sel ky) (show s + 1 ≤ i by omega)
  by_cases h : nwB sel ky s = true
  · rw [uo_new h]
    obtain ⟨a, b⟩ := us_of hi h
    exact ⟨a, by rw [b]⟩
  · obtain ⟨a, b⟩ := uo_old hs h
    rw [cnt_f h] at hup
    exact ⟨by omega, by rw [us_sts (Nat.le_of_lt hi) a, b]⟩
/-- whose unit is u -/
theorem uo_iff {i s u : Nat} (hs : sel s = true) (hi : s < i) (hu : u < cnt (nwB sel ky) i) : uoF sel ky s = u ↔ ky (usF sel ky i u) = ky s := by
  obtain ⟨a, b⟩ := uo_ok (ky := ky) hs hi
  constructor
  · intro e
    rw [← e]
    exact b
  · intro e
    exact us_inj a hu (b.trans e.symm)
end KEY
/-- the key of a shape: its outermost group, or itself -/
def kyS (hs hg : Nat → Option Nat) (s : Nat) : Nat := match unO hs hg s with
  | none => 8 + s
  | some g => g
section KYS
variable {n c ln : Nat} {th sel gt : Nat → Bool} {hs hg : Nat → Option Nat} {D : Nat → Nat → Int32} {V : Nat → Int32} {s t : Nat}
theorem kyS_n (h : unO hs hg s = none) : kyS hs hg s = 8 + s := by unfold kyS; rw [h]
theorem kyS_g {g : Nat} (h : unO hs hg s = some g) : kyS hs hg s = g := by unfold kyS; rw [h]
theorem unA_ky (hH : QH th sel hs hg gt D V) (h : s < 20) (ht : th s = true) {i : Nat} (hi : i < 20) : unA th hs hg s i = (th i && decide (kyS hs hg s = kyS hs hg i)) := by
  by_cases hti : th i = true
  · rw [hti, Bool.true_and]
    unfold unA
    cases e : unO hs hg s with
    | none =>
      rw [kyS_n e]
      cases e2 : unO hs hg i with
      | none =>
        rw [kyS_n e2]
        by_cases h2 : i = s
        · subst h2
          simp
        · show decide (i = s) = _
          rw [decide_eq_false h2, decide_eq_false (by omega)]
      | some g2 =>
        have := (unO_8 hH hi hti e2).1
        rw [kyS_g e2]
        have h2 : i ≠ s := fun q => by rw [q, e] at e2; cases e2
        show decide (i = s) = _
        rw [decide_eq_false h2, decide_eq_false (by omega)]
    | some g =>
      have := (unO_8 hH h ht e).1
      rw [kyS_g e]
      show (th i && decide (unO hs hg i = some g)) = _
      rw [hti, Bool.true_and]
      cases e2 : unO hs hg i with
      | none =>
        rw [kyS_n e2, decide_eq_false (show ¬ (none : Option Nat) = some g from fun q => by cases q), decide_eq_false (show ¬ g = 8 + i by omega)]
      | some g2 =>
        rw [kyS_g e2]
        by_cases h2 : g2 = g
        · subst h2; simp
        · rw [decide_eq_false (fun q => h2 (Option.some.inj q)), decide_eq_false (fun q => h2 q.symm)]
  · have hti2 : th i = false := by simpa using hti
    rw [hti2, Bool.false_and]
    unfold unA
    cases e : unO hs hg s with
    | none =>
      show decide (i = s) = _
      exact decide_eq_false (fun q => by rw [q, ht] at hti2; cases hti2)
    | some g =>
      show (th i && decide (unO hs hg i = some g)) = _
      rw [hti2, Bool.false_and]
/-- two of a unit are selected together -/
theorem ky_sel (hH : QH th sel hs hg gt D V) (h : s < 20) (ht : th s = true) (h2 : t < 20) (ht2 : th t = true) (e : kyS hs hg s = kyS hs hg t) : sel s = sel t := by
  cases e1 : unO hs hg s with
  | none =>
    cases e2 : unO hs hg t with
    | none =>
      rw [kyS_n e1, kyS_n e2] at e
      have : s = t := by omega
      rw [this]
    | some g2 =>
      have := (unO_8 hH h2 ht2 e2).1
      rw [kyS_n e1, kyS_g e2] at e
      omega
  | some g =>
    have := (unO_8 hH h ht e1).1
    cases e2 : unO hs hg t with
    | none =>
      rw [kyS_g e1, kyS_n e2] at e
      omega
    | some g2 =>
      rw [kyS_g e1, kyS_g e2] at e
      subst e
      exact hH.cl s t g h h2 ht ht2 e1 e2
end KYS
