/-! boxes of sets: both ways to find them are one -/
theorem lwF_ext {st : Int32} {f : Nat → Int32} {P Q : Nat → Bool} : ∀ {n : Nat}, (∀ s, s < n → P s = Q s) → lwF st f P n = lwF st f Q n := by
  intro n
  induction n with
  | zero => intro _; rfl
  | succ n ih =>
    intro h
    have e := ih (fun s hs => h s (by omega))
    by_cases hP : P n = true
    · rw [lwF_t hP, lwF_t (by rw [← h n (by omega)]; exact hP), e]
    · have hP2 : P n = false := by simpa using hP
      rw [lwF_f hP2, lwF_f (by rw [← h n (by omega)]; exact hP2), e]
theorem hgF_ext {st : Int32} {f : Nat → Int32} {P Q : Nat → Bool} : ∀ {n : Nat}, (∀ s, s < n → P s = Q s) → hgF st f P n = hgF st f Q n := by
  intro n
  induction n with
  | zero => intro _; rfl
  | succ n ih =>
    intro h
    have e := ih (fun s hs => h s (by omega))
    by_cases hP : P n = true
    · rw [hgF_t hP, hgF_t (by rw [← h n (by omega)]; exact hP), e]
    · have hP2 : P n = false := by simpa using hP
      rw [hgF_f hP2, hgF_f (by rw [← h n (by omega)]; exact hP2), e]
theorem lwF_st {st1 st2 : Int32} {f : Nat → Int32} {P : Nat → Bool} : ∀ {n : Nat}, (∀ s, s < n → P s = true → f s < st1 ∧ f s < st2) → (∃ s, s < n ∧ P s = true) → lwF st1 f P n = lwF st2 f P n := by
  intro n
  induction n with
  | zero => rintro _ ⟨s, h, _⟩; omega
  | succ n ih =>
    intro hb hex
    by_cases hb2 : ∃ s, s < n ∧ P s = true
    · have e := ih (fun s hs => hb s (by omega)) hb2
      by_cases hP : P n = true
      · rw [lwF_t hP, lwF_t hP, e]
      · have hP2 : P n = false := by simpa using hP
        rw [lwF_f hP2, lwF_f hP2, e]
    · have hno : ∀ s, s < n → P s = false := fun s hs => by
        cases e : P s
        · rfl
        · exact absurd ⟨s, hs, e⟩ hb2
      obtain ⟨s, h1, h2⟩ := hex
      have hs : s = n := by
        by_cases e : s < n
        · rw [hno s e] at h2; cases h2
        · omega
      subst hs
      rw [lwF_t h2, lwF_t h2, lwF_no hno, lwF_no hno, if_pos (hb s (by omega) h2).1, if_pos (hb s (by omega) h2).2]
theorem hgF_st {st1 st2 : Int32} {f : Nat → Int32} {P : Nat → Bool} : ∀ {n : Nat}, (∀ s, s < n → P s = true → st1 < f s ∧ st2 < f s) → (∃ s, s < n ∧ P s = true) → hgF st1 f P n = hgF st2 f P n := by
  intro n
  induction n with
  | zero => rintro _ ⟨s, h, _⟩; omega
  | succ n ih =>
    intro hb hex
    by_cases hb2 : ∃ s, s < n ∧ P s = true
    · have e := ih (fun s hs => hb s (by omega)) hb2
      by_cases hP : P n = true
      · rw [hgF_t hP, hgF_t hP, e]
      · have hP2 : P n = false := by simpa using hP
        rw [hgF_f hP2, hgF_f hP2, e]
    · have hno : ∀ s, s < n → P s = false := fun s hs => by
        cases e : P s
        · rfl
        · exact absurd ⟨s, hs, e⟩ hb2
      obtain ⟨s, h1, h2⟩ := hex
      have hs : s = n := by
        by_cases e : s < n
        · rw [hno s e] at h2; cases h2
        · omega
      subst hs
      rw [hgF_t h2, hgF_t h2, hgF_no hno, hgF_no hno, if_pos (hb s (by omega) h2).1, if_pos (hb s (by omega) h2).2]
/-- the least is one of them, and below all -/
theorem lwF_in {st : Int32} {f : Nat → Int32} {P : Nat → Bool} : ∀ {n : Nat}, (lwF st f P n = st ∨ ∃ s, s < n ∧ P s = true ∧ lwF st f P n = f s) ∧ ∀ s, s < n → P s = true → (lwF st f P n).toInt ≤ (f s).toInt := by
  intro n
  induction n with
  | zero => exact ⟨Or.inl rfl, fun s h => by omega⟩
  | succ n ih =>
    obtain ⟨h1, h2⟩ := ih
    by_cases hP : P n = true
    · rw [lwF_t hP]
      by_cases hl : f n < lwF st f P n
      · rw [if_pos hl]
        rw [fa_lt] at hl
        refine ⟨Or.inr ⟨n, by omega, hP, rfl⟩, fun s hs hp => ?_⟩
        by_cases e : s = n
        · rw [e]; exact Int.le_refl _
        · have := h2 s (by omega) hp
          omega
      · rw [if_neg hl]
        rw [fa_lt] at hl
        refine ⟨?_, fun s hs hp => ?_⟩
        · rcases h1 with h | ⟨s, a, b, c⟩
          · exact Or.inl h
          · exact Or.inr ⟨s, by omega, b, c⟩
        · by_cases e : s = n
          · rw [e]; omega
          · exact h2 s (by omega) hp
    · have hP2 : P n = false := by simpa using hP
      rw [lwF_f hP2]
      refine ⟨?_, fun s hs hp => ?_⟩
      · rcases h1 with h | ⟨s, a, b, c⟩
        · exact Or.inl h
        · exact Or.inr ⟨s, by omega, b, c⟩
      · by_cases e : s = n
        · rw [e, hP2] at hp; cases hp
        · exact h2 s (by omega) hp
theorem hgF_in {st : Int32} {f : Nat → Int32} {P : Nat → Bool} : ∀ {n : Nat}, (hgF st f P n = st ∨ ∃ s, s < n ∧ P s = true ∧ hgF st f P n = f s) ∧ ∀ s, s < n → P s = true → (f s).toInt ≤ (hgF st f P n).toInt := by
  intro n
  induction n with
  | zero => exact ⟨Or.inl rfl, fun s h => by omega⟩
  | succ n ih =>
    obtain ⟨h1, h2⟩ := ih
    by_cases hP : P n = true
    · rw [hgF_t hP]
      by_cases hl : hgF st f P n < f n
      · rw [if_pos hl]
        rw [fa_lt] at hl
        refine ⟨Or.inr ⟨n, by omega, hP, rfl⟩, fun s hs hp => ?_⟩
        by_cases e : s = n
        · rw [e]; exact Int.le_refl _
        · have := h2 s (by omega) hp
          omega
      · rw [if_neg hl]
        rw [fa_lt] at hl
        refine ⟨?_, fun s hs hp => ?_⟩
        · rcases h1 with h | ⟨s, a, b, c⟩
          · exact Or.inl h
          · exact Or.inr ⟨s, by omega, b, c⟩
        · by_cases e : s = n
          · rw [e]; omega
          · exact h2 s (by omega) hp
    · have hP2 : P n = false := by simpa using hP
      rw [hgF_f hP2]
      refine ⟨?_, fun s hs hp => ?_⟩
      · rcases h1 with h | ⟨s, a, b, c⟩
        · exact Or.inl h
        · exact Or.inr ⟨s, by omega, b, c⟩
      · by_cases e : s = n
        · rw [e, hP2] at hp; cases hp
        · exact h2 s (by omega) hp
section BOX
variable {G M : Nat → Nat → Int32} {n : Nat} {th P : Nat → Bool} {V : Nat → Int32} {α : Nat} {S : Int32}
theorem lowG_lw : ∀ {m : Nat}, lowG G S α m = lwF 2147483647 (bgn G α) (fun s => liv G s && bt S s) m := by
  intro m
  induction m with
  | zero => rfl
  | succ m ih =>
    by_cases h : liv G m = true ∧ bt S m = true
    · rw [lowG_t h, lwF_t (show (liv G m && bt S m) = true by rw [h.1, h.2]; rfl), ih]
      rfl
    · have h2 : (liv G m && bt S m) = false := by
        cases e : liv G m && bt S m
        · rfl
        · rw [Bool.and_eq_true] at e; exact absurd e h
      rw [lowG_f h, lwF_f h2, ih]
theorem highG_hg : ∀ {m : Nat}, highG G S α m = hgF (-2147483648) (enG G α) (fun s => liv G s && bt S s) m := by
  intro m
  induction m with
  | zero => rfl
  | succ m ih =>
    by_cases h : liv G m = true ∧ bt S m = true
    · rw [highG_t h, hgF_t (show (liv G m && bt S m) = true by rw [h.1, h.2]; rfl), ih]
      rfl
    · have h2 : (liv G m && bt S m) = false := by
        cases e : liv G m && bt S m
        · rfl
        · rw [Bool.and_eq_true] at e; exact absurd e h
      rw [highG_f h, hgF_f h2, ih]
theorem bgn_b (hS : QS n th G V) {s : Nat} (h : s < 20) (ht : th s = true) (hα : α < 2) : -10000 ≤ (bgn G α s).toInt ∧ (bgn G α s).toInt ≤ 10000 := (hS.fD s h ht).2.1 (2 + α) (by omega) (by omega)
theorem enG_b (hS : QS n th G V) {s : Nat} (h : s < 20) (ht : th s = true) (hα : α < 2) : (bgn G α s).toInt + 1 ≤ (enG G α s).toInt ∧ (enG G α s).toInt ≤ (bgn G α s).toInt + 500 := by
  have b2 := (hS.fD s h ht).2.1 (2 + α) (by omega) (by omega)
  have b3 := (hS.fD s h ht).2.2 (4 + α) (by omega) (by omega)
  have e : (G (4 + s) (2 + α) + G (4 + s) (4 + α)).toInt = (G (4 + s) (2 + α)).toInt + (G (4 + s) (4 + α)).toInt := Jvm.Kit.i32_add (by omega) (by omega)
  unfold bgn enG
  omega
/-- the box of a set of live shapes -/
theorem box_lo (hS : QS n th G V) (hα : α < 2) (hP : ∀ s, s < 20 → P s = true → th s = true) (hex : ∃ s, s < 20 ∧ P s = true) : lowG G (mkS P 20) α 20 = lwF 99999 (bgn G α) P 20 := by
  rw [lowG_lw, lwF_ext (Q := P) (fun s hs => by
    rw [QS_liv hS hs, bt_S P hs]
    cases e : P s
    · rw [Bool.and_false]
    · rw [hP s hs e]; rfl)]
  refine lwF_st (fun s hs hp => ?_) hex
  have := bgn_b hS hs (hP s hs hp) hα
  have e1 : (2147483647 : Int32).toInt = 2147483647 := by decide
  have e2 : (99999 : Int32).toInt = 99999 := by decide
  rw [fa_lt, fa_lt, e1, e2]
  omega
theorem box_hi (hS : QS n th G V) (hα : α < 2) (hP : ∀ s, s < 20 → P s = true → th s = true) (hex : ∃ s, s < 20 ∧ P s = true) : highG G (mkS P 20) α 20 = hgF (-99999) (enG G α) P 20 := by
  rw [highG_hg, hgF_ext (Q := P) (fun s hs => by
    rw [QS_liv hS hs, bt_S P hs]
    cases e : P s
    · rw [Bool.and_false]
    · rw [hP s hs e]; rfl)]
  refine hgF_st (fun s hs hp => ?_) hex
  have := bgn_b hS hs (hP s hs hp) hα
  have := enG_b hS hs (hP s hs hp) hα
  have e1 : (-2147483648 : Int32).toInt = -2147483648 := by decide
  have e2 : (-99999 : Int32).toInt = -99999 := by decide
  rw [fa_lt, fa_lt, e1, e2]
  omega
/-- its bounds -/
theorem box_b (hS : QS n th G V) (hα : α < 2) (hP : ∀ s, s < 20 → P s = true → th s = true) (hex : ∃ s, s < 20 ∧ P s = true) : -10000 ≤ (lwF 99999 (bgn G α) P 20).toInt ∧ (lwF 99999 (bgn G α) P 20).toInt < (hgF (-99999) (enG G α) P 20).toInt ∧ (hgF (-99999) (enG G α) P 20).toInt ≤ 10500 := by
  obtain ⟨s, h1, h2⟩ := hex
  have e2 : (99999 : Int32).toInt = 99999 := by decide
  have e3 : (-99999 : Int32).toInt = -99999 := by decide
  obtain ⟨a1, a2⟩ := lwF_in (st := 99999) (f := bgn G α) (P := P) (n := 20)
  obtain ⟨b1, b2⟩ := hgF_in (st := -99999) (f := enG G α) (P := P) (n := 20)
  have c1 := a2 s h1 h2
  have c2 := b2 s h1 h2
  have c3 := bgn_b hS h1 (hP s h1 h2) hα
  have c4 := enG_b hS h1 (hP s h1 h2) hα
  refine ⟨?_, by omega, ?_⟩
  · rcases a1 with h | ⟨t, t1, t2, t3⟩
    · rw [h, e2]; omega
    · rw [t3]; exact (bgn_b hS t1 (hP t t1 t2) hα).1
  · rcases b1 with h | ⟨t, t1, t2, t3⟩
    · rw [h, e3]; omega
    · have := bgn_b hS t1 (hP t t1 t2) hα
      have := enG_b hS t1 (hP t t1 t2) hα
      rw [t3]; omega
end BOX
