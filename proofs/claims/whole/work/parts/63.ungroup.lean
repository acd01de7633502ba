/-! a group ends: ungroup -/
theorem insA_mono {hg : Nat → Option Nat} {h : Nat} : ∀ (n : Nat) (x : Option Nat), insA hg h n x = true → insA hg h (n + 1) x = true := by
  intro n
  induction n with
  | zero =>
    intro x hx
    have hx : x = some h := of_decide_eq_true hx
    rw [hx]
    show (decide (h = h) || _) = true
    simp
  | succ n ih =>
    intro x hx
    cases x with
    | none => cases hx
    | some k =>
      have hx : (decide (k = h) || insA hg h n (hg k)) = true := hx
      show (decide (k = h) || insA hg h (n + 1) (hg k)) = true
      rw [Bool.or_eq_true] at hx ⊢
      rcases hx with e | e
      · exact Or.inl e
      · exact Or.inr (ih _ e)
theorem topA_K {K : Nat → Prop} {hg : Nat → Option Nat} (hK : ∀ g, K g → ∀ g2, hg g = some g2 → K g2) : ∀ (n : Nat) (x : Option Nat), (∀ k, x = some k → K k) → ∀ h, topA hg n x = some h → K h := by
  intro n
  induction n with
  | zero => intro x hx h e; exact hx h e
  | succ n ih =>
    intro x hx h e
    cases x with
    | none => cases e
    | some k =>
      unfold topA at e
      cases e2 : hg k with
      | none =>
        rw [e2] at e
        have : k = h := by simpa using e
        rw [← this]
        exact hx k rfl
      | some k2 =>
        rw [e2] at e
        exact ih (some k2) (fun k3 h3 => by cases h3; exact hK k (hx k rfl) k2 e2) h e
theorem topA_some {hg : Nat → Option Nat} : ∀ (n k : Nat), topA hg n (some k) ≠ none := by
  intro n
  induction n with
  | zero => intro k h; cases h
  | succ n ih =>
    intro k h
    unfold topA at h
    cases e2 : hg k with
    | none => rw [e2] at h; cases h
    | some k2 => rw [e2] at h; exact ih k2 h
/-- what is above x has x's outermost group -/
theorem ins_same {K : Nat → Prop} {hg : Nat → Option Nat} {r : Nat → Nat} (hK : ∀ g, K g → ∀ g2, hg g = some g2 → K g2) (hr : ∀ g, K g → r g < 8 ∧ ∀ g2, hg g = some g2 → r g2 < r g) {h : Nat} : ∀ (m : Nat) (x : Option Nat), (∀ k, x = some k → K k) → insA hg h m x = true → topA hg 8 x = topA hg 8 (some h) := by
  intro m
  induction m with
  | zero =>
    intro x _ e
    have e : x = some h := of_decide_eq_true e
    rw [e]
  | succ m ih =>
    intro x hx e
    cases x with
    | none => cases e
    | some k =>
      have e : (decide (k = h) || insA hg h m (hg k)) = true := e
      rw [Bool.or_eq_true] at e
      rcases e with e | e
      · rw [of_decide_eq_true e]
      · cases e2 : hg k with
        | none => rw [e2, insA_no] at e; cases e
        | some k2 =>
          rw [e2] at e
          have hk := hx k rfl
          have hk2 := hK k hk k2 e2
          have hrk := (hr k hk).2 k2 e2
          have hr8 := (hr k hk).1
          rw [← ih (some k2) (fun k3 h3 => by cases h3; exact hk2) e, topA_fuel hK (fun g hg2 => (hr g hg2).2) 7 8 (some k2) (fun k3 h3 => by cases h3; exact ⟨hk2, by omega⟩) (by omega)]
          show (match hg k with | none => some k | some k2 => topA hg 7 (some k2)) = _
          rw [e2]
/-- over g, when it ends -/
def upU (g : Nat) (hg : Nat → Option Nat) (x : Option Nat) : Option Nat := if x = some g then hg g else x
section UGR
variable {th sel gt : Nat → Bool} {hs hg : Nat → Option Nat} {D D' : Nat → Nat → Int32} {V V' : Nat → Int32} {g h : Nat}
theorem insU1 (hne : h ≠ g) (hgg : hg g ≠ some g) : ∀ (n : Nat) (x : Option Nat), insA hg h n x = true → insA (fun k => upU g hg (hg k)) h n (upU g hg x) = true := by
  intro n
  induction n with
  | zero =>
    intro x e
    have e : x = some h := of_decide_eq_true e
    rw [e]
    unfold upU
    rw [if_neg (fun q => hne (Option.some.inj q))]
    exact decide_eq_true rfl
  | succ n ih =>
    intro x e
    cases x with
    | none => cases e
    | some k =>
      have e : (decide (k = h) || insA hg h n (hg k)) = true := e
      rw [Bool.or_eq_true] at e
      by_cases hk : k = g
      · have e2 : insA hg h n (hg k) = true := e.resolve_left (fun q => hne ((of_decide_eq_true q).symm.trans hk))
        have h3 := ih (hg k) e2
        rw [hk] at h3
        have h4 : upU g hg (hg g) = hg g := by unfold upU; rw [if_neg hgg]
        rw [h4] at h3
        have h5 : upU g hg (some k) = hg g := by unfold upU; rw [hk, if_pos rfl]
        rw [h5]
        exact insA_mono n _ h3
      · have h5 : upU g hg (some k) = some k := by unfold upU; rw [if_neg (fun q => hk (Option.some.inj q))]
        rw [h5]
        show (decide (k = h) || insA (fun k => upU g hg (hg k)) h n (upU g hg (hg k))) = true
        rw [Bool.or_eq_true]
        rcases e with e | e
        · exact Or.inl e
        · exact Or.inr (ih _ e)
theorem insU2 : ∀ (n : Nat) (x : Option Nat), insA (fun k => upU g hg (hg k)) h n (upU g hg x) = true → ∃ m, insA hg h m x = true := by
  have lift : ∀ (x : Option Nat) (k m : Nat), upU g hg x = some k → insA hg h m (some k) = true → ∃ m, insA hg h m x = true := fun x k m e1 e2 => by
    unfold upU at e1
    by_cases hx : x = some g
    · rw [if_pos hx] at e1
      refine ⟨m + 1, ?_⟩
      rw [hx]
      show (decide (g = h) || insA hg h m (hg g)) = true
      rw [e1, e2, Bool.or_true]
    · rw [if_neg hx] at e1
      exact ⟨m, by rw [e1]; exact e2⟩
  intro n
  induction n with
  | zero =>
    intro x e
    have e : upU g hg x = some h := of_decide_eq_true e
    exact lift x h 0 e (decide_eq_true rfl)
  | succ n ih =>
    intro x e
    cases eu : upU g hg x with
    | none => rw [eu] at e; cases e
    | some k =>
      rw [eu] at e
      have e : (decide (k = h) || insA (fun k => upU g hg (hg k)) h n (upU g hg (hg k))) = true := e
      rw [Bool.or_eq_true] at e
      rcases e with e | e
      · exact lift x k 0 eu (decide_eq_true (by rw [of_decide_eq_true e]))
      · obtain ⟨m, hm⟩ := ih _ e
        refine lift x k (m + 1) eu ?_
        show (decide (k = h) || insA hg h m (hg k)) = true
        rw [hm, Bool.or_true]
theorem QH_ungroup (hH : QH th sel hs hg gt D V) (hg8 : g < 8) (hgt : gt g = true)
    (d7 : ∀ s, s < 20 → th s = true → D' (4 + s) 7 = hC (upU g hg (hs s))) (v7 : ∀ s, s < 20 → th s = true → V' (10 + 8 * s + 7) = hM (upU g hg (hs s))) (d47 : ∀ h, h < 8 → D' 47 h = bI (gt h && !decide (h = g))) (v47 : ∀ h, h < 8 → V' (290 + 2 * h) = bI (gt h && !decide (h = g)))
    (d48 : ∀ h, h < 8 → (gt h && !decide (h = g)) = true → D' 48 h = hC (upU g hg (hg h))) (v48 : ∀ h, h < 8 → (gt h && !decide (h = g)) = true → V' (290 + 2 * h + 1) = hM (upU g hg (hg h))) : QH th sel (fun s => upU g hg (hs s)) (fun h => upU g hg (hg h)) (fun h => gt h && !decide (h = g)) D' V' := by
  obtain ⟨r, hr⟩ := rk8 hH.gg hH.rk
  have hgg : hg g ≠ some g := fun e => by have := (hr g ⟨hg8, hgt⟩).2 g e; omega
  have gU : ∀ k, gt k = true → k ≠ g → (gt k && !decide (k = g)) = true := fun k h1 h2 => by rw [h1, decide_eq_false h2]; rfl
  have gU2 : ∀ k, (gt k && !decide (k = g)) = true → gt k = true ∧ k ≠ g := fun k h1 => by
    rw [Bool.and_eq_true, Bool.not_eq_true', decide_eq_false_iff_not] at h1
    exact h1
  have hgU : ∀ x : Option Nat, (∀ k, x = some k → k < 8 ∧ gt k = true) → ∀ k, upU g hg x = some k → k < 8 ∧ (gt k && !decide (k = g)) = true := fun x hx k e => by
    unfold upU at e
    by_cases hxg : x = some g
    · rw [if_pos hxg] at e
      obtain ⟨a, b⟩ := hH.gg g hg8 hgt k e
      exact ⟨a, gU k b (fun q => hgg (by rw [e, q]))⟩
    · rw [if_neg hxg] at e
      obtain ⟨a, b⟩ := hx k e
      exact ⟨a, gU k b (fun q => hxg (by rw [e, q]))⟩
  refine ⟨d7, v7, fun s h ht => hgU (hs s) (fun k e => hH.sg s h ht k e), d47, v47, d48, v48, fun h h8 hq => hgU (hg h) (fun k e => hH.gg h h8 (gU2 h hq).1 k e), ⟨r, fun h h8 hq k e => ?_⟩, fun h h8 hq => ?_, fun s t k h1 h2 ht1 ht2 e1 e2 => ?_⟩
  · have hrh := (hr h ⟨h8, (gU2 h hq).1⟩).2
    have e : upU g hg (hg h) = some k := e
    unfold upU at e
    by_cases hxg : hg h = some g
    · rw [if_pos hxg] at e
      have := hrh g hxg
      have := (hr g ⟨hg8, hgt⟩).2 k e
      omega
    · rw [if_neg hxg] at e
      exact hrh k e
  · obtain ⟨s, s1, s2, s3⟩ := hH.ne h h8 (gU2 h hq).1
    exact ⟨s, s1, s2, insU1 (gU2 h hq).2 hgg 8 (hs s) s3⟩
  · have hK : ∀ h, (h < 8 ∧ gt h = true) → ∀ g2, hg h = some g2 → g2 < 8 ∧ gt g2 = true := fun h q g2 e => hH.gg h q.1 q.2 g2 e
    have hh : ∀ x : Option Nat, (∀ k, x = some k → k < 8 ∧ gt k = true) → topA (fun h => upU g hg (hg h)) 8 (upU g hg x) = some k → topA hg 8 x = topA hg 8 (some k) := fun x hx e => by
      obtain ⟨m, hm⟩ := insU2 8 x (topA_ins 8 _ e)
      exact ins_same (K := fun g => g < 8 ∧ gt g = true) hK hr m x hx hm
    have u1 := hh (hs s) (fun k e => hH.sg s h1 ht1 k e) e1
    have u2 := hh (hs t) (fun k e => hH.sg t h2 ht2 k e) e2
    cases e3 : topA hg 8 (some k) with
    | none => exact absurd e3 (topA_some 8 k)
    | some k2 => exact hH.cl s t k2 h1 h2 ht1 ht2 (u1.trans e3) (u2.trans e3)
end UGR
