/-! groups that come into a new one -/
theorem topA_none {hg : Nat → Option Nat} : ∀ n, topA hg n none = none := by
  intro n
  cases n <;> rfl
theorem topA_fuel {K : Nat → Prop} {hg : Nat → Option Nat} {r : Nat → Nat} (hK : ∀ g, K g → ∀ g2, hg g = some g2 → K g2) (hr : ∀ g, K g → ∀ g2, hg g = some g2 → r g2 < r g) : ∀ (b n : Nat) (x : Option Nat), (∀ k, x = some k → K k ∧ r k < b) → b ≤ n → topA hg n x = topA hg b x := by
  intro b
  induction b with
  | zero =>
    intro n x hx _
    cases x with
    | none => rw [topA_none, topA_none]
    | some k => have := (hx k rfl).2; omega
  | succ b ih =>
    intro n x hx hn
    obtain ⟨m, rfl⟩ : ∃ m, n = m + 1 := ⟨n - 1, by omega⟩
    cases x with
    | none => rfl
    | some k =>
      obtain ⟨h1, h2⟩ := hx k rfl
      unfold topA
      cases e : hg k with
      | none => rfl
      | some k2 =>
        have := hr k h1 k2 e
        exact ih m (some k2) (fun k3 h3 => by cases h3; exact ⟨hK k h1 k2 e, by omega⟩) (by omega)
/-- with a place free, ranks are below 7 -/
theorem rk7 {gt : Nat → Bool} {hg : Nat → Option Nat} {g0 : Nat} (h0 : g0 < 8) (hf : gt g0 = false) (gg : ∀ g, g < 8 → gt g = true → ∀ g2, hg g = some g2 → g2 < 8 ∧ gt g2 = true) (h : ∃ r : Nat → Nat, ∀ g, g < 8 → gt g = true → ∀ g2, hg g = some g2 → r g2 < r g) : ∃ r : Nat → Nat, ∀ g, g < 8 → gt g = true → r g < 7 ∧ ∀ g2, hg g = some g2 → r g2 < r g := by
  obtain ⟨r, hr⟩ := h
  refine ⟨fun g => cnt (fun k => gt k && decide (r k < r g)) 8, fun g hg8 hgt => ⟨?_, fun g2 h2 => ?_⟩⟩
  · have hne : g ≠ g0 := fun e => by rw [e, hf] at hgt; cases hgt
    have e := cnt_add (P := fun k => gt k && decide (r k < r g)) (Q := fun i => if i = g then true else (gt i && decide (r i < r g))) hg8 (by simp) (if_pos rfl) (fun i _ hi => if_neg hi)
    have l := cnt_lt (P := fun i => if i = g then true else (gt i && decide (r i < r g))) h0 (by
      show (if g0 = g then true else (gt g0 && decide (r g0 < r g))) = false
      rw [if_neg (fun q => hne q.symm), hf]
      rfl)
    show cnt (fun k => gt k && decide (r k < r g)) 8 < 7
    omega
  · obtain ⟨a, b⟩ := gg g hg8 hgt g2 h2
    have hlt := hr g hg8 hgt g2 h2
    refine cnt_slt a (by simp) (by simp [b, hlt]) (fun i hi hx => ?_)
    simp only [Bool.and_eq_true, decide_eq_true_eq] at hx ⊢
    exact ⟨hx.1, by omega⟩
/-- the groups above, when those with T have come into g -/
def hgX (T : Nat → Bool) (g : Nat) (hg : Nat → Option Nat) (h : Nat) : Option Nat := if h = g then none else if T h = true then some g else hg h
def fX (T : Nat → Bool) (g : Nat) : Option Nat → Option Nat
  | none => none
  | some h => if T h = true then some g else some h
theorem topX {T : Nat → Bool} {g : Nat} {gt : Nat → Bool} {hg : Nat → Option Nat} {r : Nat → Nat} (hgt : gt g = false) (hT : ∀ h, T h = true → hg h = none) (gg : ∀ g, g < 8 → gt g = true → ∀ g2, hg g = some g2 → g2 < 8 ∧ gt g2 = true) (hr : ∀ g, g < 8 → gt g = true → ∀ g2, hg g = some g2 → r g2 < r g) : ∀ (b : Nat) (x : Option Nat), (∀ k, x = some k → (k < 8 ∧ gt k = true) ∧ r k < b) → topA (hgX T g hg) (b + 1) x = fX T g (topA hg b x) := by
  intro b
  induction b with
  | zero =>
    intro x hx
    cases x with
    | none => rfl
    | some k => have := (hx k rfl).2; omega
  | succ b ih =>
    intro x hx
    cases x with
    | none => rfl
    | some k =>
      obtain ⟨⟨h8, h1⟩, h2⟩ := hx k rfl
      have hne : k ≠ g := fun e => by rw [e, hgt] at h1; cases h1
      by_cases ht : T k = true
      · have e : hgX T g hg k = some g := by unfold hgX; rw [if_neg hne, if_pos ht]
        have e2 : hgX T g hg g = none := by unfold hgX; rw [if_pos rfl]
        have e3 : topA hg (b + 1) (some k) = some k := by
          unfold topA
          rw [hT k ht]
        rw [e3]
        show (match hgX T g hg k with | none => some k | some k2 => topA (hgX T g hg) (b + 1) (some k2)) = _
        rw [e]
        show (match hgX T g hg g with | none => some g | some k2 => topA (hgX T g hg) b (some k2)) = _
        rw [e2]
        show some g = if T k = true then some g else some k
        rw [if_pos ht]
      · have e : hgX T g hg k = hg k := by unfold hgX; rw [if_neg hne, if_neg ht]
        show (match hgX T g hg k with | none => some k | some k2 => topA (hgX T g hg) (b + 1) (some k2)) = fX T g (match hg k with | none => some k | some k2 => topA hg b (some k2))
        rw [e]
        cases e2 : hg k with
        | none =>
          show some k = if T k = true then some g else some k
          rw [if_neg ht]
        | some k2 =>
          have := hr k h8 h1 k2 e2
          exact ih (some k2) (fun k3 h3 => by cases h3; exact ⟨gg k h8 h1 k2 e2, by omega⟩)
/-- what was above stays above -/
theorem insX {T : Nat → Bool} {g h : Nat} {gt : Nat → Bool} {hg : Nat → Option Nat} (hgt : gt g = false) (hT : ∀ h, T h = true → hg h = none) (gg : ∀ g, g < 8 → gt g = true → ∀ g2, hg g = some g2 → g2 < 8 ∧ gt g2 = true) : ∀ (n : Nat) (x : Option Nat), (∀ k, x = some k → k < 8 ∧ gt k = true) → insA hg h n x = true → insA (hgX T g hg) h n x = true := by
  intro n
  induction n with
  | zero => intro x _ h; exact h
  | succ n ih =>
    intro x hx hi
    cases x with
    | none => cases hi
    | some k =>
      obtain ⟨h8, h1⟩ := hx k rfl
      have hne : k ≠ g := fun e => by rw [e, hgt] at h1; cases h1
      have hi : (decide (k = h) || insA hg h n (hg k)) = true := hi
      show (decide (k = h) || insA (hgX T g hg) h n (hgX T g hg k)) = true
      rw [Bool.or_eq_true] at hi ⊢
      rcases hi with hi | hi
      · exact Or.inl hi
      · refine Or.inr ?_
        cases e : hg k with
        | none => rw [e, insA_no] at hi; cases hi
        | some k2 =>
          have ht : ¬ T k = true := fun q => by rw [hT k q] at e; cases e
          have e2 : hgX T g hg k = some k2 := by unfold hgX; rw [if_neg hne, if_neg ht, e]
          rw [e2]
          rw [e] at hi
          exact ih (some k2) (fun k3 h3 => by cases h3; exact gg k h8 h1 k2 e) hi
/-- the groups that are outermost of a selected shape -/
def tpB (sel : Nat → Bool) (hs hg : Nat → Option Nat) (i h : Nat) : Bool := anyB (fun s => sel s && decide (unO hs hg s = some h)) i
/-- where the shapes are when the units have come into g -/
def hsX (sel : Nat → Bool) (hs hg : Nat → Option Nat) (g s : Nat) : Option Nat := if sel s = true ∧ unO hs hg s = none then some g else hs s
section JND
variable {th sel gt : Nat → Bool} {hs hg : Nat → Option Nat} {D D' : Nat → Nat → Int32} {V V' : Nat → Int32} {g : Nat}
theorem tpB_ok (hH : QH th sel hs hg gt D V) (hct : ∀ s, s < 20 → sel s = true → th s = true) {i h : Nat} (hi : i ≤ 20) (ht : tpB sel hs hg i h = true) : h < 8 ∧ gt h = true ∧ hg h = none := by
  obtain ⟨s, h1, h2⟩ := anyB_iff.mp ht
  have h2 : (sel s && decide (unO hs hg s = some h)) = true := h2
  rw [Bool.and_eq_true, decide_eq_true_iff] at h2
  exact unO_8 hH (by omega) (hct s (by omega) h2.1) h2.2
/-- the outermost group of a shape, while some units have come into g -/
theorem top_in (hH : QH th sel hs hg gt D V) (hct : ∀ s, s < 20 → sel s = true → th s = true) (hg8 : g < 8) (hgt : gt g = false) {i : Nat} (hi : i ≤ 20) {s : Nat} (h : s < 20) (ht : th s = true) : topA (hgX (tpB sel hs hg i) g hg) 8 (hs s) = fX (tpB sel hs hg i) g (unO hs hg s) := by
  obtain ⟨r, hr⟩ := rk7 hg8 hgt hH.gg hH.rk
  have e : unO hs hg s = topA hg 7 (hs s) := topA_fuel (K := fun g => g < 8 ∧ gt g = true) (r := r) (fun g h g2 e => hH.gg g h.1 h.2 g2 e) (fun g h g2 e => (hr g h.1 h.2).2 g2 e) 7 8 (hs s) (fun k e => ⟨hH.sg s h ht k e, (hr k (hH.sg s h ht k e).1 (hH.sg s h ht k e).2).1⟩) (by omega)
  rw [e]
  exact topX hgt (fun h2 q => (tpB_ok hH hct hi q).2.2) hH.gg (fun g h1 h2 g2 e => (hr g h1 h2).2 g2 e) 7 (hs s) (fun k e => ⟨hH.sg s h ht k e, (hr k (hH.sg s h ht k e).1 (hH.sg s h ht k e).2).1⟩)
theorem hs_none {s : Nat} (h : unO hs hg s = none) : hs s = none := by
  unfold unO at h
  cases e : hs s with
  | none => rfl
  | some k =>
    exfalso
    rw [e] at h
    have : ∀ (n k : Nat), topA hg n (some k) ≠ none := by
      intro n
      induction n with
      | zero => intro k h; cases h
      | succ n ih =>
        intro k h
        unfold topA at h
        cases e2 : hg k with
        | none => rw [e2] at h; cases h
        | some k2 => rw [e2] at h; exact ih k2 h
    exact this 8 k h
theorem QH_group (hH : QH th sel hs hg gt D V) (hct : ∀ s, s < 20 → sel s = true → th s = true) (hg8 : g < 8) (hgt : gt g = false) (hex : ∃ s, s < 20 ∧ sel s = true)
    (d7 : ∀ s, s < 20 → th s = true → D' (4 + s) 7 = hC (hsX sel hs hg g s)) (v7 : ∀ s, s < 20 → th s = true → V' (10 + 8 * s + 7) = hM (hsX sel hs hg g s)) (d47 : ∀ h, h < 8 → D' 47 h = bI (gt h || decide (h = g))) (v47 : ∀ h, h < 8 → V' (290 + 2 * h) = bI (gt h || decide (h = g)))
    (d48 : ∀ h, h < 8 → (gt h || decide (h = g)) = true → D' 48 h = hC (hgX (tpB sel hs hg 20) g hg h)) (v48 : ∀ h, h < 8 → (gt h || decide (h = g)) = true → V' (290 + 2 * h + 1) = hM (hgX (tpB sel hs hg 20) g hg h)) : QH th sel (hsX sel hs hg g) (hgX (tpB sel hs hg 20) g hg) (fun h => gt h || decide (h = g)) D' V' := by
  have hTg : ∀ h, tpB sel hs hg 20 h = true → h < 8 ∧ gt h = true ∧ hg h = none := fun h q => tpB_ok hH hct (Nat.le_refl 20) q
  have hgg : (gt g || decide (g = g)) = true := by simp
  have hXg : hgX (tpB sel hs hg 20) g hg g = none := by unfold hgX; rw [if_pos rfl]
  have hgt2 : ∀ h, h ≠ g → (gt h || decide (h = g)) = true → gt h = true := fun h hne q => by
    rw [decide_eq_false hne, Bool.or_false] at q
    exact q
  have hgt3 : ∀ h, gt h = true → (gt h || decide (h = g)) = true := fun h q => by rw [q]; rfl
  have hne : ∀ h, gt h = true → h ≠ g := fun h q e => by rw [e, hgt] at q; cases q
  -- the outermost groups now
  have htop : ∀ s, s < 20 → th s = true → topA (hgX (tpB sel hs hg 20) g hg) 8 (hsX sel hs hg g s) = if sel s = true then some g else unO hs hg s := fun s h ht => by
    unfold hsX
    by_cases hsl : sel s = true
    · rw [if_pos hsl]
      by_cases hu : unO hs hg s = none
      · rw [if_pos ⟨hsl, hu⟩]
        show (match hgX (tpB sel hs hg 20) g hg g with | none => some g | some k2 => topA (hgX (tpB sel hs hg 20) g hg) 7 (some k2)) = _
        rw [hXg]
      · rw [if_neg (fun q => hu q.2), top_in hH hct hg8 hgt (Nat.le_refl 20) h ht]
        cases e : unO hs hg s with
        | none => exact absurd e hu
        | some k =>
          show (if tpB sel hs hg 20 k = true then some g else some k) = _
          rw [if_pos]
          exact anyB_iff.mpr ⟨s, h, show (sel s && decide (unO hs hg s = some k)) = true by rw [hsl, e, decide_eq_true rfl]; rfl⟩
    · rw [if_neg hsl, if_neg (fun q => hsl q.1), top_in hH hct hg8 hgt (Nat.le_refl 20) h ht]
      cases e : unO hs hg s with
      | none => rfl
      | some k =>
        show (if tpB sel hs hg 20 k = true then some g else some k) = _
        rw [if_neg]
        intro q
        obtain ⟨t, t1, t2⟩ := anyB_iff.mp q
        have t2 : (sel t && decide (unO hs hg t = some k)) = true := t2
        rw [Bool.and_eq_true, decide_eq_true_iff] at t2
        have := hH.cl s t k h t1 ht (hct t t1 t2.1) e t2.2
        rw [t2.1] at this
        exact hsl this
  refine ⟨d7, v7, fun s h ht k e => ?_, d47, v47, d48, v48, fun h h8 hq k e => ?_, ?_, fun h h8 hq => ?_, fun s t k h1 h2 ht1 ht2 e1 e2 => ?_⟩
  · unfold hsX at e
    by_cases hc : sel s = true ∧ unO hs hg s = none
    · rw [if_pos hc] at e
      cases e
      exact ⟨hg8, hgg⟩
    · rw [if_neg hc] at e
      obtain ⟨a, b⟩ := hH.sg s h ht k e
      exact ⟨a, hgt3 k b⟩
  · unfold hgX at e
    by_cases hc : h = g
    · rw [if_pos hc] at e; cases e
    · rw [if_neg hc] at e
      by_cases hT : tpB sel hs hg 20 h = true
      · rw [if_pos hT] at e
        cases e
        exact ⟨hg8, hgg⟩
      · rw [if_neg hT] at e
        obtain ⟨a, b⟩ := hH.gg h h8 (hgt2 h hc hq) k e
        exact ⟨a, hgt3 k b⟩
  · obtain ⟨r, hr⟩ := hH.rk
    refine ⟨fun h => if h = g then 0 else r h + 1, fun h h8 hq k e => ?_⟩
    unfold hgX at e
    by_cases hc : h = g
    · rw [if_pos hc] at e; cases e
    · rw [if_neg hc] at e
      by_cases hT : tpB sel hs hg 20 h = true
      · rw [if_pos hT] at e
        cases e
        show (if g = g then 0 else r g + 1) < (if h = g then 0 else r h + 1)
        rw [if_pos rfl, if_neg hc]
        omega
      · rw [if_neg hT] at e
        obtain ⟨a, b⟩ := hH.gg h h8 (hgt2 h hc hq) k e
        have := hr h h8 (hgt2 h hc hq) k e
        show (if k = g then 0 else r k + 1) < (if h = g then 0 else r h + 1)
        rw [if_neg (hne k b), if_neg hc]
        omega
  · by_cases hc : h = g
    · obtain ⟨s, s1, s2⟩ := hex
      have ht := hct s s1 s2
      refine ⟨s, s1, ht, topA_ins 8 _ ?_⟩
      rw [htop s s1 ht, if_pos s2, hc]
    · obtain ⟨s, s1, s2, s3⟩ := hH.ne h h8 (hgt2 h hc hq)
      refine ⟨s, s1, s2, ?_⟩
      have hs2 : hsX sel hs hg g s = hs s := by
        unfold hsX
        rw [if_neg]
        rintro ⟨-, q⟩
        rw [hs_none q, insA_no] at s3
        cases s3
      rw [hs2]
      exact insX hgt (fun h2 q => (hTg h2 q).2.2) hH.gg 8 (hs s) (fun k e => hH.sg s s1 s2 k e) s3
  · rw [htop s h1 ht1] at e1
    rw [htop t h2 ht2] at e2
    by_cases hs1 : sel s = true
    · by_cases ht1 : sel t = true
      · rw [hs1, ht1]
      · rw [if_pos hs1] at e1
        cases e1
        rw [if_neg ht1] at e2
        obtain ⟨-, q, -⟩ := unO_8 hH h2 ht2 e2
        rw [hgt] at q
        cases q
    · by_cases ht1' : sel t = true
      · rw [if_pos ht1'] at e2
        cases e2
        rw [if_neg hs1] at e1
        obtain ⟨-, q, -⟩ := unO_8 hH h1 ht1 e1
        rw [hgt] at q
        cases q
      · have a : sel s = false := by simpa using hs1
        have b : sel t = false := by simpa using ht1'
        rw [a, b]
end JND
