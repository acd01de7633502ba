/-! THE PURE PART: loops with fuel -/
theorem zl1_run {α ρ : Type} {F : (α → Option ρ) → α → Option ρ} (m : Nat) : ∀ (p0 : Nat → α), (∀ i, i < m → ∀ k, F k (p0 i) = k (p0 (i + 1))) → ∀ n, zl1 F (n + m) (p0 0) = zl1 F n (p0 m) := by
  induction m with
  | zero => intro p0 h n; rfl
  | succ m ih =>
    intro p0 h n
    show F (zl1 F (n + m)) (p0 0) = _
    rw [h 0 (Nat.succ_pos m)]
    exact ih (fun i => p0 (i + 1)) (fun i hi => h (i + 1) (by omega)) n
theorem zl1_end {α ρ : Type} {F : (α → Option ρ) → α → Option ρ} {X : Option ρ} (m : Nat) (p0 : Nat → α) {N : Nat} {a0 : α} (e0 : a0 = p0 0) (hN : m < N) (h : ∀ i, i < m → ∀ k, F k (p0 i) = k (p0 (i + 1))) (hx : ∀ k, F k (p0 m) = X) : zl1 F N a0 = X := by
  obtain ⟨d, rfl⟩ : ∃ d, N = (d + 1) + m := ⟨N - m - 1, by omega⟩
  rw [e0, zl1_run m p0 h (d + 1)]
  exact hx _
theorem zl1_inv {α ρ : Type} {F : (α → Option ρ) → α → Option ρ} {P : Option ρ → Prop} (m : Nat) (I : Nat → α → Prop)
    (hs : ∀ i, i < m → ∀ a0, I i a0 → (∃ b0, I (i + 1) b0 ∧ ∀ k, F k a0 = k b0) ∨ ∀ k, P (F k a0)) (he : ∀ a0, I m a0 → ∀ k, P (F k a0)) : ∀ (d i N : Nat) a0, i + d = m → d < N → I i a0 → P (zl1 F N a0) := by
  intro d
  induction d with
  | zero =>
    intro i N a0 hi hN hI
    obtain ⟨n, rfl⟩ : ∃ n, N = n + 1 := ⟨N - 1, by omega⟩
    have hi : i = m := by omega
    subst hi
    exact he a0 hI _
  | succ d ih =>
    intro i N a0 hi hN hI
    obtain ⟨n, rfl⟩ : ∃ n, N = n + 1 := ⟨N - 1, by omega⟩
    show P (F (zl1 F n) a0)
    rcases hs i (by omega) a0 hI with ⟨b0, h1, h2⟩ | h
    · rw [h2]
      exact ih (i + 1) n b0 (by omega) (by omega) h1
    · exact h _
theorem zl2_run {α β ρ : Type} {F : (α → β → Option ρ) → α → β → Option ρ} (m : Nat) : ∀ (p0 : Nat → α) (p1 : Nat → β), (∀ i, i < m → ∀ k, F k (p0 i) (p1 i) = k (p0 (i + 1)) (p1 (i + 1))) → ∀ n, zl2 F (n + m) (p0 0) (p1 0) = zl2 F n (p0 m) (p1 m) := by
  induction m with
  | zero => intro p0 p1 h n; rfl
  | succ m ih =>
    intro p0 p1 h n
    show F (zl2 F (n + m)) (p0 0) (p1 0) = _
    rw [h 0 (Nat.succ_pos m)]
    exact ih (fun i => p0 (i + 1)) (fun i => p1 (i + 1)) (fun i hi => h (i + 1) (by omega)) n
theorem zl2_end {α β ρ : Type} {F : (α → β → Option ρ) → α → β → Option ρ} {X : Option ρ} (m : Nat) (p0 : Nat → α) (p1 : Nat → β) {N : Nat} {a0 : α} {a1 : β} (e0 : a0 = p0 0) (e1 : a1 = p1 0) (hN : m < N) (h : ∀ i, i < m → ∀ k, F k (p0 i) (p1 i) = k (p0 (i + 1)) (p1 (i + 1))) (hx : ∀ k, F k (p0 m) (p1 m) = X) : zl2 F N a0 a1 = X := by
  obtain ⟨d, rfl⟩ : ∃ d, N = (d + 1) + m := ⟨N - m - 1, by omega⟩
  rw [e0, e1, zl2_run m p0 p1 h (d + 1)]
  exact hx _
theorem zl2_inv {α β ρ : Type} {F : (α → β → Option ρ) → α → β → Option ρ} {P : Option ρ → Prop} (m : Nat) (I : Nat → α → β → Prop)
    (hs : ∀ i, i < m → ∀ a0 a1, I i a0 a1 → (∃ b0 b1, I (i + 1) b0 b1 ∧ ∀ k, F k a0 a1 = k b0 b1) ∨ ∀ k, P (F k a0 a1)) (he : ∀ a0 a1, I m a0 a1 → ∀ k, P (F k a0 a1)) : ∀ (d i N : Nat) a0 a1, i + d = m → d < N → I i a0 a1 → P (zl2 F N a0 a1) := by
  intro d
  induction d with
  | zero =>
    intro i N a0 a1 hi hN hI
    obtain ⟨n, rfl⟩ : ∃ n, N = n + 1 := ⟨N - 1, by omega⟩
    have hi : i = m := by omega
    subst hi
    exact he a0 a1 hI _
  | succ d ih =>
    intro i N a0 a1 hi hN hI
    obtain ⟨n, rfl⟩ : ∃ n, N = n + 1 := ⟨N - 1, by omega⟩
    show P (F (zl2 F n) a0 a1)
    rcases hs i (by omega) a0 a1 hI with ⟨b0, b1, h1, h2⟩ | h
    · rw [h2]
      exact ih (i + 1) n b0 b1 (by omega) (by omega) h1
    · exact h _
theorem zl3_run {α β γ ρ : Type} {F : (α → β → γ → Option ρ) → α → β → γ → Option ρ} (m : Nat) : ∀ (p0 : Nat → α) (p1 : Nat → β) (p2 : Nat → γ), (∀ i, i < m → ∀ k, F k (p0 i) (p1 i) (p2 i) = k (p0 (i + 1)) (p1 (i + 1)) (p2 (i + 1))) → ∀ n, zl3 F (n + m) (p0 0) (p1 0) (p2 0) = zl3 F n (p0 m) (p1 m) (p2 m) := by
  induction m with
  | zero => intro p0 p1 p2 h n; rfl
  | succ m ih =>
    intro p0 p1 p2 h n
    show F (zl3 F (n + m)) (p0 0) (p1 0) (p2 0) = _
    rw [h 0 (Nat.succ_pos m)]
    exact ih (fun i => p0 (i + 1)) (fun i => p1 (i + 1)) (fun i => p2 (i + 1)) (fun i hi => h (i + 1) (by omega)) n
theorem zl3_end {α β γ ρ : Type} {F : (α → β → γ → Option ρ) → α → β → γ → Option ρ} {X : Option ρ} (m : Nat) (p0 : Nat → α) (p1 : Nat → β) (p2 : Nat → γ) {N : Nat} {a0 : α} {a1 : β} {a2 : γ} (e0 : a0 = p0 0) (e1 : a1 = p1 0) (e2 : a2 = p2 0) (hN : m < N) (h : ∀ i, i < m → ∀ k, F k (p0 i) (p1 i) (p2 i) = k (p0 (i + 1)) (p1 (i + 1)) (p2 (i + 1))) (hx : ∀ k, F k (p0 m) (p1 m) (p2 m) = X) : zl3 F N a0 a1 a2 = X := by
  obtain ⟨d, rfl⟩ : ∃ d, N = (d + 1) + m := ⟨N - m - 1, by omega⟩
  rw [e0, e1, e2, zl3_run m p0 p1 p2 h (d + 1)]
  exact hx _
theorem zl3_inv {α β γ ρ : Type} {F : (α → β → γ → Option ρ) → α → β → γ → Option ρ} {P : Option ρ → Prop} (m : Nat) (I : Nat → α → β → γ → Prop)
    (hs : ∀ i, i < m → ∀ a0 a1 a2, I i a0 a1 a2 → (∃ b0 b1 b2, I (i + 1) b0 b1 b2 ∧ ∀ k, F k a0 a1 a2 = k b0 b1 b2) ∨ ∀ k, P (F k a0 a1 a2)) (he : ∀ a0 a1 a2, I m a0 a1 a2 → ∀ k, P (F k a0 a1 a2)) : ∀ (d i N : Nat) a0 a1 a2, i + d = m → d < N → I i a0 a1 a2 → P (zl3 F N a0 a1 a2) := by
  intro d
  induction d with
  | zero =>
    intro i N a0 a1 a2 hi hN hI
    obtain ⟨n, rfl⟩ : ∃ n, N = n + 1 := ⟨N - 1, by omega⟩
    have hi : i = m := by omega
    subst hi
    exact he a0 a1 a2 hI _
  | succ d ih =>
    intro i N a0 a1 a2 hi hN hI
    obtain ⟨n, rfl⟩ : ∃ n, N = n + 1 := ⟨N - 1, by omega⟩
    show P (F (zl3 F n) a0 a1 a2)
    rcases hs i (by omega) a0 a1 a2 hI with ⟨b0, b1, b2, h1, h2⟩ | h
    · rw [h2]
      exact ih (i + 1) n b0 b1 b2 (by omega) (by omega) h1
    · exact h _
theorem zl4_run {α β γ δ ρ : Type} {F : (α → β → γ → δ → Option ρ) → α → β → γ → δ → Option ρ} (m : Nat) : ∀ (p0 : Nat → α) (p1 : Nat → β) (p2 : Nat → γ) (p3 : Nat → δ), (∀ i, i < m → ∀ k, F k (p0 i) (p1 i) (p2 i) (p3 i) = k (p0 (i + 1)) (p1 (i + 1)) (p2 (i + 1)) (p3 (i + 1))) → ∀ n, zl4 F (n + m) (p0 0) (p1 0) (p2 0) (p3 0) = zl4 F n (p0 m) (p1 m) (p2 m) (p3 m) := by
  induction m with
  | zero => intro p0 p1 p2 p3 h n; rfl
  | succ m ih =>
    intro p0 p1 p2 p3 h n
    show F (zl4 F (n + m)) (p0 0) (p1 0) (p2 0) (p3 0) = _
    rw [h 0 (Nat.succ_pos m)]
    exact ih (fun i => p0 (i + 1)) (fun i => p1 (i + 1)) (fun i => p2 (i + 1)) (fun i => p3 (i + 1)) (fun i hi => h (i + 1) (by omega)) n
theorem zl4_end {α β γ δ ρ : Type} {F : (α → β → γ → δ → Option ρ) → α → β → γ → δ → Option ρ} {X : Option ρ} (m : Nat) (p0 : Nat → α) (p1 : Nat → β) (p2 : Nat → γ) (p3 : Nat → δ) {N : Nat} {a0 : α} {a1 : β} {a2 : γ} {a3 : δ} (e0 : a0 = p0 0) (e1 : a1 = p1 0) (e2 : a2 = p2 0) (e3 : a3 = p3 0) (hN : m < N) (h : ∀ i, i < m → ∀ k, F k (p0 i) (p1 i) (p2 i) (p3 i) = k (p0 (i + 1)) (p1 (i + 1)) (p2 (i + 1)) (p3 (i + 1))) (hx : ∀ k, F k (p0 m) (p1 m) (p2 m) (p3 m) = X) : zl4 F N a0 a1 a2 a3 = X := by
  obtain ⟨d, rfl⟩ : ∃ d, N = (d + 1) + m := ⟨N - m - 1, by omega⟩
  rw [e0, e1, e2, e3, zl4_run m p0 p1 p2 p3 h (d + 1)]
  exact hx _
theorem zl4_inv {α β γ δ ρ : Type} {F : (α → β → γ → δ → Option ρ) → α → β → γ → δ → Option ρ} {P : Option ρ → Prop} (m : Nat) (I : Nat → α → β → γ → δ → Prop)
    (hs : ∀ i, i < m → ∀ a0 a1 a2 a3, I i a0 a1 a2 a3 → (∃ b0 b1 b2 b3, I (i + 1) b0 b1 b2 b3 ∧ ∀ k, F k a0 a1 a2 a3 = k b0 b1 b2 b3) ∨ ∀ k, P (F k a0 a1 a2 a3)) (he : ∀ a0 a1 a2 a3, I m a0 a1 a2 a3 → ∀ k, P (F k a0 a1 a2 a3)) : ∀ (d i N : Nat) a0 a1 a2 a3, i + d = m → d < N → I i a0 a1 a2 a3 → P (zl4 F N a0 a1 a2 a3) := by
  intro d
  induction d with
  | zero =>
    intro i N a0 a1 a2 a3 hi hN hI
    obtain ⟨n, rfl⟩ : ∃ n, N = n + 1 := ⟨N - 1, by omega⟩
    have hi : i = m := by omega
    subst hi
    exact he a0 a1 a2 a3 hI _
  | succ d ih =>
    intro i N a0 a1 a2 a3 hi hN hI
    obtain ⟨n, rfl⟩ : ∃ n, N = n + 1 := ⟨N - 1, by omega⟩
    show P (F (zl4 F n) a0 a1 a2 a3)
    rcases hs i (by omega) a0 a1 a2 a3 hI with ⟨b0, b1, b2, b3, h1, h2⟩ | h
    · rw [h2]
      exact ih (i + 1) n b0 b1 b2 b3 (by omega) (by omega) h1
    · exact h _
theorem zl5_run {α β γ δ ε ρ : Type} {F : (α → β → γ → δ → ε → Option ρ) → α → β → γ → δ → ε → Option ρ} (m : Nat) : ∀ (p0 : Nat → α) (p1 : Nat → β) (p2 : Nat → γ) (p3 : Nat → δ) (p4 : Nat → ε), (∀ i, i < m → ∀ k, F k (p0 i) (p1 i) (p2 i) (p3 i) (p4 i) = k (p0 (i + 1)) (p1 (i + 1)) (p2 (i + 1)) (p3 (i + 1)) (p4 (i + 1))) → ∀ n, zl5 F (n + m) (p0 0) (p1 0) (p2 0) (p3 0) (p4 0) = zl5 F n (p0 m) (p1 m) (p2 m) (p3 m) (p4 m) := by
  induction m with
  | zero => intro p0 p1 p2 p3 p4 h n; rfl
  | succ m ih =>
    intro p0 p1 p2 p3 p4 h n
    show F (zl5 F (n + m)) (p0 0) (p1 0) (p2 0) (p3 0) (p4 0) = _
    rw [h 0 (Nat.succ_pos m)]
    exact ih (fun i => p0 (i + 1)) (fun i => p1 (i + 1)) (fun i => p2 (i + 1)) (fun i => p3 (i + 1)) (fun i => p4 (i + 1)) (fun i hi => h (i + 1) (by omega)) n
theorem zl5_end {α β γ δ ε ρ : Type} {F : (α → β → γ → δ → ε → Option ρ) → α → β → γ → δ → ε → Option ρ} {X : Option ρ} (m : Nat) (p0 : Nat → α) (p1 : Nat → β) (p2 : Nat → γ) (p3 : Nat → δ) (p4 : Nat → ε) {N : Nat} {a0 : α} {a1 : β} {a2 : γ} {a3 : δ} {a4 : ε} (e0 : a0 = p0 0) (e1 : a1 = p1 0) (e2 : a2 = p2 0) (e3 : a3 = p3 0) (e4 : a4 = p4 0) (hN : m < N) (h : ∀ i, i < m → ∀ k, F k (p0 i) (p1 i) (p2 i) (p3 i) (p4 i) = k (p0 (i + 1)) (p1 (i + 1)) (p2 (i + 1)) (p3 (i + 1)) (p4 (i + 1))) (hx : ∀ k, F k (p0 m) (p1 m) (p2 m) (p3 m) (p4 m) = X) : zl5 F N a0 a1 a2 a3 a4 = X := by
  obtain ⟨d, rfl⟩ : ∃ d, N = (d + 1) + m := ⟨N - m - 1, by omega⟩
  rw [e0, e1, e2, e3, e4, zl5_run m p0 p1 p2 p3 p4 h (d + 1)]
  exact hx _
theorem zl5_inv {α β γ δ ε ρ : Type} {F : (α → β → γ → δ → ε → Option ρ) → α → β → γ → δ → ε → Option ρ} {P : Option ρ → Prop} (m : Nat) (I : Nat → α → β → γ → δ → ε → Prop)
    (hs : ∀ i, i < m → ∀ a0 a1 a2 a3 a4, I i a0 a1 a2 a3 a4 → (∃ b0 b1 b2 b3 b4, I (i + 1) b0 b1 b2 b3 b4 ∧ ∀ k, F k a0 a1 a2 a3 a4 = k b0 b1 b2 b3 b4) ∨ ∀ k, P (F k a0 a1 a2 a3 a4)) (he : ∀ a0 a1 a2 a3 a4, I m a0 a1 a2 a3 a4 → ∀ k, P (F k a0 a1 a2 a3 a4)) : ∀ (d i N : Nat) a0 a1 a2 a3 a4, i + d = m → d < N → I i a0 a1 a2 a3 a4 → P (zl5 F N a0 a1 a2 a3 a4) := by
  intro d
  induction d with
  | zero =>
    intro i N a0 a1 a2 a3 a4 hi hN hI
    obtain ⟨n, rfl⟩ : ∃ n, N = n + 1 := ⟨N - 1, by omega⟩
    have hi : i = m := by omega
    subst hi
    exact he a0 a1 a2 a3 a4 hI _
  | succ d ih =>
    intro i N a0 a1 a2 a3 a4 hi hN hI
    obtain ⟨n, rfl⟩ : ∃ n, N = n + 1 := ⟨N - 1, by omega⟩
    show P (F (zl5 F n) a0 a1 a2 a3 a4)
    rcases hs i (by omega) a0 a1 a2 a3 a4 hI with ⟨b0, b1, b2, b3, b4, h1, h2⟩ | h
    · rw [h2]
      exact ih (i + 1) n b0 b1 b2 b3 b4 (by omega) (by omega) h1
    · exact h _
/-! the memory's words, when the kinds are known -/
section ZP
variable {T : zT} {G : Nat → Nat → Int32} {ρ : Nat → Nat → Option Nat} {c k j i : Nat} {x : Int32}
theorem gI_of (h : T.1 c = k) : gI T (G, ρ) c k j = some (G c j) := if_pos h
theorem gR_of (h : T.1 c = k) : gR T (G, ρ) c k j = ρ c j := if_pos h
theorem pI_of (h : T.1 c = k) : pI T (G, ρ) c k j x = some (zu G c j x, ρ) := if_pos h
theorem pZ_of (h : T.1 c = k) (hx : x = 0 ∨ x = 1) : pZ T (G, ρ) c k j x = some (zu G c j x, ρ) := if_pos ⟨h, hx⟩
theorem aL_of (h : T.1 c = k) : aL T c k = some (nI (T.2.1 c)) := if_pos h
theorem aI_of {L : Nat} (h : T.1 c = k) (hl : T.2.1 c = L) (hi : i < L) (hL : L < 2 ^ 31) : aI T (G, ρ) c k (nI i) = some (G c i) := by
  unfold aI
  rw [if_pos ⟨h, by rw [hl]; exact nI_in hi hL⟩, nI_clamp (by omega)]
theorem aR_of {L : Nat} (h : T.1 c = k) (hl : T.2.1 c = L) (hi : i < L) (hL : L < 2 ^ 31) : aR T (G, ρ) c k (nI i) = ρ c i := by
  unfold aR
  rw [if_pos ⟨h, by rw [hl]; exact nI_in hi hL⟩, nI_clamp (by omega)]
theorem sI_of {L : Nat} (h : T.1 c = 13) (hl : T.2.1 c = L) (hi : i < L) (hL : L < 2 ^ 31) : sI T (G, ρ) c (nI i) x = some (zu G c i x, ρ) := by
  unfold sI
  rw [if_pos ⟨h, by rw [hl]; exact nI_in hi hL⟩, nI_clamp (by omega)]
theorem sZ_of {L : Nat} (h : T.1 c = 14) (hl : T.2.1 c = L) (hi : i < L) (hL : L < 2 ^ 31) (hx : x = 0 ∨ x = 1) : sZ T (G, ρ) c (nI i) x = some (zu G c i x, ρ) := by
  unfold sZ
  rw [if_pos ⟨h, by rw [hl]; exact nI_in hi hL, hx⟩, nI_clamp (by omega)]
theorem sR_of {L kv v : Nat} (h : T.1 c = k) (hv : T.1 v = kv) (hl : T.2.1 c = L) (hi : i < L) (hL : L < 2 ^ 31) : sR T (G, ρ) c k kv (nI i) v = some (G, zur ρ c i (some v)) := by
  unfold sR
  rw [if_pos ⟨h, hv, by rw [hl]; exact nI_in hi hL⟩, nI_clamp (by omega)]
end ZP
theorem zz1_of {ρ : Type} {c : Prop} [Decidable c] {r : Option ρ} (h : c) : zz1 c r = r := if_pos h
theorem zb2_some {α β ρ : Type} {a : α} {b : β} {K : α → β → Option ρ} : zb2 (some (a, b)) K = K a b := rfl
theorem zo_none {α ρ : Type} {A : Option ρ} {B : α → Option ρ} : zo none A B = A := rfl
theorem zo_some {α ρ : Type} {a : α} {A : Option ρ} {B : α → Option ρ} : zo (some a) A B = B a := rfl
theorem zn_eq {α ρ : Type} {e : α} {K : α → Option ρ} : zn e K = K e := rfl
theorem rZ_0 {σ : zS} : rZ 0 σ = some (0, σ) := rfl
theorem rZ_1 {σ : zS} : rZ 1 σ = some (1, σ) := rfl
theorem zu_same {f : Nat → Nat → Int32} {c j : Nat} {x : Int32} : zu f c j x c j = x := by simp [zu, upd]
theorem zu_at {f : Nat → Nat → Int32} {c j a i : Nat} {x : Int32} : zu f c j x a i = if a = c ∧ i = j then x else f a i := by
  unfold zu upd
  by_cases h : a = c
  · subst h
    rw [if_pos rfl]
    by_cases h2 : i = j
    · rw [if_pos h2, if_pos ⟨rfl, h2⟩]
    · rw [if_neg h2, if_neg (fun q => h2 q.2)]
  · rw [if_neg h, if_neg (fun q => h q.1)]
theorem zu_ne {f : Nat → Nat → Int32} {c j a i : Nat} {x : Int32} (h : a = c → i ≠ j) : zu f c j x a i = f a i := by
  rw [zu_at, if_neg (fun q => h q.1 q.2)]
theorem zu_cell {f : Nat → Nat → Int32} {c j a : Nat} {x : Int32} (h : a ≠ c) : zu f c j x a = f a := by
  unfold zu
  rw [if_neg h]
/-! literals -/
theorem nI_lt0 {n : Nat} (h : n < 2 ^ 31) : ¬ nI n < 0 := nI_pos h
theorem nI_big {x : Int32} {n : Nat} (hn : n < 2 ^ 31) : (x < 0 ∨ nI n ≤ x) ∨ ∃ k, k < n ∧ x = nI k := by
  rcases pk_ix x hn with h | h | h
  · exact Or.inl (Or.inl h)
  · exact Or.inl (Or.inr h)
  · exact Or.inr h
/-! the class's world: cells 1 .. 51 are the diagram 'now', 54 + 51 k .. the history's; the rest as kC says -/
def kD (o : Nat) : Nat := if o = 0 then 2 else if o = 1 then 7 else if o = 2 then 17 else if o < 23 then 6 else if o = 23 then 1 else if o = 24 then 15 else if o < 45 then 0 else if o = 45 then 3 else if o = 46 then 14 else if o = 47 then 13 else if o = 48 then 4 else 13
def lD (o : Nat) : Nat := if o = 2 then 20 else if o = 24 then 20 else if o = 46 then 8 else if o = 47 then 8 else if o = 49 then 10 else if o = 50 then 10 else 0
def kC (c : Nat) : Nat := if c = 0 then 11 else if c < 52 then kD (c - 1) else if c = 52 then 5 else if c = 53 then 16 else if c < 360 then kD ((c - 54) % 51) else if c = 360 then 9 else if c = 361 then 13 else if c = 362 then 17 else if c < 370 then 6 else if c = 370 then 10 else if c < 373 then 13 else 8
def lC (c : Nat) : Nat := if c = 0 then 0 else if c < 52 then lD (c - 1) else if c = 52 then 0 else if c = 53 then 6 else if c < 360 then lD ((c - 54) % 51) else if c = 361 then 60 else if c = 362 then 7 else if c = 371 then 20 else if c = 372 then 20 else 0
set_option maxRecDepth 100000 in
theorem TC_all : (List.range 374).all (fun c => TC.1 c == kC c && TC.2.1 c == lC c) = true := by decide +kernel
theorem TC_n : TC.2.2 = 374 := by decide +kernel
theorem TC_k {c : Nat} (h : c < 374) : TC.1 c = kC c := by
  have := List.all_eq_true.mp TC_all c (List.mem_range.mpr h)
  simp only [Bool.and_eq_true, beq_iff_eq] at this
  exact this.1
theorem TC_l {c : Nat} (h : c < 374) : TC.2.1 c = lC c := by
  have := List.all_eq_true.mp TC_all c (List.mem_range.mpr h)
  simp only [Bool.and_eq_true, beq_iff_eq] at this
  exact this.2
def bases : List Nat := [1, 54, 105, 156, 207, 258, 309]
theorem kC_base : (bases.all fun b => (List.range 51).all fun o => kC (b + o) == kD o && lC (b + o) == lD o) = true := by decide +kernel
theorem bases_lt {b : Nat} (hb : b ∈ bases) : 1 ≤ b ∧ b + 51 ≤ 374 := by
  have : ∀ b ∈ bases, 1 ≤ b ∧ b + 51 ≤ 374 := by decide
  exact this b hb
theorem TC_b {b o : Nat} (hb : b ∈ bases) (ho : o < 51) : TC.1 (b + o) = kD o := by
  rw [TC_k (by have := bases_lt hb; omega)]
  have := List.all_eq_true.mp (List.all_eq_true.mp kC_base b hb) o (List.mem_range.mpr ho)
  simp only [Bool.and_eq_true, beq_iff_eq] at this
  exact this.1
theorem TC_lb {b o : Nat} (hb : b ∈ bases) (ho : o < 51) : TC.2.1 (b + o) = lD o := by
  rw [TC_l (by have := bases_lt hb; omega)]
  have := List.all_eq_true.mp (List.all_eq_true.mp kC_base b hb) o (List.mem_range.mpr ho)
  simp only [Bool.and_eq_true, beq_iff_eq] at this
  exact this.2
/-- references of a diagram's cells, by offset; of the other cells -/
def rD (b o j : Nat) : Option Nat := if o = 0 then (if j = 0 then some (b + 1) else if j = 1 then some (b + 23) else if j = 2 then some (b + 45) else some (b + 48)) else if o = 1 then some (b + 2) else if o = 2 then some (b + 3 + j) else if o = 23 then some (b + 24) else if o = 24 then some (b + 25 + j) else if o = 45 then (if j = 0 then some (b + 46) else some (b + 47)) else if o = 48 then (if j = 0 then some (b + 49) else some (b + 50)) else none
def nD (o : Nat) : Nat := if o = 0 then 4 else if o = 1 then 1 else if o = 2 then 20 else if o = 23 then 1 else if o = 24 then 20 else if o = 45 then 2 else if o = 48 then 2 else 0
def rf0 : Nat → Nat → Option Nat := sC.2
set_option maxRecDepth 100000 in
theorem rf0_all : (bases.all fun b => (List.range 51).all fun o => (List.range (nD o)).all fun j => rf0 (b + o) j == rD b o j) = true := by decide +kernel
theorem rf0_b {b o j : Nat} (hb : b ∈ bases) (ho : o < 51) (hj : j < nD o) : rf0 (b + o) j = rD b o j := by
  have := List.all_eq_true.mp (List.all_eq_true.mp (List.all_eq_true.mp rf0_all b hb) o (List.mem_range.mpr ho)) j (List.mem_range.mpr hj)
  simpa using this
set_option maxRecDepth 100000 in
theorem rf0_rest : rf0 0 0 = some 1 ∧ rf0 0 1 = some 52 ∧ rf0 0 2 = some 360 ∧ rf0 0 3 = some 370 ∧ rf0 0 4 = some 373 ∧ rf0 52 0 = some 53 ∧ rf0 360 0 = some 361 ∧ rf0 360 1 = some 362 ∧ rf0 370 0 = some 371 ∧ rf0 370 1 = some 372 := by decide +kernel
set_option maxRecDepth 100000 in
theorem rf0_drafts : ∀ k, k < 7 → rf0 362 k = some (363 + k) := by decide +kernel
set_option maxRecDepth 100000 in
theorem rf0_past : ∀ k, k < 6 → rf0 53 k = some (54 + 51 * k) := by decide +kernel
def rfC (q : Nat → Option Nat) : Nat → Nat → Option Nat := fun c j => if c = 53 then q j else rf0 c j
theorem rfC_ne {q : Nat → Option Nat} {c j : Nat} (h : c ≠ 53) : rfC q c j = rf0 c j := if_neg h
theorem rfC_53 {q : Nat → Option Nat} {j : Nat} : rfC q 53 j = q j := if_pos rfl
theorem rfC_up {q : Nat → Option Nat} {j : Nat} {v : Option Nat} : zur (rfC q) 53 j v = rfC (va_up q j v) := by
  funext c i
  by_cases h : c = 53
  · subst h
    have e : rfC q 53 = q := by funext j; simp [rfC]
    have e2 : ∀ f : Nat → Option Nat, rfC f 53 = f := fun f => by funext j; simp [rfC]
    rw [e2]
    simp [zur, e]
  · simp [zur, rfC, h]
theorem rfC_b {q : Nat → Option Nat} {b o j : Nat} (hb : b ∈ bases) (ho : o < 51) (hj : j < nD o) : rfC q (b + o) j = rD b o j := by
  rw [rfC_ne, rf0_b hb ho hj]
  have : ∀ b ∈ bases, ∀ o, o < 51 → b + o ≠ 53 := by decide
  exact this b hb o ho
theorem TC_0 : TC.1 0 = 11 := (TC_k (by decide)).trans (by decide)
theorem TC_1 : TC.1 1 = 2 := (TC_k (by decide)).trans (by decide)
theorem TC_2 : TC.1 2 = 7 := (TC_k (by decide)).trans (by decide)
theorem TC_3 : TC.1 3 = 17 := (TC_k (by decide)).trans (by decide)
theorem TC_24 : TC.1 24 = 1 := (TC_k (by decide)).trans (by decide)
theorem TC_25 : TC.1 25 = 15 := (TC_k (by decide)).trans (by decide)
theorem TC_46 : TC.1 46 = 3 := (TC_k (by decide)).trans (by decide)
theorem TC_47 : TC.1 47 = 14 := (TC_k (by decide)).trans (by decide)
theorem TC_48 : TC.1 48 = 13 := (TC_k (by decide)).trans (by decide)
theorem TC_49 : TC.1 49 = 4 := (TC_k (by decide)).trans (by decide)
theorem TC_50 : TC.1 50 = 13 := (TC_k (by decide)).trans (by decide)
theorem TC_51 : TC.1 51 = 13 := (TC_k (by decide)).trans (by decide)
theorem TC_52 : TC.1 52 = 5 := (TC_k (by decide)).trans (by decide)
theorem TC_53 : TC.1 53 = 16 := (TC_k (by decide)).trans (by decide)
theorem TC_360 : TC.1 360 = 9 := (TC_k (by decide)).trans (by decide)
theorem TC_361 : TC.1 361 = 13 := (TC_k (by decide)).trans (by decide)
theorem TC_362 : TC.1 362 = 17 := (TC_k (by decide)).trans (by decide)
theorem TC_370 : TC.1 370 = 10 := (TC_k (by decide)).trans (by decide)
theorem TC_371 : TC.1 371 = 13 := (TC_k (by decide)).trans (by decide)
theorem TC_372 : TC.1 372 = 13 := (TC_k (by decide)).trans (by decide)
theorem TC_373 : TC.1 373 = 8 := (TC_k (by decide)).trans (by decide)
theorem TL_3 : TC.2.1 3 = 20 := (TC_l (by decide)).trans (by decide)
theorem TL_25 : TC.2.1 25 = 20 := (TC_l (by decide)).trans (by decide)
theorem TL_47 : TC.2.1 47 = 8 := (TC_l (by decide)).trans (by decide)
theorem TL_48 : TC.2.1 48 = 8 := (TC_l (by decide)).trans (by decide)
theorem TL_50 : TC.2.1 50 = 10 := (TC_l (by decide)).trans (by decide)
theorem TL_51 : TC.2.1 51 = 10 := (TC_l (by decide)).trans (by decide)
theorem TL_53 : TC.2.1 53 = 6 := (TC_l (by decide)).trans (by decide)
theorem TL_361 : TC.2.1 361 = 60 := (TC_l (by decide)).trans (by decide)
theorem TL_362 : TC.2.1 362 = 7 := (TC_l (by decide)).trans (by decide)
theorem TL_371 : TC.2.1 371 = 20 := (TC_l (by decide)).trans (by decide)
theorem TL_372 : TC.2.1 372 = 20 := (TC_l (by decide)).trans (by decide)
theorem TC_sh {k : Nat} (h : k < 20) : TC.1 (4 + k) = 6 := by
  have e := TC_b (b := 1) (o := 3 + k) (by decide) (by omega)
  rw [show 4 + k = 1 + (3 + k) by omega, e]
  have : ∀ k, k < 20 → kD (3 + k) = 6 := by decide
  exact this k h
theorem TC_cn {k : Nat} (h : k < 20) : TC.1 (26 + k) = 0 := by
  have e := TC_b (b := 1) (o := 25 + k) (by decide) (by omega)
  rw [show 26 + k = 1 + (25 + k) by omega, e]
  have : ∀ k, k < 20 → kD (25 + k) = 0 := by decide
  exact this k h
theorem TC_dr {k : Nat} (h : k < 7) : TC.1 (363 + k) = 6 := by
  rw [TC_k (by omega)]
  have : ∀ k, k < 7 → kC (363 + k) = 6 := by decide
  exact this k h
theorem rf_0_0 {q : Nat → Option Nat} : rfC q 0 0 = some 1 := (rfC_ne (by decide)).trans rf0_rest.1
theorem rf_0_1 {q : Nat → Option Nat} : rfC q 0 1 = some 52 := (rfC_ne (by decide)).trans rf0_rest.2.1
theorem rf_0_2 {q : Nat → Option Nat} : rfC q 0 2 = some 360 := (rfC_ne (by decide)).trans rf0_rest.2.2.1
theorem rf_0_3 {q : Nat → Option Nat} : rfC q 0 3 = some 370 := (rfC_ne (by decide)).trans rf0_rest.2.2.2.1
theorem rf_0_4 {q : Nat → Option Nat} : rfC q 0 4 = some 373 := (rfC_ne (by decide)).trans rf0_rest.2.2.2.2.1
theorem rf_52_0 {q : Nat → Option Nat} : rfC q 52 0 = some 53 := (rfC_ne (by decide)).trans rf0_rest.2.2.2.2.2.1
theorem rf_360_0 {q : Nat → Option Nat} : rfC q 360 0 = some 361 := (rfC_ne (by decide)).trans rf0_rest.2.2.2.2.2.2.1
theorem rf_360_1 {q : Nat → Option Nat} : rfC q 360 1 = some 362 := (rfC_ne (by decide)).trans rf0_rest.2.2.2.2.2.2.2.1
theorem rf_370_0 {q : Nat → Option Nat} : rfC q 370 0 = some 371 := (rfC_ne (by decide)).trans rf0_rest.2.2.2.2.2.2.2.2.1
theorem rf_370_1 {q : Nat → Option Nat} : rfC q 370 1 = some 372 := (rfC_ne (by decide)).trans rf0_rest.2.2.2.2.2.2.2.2.2
theorem rf_1_0 {q : Nat → Option Nat} : rfC q 1 0 = some 2 := (rfC_b (b := 1) (o := 0) (j := 0) (by decide) (by decide) (by decide)).trans (by decide)
theorem rf_1_1 {q : Nat → Option Nat} : rfC q 1 1 = some 24 := (rfC_b (b := 1) (o := 0) (j := 1) (by decide) (by decide) (by decide)).trans (by decide)
theorem rf_1_2 {q : Nat → Option Nat} : rfC q 1 2 = some 46 := (rfC_b (b := 1) (o := 0) (j := 2) (by decide) (by decide) (by decide)).trans (by decide)
theorem rf_1_3 {q : Nat → Option Nat} : rfC q 1 3 = some 49 := (rfC_b (b := 1) (o := 0) (j := 3) (by decide) (by decide) (by decide)).trans (by decide)
theorem rf_2_0 {q : Nat → Option Nat} : rfC q 2 0 = some 3 := (rfC_b (b := 1) (o := 1) (j := 0) (by decide) (by decide) (by decide)).trans (by decide)
theorem rf_24_0 {q : Nat → Option Nat} : rfC q 24 0 = some 25 := (rfC_b (b := 1) (o := 23) (j := 0) (by decide) (by decide) (by decide)).trans (by decide)
theorem rf_46_0 {q : Nat → Option Nat} : rfC q 46 0 = some 47 := (rfC_b (b := 1) (o := 45) (j := 0) (by decide) (by decide) (by decide)).trans (by decide)
theorem rf_46_1 {q : Nat → Option Nat} : rfC q 46 1 = some 48 := (rfC_b (b := 1) (o := 45) (j := 1) (by decide) (by decide) (by decide)).trans (by decide)
theorem rf_49_0 {q : Nat → Option Nat} : rfC q 49 0 = some 50 := (rfC_b (b := 1) (o := 48) (j := 0) (by decide) (by decide) (by decide)).trans (by decide)
theorem rf_49_1 {q : Nat → Option Nat} : rfC q 49 1 = some 51 := (rfC_b (b := 1) (o := 48) (j := 1) (by decide) (by decide) (by decide)).trans (by decide)
theorem rf_3 {q : Nat → Option Nat} {k : Nat} (h : k < 20) : rfC q 3 k = some (4 + k) := by
  have e := rfC_b (q := q) (b := 1) (o := 2) (j := k) (by decide) (by decide) (by simpa [nD] using h)
  exact e.trans (by simp [rD])
theorem rf_25 {q : Nat → Option Nat} {k : Nat} (h : k < 20) : rfC q 25 k = some (26 + k) := by
  have e := rfC_b (q := q) (b := 1) (o := 24) (j := k) (by decide) (by decide) (by simpa [nD] using h)
  exact e.trans (by simp [rD])
theorem rf_362 {q : Nat → Option Nat} {k : Nat} (h : k < 7) : rfC q 362 k = some (363 + k) := (rfC_ne (by decide)).trans (rf0_drafts k h)
/-! the reference's world -/
def kM (c : Nat) : Nat := if c = 0 then 12 else 13
def lM (c : Nat) : Nat := if c = 1 then 380 else if c = 2 then 2280 else if c = 3 then 4 else if c = 4 then 4 else if c = 5 then 20 else if c = 6 then 20 else if c = 7 then 42 else if c = 8 then 42 else if c = 9 then 20 else if c = 10 then 20 else if c = 11 then 20 else if c = 12 then 20 else if c = 13 then 60 else if c = 14 then 20 else if c = 15 then 80 else 0
theorem TM_all : (List.range 16).all (fun c => TM.1 c == kM c && TM.2.1 c == lM c) = true := by decide +kernel
theorem TM_n : TM.2.2 = 16 := by decide +kernel
theorem TM_k {c : Nat} (h : c < 16) : TM.1 c = kM c := by
  have := List.all_eq_true.mp TM_all c (List.mem_range.mpr h)
  simp only [Bool.and_eq_true, beq_iff_eq] at this
  exact this.1
theorem TM_l {c : Nat} (h : c < 16) : TM.2.1 c = lM c := by
  have := List.all_eq_true.mp TM_all c (List.mem_range.mpr h)
  simp only [Bool.and_eq_true, beq_iff_eq] at this
  exact this.2
def rfM : Nat → Nat → Option Nat := sM.2
theorem TM_0 : TM.1 0 = 12 := TM_k (by decide)
theorem TM_1 : TM.1 1 = 13 := TM_k (by decide)
theorem TM_2 : TM.1 2 = 13 := TM_k (by decide)
theorem TM_3 : TM.1 3 = 13 := TM_k (by decide)
theorem TM_4 : TM.1 4 = 13 := TM_k (by decide)
theorem TM_5 : TM.1 5 = 13 := TM_k (by decide)
theorem TM_6 : TM.1 6 = 13 := TM_k (by decide)
theorem TM_7 : TM.1 7 = 13 := TM_k (by decide)
theorem TM_8 : TM.1 8 = 13 := TM_k (by decide)
theorem TM_9 : TM.1 9 = 13 := TM_k (by decide)
theorem TM_10 : TM.1 10 = 13 := TM_k (by decide)
theorem TM_11 : TM.1 11 = 13 := TM_k (by decide)
theorem TM_12 : TM.1 12 = 13 := TM_k (by decide)
theorem TM_13 : TM.1 13 = 13 := TM_k (by decide)
theorem TM_14 : TM.1 14 = 13 := TM_k (by decide)
theorem TM_15 : TM.1 15 = 13 := TM_k (by decide)
theorem ML_1 : TM.2.1 1 = 380 := (TM_l (by decide)).trans (by decide)
theorem ML_2 : TM.2.1 2 = 2280 := (TM_l (by decide)).trans (by decide)
theorem ML_3 : TM.2.1 3 = 4 := (TM_l (by decide)).trans (by decide)
theorem ML_4 : TM.2.1 4 = 4 := (TM_l (by decide)).trans (by decide)
theorem ML_5 : TM.2.1 5 = 20 := (TM_l (by decide)).trans (by decide)
theorem ML_6 : TM.2.1 6 = 20 := (TM_l (by decide)).trans (by decide)
theorem ML_7 : TM.2.1 7 = 42 := (TM_l (by decide)).trans (by decide)
theorem ML_8 : TM.2.1 8 = 42 := (TM_l (by decide)).trans (by decide)
theorem ML_9 : TM.2.1 9 = 20 := (TM_l (by decide)).trans (by decide)
theorem ML_10 : TM.2.1 10 = 20 := (TM_l (by decide)).trans (by decide)
theorem ML_11 : TM.2.1 11 = 20 := (TM_l (by decide)).trans (by decide)
theorem ML_12 : TM.2.1 12 = 20 := (TM_l (by decide)).trans (by decide)
theorem ML_13 : TM.2.1 13 = 60 := (TM_l (by decide)).trans (by decide)
theorem ML_14 : TM.2.1 14 = 20 := (TM_l (by decide)).trans (by decide)
theorem ML_15 : TM.2.1 15 = 80 := (TM_l (by decide)).trans (by decide)
theorem rm_0 : rfM 0 0 = some 1 := by decide +kernel
theorem rm_1 : rfM 0 1 = some 2 := by decide +kernel
theorem rm_3 : rfM 0 3 = some 3 := by decide +kernel
theorem rm_4 : rfM 0 4 = some 4 := by decide +kernel
theorem rm_6 : rfM 0 6 = some 5 := by decide +kernel
theorem rm_7 : rfM 0 7 = some 6 := by decide +kernel
theorem rm_8 : rfM 0 8 = some 7 := by decide +kernel
theorem rm_9 : rfM 0 9 = some 8 := by decide +kernel
theorem rm_10 : rfM 0 10 = some 9 := by decide +kernel
theorem rm_12 : rfM 0 12 = some 10 := by decide +kernel
theorem rm_13 : rfM 0 13 = some 11 := by decide +kernel
theorem rm_16 : rfM 0 16 = some 12 := by decide +kernel
theorem rm_17 : rfM 0 17 = some 13 := by decide +kernel
theorem rm_22 : rfM 0 22 = some 14 := by decide +kernel
theorem rm_23 : rfM 0 23 = some 15 := by decide +kernel
