/-! removing a shape: its connectors, on both sides -/
/-- what the reference does when the connectors are gone -/
def exR (N s : Nat) (r : Int32) (σ : zS) : Option (Int32 × zS) :=
  (gR TM σ 0 12 0).bind fun a13 =>
  (aI TM σ a13 13 (1 : Int32)).bind fun x14 =>
  (sI TM σ a13 (1 : Int32) (x14 - (1 : Int32))).bind fun s15 =>
  zb2 (f_X12_depthOf TM N s15 0 (nI s)) fun x17 s16 =>
  zl2 (f_X12_removeShape_L68 TM N 0 (nI s) r) N x17 s16
section RML
variable {G M : Nat → Nat → Int32} {q : Nat → Option Nat} {N : Nat} {th : Nat → Bool} {V : Nat → Int32} {s m a : Nat}
theorem i_m1 (x : Int32) : x + (-1) = x - 1 := by
  rw [Int32.sub_eq_add_neg]
theorem drop_skip (hl : G 24 1 = nI m) (h20 : m ≤ 20) : ∀ (d n : Nat), m + d ≤ 20 → zl3 (f_X1_dropAt_L10 TC N 24 (nI s)) (n + d) (nI a) (nI (m + d) - 1) (G, rfC q) = zl3 (f_X1_dropAt_L10 TC N 24 (nI s)) n (nI a) (nI m - 1) (G, rfC q) := by
  intro d
  induction d with
  | zero => intro n _; rfl
  | succ d ih =>
    intro n hd
    rw [← ih n (by omega), show n + (d + 1) = n + d + 1 from rfl, zl3, show m + (d + 1) = m + d + 1 from rfl, nI_pred]
    unfold f_X1_dropAt_L10
    rw [if_neg (nI_pos (by omega)), e_cfind_k hl h20 (by omega), zb2_some, if_neg (by omega), zo_none, zn_eq, i_m1]
theorem drop_both (hN : 100 < N) (hs : s < 20) : ∀ (i : Nat) (G M : Nat → Nat → Int32) (m a n1 n2 : Nat), i ≤ m → QL th m G (M 1) → (∀ k, i ≤ k → k < m → atB (M 1) (nI s) k = false) → i < n1 → i < n2 →
    ∃ G' M' m' b, zl3 (f_X1_dropAt_L10 TC N 24 (nI s)) n1 (nI a) (nI i - 1) (G, rfC q) = some (nI b, (G', rfC q)) ∧ zl3 (f_X12_removeShape_L25 TM N 0 (nI s)) n2 (nI a) (nI i - 1) (M, rfM) = exR N s (nI b) (M', rfM) ∧ QL th m' G' (M' 1) ∧ (∀ k, k < m' → atB (M' 1) (nI s) k = false) ∧ (∀ a j, (∀ c, c < 20 → a ≠ 26 + c) → ¬ (a = 24 ∧ j = 1) → G' a j = G a j) ∧ ∀ a j, ¬ (a = 1 ∧ (j = 2 ∨ (190 ≤ j ∧ j < 290))) → M' a j = M a j := by
  intro i
  induction i with
  | zero =>
    intro G M m a n1 n2 hi hL hno h1 h2
    obtain ⟨k1, rfl⟩ : ∃ k, n1 = k + 1 := ⟨n1 - 1, by omega⟩
    obtain ⟨k2, rfl⟩ : ∃ k, n2 = k + 1 := ⟨n2 - 1, by omega⟩
    refine ⟨G, M, m, a, ?_, ?_, hL, fun k hk => hno k (Nat.zero_le k) hk, fun a j _ _ => rfl, fun a j _ => rfl⟩
    · rw [zl3]
      unfold f_X1_dropAt_L10
      rw [if_pos (show nI 0 - 1 < 0 by decide)]
    · rw [zl3]
      unfold f_X12_removeShape_L25
      rw [if_pos (show nI 0 - 1 < 0 by decide)]
      rfl
  | succ i ih =>
    intro G M m a n1 n2 hi hL hno h1 h2
    obtain ⟨k1, rfl⟩ : ∃ k, n1 = k + 1 := ⟨n1 - 1, by omega⟩
    obtain ⟨k2, rfl⟩ : ∃ k, n2 = k + 1 := ⟨n2 - 1, by omega⟩
    have h20 := hL.l20
    have hC1 : ∀ k : Int32 → Int32 → zS → Option (Int32 × zS), f_X1_dropAt_L10 TC N 24 (nI s) k (nI a) (nI i) (G, rfC q) = if (if G (26 + i) 0 = nI s ∨ G (26 + i) 2 = nI s then (1 : Int32) else 0) = 0 then k (nI a) (nI i - 1) (G, rfC q) else (f_X1_drop TC N (G, rfC q) 24 (nI i)).bind fun s17 => k (nI (a + 1)) (nI i - 1) s17 := fun k => by
      unfold f_X1_dropAt_L10
      rw [if_neg (nI_pos (by omega)), e_cfind_k hL.lD h20 (by omega), zb2_some, if_pos (by omega), zo_some, e_isAtC (TC_cn (by omega)), zb2_some]
      simp only [zn_eq, i_m1, nI_1]
    have hM1 : ∀ k : Int32 → Int32 → zS → Option (Int32 × zS), f_X12_removeShape_L25 TM N 0 (nI s) k (nI a) (nI i) (M, rfM) = if (if M 1 (190 + 5 * i) = nI s ∨ M 1 (190 + 5 * i + 2) = nI s then (1 : Int32) else 0) = 0 then k (nI a) (nI i - 1) (M, rfM) else (f_X12_cuts TM N (M, rfM) 0 (nI i)).bind fun s33 => k (nI (a + 1)) (nI i - 1) s33 := fun k => by
      unfold f_X12_removeShape_L25
      rw [if_neg (nI_pos (by omega)), m_isAt (by omega), zb2_some]
      simp only [zn_eq, i_m1, nI_1]
    have hat := atB_D hL (x := nI s) (k := i) (by omega)
    have e1 : zl3 (f_X1_dropAt_L10 TC N 24 (nI s)) (k1 + 1) (nI a) (nI (i + 1) - 1) (G, rfC q) = f_X1_dropAt_L10 TC N 24 (nI s) (zl3 (f_X1_dropAt_L10 TC N 24 (nI s)) k1) (nI a) (nI i) (G, rfC q) := by rw [zl3, nI_pred]
    have e2 : zl3 (f_X12_removeShape_L25 TM N 0 (nI s)) (k2 + 1) (nI a) (nI (i + 1) - 1) (M, rfM) = f_X12_removeShape_L25 TM N 0 (nI s) (zl3 (f_X12_removeShape_L25 TM N 0 (nI s)) k2) (nI a) (nI i) (M, rfM) := by rw [zl3, nI_pred]
    rw [e1, e2, hC1, hM1]
    by_cases hb : atB (M 1) (nI s) i = true
    · obtain ⟨m0, rfl⟩ : ∃ m0, m = m0 + 1 := ⟨m - 1, by omega⟩
      obtain ⟨G2, p0, p1, p2, p3⟩ := e_cdrop (q := q) (N := N) (by omega) hL.lD (by omega) (show i ≤ m0 by omega)
      obtain ⟨M2, r0, r1, r2, r3⟩ := m_cuts (N := N) (by omega) hL.lV (by omega) (show i ≤ m0 by omega)
      obtain ⟨hL2, hv⟩ := QL_cut hL (show i ≤ m0 by omega) p1 r1 p2 r2
      rw [if_pos (hat.mpr hb), if_neg (show ¬ (1 : Int32) = 0 by decide), if_pos (of_decide_eq_true hb), if_neg (show ¬ (1 : Int32) = 0 by decide), p0, Option.bind_some, r0, Option.bind_some]
      obtain ⟨G3, M3, m3, b, w1, w2, w3, w4, w5, w6⟩ := ih G2 M2 m0 (a + 1) k1 k2 (by omega) hL2 (fun k hk1 hk2 => by
        have h3 := hno (k + 1) (by omega) (by omega)
        unfold atB at h3 ⊢
        have e0 := hv k hk2 0 (by omega)
        have e2 := hv k hk2 2 (by omega)
        rw [if_pos hk1] at e0 e2
        rw [show 190 + 5 * k = 190 + 5 * k + 0 from rfl, e0, e2]
        exact h3) (by omega) (by omega)
      exact ⟨G3, M3, m3, b, w1, w2, w3, w4, fun a j h1 h2 => (w5 a j h1 h2).trans (p3 a j h1 h2), fun a j h1 => (w6 a j h1).trans (r3 a j h1)⟩
    · have hb2 : atB (M 1) (nI s) i = false := by simpa using hb
      rw [if_neg (fun q => hb (hat.mp q)), if_pos rfl, if_neg (fun q => hb (decide_eq_true q)), if_pos rfl]
      refine ih G M m a k1 k2 (by omega) hL (fun k hk1 hk2 => ?_) (by omega) (by omega)
      by_cases e : k = i
      · rw [e]; exact hb2
      · exact hno k (by omega) hk2
theorem QL_rm {D D' : Nat → Nat → Int32} {V V' : Nat → Int32} {th' : Nat → Bool} (h : QL th m D V) (hno : ∀ k, k < m → atB V (nI s) k = false) (hs : s < 20) (hth : ∀ t, t < 20 → t ≠ s → th t = true → th' t = true) (e1 : D' 24 1 = D 24 1) (e2 : V' 2 = V 2) (e3 : ∀ c, c < 20 → ∀ j, j < 5 → D' (26 + c) j = D (26 + c) j) (e4 : ∀ i, i < 100 → V' (190 + i) = V (190 + i)) : QL th' m D' V' := by
  obtain ⟨w1, w2, w3, w4, w5⟩ := QL_fr h e1 e2 e3 e4
  refine ⟨w1, w2, w3, w4, fun k hk => ?_⟩
  obtain ⟨s1, a, t, b, y, h1, h2, h3, h4, h5, h6, h7, h8, h9, h10, h11, h12⟩ := w5 k hk
  have hk2 := of_decide_eq_false (hno k hk)
  have v1 : V (190 + 5 * k) = nI s1 := (by have := e4 (5 * k) (by omega); exact this.symm.trans h8)
  have v2 : V (190 + 5 * k + 2) = nI t := (by have := e4 (5 * k + 2) (by omega); exact this.symm.trans h10)
  have n1 : s1 ≠ s := fun e => hk2 (Or.inl (by rw [v1, e]))
  have n2 : t ≠ s := fun e => hk2 (Or.inr (by rw [v2, e]))
  exact ⟨s1, a, t, b, y, h1, hth s1 h1 n1 h2, h3, hth t h3 n2 h4, h5, h6, h7, h8, h9, h10, h11, h12⟩
end RML
