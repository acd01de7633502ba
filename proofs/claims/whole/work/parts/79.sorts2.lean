/-! distribute: both sides sort the units, the outer loops -/
section SR2
variable {G M G1 M1 : Nat → Nat → Int32} {q : Nat → Option Nat} {N : Nat} {n c ln : Nat} {th sel gt P : Nat → Bool} {p uo o : Nat → Nat} {hs hg : Nat → Option Nat} {ρ : Nat → Nat → Option Nat} {V w wy : Nat → Int32} {s t a b y k d u α m i l : Nat} {x z : Int32}
theorem outer_both (hN : 20 < N) (hα : α < 2) (hA : QA n th sel c p hs hg gt ln G V) (hB : GB th sel uo m G M G1 M1) : ∀ (d i : Nat), i + d = m → 1 ≤ i → ∀ (n1 n2 : Nat), d < n1 → d < n2 → ∀ (o : Nat → Nat) (C D : Nat → Nat → Int32),
    (∀ t, t < m → C 371 t = mkS (uB sel uo (o t)) 20) → (∀ a b, a ≠ 371 → C a b = G1 a b) → (∀ t, t < i → D 12 t = nI (o t)) → (∀ a b, a ≠ 12 → D a b = M1 a b) → (∀ t, i ≤ t → o t = t) → pmO o m →
    ∃ (o' : Nat → Nat) (C' D' : Nat → Nat → Int32), (∀ t, t < m → C' 371 t = mkS (uB sel uo (o' t)) 20) ∧ (∀ a b, a ≠ 371 → C' a b = G1 a b) ∧ (∀ t, t < m → D' 12 t = nI (o' t)) ∧ (∀ a b, a ≠ 12 → D' a b = M1 a b) ∧ pmO o' m ∧
      zl2 (f_X10_sortAlong_L2 TC N 370 2 (nI α)) n1 (nI i) (C, rfC q) = some (C', rfC q) ∧ zl2 (f_X12_sorts_L2 TM N 0 (nI α)) n2 (nI i) (D, rfM) = some (D', rfM) := by
  obtain ⟨b1, b2, b3, b4, b5, b6, b7, b8, b9, b10⟩ := id hB
  intro d
  induction d with
  | zero =>
    intro i hi h1 n1 n2 hn1 hn2 o C D c1 c2 d1 d2 h3 h4
    have hi : i = m := by omega
    subst hi
    obtain ⟨n1, rfl⟩ : ∃ r, n1 = r + 1 := ⟨n1 - 1, by omega⟩
    obtain ⟨n2, rfl⟩ : ∃ r, n2 = r + 1 := ⟨n2 - 1, by omega⟩
    refine ⟨o, C, D, c1, c2, d1, d2, h4, ?_, ?_⟩
    · rw [zl2]
      unfold f_X10_sortAlong_L2
      rw [gI_of TC_370, c2 _ _ (by decide), b2, Option.bind_some, if_pos (nI_le (Nat.le_refl i) (by omega))]
    · rw [zl2]
      unfold f_X12_sorts_L2
      rw [gI_of TM_0, d2 _ _ (by decide), b4, Option.bind_some, if_pos (nI_le (Nat.le_refl i) (by omega))]
  | succ d ih =>
    intro i hi h1 n1 n2 hn1 hn2 o C D c1 c2 d1 d2 h3 h4
    obtain ⟨n1, rfl⟩ : ∃ r, n1 = r + 1 := ⟨n1 - 1, by omega⟩
    obtain ⟨n2, rfl⟩ : ∃ r, n2 = r + 1 := ⟨n2 - 1, by omega⟩
    have him : i < m := by omega
    obtain ⟨o', C', D', k1, k2, k3, k4, k5, k6, k7, k8⟩ := ins_both (q := q) hN hα hA hB him i (Nat.le_refl i) N N (by omega) (by omega) o C D (fun t ht _ => c1 t ht) c2 (fun t ht he => d1 t (by omega)) d2 (h3 i (Nat.le_refl i)) h4
    obtain ⟨o2, C2, D2, m1, m2, m3, m4, m5, m6, m7⟩ := ih (i + 1) (by omega) (by omega) n1 n2 (by omega) (by omega) o' C' D' k1 k2 (fun t ht => k3 t (by omega)) k4 (fun t ht => by rw [k6 t (by omega)]; exact h3 t (by omega)) k5
    have fC : ∀ a j, a < 360 → C a j = G a j := fun a j ha => (c2 _ _ (by omega)).trans (b9 _ _ (by omega) (by omega))
    have hc : ∀ K : Int32 → zS → Option zS, f_X10_sortAlong_L2 TC N 370 2 (nI α) K (nI i) (C, rfC q) = K (nI (i + 1)) (C', rfC q) := fun K => by
      have hsi : C 371 i = mkS (uB sel uo i) 20 := by rw [c1 i him, h3 i (Nat.le_refl i)]
      rw [← k7 K]
      unfold f_X10_sortAlong_L2
      rw [gI_of TC_370, c2 _ _ (by decide), b2, Option.bind_some, if_neg (nI_ge him (by omega)), gR_of TC_370, rf_370_0, Option.bind_some, aL_of TC_371, TL_371, Option.bind_some, if_neg (nI_ge (show i < 20 by omega) (by decide)), Option.bind_some, aI_of TC_371 TL_371 (show i < 20 by omega) (by decide), Option.bind_some, hsi, e_lowU hN hα hA.1 fC (b8 _ him), zb2_some]
    have hr : ∀ K : Int32 → zS → Option zS, f_X12_sorts_L2 TM N 0 (nI α) K (nI i) (D, rfM) = K (nI (i + 1)) (D', rfM) := fun K => by
      rw [← k8 K]
      unfold f_X12_sorts_L2
      rw [gI_of TM_0, d2 _ _ (by decide), b4, Option.bind_some, if_neg (nI_ge him (by omega))]
    refine ⟨o2, C2, D2, m1, m2, m3, m4, m5, ?_, ?_⟩
    · rw [zl2]
      exact (hc _).trans m6
    · rw [zl2]
      exact (hr _).trans m7
theorem sort_both (hN : 30 < N) (hα : α < 2) (hA : QA n th sel c p hs hg gt ln G V) (hB : GB th sel uo m G M G1 M1) (hm : 3 ≤ m) :
    ∃ (o : Nat → Nat) (C D : Nat → Nat → Int32), f_X10_sortAlong TC N (G1, rfC q) 370 2 (nI α) = some (C, rfC q) ∧ f_X12_sorts TM N (M1, rfM) 0 (nI α) = some (D, rfM) ∧ (∀ t, t < m → C 371 t = mkS (uB sel uo (o t)) 20) ∧ (∀ a b, a ≠ 371 → C a b = G1 a b) ∧ (∀ t, t < m → D 12 t = nI (o t)) ∧ (∀ a b, a ≠ 12 → D a b = M1 a b) ∧ pmO o m := by
  obtain ⟨b1, b2, b3, b4, b5, b6, b7, b8, b9, b10⟩ := id hB
  obtain ⟨n2, rfl⟩ : ∃ r, N = r + 1 := ⟨N - 1, by omega⟩
  obtain ⟨o', C', D', k1, k2, k3, k4, k5, k6, k7⟩ := outer_both (q := q) (N := n2 + 1) (by omega) hα hA hB (m - 1) 1 (by omega) (by omega) (n2 + 1) n2 (by omega) (by omega) (fun t => t) G1 (zu M1 12 0 (nI 0)) b3 (fun a b _ => rfl) (fun t ht => by
      have : t = 0 := by omega
      subst this
      exact zu_same) (fun a b h => zu_cell h ▸ rfl) (fun t _ => rfl) ⟨fun t h => h, fun i j _ _ e => e, fun v hv => ⟨v, hv, rfl⟩⟩
  refine ⟨o', C', D', ?_, ?_, k1, k2, k3, k4, k5⟩
  · unfold f_X10_sortAlong
    rw [zz1_of TC_370]
    exact k6
  · have hfirst : ∀ K : Int32 → zS → Option zS, f_X12_sorts_L2 TM (n2 + 1) 0 (nI α) K (0 : Int32) (M1, rfM) = K (nI 1) (zu M1 12 0 (nI 0), rfM) := fun K => by
      unfold f_X12_sorts_L2
      rw [gI_of TM_0, b4, Option.bind_some, if_neg (show ¬ nI m ≤ 0 from nI_nle (by omega) (by omega)), zl2]
      unfold f_X12_sorts_L12
      rw [if_pos (show (0 : Int32) ≤ 0 by decide), gm16, Option.bind_some]
      rw [show sI TM (M1, rfM) 12 (0 : Int32) (0 : Int32) = some (zu M1 12 0 (nI 0), rfM) from sI_of TM_12 ML_12 (show 0 < 20 by decide) (by decide), Option.bind_some, zn_eq]
      rfl
    unfold f_X12_sorts
    rw [zz1_of TM_0, zl2]
    exact (hfirst _).trans k7
end SR2
