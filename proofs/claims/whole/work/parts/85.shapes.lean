/-! read: numbers and shapes on both sides -/
def FRT (G M : Nat → Nat → Int32) (len : Nat) (C D : Nat → Nat → Int32) : Prop := (∀ a j, a < 360 → C a j = G a j) ∧ C 360 2 = nI len ∧ (∀ i, C 361 i = G 361 i) ∧ ∀ a j, ¬ (a = 0 ∧ (j = 19 ∨ j = 20 ∨ j = 21)) → a ≠ 14 → a ≠ 15 → D a j = M a j
def MFR (T : Nat) (C D : Nat → Nat → Int32) : Prop := (C 360 6 = -1000000 ∧ D 0 21 = -1 ∧ ∀ t, t < T → okn (t % 4) (D 15 t) = 1) ∨ ∃ b, b < 2 ^ 31 ∧ C 360 6 = nI b ∧ D 0 21 = nI b
def RST (T K a f : Nat) (C D : Nat → Nat → Int32) : Prop := C 360 4 = nI a ∧ D 0 19 = nI a ∧ C 360 3 = nI f ∧ D 0 20 = nI f ∧ (∀ t, t < T → C (363 + t / 4) (2 + t % 4) = D 15 t) ∧ (∀ k, k < K → C (363 + k) 1 = D 14 k ∧ (D 14 k = 0 ∨ D 14 k = 1 ∨ D 14 k = 2)) ∧ MFR T C D
section SHB
variable {G M C D : Nat → Nat → Int32} {q : Nat → Option Nat} {N : Nat} {c : Nat → Int32} {len a i j k f T K : Nat} {x z v : Int32}
theorem okn01 : okn j v = 0 ∨ okn j v = 1 := by
  unfold okn
  by_cases h : 2 ≤ j
  · rw [if_pos h]; exact wth01 _ _ _
  · rw [if_neg h]; exact wth01 _ _ _
/-- the text that both sides read -/
def TXT (G M : Nat → Nat → Int32) (len : Nat) : Prop := len ≤ 60 ∧ M 0 18 = nI len ∧ ∀ i, i < len → M 13 i = G 361 i
theorem num_both (hN : 20 < N) (hX : TXT G M len) (hal : a ≤ len) (hf : f < 7) (hj : j < 4) (hK : K ≤ 7) (hF : FRT G M len C D) (hR : RST (4 * f + j) K a f C D) :
    ∃ (ok : Bool) (a' : Nat) (C' D' : Nat → Nat → Int32), (∀ k, f_X9_parseShape_J64 TC N 360 (363 + f) (nI j) k (C, rfC q) = if ok = true then k (nI (j + 1)) (C', rfC q) else some (0, (C', rfC q))) ∧ (∀ k, f_X12_readsShape_J97 TM N 0 (nI j) k (D, rfM) = if ok = true then k (nI (j + 1)) (D', rfM) else some (0, (D', rfM))) ∧
      a ≤ a' ∧ a' ≤ len ∧ C' 360 4 = nI a' ∧ D' 0 19 = nI a' ∧ FRT G M len C' D' ∧ (ok = true → a < a' ∧ RST (4 * f + j + 1) K a' f C' D') := by
  obtain ⟨x0, x1, x2⟩ := hX
  obtain ⟨f1, f2, f3, f4⟩ := id hF
  obtain ⟨r1, r2, r3, r4, r5, r6, r7⟩ := hR
  obtain ⟨E, e1, e2, e3, e4⟩ := e_parseNumber (q := q) (N := N) (c := G 361) hN x0 f2 (fun i _ => f3 i) r1 hal
  obtain ⟨D', d1, d2, d3, d4, d5⟩ := m_reads (N := N) (c := G 361) (j := j) hN x0 ((f4 _ _ (by omega) (by omega) (by omega)).trans x1) (fun i hi => (f4 _ _ (by omega) (by omega) (by omega)).trans (x2 i hi)) r2 hal r4 (by omega) hj
  obtain ⟨b1, b2, b3⟩ := ne_b (c := G 361) hal
  by_cases hk : 0 < nkF (G 361) len a
  · obtain ⟨C', c1, c2, c3, c4⟩ := e_takeNumber (q := q) (N := N) (C := E) (a := a) hf hj
    refine ⟨true, neF (G 361) len a, C', D', fun k => ?_, fun k => ?_, b1, b2, ?_, d2, ⟨fun a j h => ?_, ?_, fun i => ?_, fun a j h h1 h2 => ?_⟩, fun _ => ⟨b3 hk, ?_, d2, ?_, ?_, fun t ht => ?_, fun k hk2 => ?_, ?_⟩⟩
    · unfold f_X9_parseShape_J64
      rw [gI_of TC_360, r1, Option.bind_some, e1, zb2_some, decide_eq_true hk, if_pos (by decide), c1, Option.bind_some, zn_eq, nI_1, if_pos rfl]
    · unfold f_X12_readsShape_J97
      rw [d1, zb2_some, decide_eq_true hk, if_pos (by decide), zn_eq, nI_1, if_pos rfl]
    · rw [c4 _ _ (by omega) (by omega), e2]
    · rw [c4 _ _ (by omega) (by omega), e4 _ _ (by omega), f1 _ _ h]
    · rw [c4 _ _ (by omega) (by omega), e4 _ _ (by omega), f2]
    · rw [c4 _ _ (by omega) (by omega), e4 _ _ (by omega), f3]
    · rw [d5 _ _ (by omega) (by omega), f4 _ _ h h1 h2]
    · rw [c4 _ _ (by omega) (by omega), e2]
    · rw [c4 _ _ (by omega) (by omega), e4 _ _ (by omega), r3]
    · rw [d5 _ _ (by omega) (by omega), r4]
    · by_cases e : t = 4 * f + j
      · rw [e, show (4 * f + j) / 4 = f by omega, show (4 * f + j) % 4 = j by omega, c2, d3, e3]
      · rw [c4 _ _ (by omega) (by omega), e4 _ _ (by omega), d5 _ _ (by omega) (by omega), r5 t (by omega)]
    · rw [c4 _ _ (by omega) (by omega), e4 _ _ (by omega), d5 _ _ (by omega) (by omega)]
      exact r6 k hk2
    · rw [e3, e4 _ _ (by omega)] at c3
      rcases r7 with ⟨s1, s2, s3⟩ | ⟨b, s1, s2, s3⟩
      · rw [s1] at c3
        rw [s2, if_neg (by decide)] at d4
        rcases okn01 (j := j) (v := nvF (G 361) len a) with h | h
        · rw [if_neg (fun n => n h), if_pos rfl] at c3
          rw [if_neg (fun n => n h)] at d4
          exact Or.inr ⟨a, by omega, c3, d4⟩
        · have h0 : ¬ okn j (nvF (G 361) len a) = 0 := by rw [h]; decide
          rw [if_pos h0] at c3 d4
          refine Or.inl ⟨c3, d4, fun t ht => ?_⟩
          by_cases e : t = 4 * f + j
          · rw [e, show (4 * f + j) % 4 = j by omega, d3]
            exact h
          · rw [d5 _ _ (by omega) (by omega)]
            exact s3 t (by omega)
      · rw [s2, if_neg (nI_nNN s1)] at c3
        rw [s3, if_pos (nI_pos' s1)] at d4
        refine Or.inr ⟨b, s1, ?_, d4⟩
        rw [c3]
        by_cases h : okn j (nvF (G 361) len a) = 0
        · rw [if_neg (fun n => n h)]
        · rw [if_pos h]
  · refine ⟨false, neF (G 361) len a, E, D', fun k => ?_, fun k => ?_, b1, b2, e2, d2, ⟨fun a j h => ?_, ?_, fun i => ?_, fun a j h h1 h2 => ?_⟩, fun h => by cases h⟩
    · unfold f_X9_parseShape_J64
      rw [gI_of TC_360, r1, Option.bind_some, e1, zb2_some, decide_eq_false hk, if_neg (by decide), if_neg (by decide)]
      rfl
    · unfold f_X12_readsShape_J97
      rw [d1, zb2_some, decide_eq_false hk, if_neg (by decide), if_neg (by decide)]
      rfl
    · rw [e4 _ _ (by omega), f1 _ _ h]
    · rw [e4 _ _ (by omega), f2]
    · rw [e4 _ _ (by omega), f3]
    · rw [d5 _ _ (by omega) (by omega), f4 _ _ h h1 h2]
/-- a step in the text -/
theorem step_a (hF : FRT G M len C D) (hR : RST T K a f C D) : FRT G M len (zu C 360 4 (nI (a + 1))) (zu D 0 19 (nI (a + 1))) ∧ RST T K (a + 1) f (zu C 360 4 (nI (a + 1))) (zu D 0 19 (nI (a + 1))) := by
  obtain ⟨f1, f2, f3, f4⟩ := hF
  obtain ⟨r1, r2, r3, r4, r5, r6, r7⟩ := hR
  refine ⟨⟨fun a j h => (zu_ne (fun e => by omega)).trans (f1 a j h), (zu_ne (fun _ => by decide)).trans f2, fun i => (zu_ne (fun e => absurd e (by decide))).trans (f3 i), fun a j h h1 h2 => (zu_ne (fun e => by omega)).trans (f4 a j h h1 h2)⟩, zu_same, zu_same, (zu_ne (fun _ => by decide)).trans r3, (zu_ne (fun _ => by decide)).trans r4, fun t ht => ?_, fun k hk => ?_, ?_⟩
  · rw [zu_ne (fun e => by omega), zu_ne (fun e => by omega)]
    exact r5 t ht
  · rw [zu_ne (fun e => by omega), zu_ne (fun e => by omega)]
    exact r6 k hk
  · unfold MFR
    rw [zu_ne (fun _ => by decide), zu_ne (fun _ => by decide)]
    rcases r7 with ⟨s1, s2, s3⟩ | h
    · exact Or.inl ⟨s1, s2, fun t ht => by rw [zu_ne (fun e => by omega)]; exact s3 t ht⟩
    · exact Or.inr h
theorem four_both (hN : 20 < N) (hX : TXT G M len) (hf : f < 7) (hK : K ≤ 7) : ∀ (d j : Nat), j + d = 4 → ∀ (n1 n2 : Nat), d < n1 → d < n2 → ∀ (a : Nat) (C D : Nat → Nat → Int32), a ≤ len → FRT G M len C D → RST (4 * f + j) K a f C D →
    ∃ (ok : Bool) (a' : Nat) (C' D' : Nat → Nat → Int32), zl2 (f_X9_parseShape_L34 TC N 360 (363 + f)) n1 (nI j) (C, rfC q) = some (bI ok, (C', rfC q)) ∧ zl2 (f_X12_readsShape_L67 TM N 0) n2 (nI j) (D, rfM) = some (bI ok, (D', rfM)) ∧
      a ≤ a' ∧ a' ≤ len ∧ C' 360 4 = nI a' ∧ D' 0 19 = nI a' ∧ FRT G M len C' D' ∧ (ok = true → a + d + (if j = 0 then d - 1 else d) ≤ a' ∧ RST (4 * f + 4) K a' f C' D') := by
  intro d
  induction d with
  | zero =>
    intro j hj n1 n2 hn1 hn2 a C D ha hF hR
    have hj : j = 4 := by omega
    subst hj
    obtain ⟨n1, rfl⟩ : ∃ r, n1 = r + 1 := ⟨n1 - 1, by omega⟩
    obtain ⟨n2, rfl⟩ : ∃ r, n2 = r + 1 := ⟨n2 - 1, by omega⟩
    refine ⟨true, a, C, D, ?_, ?_, Nat.le_refl a, ha, hR.1, hR.2.1, hF, fun _ => ⟨by rw [if_neg (by decide)]; omega, hR⟩⟩
    · rw [zl2]
      unfold f_X9_parseShape_L34
      rw [if_pos (by decide)]
      rfl
    · rw [zl2]
      unfold f_X12_readsShape_L67
      rw [if_pos (by decide)]
      rfl
  | succ d ih =>
    intro j hj n1 n2 hn1 hn2 a C D ha hF hR
    obtain ⟨n1, rfl⟩ : ∃ r, n1 = r + 1 := ⟨n1 - 1, by omega⟩
    obtain ⟨n2, rfl⟩ : ∃ r, n2 = r + 1 := ⟨n2 - 1, by omega⟩
    have h4 : ¬ (4 : Int32) ≤ nI j := nI_ge (b := 4) (by omega) (by decide)
    -- after the comma
    have key : ∀ (a : Nat) (C D : Nat → Nat → Int32), a ≤ len → FRT G M len C D → RST (4 * f + j) K a f C D → ∃ (ok : Bool) (a' : Nat) (C' D' : Nat → Nat → Int32), f_X9_parseShape_J64 TC N 360 (363 + f) (nI j) (zl2 (f_X9_parseShape_L34 TC N 360 (363 + f)) n1) (C, rfC q) = some (bI ok, (C', rfC q)) ∧ f_X12_readsShape_J97 TM N 0 (nI j) (zl2 (f_X12_readsShape_L67 TM N 0) n2) (D, rfM) = some (bI ok, (D', rfM)) ∧
      a ≤ a' ∧ a' ≤ len ∧ C' 360 4 = nI a' ∧ D' 0 19 = nI a' ∧ FRT G M len C' D' ∧ (ok = true → a + 1 + d + d ≤ a' ∧ RST (4 * f + 4) K a' f C' D') := by
      intro a C D ha hF hR
      obtain ⟨ok, a1, C1, D1, k1, k2, k3, k4, k5, k6, k7, k8⟩ := num_both (q := q) hN hX ha hf (show j < 4 by omega) hK hF hR
      cases ok
      · exact ⟨false, a1, C1, D1, by rw [k1, if_neg (by decide)]; rfl, by rw [k2, if_neg (by decide)]; rfl, k3, k4, k5, k6, k7, fun h => by cases h⟩
      · obtain ⟨m1, m2⟩ := k8 rfl
        obtain ⟨ok2, a2, C2, D2, l1, l2, l3, l4, l5, l6, l7, l8⟩ := ih (j + 1) (by omega) n1 n2 (by omega) (by omega) a1 C1 D1 k4 k7 m2
        refine ⟨ok2, a2, C2, D2, by rw [k1, if_pos rfl]; exact l1, by rw [k2, if_pos rfl]; exact l2, by omega, l4, l5, l6, l7, fun h => ⟨?_, (l8 h).2⟩⟩
        have := (l8 h).1
        rw [if_neg (by omega)] at this
        omega
    by_cases hj0 : j = 0
    · subst hj0
      obtain ⟨ok, a1, C1, D1, k1, k2, k3, k4, k5, k6, k7, k8⟩ := key a C D ha hF hR
      refine ⟨ok, a1, C1, D1, ?_, ?_, k3, k4, k5, k6, k7, fun h => ⟨by rw [if_pos rfl]; have := (k8 h).1; omega, (k8 h).2⟩⟩
      · rw [zl2, ← k1]
        conv => lhs; unfold f_X9_parseShape_L34
        rw [if_neg h4, if_pos (show nI 0 ≤ 0 by decide)]
        rfl
      · rw [zl2, ← k2]
        conv => lhs; unfold f_X12_readsShape_L67
        rw [if_neg h4, if_pos (show nI 0 ≤ 0 by decide)]
        rfl
    · have hj1 : ¬ nI j ≤ 0 := nI_nle (by omega) (by omega)
      have hcd := cd_eq (c := G 361) (len := len) (a := a) (x := 44) (by decide) (by decide)
      have ec : f_X9_code TC N (C, rfC q) 360 = some (cdC (G 361) len a, (C, rfC q)) := e_code hX.1 hF.2.1 (fun i _ => hF.2.2.1 i) hR.1 ha
      have em : f_X12_sign TM N (D, rfM) 0 = some (cdM (G 361) len a, (D, rfM)) := m_sign hX.1 ((hF.2.2.2 _ _ (by omega) (by omega) (by omega)).trans hX.2.1) (fun i hi => (hF.2.2.2 _ _ (by omega) (by omega) (by omega)).trans (hX.2.2 i hi)) hR.2.1 ha
      have hc : ∀ k, f_X9_parseShape_L34 TC N 360 (363 + f) k (nI j) (C, rfC q) = if cdC (G 361) len a = 44 then f_X9_parseShape_J64 TC N 360 (363 + f) (nI j) k (zu C 360 4 (nI (a + 1)), rfC q) else some (0, (C, rfC q)) := fun k => by
        unfold f_X9_parseShape_L34
        rw [if_neg h4, if_neg hj1, ec, zb2_some, gI_of TC_360, hR.1, Option.bind_some, nI_1, pI_of TC_360, Option.bind_some]
        rfl
      have hr : ∀ k, f_X12_readsShape_L67 TM N 0 k (nI j) (D, rfM) = if cdM (G 361) len a = 44 then f_X12_readsShape_J97 TM N 0 (nI j) k (zu D 0 19 (nI (a + 1)), rfM) else some (0, (D, rfM)) := fun k => by
        unfold f_X12_readsShape_L67
        rw [if_neg h4, if_neg hj1, em, zb2_some, gI_of TM_0, hR.2.1, Option.bind_some, nI_1, pI_of TM_0, Option.bind_some]
        rfl
      by_cases h44 : a < len ∧ G 361 a = 44
      · obtain ⟨s1, s2⟩ := step_a hF hR
        obtain ⟨ok, a1, C1, D1, k1, k2, k3, k4, k5, k6, k7, k8⟩ := key (a + 1) _ _ (by omega) s1 s2
        refine ⟨ok, a1, C1, D1, ?_, ?_, by omega, k4, k5, k6, k7, fun h => ⟨by rw [if_neg hj0]; have := (k8 h).1; omega, (k8 h).2⟩⟩
        · rw [zl2, ← k1]
          exact (hc _).trans (if_pos (hcd.1.mpr h44))
        · rw [zl2, ← k2]
          exact (hr _).trans (if_pos (hcd.2.mpr h44))
      · refine ⟨false, a, C, D, ?_, ?_, Nat.le_refl a, ha, hR.1, hR.2.1, hF, fun h => by cases h⟩
        · rw [zl2]
          exact (hc _).trans (if_neg (fun h => h44 (hcd.1.mp h)))
        · rw [zl2]
          exact (hr _).trans (if_neg (fun h => h44 (hcd.2.mp h)))
end SHB
