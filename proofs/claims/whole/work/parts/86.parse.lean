/-! read: the whole text on both sides -/
def kdF (x : Int32) : Int32 := if x = 98 then 0 else if x = 101 then 1 else if x = 100 then 2 else -1000000
section PRS
variable {G M C D : Nat → Nat → Int32} {q : Nat → Option Nat} {N : Nat} {c : Nat → Int32} {len a i j k f T K : Nat} {x z v : Int32}
theorem e_kindOf {σ : zS} : f_X9_kindOf TC N σ x = some (kdF x, σ) := by
  unfold f_X9_kindOf kdF
  by_cases h1 : x = 98
  · rw [h1, if_neg (by decide), if_pos rfl, if_pos rfl]
  by_cases h2 : x = 101
  · rw [h2, if_neg (by decide), if_neg (by decide), if_neg (by decide), if_neg (by decide), if_pos rfl, if_neg (by decide), if_pos rfl]
  by_cases h3 : x = 100
  · rw [h3, if_neg (by decide), if_neg (by decide), if_neg (by decide), if_pos rfl, if_neg (by decide), if_neg (by decide), if_pos rfl]
  rw [if_neg h1, if_neg h1, if_neg h2, if_neg h2, if_neg h3, if_neg h3]
  by_cases h4 : x < 98 ∨ 101 < x
  · rw [if_pos h4]
  · have h5 : x = 99 := by
      rw [fa_eq] at h1 h2 h3 ⊢
      rw [fa_lt, fa_lt] at h4
      have e1 : (98 : Int32).toInt = 98 := by decide
      have e2 : (101 : Int32).toInt = 101 := by decide
      have e3 : (100 : Int32).toInt = 100 := by decide
      have e4 : (99 : Int32).toInt = 99 := by decide
      omega
    rw [if_neg h4, if_pos h5]
theorem shape_both (hN : 20 < N) (hX : TXT G M len) (hf : f < 7) (ha : a ≤ len) (hF : FRT G M len C D) (hR : RST (4 * f) f a f C D) :
    ∃ (ok : Bool) (a' : Nat) (C' D' : Nat → Nat → Int32), f_X9_parseShape TC N (C, rfC q) 360 (363 + f) = some (bI ok, (C', rfC q)) ∧ f_X12_readsShape TM N (D, rfM) 0 = some (bI ok, (D', rfM)) ∧
      a ≤ a' ∧ a' ≤ len ∧ C' 360 4 = nI a' ∧ D' 0 19 = nI a' ∧ FRT G M len C' D' ∧ (ok = true → a + 8 ≤ a' ∧ RST (4 * f + 4) (f + 1) a' f C' D') := by
  have ec : f_X9_code TC N (C, rfC q) 360 = some (cdC (G 361) len a, (C, rfC q)) := e_code hX.1 hF.2.1 (fun i _ => hF.2.2.1 i) hR.1 ha
  have em : f_X12_sign TM N (D, rfM) 0 = some (cdM (G 361) len a, (D, rfM)) := m_sign hX.1 ((hF.2.2.2 _ _ (by omega) (by omega) (by omega)).trans hX.2.1) (fun i hi => (hF.2.2.2 _ _ (by omega) (by omega) (by omega)).trans (hX.2.2 i hi)) hR.2.1 ha
  obtain ⟨f1, f2, f3, f4⟩ := id hF
  obtain ⟨r1, r2, r3, r4, r5, r6, r7⟩ := id hR
  have hcl : ∀ y, kdF (cdC (G 361) len a) = y → f_X9_parseShape TC N (C, rfC q) 360 (363 + f) = if ¬ y = -1000000 then zl2 (f_X9_parseShape_L34 TC N 360 (363 + f)) N (0 : Int32) (zu (zu C (363 + f) 1 y) 360 4 (nI (a + 1)), rfC q) else some (0, (zu C (363 + f) 1 y, rfC q)) := fun y hy => by
    unfold f_X9_parseShape
    rw [zz1_of TC_360, ec, zb2_some, e_kindOf, zb2_some, hy, pI_of (TC_f hf), Option.bind_some, gI_of (TC_f hf), zu_same, Option.bind_some, gI_of TC_360, zu_ne (fun e => by omega), r1, Option.bind_some, nI_1, pI_of TC_360, Option.bind_some]
    rfl
  by_cases hk : a < len ∧ (G 361 a = 98 ∨ G 361 a = 101 ∨ G 361 a = 100)
  · obtain ⟨ha2, hk⟩ := hk
    have e1 : cdC (G 361) len a = G 361 a := if_pos ha2
    have e2 : cdM (G 361) len a = G 361 a := if_pos ha2
    have e3 : kdF (G 361 a) = 0 ∨ kdF (G 361 a) = 1 ∨ kdF (G 361 a) = 2 := by
      rcases hk with h | h | h
      · rw [h]; exact Or.inl (by decide)
      · rw [h]; exact Or.inr (Or.inl (by decide))
      · rw [h]; exact Or.inr (Or.inr (by decide))
    have e4 : ¬ kdF (G 361 a) = -1000000 := by
      rcases e3 with h | h | h
      · rw [h]; decide
      · rw [h]; decide
      · rw [h]; decide
    have hrf : f_X12_readsShape TM N (D, rfM) 0 = zl2 (f_X12_readsShape_L67 TM N 0) N (0 : Int32) (zu (zu D 14 f (kdF (G 361 a))) 0 19 (nI (a + 1)), rfM) := by
      have hJ : ∀ y, f_X12_readsShape_J54 TM N 0 (D, rfM) 14 (nI f) y = zl2 (f_X12_readsShape_L67 TM N 0) N (0 : Int32) (zu (zu D 14 f y) 0 19 (nI (a + 1)), rfM) := fun y => by
        unfold f_X12_readsShape_J54
        rw [sI_of TM_14 ML_14 (show f < 20 by omega) (by decide), Option.bind_some, gI_of TM_0, zu_ne (fun e => by omega), r2, Option.bind_some, nI_1, pI_of TM_0, Option.bind_some]
      unfold f_X12_readsShape
      rw [zz1_of TM_0, em, zb2_some, e2]
      unfold f_X12_readsShape_J25
      rw [gm22, Option.bind_some, gI_of TM_0, r4, Option.bind_some]
      rcases hk with h | h | h
      · rw [h, if_pos rfl, if_neg (by decide), hJ]
        rfl
      · rw [h, if_neg (by decide), if_pos rfl, if_pos (by decide), if_neg (by decide), hJ]
        rfl
      · rw [h, if_neg (by decide), if_neg (by decide), if_pos rfl, if_pos (by decide), if_pos (by decide), hJ]
        rfl
    have hF2 : FRT G M len (zu C (363 + f) 1 (kdF (G 361 a))) (zu D 14 f (kdF (G 361 a))) := ⟨fun a j h => (zu_ne (fun e => by omega)).trans (f1 a j h), (zu_ne (fun e => by omega)).trans f2, fun i => (zu_ne (fun e => by omega)).trans (f3 i), fun a j h h1 h2 => (zu_ne (fun e => absurd e h1)).trans (f4 a j h h1 h2)⟩
    have hR2 : RST (4 * f) (f + 1) a f (zu C (363 + f) 1 (kdF (G 361 a))) (zu D 14 f (kdF (G 361 a))) := by
      refine ⟨(zu_ne (fun e => by omega)).trans r1, (zu_ne (fun e => by omega)).trans r2, (zu_ne (fun e => by omega)).trans r3, (zu_ne (fun e => by omega)).trans r4, fun t ht => ?_, fun k hk => ?_, ?_⟩
      · rw [zu_ne (fun e => by omega), zu_ne (fun e => by omega)]
        exact r5 t ht
      · by_cases e : k = f
        · rw [e, zu_same, zu_same]
          exact ⟨rfl, e3⟩
        · rw [zu_ne (fun e => by omega), zu_ne (fun _ => e)]
          exact r6 k (by omega)
      · unfold MFR
        rw [zu_ne (fun e => by omega), zu_ne (fun e => by omega)]
        rcases r7 with ⟨s1, s2, s3⟩ | h
        · exact Or.inl ⟨s1, s2, fun t ht => by rw [zu_ne (fun e => by omega)]; exact s3 t ht⟩
        · exact Or.inr h
    obtain ⟨hF3, hR3⟩ := step_a hF2 hR2
    obtain ⟨ok, a', C', D', k1, k2, k3, k4, k5, k6, k7, k8⟩ := four_both (q := q) hN hX hf (show f + 1 ≤ 7 by omega) 4 0 rfl N N (by omega) (by omega) (a + 1) _ _ (by omega) hF3 hR3
    refine ⟨ok, a', C', D', ?_, ?_, by omega, k4, k5, k6, k7, fun h => ⟨?_, (k8 h).2⟩⟩
    · rw [hcl _ rfl, e1, if_pos e4]
      exact k1
    · rw [hrf]
      exact k2
    · have := (k8 h).1
      rw [if_pos rfl] at this
      omega
  · have n98 := cd_eq (c := G 361) (len := len) (a := a) (x := 98) (by decide) (by decide)
    have n101 := cd_eq (c := G 361) (len := len) (a := a) (x := 101) (by decide) (by decide)
    have n100 := cd_eq (c := G 361) (len := len) (a := a) (x := 100) (by decide) (by decide)
    have e1 : kdF (cdC (G 361) len a) = -1000000 := by
      unfold kdF
      rw [if_neg (fun h => hk ⟨(n98.1.mp h).1, Or.inl (n98.1.mp h).2⟩), if_neg (fun h => hk ⟨(n101.1.mp h).1, Or.inr (Or.inl (n101.1.mp h).2)⟩), if_neg (fun h => hk ⟨(n100.1.mp h).1, Or.inr (Or.inr (n100.1.mp h).2)⟩)]
    refine ⟨false, a, zu C (363 + f) 1 (-1000000), D, ?_, ?_, Nat.le_refl a, ha, (zu_ne (fun e => by omega)).trans r1, r2, ⟨fun a j h => (zu_ne (fun e => by omega)).trans (f1 a j h), (zu_ne (fun e => by omega)).trans f2, fun i => (zu_ne (fun e => by omega)).trans (f3 i), f4⟩, fun h => by cases h⟩
    · rw [hcl _ e1, if_neg (fun n => n rfl)]
      rfl
    · unfold f_X12_readsShape
      rw [zz1_of TM_0, em, zb2_some, if_neg (fun h => hk ⟨(n98.2.mp h).1, Or.inl (n98.2.mp h).2⟩), if_neg (fun h => hk ⟨(n101.2.mp h).1, Or.inr (Or.inl (n101.2.mp h).2)⟩), if_neg (fun h => hk ⟨(n100.2.mp h).1, Or.inr (Or.inr (n100.2.mp h).2)⟩)]
      rfl
/-- what both sides have read -/
def RDY (C D : Nat → Nat → Int32) (f : Nat) : Prop := f ≤ 7 ∧ C 360 3 = nI f ∧ D 0 20 = nI f ∧ (∀ t, t < 4 * f → C (363 + t / 4) (2 + t % 4) = D 15 t ∧ okn (t % 4) (D 15 t) = 1) ∧ ∀ k, k < f → C (363 + k) 1 = D 14 k ∧ (D 14 k = 0 ∨ D 14 k = 1 ∨ D 14 k = 2)
theorem text_both (hN : 20 < N) (hX : TXT G M len) : ∀ (d f : Nat), f + d = 7 → ∀ (n1 n2 : Nat), d < n1 → d + 1 < n2 → ∀ (a : Nat) (C D : Nat → Nat → Int32), 9 * f ≤ a → a ≤ len → FRT G M len C D → RST (4 * f) f a f C D →
    ∃ (rc rm : Int32) (C' D' : Nat → Nat → Int32), zl2 (f_X9_parse_L18 TC N 360) n1 (nI f) (C, rfC q) = some (rc, (C', rfC q)) ∧ zl2 (f_X12_wrongAt_L17 TM N 0) n2 (1 : Int32) (D, rfM) = some (rm, (D', rfM)) ∧ FRT G M len C' D' ∧
      ((∃ b, b < 2 ^ 31 ∧ rc = nI b ∧ rm = nI b) ∨ (rc = -1000000 ∧ rm = -1 ∧ ∃ f', RDY C' D' f')) := by
  have hl := hX.1
  intro d
  induction d with
  | zero => intro f hf n1 n2 hn1 hn2 a C D h1 h2; omega
  | succ d ih =>
    intro f hf n1 n2 hn1 hn2 a C D h9 ha hF hR
    obtain ⟨n1, rfl⟩ : ∃ r, n1 = r + 1 := ⟨n1 - 1, by omega⟩
    obtain ⟨n2, rfl⟩ : ∃ r, n2 = r + 1 + 1 := ⟨n2 - 2, by omega⟩
    obtain ⟨ok, a', C', D', k1, k2, k3, k4, k5, k6, k7, k8⟩ := shape_both (q := q) hN hX (show f < 7 by omega) ha hF hR
    have hc : ∀ k, f_X9_parse_L18 TC N 360 k (nI f) (C, rfC q) = if ¬ bI ok = 0 then ((gI TC (C', rfC q) 360 9 3).bind fun x15 => (pI TC (C', rfC q) 360 9 3 (x15 + (1 : Int32))).bind fun s16 => (gI TC s16 360 9 4).bind fun x17 => (gI TC s16 360 9 2).bind fun x18 => if x17 < x18 then (zb2 (f_X9_code TC N s16 360) fun x20 s19 => if x20 = (59 : Int32) then ((gI TC s19 360 9 4).bind fun x21 => (pI TC s19 360 9 4 (x21 + (1 : Int32))).bind fun s22 => zn (nI f + (1 : Int32)) fun x23 => k x23 s22) else ((gI TC s19 360 9 4).bind fun x24 => some (x24, s19))) else ((gI TC s16 360 9 6).bind fun x25 => some (x25, s16))) else some (nI a', (C', rfC q)) := fun k => by
      unfold f_X9_parse_L18
      rw [gR_of TC_360, rf_360_1, Option.bind_some, aL_of TC_362, TL_362, Option.bind_some, if_neg (nI_ge (show f < 7 by omega) (by decide)), Option.bind_some, aR_of TC_362 TL_362 (show f < 7 by omega) (by decide), rf_362 (show f < 7 by omega), Option.bind_some, k1, zb2_some]
      by_cases h : bI ok = 0
      · rw [if_neg (fun n => n h), if_neg (fun n => n h), gI_of TC_360, k5, Option.bind_some]
      · rw [if_pos h, if_pos h]
    have hr : ∀ k, f_X12_wrongAt_L17 TM N 0 k (1 : Int32) (D, rfM) = if ¬ bI ok = 0 then ((gI TM (D', rfM) 0 12 20).bind fun x14 => (pI TM (D', rfM) 0 12 20 (x14 + (1 : Int32))).bind fun s15 => zb2 (f_X12_sign TM N s15 0) fun x17 s16 => if ¬ x17 = (59 : Int32) then f_X12_wrongAt_J57 TM N 0 k s16 (0 : Int32) else f_X12_wrongAt_J57 TM N 0 k s16 (1 : Int32)) else some (nI a', (D', rfM)) := fun k => by
      unfold f_X12_wrongAt_L17
      rw [if_neg (by decide), k2, zb2_some]
      by_cases h : bI ok = 0
      · rw [if_neg (fun n => n h), if_neg (fun n => n h), gI_of TM_0, k6, Option.bind_some]
      · rw [if_pos h, if_pos h]
    rw [zl2, zl2]
    cases ok
    · exact ⟨nI a', nI a', C', D', (hc _).trans (if_neg (by decide)), (hr _).trans (if_neg (by decide)), k7, Or.inl ⟨a', by omega, rfl, rfl⟩⟩
    · obtain ⟨m1, m2⟩ := k8 rfl
      obtain ⟨f1, f2, f3, f4⟩ := id k7
      obtain ⟨r1, r2, r3, r4, r5, r6, r7⟩ := id m2
      have hF2 : FRT G M len (zu C' 360 3 (nI (f + 1))) (zu D' 0 20 (nI (f + 1))) := ⟨fun a j h => (zu_ne (fun e => by omega)).trans (f1 a j h), (zu_ne (fun e => by omega)).trans f2, fun i => (zu_ne (fun e => by omega)).trans (f3 i), fun a j h h1 h2 => (zu_ne (fun e => by omega)).trans (f4 a j h h1 h2)⟩
      have hR2 : RST (4 * (f + 1)) (f + 1) a' (f + 1) (zu C' 360 3 (nI (f + 1))) (zu D' 0 20 (nI (f + 1))) := by
        refine ⟨(zu_ne (fun e => by omega)).trans r1, (zu_ne (fun e => by omega)).trans r2, zu_same, zu_same, fun t ht => ?_, fun k hk => ?_, ?_⟩
        · rw [zu_ne (fun e => by omega), zu_ne (fun e => by omega)]
          exact r5 t (by omega)
        · rw [zu_ne (fun e => by omega), zu_ne (fun e => by omega)]
          exact r6 k hk
        · unfold MFR
          rw [zu_ne (fun e => by omega), zu_ne (fun e => by omega)]
          rcases r7 with ⟨s1, s2, s3⟩ | h
          · exact Or.inl ⟨s1, s2, fun t ht => by rw [zu_ne (fun e => by omega)]; exact s3 t (by omega)⟩
          · exact Or.inr h
      have ec : f_X9_code TC N (zu C' 360 3 (nI (f + 1)), rfC q) 360 = some (cdC (G 361) len a', (zu C' 360 3 (nI (f + 1)), rfC q)) := e_code hX.1 hF2.2.1 (fun i _ => hF2.2.2.1 i) hR2.1 k4
      have em : f_X12_sign TM N (zu D' 0 20 (nI (f + 1)), rfM) 0 = some (cdM (G 361) len a', (zu D' 0 20 (nI (f + 1)), rfM)) := m_sign hX.1 ((hF2.2.2.2 _ _ (by omega) (by omega) (by omega)).trans hX.2.1) (fun i hi => (hF2.2.2.2 _ _ (by omega) (by omega) (by omega)).trans (hX.2.2 i hi)) hR2.2.1 k4
      have n59 := cd_eq (c := G 361) (len := len) (a := a') (x := 59) (by decide) (by decide)
      have hz0 : zu (zu D' 0 20 (nI (f + 1))) 0 19 (nI a') = zu D' 0 20 (nI (f + 1)) := by
        funext b i
        rw [zu_at]
        by_cases h : b = 0 ∧ i = 19
        · rw [if_pos h, h.1, h.2]
          exact hR2.2.1.symm
        · rw [if_neg h]
      have hc2 : ∀ k, f_X9_parse_L18 TC N 360 k (nI f) (C, rfC q) = if a' < len then (if cdC (G 361) len a' = 59 then k (nI (f + 1)) (zu (zu C' 360 3 (nI (f + 1))) 360 4 (nI (a' + 1)), rfC q) else some (nI a', (zu C' 360 3 (nI (f + 1)), rfC q))) else some (C' 360 6, (zu C' 360 3 (nI (f + 1)), rfC q)) := fun k => by
        rw [hc k, if_pos (by decide), gI_of TC_360, r3, Option.bind_some, nI_1, pI_of TC_360, Option.bind_some, gI_of TC_360, hR2.1, Option.bind_some, gI_of TC_360, hF2.2.1, Option.bind_some]
        by_cases h : a' < len
        · rw [if_pos (nI_lt h (by omega)), if_pos h, ec, zb2_some]
          by_cases h2 : cdC (G 361) len a' = 59
          · rw [if_pos h2, if_pos h2, gI_of TC_360, hR2.1, Option.bind_some, nI_1, pI_of TC_360, Option.bind_some, zn_eq]
          · rw [if_neg h2, if_neg h2, gI_of TC_360, hR2.1, Option.bind_some]
        · rw [if_neg (nI_nlt (by omega) (by omega)), if_neg h, gI_of TC_360, zu_ne (fun e => by omega), Option.bind_some]
      have hr2 : ∀ k, f_X12_wrongAt_L17 TM N 0 k (1 : Int32) (D, rfM) = if cdM (G 361) len a' = 59 then k 1 (zu (zu D' 0 20 (nI (f + 1))) 0 19 (nI (a' + 1)), rfM) else k 0 (zu D' 0 20 (nI (f + 1)), rfM) := fun k => by
        rw [hr k, if_pos (by decide), gI_of TM_0, r4, Option.bind_some, nI_1, pI_of TM_0, Option.bind_some, em, zb2_some]
        unfold f_X12_wrongAt_J57
        by_cases h2 : cdM (G 361) len a' = 59
        · rw [if_neg (fun n => n h2), if_pos h2, gI_of TM_0, hR2.2.1, Option.bind_some, if_neg (by decide), nI_1, pI_of TM_0, Option.bind_some]
        · rw [if_pos h2, if_neg h2, gI_of TM_0, hR2.2.1, Option.bind_some, if_pos rfl, Int32.add_zero, pI_of TM_0, Option.bind_some, hz0]
      have hend : zl2 (f_X12_wrongAt_L17 TM N 0) (n2 + 1) (0 : Int32) (zu D' 0 20 (nI (f + 1)), rfM) = if a' < len then some (nI a', (zu D' 0 20 (nI (f + 1)), rfM)) else some (D' 0 21, (zu D' 0 20 (nI (f + 1)), rfM)) := by
        rw [zl2]
        unfold f_X12_wrongAt_L17
        rw [if_pos rfl, gI_of TM_0, hR2.2.1, Option.bind_some, gI_of TM_0, (hF2.2.2.2 0 18 (by omega) (by omega) (by omega)).trans hX.2.1, Option.bind_some]
        by_cases h : a' < len
        · rw [if_neg (nI_ge h (by omega)), if_pos h, Option.bind_some]
        · rw [if_pos (nI_le (by omega) (by omega)), if_neg h, gI_of TM_0, zu_ne (fun e => by omega), Option.bind_some]
      by_cases h : a' < len
      · by_cases h2 : G 361 a' = 59
        · obtain ⟨hF3, hR3⟩ := step_a hF2 hR2
          obtain ⟨rc, rm, C2, D2, g1, g2, g3, g4⟩ := ih (f + 1) (by omega) n1 (n2 + 1) (by omega) (by omega) (a' + 1) _ _ (by omega) (by omega) hF3 hR3
          refine ⟨rc, rm, C2, D2, ?_, ?_, g3, g4⟩
          · rw [hc2, if_pos h, if_pos (n59.1.mpr ⟨h, h2⟩)]
            exact g1
          · rw [hr2, if_pos (n59.2.mpr ⟨h, h2⟩)]
            exact g2
        · refine ⟨nI a', nI a', _, _, ?_, ?_, hF2, Or.inl ⟨a', by omega, rfl, rfl⟩⟩
          · rw [hc2, if_pos h, if_neg (fun e => h2 (n59.1.mp e).2)]
          · rw [hr2, if_neg (fun e => h2 (n59.2.mp e).2)]
            exact hend.trans (if_pos h)
      · refine ⟨C' 360 6, D' 0 21, _, _, ?_, ?_, hF2, ?_⟩
        · rw [hc2, if_neg h]
        · rw [hr2, if_neg (fun e => h (n59.2.mp e).1)]
          exact hend.trans (if_neg h)
        · rcases r7 with ⟨s1, s2, s3⟩ | h3
          · refine Or.inr ⟨s1, s2, f + 1, by omega, zu_same, zu_same, fun t ht => ?_, fun k hk => hR2.2.2.2.2.2.1 k hk⟩
            refine ⟨hR2.2.2.2.2.1 t ht, ?_⟩
            rw [zu_ne (fun e => by omega)]
            exact s3 t (by omega)
          · exact Or.inl h3
theorem parse_both (hN : 20 < N) (hX : TXT G M len) (hG : G 360 2 = nI len) : ∃ (rc rm : Int32) (C' D' : Nat → Nat → Int32), f_X9_parse TC N (G, rfC q) 360 = some (rc, (C', rfC q)) ∧ f_X12_wrongAt TM N (M, rfM) 0 = some (rm, (D', rfM)) ∧ FRT G M len C' D' ∧
      ((∃ b, b < 2 ^ 31 ∧ rc = nI b ∧ rm = nI b) ∨ (rc = -1000000 ∧ rm = -1 ∧ ∃ f', RDY C' D' f')) := by
  unfold f_X9_parse f_X12_wrongAt
  rw [zz1_of TC_360, pI_of TC_360, Option.bind_some, pI_of TC_360, Option.bind_some, pI_of TC_360, Option.bind_some, zz1_of TM_0, pI_of TM_0, Option.bind_some, pI_of TM_0, Option.bind_some, pI_of TM_0, Option.bind_some]
  refine text_both hN hX 7 0 rfl N N (by omega) (by omega) 0 _ _ (by omega) (by omega) ⟨fun a j h => ?_, ?_, fun i => ?_, fun a j h h1 h2 => ?_⟩ ⟨?_, ?_, ?_, ?_, fun t ht => by omega, fun k hk => by omega, Or.inl ⟨?_, ?_, fun t ht => by omega⟩⟩
  · rw [zu_ne (fun e => by omega), zu_ne (fun e => by omega), zu_ne (fun e => by omega)]
  · rw [zu_ne (fun _ => by decide), zu_ne (fun _ => by decide), zu_ne (fun _ => by decide), hG]
  · rw [zu_ne (fun e => by omega), zu_ne (fun e => by omega), zu_ne (fun e => by omega)]
  · rw [zu_ne (fun e => by omega), zu_ne (fun e => by omega), zu_ne (fun e => by omega)]
  · rw [zu_ne (fun _ => by decide), zu_ne (fun _ => by decide), zu_same]
    rfl
  · rw [zu_ne (fun _ => by decide), zu_ne (fun _ => by decide), zu_same]
    rfl
  · rw [zu_ne (fun _ => by decide), zu_same]
    rfl
  · rw [zu_ne (fun _ => by decide), zu_same]
    rfl
  · rw [zu_same]
  · rw [zu_same]
end PRS
