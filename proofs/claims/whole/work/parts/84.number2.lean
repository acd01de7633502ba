/-! read: one number on both sides -/
section NU2
variable {G M C D : Nat → Nat → Int32} {q : Nat → Option Nat} {N : Nat} {c : Nat → Int32} {len a i j k f : Nat} {x z v : Int32}
theorem gt0 (b : Nat) (hb : b < 2 ^ 31) {σ : zS} : (if nI b ≤ 0 then rZ 0 σ else rZ 1 σ) = some (bI (decide (0 < b)), σ) := by
  by_cases h : 0 < b
  · rw [if_neg (nI_nle h hb), decide_eq_true h]
    rfl
  · have : b = 0 := by omega
    subst this
    rw [if_pos (by decide), decide_eq_false h]
    rfl
theorem e_J81 (hk : k < 2 ^ 31) : f_X9_parseNumber_J81 TC N 360 x v (nI k) (C, rfC q) = some (bI (decide (0 < k)), (zu C 360 5 (if x = 0 then v else -v), rfC q)) := by
  unfold f_X9_parseNumber_J81 f_X9_parseNumber_J92
  by_cases h : x = 0
  · rw [if_pos h, if_pos h, pI_of TC_360, Option.bind_some, gt0 k hk]
  · rw [if_neg h, if_neg h, pI_of TC_360, Option.bind_some, gt0 k hk]
theorem e_parseNumber (hN : 20 < N) (h0 : len ≤ 60) (h1 : C 360 2 = nI len) (h2 : ∀ i, i < len → C 361 i = c i) (ha : C 360 4 = nI a) (hal : a ≤ len) :
    ∃ E : Nat → Nat → Int32, f_X9_parseNumber TC N (C, rfC q) 360 = some (bI (decide (0 < nkF c len a)), (E, rfC q)) ∧ E 360 4 = nI (neF c len a) ∧ E 360 5 = nvF c len a ∧ ∀ b j, ¬ (b = 360 ∧ (j = 4 ∨ j = 5)) → E b j = C b j := by
  have hcd := (cd_eq (c := c) (len := len) (a := a) (x := 45) (by decide) (by decide)).1
  unfold f_X9_parseNumber
  rw [zz1_of TC_360, e_code h0 h1 h2 ha hal, zb2_some]
  by_cases hs : sgB c len a = true
  · have hs2 := sgB_iff.mp hs
    have hb := (dk_ok (c := c) (len := len) (a := a + 1)).1
    obtain ⟨E, e1, e2, e3⟩ := e_digits (q := q) (C := zu C 360 4 (nI (a + 1))) (x := 1) (N := N) hN h0 ((zu_ne (fun _ => by decide)).trans h1) (fun i hi => (zu_ne (fun e => absurd e (by decide))).trans (h2 i hi)) zu_same (show a + 1 ≤ len by omega)
    refine ⟨zu E 360 5 (nvF c len a), ?_, ?_, zu_same, fun b j h => ?_⟩
    · rw [if_neg (fun n => n (hcd.mpr hs2))]
      unfold f_X9_parseNumber_J14 f_X9_parseNumber_J29
      rw [if_neg (by decide), gI_of TC_360, ha, Option.bind_some, nI_1, pI_of TC_360, Option.bind_some, e1, e_J81 (by omega), if_neg (by decide)]
      unfold nkF nvF
      rw [if_pos hs, if_pos hs]
    · rw [zu_ne (fun _ => by decide), e2]
      unfold neF
      rw [if_pos hs]
    · rw [zu_ne (fun e => by omega), e3 b j (by omega), zu_ne (fun e => by omega)]
  · have hb := (dk_ok (c := c) (len := len) (a := a)).1
    obtain ⟨E, e1, e2, e3⟩ := e_digits (q := q) (C := C) (x := 0) (N := N) hN h0 h1 h2 ha hal
    refine ⟨zu E 360 5 (nvF c len a), ?_, ?_, zu_same, fun b j h => ?_⟩
    · rw [if_pos (fun n => hs (sgB_iff.mpr (hcd.mp n)))]
      unfold f_X9_parseNumber_J14 f_X9_parseNumber_J29
      rw [if_pos rfl, e1, e_J81 (by omega), if_pos rfl]
      unfold nkF nvF
      rw [if_neg hs, if_neg hs]
    · rw [zu_ne (fun _ => by decide), e2]
      unfold neF
      rw [if_neg hs]
    · rw [zu_ne (fun e => by omega), e3 b j (by omega)]
theorem TC_f (hf : f < 7) : TC.1 (363 + f) = 6 := TC_dr hf
theorem e_takeNumber (hf : f < 7) (hj : j < 4) : ∃ E : Nat → Nat → Int32, f_X9_takeNumber TC N (C, rfC q) 360 (363 + f) (nI j) (nI a) = some (E, rfC q) ∧ E (363 + f) (2 + j) = C 360 5 ∧ (E 360 6 = if ¬ okn j (C 360 5) = 0 then C 360 6 else if C 360 6 = -1000000 then nI a else C 360 6) ∧ ∀ b i, ¬ (b = 363 + f ∧ i = 2 + j) → ¬ (b = 360 ∧ i = 6) → E b i = C b i := by
  have hJ43 : ∀ C : Nat → Nat → Int32, f_X9_takeNumber_J43 TC N 360 (363 + f) (nI j) (C, rfC q) = some (zu C (363 + f) (2 + j) (C 360 5), rfC q) := fun C => by
    unfold f_X9_takeNumber_J43
    have : j = 0 ∨ j = 1 ∨ j = 2 ∨ j = 3 := by omega
    rcases this with rfl | rfl | rfl | rfl
    · rw [if_neg (by decide), if_pos (by decide), gI_of TC_360, Option.bind_some, pI_of (TC_f hf), Option.bind_some]
    · rw [if_neg (by decide), if_neg (by decide), if_pos (by decide), gI_of TC_360, Option.bind_some, pI_of (TC_f hf), Option.bind_some]
    · rw [if_neg (by decide), if_neg (by decide), if_neg (by decide), if_pos (by decide), gI_of TC_360, Option.bind_some, pI_of (TC_f hf), Option.bind_some]
    · rw [if_pos (by decide), gI_of TC_360, Option.bind_some, pI_of (TC_f hf), Option.bind_some]
  have hJ22 : f_X9_takeNumber TC N (C, rfC q) 360 (363 + f) (nI j) (nI a) = f_X9_takeNumber_J22 TC N 360 (363 + f) (nI j) (nI a) (okn j (C 360 5)) (C, rfC q) := by
    unfold f_X9_takeNumber okn
    rw [zz1_of TC_360]
    by_cases h : 2 ≤ j
    · rw [if_pos (show (2 : Int32) ≤ nI j from nI_le (a := 2) h (by omega)), if_pos h, gI_of TC_360, Option.bind_some, e_isSize, zb2_some]
    · rw [if_neg (show ¬ (2 : Int32) ≤ nI j from nI_ge (b := 2) (by omega) (by decide)), if_neg h, gI_of TC_360, Option.bind_some, e_isCoordinate, zb2_some]
  rw [hJ22]
  unfold f_X9_takeNumber_J22
  by_cases h1 : okn j (C 360 5) = 0
  · rw [if_neg (fun n => n h1), gI_of TC_360, Option.bind_some]
    by_cases h2 : C 360 6 = -1000000
    · refine ⟨_, by rw [if_neg (fun n => n h2), pI_of TC_360, Option.bind_some, hJ43], by rw [zu_same, zu_ne (fun _ => by decide)], ?_, fun b i h3 h4 => by rw [zu_ne (fun e e2 => h3 ⟨e, e2⟩), zu_ne (fun e e2 => h4 ⟨e, e2⟩)]⟩
      rw [zu_ne (fun e => by omega), zu_same, if_neg (fun n => n h1), if_pos h2]
    · refine ⟨_, by rw [if_pos h2, hJ43], zu_same, ?_, fun b i h3 h4 => zu_ne (fun e e2 => h3 ⟨e, e2⟩)⟩
      rw [zu_ne (fun e => by omega), if_neg (fun n => n h1), if_neg h2]
  · refine ⟨_, by rw [if_pos h1, hJ43], zu_same, ?_, fun b i h3 h4 => zu_ne (fun e e2 => h3 ⟨e, e2⟩)⟩
    rw [zu_ne (fun e => by omega), if_pos h1]
theorem m_J107 (hf : D 0 20 = nI f) (hf2 : f < 20) (hj : j < 4) (hk : k < 2 ^ 31) : ∃ E : Nat → Nat → Int32, f_X12_reads_J107 TM N 0 (nI j) (nI a) (nI k) (D, rfM) v = some (bI (decide (0 < k)), (E, rfM)) ∧ E 15 (4 * f + j) = v ∧ (E 0 21 = if 0 ≤ D 0 21 then D 0 21 else if ¬ okn j v = 0 then D 0 21 else nI a) ∧ ∀ b i, ¬ (b = 15 ∧ i = 4 * f + j) → ¬ (b = 0 ∧ i = 21) → E b i = D b i := by
  have hJ165 : ∀ (D : Nat → Nat → Int32) (y : Int32), f_X12_reads_J165 TM N 0 (nI k) (D, rfM) y = some (bI (decide (0 < k)), (zu D 0 21 y, rfM)) := fun D y => by
    unfold f_X12_reads_J165
    rw [pI_of TM_0, Option.bind_some, gt0 k hk]
  have hJ142 : ∀ (D : Nat → Nat → Int32) (y : Int32), f_X12_reads_J142 TM N 0 (nI a) (nI k) y (D, rfM) = some (bI (decide (0 < k)), (zu D 0 21 (if 0 ≤ D 0 21 then D 0 21 else if ¬ y = 0 then D 0 21 else nI a), rfM)) := fun D y => by
    unfold f_X12_reads_J142
    rw [gI_of TM_0, Option.bind_some]
    by_cases h1 : 0 ≤ D 0 21
    · rw [if_pos h1, if_pos h1, Option.bind_some, hJ165]
    · rw [if_neg h1, if_neg h1]
      by_cases h2 : y = 0
      · rw [if_neg (fun n => n h2), if_neg (fun n => n h2), hJ165]
      · rw [if_pos h2, if_pos h2, Option.bind_some, hJ165]
  refine ⟨zu (zu D 15 (4 * f + j) v) 0 21 (if 0 ≤ D 0 21 then D 0 21 else if ¬ okn j v = 0 then D 0 21 else nI a), ?_, ?_, zu_same, fun b i h1 h2 => by rw [zu_ne (fun e e2 => h2 ⟨e, e2⟩), zu_ne (fun e e2 => h1 ⟨e, e2⟩)]⟩
  · unfold f_X12_reads_J107 okn
    rw [gm23, Option.bind_some, gI_of TM_0, hf, Option.bind_some, show (4 : Int32) * nI f + nI j = nI (4 * f + j) from m_idx (a := 4), sI_of TM_15 ML_15 (show 4 * f + j < 80 by omega) (by decide), Option.bind_some]
    by_cases h : 2 ≤ j
    · rw [if_pos (show (2 : Int32) ≤ nI j from nI_le (a := 2) h (by omega)), if_pos h, m_isSize, zb2_some, hJ142, zu_ne (fun e => by omega)]
    · rw [if_neg (show ¬ (2 : Int32) ≤ nI j from nI_ge (b := 2) (by omega) (by decide)), if_neg h, m_isPlace, zb2_some, hJ142, zu_ne (fun e => by omega)]
  · rw [zu_ne (fun e => by omega), zu_same]
theorem m_reads (hN : 20 < N) (h0 : len ≤ 60) (h1 : D 0 18 = nI len) (h2 : ∀ i, i < len → D 13 i = c i) (ha : D 0 19 = nI a) (hal : a ≤ len) (hf : D 0 20 = nI f) (hf2 : f < 20) (hj : j < 4) :
    ∃ E : Nat → Nat → Int32, f_X12_reads TM N (D, rfM) 0 (nI j) = some (bI (decide (0 < nkF c len a)), (E, rfM)) ∧ E 0 19 = nI (neF c len a) ∧ E 15 (4 * f + j) = nvF c len a ∧ (E 0 21 = if 0 ≤ D 0 21 then D 0 21 else if ¬ okn j (nvF c len a) = 0 then D 0 21 else nI a) ∧ ∀ b i, ¬ (b = 15 ∧ i = 4 * f + j) → ¬ (b = 0 ∧ (i = 21 ∨ i = 19)) → E b i = D b i := by
  have hcd := (cd_eq (c := c) (len := len) (a := a) (x := 45) (by decide) (by decide)).2
  have hz : zu D 0 19 (nI a) = D := by
    funext b i
    rw [zu_at]
    by_cases h : b = 0 ∧ i = 19
    · rw [if_pos h, h.1, h.2, ha]
    · rw [if_neg h]
  unfold f_X12_reads
  rw [zz1_of TM_0, gI_of TM_0, ha, Option.bind_some, m_sign h0 h1 h2 ha hal, zb2_some]
  by_cases hs : sgB c len a = true
  · have hs2 := sgB_iff.mp hs
    have hb := (dk_ok (c := c) (len := len) (a := a + 1)).1
    obtain ⟨E, e1, e2, e3⟩ := m_digits (D := zu D 0 19 (nI (a + 1))) (x := nI j) (y := nI a) (w := 1) (N := N) hN h0 ((zu_ne (fun _ => by decide)).trans h1) (fun i hi => (zu_ne (fun e => absurd e (by decide))).trans (h2 i hi)) zu_same (show a + 1 ≤ len by omega)
    obtain ⟨E2, f1, f2, f3, f4⟩ := m_J107 (N := N) (D := E) (f := f) (a := a) (j := j) (k := dkF c len (a + 1)) (v := -dvF c (a + 1) (dkF c len (a + 1))) ((e3 _ _ (by omega)).trans ((zu_ne (fun _ => by decide)).trans hf)) hf2 hj (by omega)
    have e21 : E 0 21 = D 0 21 := (e3 _ _ (by omega)).trans (zu_ne (fun _ => by decide))
    refine ⟨E2, ?_, ?_, ?_, ?_, fun b i h3 h4 => ?_⟩
    · rw [if_neg (fun n => n (hcd.mpr hs2))]
      unfold f_X12_reads_J19 f_X12_reads_J34
      rw [gI_of TM_0, ha, Option.bind_some, if_neg (by decide), nI_1, pI_of TM_0, Option.bind_some, e1]
      unfold f_X12_reads_J95 nkF
      rw [if_neg (by decide), f1, if_pos hs]
    · rw [f4 _ _ (by omega) (by omega), e2]
      unfold neF
      rw [if_pos hs]
    · rw [f2]
      unfold nvF
      rw [if_pos hs]
    · rw [f3, e21]
      unfold nvF
      rw [if_pos hs]
    · rw [f4 b i h3 (by omega), e3 b i (by omega), zu_ne (fun e => by omega)]
  · have hb := (dk_ok (c := c) (len := len) (a := a)).1
    obtain ⟨E, e1, e2, e3⟩ := m_digits (D := D) (x := nI j) (y := nI a) (w := 0) (N := N) hN h0 h1 h2 ha hal
    obtain ⟨E2, f1, f2, f3, f4⟩ := m_J107 (N := N) (D := E) (f := f) (a := a) (j := j) (k := dkF c len a) (v := dvF c a (dkF c len a)) ((e3 _ _ (by omega)).trans hf) hf2 hj (by omega)
    have e21 : E 0 21 = D 0 21 := e3 _ _ (by omega)
    refine ⟨E2, ?_, ?_, ?_, ?_, fun b i h3 h4 => ?_⟩
    · rw [if_pos (fun n => hs (sgB_iff.mpr (hcd.mp n)))]
      unfold f_X12_reads_J19 f_X12_reads_J34
      rw [gI_of TM_0, ha, Option.bind_some, if_pos rfl, Int32.add_zero, pI_of TM_0, Option.bind_some, hz, e1]
      unfold f_X12_reads_J95 nkF
      rw [if_pos rfl, f1, if_neg hs]
    · rw [f4 _ _ (by omega) (by omega), e2]
      unfold neF
      rw [if_neg hs]
    · rw [f2]
      unfold nvF
      rw [if_neg hs]
    · rw [f3, e21]
      unfold nvF
      rw [if_neg hs]
    · rw [f4 b i h3 (by omega), e3 b i (by omega)]
end NU2
