/-! at -/
def ab (v : Int64) : Int64 := if 0 ≤ v then v else -v
theorem ab_c (v : Int64) : (if 0 < v then v else -v) = ab v := by
  unfold ab
  have e0 : (0 : Int64).toInt = 0 := by decide
  by_cases h : 0 < v
  · rw [if_pos h, if_pos (by rw [fa_le64]; rw [fa_lt64] at h; omega)]
  · rw [if_neg h]
    by_cases h2 : 0 ≤ v
    · have hv : v = 0 := by
        rw [fa_eq64]
        rw [fa_lt64] at h
        rw [fa_le64] at h2
        omega
      rw [if_pos h2, hv]
      decide
    · rw [if_neg h2]
/-- the shape in cell c contains the point -/
def hdA (G : Nat → Nat → Int32) (c : Nat) (px py : Int32) : Bool :=
  if G c 1 = 0 then decide (wth px (G c 2) (G c 2 + G c 4) = 1) && decide (wth py (G c 3) (G c 3 + G c 5) = 1)
  else if G c 1 = 1 then
    decide (¬ (((((G c 4).toInt64 * (G c 4).toInt64) * (G c 5).toInt64) * (G c 5).toInt64) <
      ((((ab ((((2 : Int64) * px.toInt64) - ((2 : Int64) * (G c 2).toInt64)) - (G c 4).toInt64) * ab ((((2 : Int64) * px.toInt64) - ((2 : Int64) * (G c 2).toInt64)) - (G c 4).toInt64)) * (G c 5).toInt64) * (G c 5).toInt64) +
      (((ab ((((2 : Int64) * py.toInt64) - ((2 : Int64) * (G c 3).toInt64)) - (G c 5).toInt64) * ab ((((2 : Int64) * py.toInt64) - ((2 : Int64) * (G c 3).toInt64)) - (G c 5).toInt64)) * (G c 4).toInt64) * (G c 4).toInt64))))
  else decide (¬ ((G c 4).toInt64 * (G c 5).toInt64 < (ab ((((2 : Int64) * px.toInt64) - ((2 : Int64) * (G c 2).toInt64)) - (G c 4).toInt64) * (G c 5).toInt64) + (ab ((((2 : Int64) * py.toInt64) - ((2 : Int64) * (G c 3).toInt64)) - (G c 5).toInt64) * (G c 4).toInt64)))
theorem lgif {a b : Int64} {σ : zS} : (if 0 < lg_cmp a b then rZ 0 σ else rZ 1 σ) = some (bI (decide (¬ b < a)), σ) := by
  by_cases h : b < a
  · rw [if_pos ((lg_cmp_gt _ _).mpr h), decide_eq_false (fun n => n h)]
    rfl
  · rw [if_neg (fun q => h ((lg_cmp_gt _ _).mp q)), decide_eq_true h]
    rfl
section ATS
variable {G M : Nat → Nat → Int32} {q : Nat → Option Nat} {N : Nat} {n c ln : Nat} {th sel gt : Nat → Bool} {p : Nat → Nat} {hs hg : Nat → Option Nat} {ρ : Nat → Nat → Option Nat} {V : Nat → Int32} {s t a b y k : Nat} {px py : Int32}
theorem e_holds (hc : TC.1 c = 6) (hk : G c 1 = 0 ∨ G c 1 = 1 ∨ G c 1 = 2) : f_X6_holds TC N (G, ρ) c px py = some (bI (hdA G c px py), (G, ρ)) := by
  have hJ : ¬ G c 1 = 0 → f_X6_holds_J54 TC N (G, ρ) c px py = some (bI (hdA G c px py), (G, ρ)) := fun h0 => by
    unfold f_X6_holds_J54 hdA
    simp only [gI_of hc, Option.bind_some, zn_eq, ab_c, lgif]
    rw [if_neg h0]
    by_cases h1 : G c 1 = 1
    · rw [if_neg (fun n => n h1), if_pos h1]
    · rw [if_pos h1, if_neg h1]
  unfold f_X6_holds
  rw [zz1_of hc, gI_of hc, Option.bind_some]
  rcases hk with h | h | h
  · rw [if_neg (by rw [h]; decide), Option.bind_some, if_neg (by rw [h]; decide), gI_of hc, Option.bind_some, ee0 hc, zb2_some, e_isWithin, zb2_some]
    unfold hdA
    rw [if_pos h]
    rcases wth01 px (G c 2) (G c 2 + G c 4) with hw | hw
    · rw [hw, if_pos rfl]
      rfl
    · rw [hw, if_neg (by decide), gI_of hc, Option.bind_some, ee1 hc, zb2_some, e_isWithin, zb2_some]
      rcases wth01 py (G c 3) (G c 3 + G c 5) with hw2 | hw2
      · rw [hw2, if_pos rfl]
        rfl
      · rw [hw2, if_neg (by decide)]
        rfl
  · rw [if_pos h, hJ (by rw [h]; decide)]
  · rw [if_neg (by rw [h]; decide), Option.bind_some, if_pos h, hJ (by rw [h]; decide)]
theorem m_contains (hs : s < 20) (hf : ∀ j, 1 ≤ j → j < 6 → M 1 (10 + 8 * s + j) = G (4 + s) j) : f_X12_contains TM N (M, rfM) 0 (nI s) px py = some (bI (hdA G (4 + s) px py), (M, rfM)) := by
  have o1 : f_X12_of TM N (M, rfM) 0 (nI s) (1 : Int32) = some (G (4 + s) 1, (M, rfM)) := (m_of (j := 1) (by omega)).trans (by rw [hf 1 (by omega) (by omega)])
  have o4 : f_X12_of TM N (M, rfM) 0 (nI s) (4 : Int32) = some (G (4 + s) 4, (M, rfM)) := (m_of (j := 4) (by omega)).trans (by rw [hf 4 (by omega) (by omega)])
  have o5 : f_X12_of TM N (M, rfM) 0 (nI s) (5 : Int32) = some (G (4 + s) 5, (M, rfM)) := (m_of (j := 5) (by omega)).trans (by rw [hf 5 (by omega) (by omega)])
  have hf2 : ∀ j, 2 ≤ j → j < 6 → M 1 (10 + 8 * s + j) = G (4 + s) j := fun j h1 h2 => hf j (by omega) h2
  unfold f_X12_contains f_X12_contains_J132 f_X12_contains_J149
  rw [zz1_of TM_0, o1, zb2_some]
  by_cases h0 : G (4 + s) 1 = 0
  · rw [if_neg (fun n => n h0), mB0 hs hf2, zb2_some, mE0 hs hf2, zb2_some, m_in, zb2_some]
    unfold hdA
    rw [if_pos h0]
    rcases wth01 px (G (4 + s) 2) (G (4 + s) 2 + G (4 + s) 4) with hw | hw
    · rw [hw, if_pos rfl]
      rfl
    · rw [hw, if_neg (by decide), mB1 hs hf2, zb2_some, mE1 hs hf2, zb2_some, m_in, zb2_some]
      rcases wth01 py (G (4 + s) 3) (G (4 + s) 3 + G (4 + s) 5) with hw2 | hw2
      · rw [hw2, if_pos rfl]
        rfl
      · rw [hw2, if_neg (by decide)]
        rfl
  · rw [if_pos h0, o4, zb2_some, zn_eq, o5, zb2_some, zn_eq, mB0 hs hf2, zb2_some, zn_eq, mB1 hs hf2, zb2_some, zn_eq]
    simp only [o1, zb2_some, lgif, lg_cmp_ge]
    unfold hdA
    rw [if_neg h0]
    unfold ab
    by_cases hx : 0 ≤ (((2 : Int64) * px.toInt64) - ((2 : Int64) * (G (4 + s) 2).toInt64)) - (G (4 + s) 4).toInt64
    · simp only [if_pos hx]
      by_cases hy : 0 ≤ (((2 : Int64) * py.toInt64) - ((2 : Int64) * (G (4 + s) 3).toInt64)) - (G (4 + s) 5).toInt64
      · simp only [if_pos hy]
        by_cases h1 : G (4 + s) 1 = 1
        · rw [if_neg (fun n => n h1), if_pos h1]
        · rw [if_pos h1, if_neg h1]
      · simp only [if_neg hy]
        by_cases h1 : G (4 + s) 1 = 1
        · rw [if_neg (fun n => n h1), if_pos h1]
        · rw [if_pos h1, if_neg h1]
    · simp only [if_neg hx]
      by_cases hy : 0 ≤ (((2 : Int64) * py.toInt64) - ((2 : Int64) * (G (4 + s) 3).toInt64)) - (G (4 + s) 5).toInt64
      · simp only [if_pos hy]
        by_cases h1 : G (4 + s) 1 = 1
        · rw [if_neg (fun n => n h1), if_pos h1]
        · rw [if_pos h1, if_neg h1]
      · simp only [if_neg hy]
        by_cases h1 : G (4 + s) 1 = 1
        · rw [if_neg (fun n => n h1), if_pos h1]
        · rw [if_pos h1, if_neg h1]
/-- x is the frontmost one with H, or none -/
def Frn (c : Nat) (p : Nat → Nat) (H : Nat → Bool) (x : Int32) : Prop := (∃ m, m < c ∧ H (p m) = true ∧ (∀ k, k < m → H (p k) = false) ∧ x = nI (p m)) ∨ ((∀ k, k < c → H (p k) = false) ∧ x = -1000000)
theorem Frn_u {H : Nat → Bool} {x y : Int32} (h1 : Frn c p H x) (h2 : Frn c p H y) : x = y := by
  rcases h1 with ⟨m, a1, a2, a3, rfl⟩ | ⟨a1, rfl⟩
  · rcases h2 with ⟨m2, b1, b2, b3, rfl⟩ | ⟨b1, rfl⟩
    · have : m = m2 := by
        rcases Nat.lt_trichotomy m m2 with h | h | h
        · rw [b3 m h] at a2; cases a2
        · exact h
        · rw [a3 m2 h] at b2; cases b2
      rw [this]
    · rw [b1 m a1] at a2; cases a2
  · rcases h2 with ⟨m2, b1, b2, b3, rfl⟩ | ⟨b1, rfl⟩
    · rw [a1 m2 b1] at b2; cases b2
    · rfl
theorem e_frontmost (hN : 20 < N) (hS : QS n th G V) (hP : QP th c p G V) : ∃ x, f_X7_frontmostOn TC N (G, rfC q) 2 px py = some (x, (G, rfC q)) ∧ Frn c p (fun s => hdA G (4 + s) px py) x := by
  have h20 := hP.c20
  unfold f_X7_frontmostOn
  rw [zz1_of TC_2]
  refine zl4_inv (P := fun o => ∃ x, o = some (x, (G, rfC q)) ∧ Frn c p (fun s => hdA G (4 + s) px py) x) 20
    (fun i best d x s => x = nI i ∧ s = (G, rfC q) ∧ ∃ m, d = nI m ∧ m ≤ 20 ∧ (∀ k, k < c → p k < i → hdA G (4 + p k) px py = true → m ≤ k) ∧ ((m = 20 ∧ best = -1000000) ∨ (m < c ∧ p m < i ∧ hdA G (4 + p m) px py = true ∧ best = nI (p m)))) ?_ ?_ 20 0 N (-1000000 : Int32) (20 : Int32) (0 : Int32) (G, rfC q) rfl hN ⟨nI_0.symm, rfl, 20, rfl, by omega, fun k _ h => by omega, Or.inl ⟨rfl, rfl⟩⟩
  · rintro i hi best d x s ⟨rfl, rfl, m, rfl, hm, hA, hB⟩
    by_cases ht : th i = true
    · obtain ⟨k0, hk0, hpk⟩ := hP.ps i hi ht
      have hd : G (4 + i) 6 = nI k0 := by rw [← hpk]; exact (hP.pk k0 hk0).2.2.2
      have hin : ∀ k, k < c → p k < i + 1 → k = k0 ∨ p k < i := fun k hk h => by
        by_cases e : p k = i
        · exact Or.inl (QP_inj hP hk hk0 (e.trans hpk.symm))
        · exact Or.inr (by omega)
      by_cases hle : m ≤ k0
      · refine Or.inl ⟨best, nI m, nI (i + 1), (G, rfC q), ⟨rfl, rfl, m, rfl, hm, fun k hk h1 h2 => ?_, ?_⟩, fun kk => ?_⟩
        · rcases hin k hk h1 with rfl | h
          · exact hle
          · exact hA k hk h h2
        · rcases hB with h | ⟨h1, h2, h3, h4⟩
          · exact Or.inl h
          · exact Or.inr ⟨h1, by omega, h3, h4⟩
        · unfold f_X7_frontmostOn_L10
          simp only [gR_of TC_2, rf_2_0, Option.bind_some, aL_of TC_3, TL_3]
          rw [if_neg (nI_ge hi (by decide)), e_find_k hi, QS_liv hS hi, if_pos ht, zb2_some, zo_some, gI_of (TC_sh hi), Option.bind_some, hd, if_pos (nI_le hle (by omega)), zn_eq, nI_1]
      · by_cases hH : hdA G (4 + i) px py = true
        · refine Or.inl ⟨nI i, nI k0, nI (i + 1), (G, rfC q), ⟨rfl, rfl, k0, rfl, by omega, fun k hk h1 h2 => ?_, Or.inr ⟨hk0, by omega, by rw [hpk]; exact hH, by rw [hpk]⟩⟩, fun kk => ?_⟩
          · rcases hin k hk h1 with rfl | h
            · exact Nat.le_refl _
            · have := hA k hk h h2
              omega
          · unfold f_X7_frontmostOn_L10
            simp only [gR_of TC_2, rf_2_0, Option.bind_some, aL_of TC_3, TL_3]
            rw [if_neg (nI_ge hi (by decide)), e_find_k hi, QS_liv hS hi, if_pos ht, zb2_some, zo_some, gI_of (TC_sh hi), Option.bind_some, hd, if_neg (nI_ge (by omega) (by omega)), e_holds (TC_sh hi) (hS.fD i hi ht).1, zb2_some, hH, if_neg (by decide), gI_of (TC_sh hi), Option.bind_some, hd, zn_eq, nI_1]
        · have hH2 : hdA G (4 + i) px py = false := by simpa using hH
          refine Or.inl ⟨best, nI m, nI (i + 1), (G, rfC q), ⟨rfl, rfl, m, rfl, hm, fun k hk h1 h2 => ?_, ?_⟩, fun kk => ?_⟩
          · rcases hin k hk h1 with rfl | h
            · rw [hpk, hH2] at h2; cases h2
            · exact hA k hk h h2
          · rcases hB with h | ⟨h1, h2, h3, h4⟩
            · exact Or.inl h
            · exact Or.inr ⟨h1, by omega, h3, h4⟩
          · unfold f_X7_frontmostOn_L10
            simp only [gR_of TC_2, rf_2_0, Option.bind_some, aL_of TC_3, TL_3]
            rw [if_neg (nI_ge hi (by decide)), e_find_k hi, QS_liv hS hi, if_pos ht, zb2_some, zo_some, gI_of (TC_sh hi), Option.bind_some, hd, if_neg (nI_ge (by omega) (by omega)), e_holds (TC_sh hi) (hS.fD i hi ht).1, zb2_some, hH2, if_pos (by decide), zn_eq, nI_1]
    · refine Or.inl ⟨best, nI m, nI (i + 1), (G, rfC q), ⟨rfl, rfl, m, rfl, hm, fun k hk h1 h2 => ?_, ?_⟩, fun kk => ?_⟩
      · have hp := (hP.pk k hk).2.1
        by_cases e : p k = i
        · rw [e] at hp; exact absurd hp ht
        · exact hA k hk (by omega) h2
      · rcases hB with h | ⟨h1, h2, h3, h4⟩
        · exact Or.inl h
        · exact Or.inr ⟨h1, by omega, h3, h4⟩
      · unfold f_X7_frontmostOn_L10
        simp only [gR_of TC_2, rf_2_0, Option.bind_some, aL_of TC_3, TL_3]
        rw [if_neg (nI_ge hi (by decide)), e_find_k hi, QS_liv hS hi, if_neg ht, zb2_some, zo_none, zn_eq, nI_1]
  · rintro best d x s ⟨rfl, rfl, m, rfl, hm, hA, hB⟩ kk
    refine ⟨best, ?_, ?_⟩
    · unfold f_X7_frontmostOn_L10
      simp only [gR_of TC_2, rf_2_0, Option.bind_some, aL_of TC_3, TL_3]
      rw [if_pos (nI_le (Nat.le_refl 20) (by decide))]
    · have hno : ∀ k, k < c → k < m → hdA G (4 + p k) px py = false := fun k hk hkm => by
        by_cases h : hdA G (4 + p k) px py = true
        · have := hA k hk (hP.pk k hk).1 h
          omega
        · simpa using h
      rcases hB with ⟨rfl, h⟩ | ⟨h1, h2, h3, h4⟩
      · exact Or.inr ⟨fun k hk => hno k hk (by omega), h⟩
      · exact Or.inl ⟨m, h1, h3, fun k hk => hno k (by omega) hk, h4⟩
theorem m_frontmost (hN : 20 < N) (hS : QS n th G (M 1)) (hP : QP th c p G (M 1)) : ∃ x, zl2 (f_X12_at_L26 TM N 0 px py) N (0 : Int32) (M, rfM) = some (x, (M, rfM)) ∧ Frn c p (fun s => hdA G (4 + s) px py) x := by
  have h20 := hP.c20
  refine zl2_inv (P := fun o => ∃ x, o = some (x, (M, rfM)) ∧ Frn c p (fun s => hdA G (4 + s) px py) x) c
    (fun i x s => x = nI i ∧ s = (M, rfM) ∧ ∀ k, k < i → hdA G (4 + p k) px py = false) ?_ ?_ c 0 N (0 : Int32) (M, rfM) (by omega) (by omega) ⟨nI_0.symm, rfl, fun k h => by omega⟩
  · rintro i hi x s ⟨rfl, rfl, hA⟩
    obtain ⟨p1, p2, p3, p4⟩ := hP.pk i hi
    by_cases hH : hdA G (4 + p i) px py = true
    · refine Or.inr (fun kk => ⟨nI (p i), ?_, Or.inl ⟨i, hi, hH, hA, rfl⟩⟩)
      unfold f_X12_at_L26
      simp only [g_v, Option.bind_some, v1_, hP.cV]
      rw [if_neg (nI_ge hi (by omega)), ixD, v_rd (by omega), Option.bind_some, p3, m_contains p1 (fun j h1 h2 => hS.fV _ p1 p2 j h1 h2), zb2_some, hH, if_neg (by decide)]
      simp only [g_v, Option.bind_some]
      rw [v_rd (by omega), Option.bind_some, p3]
    · have hH2 : hdA G (4 + p i) px py = false := by simpa using hH
      refine Or.inl ⟨nI (i + 1), (M, rfM), ⟨rfl, rfl, fun k hk => ?_⟩, fun kk => ?_⟩
      · by_cases e : k = i
        · rw [e]; exact hH2
        · exact hA k (by omega)
      · unfold f_X12_at_L26
        simp only [g_v, Option.bind_some, v1_, hP.cV]
        rw [if_neg (nI_ge hi (by omega)), ixD, v_rd (by omega), Option.bind_some, p3, m_contains p1 (fun j h1 h2 => hS.fV _ p1 p2 j h1 h2), zb2_some, hH2, if_pos (by decide), zn_eq, nI_1]
  · rintro x s ⟨rfl, rfl, hA⟩ kk
    refine ⟨-1000000, ?_, Or.inr ⟨hA, rfl⟩⟩
    unfold f_X12_at_L26
    simp only [g_v, Option.bind_some, v1_, hP.cV]
    rw [if_pos (nI_le (Nat.le_refl c) (by omega))]
theorem o_at (hN : 1901 < N) {σC σM : zS} (h : INV σC σM) (x y : Int32) : zAg INV (f_X11_at TC N σC 0 x y) (f_X12_at TM N σM 0 x y) := by
  obtain ⟨G, q, M, rfl, rfl, ⟨n, th, sel, c, p, hs, hg, gt, ln, a1, a2, a3, a4, a5, a6⟩, hH, hT⟩ := id h
  unfold f_X11_at f_X12_at
  rw [zz1_of TC_0, zz1_of TM_0, e_isWithin, m_in, zb2_some, zb2_some]
  rcases wth01 x (-100000) 100000 with hw | hw
  · rw [hw, if_pos rfl, if_pos rfl]
    exact ⟨_, _, _, rfl, rfl, h⟩
  · rw [hw, if_neg (by decide), if_neg (by decide), e_isWithin, m_in, zb2_some, zb2_some]
    rcases wth01 y (-100000) 100000 with hw2 | hw2
    · rw [hw2, if_neg (by decide), if_neg (by decide)]
      exact ⟨_, _, _, rfl, rfl, h⟩
    · rw [hw2, if_pos (by decide), if_pos (by decide)]
      simp only [g_now, g_shapes, Option.bind_some]
      obtain ⟨r1, e1, f1⟩ := e_frontmost (q := q) (N := N) (px := x) (py := y) (by omega) a1 a3
      obtain ⟨r2, e2, f2⟩ := m_frontmost (N := N) (px := x) (py := y) (by omega) a1 a3
      have := Frn_u f1 f2
      subst this
      rw [e1, zb2_some, e2]
      exact ⟨_, _, _, rfl, rfl, h⟩
end ATS
