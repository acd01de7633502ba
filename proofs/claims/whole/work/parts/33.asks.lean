/-! asking: shapes, groups, ports -/
section ASK
variable {G M : Nat → Nat → Int32} {q : Nat → Option Nat} {N : Nat} {n c ln : Nat} {th sel gt : Nat → Bool} {p : Nat → Nat} {hs hg : Nat → Option Nat}
theorem QS_liv {V : Nat → Int32} (hS : QS n th G V) {s : Nat} (h : s < 20) : liv G s = th s := by
  unfold liv
  rw [hS.tD s h]
  cases th s <;> decide
theorem QH_K {V : Nat → Int32} (h : QH th sel hs hg gt G V) : QK (fun g => g < 8 ∧ gt g = true) hg G V ∧ ∃ r, QR8 (fun g => g < 8 ∧ gt g = true) hg r := by
  refine ⟨fun g ⟨h8, ht⟩ => ⟨h8, by rw [h.tD g h8, ht]; rfl, h.gD g h8 ht, h.gV g h8 ht, fun g2 h2 => h.gg g h8 ht g2 h2⟩, rk8 h.gg h.rk⟩
theorem wth_out {x : Int32} {a b : Nat} (hb : b < 2 ^ 31) (h : x < nI a ∨ nI (b + 1) ≤ x) (hb2 : b + 1 < 2 ^ 31) : wth x (nI a) (nI b) = 0 := by
  refine wth0.mpr (fun ⟨h1, h2⟩ => ?_)
  rcases h with h | h
  · rw [fa_lt] at h
    rw [fa_le] at h1
    omega
  · rw [fa_le, nI_toInt hb2] at h
    rw [fa_le, nI_toInt hb] at h2
    omega
theorem wth_in {x a b : Nat} (hb : b < 2 ^ 31) (h1 : a ≤ x) (h2 : x ≤ b) : wth (nI x) (nI a) (nI b) = 1 := wth1.mpr ⟨nI_le h1 (by omega), nI_le h2 hb⟩
/-- a number is a shape's on both sides, or on none -/
theorem shp (hS : QS n th G (M 1)) (x : Int32) : (∃ s, s < 20 ∧ x = nI s ∧ th s = true ∧ f_X7_find TC N (G, rfC q) 2 x = some (some (4 + s), (G, rfC q)) ∧ f_X12_isShape TM N (M, rfM) 0 x = some (1, (M, rfM))) ∨ (f_X7_find TC N (G, rfC q) 2 x = some (none, (G, rfC q)) ∧ f_X12_isShape TM N (M, rfM) 0 x = some (0, (M, rfM))) := by
  rcases nI_b20 x with h | ⟨s, hs, rfl⟩
  · refine Or.inr ⟨?_, ?_⟩
    · rw [e_find]
      unfold fnd
      rw [if_pos]
      rcases h with h | h
      · exact Or.inl h
      · exact Or.inr (Or.inl h)
    · unfold f_X12_isShape
      rw [zz1_of TM_0, m_in, show wth x 0 19 = 0 from wth_out (a := 0) (b := 19) (by decide) h (by decide), zb2_some, if_pos rfl]
      rfl
  · have hm : f_X12_isShape TM N (M, rfM) 0 (nI s) = some (bI (th s), (M, rfM)) := by
      unfold f_X12_isShape
      rw [zz1_of TM_0, m_in, show wth (nI s) 0 19 = 1 from wth_in (a := 0) (b := 19) (by decide) (by omega) (by omega), zb2_some, if_neg (by decide), show (0 : Int32) = nI 0 from rfl, m_of (by omega), zb2_some]
      show (if ¬ M 1 (10 + 8 * s) = 1 then _ else _) = _
      rw [hS.tV s hs]
      by_cases h : th s = true
      · rw [h, if_neg (fun n => n rfl)]; rfl
      · have h2 : th s = false := by simpa using h
        rw [h2, if_pos (by decide)]; rfl
    by_cases h : th s = true
    · refine Or.inl ⟨s, hs, rfl, h, ?_, ?_⟩
      · rw [e_find_k hs, QS_liv hS hs, if_pos h]
      · rw [hm, h]; rfl
    · refine Or.inr ⟨?_, ?_⟩
      · rw [e_find_k hs, QS_liv hS hs, if_neg h]
      · have h2 : th s = false := by simpa using h
        rw [hm, h2]; rfl
/-- a number is a group's on both sides, or on none -/
theorem grp (hH : QH th sel hs hg gt G (M 1)) (x : Int32) : (∃ g, g < 8 ∧ x = nI g ∧ gt g = true ∧ f_X3_has TC N (G, rfC q) 46 x = some (1, (G, rfC q)) ∧ f_X12_isGroup TM N (M, rfM) 0 x = some (1, (M, rfM))) ∨ (f_X3_has TC N (G, rfC q) 46 x = some (0, (G, rfC q)) ∧ f_X12_isGroup TM N (M, rfM) 0 x = some (0, (M, rfM)) ∧ ∀ g, g < 8 → x = nI g → gt g = false) := by
  rcases nI_b8 x with h | ⟨g, h8, rfl⟩
  · refine Or.inr ⟨e_has_no h, ?_, fun g h8 e => ?_⟩
    · unfold f_X12_isGroup
      rw [zz1_of TM_0, m_in, show wth x 0 7 = 0 from wth_out (a := 0) (b := 7) (by decide) h (by decide), zb2_some, if_pos rfl]
      rfl
    · subst e
      rcases h with h | h
      · exact absurd h (nI_pos (by omega))
      · exact absurd h (nI_n8 h8)
  · have hm : f_X12_isGroup TM N (M, rfM) 0 (nI g) = some (bI (gt g), (M, rfM)) := by
      unfold f_X12_isGroup
      rw [zz1_of TM_0, m_in, show wth (nI g) 0 7 = 1 from wth_in (a := 0) (b := 7) (by decide) (by omega) (by omega), zb2_some, if_neg (by decide)]
      simp only [g_v, Option.bind_some]
      rw [ix2, v_rd (by omega), hH.tV g h8]
      simp only [Option.bind_some]
      by_cases h : gt g = true
      · rw [h, if_neg (fun n => n rfl)]; rfl
      · have h2 : gt g = false := by simpa using h
        rw [h2, if_pos (by decide)]; rfl
    by_cases h : gt g = true
    · refine Or.inl ⟨g, h8, rfl, h, ?_, ?_⟩
      · rw [e_has_g h8, hH.tD g h8, h]; rfl
      · rw [hm, h]; rfl
    · have h2 : gt g = false := by simpa using h
      refine Or.inr ⟨?_, ?_, fun g2 h82 e => ?_⟩
      · rw [e_has_g h8, hH.tD g h8, h2]; rfl
      · rw [hm, h2]; rfl
      · rw [← (nI_eq (by omega) (by omega)).mp e]; exact h2
/-- the shapes of a group: the class's set is the relation's -/
theorem inG_A {V : Nat → Int32} (hS : QS n th G V) (hH : QH th sel hs hg gt G V) {g : Nat} (h8 : g < 8) {s : Nat} (h : s < 20) : inG G (nI g) s = inA th hs hg g s := by
  unfold inG inA
  rw [QS_liv hS h]
  by_cases ht : th s = true
  · rw [ht, Bool.true_and, Bool.true_and, hH.sD s h ht]
    have := insG_K (QH_K hH).1 h8 8 (hs s) (fun g hg => hH.sg s h ht g hg)
    cases e : insA hg g 8 (hs s)
    · exact decide_eq_false (fun q => by rw [this.mp q] at e; cases e)
    · exact decide_eq_true (this.mpr e)
  · have h2 : th s = false := by simpa using ht
    rw [h2, Bool.false_and, Bool.false_and]
theorem m_setA (hN : 20 < N) (hS : QS n th G (M 1)) (hH : QH th sel hs hg gt G (M 1)) {g : Nat} (h8 : g < 8) : f_X12_setOf TM N (M, rfM) 0 (nI g) = some (mkS (inA th hs hg g) 20, (M, rfM)) := by
  obtain ⟨hk, r, hr⟩ := QH_K hH
  exact m_setOf hN hk hr h8 hS.tV (fun s h ht => ⟨hH.sV s h ht, hH.sg s h ht⟩)
theorem o_shapesOf (hN : 1901 < N) {σC σM : zS} (h : INV σC σM) (x : Int32) : zAg INV (f_X11_shapesOf TC N σC 0 x) (f_X12_shapesOf TM N σM 0 x) := by
  obtain ⟨G, q, M, rfl, rfl, ⟨n, th, sel, c, p, hs, hg, gt, ln, a1, a2, a3, a4, a5, a6⟩, hH, hT⟩ := id h
  rcases grp (q := q) (N := N) a4 x with ⟨g, h8, rfl, ht, k1, k2⟩ | ⟨k1, k2, k3⟩
  · refine ⟨mkS (inA th hs hg g) 20, _, _, ?_, ?_, h⟩
    · unfold f_X11_shapesOf
      rw [zz1_of TC_0]
      simp only [g_now, g_groups, Option.bind_some, k1, zb2_some]
      rw [if_neg (by decide), e_shapesIn (by omega), zb2_some, mkS_ext (fun i hi => inG_A a1 a4 h8 hi)]
    · unfold f_X12_shapesOf
      rw [zz1_of TM_0, k2, zb2_some, if_neg (by decide), m_setA (by omega) a1 a4 h8, zb2_some]
  · refine ⟨-1, _, _, ?_, ?_, h⟩
    · unfold f_X11_shapesOf
      rw [zz1_of TC_0]
      simp only [g_now, g_groups, Option.bind_some]
      rw [k1, zb2_some, if_pos rfl]
    · unfold f_X12_shapesOf
      rw [zz1_of TM_0, k2, zb2_some, if_pos rfl]
/-! ports -/
theorem m_begin {s α : Nat} (h : s < 20) (hα : α < 2) : f_X12_begin TM N (M, rfM) 0 (nI s) (nI α) = some (M 1 (10 + 8 * s + (2 + α)), (M, rfM)) := by
  unfold f_X12_begin
  rw [zz1_of TM_0, show (2 : Int32) + nI α = nI (2 + α) from nI_add 2 α, m_of (by omega), zb2_some]
theorem m_end {s α : Nat} (h : s < 20) (hα : α < 2) : f_X12_end TM N (M, rfM) 0 (nI s) (nI α) = some (M 1 (10 + 8 * s + (2 + α)) + M 1 (10 + 8 * s + (4 + α)), (M, rfM)) := by
  unfold f_X12_end
  rw [zz1_of TM_0, show (2 : Int32) + nI α = nI (2 + α) from nI_add 2 α, m_of (by omega), zb2_some, show (4 : Int32) + nI α = nI (4 + α) from nI_add 4 α, m_of (by omega), zb2_some]
theorem m_center {s α : Nat} (h : s < 20) (hα : α < 2) : f_X12_center TM N (M, rfM) 0 (nI s) (nI α) = some (M 1 (10 + 8 * s + (2 + α)) + M 1 (10 + 8 * s + (4 + α)) / 2, (M, rfM)) := by
  unfold f_X12_center
  rw [zz1_of TM_0, show (2 : Int32) + nI α = nI (2 + α) from nI_add 2 α, m_of (by omega), zb2_some, show (4 : Int32) + nI α = nI (4 + α) from nI_add 4 α, m_of (by omega), zb2_some]
end ASK
