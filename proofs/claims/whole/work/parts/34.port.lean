/-! ports -/
section PRT
variable {G M : Nat → Nat → Int32} {q : Nat → Option Nat} {N : Nat} {n : Nat} {th : Nat → Bool}
theorem i_half {x : Int32} (h : 0 ≤ x.toInt) : fdJ x 2 = x / 2 := by
  unfold fdJ
  by_cases h1 : 0 ≤ (x ^^^ 2)
  · rw [if_pos h1]
  · exfalso
    apply h1
    rw [fa_le]
    have hb : bt (x ^^^ 2) 31 = bt x 31 := by
      rw [b_xor, show bt 2 31 = false by decide +kernel, Bool.xor_false]
    have key : ∀ y : Int32, 0 ≤ y.toInt ↔ bt y 31 = false := by
      intro y
      show 0 ≤ y.toBitVec.toInt ↔ y.toBitVec.getLsbD 31 = false
      rw [BitVec.toInt_eq_msb_cond, BitVec.msb_eq_getLsbD_last]
      have := y.toBitVec.isLt
      by_cases hm : y.toBitVec.getLsbD 31 = true
      · rw [if_pos hm, hm]
        constructor
        · intro h; omega
        · intro h; cases h
      · rw [if_neg hm]
        constructor
        · intro _; simpa using hm
        · intro _; omega
    have e0 : (0 : Int32).toInt = 0 := by decide
    rw [e0, key, hb, ← key]
    exact h

/-- the place of a port of the shape in cell c -/
def ptA (G : Nat → Nat → Int32) (c a α : Nat) : Int32 := if (a = 1 ∨ a = 3) ↔ α = 0 then (if a = 1 ∨ a = 2 then G c (2 + α) + G c (4 + α) else G c (2 + α)) else G c (2 + α) + G c (4 + α) / 2
theorem e_portPlace {c a α : Nat} (hc : TC.1 c = 6) (ha : a < 4) (hα : α < 2) (h0 : ∀ j, 4 ≤ j → j < 6 → 0 ≤ (G c j).toInt) : f_X6_portPlace TC N (G, rfC q) c (nI a) (nI α) = some (ptA G c a α, (G, rfC q)) := by
  have hh : fdJ (G c (4 + α)) 2 = G c (4 + α) / 2 := i_half (h0 _ (by omega) (by omega))
  unfold f_X6_portPlace f_X6_portPlace_J15 f_X6_portPlace_J37 ptA
  rw [zz1_of hc]
  have h4 : a = 0 ∨ a = 1 ∨ a = 2 ∨ a = 3 := by omega
  have h2 : α = 0 ∨ α = 1 := by omega
  rcases h4 with rfl | rfl | rfl | rfl <;> rcases h2 with rfl | rfl
  · rw [if_neg (by decide), if_pos (by decide), if_neg (by decide), e_center hc (by omega), zb2_some, hh, if_neg (by decide)]
  · rw [if_neg (by decide), if_pos (by decide), if_pos (by decide), if_neg (by decide), if_pos (by decide), e_start hc (by omega), zb2_some, if_pos (by decide), if_neg (by decide)]
  · rw [if_pos (by decide), if_pos (by decide), if_pos (by decide), e_end hc (by omega), zb2_some, if_pos (by decide), if_pos (by decide)]
  · rw [if_pos (by decide), if_neg (by decide), e_center hc (by omega), zb2_some, hh, if_neg (by decide)]
  · rw [if_neg (by decide), if_pos (by decide), if_neg (by decide), e_center hc (by omega), zb2_some, hh, if_neg (by decide)]
  · rw [if_neg (by decide), if_pos (by decide), if_pos (by decide), if_neg (by decide), if_neg (by decide), e_end hc (by omega), zb2_some, if_pos (by decide), if_pos (by decide)]
  · rw [if_neg (by decide), if_neg (by decide), if_pos (by decide), if_neg (by decide), if_pos (by decide), e_start hc (by omega), zb2_some, if_pos (by decide), if_neg (by decide)]
  · rw [if_neg (by decide), if_neg (by decide), if_neg (by decide), e_center hc (by omega), zb2_some, hh, if_neg (by decide)]

theorem m_portOf {s a α : Nat} (hs : s < 20) (ha : a < 4) (hα : α < 2) (hf : ∀ j, 2 ≤ j → j < 6 → M 1 (10 + 8 * s + j) = G (4 + s) j) : f_X12_portOf TM N (M, rfM) 0 (nI s) (nI a) (nI α) = some (ptA G (4 + s) a α, (M, rfM)) := by
  unfold f_X12_portOf ptA
  rw [zz1_of TM_0]
  have h4 : a = 0 ∨ a = 1 ∨ a = 2 ∨ a = 3 := by omega
  have h2 : α = 0 ∨ α = 1 := by omega
  rcases h4 with rfl | rfl | rfl | rfl <;> rcases h2 with rfl | rfl
  · rw [if_neg (by decide), if_neg (by decide), show (0 : Int32) = nI 0 from rfl, m_center hs (by omega), zb2_some, hf _ (by omega) (by omega), hf _ (by omega) (by omega), if_neg (by decide)]
  · rw [if_neg (by decide), if_pos (by decide), if_neg (by decide), show (1 : Int32) = nI 1 from rfl, m_begin hs (by omega), zb2_some, hf _ (by omega) (by omega), if_pos (by decide), if_neg (by decide)]
  · rw [if_pos (by decide), if_pos (by decide), if_pos (by decide), show (0 : Int32) = nI 0 from rfl, m_end hs (by omega), zb2_some, hf _ (by omega) (by omega), hf _ (by omega) (by omega), if_pos (by decide), if_pos (by decide)]
  · rw [if_pos (by decide), if_neg (by decide), show (1 : Int32) = nI 1 from rfl, m_center hs (by omega), zb2_some, hf _ (by omega) (by omega), hf _ (by omega) (by omega), if_neg (by decide)]
  · rw [if_neg (by decide), if_neg (by decide), show (0 : Int32) = nI 0 from rfl, m_center hs (by omega), zb2_some, hf _ (by omega) (by omega), hf _ (by omega) (by omega), if_neg (by decide)]
  · rw [if_neg (by decide), if_pos (by decide), if_pos (by decide), show (1 : Int32) = nI 1 from rfl, m_end hs (by omega), zb2_some, hf _ (by omega) (by omega), hf _ (by omega) (by omega), if_pos (by decide), if_pos (by decide)]
  · rw [if_pos (by decide), if_pos (by decide), if_neg (by decide), show (0 : Int32) = nI 0 from rfl, m_begin hs (by omega), zb2_some, hf _ (by omega) (by omega), if_pos (by decide), if_neg (by decide)]
  · rw [if_pos (by decide), if_neg (by decide), show (1 : Int32) = nI 1 from rfl, m_center hs (by omega), zb2_some, hf _ (by omega) (by omega), hf _ (by omega) (by omega), if_neg (by decide)]

theorem size0 {V : Nat → Int32} (hS : QS n th G V) {s : Nat} (h : s < 20) (ht : th s = true) : ∀ j, 4 ≤ j → j < 6 → 0 ≤ (G (4 + s) j).toInt := fun j h1 h2 => by
  have := (hS.fD s h ht).2.2 j h1 h2
  omega
theorem isPort_k {x : Int32} : wth x 0 3 = 0 ∨ ∃ a, a < 4 ∧ x = nI a := by
  rcases wth01 x 0 3 with h | h
  · exact Or.inl h
  · refine Or.inr ?_
    have hb := wth1.mp h
    obtain ⟨j, hj, e⟩ := nI_of2 (M := 3) (n := 3) (by decide) (nlt_of_le hb.1) hb.2
    exact ⟨j, by omega, e⟩
theorem isAxis_k {x : Int32} (h : x = 0 ∨ x = 1) : ∃ α, α < 2 ∧ x = nI α := by
  rcases h with rfl | rfl
  · exact ⟨0, by omega, rfl⟩
  · exact ⟨1, by omega, rfl⟩
theorem o_port {σC σM : zS} (h : INV σC σM) (x y z : Int32) : zAg INV (f_X11_port TC N σC 0 x y z) (f_X12_port TM N σM 0 x y z) := by
  obtain ⟨G, q, M, rfl, rfl, ⟨n, th, sel, c, p, hs, hg, gt, ln, a1, a2, a3, a4, a5, a6⟩, hH, hT⟩ := id h
  unfold f_X11_port f_X12_port
  rw [zz1_of TC_0, zz1_of TM_0]
  simp only [g_now, g_shapes, Option.bind_some]
  rcases shp (q := q) (N := N) a1 x with ⟨s, hs20, rfl, ht, k1, k2⟩ | ⟨k1, k2⟩
  · rw [k1, k2, zb2_some, zb2_some, zo_some, if_neg (by decide), e_isPort, m_in, zb2_some, zb2_some]
    rcases isPort_k (x := y) with hy | ⟨a, ha, rfl⟩
    · rw [hy, if_pos rfl, if_pos rfl]
      exact ⟨_, _, _, rfl, rfl, h⟩
    · rw [show wth (nI a) 0 3 = 1 from wth_in (a := 0) (b := 3) (by decide) (by omega) (by omega), if_neg (by decide), if_neg (by decide), e_isAxis, m_in, isAxis_wth, zb2_some, zb2_some]
      by_cases hz : z = 0 ∨ z = 1
      · obtain ⟨α, hα, rfl⟩ := isAxis_k hz
        rw [if_pos hz, if_pos (by decide), if_neg (by decide), e_portPlace (TC_sh hs20) ha hα (size0 a1 hs20 ht), m_portOf hs20 ha hα (fun j h1 h2 => a1.fV s hs20 ht j (by omega) h2), zb2_some, zb2_some]
        exact ⟨_, _, _, rfl, rfl, h⟩
      · rw [if_neg hz, if_neg (by decide), if_pos rfl]
        exact ⟨_, _, _, rfl, rfl, h⟩
  · rw [k1, k2, zb2_some, zb2_some, zo_none, if_pos rfl]
    exact ⟨_, _, _, rfl, rfl, h⟩
end PRT
