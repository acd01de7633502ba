/-! shape, whole -/
section OS2
variable {N : Nat}
theorem what_k {w : Int32} : ((w < 0 ∨ 8 < w) ∧ wth w 0 8 = 0) ∨ ∃ k, k < 9 ∧ w = nI k := by
  rcases nI_big (x := w) (n := 9) (by decide) with h | h
  · refine Or.inl ⟨?_, wth_out (a := 0) (b := 8) (by decide) h (by decide)⟩
    rcases h with h | h
    · exact Or.inl h
    · refine Or.inr ?_
      rw [fa_le, nI_toInt (by decide)] at h
      rw [fa_lt, show (8 : Int32).toInt = 8 by decide]
      omega
  · exact Or.inr h
theorem o_shape (hN : 1901 < N) {σC σM : zS} (h : INV σC σM) (x y : Int32) : zAg INV (f_X11_shape TC N σC 0 x y) (f_X12_shape TM N σM 0 x y) := by
  obtain ⟨G, q, M, rfl, rfl, ⟨n, th, sel, c, p, hs, hg, gt, ln, hA⟩, hH, hT⟩ := id h
  rcases shp (q := q) (N := N) hA.1 x with ⟨s, hs20, rfl, ht, k1, k2⟩ | ⟨k1, k2⟩
  · rcases what_k (w := y) with ⟨hy, hw⟩ | ⟨w, hw, rfl⟩
    · refine ⟨-1000000, _, _, ?_, ?_, h⟩
      · unfold f_X11_shape
        rw [zz1_of TC_0]
        simp only [g_now, g_shapes, Option.bind_some]
        rw [k1, zb2_some, zo_some, if_pos hy]
      · unfold f_X12_shape
        rw [zz1_of TM_0, k2, zb2_some, if_neg (by decide), m_in, zb2_some, hw, if_pos rfl]
    · refine ⟨toldA G sel hs hg s w, _, _, e_shape (by omega) hs20 hw ht hA, ?_, h⟩
      unfold f_X12_shape
      rw [zz1_of TM_0, k2, zb2_some, if_neg (by decide), m_in, zb2_some, show wth (nI w) 0 8 = 1 from wth_in (a := 0) (b := 8) (by decide) (by omega) (by omega), if_neg (by decide), m_told (by omega) hs20 hw ht hA, zb2_some]
  · refine ⟨-1000000, _, _, ?_, ?_, h⟩
    · unfold f_X11_shape
      rw [zz1_of TC_0]
      simp only [g_now, g_shapes, Option.bind_some]
      rw [k1, zb2_some, zo_none]
    · unfold f_X12_shape
      rw [zz1_of TM_0, k2, zb2_some, if_pos rfl]
end OS2
