/-! typing -/
section TYP
variable {N : Nat}
theorem o_type {σC σM : zS} (h : INV σC σM) (x : Int32) : zAg INV (f_X11_type TC N σC 0 x) (f_X12_type TM N σM 0 x) := by
  obtain ⟨G, q, M, rfl, rfl, hR, hH, hT⟩ := id h
  obtain ⟨m, h1, h2, h3, h4⟩ := id hT
  rcases wth01 x 32 126 with hw | hw
  · refine ⟨-1, _, _, ?_, ?_, h⟩
    · unfold f_X11_type
      rw [zz1_of TC_0, e_isWithin, zb2_some, hw, if_neg (by decide)]
    · unfold f_X12_type
      rw [zz1_of TM_0, m_in, zb2_some, hw, if_neg (by decide)]
  · by_cases h60 : m = 60
    · subst h60
      refine ⟨-3, _, _, ?_, ?_, h⟩
      · unfold f_X11_type
        rw [zz1_of TC_0, e_isWithin, zb2_some, hw, if_pos (by decide)]
        simp only [g_text, Option.bind_some]
        unfold f_X9_append
        rw [zz1_of TC_360]
        simp only [gI_of TC_360, gR_of TC_360, rf_360_0, aL_of TC_361, TL_361, Option.bind_some, h2]
        rw [if_neg (nI_pos (by decide)), if_neg (nI_nlt (Nat.le_refl 60) (by decide)), rZ_0, zb2_some, if_pos rfl]
      · unfold f_X12_type
        rw [zz1_of TM_0, m_in, zb2_some, hw, if_pos (by decide)]
        simp only [gI_of TM_0, Option.bind_some, h3]
        rw [if_neg (by decide)]
    · have hm : m < 60 := by omega
      refine ⟨nI (m + 1), (zu (zu G 361 m x) 360 2 (nI (m + 1)), rfC q), (zu (zu M 13 m x) 0 18 (nI (m + 1)), rfM), ?_, ?_, ?_⟩
      · unfold f_X11_type
        rw [zz1_of TC_0, e_isWithin, zb2_some, hw, if_pos (by decide)]
        simp only [g_text, Option.bind_some]
        unfold f_X9_append
        rw [zz1_of TC_360]
        simp only [gI_of TC_360, gR_of TC_360, rf_360_0, aL_of TC_361, TL_361, Option.bind_some, h2]
        rw [if_neg (nI_pos (by omega)), if_pos (nI_lt hm (by decide)), sI_of TC_361 TL_361 hm (by decide)]
        simp only [gI_of TC_360, Option.bind_some, pI_of TC_360]
        rw [zu_cell (by decide), h2, nI_1, rZ_1, zb2_some, if_neg (by decide)]
        simp only [g_text, Option.bind_some, gI_of TC_360, zu_same]
      · unfold f_X12_type
        rw [zz1_of TM_0, m_in, zb2_some, hw, if_pos (by decide)]
        simp only [gI_of TM_0, Option.bind_some, h3]
        rw [if_pos (show ¬ nI m = (60 : Int32) from fun e => h60 ((nI_eq (b := 60) (by omega) (by decide)).mp e))]
        simp only [gR_of TM_0, rm_17, Option.bind_some]
        rw [sI_of TM_13 ML_13 hm (by decide)]
        simp only [gI_of TM_0, Option.bind_some, pI_of TM_0, zu_same]
        rw [zu_cell (by decide), h3, nI_1]
      · refine INV_mk (QR_same hR (fun i _ => by rw [zu_cell (by decide), zu_cell (by decide)]) (fun o j _ h => by rw [zu_cell (by omega), zu_cell (by omega)])) (Hist_fr hH (fun a j _ h => by rw [zu_cell (by omega), zu_cell (by omega)]) (fun j => by rw [zu_cell (by decide), zu_cell (by decide)]) (by rw [zu_ne (by decide), zu_cell (by decide)])) ⟨m + 1, by omega, zu_same, zu_same, fun i hi => ?_⟩
        refine ((congrFun (zu_cell (a := 361) (by decide)) i).trans ?_).trans (congrFun (zu_cell (a := 13) (by decide)) i).symm
        by_cases e : i = m
        · subst e
          rw [zu_same, zu_same]
        · rw [zu_ne (fun _ => e), zu_ne (fun _ => e)]
          exact h4 i (by omega)
end TYP
