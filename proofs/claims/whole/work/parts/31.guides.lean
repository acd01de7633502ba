/-! guides, grid, tolerance; typing -/
section GDS
variable {N : Nat}
theorem m_sets {M M1 : Nat → Nat → Int32} {i : Nat} {x y : Int32} (hi : i < 380) (hx : x = nI i) (e : f_X12_act TM N (M, rfM) 0 = some (M1, rfM)) : f_X12_sets TM N (M, rfM) 0 x y = some (M1 1 i, (zu M1 1 i y, rfM)) := by
  unfold f_X12_sets
  rw [zz1_of TM_0, e]
  simp only [Option.bind_some, g_v]
  rw [v_rdL hx hi]
  simp only [Option.bind_some]
  rw [v_wrL hx hi, Option.bind_some]
theorem o_clearGuides (hN : 1901 < N) {σC σM : zS} (h : INV σC σM) : zAg INV (f_X11_clearGuides TC N σC 0) (f_X12_clearGuides TM N σM 0) := by
  obtain ⟨G, q, M, rfl, rfl, ⟨n, th, sel, c, p, hs, hg, gt, ln, hA⟩, hH, hT⟩ := id h
  obtain ⟨G1, q1, M1, e1, e2, ⟨a1, a2, a3, a4, a5, a6⟩, h1, h2, h3, h4⟩ := keep2 hN hA hH hT
  obtain ⟨gn, b1, b2, b3, b4⟩ := a6.num
  refine ⟨nI gn, (zu G1 49 2 0, rfC q1), (zu M1 1 3 0, rfM), ?_, ?_, ?_⟩
  · unfold f_X11_clearGuides
    rw [zz1_of TC_0]
    simp only [g_hist, g_now, Option.bind_some, e1, g_guides, gI_of TC_49, pI_of TC_49, b2]
  · unfold f_X12_clearGuides
    rw [zz1_of TM_0, m_sets (i := 3) (x := 3) (by decide) rfl e2, zb2_some, b3]
  · refine INV_now h1 h2 ⟨n, th, sel, c, p, hs, hg, gt, ln, QS_fr a1 ?_ ?_ ?_ ?_, QC_fr a2 ?_ ?_, QP_fr a3 ?_ ?_ ?_, QH_fr a4 ?_ ?_ ?_ ?_ ?_, QL_fr a5 ?_ ?_ ?_ ?_, ⟨⟨0, by omega, zu_same.trans nI_0.symm, zu_same.trans nI_0.symm, fun k hk => by omega⟩, ?_, ?_⟩⟩ ?_ ?_ ?_ ?_ ?_
    any_goals (intros; first | exact zu_ne (fun e e2 => by omega) | exact zu_ne (fun e => by omega))
    · obtain ⟨g, x1, x2, x3⟩ := a6.grd
      exact ⟨g, x1, (zu_ne (fun _ => by decide)).trans x2, (zu_ne (fun _ => by decide)).trans x3⟩
    · obtain ⟨g, x1, x2, x3⟩ := a6.tol
      exact ⟨g, x1, (zu_ne (fun _ => by decide)).trans x2, (zu_ne (fun _ => by decide)).trans x3⟩
theorem o_setGrid (hN : 1901 < N) {σC σM : zS} (h : INV σC σM) (x : Int32) : zAg INV (f_X11_setGrid TC N σC 0 x) (f_X12_setGrid TM N σM 0 x) := by
  obtain ⟨G, q, M, rfl, rfl, ⟨n, th, sel, c, p, hs, hg, gt, ln, hA⟩, hH, hT⟩ := id h
  rcases wth01 x 0 100 with hw | hw
  · refine ⟨-1, _, _, ?_, ?_, h⟩
    · unfold f_X11_setGrid
      rw [zz1_of TC_0, e_isWithin, zb2_some, hw, if_neg (by decide)]
    · unfold f_X12_setGrid
      rw [zz1_of TM_0, m_in, zb2_some, hw, if_pos rfl]
  · obtain ⟨w, hwl, rfl⟩ : ∃ w, w ≤ 100 ∧ x = nI w := by
      have hb := wth1.mp hw
      refine (nI_of2 (M := 100) (n := 100) (by decide) (fun e => ?_) hb.2).imp fun j hj => hj
      have := hb.1
      rw [fa_lt] at e
      rw [fa_le] at this
      omega
    obtain ⟨G1, q1, M1, e1, e2, ⟨a1, a2, a3, a4, a5, a6⟩, h1, h2, h3, h4⟩ := keep2 hN hA hH hT
    obtain ⟨g, x1, x2, x3⟩ := a6.grd
    refine ⟨nI g, (zu G1 49 3 (nI w), rfC q1), (zu M1 1 4 (nI w), rfM), ?_, ?_, ?_⟩
    · unfold f_X11_setGrid
      rw [zz1_of TC_0, e_isWithin, zb2_some, hw, if_pos (by decide)]
      simp only [g_hist, g_now, Option.bind_some, e1, g_guides, gI_of TC_49, pI_of TC_49, x2]
    · unfold f_X12_setGrid
      rw [zz1_of TM_0, m_in, zb2_some, hw, if_neg (by decide), m_sets (i := 4) (x := 4) (by decide) rfl e2, zb2_some, x3]
    · have hu : QU (zu G1 49 3 (nI w)) (zu M1 1 4 (nI w) 1) := by
        obtain ⟨gn, b1, b2, b3, b4⟩ := a6.num
        obtain ⟨g3, y1, y2, y3⟩ := a6.tol
        refine ⟨⟨gn, b1, (zu_ne (fun _ => by decide)).trans b2, (zu_ne (fun _ => by decide)).trans b3, fun k hk => ⟨?_, ?_⟩⟩, ⟨w, hwl, zu_same, zu_same⟩, ⟨g3, y1, (zu_ne (fun _ => by decide)).trans y2, (zu_ne (fun _ => by decide)).trans y3⟩⟩
        · rw [zu_ne (fun e => by omega), zu_ne (fun _ => by omega), (b4 k hk).1]
        · rw [zu_ne (fun e => by omega), zu_ne (fun _ => by omega), (b4 k hk).2]
      refine INV_now h1 h2 ⟨n, th, sel, c, p, hs, hg, gt, ln, QS_fr a1 ?_ ?_ ?_ ?_, QC_fr a2 ?_ ?_, QP_fr a3 ?_ ?_ ?_, QH_fr a4 ?_ ?_ ?_ ?_ ?_, QL_fr a5 ?_ ?_ ?_ ?_, hu⟩ ?_ ?_ ?_ ?_ ?_
      all_goals (intros; first | exact zu_ne (fun e e2 => by omega) | exact zu_ne (fun e => by omega))
theorem o_setTolerance (hN : 1901 < N) {σC σM : zS} (h : INV σC σM) (x : Int32) : zAg INV (f_X11_setTolerance TC N σC 0 x) (f_X12_setTolerance TM N σM 0 x) := by
  obtain ⟨G, q, M, rfl, rfl, ⟨n, th, sel, c, p, hs, hg, gt, ln, hA⟩, hH, hT⟩ := id h
  rcases wth01 x 0 50 with hw | hw
  · refine ⟨-1, _, _, ?_, ?_, h⟩
    · unfold f_X11_setTolerance
      rw [zz1_of TC_0, e_isWithin, zb2_some, hw, if_neg (by decide)]
    · unfold f_X12_setTolerance
      rw [zz1_of TM_0, m_in, zb2_some, hw, if_pos rfl]
  · obtain ⟨w, hwl, rfl⟩ : ∃ w, w ≤ 50 ∧ x = nI w := by
      have hb := wth1.mp hw
      refine (nI_of2 (M := 50) (n := 50) (by decide) (fun e => ?_) hb.2).imp fun j hj => hj
      have := hb.1
      rw [fa_lt] at e
      rw [fa_le] at this
      omega
    obtain ⟨G1, q1, M1, e1, e2, ⟨a1, a2, a3, a4, a5, a6⟩, h1, h2, h3, h4⟩ := keep2 hN hA hH hT
    obtain ⟨g, x1, x2, x3⟩ := a6.tol
    refine ⟨nI g, (zu G1 49 4 (nI w), rfC q1), (zu M1 1 5 (nI w), rfM), ?_, ?_, ?_⟩
    · unfold f_X11_setTolerance
      rw [zz1_of TC_0, e_isWithin, zb2_some, hw, if_pos (by decide)]
      simp only [g_hist, g_now, Option.bind_some, e1, g_guides, gI_of TC_49, pI_of TC_49, x2]
    · unfold f_X12_setTolerance
      rw [zz1_of TM_0, m_in, zb2_some, hw, if_neg (by decide), m_sets (i := 5) (x := 5) (by decide) rfl e2, zb2_some, x3]
    · have hu : QU (zu G1 49 4 (nI w)) (zu M1 1 5 (nI w) 1) := by
        obtain ⟨gn, b1, b2, b3, b4⟩ := a6.num
        obtain ⟨g3, y1, y2, y3⟩ := a6.grd
        refine ⟨⟨gn, b1, (zu_ne (fun _ => by decide)).trans b2, (zu_ne (fun _ => by decide)).trans b3, fun k hk => ⟨?_, ?_⟩⟩, ⟨g3, y1, (zu_ne (fun _ => by decide)).trans y2, (zu_ne (fun _ => by decide)).trans y3⟩, ⟨w, hwl, zu_same, zu_same⟩⟩
        · rw [zu_ne (fun e => by omega), zu_ne (fun _ => by omega), (b4 k hk).1]
        · rw [zu_ne (fun e => by omega), zu_ne (fun _ => by omega), (b4 k hk).2]
      refine INV_now h1 h2 ⟨n, th, sel, c, p, hs, hg, gt, ln, QS_fr a1 ?_ ?_ ?_ ?_, QC_fr a2 ?_ ?_, QP_fr a3 ?_ ?_ ?_, QH_fr a4 ?_ ?_ ?_ ?_ ?_, QL_fr a5 ?_ ?_ ?_ ?_, hu⟩ ?_ ?_ ?_ ?_ ?_
      all_goals (intros; first | exact zu_ne (fun e e2 => by omega) | exact zu_ne (fun e => by omega))

theorem isAxis_wth {x : Int32} : wth x 0 1 = if x = 0 ∨ x = 1 then 1 else 0 := by
  by_cases h : x = 0 ∨ x = 1
  · rw [if_pos h]
    rcases h with rfl | rfl <;> decide
  · rw [if_neg h]
    refine wth0.mpr (fun ⟨h1, h2⟩ => h ?_)
    rw [fa_le] at h1 h2
    have e0 : (0 : Int32).toInt = 0 := by decide
    have e1 : (1 : Int32).toInt = 1 := by decide
    rw [fa_eq, fa_eq, e0, e1]
    omega
theorem o_addGuide (hN : 1901 < N) {σC σM : zS} (h : INV σC σM) (x y : Int32) : zAg INV (f_X11_addGuide TC N σC 0 x y) (f_X12_addGuide TM N σM 0 x y) := by
  obtain ⟨G, q, M, rfl, rfl, ⟨n, th, sel, c, p, hs, hg, gt, ln, hA⟩, hH, hT⟩ := id h
  obtain ⟨gn, b1, b2, b3, b4⟩ := hA.2.2.2.2.2.num
  by_cases hx : x = 0 ∨ x = 1
  · rcases wth01 y (-10000) 10000 with hw | hw
    · refine ⟨-1, _, _, ?_, ?_, h⟩
      · unfold f_X11_addGuide
        rw [zz1_of TC_0, e_isAxis, zb2_some, if_pos hx, if_neg (by decide), e_isCoordinate, zb2_some, hw, if_neg (by decide)]
      · unfold f_X12_addGuide
        rw [zz1_of TM_0, m_in, zb2_some, isAxis_wth, if_pos hx, if_neg (by decide), m_isPlace, zb2_some, hw, if_neg (by decide)]
    · by_cases h10 : gn = 10
      · subst h10
        refine ⟨-3, _, _, ?_, ?_, h⟩
        · unfold f_X11_addGuide
          rw [zz1_of TC_0, e_isAxis, zb2_some, if_pos hx, if_neg (by decide), e_isCoordinate, zb2_some, hw, if_pos (by decide)]
          simp only [g_now, Option.bind_some, g_guides, gI_of TC_49, b2]
          rw [if_neg (by decide)]
        · unfold f_X12_addGuide
          rw [zz1_of TM_0, m_in, zb2_some, isAxis_wth, if_pos hx, if_neg (by decide), m_isPlace, zb2_some, hw, if_pos (by decide)]
          simp only [g_v, Option.bind_some, v3_, b3]
          rw [if_neg (by decide)]
      · obtain ⟨G1, q1, M1, e1, e2, ⟨a1, a2, a3, a4, a5, a6⟩, h1, h2, h3, h4⟩ := keep2 hN hA hH hT
        have d2 : G1 49 2 = nI gn := (h3 _ _ (by omega)).trans b2
        have d3 : M1 1 3 = nI gn := (h4 _ _ (by omega) (by omega)).trans b3
        have d4 : ∀ k, k < gn → G1 50 k = M1 1 (310 + 2 * k) ∧ G1 51 k = M1 1 (310 + 2 * k + 1) := fun k hk => by
          rw [h3 _ _ (by omega), h3 _ _ (by omega), h4 _ _ (by omega) (by omega), h4 _ _ (by omega) (by omega)]
          exact b4 k hk
        refine ⟨nI (gn + 1), (zu (zu (zu G1 50 gn x) 51 gn y) 49 2 (nI (gn + 1)), rfC q1), (zu (zu (zu M1 1 (310 + 2 * gn) x) 1 (310 + 2 * gn + 1) y) 1 3 (nI (gn + 1)), rfM), ?_, ?_, ?_⟩
        · unfold f_X11_addGuide
          rw [zz1_of TC_0, e_isAxis, zb2_some, if_pos hx, if_neg (by decide), e_isCoordinate, zb2_some, hw, if_pos (by decide)]
          simp only [g_now, Option.bind_some, g_guides, gI_of TC_49, b2]
          rw [if_pos (show nI gn < (10 : Int32) from nI_lt (b := 10) (by omega) (by decide))]
          simp only [g_hist, Option.bind_some, e1, g_now, g_guides]
          rw [show f_X4_add TC N (G1, rfC q1) 49 x y = _ from e_gadd (b := 1) (n := gn) (by decide) (by omega) d2]
          simp only [g_now, Option.bind_some, g_guides, gI_of TC_49, zu_same]
        · unfold f_X12_addGuide
          rw [zz1_of TM_0, m_in, zb2_some, isAxis_wth, if_pos hx, if_neg (by decide), m_isPlace, zb2_some, hw, if_pos (by decide)]
          simp only [g_v, Option.bind_some, v3_, b3]
          rw [if_pos (show ¬ nI gn = (10 : Int32) from fun e => h10 ((nI_eq (by omega) (by omega)).mp e)), e2]
          simp only [g_v, Option.bind_some, v3_, d3]
          rw [ixG, v_wr (by omega), Option.bind_some]
          simp only [g_v, Option.bind_some, v3_]
          rw [zu_ne (fun _ => by omega), d3, ixG, nI_1, v_wr (by omega), Option.bind_some]
          simp only [g_v, Option.bind_some, v3_, w3_]
          rw [zu_same, zu_ne (fun _ => by omega), zu_ne (fun _ => by omega), d3, nI_1]
        · have hu : QU (zu (zu (zu G1 50 gn x) 51 gn y) 49 2 (nI (gn + 1))) (zu (zu (zu M1 1 (310 + 2 * gn) x) 1 (310 + 2 * gn + 1) y) 1 3 (nI (gn + 1)) 1) := by
            obtain ⟨g3, y1, y2, y3⟩ := a6.grd
            obtain ⟨g4, z1, z2, z3⟩ := a6.tol
            refine ⟨⟨gn + 1, by omega, zu_same, zu_same, fun k hk => ?_⟩, ⟨g3, y1, ?_, ?_⟩, ⟨g4, z1, ?_, ?_⟩⟩
            · by_cases e : k = gn
              · subst e
                refine ⟨?_, ?_⟩
                · rw [zu_ne (fun e => by omega), zu_ne (fun e => by omega), zu_same, zu_ne (fun e => by omega), zu_ne (fun e => by omega), zu_same]
                · rw [zu_ne (fun e => by omega), zu_same, zu_ne (fun e => by omega), zu_same]
              · refine ⟨?_, ?_⟩
                · rw [zu_ne (fun e => by omega), zu_ne (fun e => by omega), zu_ne (fun e => by omega), zu_ne (fun e => by omega), zu_ne (fun e => by omega), zu_ne (fun e => by omega), (d4 k (by omega)).1]
                · rw [zu_ne (fun e => by omega), zu_ne (fun e => by omega), zu_ne (fun e => by omega), zu_ne (fun e => by omega), zu_ne (fun e => by omega), zu_ne (fun e => by omega), (d4 k (by omega)).2]
            · rw [zu_ne (fun e => by omega), zu_ne (fun e => by omega), zu_ne (fun e => by omega), y2]
            · rw [zu_ne (fun e => by omega), zu_ne (fun e => by omega), zu_ne (fun e => by omega), y3]
            · rw [zu_ne (fun e => by omega), zu_ne (fun e => by omega), zu_ne (fun e => by omega), z2]
            · rw [zu_ne (fun e => by omega), zu_ne (fun e => by omega), zu_ne (fun e => by omega), z3]
          refine INV_now h1 h2 ⟨n, th, sel, c, p, hs, hg, gt, ln, QS_fr a1 ?_ ?_ ?_ ?_, QC_fr a2 ?_ ?_, QP_fr a3 ?_ ?_ ?_, QH_fr a4 ?_ ?_ ?_ ?_ ?_, QL_fr a5 ?_ ?_ ?_ ?_, hu⟩ ?_ ?_ ?_ ?_ ?_
          all_goals (intros; rw [zu_ne (fun e => by omega), zu_ne (fun e => by omega), zu_ne (fun e => by omega)])
  · refine ⟨-1, _, _, ?_, ?_, h⟩
    · unfold f_X11_addGuide
      rw [zz1_of TC_0, e_isAxis, zb2_some, if_neg hx, if_pos rfl]
    · unfold f_X12_addGuide
      rw [zz1_of TM_0, m_in, zb2_some, isAxis_wth, if_neg hx, if_pos rfl]
end GDS
