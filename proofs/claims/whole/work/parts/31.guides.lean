/-! guides, grid, tolerance; typing -/
section GDS
variable {N : Nat}
theorem m_sets {M M1 : Nat → Nat → Int32} {i : Nat} {x y : Int32} (hi : i < 380) (hx : x = nI i) (e : f_X12_act TM N (M, rfM) 0 = some (M1, rfM)) : f_X12_sets TM N (M, rfM) 0 x y = some (M1 1 i, (zu M1 1 i y, rfM)) := by
  unfold f_X12_sets
  rw [zz1_of TM_0, e]
  simp only [Option.bind_some, g_v]
  rw [v_rdL hx hi]
  simp only [Option.bind_some]
  rw [v_wrL hx hi, Option.bind_some]
theorem o_clearGuides (hN : 1901 < N) {σC σM : zS} (h : INV σC σM) : zAg INV (f_X11_clearGuides TC N σC 0) (f_X12_clearGuides TM N σM 0) := by
  obtain ⟨G, q, M, rfl, rfl, ⟨n, th, sel, c, p, hs, hg, gt, ln, hA⟩, hH, hT⟩ := id h
  obtain ⟨G1, q1, M1, e1, e2, ⟨a1, a2, a3, a4, a5, a6⟩, h1, h2, h3, h4⟩ := keep2 hN hA hH hT
  obtain ⟨gn, b1, b2, b3, b4⟩ := a6.num
  refine ⟨nI gn, (zu G1 49 2 0, rfC q1), (zu M1 1 3 0, rfM), ?_, ?_, ?_⟩
  · unfold f_X11_clearGuides
    rw [zz1_of TC_0]
    simp only [g_hist, g_now, Option.bind_some, e1, g_guides, gI_of TC_49, pI_of TC_49, b2]
  · unfold f_X12_clearGuides
    rw [zz1_of TM_0, m_sets (i := 3) (x := 3) (by decide) rfl e2, zb2_some, b3]
  · refine INV_now h1 h2 ⟨n, th, sel, c, p, hs, hg, gt, ln, QS_fr a1 ?_ ?_ ?_ ?_, QC_fr a2 ?_ ?_, QP_fr a3 ?_ ?_ ?_, QH_fr a4 ?_ ?_ ?_ ?_ ?_, QL_fr a5 ?_ ?_ ?_ ?_, ⟨⟨0, by omega, zu_same.trans nI_0.symm, zu_same.trans nI_0.symm, fun k hk => by omega⟩, ?_, ?_⟩⟩ ?_ ?_ ?_ ?_ ?_
    any_goals (intros; first | exact zu_ne (fun e e2 => by omega) | exact zu_ne (fun e => by omega))
    · obtain ⟨g, x1, x2, x3⟩ := a6.grd
      exact ⟨g, x1, (zu_ne (fun _ => by decide)).trans x2, (zu_ne (fun _ => by decide)).trans x3⟩
    · obtain ⟨g, x1, x2, x3⟩ := a6.tol
      exact ⟨g, x1, (zu_ne (fun _ => by decide)).trans x2, (zu_ne (fun _ => by decide)).trans x3⟩
theorem o_setGrid (hN : 1901 < N) {σC σM : zS} (h : INV σC σM) (x : Int32) : zAg INV (f_X11_setGrid TC N σC 0 x) (f_X12_setGrid TM N σM 0 x) := by
  obtain ⟨G, q, M, rfl, rfl, ⟨n, th, sel, c, p, hs, hg, gt, ln, hA⟩, hH, hT⟩ := id h
  rcases wth01 x 0 100 with hw | hw
  · refine ⟨-1, _, _, ?_, ?_, h⟩
    · unfold f_X11_setGrid
      rw [zz1_of TC_0, e_isWithin, zb2_some, hw, if_neg (by decide)]
    · unfold f_X12_setGrid
      rw [zz1_of TM_0, m_in, zb2_some, hw, if_pos rfl]
  · obtain ⟨w, hwl, rfl⟩ : ∃ w, w ≤ 100 ∧ x = nI w := by
      have hb := wth1.mp hw
      refine (nI_of2 (M := 100) (n := 100) (by decide) (fun e => ?_) hb.2).imp fun j hj => hj
      have := hb.1
      rw [fa_lt] at e
      rw [fa_le] at this
      omega
    obtain ⟨G1, q1, M1, e1, e2, ⟨a1, a2, a3, a4, a5, a6⟩, h1, h2, h3, h4⟩ := keep2 hN hA hH hT
    obtain ⟨g, x1, x2, x3⟩ := a6.grd
    refine ⟨nI g, (zu G1 49 3 (nI w), rfC q1), (zu M1 1 4 (nI w), rfM), ?_, ?_, ?_⟩
    · unfold f_X11_setGrid
      rw [zz1_of TC_0, e_isWithin, zb2_some, hw, if_pos (by decide)]
      simp only [g_hist, g_now, Option.bind_some, e1, g_guides, gI_of TC_49, pI_of TC_49, x2]
    · unfold f_X12_setGrid
      rw [zz1_of TM_0, m_in, zb2_some, hw, if_neg (by decide), m_sets (i := 4) (x := 4) (by decide) rfl e2, zb2_some, x3]
    · have hu : QU (zu G1 49 3 (nI w)) (zu M1 1 4 (nI w) 1) := by
        obtain ⟨gn, b1, b2, b3, b4⟩ := a6.num
        obtain ⟨g3, y1, y2, y3⟩ := a6.tol
        refine ⟨⟨gn, b1, (zu_ne (fun _ => by decide)).trans b2, (zu_ne (fun _ => by decide)).trans b3, fun k hk => ⟨?_, ?_⟩⟩, ⟨w, hwl, zu_same, zu_same⟩, ⟨g3, y1, (zu_ne (fun _ => by decide)).trans y2, (zu_ne (fun _ => by decide)).trans y3⟩⟩
        · rw [zu_ne (fun e => by omega), zu_ne (fun _ => by omega), (b4 k hk).1]
        · rw [zu_ne (fun e => by omega), zu_ne (fun _ => by omega), (b4 k hk).2]
      refine INV_now h1 h2 ⟨n, th, sel, c, p, hs, hg, gt, ln, QS_fr a1 ?_ ?_ ?_ ?_, QC_fr a2 ?_ ?_, QP_fr a3 ?_ ?_ ?_, QH_fr a4 ?_ ?_ ?_ ?_ ?_, QL_fr a5 ?_ ?_ ?_ ?_, hu⟩ ?_ ?_ ?_ ?_ ?_
      all_goals (intros; first | exact zu_ne (fun e e2 => by omega) | exact zu_ne (fun e => by omega))
theorem o_setTolerance (hN : 1901 < N) {σC σM : zS} (h : INV σC σM) (x : Int32) : zAg INV (f_X11_setTolerance TC N σC 0 x) (f_X12_setTolerance TM N σM 0 x) := by
  obtain ⟨G, q, M, rfl, rfl, ⟨n, th, sel, c, p, hs, hg, gt, ln, hA⟩, hH, hT⟩ := id h
  rcases wth01 x 0 50 with hw | hw
  · refine ⟨-1, _, _, ?_, ?_, h⟩
    · unfold f_X11_setTolerance
      rw [zz1_of TC_0, e_isWithin, zb2_some, hw, if_neg (by decide)]
    · unfold f_X12_setTolerance
      rw [zz1_of TM_0, m_in, zb2_some, hw, if_pos rfl]
  · obtain ⟨w, hwl, rfl⟩ : ∃ w, w ≤ 50 ∧ x = nI w := by
      have hb := wth1.mp hw
      refine (nI_of2 (M := 50) (n := 50) (by decide) (fun e => ?_) hb.2).imp fun j hj => hj
      have := hb.1
      rw [fa_lt] at e
      rw [fa_le] at this
      omega
    obtain ⟨G1, q1, M1, e1, e2, ⟨a1, a2, a3, a4, a5, a6⟩, h1, h2, h3, h4⟩ := keep2 hN hA hH hT
    obtain ⟨g, x1, x2, x3⟩ := a6.tol
    refine ⟨nI g, (zu G1 49 4 (nI w), rfC q1), (zu M1 1 5 (nI w), rfM), ?_, ?_, ?_⟩
    · unfold f_X11_setTolerance
      rw [zz1_of TC_0, e_isWithin, zb2_some, hw, if_pos (by decide)]
      simp only [g_hist, g_now, Option.bind_some, e1, g_guides, gI_of TC_49, pI_of TC_49, x2]
    · unfold f_X12_setTolerance
      rw [zz1_of TM_0, m_in, zb2_some, hw, if_neg (by decide), m_sets (i := 5) (x := 5) (by decide) rfl e2, zb2_some, x3]
    · have hu : QU (zu G1 49 4 (nI w)) (zu M1 1 5 (nI w) 1) := by
        obtain ⟨gn, b1, b2, b3, b4⟩ := a6.num
        obtain ⟨g3, y1, y2, y3⟩ := a6.grd
        refine ⟨⟨gn, b1, (zu_ne (fun _ => by decide)).trans b2, (zu_ne (fun _ => by decide)).trans b3, fun k hk => ⟨?_, ?_⟩⟩, ⟨g3, y1, (zu_ne (fun _ => by decide)).trans y2, (zu_ne (fun _ => by decide)).trans y3⟩, ⟨w, hwl, zu_same, zu_same⟩⟩
        · rw [zu_ne (fun e => by omega), zu_ne (fun _ => by omega), (b4 k hk).1]
        · rw [zu_ne (fun e => by omega), zu_ne (fun _ => by omega), (b4 k hk).2]
      refine INV_now h1 h2 ⟨n, th, sel, c, p, hs, hg, gt, ln, QS_fr a1 ?_ ?_ ?_ ?_, QC_fr a2 ?_ ?_, QP_fr a3 ?_ ?_ ?_, QH_fr a4 ?_ ?_ ?_ ?_ ?_, QL_fr a5 ?_ ?_ ?_ ?_, hu⟩ ?_ ?_ ?_ ?_ ?_
      all_goals (intros; first | exact zu_ne (fun e e2 => by omega) | exact zu_ne (fun e => by omega))
end GDS
