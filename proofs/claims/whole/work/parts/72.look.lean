/-! snapping: drag, correction -/
theorem sub_cut {a b d : Int32} : (a + d) - (b + d) = a - b := by
  rw [Int32.sub_eq_add_neg, Int32.neg_add, Int32.sub_eq_add_neg, Int32.add_comm (-b), Int32.sub_eq_add_neg, Int32.add_assoc, ← Int32.add_assoc d, Int32.add_right_neg, Int32.zero_add]
theorem S_ex {sel : Nat → Bool} (h : ¬ mkS sel 20 = 0) : ∃ s, s < 20 ∧ sel s = true := by
  apply Classical.byContradiction
  intro hn
  apply h
  rw [S_eq0]
  intro s hs
  cases e : sel s
  · rfl
  · exact absurd ⟨s, hs, e⟩ hn
def lkw (D : Nat → Nat → Int32) (fr : Nat → Bool) (α : Nat) (gr tol lo mi hi : Int32) (m : Nat) : Int32 × Int32 := grS gr tol lo (shW D fr α tol lo mi hi (gdW D α tol lo mi hi (4, 0) m) 20)
section LKB
variable {G M : Nat → Nat → Int32} {q : Nat → Option Nat} {N : Nat} {n c ln : Nat} {th sel gt : Nat → Bool} {p : Nat → Nat} {hs hg : Nat → Option Nat} {ρ : Nat → Nat → Option Nat} {V : Nat → Int32} {s t a b y k o d u α : Nat} {w : Int32 × Int32} {tol x z g lo mi hi : Int32}
theorem look_both (hN : 30 < N) (hA : QA n th sel c p hs hg gt ln G (M 1)) (h0 : ¬ mkS sel 20 = 0) (hα : α < 2) (x : Int32) :
    ∃ (w : Int32 × Int32) (G' M' : Nat → Nat → Int32), f_X8_search TC N (G, rfC q) 373 1 (nI α) x = some (G', rfC q) ∧ f_X12_looksFor TM N (M, rfM) 0 (nI α) x = some (M', rfM) ∧ G' 373 0 = w.1 ∧ G' 373 1 = w.2 ∧ M' 0 14 = w.1 ∧ M' 0 15 = w.2 ∧ (∀ a j, a ≠ 373 → G' a j = G a j) ∧ ∀ a j, ¬ (a = 0 ∧ (j = 11 ∨ j = 14 ∨ j = 15)) → ¬ (5 ≤ a ∧ a ≤ 9) → M' a j = M a j := by
  obtain ⟨hS, hC, hP, hH, hL, hU⟩ := id hA
  obtain ⟨m, m1, m2, m3, m4⟩ := hU.num
  obtain ⟨g, g1, g2, g3⟩ := hU.grd
  obtain ⟨tl, t1, t2, t3⟩ := hU.tol
  obtain ⟨M1, e1, ⟨_, _, _, _, hb⟩, f1⟩ := m_gathers (N := N) (M := M) hN hS hC hH
  have hex := S_ex h0
  have hct : ∀ s, s < 20 → sel s = true → th s = true := hC.ct
  have bl := box_lo hS hα hct hex
  have bh := box_hi hS hα hct hex
  have bb := box_b hS hα hct hex
  have f11 : M1 1 = M 1 := funext (fun j => f1 _ _ (by omega) (by omega))
  have hG1 : ∀ a j, a ≠ 373 → zu G 373 2 (nI tl) a j = G a j := fun a j h => by rw [zu_cell h]
  have hS1 : QS n th (zu G 373 2 (nI tl)) (M 1) := QS_fr hS (fun s _ j _ => hG1 _ _ (by omega)) (hG1 _ _ (by omega)) rfl (fun _ _ _ _ => rfl)
  have hC1 : QC th sel (zu G 373 2 (nI tl)) (M 1) := QC_fr hC (hG1 _ _ (by omega)) (fun _ _ => rfl)
  have ew : ∀ (a b : Int32), zu (zu (zu G 373 0 a) 373 1 b) 373 2 (nI tl) = CG (zu G 373 2 (nI tl)) (a, b) := fun a b => by
    funext d k
    unfold CG
    by_cases h1 : d = 373
    · subst h1
      simp only [zu_at]
      by_cases h2 : k = 2
      · subst h2; rfl
      · simp only [h2, and_false, if_false]
    · rw [zu_cell h1, zu_cell h1, zu_cell h1, zu_cell h1, zu_cell h1, zu_cell h1]
  have eM : ∀ (a b : Int32), zu (zu M1 0 14 a) 0 15 b = MG M1 (a, b) := fun a b => rfl
  refine ⟨lkw (zu G 373 2 (nI tl)) (frB th sel) α (nI g) (nI tl) (lwF 99999 (bgn G α) sel 20 + x) (lwF 99999 (bgn G α) sel 20 + fdJ (hgF (-99999) (enG G α) sel 20 - lwF 99999 (bgn G α) sel 20) 2 + x) (hgF (-99999) (enG G α) sel 20 + x) m, CG (zu G 373 2 (nI tl)) _, MG M1 _, ?_, ?_, CG_0, CG_1, MG_0, MG_1, fun a j h => by rw [CG_o (fun e => h e.1), zu_cell h], fun a j h1 h2 => by rw [MG_o (fun e => h1 (by omega)), f1 a j (fun e => h1 (by omega)) h2]⟩
  · have l0 : ∀ S, f_X7_lineOf TC N (G, rfC q) 2 S (nI α) (0 : Int32) = some (linG G S α 0, (G, rfC q)) := fun S => e_lineOf (m := 0) (by omega) hα (by decide) S
    have l1 : ∀ S, f_X7_lineOf TC N (G, rfC q) 2 S (nI α) (1 : Int32) = some (linG G S α 1, (G, rfC q)) := fun S => e_lineOf (m := 1) (by omega) hα (by decide) S
    have l2 : ∀ S, f_X7_lineOf TC N (G, rfC q) 2 S (nI α) (2 : Int32) = some (linG G S α 2, (G, rfC q)) := fun S => e_lineOf (m := 2) (by omega) hα (by decide) S
    unfold f_X8_search lkw
    rw [zz1_of TC_373, g_shapes, Option.bind_some, gI_of TC_2, hC.cD, Option.bind_some, l0, zb2_some, zn_eq, gI_of TC_2, hC.cD, Option.bind_some, l1, zb2_some, zn_eq, gI_of TC_2, hC.cD, Option.bind_some, l2, zb2_some, zn_eq, pI_of TC_373, Option.bind_some, pI_of TC_373, Option.bind_some, g_guides, Option.bind_some, gI_of TC_49, zu_cell (by decide), zu_cell (by decide), t2, Option.bind_some, pI_of TC_373, Option.bind_some, ew]
    unfold linG
    rw [if_pos rfl, if_neg (by decide), if_neg (by decide), if_neg (by decide), if_pos rfl, bl, bh]
    rw [e_snapG (tol := nI tl) (m := m) (by omega) hS1 hC1 zu_same hα ((hG1 _ _ (by decide)).trans m2) m1, hG1 _ _ (by decide), g2]
  · unfold f_X12_looksFor lkw
    have hh : (hgF (-99999) (enG G α) sel 20 - lwF 99999 (bgn G α) sel 20).toInt = (hgF (-99999) (enG G α) sel 20).toInt - (lwF 99999 (bgn G α) sel 20).toInt := Jvm.Kit.i32_sub (by omega) (by omega)
    rw [zz1_of TM_0, e1, Option.bind_some, pI_of TM_0, Option.bind_some, pI_of TM_0, Option.bind_some, eM, gm8, Option.bind_some, show (40 : Int32) + nI α = nI (40 + α) from nI_add 40 α, aI_of TM_7 ML_7 (show 40 + α < 42 by omega) (by decide), Option.bind_some, zn_eq, gm9, Option.bind_some, aI_of TM_8 ML_8 (show 40 + α < 42 by omega) (by decide), Option.bind_some, zn_eq, zn_eq, MG_o (by omega), MG_o (by omega), (hb α hα).1, (hb α hα).2, sub_cut, ← i_half (by rw [hh]; omega), Int32.add_assoc, Int32.add_comm x, ← Int32.add_assoc]
    rw [m_snapG (G := zu G 373 2 (nI tl)) (tol := nI tl) (g := nI g) (m := m) (by omega) (by rw [f11]; exact hS1) (by rw [f11]; exact hC1) (by rw [f11]; exact t3) hα (by rw [f11]; exact g3) m1 (by rw [f11]; exact m3) (fun k hk => by rw [f11, hG1 _ _ (by decide), hG1 _ _ (by decide)]; exact m4 k hk)]
theorem o_correction (hN : 1901 < N) {σC σM : zS} (hI : INV σC σM) (x1 x2 x3 : Int32) : zAg INV (f_X11_correction TC N σC 0 x1 x2 x3) (f_X12_correction TM N σM 0 x1 x2 x3) := by
  obtain ⟨G, q, M, rfl, rfl, ⟨n, th, sel, c, p, hs, hg, gt, ln, hA⟩, hH, hT⟩ := id hI
  unfold f_X11_correction f_X12_correction
  rw [zz1_of TC_0, zz1_of TM_0, e_isWay, m_isStep, zb2_some, zb2_some]
  rcases wth01 x1 (-20000) 20000 with hw | hw
  · rw [hw, if_pos rfl, if_pos rfl]
    exact ⟨_, _, _, rfl, rfl, hI⟩
  rw [hw, if_neg (by decide), if_neg (by decide), e_isWay, m_isStep, zb2_some, zb2_some]
  rcases wth01 x2 (-20000) 20000 with hw2 | hw2
  · rw [hw2, if_pos rfl, if_pos rfl]
    exact ⟨_, _, _, rfl, rfl, hI⟩
  rw [hw2, if_neg (by decide), if_neg (by decide), e_isAxis, m_in, zb2_some, zb2_some, isAxis_wth]
  by_cases h3 : x3 = 0 ∨ x3 = 1
  · rw [if_pos h3, if_neg (by decide), if_neg (by decide)]
    simp only [g_now, g_shapes, Option.bind_some, gI_of TC_2, hA.2.1.cD]
    rw [m_chosen (by omega) hA.1 hA.2.1, zb2_some]
    by_cases h0 : mkS sel 20 = 0
    · rw [if_neg (fun n => n h0), if_neg (fun n => n h0)]
      exact ⟨_, _, _, rfl, rfl, hI⟩
    rw [if_pos h0, if_pos h0]
    have key : ∀ (α : Nat) (x : Int32), α < 2 → zAg INV (f_X11_correction_J55 TC N 0 (nI α) (G, rfC q) 373 1 x) ((f_X12_looksFor TM N (M, rfM) 0 (nI α) x).bind fun s14 => (gI TM s14 0 12 15).bind fun x15 => some (x15, s14)) := fun α x hα => by
      obtain ⟨w, G', M', e1, e2, a1, a2, a3, a4, a5, a6⟩ := look_both (q := q) (N := N) (by omega) hA h0 hα x
      unfold f_X11_correction_J55
      rw [e1, e2, Option.bind_some, Option.bind_some, g_snap, Option.bind_some, gI_of TC_373, a2, gI_of TM_0, a4]
      exact ⟨_, _, _, rfl, rfl, INV_scr (QA_QR hA) hH hT (fun a j h => a5 _ _ (by omega)) (a5 _ _ (by decide)) (fun j => a5 _ _ (by decide)) (fun j => a6 _ _ (by omega) (by omega)) (fun j => a6 _ _ (by omega) (by omega)) (a6 _ _ (by omega) (by omega)) (a6 _ _ (by omega) (by omega)) (fun j => a6 _ _ (by omega) (by omega))⟩
    rcases h3 with rfl | rfl
    · rw [g_snap, Option.bind_some, if_neg (fun n => n rfl), if_neg (fun n => n rfl)]
      exact key 0 x1 (by decide)
    · rw [g_snap, Option.bind_some, if_pos (by decide), if_pos (by decide)]
      exact key 1 x2 (by decide)
  · rw [if_neg h3, if_pos rfl, if_pos rfl]
    exact ⟨_, _, _, rfl, rfl, hI⟩
theorem o_drag (hN : 1901 < N) {σC σM : zS} (hI : INV σC σM) (x y : Int32) : zAg INV (f_X11_drag TC N σC 0 x y) (f_X12_drag TM N σM 0 x y) := by
  obtain ⟨G, q, M, rfl, rfl, ⟨n, th, sel, c, p, hs, hg, gt, ln, hA⟩, hH, hT⟩ := id hI
  unfold f_X11_drag f_X12_drag
  rw [zz1_of TC_0, zz1_of TM_0, e_isWay, m_isStep, zb2_some, zb2_some]
  rcases wth01 x (-20000) 20000 with hw | hw
  · rw [hw, if_pos rfl, if_pos rfl]
    exact ⟨_, _, _, rfl, rfl, hI⟩
  rw [hw, if_neg (by decide), if_neg (by decide), e_isWay, m_isStep, zb2_some, zb2_some]
  rcases wth01 y (-20000) 20000 with hw2 | hw2
  · rw [hw2, if_neg (by decide), if_neg (by decide)]
    exact ⟨_, _, _, rfl, rfl, hI⟩
  rw [hw2, if_pos (by decide), if_pos (by decide)]
  simp only [g_now, g_shapes, Option.bind_some, gI_of TC_2, hA.2.1.cD]
  rw [m_chosen (by omega) hA.1 hA.2.1, zb2_some]
  by_cases h0 : mkS sel 20 = 0
  · rw [if_neg (fun n => n h0), if_neg (fun n => n h0)]
    exact ⟨_, _, _, rfl, rfl, hI⟩
  rw [if_pos h0, if_pos h0]
  obtain ⟨w, G3, M3, e1, e2, a1, a2, a3, a4, a5, a6⟩ := look_both (q := q) (N := N) (α := 0) (by omega) hA h0 (by decide) x
  have hA3 : QA n th sel c p hs hg gt ln G3 (M3 1) := QA_same hA (fun i _ => a6 _ _ (by omega) (by omega)) (fun o j _ h => a5 _ _ (by omega))
  obtain ⟨w2, G4, M4, e3, e4, b1, b2, b3, b4, b5, b6⟩ := look_both (q := q) (N := N) (α := 1) (by omega) hA3 h0 (by decide) y
  have hA4 : QA n th sel c p hs hg gt ln G4 (M4 1) := QA_same hA3 (fun i _ => b6 _ _ (by omega) (by omega)) (fun o j _ h => b5 _ _ (by omega))
  have c5 : ∀ a j, a ≠ 373 → G4 a j = G a j := fun a j h => (b5 a j h).trans (a5 a j h)
  have c6 : ∀ a j, ¬ (a = 0 ∧ (j = 11 ∨ j = 14 ∨ j = 15)) → ¬ (5 ≤ a ∧ a ≤ 9) → M4 a j = M a j := fun a j h h2 => (b6 a j h h2).trans (a6 a j h h2)
  have i0 : nI 0 = (0 : Int32) := rfl
  have i1 : nI 1 = (1 : Int32) := rfl
  have e1' : f_X8_search TC N (G, rfC q) 373 1 (0 : Int32) x = some (G3, rfC q) := by rw [← i0]; exact e1
  have e2' : f_X12_looksFor TM N (M, rfM) 0 (0 : Int32) x = some (M3, rfM) := by rw [← i0]; exact e2
  have e3' : f_X8_search TC N (G3, rfC q) 373 1 (1 : Int32) y = some (G4, rfC q) := by rw [← i1]; exact e3
  have e4' : f_X12_looksFor TM N (M3, rfM) 0 (1 : Int32) y = some (M4, rfM) := by rw [← i1]; exact e4
  rw [g_snap, Option.bind_some, e1', Option.bind_some, g_snap, Option.bind_some, gI_of TC_373, a1, Option.bind_some, Option.bind_some, gI_of TC_373, a2, Option.bind_some, zn_eq, Option.bind_some, g_now, Option.bind_some, e3', Option.bind_some, g_snap, Option.bind_some, gI_of TC_373, b1, Option.bind_some, Option.bind_some, gI_of TC_373, b2, Option.bind_some, zn_eq]
  rw [e2', Option.bind_some, gI_of TM_0, a3, Option.bind_some, gI_of TM_0, a4, Option.bind_some, zn_eq, e4', Option.bind_some, gI_of TM_0, b3, Option.bind_some, zn_eq, gI_of TM_0, b4, Option.bind_some]
  obtain ⟨M0, e0, l1, l2⟩ := m_lays (N := N) (dx := x + w.2) (dy := y + w2.2) (by omega) hA4.1 hA4.2.1
  have l21 : M0 1 = M4 1 := funext (fun j => l2 _ _ (by omega) (by omega))
  have ex : ∀ s, s < 20 → stB th G4 (M0 10) (M0 11) s = stB th G4 (fun s => if sel s = true then x + w.2 else 0) (fun s => if sel s = true then y + w2.2 else 0) s := fun s h => by
    unfold stB
    rw [(l1 s h).1, (l1 s h).2]
  have ea : allB (stB th G4 (M0 10) (M0 11)) 20 = allB (stB th G4 (fun s => if sel s = true then x + w.2 else 0) (fun s => if sel s = true then y + w2.2 else 0)) 20 := by
    rw [Bool.eq_iff_iff, allB_iff, allB_iff]
    exact ⟨fun h i hi => by rw [← ex i hi]; exact h i hi, fun h i hi => by rw [ex i hi]; exact h i hi⟩
  rw [e_canShiftChosen (by omega) hA4.1 hA4.2.1, zb2_some, e0, Option.bind_some, m_isInside (n := n) (G := G4) (th := th) (by omega) (by rw [l21]; exact hA4.1), zb2_some, ea]
  have f1 : ∀ j, M0 1 j = M 1 j := fun j => (l2 _ _ (by omega) (by omega)).trans (c6 _ _ (by omega) (by omega))
  have f2 : ∀ j, M0 2 j = M 2 j := fun j => (l2 _ _ (by omega) (by omega)).trans (c6 _ _ (by omega) (by omega))
  have f3 : M0 0 2 = M 0 2 := (l2 _ _ (by omega) (by omega)).trans (c6 _ _ (by omega) (by omega))
  have f4 : M0 0 18 = M 0 18 := (l2 _ _ (by omega) (by omega)).trans (c6 _ _ (by omega) (by omega))
  have f5 : ∀ j, M0 13 j = M 13 j := fun j => (l2 _ _ (by omega) (by omega)).trans (c6 _ _ (by omega) (by omega))
  cases hb : allB (stB th G4 (fun s => if sel s = true then x + w.2 else 0) (fun s => if sel s = true then y + w2.2 else 0)) 20
  · rw [if_neg (by decide), if_neg (by decide)]
    exact ⟨_, _, _, rfl, rfl, INV_scr (QA_QR hA) hH hT (fun a j h => c5 _ _ (by omega)) (c5 _ _ (by decide)) (fun j => c5 _ _ (by decide)) f1 f2 f3 f4 f5⟩
  · rw [if_pos (by decide), if_pos (by decide)]
    obtain ⟨G1, q1, M1, e1, e2, hA1, h1, h2, h3, h4⟩ := keep3 (M0 := M0) (G0 := G4) hN hA hH hT (fun a j h => c5 _ _ (by omega)) (c5 _ _ (by decide)) (fun j => c5 _ _ (by decide)) f1 f2 f3 f4 f5
    have hb1 : allB (stB th G1 (fun s => if sel s = true then x + w.2 else 0) (fun s => if sel s = true then y + w2.2 else 0)) 20 = true := by
      rw [allB_iff] at hb ⊢
      intro i hi
      have := hb i hi
      unfold stB at this ⊢
      rw [h3 _ _ (by omega), h3 _ _ (by omega)]
      exact this
    obtain ⟨G2, M2, e5, e6, hA2, d1, d2⟩ := go_both (q := q1) (N := N) (dx := x + w.2) (dy := y + w2.2) (by omega) hA1 (fun s h => ⟨(h4 _ _ (by omega) (by omega)).trans (l1 s h).1, (h4 _ _ (by omega) (by omega)).trans (l1 s h).2⟩) hb1
    refine ⟨w.1 + 10 * w2.1, (G2, rfC q1), (M2, rfM), ?_, ?_, INV_now h1 h2 (QA_QR hA2) (fun a j _ _ => d1 _ _ (by omega)) (fun j => d2 _ _ (by omega)) (d2 _ _ (by omega)) (d2 _ _ (by omega)) (fun j => d2 _ _ (by omega))⟩
    · simp only [g_hist, g_now, Option.bind_some, e1, e5]
    · rw [e2, Option.bind_some, e6, Option.bind_some]
end LKB
