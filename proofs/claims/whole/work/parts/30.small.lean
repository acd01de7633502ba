/-! the small operations -/
def QA (n : Nat) (th sel : Nat → Bool) (c : Nat) (p : Nat → Nat) (hs hg : Nat → Option Nat) (gt : Nat → Bool) (ln : Nat) (D : Nat → Nat → Int32) (V : Nat → Int32) : Prop := QS n th D V ∧ QC th sel D V ∧ QP th c p D V ∧ QH th sel hs hg gt D V ∧ QL th ln D V ∧ QU D V
theorem QA_QR {n c ln : Nat} {th sel gt : Nat → Bool} {p : Nat → Nat} {hs hg : Nat → Option Nat} {D : Nat → Nat → Int32} {V : Nat → Int32} (h : QA n th sel c p hs hg gt ln D V) : QR D V := ⟨n, th, sel, c, p, hs, hg, gt, ln, h⟩
theorem QA_same {n c ln : Nat} {th sel gt : Nat → Bool} {p : Nat → Nat} {hs hg : Nat → Option Nat} {D D' : Nat → Nat → Int32} {V V' : Nat → Int32} (h : QA n th sel c p hs hg gt ln D V) (hv : ∀ i, i < 380 → V' i = V i) (hd : ∀ o j, 1 ≤ o → o ≤ 51 → D' o j = D o j) : QA n th sel c p hs hg gt ln D' V' := by
  obtain ⟨a1, a2, a3, a4, a5, a6⟩ := h
  exact ⟨QS_fr a1 (fun s hs j hj => hd _ _ (by omega) (by omega)) (hd _ _ (by omega) (by omega)) (hv 0 (by omega)) (fun s hs j hj => hv _ (by omega)), QC_fr a2 (hd _ _ (by omega) (by omega)) (fun s hs => hv _ (by omega)), QP_fr a3 (fun s hs => hd _ _ (by omega) (by omega)) (hv 1 (by omega)) (fun k hk => hv _ (by omega)), QH_fr a4 (fun s hs => hd _ _ (by omega) (by omega)) (fun s hs => hv _ (by omega)) (fun g hg => hd _ _ (by omega) (by omega)) (fun g hg _ => hd _ _ (by omega) (by omega)) (fun i hi => hv _ (by omega)), QL_fr a5 (hd _ _ (by omega) (by omega)) (hv 2 (by omega)) (fun s hs j hj => hd _ _ (by omega) (by omega)) (fun i hi => hv _ (by omega)), QU_fr a6 (fun j _ _ => hd _ _ (by omega) (by omega)) (fun i _ hi => hv _ (by omega)) (fun n k _ _ _ => ⟨hd _ _ (by omega) (by omega), hd _ _ (by omega) (by omega)⟩) (fun i hi => hv _ (by omega))⟩
section SML
variable {G M : Nat → Nat → Int32} {q : Nat → Option Nat} {N : Nat} {n c ln : Nat} {th sel gt : Nat → Bool} {p : Nat → Nat} {hs hg : Nat → Option Nat}
theorem keep2 (hN : 1901 < N) (hA : QA n th sel c p hs hg gt ln G (M 1)) (hH : Hist G q M) (hT : Txt G M) :
    ∃ G1 q1 M1, f_X5_keep TC N (G, rfC q) 52 1 = some (G1, rfC q1) ∧ f_X12_act TM N (M, rfM) 0 = some (M1, rfM) ∧ QA n th sel c p hs hg gt ln G1 (M1 1) ∧ Hist G1 q1 M1 ∧ Txt G1 M1 ∧ (∀ a j, (a < 52 ∨ 360 ≤ a) → G1 a j = G a j) ∧ ∀ a j, ¬ (a = 0 ∧ j = 2) → a ≠ 2 → M1 a j = M a j := by
  obtain ⟨G1, q1, M1, e1, e2, h1, h2, h3⟩ := keep_act hN (QA_QR hA) hH
  exact ⟨G1, q1, M1, e1, e2, QA_same hA (fun i _ => h3 1 i (by omega) (by omega)) (fun o j _ ho => h2 o j (by omega)), h1, Txt_fr hT (h2 _ _ (by omega)) (fun j => h2 _ _ (by omega)) (h3 _ _ (by omega) (by omega)) (fun j => h3 _ _ (by omega) (by omega)), h2, h3⟩
theorem INV_mk (hR : QR G (M 1)) (hH : Hist G q M) (hT : Txt G M) : INV (G, rfC q) (M, rfM) := ⟨G, q, M, rfl, rfl, hR, hH, hT⟩
/-- after an act that changes 'now' alone -/
theorem INV_now {G' M' : Nat → Nat → Int32} (hH : Hist G q M) (hT : Txt G M) (hR : QR G' (M' 1)) (e1 : ∀ a j, 52 ≤ a → a < 362 → G' a j = G a j) (e2 : ∀ j, M' 2 j = M 2 j) (e3 : M' 0 2 = M 0 2) (e4 : M' 0 18 = M 0 18) (e5 : ∀ j, M' 13 j = M 13 j) : INV (G', rfC q) (M', rfM) :=
  ⟨G', q, M', rfl, rfl, hR, Hist_fr hH (fun a j h1 h2 => e1 a j h1 (by omega)) e2 e3, Txt_fr hT (e1 _ _ (by omega) (by omega)) (fun j => e1 _ _ (by omega) (by omega)) e4 e5⟩
theorem m_isPlace {x : Int32} {σ : zS} : f_X12_isPlace TM N σ x = some (wth x (-10000) 10000, σ) := by
  unfold f_X12_isPlace
  rw [m_in, zb2_some, rZ_01 (wth01 _ _ _)]
theorem m_isSize {x : Int32} {σ : zS} : f_X12_isSize TM N σ x = some (wth x 1 500, σ) := by
  unfold f_X12_isSize
  rw [m_in, zb2_some, rZ_01 (wth01 _ _ _)]
theorem m_isStep {x : Int32} {σ : zS} : f_X12_isStep TM N σ x = some (wth x (-20000) 20000, σ) := by
  unfold f_X12_isStep
  rw [m_in, zb2_some, rZ_01 (wth01 _ _ _)]
theorem g_now : gR TC (G, rfC q) 0 11 0 = some 1 := (gR_of TC_0).trans rf_0_0
theorem g_hist : gR TC (G, rfC q) 0 11 1 = some 52 := (gR_of TC_0).trans rf_0_1
theorem g_text : gR TC (G, rfC q) 0 11 2 = some 360 := (gR_of TC_0).trans rf_0_2
theorem g_units : gR TC (G, rfC q) 0 11 3 = some 370 := (gR_of TC_0).trans rf_0_3
theorem g_snap : gR TC (G, rfC q) 0 11 4 = some 373 := (gR_of TC_0).trans rf_0_4
theorem g_shapes : gR TC (G, rfC q) 1 2 0 = some 2 := (gR_of TC_1).trans rf_1_0
theorem g_conns : gR TC (G, rfC q) 1 2 1 = some 24 := (gR_of TC_1).trans rf_1_1
theorem g_groups : gR TC (G, rfC q) 1 2 2 = some 46 := (gR_of TC_1).trans rf_1_2
theorem g_guides : gR TC (G, rfC q) 1 2 3 = some 49 := (gR_of TC_1).trans rf_1_3
theorem v_rdL {i : Nat} {x : Int32} (hx : x = nI i) (hi : i < 380) : aI TM (M, rfM) 1 13 x = some (M 1 i) := by rw [hx]; exact v_rd hi
theorem v_wrL {i : Nat} {x y : Int32} (hx : x = nI i) (hi : i < 380) : sI TM (M, rfM) 1 x y = some (zu M 1 i y, rfM) := by rw [hx]; exact v_wr hi
theorem v0_ : aI TM (M, rfM) 1 13 (0 : Int32) = some (M 1 0) := v_rd (i := 0) (by decide)
theorem v1_ : aI TM (M, rfM) 1 13 (1 : Int32) = some (M 1 1) := v_rd (i := 1) (by decide)
theorem v2_ : aI TM (M, rfM) 1 13 (2 : Int32) = some (M 1 2) := v_rd (i := 2) (by decide)
theorem v3_ : aI TM (M, rfM) 1 13 (3 : Int32) = some (M 1 3) := v_rd (i := 3) (by decide)
theorem v4_ : aI TM (M, rfM) 1 13 (4 : Int32) = some (M 1 4) := v_rd (i := 4) (by decide)
theorem v5_ : aI TM (M, rfM) 1 13 (5 : Int32) = some (M 1 5) := v_rd (i := 5) (by decide)
theorem w0_ {x : Int32} : sI TM (M, rfM) 1 (0 : Int32) x = some (zu M 1 0 x, rfM) := v_wr (i := 0) (by decide)
theorem w1_ {x : Int32} : sI TM (M, rfM) 1 (1 : Int32) x = some (zu M 1 1 x, rfM) := v_wr (i := 1) (by decide)
theorem w2_ {x : Int32} : sI TM (M, rfM) 1 (2 : Int32) x = some (zu M 1 2 x, rfM) := v_wr (i := 2) (by decide)
theorem w3_ {x : Int32} : sI TM (M, rfM) 1 (3 : Int32) x = some (zu M 1 3 x, rfM) := v_wr (i := 3) (by decide)
theorem w4_ {x : Int32} : sI TM (M, rfM) 1 (4 : Int32) x = some (zu M 1 4 x, rfM) := v_wr (i := 4) (by decide)
theorem w5_ {x : Int32} : sI TM (M, rfM) 1 (5 : Int32) x = some (zu M 1 5 x, rfM) := v_wr (i := 5) (by decide)
theorem m_isSelected {s : Nat} (h : s < 20) (hS : QS n th G (M 1)) (hC : QC th sel G (M 1)) : f_X12_isSelected TM N (M, rfM) 0 (nI s) = some (bI (sel s), (M, rfM)) := by
  unfold f_X12_isSelected
  rw [zz1_of TM_0, show (0 : Int32) = nI 0 from rfl, m_of (by omega), zb2_some]
  show (if ¬ M 1 (10 + 8 * s) = 1 then _ else _) = _
  rw [hS.tV s h]
  by_cases ht : th s = true
  · rw [ht, if_neg (fun n => n rfl), show (6 : Int32) = nI 6 from rfl, m_of (by omega), zb2_some, hC.cV s h ht]
    by_cases hsl : sel s = true
    · rw [hsl, if_neg (fun n => n rfl)]; rfl
    · have h2 : sel s = false := by simpa using hsl
      rw [h2, if_pos (by decide)]; rfl
  · have h2 : th s = false := by simpa using ht
    have h3 : sel s = false := by
      by_cases hsl : sel s = true
      · exact absurd (hC.ct s h hsl) ht
      · simpa using hsl
    rw [h2, h3, if_pos (by decide)]; rfl
theorem or_0 (x : Int32) : x ||| 0 = x := by
  apply b_ext
  intro j hj
  rw [b_or, b_0, Bool.or_false]
theorem m_chosen (hN : 20 < N) (hS : QS n th G (M 1)) (hC : QC th sel G (M 1)) : f_X12_chosen TM N (M, rfM) 0 = some (mkS sel 20, (M, rfM)) := by
  unfold f_X12_chosen
  rw [zz1_of TM_0]
  refine zl3_end 20 (fun i => mkS sel i) (fun i => nI i) (fun _ => (M, rfM)) rfl nI_0.symm rfl hN (fun i hi k => ?_) (fun k => ?_)
  · unfold f_X12_chosen_L4
    rw [if_neg (nI_n20 hi), m_isSelected hi hS hC, zb2_some]
    by_cases h : sel i = true
    · rw [h, if_neg (by decide), zn_eq, zn_eq, nI_1, mkS_t h]
    · have h2 : sel i = false := by simpa using h
      rw [h2, if_pos (show bI false = 0 from rfl), zn_eq, zn_eq, nI_1, or_0, mkS_f h]
  · unfold f_X12_chosen_L4
    rw [if_pos (nI_20 (Nat.le_refl 20) (by decide))]
theorem o_selected (hN : 1901 < N) {σC σM : zS} (h : INV σC σM) : zAg INV (f_X11_selected TC N σC 0) (f_X12_selected TM N σM 0) := by
  obtain ⟨G, q, M, rfl, rfl, ⟨n, th, sel, c, p, hs, hg, gt, ln, a1, a2, a3, a4, a5, a6⟩, hH, hT⟩ := id h
  refine ⟨mkS sel 20, _, _, ?_, ?_, h⟩
  · unfold f_X11_selected
    rw [zz1_of TC_0]
    simp only [g_now, g_shapes, Option.bind_some, gI_of TC_2, a2.cD]
  · unfold f_X12_selected
    rw [zz1_of TM_0, m_chosen (by omega) a1 a2, zb2_some]
theorem o_connectors {σC σM : zS} (h : INV σC σM) : zAg INV (f_X11_connectors TC N σC 0) (f_X12_connectors TM N σM 0) := by
  obtain ⟨G, q, M, rfl, rfl, ⟨n, th, sel, c, p, hs, hg, gt, ln, a1, a2, a3, a4, a5, a6⟩, hH, hT⟩ := id h
  refine ⟨nI ln, _, _, ?_, ?_, h⟩
  · unfold f_X11_connectors
    rw [zz1_of TC_0]
    simp only [g_now, g_conns, Option.bind_some, gI_of TC_24, a5.lD]
  · unfold f_X12_connectors
    rw [zz1_of TM_0]
    simp only [g_v, Option.bind_some, v2_, a5.lV]
theorem o_clear {σC σM : zS} (h : INV σC σM) : zAg INV (f_X11_clear TC N σC 0) (f_X12_clear TM N σM 0) := by
  obtain ⟨G, q, M, rfl, rfl, hR, hH, hT⟩ := id h
  obtain ⟨m, h1, h2, h3, h4⟩ := id hT
  refine ⟨nI m, (zu G 360 2 0, rfC q), (zu M 0 18 0, rfM), ?_, ?_, ?_⟩
  · unfold f_X11_clear
    rw [zz1_of TC_0]
    simp only [g_text, Option.bind_some, gI_of TC_360, pI_of TC_360, h2]
  · unfold f_X12_clear
    rw [zz1_of TM_0]
    simp only [Option.bind_some, gI_of TM_0, pI_of TM_0, h3]
  · refine INV_mk (QR_same hR (fun i _ => by rw [zu_cell (by decide)]) (fun o j _ h => by rw [zu_cell (by omega)])) (Hist_fr hH (fun a j _ h => by rw [zu_cell (by omega)]) (fun j => by rw [zu_cell (by decide)]) (by rw [zu_ne (by decide)])) ⟨0, by omega, zu_same.trans nI_0.symm, zu_same.trans nI_0.symm, fun i hi => by omega⟩
end SML
