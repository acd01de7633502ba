/-! align: the whole operation -/
section OA2
variable {G M G1 M1 Gp Mp : Nat → Nat → Int32} {q : Nat → Option Nat} {N : Nat} {n c ln : Nat} {th sel gt P : Nat → Bool} {p uo o : Nat → Nat} {hs hg : Nat → Option Nat} {ρ : Nat → Nat → Option Nat} {V w wy : Nat → Int32} {s t a b y k d u α m i l : Nat} {x z : Int32}
/-- what both sides do once the ways are laid -/
theorem units_end (hN : 1901 < N) (hα : α < 2) (hA : QA n th sel c p hs hg gt ln G (M 1)) (hH : Hist G q M) (hT : Txt G M) (hU : UN Gp sel uo o m w wy) (hx : ∀ s, s < 20 → Mp 10 s = axs α 0 wy s ∧ Mp 11 s = axs α 1 wy s)
    (e1 : ∀ a j, a < 360 → Gp a j = G a j) (e2 : Gp 360 2 = G 360 2) (e3 : ∀ j, Gp 361 j = G 361 j) (f1 : ∀ j, Mp 1 j = M 1 j) (f2 : ∀ j, Mp 2 j = M 2 j) (f3 : Mp 0 2 = M 0 2) (f4 : Mp 0 18 = M 0 18) (f5 : ∀ j, Mp 13 j = M 13 j) :
    ∃ b : Bool, f_X10_canShift TC N (Gp, rfC q) 370 2 (nI α) = some (bI b, (Gp, rfC q)) ∧ f_X12_isInside TM N (Mp, rfM) 0 = some (bI b, (Mp, rfM)) ∧ INV (Gp, rfC q) (Mp, rfM) ∧
      (b = true → ∃ G1 q1 M1 G2 M2, f_X5_keep TC N (Gp, rfC q) 52 1 = some (G1, rfC q1) ∧ f_X12_act TM N (Mp, rfM) 0 = some (M1, rfM) ∧ f_X10_shift TC N (G1, rfC q1) 370 2 (nI α) = some (nI (cnt (fun i => decide (¬ w i = 0)) m), (G2, rfC q1)) ∧ f_X12_movesAll TM N (M1, rfM) 0 = some (M2, rfM) ∧ INV (G2, rfC q1) (M2, rfM)) := by
  have hAp : QA n th sel c p hs hg gt ln Gp (Mp 1) := QA_same hA (fun i _ => f1 i) (fun o j _ h => e1 _ _ (by omega))
  have es : allB (stB th Gp (Mp 10) (Mp 11)) 20 = allB (stB th Gp (axs α 0 wy) (axs α 1 wy)) 20 := by
    rw [Bool.eq_iff_iff, allB_iff, allB_iff]
    have ex : ∀ s, s < 20 → stB th Gp (Mp 10) (Mp 11) s = stB th Gp (axs α 0 wy) (axs α 1 wy) s := fun s h => by
      unfold stB
      rw [(hx s h).1, (hx s h).2]
    exact ⟨fun h i hi => by rw [← ex i hi]; exact h i hi, fun h i hi => by rw [ex i hi]; exact h i hi⟩
  refine ⟨allB (stB th Gp (axs α 0 wy) (axs α 1 wy)) 20, e_ucan (by omega) hAp.1 hAp.2.1 hα hU, by rw [m_isInside (n := n) (G := Gp) (th := th) (by omega) hAp.1, es], INV_scr (QA_QR hA) hH hT e1 e2 e3 f1 f2 f3 f4 f5, fun hb => ?_⟩
  obtain ⟨G1, q1, M1, k1, k2, hA1, h1, h2, h3, h4⟩ := keep3 (M0 := Mp) (G0 := Gp) hN hA hH hT e1 e2 e3 f1 f2 f3 f4 f5
  have hb1 : allB (stB th G1 (axs α 0 wy) (axs α 1 wy)) 20 = true := by
    rw [allB_iff] at hb ⊢
    intro i hi
    have := hb i hi
    unfold stB at this ⊢
    rw [h3 _ _ (by omega), h3 _ _ (by omega)]
    exact this
  obtain ⟨G2, M2, k3, k4, hA2, d1, d2⟩ := go_units (q := q1) (N := N) (by omega) hα hA1 (UN_fr hU (h3 _ _ (by omega)) (fun j => h3 _ _ (by omega)) (fun j => h3 _ _ (by omega))) (fun s h => ⟨(h4 _ _ (by omega) (by omega)).trans (hx s h).1, (h4 _ _ (by omega) (by omega)).trans (hx s h).2⟩) hb1
  exact ⟨G1, q1, M1, G2, M2, k1, k2, k3, k4, INV_now h1 h2 (QA_QR hA2) (fun a j _ _ => d1 _ _ (by omega)) (fun j => d2 _ _ (by omega)) (d2 _ _ (by omega)) (d2 _ _ (by omega)) (fun j => d2 _ _ (by omega))⟩
theorem al_in {x : Int32} (h : wth x 0 5 = 1) : ∃ α l, α < 2 ∧ l < 3 ∧ x = nI (3 * α + l) := by
  obtain ⟨h1, h2⟩ := wth1.mp h
  rw [fa_le] at h1 h2
  have e0 : (0 : Int32).toInt = 0 := by decide
  have e5 : (5 : Int32).toInt = 5 := by decide
  rcases nI_big (x := x) (n := 6) (by decide) with h3 | ⟨k, k1, k2⟩
  · rcases h3 with h3 | h3
    · rw [fa_lt] at h3; omega
    · rw [fa_le, show (nI 6).toInt = 6 by decide] at h3; omega
  · exact ⟨k / 3, k % 3, by omega, by omega, by rw [k2, Nat.div_add_mod]⟩
theorem al_dec {α l : Nat} (hα : α < 2) (hl : l < 3) : nI (3 * α + l) / 3 = nI α ∧ nI (3 * α + l) - nI (3 * α + l) / 3 * 3 = nI l ∧ ((3 : Int32) ≤ nI (3 * α + l) ↔ α = 1) ∧ (α = 1 → nI (3 * α + l) - 3 = nI l) ∧ (α = 0 → nI (3 * α + l) = nI l) := by
  have h1 : α = 0 ∨ α = 1 := by omega
  have h2 : l = 0 ∨ l = 1 ∨ l = 2 := by omega
  rcases h1 with rfl | rfl <;> rcases h2 with rfl | rfl | rfl <;> decide
theorem o_align (hN : 1901 < N) {σC σM : zS} (hI : INV σC σM) (x : Int32) : zAg INV (f_X11_align TC N σC 0 x) (f_X12_align TM N σM 0 x) := by
  obtain ⟨G, q, M, rfl, rfl, ⟨n, th, sel, c, p, hs, hg, gt, ln, hA⟩, hH, hT⟩ := id hI
  unfold f_X11_align f_X12_align
  rw [zz1_of TC_0, zz1_of TM_0, e_isWithin, m_in, zb2_some, zb2_some]
  rcases wth01 x 0 5 with hw | hw
  · rw [hw, if_neg (by decide), if_neg (by decide)]
    exact ⟨_, _, _, rfl, rfl, hI⟩
  obtain ⟨α, l, hα, hl, rfl⟩ := al_in hw
  obtain ⟨x1, x2, x3, x4, x5⟩ := al_dec hα hl
  obtain ⟨m, G1, M1, g1, g2, hB⟩ := gat_both (q := q) (N := N) (by omega) hA
  obtain ⟨b1, b2, b3, b4, b5, b6, b7, b8, b9, b10⟩ := id hB
  rw [hw, if_pos (by decide), if_pos (by decide), g_units, Option.bind_some, g_now, Option.bind_some, g1, Option.bind_some, g_units, Option.bind_some, gI_of TC_370, b2, Option.bind_some, g2, Option.bind_some, gI_of TM_0, b4, Option.bind_some]
  by_cases hm : 2 ≤ m
  · have hm2 : (2 : Int32) ≤ nI m := nI_le hm (by omega)
    rw [if_pos hm2, if_pos hm2, x1]
    obtain ⟨Gp, e1, p1, p2⟩ := e_planA (q := q) (N := N) (l := l) (by omega) hα hl hA hB hm
    obtain ⟨Ms, e2, s1, s2⟩ := m_staysAll (N := N) (M := M1) (by omega)
    have hBs : GB th sel (uoF sel (kyS hs hg)) m G M G1 Ms := by
      refine ⟨b1, b2, b3, (s2 _ _ (by decide) (by decide)).trans b4, fun s h1 h2 => ⟨(s2 _ _ (by decide) (by decide)).trans (b5 s h1 h2).1, (b5 s h1 h2).2⟩, fun u hu α hα => ?_, fun α hα => ?_, b8, b9, fun a j h1 h2 => ?_⟩
      · rw [s2 _ _ (by decide) (by decide), s2 _ _ (by decide) (by decide)]
        exact b6 u hu α hα
      · rw [s2 _ _ (by decide) (by decide), s2 _ _ (by decide) (by decide)]
        exact b7 α hα
      · exact (s2 _ _ (by omega) (by omega)).trans (b10 a j h1 h2)
    obtain ⟨Mp, e3, t1, t2⟩ := m_alignL (N := N) (by omega) hα hl hA hBs hm x2 s1
    have c1 : ∀ a j, ¬ (a = 0 ∧ j = 11) → ¬ (5 ≤ a ∧ a ≤ 11) → Mp a j = M a j := fun a j h1 h2 => ((t2 _ _ (by omega) (by omega)).trans (s2 _ _ (by omega) (by omega))).trans (b10 a j h1 h2)
    have c2 : ∀ a j, a < 370 → Gp a j = G a j := fun a j h => (p2 _ _ (by omega)).trans (b9 _ _ (by omega) (by omega))
    have hU : UN Gp sel (uoF sel (kyS hs hg)) (fun i => i) m (alW G sel (uoF sel (kyS hs hg)) α l) (wyF sel (uoF sel (kyS hs hg)) (alW G sel (uoF sel (kyS hs hg)) α l)) :=
      ⟨b1, (p2 _ _ (by decide)).trans b2, fun i hi => ⟨(p2 _ _ (by decide)).trans (b3 i hi), p1 i hi⟩, fun i j _ _ h => h, fun s h1 h2 => ⟨_, (b5 s h1 h2).2, rfl, wyF_t h2⟩, fun s h1 h2 => wyF_f h2⟩
    obtain ⟨b, k1, k2, k3, k4⟩ := units_end (q := q) hN hα hA hH hT hU t1 (fun a j h => c2 _ _ (by omega)) (c2 _ _ (by decide)) (fun j => c2 _ _ (by decide)) (fun j => c1 _ _ (by omega) (by omega)) (fun j => c1 _ _ (by omega) (by omega)) (c1 _ _ (by omega) (by omega)) (c1 _ _ (by omega) (by omega)) (fun j => c1 _ _ (by omega) (by omega))
    rw [e2, Option.bind_some, zn_eq, e3, k2, zb2_some]
    have hcls : (if (3 : Int32) ≤ nI (3 * α + l) then f_X11_align_J46 TC N 0 (nI (3 * α + l)) (G1, rfC q) (1 : Int32) else f_X11_align_J46 TC N 0 (nI (3 * α + l)) (G1, rfC q) (0 : Int32)) = f_X11_align_J70 TC N 0 (G1, rfC q) (nI α) 370 2 (nI l) := by
      have h1 : α = 0 ∨ α = 1 := by omega
      unfold f_X11_align_J46
      simp only [g_units, g_now, g_shapes, Option.bind_some]
      rcases h1 with rfl | rfl
      · rw [if_neg (fun h => by have := x3.mp h; omega), if_neg (fun n => n trivial), x5 rfl]
        rfl
      · rw [if_pos (x3.mpr rfl), if_pos (by decide), x4 rfl]
        rfl
    rw [hcls]
    unfold f_X11_align_J70
    rw [e1, Option.bind_some, g_units, Option.bind_some, g_now, Option.bind_some, g_shapes, Option.bind_some, k1, zb2_some]
    cases b
    · rw [if_neg (by decide), if_neg (by decide)]
      exact ⟨_, _, _, rfl, rfl, k3⟩
    · obtain ⟨G3, q1, M3, G2, M2, r1, r2, r3, r4, r5⟩ := k4 rfl
      rw [if_pos (by decide), if_pos (by decide)]
      refine ⟨nI (cnt (fun i => decide (¬ alW G sel (uoF sel (kyS hs hg)) α l i = 0)) m), (G2, rfC q1), (M2, rfM), ?_, ?_, r5⟩
      · rw [g_hist, Option.bind_some, g_now, Option.bind_some, r1, Option.bind_some, g_units, Option.bind_some, g_now, Option.bind_some, g_shapes, Option.bind_some, r3, zb2_some]
      · rw [r2, Option.bind_some, r4, Option.bind_some]
  · have hm2 : ¬ (2 : Int32) ≤ nI m := nI_ge (a := m) (b := 2) (by omega) (by decide)
    rw [if_neg hm2, if_neg hm2]
    exact ⟨_, _, _, rfl, rfl, INV_scr (QA_QR hA) hH hT (fun a j h => b9 _ _ (by omega) (by omega)) (b9 _ _ (by omega) (by omega)) (fun j => b9 _ _ (by omega) (by omega)) (fun j => b10 _ _ (by omega) (by omega)) (fun j => b10 _ _ (by omega) (by omega)) (b10 _ _ (by omega) (by omega)) (b10 _ _ (by omega) (by omega)) (fun j => b10 _ _ (by omega) (by omega))⟩
end OA2
