/-! connect, disconnect -/
section CND
variable {G M : Nat → Nat → Int32} {q : Nat → Option Nat} {N : Nat} {n c ln : Nat} {th sel gt : Nat → Bool} {p : Nat → Nat} {hs hg : Nat → Option Nat} {ρ : Nat → Nat → Option Nat} {V : Nat → Int32}
theorem e_cadd (hl : G 24 1 = nI ln) (h20 : ln < 20) {x1 x2 x3 x4 x5 : Int32} : f_X1_add TC N (G, rfC q) 24 x1 x2 x3 x4 x5 = some (nI ln, (zu (zu (zu (zu (zu (zu G (26 + ln) 0 x1) (26 + ln) 1 x2) (26 + ln) 2 x3) (26 + ln) 3 x4) (26 + ln) 4 x5) 24 1 (nI (ln + 1)), rfC q)) := by
  unfold f_X1_add
  rw [zz1_of TC_24, gI_of TC_24, Option.bind_some, hl, if_neg (nI_pos (by omega))]
  simp only [gR_of TC_24, rf_24_0, Option.bind_some, aL_of TC_25, TL_25]
  rw [if_neg (nI_ge h20 (by decide)), aR_of TC_25 TL_25 h20 (by decide), rf_25 h20]
  simp only [Option.bind_some, pI_of (TC_cn h20), gI_of TC_24, pI_of TC_24]
  rw [zu_cell (by omega), zu_cell (by omega), zu_cell (by omega), zu_cell (by omega), zu_cell (by omega), hl, nI_1]
theorem style_k {x : Int32} : wth x 0 2 = 0 ∨ ∃ k, k < 3 ∧ x = nI k := by
  rcases nI_big (x := x) (n := 3) (by decide) with h | h
  · exact Or.inl (wth_out (a := 0) (b := 2) (by decide) h (by decide))
  · exact Or.inr h
theorem wth_3 {a : Nat} (h : a < 4) : wth (nI a) 0 3 = 1 := wth_in (a := 0) (b := 3) (by decide) (by omega) (by omega)
theorem wth_2 {a : Nat} (h : a < 3) : wth (nI a) 0 2 = 1 := wth_in (a := 0) (b := 2) (by decide) (by omega) (by omega)
theorem o_connect (hN : 1901 < N) {σC σM : zS} (h : INV σC σM) (x1 x2 x3 x4 x5 : Int32) : zAg INV (f_X11_connect TC N σC 0 x1 x2 x3 x4 x5) (f_X12_connect TM N σM 0 x1 x2 x3 x4 x5) := by
  obtain ⟨G, q, M, rfl, rfl, ⟨n, th, sel, c, p, hs, hg, gt, ln, hA⟩, hH, hT⟩ := id h
  unfold f_X11_connect f_X12_connect
  rw [zz1_of TC_0, zz1_of TM_0]
  simp only [g_now, g_shapes, Option.bind_some]
  rcases shp (q := q) (N := N) hA.1 x1 with ⟨s, hs20, rfl, hts, k1, k2⟩ | ⟨k1, k2⟩
  · rw [k1, k2, zb2_some, zb2_some, zo_some, if_neg (by decide)]
    simp only [g_now, g_shapes, Option.bind_some]
    rcases shp (q := q) (N := N) hA.1 x3 with ⟨t, ht20, rfl, htt, k3, k4⟩ | ⟨k3, k4⟩
    · rw [k3, k4, zb2_some, zb2_some, zo_some]
      by_cases est : nI s = nI t
      · rw [if_neg (show ¬ ¬ nI s = nI t from fun n => n est), if_neg (show ¬ (1 : Int32) = 0 by decide), if_pos est]
        exact ⟨_, _, _, rfl, rfl, h⟩
      · rw [if_pos est, if_neg (show ¬ (1 : Int32) = 0 by decide), if_neg est, e_isPort, m_in, zb2_some, zb2_some]
        rcases isPort_k (x := x2) with hy | ⟨a, ha, rfl⟩
        · rw [hy, if_pos rfl, if_pos rfl]
          exact ⟨_, _, _, rfl, rfl, h⟩
        · rw [wth_3 ha, if_neg (by decide), if_neg (by decide), e_isPort, m_in, zb2_some, zb2_some]
          rcases isPort_k (x := x4) with hy | ⟨b, hb, rfl⟩
          · rw [hy, if_pos rfl, if_pos rfl]
            exact ⟨_, _, _, rfl, rfl, h⟩
          · rw [wth_3 hb, if_neg (by decide), if_neg (by decide), e_isWithin, m_in, zb2_some, zb2_some]
            rcases style_k (x := x5) with hy | ⟨y, hy, rfl⟩
            · rw [hy, if_neg (by decide), if_neg (by decide)]
              exact ⟨_, _, _, rfl, rfl, h⟩
            · have b2 := hA.2.2.2.2.1.lD
              have b3 := hA.2.2.2.2.1.lV
              have b4 := hA.2.2.2.2.1.l20
              rw [wth_2 hy, if_pos (by decide), if_pos (by decide)]
              simp only [g_now, g_conns, Option.bind_some, gI_of TC_24, g_v, v2_, b2, b3]
              by_cases h20 : ln = 20
              · subst h20
                rw [if_neg (show ¬ nI 20 < (20 : Int32) by decide), if_neg (show ¬ ¬ nI 20 = (20 : Int32) by decide)]
                exact ⟨_, _, _, rfl, rfl, h⟩
              · have hln : ln < 20 := by omega
                rw [if_pos (show nI ln < (20 : Int32) from nI_lt (b := 20) hln (by decide)), if_pos (show ¬ nI ln = (20 : Int32) from fun e => h20 ((nI_eq (b := 20) (by omega) (by decide)).mp e))]
                obtain ⟨G1, q1, M1, e1, e2, ⟨a1, a2, a3, a4, a5, a6⟩, h1, h2, h3, h4⟩ := keep2 hN hA hH hT
                refine ⟨nI ln, (zu (zu (zu (zu (zu (zu G1 (26 + ln) 0 (nI s)) (26 + ln) 1 (nI a)) (26 + ln) 2 (nI t)) (26 + ln) 3 (nI b)) (26 + ln) 4 (nI y)) 24 1 (nI (ln + 1)), rfC q1), (zu (zu (zu (zu (zu (zu M1 1 (190 + 5 * ln) (nI s)) 1 (190 + 5 * ln + 1) (nI a)) 1 (190 + 5 * ln + 2) (nI t)) 1 (190 + 5 * ln + 3) (nI b)) 1 (190 + 5 * ln + 4) (nI y)) 1 2 (nI (ln + 1)), rfM), ?_, ?_, ?_⟩
                · simp only [g_hist, g_now, g_conns, Option.bind_some, e1]
                  rw [e_cadd a5.lD hln, zb2_some]
                · simp only [e2, g_v, Option.bind_some, v2_, a5.lV, zn_eq, ix5]
                  rw [v_wr (by omega), Option.bind_some]
                  simp only [g_v, Option.bind_some]
                  rw [nI_1, v_wr (by omega), Option.bind_some]
                  simp only [g_v, Option.bind_some]
                  rw [show nI (190 + 5 * ln) + (2 : Int32) = nI (190 + 5 * ln + 2) from nI_add _ 2, v_wr (by omega), Option.bind_some]
                  simp only [g_v, Option.bind_some]
                  rw [show nI (190 + 5 * ln) + (3 : Int32) = nI (190 + 5 * ln + 3) from nI_add _ 3, v_wr (by omega), Option.bind_some]
                  simp only [g_v, Option.bind_some]
                  rw [show nI (190 + 5 * ln) + (4 : Int32) = nI (190 + 5 * ln + 4) from nI_add _ 4, v_wr (by omega), Option.bind_some]
                  simp only [g_v, Option.bind_some, v2_, w2_]
                  rw [zu_same]
                  repeat rw [zu_ne (fun _ => by omega)]
                  rw [a5.lV, nI_1, nI_pred]
                · have hl : QL th (ln + 1) (zu (zu (zu (zu (zu (zu G1 (26 + ln) 0 (nI s)) (26 + ln) 1 (nI a)) (26 + ln) 2 (nI t)) (26 + ln) 3 (nI b)) (26 + ln) 4 (nI y)) 24 1 (nI (ln + 1))) (zu (zu (zu (zu (zu (zu M1 1 (190 + 5 * ln) (nI s)) 1 (190 + 5 * ln + 1) (nI a)) 1 (190 + 5 * ln + 2) (nI t)) 1 (190 + 5 * ln + 3) (nI b)) 1 (190 + 5 * ln + 4) (nI y)) 1 2 (nI (ln + 1)) 1) := by
                    refine ⟨by omega, zu_same, zu_same, fun k hk j hj => ?_, fun k hk => ?_⟩
                    · by_cases e : k = ln
                      · subst e
                        have : j = 0 ∨ j = 1 ∨ j = 2 ∨ j = 3 ∨ j = 4 := by omega
                        rcases this with rfl | rfl | rfl | rfl | rfl
                        · repeat (first | rw [zu_same] | rw [zu_ne (fun _ => by omega)])
                          exact zu_same.symm
                        all_goals repeat (first | rw [zu_same] | rw [zu_ne (fun _ => by omega)])
                      · simp only [zu_at]
                        rw [if_neg (by omega), if_neg (by omega), if_neg (by omega), if_neg (by omega), if_neg (by omega), if_neg (by omega), if_neg (by omega), if_neg (by omega), if_neg (by omega), if_neg (by omega), if_neg (by omega), if_neg (by omega)]
                        exact a5.eq k (by omega) j hj
                    · by_cases e : k = ln
                      · subst e
                        refine ⟨s, a, t, b, y, hs20, hts, ht20, htt, ha, hb, hy, ?_, ?_, ?_, ?_, ?_⟩
                        · rw [zu_ne (fun _ => by omega), zu_ne (fun _ => by omega), zu_ne (fun _ => by omega), zu_ne (fun _ => by omega), zu_ne (fun _ => by omega), zu_same]
                        · rw [zu_ne (fun _ => by omega), zu_ne (fun _ => by omega), zu_ne (fun _ => by omega), zu_ne (fun _ => by omega), zu_same]
                        · rw [zu_ne (fun _ => by omega), zu_ne (fun _ => by omega), zu_ne (fun _ => by omega), zu_same]
                        · rw [zu_ne (fun _ => by omega), zu_ne (fun _ => by omega), zu_same]
                        · rw [zu_ne (fun _ => by omega), zu_same]
                      · exact LOK_mv (a5.ok k (by omega)) (fun j hj => by repeat rw [zu_ne (fun _ => by omega)])
                  refine INV_now h1 h2 ⟨n, th, sel, c, p, hs, hg, gt, ln + 1, QS_fr a1 ?_ ?_ ?_ ?_, QC_fr a2 ?_ ?_, QP_fr a3 ?_ ?_ ?_, QH_fr a4 ?_ ?_ ?_ ?_ ?_, hl, QU_fr a6 ?_ ?_ ?_ ?_⟩ ?_ ?_ ?_ ?_ ?_
                  all_goals (intros; first | (refine ⟨?_, ?_⟩ <;> repeat rw [zu_ne (fun e => by omega)]) | repeat rw [zu_ne (fun e => by omega)])
    · rw [k3, k4, zb2_some, zb2_some, zo_none, if_pos rfl]
      exact ⟨_, _, _, rfl, rfl, h⟩
  · rw [k1, k2, zb2_some, zb2_some, zo_none, if_pos rfl]
    exact ⟨_, _, _, rfl, rfl, h⟩
end CND
