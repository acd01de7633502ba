/-! group, whole -/
section OGR
variable {G M : Nat → Nat → Int32} {q : Nat → Option Nat} {N : Nat} {n c ln : Nat} {th sel gt : Nat → Bool} {p : Nat → Nat} {hs hg : Nat → Option Nat} {D : Nat → Nat → Int32} {V : Nat → Int32} {s u : Nat}
theorem tp_us (hH : QH th sel hs hg gt D V) (hct : ∀ s, s < 20 → sel s = true → th s = true) (h : Nat) : tpB sel hs hg 20 h = anyB (fun u => decide (unO hs hg (usF sel (kyS hs hg) 20 u) = some h)) (cnt (nwB sel (kyS hs hg)) 20) := by
  rw [Bool.eq_iff_iff]
  unfold tpB
  rw [anyB_iff, anyB_iff]
  constructor
  · rintro ⟨s, s1, s2⟩
    have s2 : (sel s && decide (unO hs hg s = some h)) = true := s2
    rw [Bool.and_eq_true, decide_eq_true_iff] at s2
    obtain ⟨v, v1, v2, v3⟩ := first_of (ky := kyS hs hg) s2.1
    obtain ⟨w1, w2⟩ := us_of (show v < 20 by omega) v2
    have h8 := (unO_8 hH s1 (hct s s1 s2.1) s2.2).1
    rw [kyS_g s2.2] at v3
    refine ⟨_, w1, decide_eq_true ?_⟩
    rw [w2]
    cases e : unO hs hg v with
    | none => rw [kyS_n e] at v3; omega
    | some g => rw [kyS_g e] at v3; rw [v3]
  · rintro ⟨u, u1, u2⟩
    obtain ⟨w1, w2, w3⟩ := us_ok u1
    refine ⟨_, w1, ?_⟩
    show (sel _ && decide _) = true
    rw [nw_sel w2, u2]
    rfl
theorem hs_us (hH : QH th sel hs hg gt D V) (hct : ∀ s, s < 20 → sel s = true → th s = true) (h : s < 20) : (anyB (fun u => decide (usF sel (kyS hs hg) 20 u = s) && decide (unO hs hg (usF sel (kyS hs hg) 20 u) = none)) (cnt (nwB sel (kyS hs hg)) 20) = true) ↔ (sel s = true ∧ unO hs hg s = none) := by
  rw [anyB_iff]
  constructor
  · rintro ⟨u, u1, u2⟩
    have u2 : (decide (usF sel (kyS hs hg) 20 u = s) && decide (unO hs hg (usF sel (kyS hs hg) 20 u) = none)) = true := u2
    rw [Bool.and_eq_true, decide_eq_true_iff, decide_eq_true_iff] at u2
    obtain ⟨w1, w2, w3⟩ := us_ok u1
    rw [u2.1] at w2 u2
    exact ⟨nw_sel w2, u2.2⟩
  · rintro ⟨s1, s2⟩
    obtain ⟨v, v1, v2, v3⟩ := first_of (ky := kyS hs hg) s1
    obtain ⟨w1, w2⟩ := us_of (show v < 20 by omega) v2
    rw [kyS_n s2] at v3
    have hv : v = s := by
      cases e : unO hs hg v with
      | none => rw [kyS_n e] at v3; omega
      | some g =>
        have := (unO_8 hH (show v < 20 by omega) (hct v (by omega) (nw_sel v2)) e).1
        rw [kyS_g e] at v3
        omega
    refine ⟨_, w1, ?_⟩
    show (decide _ && decide _) = true
    rw [w2, hv, s2]
    simp
theorem o_group (hN : 1901 < N) {σC σM : zS} (hI : INV σC σM) : zAg INV (f_X11_group TC N σC 0) (f_X12_group TM N σM 0) := by
  obtain ⟨G, q, M, rfl, rfl, ⟨n, th, sel, c, p, hs, hg, gt, ln, hA⟩, hHi, hT⟩ := id hI
  obtain ⟨G0, e0, g1, g2, g3⟩ := e_gather (q := q) (N := N) (by omega) hA.1 hA.2.1 hA.2.2.2.1
  obtain ⟨M0, e1, ⟨m1, m2, m3, m4, m5⟩, m6⟩ := m_gathers (N := N) (by omega) hA.1 hA.2.1 hA.2.2.2.1
  have hm20 := cnt_le (nwB sel (kyS hs hg)) 20
  have hscr : INV (G0, rfC q) (M0, rfM) := INV_scr (QA_QR hA) hHi hT (fun a j h => g3 _ _ (by omega) (by omega)) (g3 _ _ (by omega) (by omega)) (fun j => g3 _ _ (by omega) (by omega)) (fun j => m6 _ _ (by omega) (by omega)) (fun j => m6 _ _ (by omega) (by omega)) (m6 _ _ (by omega) (by omega)) (m6 _ _ (by omega) (by omega)) (fun j => m6 _ _ (by omega) (by omega))
  have t47 : ∀ k, k < 8 → G0 47 k = bI (gt k) := fun k hk => (g3 _ _ (by omega) (by omega)).trans (hA.2.2.2.1.tD k hk)
  have tV : ∀ k, k < 8 → M0 1 (290 + 2 * k) = bI (gt k) := fun k hk => (m6 _ _ (by omega) (by omega)).trans (hA.2.2.2.1.tV k hk)
  obtain ⟨f1, f2, f3⟩ := fdx_spec (f := fun g => !gt g) 8
  unfold f_X11_group f_X12_group
  rw [zz1_of TC_0, zz1_of TM_0, g_units, Option.bind_some, g_now, Option.bind_some, e0, Option.bind_some, e1, Option.bind_some, g_units, Option.bind_some, gI_of TC_370, g1, Option.bind_some, gI_of TM_0, m1, Option.bind_some]
  by_cases hm2 : 2 ≤ cnt (nwB sel (kyS hs hg)) 20
  · have hle : (2 : Int32) ≤ nI (cnt (nwB sel (kyS hs hg)) 20) := nI_le (a := 2) hm2 (by omega)
    rw [if_pos hle, if_pos hle, g_now, Option.bind_some, g_groups, Option.bind_some, e_firstFree (by omega) t47, zb2_some, m_freeL (by omega) tV]
    unfold f_X12_group_J37
    by_cases hf : fdx (fun g => !gt g) 8 < 8
    · have hgt : gt (fdx (fun g => !gt g) 8) = false := by
        have : (!gt (fdx (fun g => !gt g) 8)) = true := f3 hf
        simpa using this
      generalize fdx (fun g => !gt g) 8 = f at *
      rw [if_pos hf, if_pos (show ¬ nI f = -1000000 from nI_nNN (by omega)), if_pos (show ¬ nI f = (8 : Int32) from fun e => by have := (nI_eq (b := 8) (by omega) (by decide)).mp e; omega)]
      obtain ⟨G1, q1, M1, k1, k2, hA1, h1, h2, h3, h4⟩ := keep3 (M0 := M0) (G0 := G0) hN hA hHi hT (fun a j h => g3 _ _ (by omega) (by omega)) (g3 _ _ (by omega) (by omega)) (fun j => g3 _ _ (by omega) (by omega)) (fun j => m6 _ _ (by omega) (by omega)) (fun j => m6 _ _ (by omega) (by omega)) (m6 _ _ (by omega) (by omega)) (m6 _ _ (by omega) (by omega)) (fun j => m6 _ _ (by omega) (by omega))
      obtain ⟨a1, a2, a3, a4, a5, a6⟩ := hA1
      obtain ⟨G2, c0, c1, c2, c3, c4⟩ := e_joinC (q := q1) (N := N) (by omega) a1 a2 a4 hf hgt
      obtain ⟨M3, d0, d1, d2, d3⟩ := m_joinL (N := N) (M := zu (zu M1 1 (290 + 2 * f) 1) 1 (290 + 2 * f + 1) 0) (us := usF sel (kyS hs hg) 20) (hs := hs) (hg := hg) (by omega) hm20 hf (by rw [zu_cell (by decide), zu_cell (by decide), h4 _ _ (by omega) (by omega)]; exact m1) (fun u hu => by
        obtain ⟨w1, w2, w3⟩ := us_ok hu
        refine ⟨w1, fun h e => (unO_8 a4 w1 (a2.ct _ w1 (nw_sel w2)) e).1, ?_, ?_⟩
        · rw [zu_cell (by decide), zu_cell (by decide), h4 _ _ (by omega) (by omega)]; exact (m2 u hu).1
        · rw [zu_cell (by decide), zu_cell (by decide), h4 _ _ (by omega) (by omega)]; exact (m2 u hu).2)
      have hV : ∀ j, ¬ (j = 290 + 2 * f ∨ j = 290 + 2 * f + 1) → zu (zu M1 1 (290 + 2 * f) 1) 1 (290 + 2 * f + 1) 0 1 j = M1 1 j := fun j hj => by
        rw [zu_ne (fun _ => by omega), zu_ne (fun _ => by omega)]
      have hh : QH th sel (hsX sel hs hg f) (hgX (tpB sel hs hg 20) f hg) (fun h => gt h || decide (h = f)) G2 (M3 1) := by
        refine QH_group a4 a2.ct hf hgt ?_ c1 (fun s h ht => ?_) c2 (fun h h8 => ?_) c3 (fun h h8 hq => ?_)
        · obtain ⟨w1, w2, w3⟩ := us_ok (sel := sel) (ky := kyS hs hg) (i := 20) (u := 0) (by omega)
          exact ⟨_, w1, nw_sel w2⟩
        · rw [d2 s h]
          unfold hsX
          by_cases e : sel s = true ∧ unO hs hg s = none
          · rw [if_pos ((hs_us a4 a2.ct h).mpr e), if_pos e]
            rfl
          · rw [if_neg (fun q => e ((hs_us a4 a2.ct h).mp q)), if_neg e, hV _ (by omega)]
            exact a4.sV s h ht
        · rw [d3 _ _ (by omega)]
          by_cases e : h = f
          · rw [e, zu_ne (fun _ => by omega), zu_same, decide_eq_true rfl, Bool.or_true]
            rfl
          · rw [hV _ (by omega), decide_eq_false e, Bool.or_false]
            exact a4.tV h h8
        · rw [d1 h h8, ← tp_us a4 a2.ct h]
          unfold hgX
          by_cases e : h = f
          · have hno : ¬ tpB sel hs hg 20 h = true := fun q => by
              have := (tpB_ok a4 a2.ct (Nat.le_refl 20) q).2.1
              rw [e, hgt] at this
              cases this
            rw [if_neg hno, if_pos e, e, zu_same]
            rfl
          · rw [if_neg e]
            by_cases hT2 : tpB sel hs hg 20 h = true
            · rw [if_pos hT2, if_pos hT2]
              rfl
            · rw [if_neg hT2, if_neg hT2, hV _ (by omega)]
              rw [decide_eq_false e, Bool.or_false] at hq
              exact a4.gV h h8 hq
      refine ⟨nI f, (G2, rfC q1), (M3, rfM), ?_, ?_, ?_⟩
      · simp only [g_hist, g_now, Option.bind_some, k1, c0]
      · rw [k2, Option.bind_some, g_v, Option.bind_some, ix2, v_wr (by omega), Option.bind_some, g_v, Option.bind_some, nI_1, v_wr (by omega), Option.bind_some]
        exact d0
      · have fr : ∀ a j, ¬ (a = 1 ∧ ((290 ≤ j ∧ j < 306) ∨ ∃ s, s < 20 ∧ j = 10 + 8 * s + 7)) → M3 a j = M1 a j := fun a j h => by
          rw [d3 a j (fun q => h ⟨q.1, by
            rcases q.2 with ⟨k, e1, e2⟩ | ⟨s, e1, e2⟩
            · exact Or.inl (by omega)
            · exact Or.inr ⟨s, e1, e2⟩⟩), zu_ne (fun e e2 => h ⟨e, Or.inl (by omega)⟩), zu_ne (fun e e2 => h ⟨e, Or.inl (by omega)⟩)]
        refine INV_now h1 h2 ⟨n, th, sel, c, p, hsX sel hs hg f, hgX (tpB sel hs hg 20) f hg, fun h => gt h || decide (h = f), ln, QS_fr a1 ?_ ?_ ?_ ?_, QC_fr a2 ?_ ?_, QP_fr a3 ?_ ?_ ?_, hh, QL_fr a5 ?_ ?_ ?_ ?_, QU_fr a6 ?_ ?_ ?_ ?_⟩ ?_ ?_ ?_ ?_ ?_
        all_goals (intros; first | exact c4 _ _ (fun ⟨_, k, _, e⟩ => by omega) (by omega) (by omega) | exact fr _ _ (fun ⟨_, q⟩ => by rcases q with q | ⟨k, _, e⟩ <;> omega) | exact ⟨c4 _ _ (fun ⟨_, k, _, e⟩ => by omega) (by omega) (by omega), c4 _ _ (fun ⟨_, k, _, e⟩ => by omega) (by omega) (by omega)⟩)
    · have e8 : fdx (fun g => !gt g) 8 = 8 := by omega
      rw [if_neg hf, if_neg (show ¬ ¬ (-1000000 : Int32) = -1000000 from fun n => n rfl), e8, if_neg (show ¬ ¬ nI 8 = (8 : Int32) from fun n => n rfl)]
      exact ⟨_, _, _, rfl, rfl, hscr⟩
  · have hle : ¬ (2 : Int32) ≤ nI (cnt (nwB sel (kyS hs hg)) 20) := nI_ge (b := 2) (by omega) (by decide)
    rw [if_neg hle, if_neg hle]
    exact ⟨_, _, _, rfl, rfl, hscr⟩
end OGR
