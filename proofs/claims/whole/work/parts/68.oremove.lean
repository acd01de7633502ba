/-! removeShape -/
section ORM
variable {G M : Nat → Nat → Int32} {q : Nat → Option Nat} {N : Nat} {n c ln : Nat} {th sel gt : Nat → Bool} {p : Nat → Nat} {hs hg : Nat → Option Nat} {D : Nat → Nat → Int32} {V : Nat → Int32} {s u g a o e : Nat}
theorem e_sdrop (hN : 20 < N) (hS : QS n th G V) (hQ : QC th sel G V) (hP : QP th c p G V) (h : s < 20) (ht : th s = true) : f_X7_drop TC N (G, rfC q) 2 (nI s) = some (zu (zu (zu (mapC G (liv G) 6 (pdv (nI (c - 1)) (G (4 + s) 6)) 20) (4 + s) 6 (nI (c - 1))) (4 + s) 0 0) 2 2 (mkS (fun t => sel t && !decide (t = s)) 20), rfC q) := by
  have hc : 0 < c := by
    obtain ⟨k, hk, -⟩ := hP.ps s h ht
    omega
  unfold f_X7_drop
  rw [zz1_of TC_2, e_find_k h, QS_liv hS h, if_pos ht, zb2_some, zo_some, e_count hN, zb2_some, cnt_c hS hP, show nI c - 1 = nI (c - 1) from pk_sub (a := c) (b := 1) (by omega), e_putAtDepth hN h, Option.bind_some, pZ_of (TC_sh h) (Or.inl rfl), Option.bind_some, gI_of TC_2, zu_ne (fun e => by omega), zu_ne (fun e => by omega), mapC_out (Or.inl (by omega)), hQ.cD, Option.bind_some, S_one h, S_diff, pI_of TC_2, Option.bind_some]
theorem m_close (hN : 20 < N) (hc : M 1 1 = nI e) (he : e < 20) (ho : o ≤ e) (h : s < 20) {r : Int32} : ∃ M', zl2 (f_X12_removeShape_L68 TM N 0 (nI s) r) N (nI o) (M, rfM) = ((f_X12_prunes TM N (zu M' 1 (10 + 8 * s) 0, rfM) 0).bind fun s24 => some (r, s24)) ∧ (∀ k, o ≤ k → k < e → M' 1 (170 + k) = M 1 (170 + (k + 1))) ∧ ∀ a j, ¬ (a = 1 ∧ 170 + o ≤ j ∧ j < 170 + e) → M' a j = M a j := by
  refine zl2_inv (P := fun rr => ∃ M' : Nat → Nat → Int32, rr = ((f_X12_prunes TM N (zu M' 1 (10 + 8 * s) 0, rfM) 0).bind fun s24 => some (r, s24)) ∧ (∀ k, o ≤ k → k < e → M' 1 (170 + k) = M 1 (170 + (k + 1))) ∧ ∀ a j, ¬ (a = 1 ∧ 170 + o ≤ j ∧ j < 170 + e) → M' a j = M a j) (e - o)
    (fun i (x : Int32) st => x = nI (o + i) ∧ ∃ M' : Nat → Nat → Int32, st = (M', rfM) ∧ (∀ k, o ≤ k → k < o + i → M' 1 (170 + k) = M 1 (170 + (k + 1))) ∧ ∀ a j, ¬ (a = 1 ∧ 170 + o ≤ j ∧ j < 170 + (o + i)) → M' a j = M a j) ?_ ?_ (e - o) 0 N (nI o) (M, rfM) (by omega) (by omega) ⟨rfl, M, rfl, fun k h1 h2 => by omega, fun a j _ => rfl⟩
  · rintro i hi w st ⟨rfl, M1, rfl, hA, hB⟩
    have hc1 : M1 1 1 = nI e := (hB 1 1 (by omega)).trans hc
    refine Or.inl ⟨nI (o + (i + 1)), (zu M1 1 (170 + (o + i)) (M1 1 (170 + (o + i) + 1)), rfM), ⟨rfl, _, rfl, fun k h1 h2 => ?_, fun a j ha => ?_⟩, fun kk => ?_⟩
    · by_cases e : k = o + i
      · subst e
        rw [zu_same, hB 1 _ (by omega)]
        rfl
      · rw [zu_ne (fun _ => by omega), hA k h1 (by omega)]
    · rw [zu_ne (fun e1 e2 => ha ⟨e1, by omega, by omega⟩), hB a j (fun q => ha ⟨q.1, q.2.1, by omega⟩)]
    · unfold f_X12_removeShape_L68
      simp only [g_v, Option.bind_some, v1_, hc1]
      rw [if_neg (nI_ge (by omega) (by omega)), ixD, nI_1, v_rd (by omega), Option.bind_some, v_wr (by omega), Option.bind_some, zn_eq, nI_1]
      rfl
  · rintro w st ⟨rfl, M1, rfl, hA, hB⟩ kk
    have e0 : o + (e - o) = e := by omega
    rw [e0] at hA hB ⊢
    have hc1 : M1 1 1 = nI e := (hB 1 1 (by omega)).trans hc
    refine ⟨M1, ?_, hA, hB⟩
    unfold f_X12_removeShape_L68
    simp only [g_v, Option.bind_some, v1_, hc1]
    rw [if_pos (nI_le (Nat.le_refl e) (by omega)), ix8, v_wr (by omega), Option.bind_some]
set_option maxHeartbeats 4000000 in
theorem o_removeShape (hN : 1901 < N) {σC σM : zS} (hI : INV σC σM) (x : Int32) : zAg INV (f_X11_removeShape TC N σC 0 x) (f_X12_removeShape TM N σM 0 x) := by
  obtain ⟨G, q, M, rfl, rfl, ⟨n, th, sel, c, p, hs, hg, gt, ln, hA⟩, hHi, hT⟩ := id hI
  unfold f_X11_removeShape f_X12_removeShape
  rw [zz1_of TC_0, zz1_of TM_0, g_now, Option.bind_some, g_shapes, Option.bind_some]
  rcases shp (q := q) (N := N) hA.1 x with ⟨s, hs20, rfl, ht, k1, k2⟩ | ⟨k1, k2⟩
  · rw [k1, k2, zb2_some, zb2_some, zo_some, if_pos (by decide)]
    obtain ⟨G1, q1, M1, e1, e2, ⟨a1, a2, a3, a4, a5, a6⟩, h1, h2, h3, h4⟩ := keep2 hN hA hHi hT
    obtain ⟨o, ho, hpo⟩ := a3.ps s hs20 ht
    have h20 := a3.c20
    have l20 := a5.l20
    obtain ⟨e, rfl⟩ : ∃ e, c = e + 1 := ⟨c - 1, by omega⟩
    obtain ⟨Gd, hGd⟩ : ∃ Gd, Gd = zu (zu (zu (mapC G1 (liv G1) 6 (pdv (nI e) (G1 (4 + s) 6)) 20) (4 + s) 6 (nI e)) (4 + s) 0 0) 2 2 (mkS (fun t => sel t && !decide (t = s)) 20) := ⟨_, rfl⟩
    have c0 : f_X7_drop TC N (G1, rfC q1) 2 (nI s) = some (Gd, rfC q1) := by
      have hd := e_sdrop (q := q1) (N := N) (by omega) a1 a2 a3 hs20 ht
      rw [Nat.add_sub_cancel] at hd
      rw [hGd, hd]
    -- the cells behind the class's dropping
    have gd1 : ∀ a j, ¬ (j = 6 ∧ ∃ t, t < 20 ∧ a = 4 + t) → ¬ (a = 4 + s ∧ j = 0) → ¬ (a = 2 ∧ j = 2) → Gd a j = G1 a j := fun a j q1 q2 q3 => by
      have hm : a < 4 ∨ 4 + 20 ≤ a ∨ j ≠ 6 := by
        by_cases h6 : j = 6
        · by_cases ha : 4 ≤ a ∧ a < 24
          · exact absurd ⟨h6, a - 4, by omega, by omega⟩ q1
          · omega
        · exact Or.inr (Or.inr h6)
      rw [hGd, zu_ne (fun e1 e2 => q3 ⟨e1, e2⟩), zu_ne (fun e1 e2 => q2 ⟨e1, e2⟩), zu_ne (fun e1 e2 => q1 ⟨e2, s, hs20, e1⟩), mapC_out hm]
    have gd2 : Gd 2 2 = mkS (fun t => sel t && !decide (t = s)) 20 := by rw [hGd, zu_same]
    have gd3 : Gd (4 + s) 0 = 0 := by rw [hGd, zu_ne (fun e => by omega), zu_same]
    have gd4 : ∀ k, k < e + 1 → k ≠ o → Gd (4 + p k) 6 = nI (pdN e o k) := fun k hk hne => by
      rw [hGd, zu_ne (fun e => by omega), zu_ne (fun _ => by omega)]
      subst hpo
      exact put_dep a1 a3 ho (by omega) hk hne
    have hlv : ∀ t, t < 20 → liv Gd t = (th t && !decide (t = s)) := fun t h => by
      unfold liv
      by_cases et : t = s
      · rw [et, gd3, decide_eq_true rfl, Bool.not_true, Bool.and_false]
        decide
      · rw [gd1 _ _ (by omega) (by omega) (by omega), decide_eq_false et, Bool.not_false, Bool.and_true]
        exact QS_liv a1 h
    have sg' : ∀ t, t < 20 → (th t && !decide (t = s)) = true → ∀ g, hs t = some g → g < 8 ∧ gt g = true := fun t h q => by
      rw [Bool.and_eq_true] at q
      exact a4.sg t h q.1
    obtain ⟨Gp, p0, p1, p2, p3⟩ := e_prunes (G := Gd) (q := q1) (N := N) (R := nI s) (th := fun t => th t && !decide (t = s)) (hs := hs) (by omega) a4.gg a4.rk sg' hlv (fun t h q => by
      rw [Bool.and_eq_true] at q
      rw [gd1 _ _ (by omega) (by omega) (by omega)]
      exact a4.sD t h q.1) (fun g h8 => (gd1 _ _ (fun ⟨_, t, _, e⟩ => by omega) (by omega) (by omega)).trans (a4.tD g h8)) (fun g h8 hq => (gd1 _ _ (fun ⟨_, t, _, e⟩ => by omega) (by omega) (by omega)).trans (a4.gD g h8 hq))
    have hL : QL th ln Gp (M1 1) := QL_fr a5 ((p3 _ _ (by omega) (by omega)).trans (gd1 _ _ (fun ⟨_, t, _, e⟩ => by omega) (by omega) (by omega))) rfl (fun c hc j hj => (p3 _ _ (by omega) (by omega)).trans (gd1 _ _ (fun ⟨_, t, _, e⟩ => by omega) (by omega) (by omega))) (fun i _ => rfl)
    obtain ⟨Gf, Ml, ml, b, w1, w2, w3, w4, w5, w6⟩ := drop_both (q := q1) (N := N) (by omega) hs20 ln Gp M1 ln 0 (N - (20 - ln)) N (Nat.le_refl ln) hL (fun k h1 h2 => by omega) (by omega) (by omega)
    have cl : f_X1_dropAt TC N (Gp, rfC q1) 24 (nI s) = some (nI b, (Gf, rfC q1)) := by
      unfold f_X1_dropAt
      rw [zz1_of TC_24, gR_of TC_24, rf_24_0, Option.bind_some, aL_of TC_25, TL_25, Option.bind_some, zn_eq, ← w1, ← nI_0]
      have hsk := drop_skip (G := Gp) (q := q1) (N := N) (s := s) (m := ln) (a := 0) hL.lD l20 (20 - ln) (N - (20 - ln)) (by omega)
      rw [show ln + (20 - ln) = 20 by omega, show N - (20 - ln) + (20 - ln) = N by omega] at hsk
      exact hsk
    -- the reference
    have v1 : Ml 1 1 = nI (e + 1) := (w6 _ _ (by omega)).trans a3.cV
    have vd : ∀ k, k < e + 1 → Ml 1 (170 + k) = nI (p k) := fun k hk => (w6 _ _ (by omega)).trans (a3.pk k hk).2.2.1
    obtain ⟨Mz, z0, z1, z2⟩ := m_close (N := N) (M := zu Ml 1 1 (nI e)) (s := s) (r := nI b) (by omega) zu_same (by omega) (show o ≤ e by omega) hs20
    have vz : ∀ a j, ¬ (a = 1 ∧ (j = 1 ∨ j = 2 ∨ (170 ≤ j ∧ j < 290))) → Mz a j = M1 a j := fun a j q => by
      rw [z2 a j (fun r => q ⟨r.1, by omega⟩), zu_ne (fun e1 e2 => q ⟨e1, Or.inl e2⟩), w6 a j (fun r => q ⟨r.1, by omega⟩)]
    obtain ⟨Mf, f0, f1, f2⟩ := m_prunes (M := zu Mz 1 (10 + 8 * s) 0) (N := N) (th := fun t => th t && !decide (t = s)) (hs := hs) (hg := hg) (gt := gt) (by omega) a4.gg a4.rk sg' (fun t h => by
      by_cases et : t = s
      · rw [et, zu_same, decide_eq_true rfl, Bool.not_true, Bool.and_false]
        rfl
      · rw [zu_ne (fun _ => by omega), vz _ _ (by omega), decide_eq_false et, Bool.not_false, Bool.and_true]
        exact a1.tV t h) (fun t h q => by
      rw [Bool.and_eq_true] at q
      rw [zu_ne (fun _ => by omega), vz _ _ (by omega)]
      exact a4.sV t h q.1) (fun g h8 => by
      rw [zu_ne (fun _ => by omega), vz _ _ (by omega)]
      exact a4.tV g h8) (fun g h8 hq => by
      rw [zu_ne (fun _ => by omega), vz _ _ (by omega)]
      exact a4.gV g h8 hq)
    have vf : ∀ a j, ¬ (a = 1 ∧ (j = 1 ∨ j = 2 ∨ j = 10 + 8 * s ∨ (170 ≤ j ∧ j < 290) ∨ ∃ g, g < 8 ∧ j = 290 + 2 * g)) → Mf a j = M1 a j := fun a j q => by
      rw [f2 a j (fun r => q ⟨r.1, Or.inr (Or.inr (Or.inr (Or.inr r.2)))⟩), zu_ne (fun e1 e2 => q ⟨e1, Or.inr (Or.inr (Or.inl e2))⟩), vz a j (fun r => q ⟨r.1, by omega⟩)]
    have gf : ∀ a j, a < 24 → Gf a j = Gd a j := fun a j h => (w5 a j (fun c hc => by omega) (by omega)).trans (p3 a j (by omega) (by omega))
    have gf2 : ∀ a j, ¬ (a < 47) → a ≠ 47 → a ≠ 48 → Gf a j = G1 a j := fun a j h h47 h48 => (w5 a j (fun c hc => by omega) (by omega)).trans ((p3 a j h47 h48).trans (gd1 _ _ (fun ⟨_, t, _, e⟩ => by omega) (by omega) (by omega)))
    have thl : ∀ t, (th t && !decide (t = s)) = true → th t = true ∧ t ≠ s := fun t q => by
      rw [Bool.and_eq_true, Bool.not_eq_true', decide_eq_false_iff_not] at q
      exact q
    have thm : ∀ t, th t = true → t ≠ s → (th t && !decide (t = s)) = true := fun t q1 q2 => by
      rw [q1, decide_eq_false q2]
      rfl
    refine ⟨nI b, (Gf, rfC q1), (Mf, rfM), ?_, ?_, ?_⟩
    · simp only [g_hist, g_now, Option.bind_some, e1]
      unfold f_X2_dropShape
      rw [zz1_of TC_1, gR_of TC_1, rf_1_0, Option.bind_some, c0, Option.bind_some, p0, cl, zb2_some, zb2_some]
    · rw [e2, Option.bind_some, g_v, Option.bind_some, v2_, a5.lV, Option.bind_some, zn_eq, ← nI_0, w2]
      unfold exR
      rw [g_v, Option.bind_some, v1_, v1, Option.bind_some, nI_pred, w1_, Option.bind_some, m_depthOf_w (k0 := o) (s := s) (by omega) (by omega) (by rw [zu_ne (fun _ => by omega), vd o ho, hpo]) (fun j hj q => by
        rw [zu_ne (fun _ => by omega), vd j (by omega)] at q
        have q2 := (nI_eq (by have := (a3.pk j (by omega)).1; omega) (by omega)).mp q
        have := QP_inj a3 (show j < e + 1 by omega) ho (q2.trans hpo.symm)
        omega), zb2_some, z0, f0, Option.bind_some]
    · have hqS : QS n (fun t => th t && !decide (t = s)) Gf (Mf 1) := by
        refine ⟨a1.n20, (gf _ _ (by omega)).trans ((gd1 _ _ (by omega) (by omega) (by omega)).trans a1.nD), (vf _ _ (by omega)).trans a1.nV, fun t h => ?_, fun t h => ?_, fun t t1 t2 => ?_, fun t h q j j1 j2 => ?_, fun t h q => ?_⟩
        · rw [gf _ _ (by omega)]
          show Gd (4 + t) 0 = bI (th t && !decide (t = s))
          by_cases et : t = s
          · rw [et, gd3, decide_eq_true rfl, Bool.not_true, Bool.and_false]
            rfl
          · rw [gd1 _ _ (by omega) (by omega) (by omega), decide_eq_false et, Bool.not_false, Bool.and_true]
            exact a1.tD t h
        · rw [f2 _ _ (by omega)]
          show zu Mz 1 (10 + 8 * s) 0 1 (10 + 8 * t) = bI (th t && !decide (t = s))
          by_cases et : t = s
          · rw [et, zu_same, decide_eq_true rfl, Bool.not_true, Bool.and_false]
            rfl
          · rw [zu_ne (fun _ => by omega), vz _ _ (by omega), decide_eq_false et, Bool.not_false, Bool.and_true]
            exact a1.tV t h
        · show (th t && !decide (t = s)) = false
          rw [a1.fr t t1 t2]
          rfl
        · obtain ⟨q1, q2⟩ := thl t q
          rw [vf _ _ (by omega), gf _ _ (by omega), gd1 _ _ (by omega) (by omega) (by omega)]
          exact a1.fV t h q1 j j1 j2
        · obtain ⟨q1, q2⟩ := thl t q
          obtain ⟨x1, x2, x3⟩ := a1.fD t h q1
          refine ⟨?_, fun j j1 j2 => ?_, fun j j1 j2 => ?_⟩
          · rw [gf _ _ (by omega), gd1 _ _ (by omega) (by omega) (by omega)]; exact x1
          · rw [gf _ _ (by omega), gd1 _ _ (by omega) (by omega) (by omega)]; exact x2 j j1 j2
          · rw [gf _ _ (by omega), gd1 _ _ (by omega) (by omega) (by omega)]; exact x3 j j1 j2
      have hqC : QC (fun t => th t && !decide (t = s)) (fun t => sel t && !decide (t = s)) Gf (Mf 1) := by
        refine ⟨(gf _ _ (by omega)).trans gd2, fun t h q => ?_, fun t h q => ?_⟩
        · obtain ⟨q1, q2⟩ := thl t q
          show Mf 1 (10 + 8 * t + 6) = bI (sel t && !decide (t = s))
          rw [vf _ _ (by omega), a2.cV t h q1, decide_eq_false q2, Bool.not_false, Bool.and_true]
        · have q : (sel t && !decide (t = s)) = true := q
          rw [Bool.and_eq_true] at q
          show (th t && !decide (t = s)) = true
          rw [a2.ct t h q.1, q.2]
          rfl
      have hqP : QP (fun t => th t && !decide (t = s)) e (fun k => if k < o then p k else p (k + 1)) Gf (Mf 1) := by
        have hin : ∀ k, k < e → ∃ k', k' < e + 1 ∧ k' ≠ o ∧ (if k < o then p k else p (k + 1)) = p k' ∧ pdN e o k' = k ∧ Mf 1 (170 + k) = nI (p k') := fun k hk => by
          by_cases hko : k < o
          · refine ⟨k, by omega, by omega, if_pos hko, ?_, ?_⟩
            · unfold pdN
              rw [if_neg (by omega), if_neg (by omega)]
            · rw [f2 _ _ (by omega), zu_ne (fun _ => by omega), z2 _ _ (by omega), zu_ne (fun _ => by omega)]
              exact vd k (by omega)
          · refine ⟨k + 1, by omega, by omega, if_neg hko, ?_, ?_⟩
            · unfold pdN
              rw [if_neg (by omega), if_pos (by omega)]
              omega
            · rw [f2 _ _ (by omega), zu_ne (fun _ => by omega), z1 k (by omega) hk, zu_ne (fun _ => by omega)]
              exact vd (k + 1) (by omega)
        refine ⟨by omega, ?_, ?_, fun k hk => ?_, fun t h q => ?_⟩
        · rw [f2 _ _ (by omega), zu_ne (fun _ => by omega), z2 _ _ (by omega), zu_same]
        · have hcn := a3.cn
          rw [cnt_add (P := fun t => th t && !decide (t = s)) (Q := th) hs20 (by simp) ht (fun i _ hi => by rw [decide_eq_false hi]; simp)] at hcn
          omega
        · obtain ⟨k', b1, b2, b3, b4, b5⟩ := hin k hk
          obtain ⟨r1, r2, r3, r4⟩ := a3.pk k' b1
          have hne : p k' ≠ s := fun q => b2 (QP_inj a3 b1 ho (q.trans hpo.symm))
          simp only [b3]
          refine ⟨r1, thm _ r2 hne, b5, ?_⟩
          rw [gf _ _ (by omega), gd4 k' b1 b2, b4]
        · obtain ⟨q1, q2⟩ := thl t q
          obtain ⟨k, hk, hpk⟩ := a3.ps t h q1
          have hne : k ≠ o := fun q => q2 (by rw [← hpk, q, hpo])
          by_cases hko : k < o
          · exact ⟨k, by omega, by show (if k < o then p k else p (k + 1)) = t; rw [if_pos hko]; exact hpk⟩
          · refine ⟨k - 1, by omega, ?_⟩
            show (if k - 1 < o then p (k - 1) else p (k - 1 + 1)) = t
            rw [if_neg (by omega), show k - 1 + 1 = k by omega]
            exact hpk
      have hqH : QH (fun t => th t && !decide (t = s)) (fun t => sel t && !decide (t = s)) hs hg (fun g => gt g && neB (fun t => th t && !decide (t = s)) hs hg g) Gf (Mf 1) := by
        refine ⟨fun t h q => ?_, fun t h q => ?_, fun t h q g eg => ?_, fun g h8 => ?_, fun g h8 => f1 g h8, fun g h8 q => ?_, fun g h8 q => ?_, fun g h8 q g2 e2 => ?_, ?_, fun g h8 q => ?_, fun t u g ht2 hu2 q1 q2 e1 e2 => ?_⟩
        · rw [gf _ _ (by omega), gd1 _ _ (by omega) (by omega) (by omega)]
          exact a4.sD t h (thl t q).1
        · rw [vf _ _ (fun ⟨_, r⟩ => by rcases r with r | r | r | r | ⟨g, _, r⟩ <;> omega)]
          exact a4.sV t h (thl t q).1
        · obtain ⟨b1, b2⟩ := a4.sg t h (thl t q).1 g eg
          refine ⟨b1, ?_⟩
          show (gt g && neB _ hs hg g) = true
          rw [b2, ne_hs (th := fun t => th t && !decide (t = s)) h q eg]
          rfl
        · rw [w5 _ _ (fun c hc => by omega) (by omega)]
          exact p1 g h8
        · rw [w5 _ _ (fun c hc => by omega) (by omega)]
          exact p2 g h8 q
        · have q : (gt g && neB (fun t => th t && !decide (t = s)) hs hg g) = true := q
          rw [Bool.and_eq_true] at q
          rw [vf _ _ (fun ⟨_, r⟩ => by rcases r with r | r | r | r | ⟨g, _, r⟩ <;> omega)]
          exact a4.gV g h8 q.1
        · have q : (gt g && neB (fun t => th t && !decide (t = s)) hs hg g) = true := q
          rw [Bool.and_eq_true] at q
          obtain ⟨b1, b2⟩ := a4.gg g h8 q.1 g2 e2
          refine ⟨b1, ?_⟩
          show (gt g2 && neB _ hs hg g2) = true
          rw [b2, ne_up (th := fun t => th t && !decide (t = s)) a4.gg a4.rk sg' h8 q.1 q.2 e2]
          rfl
        · obtain ⟨r, hr⟩ := a4.rk
          refine ⟨r, fun g h8 q g2 e2 => ?_⟩
          have q : (gt g && neB (fun t => th t && !decide (t = s)) hs hg g) = true := q
          rw [Bool.and_eq_true] at q
          exact hr g h8 q.1 g2 e2
        · have q : (gt g && neB (fun t => th t && !decide (t = s)) hs hg g) = true := q
          rw [Bool.and_eq_true] at q
          obtain ⟨t, t1, t2⟩ := anyB_iff.mp q.2
          have t2 : ((th t && !decide (t = s)) && insA hg g 8 (hs t)) = true := t2
          rw [Bool.and_eq_true] at t2
          exact ⟨t, t1, t2.1, t2.2⟩
        · obtain ⟨b1, b2⟩ := thl t q1
          obtain ⟨b3, b4⟩ := thl u q2
          show (sel t && !decide (t = s)) = (sel u && !decide (u = s))
          rw [decide_eq_false b2, decide_eq_false b4, a4.cl t u g ht2 hu2 b1 b3 e1 e2]
      have hqL : QL (fun t => th t && !decide (t = s)) ml Gf (Mf 1) := by
        refine QL_rm w3 w4 hs20 (fun t _ q1 q2 => thm t q2 q1) rfl ?_ (fun c _ j _ => rfl) (fun i hi => ?_)
        · rw [f2 _ _ (by omega), zu_ne (fun _ => by omega), z2 _ _ (by omega), zu_ne (fun _ => by omega)]
        · rw [f2 _ _ (by omega), zu_ne (fun _ => by omega), z2 _ _ (by omega), zu_ne (fun _ => by omega)]
      refine INV_now h1 h2 ⟨n, _, _, e, _, hs, hg, _, ml, hqS, hqC, hqP, hqH, hqL, QU_fr a6 ?_ ?_ ?_ ?_⟩ ?_ ?_ ?_ ?_ ?_
      all_goals (intros; first | exact gf2 _ _ (by omega) (by omega) (by omega) | exact vf _ _ (fun ⟨_, r⟩ => by rcases r with r | r | r | r | ⟨g, _, r⟩ <;> omega) | exact ⟨gf2 _ _ (by omega) (by omega) (by omega), gf2 _ _ (by omega) (by omega) (by omega)⟩)
  · rw [k1, k2, zb2_some, zb2_some, zo_none, if_neg (by decide)]
    exact ⟨_, _, _, rfl, rfl, hI⟩
end ORM
