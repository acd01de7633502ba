/-! the order in depth: bring -/
/-- the order when the one at o goes to d -/
def mvP (p : Nat → Nat) (o d k : Nat) : Nat := if k = d then p o else if d ≤ k ∧ k ≤ o then p (k - 1) else if o ≤ k ∧ k ≤ d then p (k + 1) else p k
def pdN (d o x : Nat) : Nat := if d ≤ x ∧ x < o then x + 1 else if x ≤ d ∧ o < x then x - 1 else x
theorem pdv_N {d o x : Nat} (hd : d < 100) (ho : o < 100) (hx : x < 100) : pdv (nI d) (nI o) (nI x) = nI (pdN d o x) := by
  unfold pdv pdN
  by_cases h : d ≤ x ∧ x < o
  · rw [if_pos h, if_pos ⟨nI_le h.1 (by omega), nI_lt h.2 (by omega)⟩, nI_1]
  · rw [if_neg h, if_neg (fun q => h ⟨(nI_leI (by omega) (by omega)).mp q.1, (nI_ltI (by omega) (by omega)).mp q.2⟩)]
    by_cases h2 : x ≤ d ∧ o < x
    · obtain ⟨m, rfl⟩ : ∃ m, x = m + 1 := ⟨x - 1, by omega⟩
      rw [if_pos h2, if_pos ⟨nI_le h2.1 (by omega), nI_lt h2.2 (by omega)⟩, nI_pred]
      rfl
    · rw [if_neg h2, if_neg (fun q => h2 ⟨(nI_leI (by omega) (by omega)).mp q.1, (nI_ltI (by omega) (by omega)).mp q.2⟩)]
section BRG
variable {G M : Nat → Nat → Int32} {q : Nat → Option Nat} {N : Nat} {n c ln : Nat} {th sel gt : Nat → Bool} {p : Nat → Nat} {hs hg : Nat → Option Nat} {ρ : Nat → Nat → Option Nat} {V : Nat → Int32} {s t a b y k o d : Nat}
theorem QP_mv {D D' : Nat → Nat → Int32} {V V' : Nat → Int32} (h : QP th c p D V) (ho : o < c) (hd : d < c) (e1 : V' 1 = V 1) (e2 : ∀ k, k < c → V' (170 + k) = nI (mvP p o d k)) (e3 : D' (4 + p o) 6 = nI d) (e4 : ∀ k, k < c → k ≠ o → D' (4 + p k) 6 = nI (pdN d o k)) : QP th c (mvP p o d) D' V' := by
  refine ⟨h.c20, e1.trans h.cV, h.cn, fun k hk => ?_, fun s hs ht => ?_⟩
  · refine ⟨?_, ?_, e2 k hk, ?_⟩
    · unfold mvP
      split
      · exact (h.pk o ho).1
      · split
        · exact (h.pk (k - 1) (by omega)).1
        · split
          · exact (h.pk (k + 1) (by omega)).1
          · exact (h.pk k hk).1
    · unfold mvP
      split
      · exact (h.pk o ho).2.1
      · split
        · exact (h.pk (k - 1) (by omega)).2.1
        · split
          · exact (h.pk (k + 1) (by omega)).2.1
          · exact (h.pk k hk).2.1
    · unfold mvP
      by_cases h1 : k = d
      · rw [if_pos h1, e3, h1]
      · rw [if_neg h1]
        by_cases h2 : d ≤ k ∧ k ≤ o
        · rw [if_pos h2, e4 (k - 1) (by omega) (by omega)]
          unfold pdN
          rw [if_pos (by omega)]
          congr 1
          omega
        · rw [if_neg h2]
          by_cases h3 : o ≤ k ∧ k ≤ d
          · rw [if_pos h3, e4 (k + 1) (by omega) (by omega)]
            unfold pdN
            rw [if_neg (by omega), if_pos (by omega)]
            congr 1
          · rw [if_neg h3, e4 k hk (by omega)]
            unfold pdN
            rw [if_neg (by omega), if_neg (by omega)]
  · obtain ⟨k, hk, rfl⟩ := h.ps s hs ht
    by_cases e : k = o
    · refine ⟨d, hd, ?_⟩
      unfold mvP
      rw [if_pos rfl, e]
    · refine ⟨pdN d o k, ?_, ?_⟩
      · unfold pdN
        split
        · omega
        · split <;> omega
      · unfold pdN mvP
        by_cases h1 : d ≤ k ∧ k < o
        · rw [if_pos h1, if_neg (by omega), if_pos (by omega)]
          congr 1
        · rw [if_neg h1]
          by_cases h2 : k ≤ d ∧ o < k
          · rw [if_pos h2, if_neg (by omega), if_neg (by omega), if_pos (by omega)]
            congr 1
            omega
          · rw [if_neg h2, if_neg (by omega), if_neg (by omega), if_neg (by omega)]
theorem cnt_c (hS : QS n th G V) (hP : QP th c p G V) : cnt (liv G) 20 = c := by
  rw [← hP.cn]
  exact cnt_ext (fun i hi => QS_liv hS hi)
/-- what putAtDepth makes of the depths -/
theorem put_dep (hS : QS n th G V) (hP : QP th c p G V) (ho : o < c) (hd : d < 21) (hk : k < c) (hne : k ≠ o) : zu (mapC G (liv G) 6 (pdv (nI d) (G (4 + p o) 6)) 20) (4 + p o) 6 (nI d) (4 + p k) 6 = nI (pdN d o k) := by
  have h20 := hP.c20
  obtain ⟨p1, p2, p3, p4⟩ := hP.pk k hk
  have hpo := (hP.pk o ho).2.2.2
  have hne2 : p k ≠ p o := fun e => hne (QP_inj hP hk ho e)
  rw [zu_ne (fun e => absurd e (by omega)), mapC_in p1, if_pos (by rw [QS_liv hS p1]; exact p2), p4, hpo, pdv_N (by omega) (by omega) (by omega)]
theorem m_front (hN : 20 < N) (ho : o < 20) {x z : Int32} : ∃ M', zl2 (f_X12_bring_L27 TM N 0 x z) N (nI o) (M, rfM) = some (z, (M', rfM)) ∧ M' 1 170 = x ∧ (∀ k, 0 < k → k ≤ o → M' 1 (170 + k) = M 1 (170 + (k - 1))) ∧ ∀ a j, ¬ (a = 1 ∧ 170 ≤ j ∧ j ≤ 170 + o) → M' a j = M a j := by
  refine zl2_inv (P := fun r => ∃ M' : Nat → Nat → Int32, r = some (z, (M', rfM)) ∧ M' 1 170 = x ∧ (∀ k, 0 < k → k ≤ o → M' 1 (170 + k) = M 1 (170 + (k - 1))) ∧ ∀ a j, ¬ (a = 1 ∧ 170 ≤ j ∧ j ≤ 170 + o) → M' a j = M a j) o
    (fun i (x : Int32) s => x = nI (o - i) ∧ ∃ M' : Nat → Nat → Int32, s = (M', rfM) ∧ (∀ k, o - i < k → k ≤ o → M' 1 (170 + k) = M 1 (170 + (k - 1))) ∧ ∀ a j, ¬ (a = 1 ∧ 170 + (o - i) < j ∧ j ≤ 170 + o) → M' a j = M a j) ?_ ?_ o 0 N (nI o) (M, rfM) (by omega) (by omega) ⟨rfl, M, rfl, fun k h1 h2 => by omega, fun a j _ => rfl⟩
  · rintro i hi w s ⟨rfl, M1, rfl, hA, hB⟩
    obtain ⟨m, hm⟩ : ∃ m, o - i = m + 1 := ⟨o - i - 1, by omega⟩
    have hm2 : o - (i + 1) = m := by omega
    rw [hm] at hA hB ⊢
    refine Or.inl ⟨nI m, (zu M1 1 (170 + (m + 1)) (M1 1 (170 + m)), rfM), ⟨by rw [hm2], _, rfl, fun k h1 h2 => ?_, fun a j ha => ?_⟩, fun kk => ?_⟩
    · rw [hm2] at h1
      by_cases e : k = m + 1
      · subst e
        rw [zu_same, hB 1 (170 + m) (by omega)]
        rfl
      · rw [zu_ne (fun _ => by omega), hA k (by omega) h2]
    · rw [hm2] at ha
      rw [zu_ne (fun e1 e2 => ha ⟨e1, by omega, by omega⟩), hB a j (fun q => ha ⟨q.1, by omega, q.2.2⟩)]
    · unfold f_X12_bring_L27
      rw [if_neg (nI_nle (by omega) (by omega))]
      simp only [g_v, Option.bind_some, ixD]
      rw [show 170 + (m + 1) = 170 + m + 1 from rfl, nI_pred, v_rd (by omega), Option.bind_some, v_wr (by omega), Option.bind_some, zn_eq, pk_m1]
  · rintro w s ⟨rfl, M1, rfl, hA, hB⟩ kk
    rw [Nat.sub_self] at hA hB ⊢
    refine ⟨zu M1 1 170 x, ?_, zu_same, fun k h1 h2 => ?_, fun a j ha => ?_⟩
    · unfold f_X12_bring_L27
      rw [if_pos (show nI 0 ≤ 0 by decide), g_v, Option.bind_some, v_wrL (i := 170) (show (170 : Int32) = nI 170 from rfl) (by omega), Option.bind_some]
    · rw [zu_ne (fun _ => by omega), hA k h1 h2]
    · rw [zu_ne (fun e1 e2 => ha ⟨e1, by omega, by omega⟩), hB a j (fun q => ha ⟨q.1, by omega, q.2.2⟩)]
theorem m_back (hN : 20 < N) (hc : M 1 1 = nI c) (h20 : c ≤ 20) (ho : o < c) {x z : Int32} : ∃ M', zl2 (f_X12_bring_L77 TM N 0 x z) N (nI o) (M, rfM) = some (z, (M', rfM)) ∧ M' 1 (170 + (c - 1)) = x ∧ (∀ k, o ≤ k → k < c - 1 → M' 1 (170 + k) = M 1 (170 + (k + 1))) ∧ ∀ a j, ¬ (a = 1 ∧ 170 + o ≤ j ∧ j < 170 + c) → M' a j = M a j := by
  obtain ⟨e, rfl⟩ : ∃ e, c = e + 1 := ⟨c - 1, by omega⟩
  rw [Nat.add_sub_cancel]
  refine zl2_inv (P := fun r => ∃ M' : Nat → Nat → Int32, r = some (z, (M', rfM)) ∧ M' 1 (170 + e) = x ∧ (∀ k, o ≤ k → k < e → M' 1 (170 + k) = M 1 (170 + (k + 1))) ∧ ∀ a j, ¬ (a = 1 ∧ 170 + o ≤ j ∧ j < 170 + (e + 1)) → M' a j = M a j) (e - o)
    (fun i (x : Int32) s => x = nI (o + i) ∧ ∃ M' : Nat → Nat → Int32, s = (M', rfM) ∧ (∀ k, o ≤ k → k < o + i → M' 1 (170 + k) = M 1 (170 + (k + 1))) ∧ ∀ a j, ¬ (a = 1 ∧ 170 + o ≤ j ∧ j < 170 + (o + i)) → M' a j = M a j) ?_ ?_ (e - o) 0 N (nI o) (M, rfM) (by omega) (by omega) ⟨rfl, M, rfl, fun k h1 h2 => by omega, fun a j _ => rfl⟩
  · rintro i hi w s ⟨rfl, M1, rfl, hA, hB⟩
    have hc1 : M1 1 1 = nI (e + 1) := (hB 1 1 (by omega)).trans hc
    refine Or.inl ⟨nI (o + (i + 1)), (zu M1 1 (170 + (o + i)) (M1 1 (170 + (o + i) + 1)), rfM), ⟨rfl, _, rfl, fun k h1 h2 => ?_, fun a j ha => ?_⟩, fun kk => ?_⟩
    · by_cases e : k = o + i
      · subst e
        rw [zu_same, hB 1 _ (by omega)]
        rfl
      · rw [zu_ne (fun _ => by omega), hA k h1 (by omega)]
    · rw [zu_ne (fun e1 e2 => ha ⟨e1, by omega, by omega⟩), hB a j (fun q => ha ⟨q.1, q.2.1, by omega⟩)]
    · unfold f_X12_bring_L77
      simp only [g_v, Option.bind_some, v1_, hc1, nI_pred]
      rw [if_neg (nI_ge (by omega) (by omega)), ixD, nI_1, v_rd (by omega), Option.bind_some, v_wr (by omega), Option.bind_some, zn_eq, nI_1]
      rfl
  · rintro w s ⟨rfl, M1, rfl, hA, hB⟩ kk
    have e0 : o + (e - o) = e := by omega
    rw [e0] at hA hB ⊢
    have hc1 : M1 1 1 = nI (e + 1) := (hB 1 1 (by omega)).trans hc
    refine ⟨zu M1 1 (170 + e) x, ?_, zu_same, fun k h1 h2 => ?_, fun a j ha => ?_⟩
    · unfold f_X12_bring_L77
      simp only [g_v, Option.bind_some, v1_, hc1, nI_pred]
      rw [if_pos (nI_le (Nat.le_refl e) (by omega)), ixD, show 170 + (e + 1) = 170 + e + 1 from rfl, nI_pred, v_wr (by omega), Option.bind_some]
    · rw [zu_ne (fun _ => by omega), hA k h1 h2]
    · rw [zu_ne (fun e1 e2 => ha ⟨e1, by omega, by omega⟩), hB a j (fun q => ha ⟨q.1, q.2.1, by omega⟩)]
theorem o_bring (hN : 1901 < N) {σC σM : zS} (h : INV σC σM) (x z : Int32) : zAg INV (f_X11_bring TC N σC 0 x z) (f_X12_bring TM N σM 0 x z) := by
  obtain ⟨G, q, M, rfl, rfl, ⟨n, th, sel, c, p, hs, hg, gt, ln, hA⟩, hH, hT⟩ := id h
  unfold f_X11_bring f_X12_bring
  rw [zz1_of TC_0, zz1_of TM_0]
  simp only [g_now, g_shapes, Option.bind_some]
  rcases shp (q := q) (N := N) hA.1 x with ⟨s, hs20, rfl, ht, k1, k2⟩ | ⟨k1, k2⟩
  · rw [k1, k2, zb2_some, zb2_some, zo_some, if_pos (by decide)]
    obtain ⟨G1, q1, M1, e1, e2, ⟨a1, a2, a3, a4, a5, a6⟩, h1, h2, h3, h4⟩ := keep2 hN hA hH hT
    obtain ⟨o, ho, rfl⟩ := a3.ps s hs20 ht
    have h20 := a3.c20
    have hpo := (a3.pk o ho).2.2.2
    simp only [g_hist, g_now, Option.bind_some, e1, e2]
    rw [gI_of (TC_sh hs20), hpo, Option.bind_some]
    simp only [g_now, g_shapes, Option.bind_some]
    rw [m_depthOf (by omega) a3 ho, zb2_some]
    by_cases hz : z = 0
    · rw [if_pos hz, if_pos hz, e_count (by omega), zb2_some, cnt_c a1 a3, show nI c - 1 = nI (c - 1) from pk_sub (a := c) (b := 1) (by omega), e_putAtDepth (by omega) hs20, Option.bind_some]
      obtain ⟨M2, e3, m1, m2, m3⟩ := m_back (N := N) (x := nI (p o)) (z := nI o) (by omega) a3.cV h20 ho
      rw [e3]
      have hq : QP th c (mvP p o (c - 1)) (zu (mapC G1 (liv G1) 6 (pdv (nI (c - 1)) (G1 (4 + p o) 6)) 20) (4 + p o) 6 (nI (c - 1))) (M2 1) := by
        refine QP_mv a3 ho (by omega) (m3 _ _ (by omega)) (fun k hk => ?_) zu_same (fun k hk hne => put_dep a1 a3 ho (by omega) hk hne)
        unfold mvP
        by_cases q1 : k = c - 1
        · rw [if_pos q1, q1, m1]
        · rw [if_neg q1, if_neg (by omega)]
          by_cases q3 : o ≤ k ∧ k ≤ c - 1
          · rw [if_pos q3, m2 k q3.1 (by omega), (a3.pk (k + 1) (by omega)).2.2.1]
          · rw [if_neg q3, m3 _ _ (by omega), (a3.pk k hk).2.2.1]
      refine ⟨nI o, _, _, rfl, rfl, INV_now h1 h2 ⟨n, th, sel, c, mvP p o (c - 1), hs, hg, gt, ln, QS_fr a1 ?_ ?_ ?_ ?_, QC_fr a2 ?_ ?_, hq, QH_fr a4 ?_ ?_ ?_ ?_ ?_, QL_fr a5 ?_ ?_ ?_ ?_, QU_fr a6 ?_ ?_ ?_ ?_⟩ ?_ ?_ ?_ ?_ ?_⟩
      all_goals (intros; first | exact m3 _ _ (by omega) | exact (zu_ne (fun e => by omega)).trans (mapC_out (by omega)) | exact ⟨(zu_ne (fun e => by omega)).trans (mapC_out (by omega)), (zu_ne (fun e => by omega)).trans (mapC_out (by omega))⟩)
    · rw [if_neg hz, if_neg hz, ← nI_0, e_putAtDepth (by omega) hs20, Option.bind_some]
      obtain ⟨M2, e3, m1, m2, m3⟩ := m_front (N := N) (M := M1) (x := nI (p o)) (z := nI o) (by omega) (show o < 20 by omega)
      rw [e3]
      have hq : QP th c (mvP p o 0) (zu (mapC G1 (liv G1) 6 (pdv (nI 0) (G1 (4 + p o) 6)) 20) (4 + p o) 6 (nI 0)) (M2 1) := by
        refine QP_mv a3 ho (by omega) (m3 _ _ (by omega)) (fun k hk => ?_) zu_same (fun k hk hne => put_dep a1 a3 ho (by omega) hk hne)
        unfold mvP
        by_cases q1 : k = 0
        · rw [if_pos q1, q1, m1]
        · rw [if_neg q1]
          by_cases q3 : 0 ≤ k ∧ k ≤ o
          · rw [if_pos q3, m2 k (by omega) q3.2, (a3.pk (k - 1) (by omega)).2.2.1]
          · rw [if_neg q3, if_neg (by omega), m3 _ _ (by omega), (a3.pk k hk).2.2.1]
      refine ⟨nI o, _, _, rfl, rfl, INV_now h1 h2 ⟨n, th, sel, c, mvP p o 0, hs, hg, gt, ln, QS_fr a1 ?_ ?_ ?_ ?_, QC_fr a2 ?_ ?_, hq, QH_fr a4 ?_ ?_ ?_ ?_ ?_, QL_fr a5 ?_ ?_ ?_ ?_, QU_fr a6 ?_ ?_ ?_ ?_⟩ ?_ ?_ ?_ ?_ ?_⟩
      all_goals (intros; first | exact m3 _ _ (by omega) | exact (zu_ne (fun e => by omega)).trans (mapC_out (by omega)) | exact ⟨(zu_ne (fun e => by omega)).trans (mapC_out (by omega)), (zu_ne (fun e => by omega)).trans (mapC_out (by omega))⟩)
  · rw [k1, k2, zb2_some, zb2_some, zo_none, if_neg (by decide)]
    exact ⟨_, _, _, rfl, rfl, h⟩
end BRG
