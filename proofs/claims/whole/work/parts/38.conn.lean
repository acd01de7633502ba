/-! connectors: finding, counting; resize -/
section CNX
variable {G M : Nat → Nat → Int32} {q : Nat → Option Nat} {N : Nat} {n c ln : Nat} {th sel gt : Nat → Bool} {p : Nat → Nat} {hs hg : Nat → Option Nat} {ρ : Nat → Nat → Option Nat} {V : Nat → Int32}
theorem e_cfind_k (hl : G 24 1 = nI ln) (h20 : ln ≤ 20) {k : Nat} (hk : k < 2 ^ 31) : f_X1_find TC N (G, rfC q) 24 (nI k) = some (if k < ln then some (26 + k) else none, (G, rfC q)) := by
  unfold f_X1_find
  rw [zz1_of TC_24, if_neg (nI_pos hk), gI_of TC_24, Option.bind_some, hl]
  by_cases h : k < ln
  · rw [if_neg (nI_ge h (by omega)), if_pos h]
    simp only [gR_of TC_24, rf_24_0, Option.bind_some, aL_of TC_25, TL_25]
    rw [if_pos (nI_lt (show k < 20 by omega) (by decide)), aR_of TC_25 TL_25 (show k < 20 by omega) (by decide), rf_25 (by omega)]
    rfl
  · rw [if_pos (nI_le (by omega) hk), if_neg h]
theorem isLine_k {k : Nat} (h20 : ln ≤ 20) (hk : k < ln) : wth (nI k) 0 (nI ln - 1) = 1 := by
  obtain ⟨m, rfl⟩ : ∃ m, ln = m + 1 := ⟨ln - 1, by omega⟩
  rw [nI_pred m]
  exact wth_in (a := 0) (b := m) (by omega) (by omega) (by omega)
theorem isLine_no {x : Int32} (h20 : ln ≤ 20) (h : x < 0 ∨ nI ln ≤ x) : wth x 0 (nI ln - 1) = 0 := by
  refine wth0.mpr (fun ⟨h1, h2⟩ => ?_)
  have e : (nI ln - nI 1).toInt = (ln : Int) - 1 := pk_sub_toInt (a := ln) (b := 1) (by omega) (by omega)
  have e0 : (0 : Int32).toInt = 0 := by decide
  rw [fa_le] at h1 h2
  rw [show nI ln - 1 = nI ln - nI 1 from rfl, e] at h2
  rcases h with h | h
  · rw [fa_lt] at h
    omega
  · rw [fa_le, nI_toInt (by omega)] at h
    omega
/-- a number is a connector's on both sides, or on none -/
theorem lin (hL : QL th ln G (M 1)) (x : Int32) : (∃ k, k < ln ∧ x = nI k ∧ f_X1_find TC N (G, rfC q) 24 x = some (some (26 + k), (G, rfC q)) ∧ f_X12_isLine TM N (M, rfM) 0 x = some (1, (M, rfM))) ∨ (f_X1_find TC N (G, rfC q) 24 x = some (none, (G, rfC q)) ∧ f_X12_isLine TM N (M, rfM) 0 x = some (0, (M, rfM))) := by
  have h20 := hL.l20
  have hm : f_X12_isLine TM N (M, rfM) 0 x = some (wth x 0 (nI ln - 1), (M, rfM)) := by
    unfold f_X12_isLine
    rw [zz1_of TM_0]
    simp only [g_v, Option.bind_some, v2_, hL.lV]
    rw [m_in, zb2_some, rZ_01 (wth01 _ _ _)]
  rcases nI_big (x := x) (n := ln) (by omega) with h | ⟨k, hk, rfl⟩
  · refine Or.inr ⟨?_, by rw [hm, isLine_no h20 h]⟩
    unfold f_X1_find
    rw [zz1_of TC_24]
    by_cases h0 : x < 0
    · rw [if_pos h0]
    · rw [if_neg h0, gI_of TC_24, Option.bind_some, hL.lD, if_pos (h.resolve_left h0)]
  · exact Or.inl ⟨k, hk, rfl, by rw [e_cfind_k hL.lD h20 (by omega), if_pos hk], by rw [hm, isLine_k h20 hk]⟩
theorem e_isAtC {a : Nat} (ha : TC.1 a = 0) {x : Int32} : f_X0_isAt TC N (G, ρ) a x = some (if G a 0 = x ∨ G a 2 = x then 1 else 0, (G, ρ)) := by
  unfold f_X0_isAt
  rw [zz1_of ha, gI_of ha, Option.bind_some]
  by_cases h : G a 0 = x
  · rw [if_pos h, if_pos (Or.inl h)]; rfl
  · rw [if_neg h, gI_of ha, Option.bind_some]
    by_cases h2 : G a 2 = x
    · rw [if_neg (fun n => n h2), if_pos (Or.inr h2)]; rfl
    · rw [if_pos h2, if_neg (fun q => q.elim h h2)]; rfl
theorem m_isAt {k : Nat} (hk : k < 20) {x : Int32} : f_X12_isAt TM N (M, rfM) 0 (nI k) x = some (if M 1 (190 + 5 * k) = x ∨ M 1 (190 + 5 * k + 2) = x then 1 else 0, (M, rfM)) := by
  unfold f_X12_isAt
  rw [zz1_of TM_0]
  simp only [g_v, Option.bind_some, ix5]
  rw [v_rd (by omega), Option.bind_some]
  by_cases h : M 1 (190 + 5 * k) = x
  · rw [if_pos h, if_pos (Or.inl h)]; rfl
  · rw [if_neg h, show nI (190 + 5 * k) + (2 : Int32) = nI (190 + 5 * k + 2) from nI_add _ 2, v_rd (by omega), Option.bind_some]
    by_cases h2 : M 1 (190 + 5 * k + 2) = x
    · rw [if_neg (fun n => n h2), if_pos (Or.inr h2)]; rfl
    · rw [if_pos h2, if_neg (fun q => q.elim h h2)]; rfl
theorem cnt_cut {P : Nat → Bool} {m : Nat} : ∀ {n : Nat}, m ≤ n → cnt (fun k => decide (k < m) && P k) n = cnt P m := by
  intro n
  induction n with
  | zero =>
    intro h
    have : m = 0 := by omega
    subst this
    rfl
  | succ n ih =>
    intro h
    by_cases e : m = n + 1
    · subst e
      exact cnt_ext (fun i hi => by simp [hi])
    · have h2 : ¬ n < m := by omega
      rw [cnt_f (by simp [h2])]
      exact ih (by omega)
/-- a connector has an end at the shape -/
def atB (V : Nat → Int32) (x : Int32) (k : Nat) : Bool := decide (V (190 + 5 * k) = x ∨ V (190 + 5 * k + 2) = x)
theorem atB_D (hL : QL th ln G V) {x : Int32} {k : Nat} (hk : k < ln) : (G (26 + k) 0 = x ∨ G (26 + k) 2 = x) ↔ atB V x k = true := by
  unfold atB
  rw [decide_eq_true_iff, hL.eq k hk 0 (by omega), hL.eq k hk 2 (by omega)]
  exact Iff.rfl
theorem e_countAt (hN : 20 < N) (hL : QL th ln G V) {x : Int32} : f_X1_countAt TC N (G, rfC q) 24 x = some (nI (cnt (atB V x) ln), (G, rfC q)) := by
  unfold f_X1_countAt
  rw [zz1_of TC_24, ← cnt_cut (P := atB V x) hL.l20]
  refine zl3_end 20 (fun i => nI (cnt (fun k => decide (k < ln) && atB V x k) i)) (fun i => nI i) (fun _ => (G, rfC q)) nI_0.symm nI_0.symm rfl hN (fun i hi k => ?_) (fun k => ?_)
  · unfold f_X1_countAt_L4
    simp only [gR_of TC_24, rf_24_0, Option.bind_some, aL_of TC_25, TL_25]
    rw [if_neg (nI_ge hi (by decide)), e_cfind_k hL.lD hL.l20 (by omega), zb2_some]
    by_cases hk : i < ln
    · rw [if_pos hk, zo_some, e_isAtC (TC_cn hi), zb2_some]
      by_cases h : atB V x i = true
      · rw [if_pos ((atB_D hL hk).mpr h), if_neg (by decide), zn_eq, zn_eq, nI_1, nI_1, cnt_t (by simp [hk, h])]
      · rw [if_neg (fun q => h ((atB_D hL hk).mp q)), if_pos rfl, zn_eq, nI_1, cnt_f (by simp [h])]
    · rw [if_neg hk, zo_none, zn_eq, nI_1, cnt_f (by simp [hk])]
  · unfold f_X1_countAt_L4
    simp only [gR_of TC_24, rf_24_0, Option.bind_some, aL_of TC_25, TL_25]
    rw [if_pos (nI_le (Nat.le_refl 20) (by decide))]
theorem m_rcount (hN : 20 < N) (h20 : ln ≤ 20) (hV : M 1 2 = nI ln) {x : Int32} : zl3 (f_X12_resize_L64 TM N 0 x) N (0 : Int32) (0 : Int32) (M, rfM) = some (nI (cnt (atB (M 1) x) ln), (M, rfM)) := by
  refine zl3_end ln (fun i => nI (cnt (atB (M 1) x) i)) (fun i => nI i) (fun _ => (M, rfM)) nI_0.symm nI_0.symm rfl (by omega) (fun i hi k => ?_) (fun k => ?_)
  · unfold f_X12_resize_L64
    simp only [g_v, Option.bind_some, v2_, hV]
    rw [if_neg (nI_ge hi (by omega)), m_isAt (by omega), zb2_some]
    by_cases h : atB (M 1) x i = true
    · rw [if_pos (of_decide_eq_true h), if_neg (by decide), zn_eq, zn_eq, nI_1, nI_1, cnt_t h]
    · rw [if_neg (fun q => h (decide_eq_true q)), if_pos rfl, zn_eq, zn_eq, nI_1, cnt_f h, Int32.add_zero]
  · unfold f_X12_resize_L64
    simp only [g_v, Option.bind_some, v2_, hV]
    rw [if_pos (nI_le (Nat.le_refl ln) (by omega))]
/-- connector c's five numbers are as they may be -/
def LOK (th : Nat → Bool) (V : Nat → Int32) (c : Nat) : Prop := ∃ s a t b y, s < 20 ∧ th s = true ∧ t < 20 ∧ th t = true ∧ a < 4 ∧ b < 4 ∧ y < 3 ∧ V (190 + 5 * c) = nI s ∧ V (190 + 5 * c + 1) = nI a ∧ V (190 + 5 * c + 2) = nI t ∧ V (190 + 5 * c + 3) = nI b ∧ V (190 + 5 * c + 4) = nI y
theorem LOK_mv {V' : Nat → Int32} {k k' : Nat} (h : LOK th V k) (e : ∀ j, j < 5 → V' (190 + 5 * k' + j) = V (190 + 5 * k + j)) : LOK th V' k' := by
  obtain ⟨s, a, t, b, y, h1, h2, h3, h4, h5, h6, h7, h8, h9, h10, h11, h12⟩ := h
  exact ⟨s, a, t, b, y, h1, h2, h3, h4, h5, h6, h7, (e 0 (by omega)).trans h8, (e 1 (by omega)).trans h9, (e 2 (by omega)).trans h10, (e 3 (by omega)).trans h11, (e 4 (by omega)).trans h12⟩
theorem ix8j (s j : Nat) : (10 : Int32) + 8 * nI s + nI j = nI (10 + 8 * s + j) := by rw [ix8, nI_add]
theorem QS_upd {D D' : Nat → Nat → Int32} {V V' : Nat → Int32} (h : QS n th D V) (e1 : ∀ s, s < 20 → D' (4 + s) 0 = D (4 + s) 0) (e2 : D' 2 1 = D 2 1) (e3 : V' 0 = V 0) (e4 : ∀ s, s < 20 → V' (10 + 8 * s) = V (10 + 8 * s)) (e5 : ∀ s, s < 20 → th s = true → ∀ j, 1 ≤ j → j < 6 → V' (10 + 8 * s + j) = D' (4 + s) j) (e6 : ∀ s, s < 20 → th s = true → Fld D' s) : QS n th D' V' :=
  ⟨h.n20, e2.trans h.nD, e3.trans h.nV, fun s hs => (e1 s hs).trans (h.tD s hs), fun s hs => (e4 s hs).trans (h.tV s hs), h.fr, e5, e6⟩
theorem wthR {x : Int32} {a b : Int} {A B : Int32} (hA : A.toInt = a) (hB : B.toInt = b) (h : wth x A B = 1) : a ≤ x.toInt ∧ x.toInt ≤ b := by
  obtain ⟨h1, h2⟩ := wth1.mp h
  rw [fa_le, hA] at h1
  rw [fa_le, hB] at h2
  exact ⟨h1, h2⟩
theorem wthS {x : Int32} (h : wth x 1 500 = 1) : 1 ≤ x.toInt ∧ x.toInt ≤ 500 := wthR (by decide) (by decide) h
theorem wthC {x : Int32} (h : wth x (-10000) 10000 = 1) : -10000 ≤ x.toInt ∧ x.toInt ≤ 10000 := wthR (by decide) (by decide) h
theorem wthW {x : Int32} (h : wth x (-20000) 20000 = 1) : -20000 ≤ x.toInt ∧ x.toInt ≤ 20000 := wthR (by decide) (by decide) h
theorem o_resize (hN : 1901 < N) {σC σM : zS} (h : INV σC σM) (x y z : Int32) : zAg INV (f_X11_resize TC N σC 0 x y z) (f_X12_resize TM N σM 0 x y z) := by
  obtain ⟨G, q, M, rfl, rfl, ⟨n, th, sel, c, p, hs, hg, gt, ln, hA⟩, hH, hT⟩ := id h
  unfold f_X11_resize f_X12_resize
  rw [zz1_of TC_0, zz1_of TM_0]
  simp only [g_now, g_shapes, Option.bind_some]
  rcases shp (q := q) (N := N) hA.1 x with ⟨s, hs20, rfl, ht, k1, k2⟩ | ⟨k1, k2⟩
  · rw [k1, k2, zb2_some, zb2_some, zo_some, if_neg (by decide), e_isSize, m_isSize, zb2_some, zb2_some]
    rcases wth01 y 1 500 with hy | hy
    · rw [hy, if_pos rfl, if_pos rfl]
      exact ⟨_, _, _, rfl, rfl, h⟩
    · rw [hy, if_neg (by decide), if_neg (by decide), e_isSize, m_isSize, zb2_some, zb2_some]
      rcases wth01 z 1 500 with hz | hz
      · rw [hz, if_neg (by decide), if_neg (by decide)]
        exact ⟨_, _, _, rfl, rfl, h⟩
      · rw [hz, if_pos (by decide), if_pos (by decide)]
        obtain ⟨G1, q1, M1, e1, e2, ⟨a1, a2, a3, a4, a5, a6⟩, h1, h2, h3, h4⟩ := keep2 hN hA hH hT
        have hl : QL th ln (zu (zu G1 (4 + s) 4 y) (4 + s) 5 z) (zu (zu M1 1 (10 + 8 * s + 4) y) 1 (10 + 8 * s + 5) z 1) := by
          refine QL_fr a5 ?_ ?_ ?_ ?_
          all_goals (intros; rw [zu_ne (fun e => by omega), zu_ne (fun e => by omega)])
        refine ⟨nI (cnt (atB (zu (zu M1 1 (10 + 8 * s + 4) y) 1 (10 + 8 * s + 5) z 1) (nI s)) ln), (zu (zu G1 (4 + s) 4 y) (4 + s) 5 z, rfC q1), (zu (zu M1 1 (10 + 8 * s + 4) y) 1 (10 + 8 * s + 5) z, rfM), ?_, ?_, ?_⟩
        · simp only [g_hist, g_now, g_conns, Option.bind_some, e1, pI_of (TC_sh hs20)]
          rw [e_countAt (by omega) hl, zb2_some]
        · simp only [e2, g_v, Option.bind_some]
          rw [v_wrL (show (10 : Int32) + 8 * nI s + 4 = nI (10 + 8 * s + 4) from ix8j s 4) (by omega), Option.bind_some]
          simp only [g_v, Option.bind_some]
          rw [v_wrL (show (10 : Int32) + 8 * nI s + 5 = nI (10 + 8 * s + 5) from ix8j s 5) (by omega), Option.bind_some, m_rcount (by omega) hl.l20 hl.lV]
        · have hq : QS n th (zu (zu G1 (4 + s) 4 y) (4 + s) 5 z) (zu (zu M1 1 (10 + 8 * s + 4) y) 1 (10 + 8 * s + 5) z 1) := by
            refine QS_upd a1 (fun t _ => by repeat rw [zu_ne (fun _ => by omega)]) (by repeat rw [zu_ne (fun _ => by omega)]) (by repeat rw [zu_ne (fun _ => by omega)]) (fun t _ => by repeat rw [zu_ne (fun _ => by omega)]) (fun t ht20 htt j j1 j2 => ?_) (fun t ht20 htt => ?_)
            · have hv := a1.fV t ht20 htt j j1 j2
              by_cases e : t = s
              · subst e
                by_cases e5 : j = 5
                · subst e5; rw [zu_same, zu_same]
                · rw [zu_ne (fun _ => by omega), zu_ne (c := 4 + t) (fun _ => e5)]
                  by_cases e4 : j = 4
                  · subst e4; rw [zu_same, zu_same]
                  · rw [zu_ne (fun _ => by omega), zu_ne (c := 4 + t) (fun _ => e4), hv]
              · rw [zu_ne (fun _ => by omega), zu_ne (fun _ => by omega), zu_ne (fun q => by omega), zu_ne (fun q => by omega), hv]
            · obtain ⟨f1, f2, f3⟩ := a1.fD t ht20 htt
              refine ⟨?_, fun j j1 j2 => ?_, fun j j1 j2 => ?_⟩
              · rw [zu_ne (fun _ => by omega), zu_ne (fun _ => by omega)]; exact f1
              · rw [zu_ne (fun _ => by omega), zu_ne (fun _ => by omega)]; exact f2 j j1 j2
              · by_cases e : t = s
                · subst e
                  by_cases e5 : j = 5
                  · subst e5; rw [zu_same]; exact wthS hz
                  · have e4 : j = 4 := by omega
                    subst e4
                    rw [zu_ne (fun _ => by omega), zu_same]; exact wthS hy
                · rw [zu_ne (fun q => by omega), zu_ne (fun q => by omega)]; exact f3 j j1 j2
          refine INV_now h1 h2 ⟨n, th, sel, c, p, hs, hg, gt, ln, hq, QC_fr a2 ?_ ?_, QP_fr a3 ?_ ?_ ?_, QH_fr a4 ?_ ?_ ?_ ?_ ?_, hl, QU_fr a6 ?_ ?_ ?_ ?_⟩ ?_ ?_ ?_ ?_ ?_
          all_goals (intros; first | (refine ⟨?_, ?_⟩ <;> repeat rw [zu_ne (fun e => by omega)]) | repeat rw [zu_ne (fun e => by omega)])
  · rw [k1, k2, zb2_some, zb2_some, zo_none, if_pos rfl]
    exact ⟨_, _, _, rfl, rfl, h⟩
end CNX
