/-! align -/
theorem lwF_fn {st : Int32} {f g : Nat → Int32} {P : Nat → Bool} : ∀ {n : Nat}, (∀ s, s < n → f s = g s) → lwF st f P n = lwF st g P n ∧ hgF st f P n = hgF st g P n := by
  intro n
  induction n with
  | zero => intro _; exact ⟨rfl, rfl⟩
  | succ n ih =>
    intro h
    obtain ⟨h1, h2⟩ := ih (fun s hs => h s (by omega))
    cases hP : P n
    · rw [lwF_f hP, lwF_f hP, hgF_f hP, hgF_f hP]
      exact ⟨h1, h2⟩
    · rw [lwF_t hP, lwF_t hP, hgF_t hP, hgF_t hP, h1, h2, h n (by omega)]
      exact ⟨rfl, rfl⟩
theorem lwU_fr {D G : Nat → Nat → Int32} {α : Nat} {P : Nat → Bool} (hα : α < 2) (h : ∀ s, s < 20 → ∀ j, 2 ≤ j → j < 6 → D (4 + s) j = G (4 + s) j) : lwU D α P = lwU G α P :=
  (lwF_fn (fun s hs => h s hs (2 + α) (by omega) (by omega))).1
theorem hgU_fr {D G : Nat → Nat → Int32} {α : Nat} {P : Nat → Bool} (hα : α < 2) (h : ∀ s, s < 20 → ∀ j, 2 ≤ j → j < 6 → D (4 + s) j = G (4 + s) j) : hgU D α P = hgU G α P :=
  (lwF_fn (f := enG D α) (g := enG G α) (fun s hs => by unfold enG; rw [h s hs (2 + α) (by omega) (by omega), h s hs (4 + α) (by omega) (by omega)])).2
section OAL
variable {G M G1 M1 : Nat → Nat → Int32} {q : Nat → Option Nat} {N : Nat} {n c ln : Nat} {th sel gt P : Nat → Bool} {p uo o : Nat → Nat} {hs hg : Nat → Option Nat} {ρ : Nat → Nat → Option Nat} {V w wy : Nat → Int32} {s t a b y k d u α m i l : Nat} {x z : Int32}
/-- both sides have gathered m units -/
def GB (th sel : Nat → Bool) (uo : Nat → Nat) (m : Nat) (G M G' M' : Nat → Nat → Int32) : Prop :=
  m ≤ 20 ∧ G' 370 2 = nI m ∧ (∀ u, u < m → G' 371 u = mkS (uB sel uo u) 20) ∧ M' 0 11 = nI m ∧
  (∀ s, s < 20 → sel s = true → M' 9 s = nI (uo s) ∧ uo s < m) ∧
  (∀ u, u < m → ∀ α, α < 2 → M' 7 (2 * u + α) = lwU G α (uB sel uo u) ∧ M' 8 (2 * u + α) = hgU G α (uB sel uo u)) ∧
  (∀ α, α < 2 → M' 7 (2 * 20 + α) = lwU G α sel ∧ M' 8 (2 * 20 + α) = hgU G α sel) ∧
  (∀ u, u < m → okP th (uB sel uo u)) ∧
  (∀ a j, ¬ (a = 370 ∧ j = 2) → a ≠ 371 → G' a j = G a j) ∧
  ∀ a j, ¬ (a = 0 ∧ j = 11) → ¬ (5 ≤ a ∧ a ≤ 11) → M' a j = M a j
theorem gat_both (hN : 30 < N) (hA : QA n th sel c p hs hg gt ln G (M 1)) : ∃ m G' M', f_X10_gather TC N (G, rfC q) 370 1 = some (G', rfC q) ∧ f_X12_gathers TM N (M, rfM) 0 = some (M', rfM) ∧ GB th sel (uoF sel (kyS hs hg)) m G M G' M' := by
  obtain ⟨hS, hC, hP, hH, hL, hU⟩ := hA
  obtain ⟨G', e1, a1, a2, a3⟩ := e_gather (q := q) (N := N) (by omega) hS hC hH
  obtain ⟨M', e2, ⟨b1, b2, b3, b4, b5⟩, b6⟩ := m_gathers (N := N) (M := M) hN hS hC hH
  have hcl := cnt_le (nwB sel (kyS hs hg)) 20
  have hus : ∀ u, u < cnt (nwB sel (kyS hs hg)) 20 → usF sel (kyS hs hg) 20 u < 20 ∧ sel (usF sel (kyS hs hg) 20 u) = true := fun u hu => ⟨(us_ok hu).1, nw_sel (us_ok hu).2.1⟩
  refine ⟨cnt (nwB sel (kyS hs hg)) 20, G', M', e1, e2, hcl, a1, fun u hu => ?_, b1, fun s h1 h2 => ⟨b3 s h1 h2, (uo_ok h2 h1).1⟩, b4, b5, fun u hu => ⟨fun s h1 h2 => hC.ct s h1 (uB_iff.mp h2).1, usF sel (kyS hs hg) 20 u, (hus u hu).1, uB_iff.mpr ⟨(hus u hu).2, (uo_iff (hus u hu).2 (hus u hu).1 hu).mpr rfl⟩⟩, a3, fun a j h1 h2 => b6 a j h1 (by omega)⟩
  rw [a2 u hu]
  refine mkS_ext (fun s h => ?_)
  obtain ⟨k1, k2⟩ := hus u hu
  have k3 := hC.ct _ k1 k2
  rw [unA_ky hH k1 k3 h]
  cases hsl : sel s
  · unfold uB
    rw [hsl, Bool.false_and]
    cases ht : th s
    · rfl
    · rw [Bool.true_and]
      refine decide_eq_false (fun e => ?_)
      have := ky_sel hH k1 k3 h ht e
      rw [k2, hsl] at this
      cases this
  · unfold uB
    rw [hsl, hC.ct s h hsl, Bool.true_and, Bool.true_and]
    exact decide_eq_decide.mpr (uo_iff hsl h hu).symm
def wyF (sel : Nat → Bool) (uo : Nat → Nat) (w : Nat → Int32) (s : Nat) : Int32 := if sel s = true then w (uo s) else 0
theorem wyF_t {sel : Nat → Bool} {uo : Nat → Nat} {w : Nat → Int32} {s : Nat} (h : sel s = true) : wyF sel uo w s = w (uo s) := if_pos h
theorem wyF_f {sel : Nat → Bool} {uo : Nat → Nat} {w : Nat → Int32} {s : Nat} (h : sel s = false) : wyF sel uo w s = 0 := if_neg (by rw [h]; decide)
def alW (G : Nat → Nat → Int32) (sel : Nat → Bool) (uo : Nat → Nat) (α l : Nat) (u : Nat) : Int32 := liV (lwU G α sel) (hgU G α sel) l - liV (lwU G α (uB sel uo u)) (hgU G α (uB sel uo u)) l
theorem e_planA (hN : 20 < N) (hα : α < 2) (hl : l < 3) (hA : QA n th sel c p hs hg gt ln G V) (hB : GB th sel uo m G M G1 M1) (hm : 2 ≤ m) : ∃ G', f_X10_planAlignment TC N (G1, rfC q) 370 2 (nI α) (nI l) = some (G', rfC q) ∧ (∀ u, u < m → G' 372 u = alW G sel uo α l u) ∧ ∀ a j, a ≠ 372 → G' a j = G1 a j := by
  obtain ⟨b1, b2, b3, b4, b5, b6, b7, b8, b9, b10⟩ := hB
  obtain ⟨hS, hC, -⟩ := hA
  have hS1 : ∀ D : Nat → Nat → Int32, (∀ a j, a ≠ 372 → D a j = G1 a j) → QS n th D V := fun D h => QS_fr hS (fun s _ j _ => (h _ _ (by omega)).trans (b9 _ _ (by omega) (by omega))) ((h _ _ (by omega)).trans (b9 _ _ (by omega) (by omega))) rfl (fun _ _ _ _ => rfl)
  have hex : okP th sel := ⟨fun s h1 h2 => hC.ct s h1 h2, by
    obtain ⟨-, s, h1, h2⟩ := b8 0 (by omega)
    exact ⟨s, h1, (uB_iff.mp h2).1⟩⟩
  have hln : ∀ (D : Nat → Nat → Int32) (P : Nat → Bool), (∀ a j, a ≠ 372 → D a j = G1 a j) → okP th P → f_X7_lineOf TC N (D, rfC q) 2 (mkS P 20) (nI α) (nI l) = some (liV (lwU G α P) (hgU G α P) l, (D, rfC q)) := fun D P h hP => by
    have hf : ∀ s, s < 20 → ∀ j, 2 ≤ j → j < 6 → D (4 + s) j = G (4 + s) j := fun s _ j _ _ => (h _ _ (by omega)).trans (b9 _ _ (by omega) (by omega))
    rw [e_lineOf hN hα hl, linG_P (hS1 D h) hα hP, lwU_fr hα hf, hgU_fr hα hf]
  unfold f_X10_planAlignment
  rw [zz1_of TC_370, gI_of TC_2, b9 _ _ (by omega) (by omega), hC.cD, Option.bind_some, hln G1 sel (fun _ _ _ => rfl) hex, zb2_some]
  refine zl2_inv (P := fun r => ∃ G' : Nat → Nat → Int32, r = some (G', rfC q) ∧ (∀ u, u < m → G' 372 u = alW G sel uo α l u) ∧ ∀ a j, a ≠ 372 → G' a j = G1 a j) m
    (fun i (x : Int32) st => x = nI i ∧ ∃ G' : Nat → Nat → Int32, st = (G', rfC q) ∧ (∀ u, u < i → G' 372 u = alW G sel uo α l u) ∧ ∀ a j, a ≠ 372 → G' a j = G1 a j) ?_ ?_ m 0 N (0 : Int32) _ (by omega) (by omega) ⟨nI_0.symm, G1, rfl, fun u h => absurd h (Nat.not_lt_zero u), fun a j _ => rfl⟩
  · rintro i hi x st ⟨rfl, D, rfl, g1, g2⟩
    have d2 : D 370 2 = nI m := (g2 _ _ (by decide)).trans b2
    refine Or.inl ⟨nI (i + 1), (zu D 372 i (alW G sel uo α l i), rfC q), ⟨rfl, _, rfl, fun u hu => ?_, fun a j h => ?_⟩, fun k => ?_⟩
    · by_cases e : u = i
      · subst e
        rw [zu_same]
      · rw [zu_ne (fun _ => e)]
        exact g1 u (by omega)
    · rw [zu_cell h]
      exact g2 a j h
    · unfold f_X10_planAlignment_L15
      rw [gI_of TC_370, d2, Option.bind_some, if_neg (nI_ge hi (by omega)), e_setOf d2 b1 hi, zb2_some, g2 _ _ (by decide), b3 i hi, hln D _ g2 (b8 i hi), zb2_some, e_putWay (show i < 20 by omega), Option.bind_some, zn_eq, nI_1]
      rfl
  · rintro x st ⟨rfl, D, rfl, g1, g2⟩ k
    refine ⟨D, ?_, g1, g2⟩
    unfold f_X10_planAlignment_L15
    rw [gI_of TC_370, g2 _ _ (by decide), b2, Option.bind_some, if_pos (nI_le (Nat.le_refl m) (by omega))]
/-- the reference lays the units -/
theorem m_alignL (hN : 20 < N) (hα : α < 2) (hl : l < 3) (hA : QA n th sel c p hs hg gt ln G (M 1)) (hB : GB th sel uo m G M G1 M1) (hm : 2 ≤ m) (hx : x - x / 3 * 3 = nI l) (h0 : ∀ s, s < 20 → M1 10 s = 0 ∧ M1 11 s = 0) :
    ∃ M' : Nat → Nat → Int32, (zl3 (f_X12_align_L39 TM N 0 x (nI α)) N (0 : Int32) (0 : Int32) (M1, rfM) = zb2 (f_X12_isInside TM N (M', rfM) 0) fun x15 s14 => if ¬ x15 = 0 then ((f_X12_act TM N s14 0).bind fun s16 => (f_X12_movesAll TM N s16 0).bind fun s17 => some (nI (cnt (fun i => decide (¬ alW G sel uo α l i = 0)) m), s17)) else some ((-4 : Int32), s14)) ∧ (∀ s, s < 20 → M' 10 s = axs α 0 (wyF sel uo (alW G sel uo α l)) s ∧ M' 11 s = axs α 1 (wyF sel uo (alW G sel uo α l)) s) ∧ ∀ a j, a ≠ 10 → a ≠ 11 → M' a j = M1 a j := by
  obtain ⟨b1, b2, b3, b4, b5, b6, b7, b8, b9, b10⟩ := hB
  obtain ⟨hS, hC, -⟩ := hA
  have hex : okP th sel := ⟨fun s h1 h2 => hC.ct s h1 h2, by
    obtain ⟨-, s, h1, h2⟩ := b8 0 (by omega)
    exact ⟨s, h1, (uB_iff.mp h2).1⟩⟩
  refine zl3_inv (P := fun r => ∃ M' : Nat → Nat → Int32, (r = zb2 (f_X12_isInside TM N (M', rfM) 0) fun x15 s14 => if ¬ x15 = 0 then ((f_X12_act TM N s14 0).bind fun s16 => (f_X12_movesAll TM N s16 0).bind fun s17 => some (nI (cnt (fun i => decide (¬ alW G sel uo α l i = 0)) m), s17)) else some ((-4 : Int32), s14)) ∧ (∀ s, s < 20 → M' 10 s = axs α 0 (wyF sel uo (alW G sel uo α l)) s ∧ M' 11 s = axs α 1 (wyF sel uo (alW G sel uo α l)) s) ∧ ∀ a j, a ≠ 10 → a ≠ 11 → M' a j = M1 a j) m
    (fun i (x10 : Int32) (x11 : Int32) st => x10 = nI (cnt (fun i => decide (¬ alW G sel uo α l i = 0)) i) ∧ x11 = nI i ∧ ∃ D : Nat → Nat → Int32, st = (D, rfM) ∧ (∀ s, s < 20 → D 10 s = (if sel s = true ∧ uo s < i then axs α 0 (wyF sel uo (alW G sel uo α l)) s else 0) ∧ D 11 s = if sel s = true ∧ uo s < i then axs α 1 (wyF sel uo (alW G sel uo α l)) s else 0) ∧ ∀ a j, a ≠ 10 → a ≠ 11 → D a j = M1 a j) ?_ ?_ m 0 N (0 : Int32) (0 : Int32) _ (by omega) (by omega) ⟨nI_0.symm, nI_0.symm, M1, rfl, fun s h => ⟨by rw [if_neg (fun e => Nat.not_lt_zero _ e.2)]; exact (h0 s h).1, by rw [if_neg (fun e => Nat.not_lt_zero _ e.2)]; exact (h0 s h).2⟩, fun a j _ _ => rfl⟩
  · rintro i hi x10 x11 st ⟨rfl, rfl, D, rfl, g1, g2⟩
    have d1 : D 1 = M 1 := funext (fun j => (g2 1 j (by decide) (by decide)).trans (b10 _ _ (by omega) (by omega)))
    obtain ⟨M3, e3, k1, k2⟩ := m_laysUnit (N := N) (M := D) (u := i) (uo := uo) (x := alW G sel uo α l i) hN hα (by rw [d1]; exact hS) (by rw [d1]; exact hC) (by omega) (fun s h1 h2 => ⟨(g2 _ _ (by decide) (by decide)).trans (b5 s h1 h2).1, by have := (b5 s h1 h2).2; omega⟩)
    have d7 : ∀ j, D 7 j = M1 7 j := fun j => g2 _ _ (by decide) (by decide)
    have d8 : ∀ j, D 8 j = M1 8 j := fun j => g2 _ _ (by decide) (by decide)
    have l1 : f_X12_lineOf TM N (D, rfM) 0 (20 : Int32) (nI α) (nI l) = some (liV (lwU G α sel) (hgU G α sel) l, (D, rfM)) := by
      have := m_lineOf (N := N) (M := D) (u := 20) (l := l) hα hl (by omega) (by rw [d7, d8, (b7 α hα).1, (b7 α hα).2]; exact box_d hS hα hex)
      rw [d7, d8, (b7 α hα).1, (b7 α hα).2] at this
      exact this
    have l2 : f_X12_lineOf TM N (D, rfM) 0 (nI i) (nI α) (nI l) = some (liV (lwU G α (uB sel uo i)) (hgU G α (uB sel uo i)) l, (D, rfM)) := by
      have := m_lineOf (N := N) (M := D) (u := i) (l := l) hα hl (by omega) (by rw [d7, d8, (b6 i hi α hα).1, (b6 i hi α hα).2]; exact box_d hS hα (b8 i hi))
      rw [d7, d8, (b6 i hi α hα).1, (b6 i hi α hα).2] at this
      exact this
    have hstep : ∀ k : Int32 → Int32 → zS → Option (Int32 × zS), f_X12_align_L39 TM N 0 x (nI α) k (nI (cnt (fun i => decide (¬ alW G sel uo α l i = 0)) i)) (nI i) (D, rfM) = k (nI (cnt (fun i => decide (¬ alW G sel uo α l i = 0)) (i + 1))) (nI (i + 1)) (M3, rfM) := fun k => by
      unfold f_X12_align_L39
      rw [gI_of TM_0, g2 _ _ (by decide) (by decide), b4, Option.bind_some, if_neg (nI_ge hi (by omega)), hx, l1, zb2_some, l2, zb2_some, zn_eq]
      show (f_X12_laysUnit TM N (D, rfM) 0 (nI i) (nI α) (alW G sel uo α l i)).bind (fun s23 => if alW G sel uo α l i = 0 then _ else _) = _
      rw [e3, Option.bind_some]
      by_cases hw : alW G sel uo α l i = 0
      · rw [if_pos hw, zn_eq, zn_eq, nI_1, Int32.add_zero, cnt_f (by simp [hw])]
      · rw [if_neg hw, zn_eq, zn_eq, nI_1, nI_1, cnt_t (P := fun i => decide (¬ alW G sel uo α l i = 0)) (decide_eq_true hw)]
    refine Or.inl ⟨_, nI (i + 1), (M3, rfM), ⟨rfl, rfl, M3, rfl, fun s hs => ?_, fun a j h1 h2 => (k2 a j h1 h2).trans (g2 a j h1 h2)⟩, hstep⟩
    rw [(k1 s hs).1, (k1 s hs).2]
    by_cases hb : uB sel uo i s = true
    · obtain ⟨hb1, hb2⟩ := uB_iff.mp hb
      have hq : sel s = true ∧ uo s < i + 1 := ⟨hb1, by omega⟩
      rw [if_pos hb, if_pos hb, if_pos hq, if_pos hq]
      unfold axs
      rw [wyF_t hb1, hb2]
      exact ⟨rfl, rfl⟩
    · have hq : (sel s = true ∧ uo s < i + 1) ↔ (sel s = true ∧ uo s < i) := ⟨fun h => ⟨h.1, by
        have : uo s ≠ i := fun e => hb (uB_iff.mpr ⟨h.1, e⟩)
        omega⟩, fun h => ⟨h.1, by omega⟩⟩
      rw [if_neg hb, if_neg hb]
      simp only [hq]
      exact g1 s hs
  · rintro x10 x11 st ⟨rfl, rfl, D, rfl, g1, g2⟩ k
    refine ⟨D, ?_, fun s hs => ?_, g2⟩
    · unfold f_X12_align_L39
      rw [gI_of TM_0, g2 _ _ (by decide) (by decide), b4, Option.bind_some, if_pos (nI_le (Nat.le_refl m) (by omega))]
    · rw [(g1 s hs).1, (g1 s hs).2]
      cases hsl : sel s
      · rw [if_neg (fun e => by cases e.1), if_neg (fun e => by cases e.1)]
        unfold axs
        rw [wyF_f hsl]
        exact ⟨by split <;> rfl, by split <;> rfl⟩
      · rw [if_pos ⟨rfl, (b5 s hs hsl).2⟩, if_pos ⟨rfl, (b5 s hs hsl).2⟩]
        exact ⟨rfl, rfl⟩
end OAL
