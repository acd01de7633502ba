/-! the units of both sides, their lines -/
def liV (lo hi : Int32) (l : Nat) : Int32 := if l = 0 then lo else if l = 2 then hi else lo + fdJ (hi - lo) 2
def lwU (G : Nat → Nat → Int32) (α : Nat) (P : Nat → Bool) : Int32 := lwF 99999 (bgn G α) P 20
def hgU (G : Nat → Nat → Int32) (α : Nat) (P : Nat → Bool) : Int32 := hgF (-99999) (enG G α) P 20
section UN2
variable {G M : Nat → Nat → Int32} {q : Nat → Option Nat} {N : Nat} {n c ln : Nat} {th sel gt P : Nat → Bool} {p uo o : Nat → Nat} {hs hg : Nat → Option Nat} {ρ : Nat → Nat → Option Nat} {V w wy : Nat → Int32} {s t a b y k d u α m i l : Nat} {x z : Int32}
theorem m_staysAll (hN : 20 < N) : ∃ M', f_X12_staysAll TM N (M, rfM) 0 = some (M', rfM) ∧ (∀ s, s < 20 → M' 10 s = 0 ∧ M' 11 s = 0) ∧ ∀ a j, a ≠ 10 → a ≠ 11 → M' a j = M a j := by
  unfold f_X12_staysAll
  rw [zz1_of TM_0]
  refine zl2_inv (P := fun r => ∃ M' : Nat → Nat → Int32, r = some (M', rfM) ∧ (∀ s, s < 20 → M' 10 s = 0 ∧ M' 11 s = 0) ∧ ∀ a j, a ≠ 10 → a ≠ 11 → M' a j = M a j) 20
    (fun i (x : Int32) st => x = nI i ∧ ∃ M' : Nat → Nat → Int32, st = (M', rfM) ∧ (∀ s, s < i → M' 10 s = 0 ∧ M' 11 s = 0) ∧ ∀ a j, a ≠ 10 → a ≠ 11 → M' a j = M a j) ?_ ?_ 20 0 N (0 : Int32) _ rfl hN ⟨nI_0.symm, M, rfl, fun s h => absurd h (Nat.not_lt_zero s), fun a j _ _ => rfl⟩
  · rintro i hi x st ⟨rfl, D, rfl, g1, g2⟩
    refine Or.inl ⟨nI (i + 1), (zu (zu D 10 i 0) 11 i 0, rfM), ⟨rfl, _, rfl, fun s h => ?_, fun a j h1 h2 => ?_⟩, fun k => ?_⟩
    · rw [zu_cell (by decide)]
      by_cases e : s = i
      · subst e
        rw [zu_same, zu_same]
        exact ⟨rfl, rfl⟩
      · rw [zu_ne (fun _ => e), zu_ne (fun _ => e), zu_cell (by decide)]
        exact g1 s (by omega)
    · rw [zu_cell h2, zu_cell h1]
      exact g2 a j h1 h2
    · unfold f_X12_staysAll_L2
      rw [if_neg (nI_n20 hi), gm12, Option.bind_some, sI_of TM_10 ML_10 hi (by decide), Option.bind_some, gm13, Option.bind_some, sI_of TM_11 ML_11 hi (by decide), Option.bind_some, zn_eq, nI_1]
  · rintro x st ⟨rfl, D, rfl, g1, g2⟩ k
    refine ⟨D, ?_, g1, g2⟩
    unfold f_X12_staysAll_L2
    rw [if_pos (nI_20 (Nat.le_refl 20) (by decide))]
theorem m_laysUnit (hN : 20 < N) (hα : α < 2) (hS : QS n th G (M 1)) (hC : QC th sel G (M 1)) (hu : u < 20) (h9 : ∀ s, s < 20 → sel s = true → M 9 s = nI (uo s) ∧ uo s < 20) :
    ∃ M', f_X12_laysUnit TM N (M, rfM) 0 (nI u) (nI α) x = some (M', rfM) ∧ (∀ s, s < 20 → M' 10 s = (if uB sel uo u s = true then (if α = 0 then x else 0) else M 10 s) ∧ M' 11 s = if uB sel uo u s = true then (if α = 1 then x else 0) else M 11 s) ∧ ∀ a j, a ≠ 10 → a ≠ 11 → M' a j = M a j := by
  unfold f_X12_laysUnit
  rw [zz1_of TM_0]
  refine zl2_inv (P := fun r => ∃ M' : Nat → Nat → Int32, r = some (M', rfM) ∧ (∀ s, s < 20 → M' 10 s = (if uB sel uo u s = true then (if α = 0 then x else 0) else M 10 s) ∧ M' 11 s = if uB sel uo u s = true then (if α = 1 then x else 0) else M 11 s) ∧ ∀ a j, a ≠ 10 → a ≠ 11 → M' a j = M a j) 20
    (fun i (x0 : Int32) st => x0 = nI i ∧ ∃ M' : Nat → Nat → Int32, st = (M', rfM) ∧ (∀ s, s < 20 → M' 10 s = (if s < i ∧ uB sel uo u s = true then (if α = 0 then x else 0) else M 10 s) ∧ M' 11 s = if s < i ∧ uB sel uo u s = true then (if α = 1 then x else 0) else M 11 s) ∧ ∀ a j, a ≠ 10 → a ≠ 11 → M' a j = M a j) ?_ ?_ 20 0 N (0 : Int32) _ rfl hN ⟨nI_0.symm, M, rfl, fun s h => ⟨by rw [if_neg (fun e => Nat.not_lt_zero s e.1)], by rw [if_neg (fun e => Nat.not_lt_zero s e.1)]⟩, fun a j _ _ => rfl⟩
  · rintro i hi x0 st ⟨rfl, D, rfl, g1, g2⟩
    have e1 : D 1 = M 1 := funext (fun j => g2 1 j (by decide) (by decide))
    have hsm : ∀ s, uB sel uo u i = false → ((s < i + 1 ∧ uB sel uo u s = true) ↔ (s < i ∧ uB sel uo u s = true)) := fun s h => by
      constructor
      · rintro ⟨h1, h2⟩
        refine ⟨?_, h2⟩
        by_cases e : s = i
        · rw [e, h] at h2; cases h2
        · omega
      · rintro ⟨h1, h2⟩
        exact ⟨by omega, h2⟩
    have hskip : uB sel uo u i = false → ∀ s, s < 20 → D 10 s = (if s < i + 1 ∧ uB sel uo u s = true then (if α = 0 then x else 0) else M 10 s) ∧ D 11 s = if s < i + 1 ∧ uB sel uo u s = true then (if α = 1 then x else 0) else M 11 s := fun h s hs => by
      simp only [hsm s h]
      exact g1 s hs
    refine Or.inl ?_
    have hstart : ∀ k : Int32 → zS → Option zS, f_X12_laysUnit_L3 TM N 0 (nI u) (nI α) x k (nI i) (D, rfM) = if bI (sel i) = 0 then k (nI (i + 1)) (D, rfM) else if ¬ D 9 i = nI u then k (nI (i + 1)) (D, rfM) else k (nI (i + 1)) (zu (zu D 10 i (if α = 0 then x else 0)) 11 i (if α = 1 then x else 0), rfM) := fun k => by
      unfold f_X12_laysUnit_L3
      rw [if_neg (nI_n20 hi), m_isSelected hi (by rw [e1]; exact hS) (by rw [e1]; exact hC), zb2_some]
      simp only [gm10, Option.bind_some, aI_of TM_9 ML_9 hi (by decide : 20 < 2 ^ 31), zn_eq, nI_1]
      by_cases h1 : bI (sel i) = 0
      · rw [if_pos h1, if_pos h1]
      rw [if_neg h1, if_neg h1]
      by_cases h2 : D 9 i = nI u
      · rw [if_neg (fun n => n h2), if_neg (fun n => n h2), gm12, Option.bind_some]
        have hα2 : α = 0 ∨ α = 1 := by omega
        unfold f_X12_laysUnit_J45
        rcases hα2 with rfl | rfl
        · rw [if_neg (show ¬ ¬ nI 0 = 0 from fun n => n rfl), sI_of TM_10 ML_10 hi (by decide), Option.bind_some, gm13, Option.bind_some, if_pos (show ¬ nI 0 = 1 by decide), sI_of TM_11 ML_11 hi (by decide), Option.bind_some, zn_eq, nI_1]
          rfl
        · rw [if_pos (show ¬ nI 1 = 0 by decide), sI_of TM_10 ML_10 hi (by decide), Option.bind_some, gm13, Option.bind_some, if_neg (show ¬ ¬ nI 1 = 1 from fun n => n rfl), sI_of TM_11 ML_11 hi (by decide), Option.bind_some, zn_eq, nI_1]
          rfl
      · rw [if_pos h2, if_pos h2]
    cases hsl : sel i
    · refine ⟨nI (i + 1), (D, rfM), ⟨rfl, D, rfl, hskip (by unfold uB; rw [hsl]; rfl), g2⟩, fun k => ?_⟩
      rw [hstart k, hsl, if_pos (by decide)]
    · obtain ⟨k1, k2⟩ := h9 i hi hsl
      have d9 : D 9 i = nI (uo i) := (g2 _ _ (by decide) (by decide)).trans k1
      by_cases e : uo i = u
      · have hb : uB sel uo u i = true := uB_iff.mpr ⟨hsl, e⟩
        refine ⟨nI (i + 1), (zu (zu D 10 i (if α = 0 then x else 0)) 11 i (if α = 1 then x else 0), rfM), ⟨rfl, _, rfl, fun s hs => ?_, fun a j h1 h2 => ?_⟩, fun k => ?_⟩
        · rw [zu_cell (by decide)]
          by_cases es : s = i
          · subst es
            have hq : s < s + 1 ∧ uB sel uo u s = true := ⟨by omega, hb⟩
            rw [zu_same, zu_same]
            exact ⟨(if_pos hq).symm, (if_pos hq).symm⟩
          · have hq : (s < i + 1 ∧ uB sel uo u s = true) ↔ (s < i ∧ uB sel uo u s = true) := ⟨fun h => ⟨by omega, h.2⟩, fun h => ⟨by omega, h.2⟩⟩
            rw [zu_ne (fun _ => es), zu_ne (fun _ => es), zu_cell (by decide)]
            simp only [hq]
            exact g1 s hs
        · rw [zu_cell h2, zu_cell h1]
          exact g2 a j h1 h2
        · rw [hstart k, hsl, if_neg (by decide), d9, e, if_neg (fun n => n rfl)]
      · refine ⟨nI (i + 1), (D, rfM), ⟨rfl, D, rfl, hskip (by unfold uB; rw [decide_eq_false e, Bool.and_false]), g2⟩, fun k => ?_⟩
        rw [hstart k, hsl, if_neg (by decide), d9, if_pos (fun h => e ((nI_eq (by omega) (by omega)).mp h))]
  · rintro x0 st ⟨rfl, D, rfl, g1, g2⟩ k
    refine ⟨D, ?_, fun s hs => ?_, g2⟩
    · unfold f_X12_laysUnit_L3
      rw [if_pos (nI_20 (Nat.le_refl 20) (by decide))]
    · have hq : (s < 20 ∧ uB sel uo u s = true) ↔ uB sel uo u s = true := ⟨fun h => h.2, fun h => ⟨hs, h⟩⟩
      have := g1 s hs
      simp only [hq] at this
      exact this
theorem m_lineOf (hα : α < 2) (hl : l < 3) (hu : u < 21) (hb : 0 ≤ (M 8 (2 * u + α) - M 7 (2 * u + α)).toInt) : f_X12_lineOf TM N (M, rfM) 0 (nI u) (nI α) (nI l) = some (liV (M 7 (2 * u + α)) (M 8 (2 * u + α)) l, (M, rfM)) := by
  unfold f_X12_lineOf liV
  rw [zz1_of TM_0, gm8, Option.bind_some, ixB, aI_of TM_7 ML_7 (show 2 * u + α < 42 by omega) (by decide), Option.bind_some, gm9, Option.bind_some, aI_of TM_8 ML_8 (show 2 * u + α < 42 by omega) (by decide), Option.bind_some, i_half hb]
  have : l = 0 ∨ l = 1 ∨ l = 2 := by omega
  rcases this with rfl | rfl | rfl
  · rw [if_neg (show ¬ ¬ nI 0 = 0 from fun n => n rfl), if_pos rfl]
  · rw [if_pos (show ¬ nI 1 = 0 by decide), if_pos (show ¬ nI 1 = 2 by decide), if_neg (by decide), if_neg (by decide)]
  · rw [if_pos (show ¬ nI 2 = 0 by decide), if_neg (show ¬ ¬ nI 2 = 2 from fun n => n rfl), if_neg (by decide), if_pos rfl]
/-- a set of live shapes, not empty -/
def okP (th P : Nat → Bool) : Prop := (∀ s, s < 20 → P s = true → th s = true) ∧ ∃ s, s < 20 ∧ P s = true
theorem linG_P (hS : QS n th G V) (hα : α < 2) (h : okP th P) : linG G (mkS P 20) α l = liV (lwU G α P) (hgU G α P) l := by
  unfold linG
  rw [box_lo hS hα h.1 h.2, box_hi hS hα h.1 h.2]
  rfl
theorem box_d (hS : QS n th G V) (hα : α < 2) (h : okP th P) : 0 ≤ (hgU G α P - lwU G α P).toInt := by
  have := box_b hS hα h.1 h.2
  unfold hgU lwU
  rw [Jvm.Kit.i32_sub (by omega) (by omega)]
  omega
end UN2
