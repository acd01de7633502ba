/-! the reference's act -/
theorem rM0 : rfM 0 0 = some 1 := rm_0
section ACT
variable {M : Nat → Nat → Int32} {N : Nat}
theorem m_idx {a b c : Nat} : nI a * nI b + nI c = nI (a * b + c) := by rw [pk_mul, nI_add]
/-- v is copied to row h -/
theorem e_actJ (hN : 1900 < N) {h : Nat} (hh : h < 6) (hx : M 0 2 = nI h) :
    ∃ M', f_X12_act_J50 TM N 0 (M, rfM) = some (M', rfM) ∧ M' 0 2 = nI (h + 1) ∧ (∀ i, i < 380 → M' 2 (380 * h + i) = M 1 i) ∧ ∀ a j, ¬ (a = 0 ∧ j = 2) → ¬ (a = 2 ∧ 380 * h ≤ j ∧ j < 380 * h + 380) → M' a j = M a j := by
  unfold f_X12_act_J50
  refine zl2_inv (P := fun (o : Option zS) => ∃ M' : Nat → Nat → Int32, o = some (M', rfM) ∧ M' 0 2 = nI (h + 1) ∧ (∀ i, i < 380 → M' 2 (380 * h + i) = M 1 i) ∧ ∀ a j, ¬ (a = 0 ∧ j = 2) → ¬ (a = 2 ∧ 380 * h ≤ j ∧ j < 380 * h + 380) → M' a j = M a j) 380
    (fun i (x : Int32) (s : zS) => x = nI i ∧ ∃ M' : Nat → Nat → Int32, s = (M', rfM) ∧ (∀ k, k < i → M' 2 (380 * h + k) = M 1 k) ∧ ∀ a j, ¬ (a = 2 ∧ 380 * h ≤ j ∧ j < 380 * h + 380) → M' a j = M a j) ?_ ?_ 380 0 N (0 : Int32) (M, rfM) rfl (by omega) ⟨nI_0.symm, M, rfl, fun s h => by omega, fun a j _ => rfl⟩
  · rintro i hi x s ⟨rfl, M1, rfl, hA, hB⟩
    refine Or.inl ⟨nI (i + 1), _, ⟨rfl, zu M1 2 (380 * h + i) (M 1 i), rfl, fun k hk => ?_, fun a j ha => ?_⟩, fun k => ?_⟩
    · by_cases e : k = i
      · subst e; rw [zu_same]
      · rw [zu_ne (fun _ => by omega), hA k (by omega)]
    · rw [zu_ne (fun e1 e2 => ha ⟨e1, by omega, by omega⟩), hB a j ha]
    · unfold f_X12_act_L52
      rw [if_neg (show ¬ (380 : Int32) ≤ nI i from nI_ge hi (by decide))]
      simp only [gR_of TM_0, rm_1, rm_0, Option.bind_some, gI_of TM_0]
      rw [aI_of TM_1 ML_1 hi (by decide), Option.bind_some, hB 0 2 (by omega), hx, hB 1 i (by omega), show (380 : Int32) * nI h + nI i = nI (380 * h + i) from m_idx, sI_of TM_2 ML_2 (by omega) (by decide), Option.bind_some, zn_eq, nI_1]
  · rintro x s ⟨rfl, M1, rfl, hA, hB⟩ k
    unfold f_X12_act_L52
    rw [if_pos (show (380 : Int32) ≤ nI 380 from nI_le (Nat.le_refl 380) (by decide))]
    simp only [gI_of TM_0, pI_of TM_0, Option.bind_some]
    refine ⟨_, rfl, ?_, fun i hi => ?_, fun a j ha hb => ?_⟩
    · rw [zu_same, hB 0 2 (by omega), hx, nI_1]
    · rw [zu_cell (by decide), hA i hi]
    · rw [zu_ne (fun e1 e2 => ha ⟨e1, e2⟩), hB a j hb]
theorem e_act (hN : 1901 < N) {h : Nat} (hh : h ≤ 6) (hx : M 0 2 = nI h) :
    ∃ M' h', f_X12_act TM N (M, rfM) 0 = some (M', rfM) ∧ (h' = if h = 6 then 5 else h) ∧ M' 0 2 = nI (h' + 1) ∧ (∀ i, i < 380 → M' 2 (380 * h' + i) = M 1 i) ∧ (∀ k i, k < h' → i < 380 → M' 2 (380 * k + i) = M 2 (380 * (if h = 6 then k + 1 else k) + i)) ∧ ∀ a j, ¬ (a = 0 ∧ j = 2) → a ≠ 2 → M' a j = M a j := by
  unfold f_X12_act
  rw [zz1_of TM_0]
  simp only [gI_of TM_0, Option.bind_some, hx]
  by_cases e6 : h = 6
  · subst e6
    rw [if_neg (fun n => n rfl)]
    refine zl2_inv (P := fun (o : Option zS) => ∃ (M' : Nat → Nat → Int32) (h' : Nat), o = some (M', rfM) ∧ (h' = if 6 = 6 then 5 else 6) ∧ M' 0 2 = nI (h' + 1) ∧ (∀ i, i < 380 → M' 2 (380 * h' + i) = M 1 i) ∧ (∀ k i, k < h' → i < 380 → M' 2 (380 * k + i) = M 2 (380 * (if 6 = 6 then k + 1 else k) + i)) ∧ ∀ a j, ¬ (a = 0 ∧ j = 2) → a ≠ 2 → M' a j = M a j) 1900
      (fun i (x : Int32) (s : zS) => x = nI i ∧ ∃ M' : Nat → Nat → Int32, s = (M', rfM) ∧ (∀ k, k < i → M' 2 k = M 2 (k + 380)) ∧ (∀ k, i ≤ k → M' 2 k = M 2 k) ∧ ∀ a j, a ≠ 2 → M' a j = M a j) ?_ ?_ 1900 0 N (0 : Int32) (M, rfM) rfl (by omega) ⟨nI_0.symm, M, rfl, fun s h => by omega, fun k _ => rfl, fun a j _ => rfl⟩
    · rintro i hi x s ⟨rfl, M1, rfl, hA, hB, hC⟩
      refine Or.inl ⟨nI (i + 1), _, ⟨rfl, zu M1 2 i (M 2 (i + 380)), rfl, fun k hk => ?_, fun k hk => ?_, fun a j ha => ?_⟩, fun k => ?_⟩
      · by_cases e : k = i
        · subst e; rw [zu_same]
        · rw [zu_ne (fun _ => e), hA k (by omega)]
      · rw [zu_ne (fun _ => by omega), hB k (by omega)]
      · rw [zu_cell ha, hC a j ha]
      · unfold f_X12_act_L11
        rw [if_neg (show ¬ (1900 : Int32) ≤ nI i from nI_ge hi (by decide))]
        simp only [gR_of TM_0, rm_1, Option.bind_some]
        rw [show nI i + (380 : Int32) = nI (i + 380) from nI_add i 380, aI_of TM_2 ML_2 (by omega) (by decide), Option.bind_some, hB (i + 380) (by omega), sI_of TM_2 ML_2 (by omega) (by decide), Option.bind_some, zn_eq, nI_1]
    · rintro x s ⟨rfl, M1, rfl, hA, hB, hC⟩ k
      unfold f_X12_act_L11
      rw [if_pos (show (1900 : Int32) ≤ nI 1900 from nI_le (Nat.le_refl 1900) (by decide))]
      simp only [gI_of TM_0, pI_of TM_0, Option.bind_some]
      obtain ⟨M2, e2, p1, p2, p3⟩ := e_actJ (M := zu M1 0 2 (M1 0 2 - 1)) (N := N) (by omega) (h := 5) (by omega) (by rw [zu_same, hC 0 2 (by decide), hx]; exact nI_pm 5)
      refine ⟨M2, 5, e2, by simp, p1, fun i hi => ?_, fun k i hk hi => ?_, fun a j ha hb => ?_⟩
      · rw [p2 i hi, zu_cell (by decide), hC 1 i (by decide)]
      · rw [p3 2 _ (by omega) (by omega), zu_cell (by decide), hA _ (by omega)]
        simp only [if_true]
        congr 1
        omega
      · rw [p3 a j ha (by omega), zu_ne (fun e1 e2 => ha ⟨e1, e2⟩), hC a j hb]
  · have hne : ¬ nI h = 6 := fun e => e6 ((nI_eq (b := 6) (by omega) (by decide)).mp e)
    rw [if_pos hne]
    obtain ⟨M2, e2, p1, p2, p3⟩ := e_actJ (M := M) (N := N) (by omega) (h := h) (by omega) hx
    refine ⟨M2, h, e2, by rw [if_neg e6], p1, p2, fun k i hk hi => ?_, fun a j ha hb => p3 a j ha (by omega)⟩
    have h1 : 380 * k + 380 ≤ 380 * h := by
      have := Nat.mul_le_mul_left 380 (show k + 1 ≤ h by omega)
      omega
    rw [if_neg e6, p3 2 _ (by omega) (by omega)]
end ACT
