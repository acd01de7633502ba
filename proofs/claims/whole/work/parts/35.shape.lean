/-! the answers of shape -/
section SHA
variable {G M : Nat → Nat → Int32} {q : Nat → Option Nat} {N : Nat} {n c ln : Nat} {th sel gt : Nat → Bool} {p : Nat → Nat} {hs hg : Nat → Option Nat}
theorem m_depthOf_w {k0 s : Nat} (hk0 : k0 < 20) (hN : k0 < N) (h0 : M 1 (170 + k0) = nI s) (hj : ∀ j, j < k0 → ¬ M 1 (170 + j) = nI s) : f_X12_depthOf TM N (M, rfM) 0 (nI s) = some (nI k0, (M, rfM)) := by
  unfold f_X12_depthOf
  rw [zz1_of TM_0]
  refine zl1_end k0 (fun i => nI i) nI_0.symm hN (fun i hi k => ?_) (fun k => ?_)
  · unfold f_X12_depthOf_L2
    simp only [g_v, Option.bind_some]
    rw [ixD, v_rd (by omega)]
    simp only [Option.bind_some]
    rw [if_neg (hj i hi), zn_eq, nI_1]
  · unfold f_X12_depthOf_L2
    simp only [g_v, Option.bind_some]
    rw [ixD, v_rd (by omega)]
    simp only [Option.bind_some]
    rw [if_pos h0]
theorem QP_inj {V : Nat → Int32} (hP : QP th c p G V) {i j : Nat} (hi : i < c) (hj : j < c) (e : p i = p j) : i = j := by
  have h1 := (hP.pk i hi).2.2.2
  have h2 := (hP.pk j hj).2.2.2
  rw [e, h2] at h1
  have := hP.c20
  exact ((nI_eq (by omega) (by omega)).mp h1).symm
theorem m_depthOf (hN : 20 < N) (hP : QP th c p G (M 1)) {k0 : Nat} (hk : k0 < c) : f_X12_depthOf TM N (M, rfM) 0 (nI (p k0)) = some (nI k0, (M, rfM)) := by
  have hc := hP.c20
  refine m_depthOf_w (by omega) (by omega) (hP.pk k0 hk).2.2.1 (fun j hj e => ?_)
  have hpj := hP.pk j (by omega)
  rw [hpj.2.2.1] at e
  have := QP_inj hP (by omega) hk ((nI_eq (by have := hpj.1; omega) (by have := (hP.pk k0 hk).1; omega)).mp e)
  omega

theorem hJ_NN {x : Option Nat} (h : ∀ g, x = some g → g < 8) : (if 0 ≤ hJ x then hJ x else (-1000000 : Int32)) = hC x := by
  cases x with
  | none => rw [if_neg (by decide)]; rfl
  | some g => rw [if_pos (show 0 ≤ hJ (some g) from nI_pos' (by have := h g rfl; omega))]; rfl
theorem topA_8 (hH : QH th sel hs hg gt G (M 1)) : ∀ (b : Nat) (x : Option Nat), (∀ g, x = some g → g < 8 ∧ gt g = true) → ∀ g, topA hg b x = some g → g < 8 ∧ gt g = true := by
  intro b
  induction b with
  | zero => intro x hx g e; exact hx g e
  | succ b ih =>
    intro x hx g e
    cases x with
    | none => cases e
    | some k =>
      unfold topA at e
      cases e2 : hg k with
      | none =>
        rw [e2] at e
        have : k = g := by simpa using e
        subst this
        exact hx k rfl
      | some k2 =>
        rw [e2] at e
        exact ih (some k2) (fun g h => by cases h; exact hH.gg k (hx k rfl).1 (hx k rfl).2 k2 e2) g e
end SHA
