/-! the answers of shape -/
section SHA
variable {G M : Nat → Nat → Int32} {q : Nat → Option Nat} {N : Nat} {n c ln : Nat} {th sel gt : Nat → Bool} {p : Nat → Nat} {hs hg : Nat → Option Nat}
theorem m_depthOf_w {k0 s : Nat} (hk0 : k0 < 20) (hN : k0 < N) (h0 : M 1 (170 + k0) = nI s) (hj : ∀ j, j < k0 → ¬ M 1 (170 + j) = nI s) : f_X12_depthOf TM N (M, rfM) 0 (nI s) = some (nI k0, (M, rfM)) := by
  unfold f_X12_depthOf
  rw [zz1_of TM_0]
  refine zl1_end k0 (fun i => nI i) nI_0.symm hN (fun i hi k => ?_) (fun k => ?_)
  · unfold f_X12_depthOf_L2
    simp only [g_v, Option.bind_some]
    rw [ixD, v_rd (by omega)]
    simp only [Option.bind_some]
    rw [if_neg (hj i hi), zn_eq, nI_1]
  · unfold f_X12_depthOf_L2
    simp only [g_v, Option.bind_some]
    rw [ixD, v_rd (by omega)]
    simp only [Option.bind_some]
    rw [if_pos h0]
theorem QP_inj {V : Nat → Int32} (hP : QP th c p G V) {i j : Nat} (hi : i < c) (hj : j < c) (e : p i = p j) : i = j := by
  have h1 := (hP.pk i hi).2.2.2
  have h2 := (hP.pk j hj).2.2.2
  rw [e, h2] at h1
  have := hP.c20
  exact ((nI_eq (by omega) (by omega)).mp h1).symm
theorem m_depthOf (hN : 20 < N) (hP : QP th c p G (M 1)) {k0 : Nat} (hk : k0 < c) : f_X12_depthOf TM N (M, rfM) 0 (nI (p k0)) = some (nI k0, (M, rfM)) := by
  have hc := hP.c20
  refine m_depthOf_w (by omega) (by omega) (hP.pk k0 hk).2.2.1 (fun j hj e => ?_)
  have hpj := hP.pk j (by omega)
  rw [hpj.2.2.1] at e
  have := QP_inj hP (by omega) hk ((nI_eq (by have := hpj.1; omega) (by have := (hP.pk k0 hk).1; omega)).mp e)
  omega
end SHA
