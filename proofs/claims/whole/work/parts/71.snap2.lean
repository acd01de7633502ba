/-! snapping: guides, shapes, grid -/
theorem fa_npos {x : Int32} (h : ¬ x ≤ 0) : 0 < x.toInt := by
  rw [fa_le] at h
  have e0 : (0 : Int32).toInt = 0 := by decide
  omega
theorem MG_c {M : Nat → Nat → Int32} {w : Int32 × Int32} {a : Nat} (h : a ≠ 0) : MG M w a = M a := funext (fun j => MG_o (fun e => h e.1))
theorem CG_c {G : Nat → Nat → Int32} {w : Int32 × Int32} {a : Nat} (h : a ≠ 373) : CG G w a = G a := funext (fun j => CG_o (fun e => h e.1))
theorem MG1 {M : Nat → Nat → Int32} {w : Int32 × Int32} {j : Nat} : MG M w 1 j = M 1 j := MG_o (by omega)
theorem CGs {G : Nat → Nat → Int32} {w : Int32 × Int32} {i j : Nat} (h : i < 20) : CG G w (4 + i) j = G (4 + i) j := CG_o (by omega)
/-- what guide k, shape s, the grid offer -/
def gdS (D : Nat → Nat → Int32) (α : Nat) (tol lo mi hi : Int32) (w : Int32 × Int32) (k : Nat) : Int32 × Int32 := if D 50 k = nI α then stp tol (stp tol (stp tol w 0 (D 51 k - lo)) 0 (D 51 k - mi)) 0 (D 51 k - hi) else w
def gdW (D : Nat → Nat → Int32) (α : Nat) (tol lo mi hi : Int32) (w : Int32 × Int32) : Nat → Int32 × Int32
  | 0 => w
  | k + 1 => gdS D α tol lo mi hi (gdW D α tol lo mi hi w k) k
def shS (D : Nat → Nat → Int32) (P : Nat → Bool) (α : Nat) (tol lo mi hi : Int32) (w : Int32 × Int32) (s : Nat) : Int32 × Int32 := if P s = true then stp tol (stp tol (stp tol (stp tol (stp tol w 1 (D (4 + s) (2 + α) + fdJ (D (4 + s) (4 + α)) 2 - mi)) 2 (bgn D α s - lo)) 2 (enG D α s - lo)) 2 (bgn D α s - hi)) 2 (enG D α s - hi) else w
theorem shS_t {D : Nat → Nat → Int32} {P : Nat → Bool} {α : Nat} {tol lo mi hi : Int32} {w : Int32 × Int32} {s : Nat} (h : P s = true) : shS D P α tol lo mi hi w s = stp tol (stp tol (stp tol (stp tol (stp tol w 1 (D (4 + s) (2 + α) + fdJ (D (4 + s) (4 + α)) 2 - mi)) 2 (bgn D α s - lo)) 2 (enG D α s - lo)) 2 (bgn D α s - hi)) 2 (enG D α s - hi) := if_pos h
theorem shS_f {D : Nat → Nat → Int32} {P : Nat → Bool} {α : Nat} {tol lo mi hi : Int32} {w : Int32 × Int32} {s : Nat} (h : P s = false) : shS D P α tol lo mi hi w s = w := if_neg (by rw [h]; decide)
/-- a live shape that isn't selected -/
def frB (th sel : Nat → Bool) (s : Nat) : Bool := th s && !sel s
theorem fr_t {th sel : Nat → Bool} {s : Nat} (h : th s = true) (h2 : sel s = false) : frB th sel s = true := by unfold frB; rw [h, h2]; rfl
theorem fr_s {th sel : Nat → Bool} {s : Nat} (h2 : sel s = true) : frB th sel s = false := by unfold frB; rw [h2, Bool.not_true, Bool.and_false]
theorem fr_n {th sel : Nat → Bool} {s : Nat} (h : th s = false) : frB th sel s = false := by unfold frB; rw [h]; rfl
def shW (D : Nat → Nat → Int32) (P : Nat → Bool) (α : Nat) (tol lo mi hi : Int32) (w : Int32 × Int32) : Nat → Int32 × Int32
  | 0 => w
  | s + 1 => shS D P α tol lo mi hi (shW D P α tol lo mi hi w s) s
def grS (g tol lo : Int32) (w : Int32 × Int32) : Int32 × Int32 := if g ≤ 0 then w else stp tol (stp tol w 3 (-(fmJ lo g))) 3 (g - fmJ lo g)
section SNL
variable {G M : Nat → Nat → Int32} {q : Nat → Option Nat} {N : Nat} {n c ln : Nat} {th sel gt : Nat → Bool} {p : Nat → Nat} {hs hg : Nat → Option Nat} {ρ : Nat → Nat → Option Nat} {V : Nat → Int32} {s t a b y k o d u α : Nat} {w : Int32 × Int32} {tol x z g lo mi hi : Int32}
theorem e_offerGrid (ht : G 373 2 = tol) : f_X8_offerGrid TC N (CG G w, rfC q) 373 g lo = some (CG G (grS g tol lo w), rfC q) := by
  unfold f_X8_offerGrid grS
  rw [zz1_of TC_373]
  by_cases h : g ≤ 0
  · rw [if_pos h, if_pos h]
  · rw [if_neg h, if_neg h, e_fmod (fun e => h (by rw [e]; decide)), zb2_some, e_offer ht, Option.bind_some, e_offer ht, Option.bind_some]
theorem e_sides {x1 x2 x3 : Int32} (ht : G 373 2 = tol) : f_X8_offerSides TC N (CG G w, rfC q) 373 x1 x2 x3 = some (CG G (stp tol (stp tol w 2 (x1 - x3)) 2 (x2 - x3)), rfC q) := by
  unfold f_X8_offerSides
  rw [zz1_of TC_373, e_offer ht, Option.bind_some, e_offer ht, Option.bind_some]
theorem e_snapS (hN : 20 < N) (hS : QS n th G V) (hC : QC th sel G V) (ht : G 373 2 = tol) (hα : α < 2) : zl2 (f_X8_search_L153 TC N 373 1 (nI α) 2 lo mi hi) N (0 : Int32) (CG G w, rfC q) = some (CG G (grS (G 49 3) tol lo (shW G (frB th sel) α tol lo mi hi w 20)), rfC q) := by
  have hS1 : ∀ w, QS n th (CG G w) V := fun w => QS_fr hS (fun s _ j _ => CG_o (by omega)) (CG_o (by omega)) rfl (fun _ _ _ _ => rfl)
  refine zl2_end 20 (fun i => nI i) (fun i => (CG G (shW G (frB th sel) α tol lo mi hi w i), rfC q)) nI_0.symm rfl hN (fun i hi2 kk => ?_) (fun kk => ?_)
  · unfold f_X8_search_L153
    rw [if_neg (nI_n20 hi2), e_find_k hi2, QS_liv (hS1 _) hi2, zb2_some]
    show _ = kk _ (CG G (shS G (frB th sel) α tol lo mi hi (shW G (frB th sel) α tol lo mi hi w i) i), rfC q)
    by_cases h : th i = true
    · rw [if_pos h, zo_some, gI_of TC_2, CG_o (by omega), hC.cD, Option.bind_some, e_hasBit (by omega), bt_S sel hi2, zb2_some]
      by_cases h2 : sel i = true
      · rw [if_pos h2, if_pos (by decide), zn_eq, nI_1, shS_f (fr_s h2)]
      · rw [if_neg h2, if_neg (by decide), shS_t (fr_t h (eq_false_of_ne_true h2))]
        simp only [e_center (TC_sh hi2) hα, e_start (TC_sh hi2) hα, e_end (TC_sh hi2) hα, zb2_some, e_offer ht, e_sides ht, Option.bind_some, zn_eq, nI_1]
        simp only [CGs hi2]
        rfl
    · rw [if_neg h, zo_none, zn_eq, nI_1, shS_f (fr_n (eq_false_of_ne_true h))]
  · unfold f_X8_search_L153
    rw [if_pos (nI_20 (Nat.le_refl 20) (by decide)), g_guides, Option.bind_some, gI_of TC_49, CG_o (by omega), Option.bind_some, e_offerGrid ht, Option.bind_some]
theorem e_isOn {m : Nat} (h : G 49 2 = nI m) (hm : m ≤ 10) (hk : k < m) : f_X4_isOn TC N (G, rfC q) 49 (nI k) x = some (if G 50 k = x then 1 else 0, (G, rfC q)) := by
  unfold f_X4_isOn
  rw [zz1_of TC_49, if_neg (nI_pos (by omega)), gI_of TC_49, h, Option.bind_some, if_neg (nI_ge hk (by omega)), gR_of TC_49, rf_49_0, Option.bind_some, aL_of TC_50, TL_50, Option.bind_some, if_neg (nI_ge (show k < 10 by omega) (by decide)), Option.bind_some, aI_of TC_50 TL_50 (show k < 10 by omega) (by decide), Option.bind_some]
  by_cases h : G 50 k = x
  · rw [if_neg (fun n => n h), if_pos h, rZ_1]
  · rw [if_pos h, if_neg h, rZ_0]
theorem e_placeOf (hk : k < 10) : f_X4_placeOf TC N (G, rfC q) 49 (nI k) = some (G 51 k, (G, rfC q)) := by
  unfold f_X4_placeOf
  rw [zz1_of TC_49, if_neg (nI_pos (by omega)), gR_of TC_49, rf_49_1, Option.bind_some, aL_of TC_51, TL_51, Option.bind_some, if_neg (nI_ge hk (by decide)), Option.bind_some, aI_of TC_51 TL_51 hk (by decide), Option.bind_some]
theorem e_snapG {m : Nat} (hN : 20 < N) (hS : QS n th G V) (hC : QC th sel G V) (ht : G 373 2 = tol) (hα : α < 2) (hg : G 49 2 = nI m) (hm : m ≤ 10) : zl2 (f_X8_search_L78 TC N 373 1 (nI α) 2 lo mi hi) N (0 : Int32) (CG G w, rfC q) = some (CG G (grS (G 49 3) tol lo (shW G (frB th sel) α tol lo mi hi (gdW G α tol lo mi hi w m) 20)), rfC q) := by
  refine zl2_end m (fun i => nI i) (fun i => (CG G (gdW G α tol lo mi hi w i), rfC q)) nI_0.symm rfl (by omega) (fun i hi2 kk => ?_) (fun kk => ?_)
  · unfold f_X8_search_L78
    rw [g_guides, Option.bind_some, gI_of TC_49, CG_o (by omega), hg, Option.bind_some, if_neg (nI_ge hi2 (by omega)), Option.bind_some, e_isOn (m := m) (by rw [CG_o (by omega), hg]) hm hi2, CG_o (by omega), zb2_some]
    show _ = kk _ (CG G (gdS G α tol lo mi hi (gdW G α tol lo mi hi w i) i), rfC q)
    unfold gdS
    by_cases h : G 50 i = nI α
    · rw [if_pos h, if_pos h, if_neg (by decide)]
      simp only [g_guides, Option.bind_some, e_placeOf (show i < 10 by omega), zb2_some, e_offer ht, zn_eq, nI_1]
      rw [CG_o (by omega)]
    · rw [if_neg h, if_neg h, if_pos rfl, zn_eq, nI_1]
  · unfold f_X8_search_L78
    rw [g_guides, Option.bind_some, gI_of TC_49, CG_o (by omega), hg, Option.bind_some, if_pos (nI_le (Nat.le_refl m) (by omega)), e_snapS hN hS hC ht hα]
theorem m_snapS (hN : 20 < N) (hS : QS n th G (M 1)) (hC : QC th sel G (M 1)) (ht : M 1 5 = tol) (hα : α < 2) (hgr : M 1 4 = g) : zl2 (f_X12_looksFor_L135 TM N 0 (nI α) lo hi mi) N (0 : Int32) (MG M w, rfM) = some (MG M (grS g tol lo (shW G (frB th sel) α tol lo mi hi w 20)), rfM) := by
  refine zl2_end 20 (fun i => nI i) (fun i => (MG M (shW G (frB th sel) α tol lo mi hi w i), rfM)) nI_0.symm rfl hN (fun i hi2 kk => ?_) (fun kk => ?_)
  · unfold f_X12_looksFor_L135
    rw [if_neg (nI_n20 hi2), show (0 : Int32) = nI 0 from rfl, m_of (by omega), zb2_some]
    show (if ¬ MG M _ 1 (10 + 8 * i) = 1 then _ else _) = kk _ (MG M (shS G (frB th sel) α tol lo mi hi (shW G (frB th sel) α tol lo mi hi w i) i), rfM)
    rw [MG_o (by omega), hS.tV i hi2]
    by_cases h : th i = true
    · rw [h, if_neg (fun n => n rfl), m_isSelected hi2 (by rw [MG_c (by decide)]; exact hS) (by rw [MG_c (by decide)]; exact hC), zb2_some]
      by_cases h2 : sel i = true
      · rw [h2, if_pos (by decide), zn_eq, nI_1, shS_f (fr_s h2)]
      · rw [eq_false_of_ne_true h2, if_neg (by decide), shS_t (fr_t h (eq_false_of_ne_true h2))]
        have hz : 0 ≤ (G (4 + i) (4 + α)).toInt := by have := (hS.fD i hi2 h).2.2 (4 + α) (by omega) (by omega); omega
        simp only [m_center hi2 hα, m_begin hi2 hα, m_end hi2 hα, zb2_some, m_aims ht, Option.bind_some, zn_eq, nI_1]
        simp only [MG1, hS.fV i hi2 h (2 + α) (by omega) (by omega), hS.fV i hi2 h (4 + α) (by omega) (by omega), i_half hz]
        rfl
    · rw [eq_false_of_ne_true h, if_pos (by decide), zn_eq, nI_1, shS_f (fr_n (eq_false_of_ne_true h))]
  · unfold f_X12_looksFor_L135 grS
    simp only [g_v, Option.bind_some, v4_]
    rw [if_pos (nI_20 (Nat.le_refl 20) (by decide)), MG_o (by omega), hgr]
    by_cases h : g ≤ 0
    · rw [if_pos h, if_pos h]
    · have hp := fa_npos h
      obtain ⟨e1, -⟩ := rsJ_fm (x := lo) hp
      have hJ : ∀ r w, f_X12_looksFor_J279 TM N 0 (MG M w, rfM) r = some (MG M (stp tol (stp tol w 3 (-r)) 3 (g - r)), rfM) := fun r w => by
        unfold f_X12_looksFor_J279
        rw [m_aims ht, Option.bind_some, g_v, Option.bind_some, v4_, Option.bind_some, MG_o (by omega), hgr, m_aims ht, Option.bind_some]
      have h0 : ¬ g = 0 := fun e => h (by rw [e]; decide)
      rw [if_neg h, if_neg h, zz1_of h0, zn_eq, hJ, hJ, ← e1]
      unfold rsJ
      by_cases h2 : 0 ≤ lo - lo / g * g
      · rw [if_pos h2, if_pos h2]
      · rw [if_neg h2, if_neg h2]
theorem m_snapG {m : Nat} (hN : 20 < N) (hS : QS n th G (M 1)) (hC : QC th sel G (M 1)) (ht : M 1 5 = tol) (hα : α < 2) (hgr : M 1 4 = g) (hm : m ≤ 10) (hg : M 1 3 = nI m) (hgd : ∀ k, k < m → G 50 k = M 1 (310 + 2 * k) ∧ G 51 k = M 1 (310 + 2 * k + 1)) : zl2 (f_X12_looksFor_L52 TM N 0 (nI α) lo hi mi) N (0 : Int32) (MG M w, rfM) = some (MG M (grS g tol lo (shW G (frB th sel) α tol lo mi hi (gdW G α tol lo mi hi w m) 20)), rfM) := by
  refine zl2_end m (fun i => nI i) (fun i => (MG M (gdW G α tol lo mi hi w i), rfM)) nI_0.symm rfl (by omega) (fun i hi2 kk => ?_) (fun kk => ?_)
  · unfold f_X12_looksFor_L52
    simp only [g_v, Option.bind_some, v3_, ixG]
    rw [MG_o (by omega), hg, if_neg (nI_ge hi2 (by omega)), v_rd (by omega), Option.bind_some, MG_o (by omega), show nI (310 + 2 * i) + (1 : Int32) = nI (310 + 2 * i + 1) from nI_1 _, v_rd (by omega), Option.bind_some, MG_o (by omega), ← (hgd i hi2).1, ← (hgd i hi2).2]
    show _ = kk _ (MG M (gdS G α tol lo mi hi (gdW G α tol lo mi hi w i) i), rfM)
    unfold gdS
    by_cases h : G 50 i = nI α
    · rw [if_neg (fun n => n h), if_pos h]
      simp only [m_aims ht, Option.bind_some, zn_eq, nI_1]
    · rw [if_pos h, if_neg h, zn_eq, nI_1]
  · unfold f_X12_looksFor_L52
    simp only [g_v, Option.bind_some, v3_]
    rw [MG_o (by omega), hg, if_pos (nI_le (Nat.le_refl m) (by omega)), m_snapS hN hS hC ht hα hgr]
end SNL
