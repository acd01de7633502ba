/-! gathering the units: the reference's side -/
def lwF (st : Int32) (f : Nat → Int32) (P : Nat → Bool) : Nat → Int32
  | 0 => st
  | n + 1 => if P n = true then (if f n < lwF st f P n then f n else lwF st f P n) else lwF st f P n
def hgF (st : Int32) (f : Nat → Int32) (P : Nat → Bool) : Nat → Int32
  | 0 => st
  | n + 1 => if P n = true then (if hgF st f P n < f n then f n else hgF st f P n) else hgF st f P n
theorem lwF_t {st : Int32} {f : Nat → Int32} {P : Nat → Bool} {n : Nat} (h : P n = true) : lwF st f P (n + 1) = if f n < lwF st f P n then f n else lwF st f P n := by
  show (if P n = true then _ else _) = _
  rw [if_pos h]
theorem lwF_f {st : Int32} {f : Nat → Int32} {P : Nat → Bool} {n : Nat} (h : P n = false) : lwF st f P (n + 1) = lwF st f P n := by
  show (if P n = true then _ else _) = _
  rw [if_neg (by rw [h]; decide)]
theorem hgF_t {st : Int32} {f : Nat → Int32} {P : Nat → Bool} {n : Nat} (h : P n = true) : hgF st f P (n + 1) = if hgF st f P n < f n then f n else hgF st f P n := by
  show (if P n = true then _ else _) = _
  rw [if_pos h]
theorem hgF_f {st : Int32} {f : Nat → Int32} {P : Nat → Bool} {n : Nat} (h : P n = false) : hgF st f P (n + 1) = hgF st f P n := by
  show (if P n = true then _ else _) = _
  rw [if_neg (by rw [h]; decide)]
theorem lwF_no {st : Int32} {f : Nat → Int32} {P : Nat → Bool} : ∀ {n : Nat}, (∀ s, s < n → P s = false) → lwF st f P n = st := by
  intro n
  induction n with
  | zero => intro _; rfl
  | succ n ih =>
    intro h
    rw [lwF_f (h n (by omega)), ih (fun s hs => h s (by omega))]
theorem hgF_no {st : Int32} {f : Nat → Int32} {P : Nat → Bool} : ∀ {n : Nat}, (∀ s, s < n → P s = false) → hgF st f P n = st := by
  intro n
  induction n with
  | zero => intro _; rfl
  | succ n ih =>
    intro h
    rw [hgF_f (h n (by omega)), ih (fun s hs => h s (by omega))]
/-- where a shape begins and ends along an axis -/
def bgn (G : Nat → Nat → Int32) (α s : Nat) : Int32 := G (4 + s) (2 + α)
def enG (G : Nat → Nat → Int32) (α s : Nat) : Int32 := G (4 + s) (2 + α) + G (4 + s) (4 + α)
/-- box u is widened by shape s along an axis; cleared -/
def wdM (G : Nat → Nat → Int32) (u s α : Nat) (M : Nat → Nat → Int32) : Nat → Nat → Int32 :=
  zu (zu M 7 (2 * u + α) (if bgn G α s < M 7 (2 * u + α) then bgn G α s else M 7 (2 * u + α))) 8 (2 * u + α) (if M 8 (2 * u + α) < enG G α s then enG G α s else M 8 (2 * u + α))
def clM (u : Nat) (M : Nat → Nat → Int32) : Nat → Nat → Int32 := zu (zu (zu (zu M 7 (2 * u + 0) 99999) 8 (2 * u + 0) (-99999)) 7 (2 * u + 1) 99999) 8 (2 * u + 1) (-99999)
theorem wd_lo {G M : Nat → Nat → Int32} {u s α : Nat} (hα : α < 2) : wdM G u s 1 (wdM G u s 0 M) 7 (2 * u + α) = if bgn G α s < M 7 (2 * u + α) then bgn G α s else M 7 (2 * u + α) := by
  have : α = 0 ∨ α = 1 := by omega
  unfold wdM
  rcases this with rfl | rfl
  · rw [zu_cell (by decide), zu_ne (fun _ => by omega), zu_cell (by decide), zu_same]
  · rw [zu_cell (by decide), zu_same, zu_cell (by decide), zu_ne (fun _ => by omega)]
theorem wd_hi {G M : Nat → Nat → Int32} {u s α : Nat} (hα : α < 2) : wdM G u s 1 (wdM G u s 0 M) 8 (2 * u + α) = if M 8 (2 * u + α) < enG G α s then enG G α s else M 8 (2 * u + α) := by
  have : α = 0 ∨ α = 1 := by omega
  unfold wdM
  rcases this with rfl | rfl
  · rw [zu_ne (fun _ => by omega), zu_cell (by decide), zu_same]
  · rw [zu_same, zu_ne (fun _ => by omega), zu_cell (by decide)]
theorem wd_o {G M : Nat → Nat → Int32} {u s a j : Nat} (h : ¬ ((a = 7 ∨ a = 8) ∧ (j = 2 * u + 0 ∨ j = 2 * u + 1))) : wdM G u s 1 (wdM G u s 0 M) a j = M a j := by
  unfold wdM
  rw [zu_ne (fun e => by omega), zu_ne (fun e => by omega), zu_ne (fun e => by omega), zu_ne (fun e => by omega)]
theorem cl_lo {M : Nat → Nat → Int32} {u α : Nat} (hα : α < 2) : clM u M 7 (2 * u + α) = 99999 := by
  have : α = 0 ∨ α = 1 := by omega
  unfold clM
  rcases this with rfl | rfl
  · rw [zu_cell (by decide), zu_ne (fun _ => by omega), zu_cell (by decide), zu_same]
  · rw [zu_cell (by decide), zu_same]
theorem cl_hi {M : Nat → Nat → Int32} {u α : Nat} (hα : α < 2) : clM u M 8 (2 * u + α) = -99999 := by
  have : α = 0 ∨ α = 1 := by omega
  unfold clM
  rcases this with rfl | rfl
  · rw [zu_ne (fun _ => by omega), zu_cell (by decide), zu_same]
  · rw [zu_same]
theorem cl_o {M : Nat → Nat → Int32} {u a j : Nat} (h : ¬ ((a = 7 ∨ a = 8) ∧ (j = 2 * u + 0 ∨ j = 2 * u + 1))) : clM u M a j = M a j := by
  unfold clM
  rw [zu_ne (fun e => by omega), zu_ne (fun e => by omega), zu_ne (fun e => by omega), zu_ne (fun e => by omega)]
section GTH
variable {G M : Nat → Nat → Int32} {q : Nat → Option Nat} {N : Nat} {n c ln : Nat} {th sel gt : Nat → Bool} {p : Nat → Nat} {hs hg : Nat → Option Nat} {ρ : Nat → Nat → Option Nat} {V : Nat → Int32} {s t a b y k o d u : Nat}
theorem ixB (u α : Nat) : (2 : Int32) * nI u + nI α = nI (2 * u + α) := m_idx (a := 2)
theorem m_clears (hN : 2 < N) (hu : u < 21) : f_X12_clears TM N (M, rfM) 0 (nI u) = some (clM u M, rfM) := by
  obtain ⟨m, rfl⟩ : ∃ m, N = m + 3 := ⟨N - 3, by omega⟩
  unfold f_X12_clears
  rw [zz1_of TM_0, ← nI_0, zl2]
  unfold f_X12_clears_L2
  rw [if_neg (show ¬ (2 : Int32) ≤ nI 0 by decide), gm8, Option.bind_some, ixB, sI_of TM_7 ML_7 (show 2 * u + 0 < 42 by omega) (by decide), Option.bind_some, gm9, Option.bind_some, sI_of TM_8 ML_8 (show 2 * u + 0 < 42 by omega) (by decide), Option.bind_some, zn_eq, nI_1, zl2]
  rw [if_neg (show ¬ (2 : Int32) ≤ nI (0 + 1) by decide), gm8, Option.bind_some, ixB, sI_of TM_7 ML_7 (show 2 * u + (0 + 1) < 42 by omega) (by decide), Option.bind_some, gm9, Option.bind_some, sI_of TM_8 ML_8 (show 2 * u + (0 + 1) < 42 by omega) (by decide), Option.bind_some, zn_eq, nI_1, zl2]
  rw [if_pos (show (2 : Int32) ≤ nI (0 + 1 + 1) by decide)]
  rfl
theorem m_widL (hu : u < 21) (hs : s < 20) (hf : ∀ j, 2 ≤ j → j < 6 → M 1 (10 + 8 * s + j) = G (4 + s) j) {α : Nat} (hα : α < 2) {k : Int32 → zS → Option zS} : f_X12_widens_L2 TM N 0 (nI u) (nI s) k (nI α) (M, rfM) = k (nI (α + 1)) (wdM G u s α M, rfM) := by
  have h2 : ¬ (2 : Int32) ≤ nI α := nI_ge hα (by decide)
  have eb : ∀ M2 : Nat → Nat → Int32, (∀ j, M2 1 j = M 1 j) → f_X12_begin TM N (M2, rfM) 0 (nI s) (nI α) = some (bgn G α s, (M2, rfM)) := fun M2 h => by
    rw [m_begin hs hα, h, hf _ (by omega) (by omega)]
    rfl
  have ee : ∀ M2 : Nat → Nat → Int32, (∀ j, M2 1 j = M 1 j) → f_X12_end TM N (M2, rfM) 0 (nI s) (nI α) = some (enG G α s, (M2, rfM)) := fun M2 h => by
    rw [m_end hs hα, h, h, hf _ (by omega) (by omega), hf _ (by omega) (by omega)]
    rfl
  have hi : 2 * u + α < 42 := by omega
  have hJ : ∀ z : Int32, z = (if bgn G α s < M 7 (2 * u + α) then bgn G α s else M 7 (2 * u + α)) → f_X12_widens_J52 TM N 0 (nI s) (nI α) k (nI (2 * u + α)) 7 z (M, rfM) = k (nI (α + 1)) (wdM G u s α M, rfM) := fun z hz => by
    unfold f_X12_widens_J52
    rw [sI_of TM_7 ML_7 hi (by decide), Option.bind_some, gm9, Option.bind_some, ee _ (fun j => by rw [zu_cell (by decide)]), zb2_some, gm9, Option.bind_some, aI_of TM_8 ML_8 hi (by decide), Option.bind_some]
    by_cases h : enG G α s ≤ zu M 7 (2 * u + α) z 8 (2 * u + α)
    · rw [if_pos h, Option.bind_some, aI_of TM_8 ML_8 hi (by decide), Option.bind_some, sI_of TM_8 ML_8 hi (by decide), Option.bind_some, zn_eq, nI_1]
      unfold wdM
      rw [zu_cell (by decide)] at h ⊢
      rw [hz, if_neg (show ¬ M 8 (2 * u + α) < enG G α s from nlt_of_le h)]
    · rw [if_neg h, ee _ (fun j => by rw [zu_cell (by decide)]), zb2_some, sI_of TM_8 ML_8 hi (by decide), Option.bind_some, zn_eq, nI_1]
      unfold wdM
      rw [zu_cell (by decide)] at h
      rw [hz, if_pos (show M 8 (2 * u + α) < enG G α s from fa_of_nle h)]
  unfold f_X12_widens_L2
  rw [if_neg h2, zn_eq, ixB, gm8, Option.bind_some, eb M (fun j => rfl), zb2_some, gm8, Option.bind_some, aI_of TM_7 ML_7 hi (by decide), Option.bind_some]
  by_cases h : M 7 (2 * u + α) ≤ bgn G α s
  · rw [if_pos h, Option.bind_some, aI_of TM_7 ML_7 hi (by decide), Option.bind_some]
    exact hJ _ (by rw [if_neg (nlt_of_le h)])
  · rw [if_neg h, eb M (fun j => rfl), zb2_some]
    exact hJ _ (by rw [if_pos (fa_of_nle h)])
theorem m_widens (hN : 2 < N) (hu : u < 21) (hs : s < 20) (hf : ∀ j, 2 ≤ j → j < 6 → M 1 (10 + 8 * s + j) = G (4 + s) j) : f_X12_widens TM N (M, rfM) 0 (nI u) (nI s) = some (wdM G u s 1 (wdM G u s 0 M), rfM) := by
  obtain ⟨m, rfl⟩ : ∃ m, N = m + 3 := ⟨N - 3, by omega⟩
  unfold f_X12_widens
  rw [zz1_of TM_0, ← nI_0, zl2, m_widL hu hs hf (by omega), zl2, m_widL (M := wdM G u s 0 M) hu hs (fun j h1 h2 => by unfold wdM; rw [zu_cell (by decide), zu_cell (by decide)]; exact hf j h1 h2) (by omega), zl2]
  unfold f_X12_widens_L2
  rw [if_pos (show (2 : Int32) ≤ nI (0 + 1 + 1) by decide)]
/-- what the reference has gathered of the shapes below i -/
def GI (G : Nat → Nat → Int32) (sel : Nat → Bool) (hs hg : Nat → Option Nat) (i : Nat) (M : Nat → Nat → Int32) : Prop :=
  M 0 11 = nI (cnt (nwB sel (kyS hs hg)) i) ∧
  (∀ u, u < cnt (nwB sel (kyS hs hg)) i → M 5 u = hM (unO hs hg (usF sel (kyS hs hg) i u)) ∧ M 6 u = nI (usF sel (kyS hs hg) i u)) ∧
  (∀ s, s < i → sel s = true → M 9 s = nI (uoF sel (kyS hs hg) s)) ∧
  (∀ u, u < cnt (nwB sel (kyS hs hg)) i → ∀ α, α < 2 → M 7 (2 * u + α) = lwF 99999 (bgn G α) (fun s => sel s && decide (uoF sel (kyS hs hg) s = u)) i ∧ M 8 (2 * u + α) = hgF (-99999) (enG G α) (fun s => sel s && decide (uoF sel (kyS hs hg) s = u)) i) ∧
  ∀ α, α < 2 → M 7 (2 * 20 + α) = lwF 99999 (bgn G α) sel i ∧ M 8 (2 * 20 + α) = hgF (-99999) (enG G α) sel i
theorem hJ_1 {x : Option Nat} (h : ∀ g, x = some g → g < 8) : (if 0 ≤ hJ x then hJ x + 1 else 0) = hM x := by
  cases x with
  | none => rw [if_neg (by decide)]; rfl
  | some g => rw [if_pos (show 0 ≤ hJ (some g) from nI_pos' (by have := h g rfl; omega))]; exact nI_1 g
/-- the shape i comes to its unit -/
theorem GI_old {i : Nat} (hi : i < 20) (hsl : sel i = true) (hn : ¬ nwB sel (kyS hs hg) i = true) (h : GI G sel hs hg i M) : GI G sel hs hg (i + 1) (wdM G 20 i 1 (wdM G 20 i 0 (wdM G (uoF sel (kyS hs hg) i) i 1 (wdM G (uoF sel (kyS hs hg) i) i 0 (zu M 9 i (nI (uoF sel (kyS hs hg) i))))))) := by
  obtain ⟨h1, h2, h3, h4, h5⟩ := h
  obtain ⟨hu, -⟩ := uo_old (ky := kyS hs hg) hsl hn
  have hc := cnt_le (nwB sel (kyS hs hg)) i
  unfold GI
  rw [cnt_f hn]
  refine ⟨?_, fun u hu2 => ?_, fun s hs2 hss => ?_, fun u hu2 α hα => ?_, fun α hα => ?_⟩
  · rw [wd_o (by omega), wd_o (by omega), zu_ne (fun e => by omega), h1]
  · rw [wd_o (by omega), wd_o (by omega), wd_o (by omega), wd_o (by omega), zu_ne (fun e => by omega), zu_ne (fun e => by omega), us_f hn]
    exact h2 u hu2
  · rw [wd_o (by omega), wd_o (by omega)]
    by_cases e : s = i
    · subst e
      rw [zu_same]
    · rw [zu_ne (fun _ => e)]
      exact h3 s (by omega) hss
  · rw [wd_o (u := 20) (a := 7) (by omega), wd_o (u := 20) (a := 8) (by omega)]
    by_cases e : uoF sel (kyS hs hg) i = u
    · rw [e, wd_lo hα, wd_hi hα, zu_ne (fun e => by omega), zu_ne (fun e => by omega), (h4 u hu2 α hα).1, (h4 u hu2 α hα).2, lwF_t (by rw [hsl, decide_eq_true e]; rfl), hgF_t (by rw [hsl, decide_eq_true e]; rfl)]
      exact ⟨rfl, rfl⟩
    · rw [wd_o (by omega), wd_o (by omega), zu_ne (fun e => by omega), zu_ne (fun e => by omega), lwF_f (by rw [decide_eq_false e, Bool.and_false]), hgF_f (by rw [decide_eq_false e, Bool.and_false])]
      exact h4 u hu2 α hα
  · rw [wd_lo hα, wd_hi hα, wd_o (by omega), wd_o (by omega), zu_ne (fun e => by omega), zu_ne (fun e => by omega), (h5 α hα).1, (h5 α hα).2, lwF_t hsl, hgF_t hsl]
    exact ⟨rfl, rfl⟩
/-- the shape i begins a unit -/
theorem GI_new {i : Nat} (hi : i < 20) (hn : nwB sel (kyS hs hg) i = true) (h : GI G sel hs hg i M) {v : Int32} (hv : v = hM (unO hs hg i)) : GI G sel hs hg (i + 1) (wdM G 20 i 1 (wdM G 20 i 0 (wdM G (uoF sel (kyS hs hg) i) i 1 (wdM G (uoF sel (kyS hs hg) i) i 0 (zu (zu (clM (uoF sel (kyS hs hg) i) (zu (zu M 5 (uoF sel (kyS hs hg) i) v) 6 (uoF sel (kyS hs hg) i) (nI i))) 0 11 (nI (cnt (nwB sel (kyS hs hg)) i + 1))) 9 i (nI (uoF sel (kyS hs hg) i))))))) := by
  obtain ⟨h1, h2, h3, h4, h5⟩ := h
  have hsl := nw_sel hn
  have hc := cnt_le (nwB sel (kyS hs hg)) i
  have hu := uo_new hn
  unfold GI
  rw [cnt_t hn, hu]
  refine ⟨?_, fun u hu2 => ?_, fun s hs2 hss => ?_, fun u hu2 α hα => ?_, fun α hα => ?_⟩
  · rw [wd_o (by omega), wd_o (by omega), zu_ne (fun e => by omega), zu_same]
  · rw [wd_o (by omega), wd_o (by omega), wd_o (by omega), wd_o (by omega), zu_ne (fun e => by omega), zu_ne (fun e => by omega), zu_ne (fun e => by omega), zu_ne (fun e => by omega), cl_o (by omega), cl_o (by omega), us_s hn]
    by_cases e : u = cnt (nwB sel (kyS hs hg)) i
    · rw [if_pos e, e, zu_ne (fun e => by omega), zu_same, zu_same, hv]
      exact ⟨rfl, rfl⟩
    · rw [if_neg e, zu_ne (fun e => by omega), zu_ne (fun _ => e), zu_ne (fun _ => e), zu_ne (fun e => by omega)]
      exact h2 u (by omega)
  · rw [wd_o (by omega), wd_o (by omega)]
    by_cases e : s = i
    · subst e
      rw [zu_same, hu]
    · rw [zu_ne (fun _ => e), zu_ne (fun e => by omega), cl_o (by omega), zu_ne (fun e => by omega), zu_ne (fun e => by omega)]
      exact h3 s (by omega) hss
  · rw [wd_o (u := 20) (a := 7) (by omega), wd_o (u := 20) (a := 8) (by omega)]
    by_cases e : cnt (nwB sel (kyS hs hg)) i = u
    · subst e
      have hno : ∀ s, s < i → (sel s && decide (uoF sel (kyS hs hg) s = cnt (nwB sel (kyS hs hg)) i)) = false := fun s hs2 => by
        cases e2 : sel s
        · rfl
        · have := (uo_ok (ky := kyS hs hg) e2 hs2).1
          rw [decide_eq_false (by omega)]
          rfl
      rw [wd_lo hα, wd_hi hα, zu_ne (fun e => by omega), zu_ne (fun e => by omega), zu_ne (fun e => by omega), zu_ne (fun e => by omega), cl_lo hα, cl_hi hα, lwF_t (by rw [hsl, hu, decide_eq_true rfl]; rfl), hgF_t (by rw [hsl, hu, decide_eq_true rfl]; rfl), lwF_no hno, hgF_no hno]
      exact ⟨rfl, rfl⟩
    · rw [wd_o (by omega), wd_o (by omega), zu_ne (fun e => by omega), zu_ne (fun e => by omega), zu_ne (fun e => by omega), zu_ne (fun e => by omega), cl_o (by omega), cl_o (by omega), zu_ne (fun e => by omega), zu_ne (fun e => by omega), zu_ne (fun e => by omega), zu_ne (fun e => by omega), lwF_f (by rw [hu, decide_eq_false e, Bool.and_false]), hgF_f (by rw [hu, decide_eq_false e, Bool.and_false])]
      exact h4 u (by omega) α hα
  · rw [wd_lo hα, wd_hi hα, wd_o (by omega), wd_o (by omega), zu_ne (fun e => by omega), zu_ne (fun e => by omega), zu_ne (fun e => by omega), zu_ne (fun e => by omega), cl_o (by omega), cl_o (by omega), zu_ne (fun e => by omega), zu_ne (fun e => by omega), zu_ne (fun e => by omega), zu_ne (fun e => by omega), (h5 α hα).1, (h5 α hα).2, lwF_t hsl, hgF_t hsl]
    exact ⟨rfl, rfl⟩
theorem m_gathers (hN : 30 < N) (hS : QS n th G (M 1)) (hC : QC th sel G (M 1)) (hH : QH th sel hs hg gt G (M 1)) : ∃ M', f_X12_gathers TM N (M, rfM) 0 = some (M', rfM) ∧ GI G sel hs hg 20 M' ∧ ∀ a j, ¬ (a = 0 ∧ j = 11) → ¬ (5 ≤ a ∧ a ≤ 9) → M' a j = M a j := by
  unfold f_X12_gathers
  rw [zz1_of TM_0, pI_of TM_0, Option.bind_some, show (20 : Int32) = nI 20 from rfl, m_clears (by omega) (by omega), Option.bind_some]
  refine zl2_inv (P := fun r => ∃ M' : Nat → Nat → Int32, r = some (M', rfM) ∧ GI G sel hs hg 20 M' ∧ ∀ a j, ¬ (a = 0 ∧ j = 11) → ¬ (5 ≤ a ∧ a ≤ 9) → M' a j = M a j) 20
    (fun i (x : Int32) st => x = nI i ∧ ∃ M' : Nat → Nat → Int32, st = (M', rfM) ∧ GI G sel hs hg i M' ∧ ∀ a j, ¬ (a = 0 ∧ j = 11) → ¬ (5 ≤ a ∧ a ≤ 9) → M' a j = M a j) ?_ ?_ 20 0 N (0 : Int32) _ rfl (by omega) ⟨nI_0.symm, _, rfl, ⟨?_, fun u h => (by cases h), fun s h => (by cases h), fun u h => (by cases h), fun α hα => ⟨cl_lo hα, cl_hi hα⟩⟩, fun a j h1 h2 => ?_⟩
  · rintro i hi x st ⟨rfl, M1, rfl, hG, hB⟩
    have e1 : M1 1 = M 1 := funext (fun j => hB _ _ (by omega) (by omega))
    have hS1 : QS n th G (M1 1) := by rw [e1]; exact hS
    have hC1 : QC th sel G (M1 1) := by rw [e1]; exact hC
    have hH1 : QH th sel hs hg gt G (M1 1) := by rw [e1]; exact hH
    refine Or.inl ?_
    by_cases hsl : sel i = true
    · have ht := hC.ct i hi hsl
      obtain ⟨hk, r, hr⟩ := QH_K hH1
      have h8 : ∀ g, unO hs hg i = some g → g < 8 := fun g e => (unO_8 hH hi ht e).1
      have hcl := cnt_le (nwB sel (kyS hs hg)) i
      have hf : ∀ (M2 : Nat → Nat → Int32), (∀ j, M2 1 j = M1 1 j) → ∀ j, 2 ≤ j → j < 6 → M2 1 (10 + 8 * i + j) = G (4 + i) j := fun M2 h j j1 j2 => by rw [h]; exact hS1.fV i hi ht j (by omega) j2
      have hJ112 : ∀ (M2 : Nat → Nat → Int32) (u : Nat) (k : Int32 → zS → Option zS), u < 20 → (∀ j, M2 1 j = M1 1 j) → f_X12_gathers_J112 TM N 0 (nI i) k (nI u) (M2, rfM) = k (nI (i + 1)) (wdM G 20 i 1 (wdM G 20 i 0 (wdM G u i 1 (wdM G u i 0 (zu M2 9 i (nI u))))), rfM) := fun M2 u k hu h => by
        unfold f_X12_gathers_J112
        rw [gm10, Option.bind_some, sI_of TM_9 ML_9 hi (by decide), Option.bind_some, m_widens (G := G) (by omega) (by omega) hi (hf _ (fun j => by rw [zu_cell (by decide), h])), Option.bind_some, show (20 : Int32) = nI 20 from rfl, m_widens (G := G) (by omega) (by omega) hi (hf _ (fun j => by rw [wd_o (by omega), zu_cell (by decide), h])), Option.bind_some, zn_eq, nI_1]
      have hin : ∀ k : Int32 → zS → Option zS, zl1 (f_X12_gathers_L35 TM N 0 (nI i) k (M1, rfM) (hJ (unO hs hg i))) N (0 : Int32) = f_X12_gathers_J65 TM N 0 (nI i) k (M1, rfM) (hJ (unO hs hg i)) (nI (uoF sel (kyS hs hg) i)) := fun k => by
        have hle := uo_le (sel := sel) (ky := kyS hs hg) (i := i)
        refine zl1_end (uoF sel (kyS hs hg) i) (fun u => nI u) nI_0.symm (by omega) (fun u hu kk => ?_) (fun kk => ?_)
        · have hne := uo_lt u hu
          have hus := us_ok (sel := sel) (ky := kyS hs hg) (i := i) (u := u) (by omega)
          have htu := hC.ct _ (by omega) (nw_sel hus.2.1)
          unfold f_X12_gathers_L35
          rw [gI_of TM_0, hG.1, Option.bind_some, if_neg (nI_ge (by omega) (by omega))]
          cases eu : unO hs hg i with
          | none => rw [if_pos (show hJ none < 0 by decide), zn_eq, nI_1]
          | some g =>
            have hg8 := h8 g eu
            rw [if_neg (show ¬ hJ (some g) < 0 from nI_pos (by omega)), gm6, Option.bind_some, aI_of TM_5 ML_5 (show u < 20 by omega) (by decide), Option.bind_some, (hG.2.1 u (by omega)).1, if_neg, zn_eq, nI_1]
            intro e
            apply hne
            rw [kyS_g eu]
            cases ev : unO hs hg (usF sel (kyS hs hg) i u) with
            | none =>
              rw [ev] at e
              have e : (0 : Int32) = nI g + 1 := e
              rw [nI_1] at e
              exact absurd e.symm (nI_ne0 (by omega) (by omega))
            | some g2 =>
              rw [ev] at e
              have e : nI (g2 + 1) = nI g + 1 := e
              have hg28 := (unO_8 hH (by omega) htu ev).1
              rw [nI_1] at e
              rw [kyS_g ev]
              have := (nI_eq (by omega) (by omega)).mp e
              omega
        · unfold f_X12_gathers_L35
          rw [gI_of TM_0, hG.1, Option.bind_some]
          by_cases hn : nwB sel (kyS hs hg) i = true
          · rw [uo_new hn, if_pos (nI_le (Nat.le_refl _) (by omega))]
          · obtain ⟨hu, hkey⟩ := uo_old (ky := kyS hs hg) hsl hn
            have hus := us_ok (sel := sel) (ky := kyS hs hg) (i := i) hu
            have htu := hC.ct _ (by omega) (nw_sel hus.2.1)
            rw [if_neg (nI_ge hu (by omega))]
            cases eu : unO hs hg i with
            | none =>
              exfalso
              rw [kyS_n eu] at hkey
              cases ev : unO hs hg (usF sel (kyS hs hg) i (uoF sel (kyS hs hg) i)) with
              | none => rw [kyS_n ev] at hkey; omega
              | some g2 =>
                have := (unO_8 hH (by omega) htu ev).1
                rw [kyS_g ev] at hkey
                omega
            | some g =>
              have hg8 := h8 g eu
              rw [if_neg (show ¬ hJ (some g) < 0 from nI_pos (by omega)), gm6, Option.bind_some, aI_of TM_5 ML_5 (show uoF sel (kyS hs hg) i < 20 by omega) (by decide), Option.bind_some, (hG.2.1 _ hu).1, if_pos]
              rw [kyS_g eu] at hkey
              cases ev : unO hs hg (usF sel (kyS hs hg) i (uoF sel (kyS hs hg) i)) with
              | none => rw [kyS_n ev] at hkey; omega
              | some g2 =>
                rw [kyS_g ev] at hkey
                show nI (g2 + 1) = nI g + 1
                rw [hkey, nI_1]
      by_cases hn : nwB sel (kyS hs hg) i = true
      · have hu := uo_new hn
        refine ⟨_, _, ⟨rfl, _, rfl, GI_new hi hn hG (v := hM (unO hs hg i)) rfl, fun a j h1 h2 => ?_⟩, fun k => ?_⟩
        · rw [wd_o (by omega), wd_o (by omega), zu_ne (fun e => by omega), zu_ne (fun e e2 => h1 ⟨e, e2⟩), cl_o (by omega), zu_ne (fun e => by omega), zu_ne (fun e => by omega), hB a j h1 h2]
        · unfold f_X12_gathers_L13
          rw [if_neg (nI_n20 hi), m_isSelected (G := G) hi hS1 hC1, zb2_some, hsl, if_neg (by decide), m_outermost (by omega) hk hr hi (fun g e => hH.sg i hi ht g e) (hH1.sV i hi ht), zb2_some]
          show zl1 (f_X12_gathers_L35 TM N 0 (nI i) k (M1, rfM) (hJ (unO hs hg i))) N (0 : Int32) = _
          rw [hin k]
          have hJ89 : ∀ z : Int32, z = hM (unO hs hg i) → f_X12_gathers_J89 TM N 0 (nI i) k (M1, rfM) (nI (uoF sel (kyS hs hg) i)) 5 z = f_X12_gathers_J112 TM N 0 (nI i) k (nI (uoF sel (kyS hs hg) i)) (zu (clM (uoF sel (kyS hs hg) i) (zu (zu M1 5 (uoF sel (kyS hs hg) i) (hM (unO hs hg i))) 6 (uoF sel (kyS hs hg) i) (nI i))) 0 11 (nI (cnt (nwB sel (kyS hs hg)) i + 1)), rfM) := fun z hz => by
            unfold f_X12_gathers_J89
            rw [sI_of TM_5 ML_5 (show uoF sel (kyS hs hg) i < 20 by omega) (by decide), Option.bind_some, gm7, Option.bind_some, sI_of TM_6 ML_6 (show uoF sel (kyS hs hg) i < 20 by omega) (by decide), Option.bind_some, m_clears (by omega) (by omega), Option.bind_some, gI_of TM_0, cl_o (by omega), zu_ne (fun e => by omega), zu_ne (fun e => by omega), hG.1, Option.bind_some, pI_of TM_0, Option.bind_some, nI_1, hz]
          unfold f_X12_gathers_J65
          rw [gI_of TM_0, hG.1, Option.bind_some, hu, if_neg (fun n => n rfl), gm6, Option.bind_some, ← hu]
          have hz := hJ_1 h8
          by_cases h0 : 0 ≤ hJ (unO hs hg i)
          · rw [if_pos h0] at hz ⊢
            rw [hJ89 _ hz, hJ112 _ _ k (by omega) (fun j => by rw [zu_cell (by decide), cl_o (by omega), zu_cell (by decide), zu_cell (by decide)]), hu]
          · rw [if_neg h0] at hz ⊢
            rw [hJ89 _ hz, hJ112 _ _ k (by omega) (fun j => by rw [zu_cell (by decide), cl_o (by omega), zu_cell (by decide), zu_cell (by decide)]), hu]
      · obtain ⟨hu, -⟩ := uo_old (ky := kyS hs hg) hsl hn
        refine ⟨_, _, ⟨rfl, _, rfl, GI_old hi hsl hn hG, fun a j h1 h2 => ?_⟩, fun k => ?_⟩
        · rw [wd_o (by omega), wd_o (by omega), zu_ne (fun e => by omega), hB a j h1 h2]
        · unfold f_X12_gathers_L13
          rw [if_neg (nI_n20 hi), m_isSelected (G := G) hi hS1 hC1, zb2_some, hsl, if_neg (by decide), m_outermost (by omega) hk hr hi (fun g e => hH.sg i hi ht g e) (hH1.sV i hi ht), zb2_some]
          show zl1 (f_X12_gathers_L35 TM N 0 (nI i) k (M1, rfM) (hJ (unO hs hg i))) N (0 : Int32) = _
          rw [hin k]
          unfold f_X12_gathers_J65
          rw [gI_of TM_0, hG.1, Option.bind_some, if_pos (show ¬ nI (uoF sel (kyS hs hg) i) = nI (cnt (nwB sel (kyS hs hg)) i) from fun e => by have := (nI_eq (by omega) (by omega)).mp e; omega), hJ112 _ _ k (by omega) (fun j => rfl)]
    · have hsl2 : sel i = false := by simpa using hsl
      have hn : ¬ nwB sel (kyS hs hg) i = true := fun h => hsl (nw_sel h)
      refine ⟨nI (i + 1), (M1, rfM), ⟨rfl, M1, rfl, ?_, hB⟩, fun k => ?_⟩
      · obtain ⟨h1, h2, h3, h4, h5⟩ := hG
        unfold GI
        rw [cnt_f hn]
        refine ⟨h1, fun u hu => by rw [us_f hn]; exact h2 u hu, fun s hs2 hss => ?_, fun u hu α hα => by rw [lwF_f (by rw [hsl2]; rfl), hgF_f (by rw [hsl2]; rfl)]; exact h4 u hu α hα, fun α hα => by rw [lwF_f hsl2, hgF_f hsl2]; exact h5 α hα⟩
        by_cases e : s = i
        · rw [e] at hss; exact absurd hss hsl
        · exact h3 s (by omega) hss
      · unfold f_X12_gathers_L13
        rw [if_neg (nI_n20 hi), m_isSelected (G := G) hi hS1 hC1, zb2_some, hsl2, if_pos (by decide), zn_eq, nI_1]
  · rintro x st ⟨rfl, M1, rfl, hG, hB⟩ k
    refine ⟨M1, ?_, hG, hB⟩
    unfold f_X12_gathers_L13
    rw [if_pos (nI_20 (Nat.le_refl 20) (by decide))]
  · show clM 20 (zu M 0 11 0) 0 11 = nI (cnt (nwB sel (kyS hs hg)) 0)
    rw [cl_o (by omega), zu_same]
    exact nI_0.symm
  · rw [cl_o (by omega), zu_ne (fun e e2 => h1 ⟨e, e2⟩)]
end GTH
