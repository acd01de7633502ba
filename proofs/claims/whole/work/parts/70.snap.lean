/-! snapping: both sides keep the same best aim -/
def abv (x : Int32) : Int32 := if 0 ≤ x then x else 0 - x
theorem abv_m {x : Int32} {ρ : Type} {F : Int32 → ρ} : (if 0 ≤ x then F x else F (-x)) = F (abv x) := by
  unfold abv
  by_cases h : 0 ≤ x
  · rw [if_pos h, if_pos h]
  · rw [if_neg h, if_neg h, Int32.zero_sub]
/-- the best aim so far and an offer -/
def stp (tol : Int32) (w : Int32 × Int32) (k x : Int32) : Int32 × Int32 := if tol < abv x then w else if k ≤ w.1 then (if k < w.1 then (k, x) else if abv x < abv w.2 then (k, x) else if ¬ abv x = abv w.2 then w else if w.2 ≤ x then w else (k, x)) else w
def CG (G : Nat → Nat → Int32) (w : Int32 × Int32) : Nat → Nat → Int32 := zu (zu G 373 0 w.1) 373 1 w.2
def MG (M : Nat → Nat → Int32) (w : Int32 × Int32) : Nat → Nat → Int32 := zu (zu M 0 14 w.1) 0 15 w.2
theorem zu_four {F : Nat → Nat → Int32} {c i j : Nat} {a b x y : Int32} (h : i ≠ j) : zu (zu (zu (zu F c i a) c j b) c i x) c j y = zu (zu F c i x) c j y := by
  funext d k
  by_cases h1 : d = c
  · subst h1
    by_cases h2 : k = j
    · subst h2
      rw [zu_same, zu_same]
    · by_cases h3 : k = i
      · subst h3
        rw [zu_ne (fun _ => h2), zu_same, zu_ne (fun _ => h2), zu_same]
      · rw [zu_ne (fun _ => h2), zu_ne (fun _ => h3), zu_ne (fun _ => h2), zu_ne (fun _ => h3), zu_ne (fun _ => h2), zu_ne (fun _ => h3)]
  · rw [zu_cell h1, zu_cell h1, zu_cell h1, zu_cell h1, zu_cell h1, zu_cell h1]
theorem CG_CG {G : Nat → Nat → Int32} {w : Int32 × Int32} {k x : Int32} : zu (zu (CG G w) 373 0 k) 373 1 x = CG G (k, x) := zu_four (by decide)
theorem MG_MG {M : Nat → Nat → Int32} {w : Int32 × Int32} {k x : Int32} : zu (zu (MG M w) 0 14 k) 0 15 x = MG M (k, x) := zu_four (by decide)
theorem CG_0 {G : Nat → Nat → Int32} {w : Int32 × Int32} : CG G w 373 0 = w.1 := by unfold CG; rw [zu_ne (fun _ => by decide), zu_same]
theorem CG_1 {G : Nat → Nat → Int32} {w : Int32 × Int32} : CG G w 373 1 = w.2 := zu_same
theorem CG_o {G : Nat → Nat → Int32} {w : Int32 × Int32} {a j : Nat} (h : ¬ (a = 373 ∧ j < 2)) : CG G w a j = G a j := by unfold CG; rw [zu_ne (fun e => by omega), zu_ne (fun e => by omega)]
theorem MG_0 {M : Nat → Nat → Int32} {w : Int32 × Int32} : MG M w 0 14 = w.1 := by unfold MG; rw [zu_ne (fun _ => by decide), zu_same]
theorem MG_1 {M : Nat → Nat → Int32} {w : Int32 × Int32} : MG M w 0 15 = w.2 := zu_same
theorem MG_o {M : Nat → Nat → Int32} {w : Int32 × Int32} {a j : Nat} (h : ¬ (a = 0 ∧ (j = 14 ∨ j = 15))) : MG M w a j = M a j := by unfold MG; rw [zu_ne (fun e => by omega), zu_ne (fun e => by omega)]
section SNP
variable {G M : Nat → Nat → Int32} {q : Nat → Option Nat} {N : Nat} {n c ln : Nat} {th sel gt : Nat → Bool} {p : Nat → Nat} {hs hg : Nat → Option Nat} {ρ : Nat → Nat → Option Nat} {V : Nat → Int32} {s t a b y k o d u α : Nat} {w : Int32 × Int32} {tol x z : Int32}
theorem e_isNearer : f_X8_isNearer TC N (G, rfC q) 373 x = some (if abv x < abv (G 373 1) then 1 else if ¬ abv x = abv (G 373 1) then 0 else if G 373 1 ≤ x then 0 else 1, (G, rfC q)) := by
  unfold f_X8_isNearer
  rw [zz1_of TC_373, zn_eq, show (if 0 ≤ x then x else 0 - x) = abv x from rfl, gI_of TC_373, Option.bind_some, zn_eq, show (if 0 ≤ G 373 1 then G 373 1 else 0 - G 373 1) = abv (G 373 1) from rfl]
  by_cases h1 : abv x < abv (G 373 1)
  · rw [if_pos h1, if_pos h1, rZ_1]
  · rw [if_neg h1, if_neg h1]
    by_cases h2 : abv x = abv (G 373 1)
    · rw [if_neg (fun n => n h2), if_neg (fun n => n h2), Option.bind_some]
      by_cases h3 : G 373 1 ≤ x
      · rw [if_pos h3, if_pos h3, rZ_0]
      · rw [if_neg h3, if_neg h3, rZ_1]
    · rw [if_pos h2, if_pos h2, rZ_0]
theorem e_offer (ht : G 373 2 = tol) : f_X8_offer TC N (CG G w, rfC q) 373 z x = some (CG G (stp tol w z x), rfC q) := by
  unfold f_X8_offer stp
  rw [zz1_of TC_373, zn_eq, show (if 0 ≤ x then x else 0 - x) = abv x from rfl, gI_of TC_373, CG_o (by omega), ht, Option.bind_some]
  by_cases h1 : tol < abv x
  · rw [if_pos h1, if_pos h1]
  rw [if_neg h1, if_neg h1, gI_of TC_373, CG_0, Option.bind_some]
  by_cases h2 : z ≤ w.1
  · rw [if_pos h2, if_pos h2, Option.bind_some]
    by_cases h3 : z < w.1
    · rw [if_pos h3, if_pos h3, pI_of TC_373, Option.bind_some, pI_of TC_373, Option.bind_some, CG_CG]
    · rw [if_neg h3, if_neg h3, e_isNearer, zb2_some, CG_1]
      by_cases h4 : abv x < abv w.2
      · rw [if_pos h4, if_pos h4, if_neg (by decide), pI_of TC_373, Option.bind_some, pI_of TC_373, Option.bind_some, CG_CG]
      · rw [if_neg h4, if_neg h4]
        by_cases h5 : abv x = abv w.2
        · rw [if_neg (show ¬ ¬ abv x = abv w.2 from fun n => n h5), if_neg (show ¬ ¬ abv x = abv w.2 from fun n => n h5)]
          by_cases h6 : w.2 ≤ x
          · rw [if_pos h6, if_pos h6, if_pos rfl]
          · rw [if_neg h6, if_neg h6, if_neg (by decide), pI_of TC_373, Option.bind_some, pI_of TC_373, Option.bind_some, CG_CG]
        · rw [if_pos h5, if_pos h5, if_pos rfl]
  · rw [if_neg h2, if_neg h2]
theorem m_aims (ht : M 1 5 = tol) : f_X12_aims TM N (MG M w, rfM) 0 z x = some (MG M (stp tol w z x), rfM) := by
  unfold f_X12_aims
  rw [zz1_of TM_0, abv_m]
  unfold f_X12_aims_J10
  simp only [gI_of TM_0, Option.bind_some, MG_1]
  rw [abv_m (F := fun z2 => f_X12_aims_J30 TM N (MG M w, rfM) 0 z x (abv x) z2)]
  unfold f_X12_aims_J30 stp
  simp only [g_v, Option.bind_some, v5_]
  rw [MG_o (by omega), ht]
  by_cases h1 : tol < abv x
  · rw [if_pos h1, if_pos h1]
  rw [if_neg h1, if_neg h1, gI_of TM_0, MG_0, Option.bind_some]
  by_cases h2 : z ≤ w.1
  · rw [if_pos h2, if_pos h2, Option.bind_some]
    by_cases h3 : z < w.1
    · rw [if_pos h3, if_pos h3, pI_of TM_0, Option.bind_some, pI_of TM_0, Option.bind_some, MG_MG]
    · rw [if_neg h3, if_neg h3]
      by_cases h4 : abv x < abv w.2
      · rw [if_pos h4, if_pos h4, pI_of TM_0, Option.bind_some, pI_of TM_0, Option.bind_some, MG_MG]
      · rw [if_neg h4, if_neg h4]
        by_cases h5 : abv x = abv w.2
        · rw [if_neg (fun n => n h5), if_neg (fun n => n h5), gI_of TM_0, MG_1, Option.bind_some]
          by_cases h6 : w.2 ≤ x
          · rw [if_pos h6, if_pos h6]
          · rw [if_neg h6, if_neg h6, pI_of TM_0, Option.bind_some, pI_of TM_0, Option.bind_some, MG_MG]
        · rw [if_pos h5, if_pos h5]
  · rw [if_neg h2, if_neg h2]
end SNP
