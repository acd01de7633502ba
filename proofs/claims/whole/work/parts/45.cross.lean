/-! a line and a rectangle: the class's side -/
/-- the line from (ax, ay) to (bx, bz) has a point inside the rectangle -/
def crB (ax ay bx bz L R T B : Int) : Bool := decide (¬ (ax ≤ L ∧ bx ≤ L) ∧ ¬ (R ≤ ax ∧ R ≤ bx) ∧ ¬ (ay ≤ T ∧ bz ≤ T) ∧ ¬ (B ≤ ay ∧ B ≤ bz) ∧ (ax = bx ∨ ay = bz ∨
  (((bx - ax) * (T - ay) < (bz - ay) * (L - ax) ∨ (bx - ax) * (T - ay) < (bz - ay) * (R - ax) ∨ (bx - ax) * (B - ay) < (bz - ay) * (L - ax) ∨ (bx - ax) * (B - ay) < (bz - ay) * (R - ax)) ∧
   ((bz - ay) * (L - ax) < (bx - ax) * (T - ay) ∨ (bz - ay) * (R - ax) < (bx - ax) * (T - ay) ∨ (bz - ay) * (L - ax) < (bx - ax) * (B - ay) ∨ (bz - ay) * (R - ax) < (bx - ax) * (B - ay)))))
theorem mulb {a b : Int} (h1 : -30000 ≤ a) (h2 : a ≤ 30000) (h3 : -30000 ≤ b) (h4 : b ≤ 30000) : -900000000 ≤ a * b ∧ a * b ≤ 900000000 := by
  have ha : a.natAbs ≤ 30000 := by omega
  have hb : b.natAbs ≤ 30000 := by omega
  have h := Nat.mul_le_mul ha hb
  rw [← Int.natAbs_mul] at h
  omega
theorem mul64 {a b : Int64} (h1 : -30000 ≤ a.toInt) (h2 : a.toInt ≤ 30000) (h3 : -30000 ≤ b.toInt) (h4 : b.toInt ≤ 30000) : (a * b).toInt = a.toInt * b.toInt := by
  have := mulb h1 h2 h3 h4
  exact Jvm.Kit.i64_mul (by omega) (by omega)
theorem mn64 (a b : Int64) : (if b < a then b else a).toInt = min a.toInt b.toInt := by
  by_cases h : b < a
  · rw [if_pos h]; rw [fa_lt64] at h; omega
  · rw [if_neg h]; rw [fa_lt64] at h; omega
theorem mx64 (a b : Int64) : (if b < a then a else b).toInt = max a.toInt b.toInt := by
  by_cases h : b < a
  · rw [if_pos h]; rw [fa_lt64] at h; omega
  · rw [if_neg h]; rw [fa_lt64] at h; omega
theorem mx_le (a b c : Int32) : (if a < b then b else a) ≤ c ↔ a.toInt ≤ c.toInt ∧ b.toInt ≤ c.toInt := by
  by_cases h : a < b
  · rw [if_pos h, fa_le]; rw [fa_lt] at h; omega
  · rw [if_neg h, fa_le]; rw [fa_lt] at h; omega
theorem mn_lt (a b c : Int32) : (if b < a then b else a) < c ↔ ¬ (c.toInt ≤ a.toInt ∧ c.toInt ≤ b.toInt) := by
  by_cases h : b < a
  · rw [if_pos h, fa_lt]; rw [fa_lt] at h; omega
  · rw [if_neg h, fa_lt]; rw [fa_lt] at h; omega
section CRS
variable {G M : Nat → Nat → Int32} {q : Nat → Option Nat} {N : Nat} {ρ : Nat → Nat → Option Nat} {s k c : Nat} {x1 x2 x3 x4 : Int32}
/-- the fields of the shape in cell c -/
def Rct (G : Nat → Nat → Int32) (c : Nat) : Prop := (∀ j, 2 ≤ j → j < 4 → -10000 ≤ (G c j).toInt ∧ (G c j).toInt ≤ 10000) ∧ ∀ j, 4 ≤ j → j < 6 → 1 ≤ (G c j).toInt ∧ (G c j).toInt ≤ 500
theorem Rct_end (h : Rct G c) {α : Nat} (hα : α < 2) : (G c (2 + α) + G c (4 + α)).toInt = (G c (2 + α)).toInt + (G c (4 + α)).toInt := by
  have b2 := h.1 (2 + α) (by omega) (by omega)
  have b3 := h.2 (4 + α) (by omega) (by omega)
  exact Jvm.Kit.i32_add (by omega) (by omega)
theorem ee0 (hc : TC.1 c = 6) : f_X6_end TC N (G, ρ) c (0 : Int32) = some (G c 2 + G c 4, (G, ρ)) := e_end (α := 0) hc (by omega)
theorem ee1 (hc : TC.1 c = 6) : f_X6_end TC N (G, ρ) c (1 : Int32) = some (G c 3 + G c 5, (G, ρ)) := e_end (α := 1) hc (by omega)
theorem bIif {b : Bool} {σ : zS} : (if bI b = 0 then rZ 0 σ else rZ 1 σ) = some (bI b, σ) := by cases b <;> rfl
theorem e_corners (hc : TC.1 c = 6) (hF : Rct G c) (b1 : Bd x1) (b2 : Bd x2) (b3 : Bd x3) (b4 : Bd x4) {L R T B : Int} (eL : (G c 2).toInt = L) (eT : (G c 3).toInt = T) (eR : (G c 2 + G c 4).toInt = R) (eB : (G c 3 + G c 5).toInt = B) :
    f_X6_hasCornersOnBothSides TC N (G, ρ) c x1 x2 x3 x4 = some (bI (decide (((x3.toInt - x1.toInt) * (T - x2.toInt) < (x4.toInt - x2.toInt) * (L - x1.toInt) ∨ (x3.toInt - x1.toInt) * (T - x2.toInt) < (x4.toInt - x2.toInt) * (R - x1.toInt) ∨ (x3.toInt - x1.toInt) * (B - x2.toInt) < (x4.toInt - x2.toInt) * (L - x1.toInt) ∨ (x3.toInt - x1.toInt) * (B - x2.toInt) < (x4.toInt - x2.toInt) * (R - x1.toInt)) ∧
   ((x4.toInt - x2.toInt) * (L - x1.toInt) < (x3.toInt - x1.toInt) * (T - x2.toInt) ∨ (x4.toInt - x2.toInt) * (R - x1.toInt) < (x3.toInt - x1.toInt) * (T - x2.toInt) ∨ (x4.toInt - x2.toInt) * (L - x1.toInt) < (x3.toInt - x1.toInt) * (B - x2.toInt) ∨ (x4.toInt - x2.toInt) * (R - x1.toInt) < (x3.toInt - x1.toInt) * (B - x2.toInt)))), (G, ρ)) := by
  have f2 := hF.1 2 (by omega) (by omega)
  have f3 := hF.1 3 (by omega) (by omega)
  have f4 := hF.2 4 (by omega) (by omega)
  have f5 := hF.2 5 (by omega) (by omega)
  have g0 : (G c 2 + G c 4).toInt = (G c 2).toInt + (G c 4).toInt := Rct_end hF (α := 0) (by omega)
  have g1 : (G c 3 + G c 5).toInt = (G c 3).toInt + (G c 5).toInt := Rct_end hF (α := 1) (by omega)
  unfold Bd at b1 b2 b3 b4
  have s31 : (x3 - x1).toInt = x3.toInt - x1.toInt := Jvm.Kit.i32_sub (by omega) (by omega)
  have s42 : (x4 - x2).toInt = x4.toInt - x2.toInt := Jvm.Kit.i32_sub (by omega) (by omega)
  have sL : (G c 2 - x1).toInt = L - x1.toInt := by rw [Jvm.Kit.i32_sub (by omega) (by omega), eL]
  have sR : (G c 2 + G c 4 - x1).toInt = R - x1.toInt := by rw [Jvm.Kit.i32_sub (by omega) (by omega), eR]
  have sT : (G c 3 - x2).toInt = T - x2.toInt := by rw [Jvm.Kit.i32_sub (by omega) (by omega), eT]
  have sB : (G c 3 + G c 5 - x2).toInt = B - x2.toInt := by rw [Jvm.Kit.i32_sub (by omega) (by omega), eB]
  have mm : ∀ u v : Int32, -30000 ≤ u.toInt → u.toInt ≤ 30000 → -30000 ≤ v.toInt → v.toInt ≤ 30000 → (u.toInt64 * v.toInt64).toInt = u.toInt * v.toInt := fun u v h1 h2 h3 h4 => by
    have := mul64 (a := u.toInt64) (b := v.toInt64) (by rw [Int32.toInt_toInt64]; exact h1) (by rw [Int32.toInt_toInt64]; exact h2) (by rw [Int32.toInt_toInt64]; exact h3) (by rw [Int32.toInt_toInt64]; exact h4)
    rw [Int32.toInt_toInt64, Int32.toInt_toInt64] at this
    exact this
  have p1 := mm (x4 - x2) (G c 2 - x1) (by omega) (by omega) (by omega) (by omega)
  have p2 := mm (x4 - x2) (G c 2 + G c 4 - x1) (by omega) (by omega) (by omega) (by omega)
  have t1 := mm (x3 - x1) (G c 3 - x2) (by omega) (by omega) (by omega) (by omega)
  have t2 := mm (x3 - x1) (G c 3 + G c 5 - x2) (by omega) (by omega) (by omega) (by omega)
  have q1 := mulb (a := (x4 - x2).toInt) (b := (G c 2 - x1).toInt) (by omega) (by omega) (by omega) (by omega)
  have q2 := mulb (a := (x4 - x2).toInt) (b := (G c 2 + G c 4 - x1).toInt) (by omega) (by omega) (by omega) (by omega)
  have r1 := mulb (a := (x3 - x1).toInt) (b := (G c 3 - x2).toInt) (by omega) (by omega) (by omega) (by omega)
  have r2 := mulb (a := (x3 - x1).toInt) (b := (G c 3 + G c 5 - x2).toInt) (by omega) (by omega) (by omega) (by omega)
  rw [← p1] at q1
  rw [← p2] at q2
  rw [← t1] at r1
  rw [← t2] at r2
  rw [s42, sL] at p1
  rw [s42, sR] at p2
  rw [s31, sT] at t1
  rw [s31, sB] at t2
  rw [← p1, ← p2, ← t1, ← t2]
  unfold f_X6_hasCornersOnBothSides
  rw [zz1_of hc, zn_eq, zn_eq, gI_of hc, Option.bind_some, zn_eq, ee0 hc, zb2_some, zn_eq, gI_of hc, Option.bind_some, zn_eq, ee1 hc, zb2_some, zn_eq, zn_eq, zn_eq, zn_eq, zn_eq, zn_eq, zn_eq]
  show (if 0 ≤ lg_cmp _ 0 then _ else _) = _
  simp only [lg_cmp_ge, lg_cmp_le, fa_le64]
  generalize (x4 - x2).toInt64 * (G c 2 - x1).toInt64 = P1 at *
  generalize (x4 - x2).toInt64 * (G c 2 + G c 4 - x1).toInt64 = P2 at *
  generalize (x3 - x1).toInt64 * (G c 3 - x2).toInt64 = T1 at *
  generalize (x3 - x1).toInt64 * (G c 3 + G c 5 - x2).toInt64 = T2 at *
  have e0 : (0 : Int64).toInt = 0 := by decide
  have w1 : ((if T2 < T1 then T2 else T1) - (if P2 < P1 then P1 else P2)).toInt = min T1.toInt T2.toInt - max P1.toInt P2.toInt := by
    rw [Jvm.Kit.i64_sub (by rw [mn64, mx64]; omega) (by rw [mn64, mx64]; omega), mn64, mx64]
  have w2 : ((if T2 < T1 then T1 else T2) - (if P2 < P1 then P2 else P1)).toInt = max T1.toInt T2.toInt - min P1.toInt P2.toInt := by
    rw [Jvm.Kit.i64_sub (by rw [mn64, mx64]; omega) (by rw [mn64, mx64]; omega), mn64, mx64]
  by_cases h1 : 0 ≤ min T1.toInt T2.toInt - max P1.toInt P2.toInt
  · rw [if_pos (by rw [e0]; exact le_of_le_of_eq h1 w1.symm), decide_eq_false (by omega)]
    rfl
  · rw [if_neg (by rw [e0]; intro h; exact h1 (le_of_le_of_eq h w1))]
    by_cases h2 : max T1.toInt T2.toInt - min P1.toInt P2.toInt ≤ 0
    · rw [if_pos (by rw [e0]; exact le_of_eq_of_le w2 h2), decide_eq_false (by omega)]
      rfl
    · rw [if_neg (by rw [e0]; intro h; exact h2 (le_of_eq_of_le w2.symm h)), decide_eq_true (by omega)]
      rfl
theorem e_isCrossed (hc : TC.1 c = 6) (hF : Rct G c) (b1 : Bd x1) (b2 : Bd x2) (b3 : Bd x3) (b4 : Bd x4) :
    f_X6_isCrossed TC N (G, ρ) c x1 x2 x3 x4 = some (bI (crB x1.toInt x2.toInt x3.toInt x4.toInt (G c 2).toInt (G c 2 + G c 4).toInt (G c 3).toInt (G c 3 + G c 5).toInt), (G, ρ)) := by
  unfold f_X6_isCrossed crB
  rw [zz1_of hc, zn_eq, gI_of hc, Option.bind_some]
  by_cases h1 : x1.toInt ≤ (G c 2).toInt ∧ x3.toInt ≤ (G c 2).toInt
  · rw [if_pos ((mx_le _ _ _).mpr h1), decide_eq_false (fun q => q.1 h1)]
    rfl
  · rw [if_neg (fun q => h1 ((mx_le _ _ _).mp q)), zn_eq, ee0 hc, zb2_some]
    by_cases h2 : (G c 2 + G c 4).toInt ≤ x1.toInt ∧ (G c 2 + G c 4).toInt ≤ x3.toInt
    · rw [if_neg (fun q => (mn_lt _ _ _).mp q h2), decide_eq_false (fun q => q.2.1 h2)]
      rfl
    · rw [if_pos ((mn_lt _ _ _).mpr h2), zn_eq, gI_of hc, Option.bind_some]
      by_cases h3 : x2.toInt ≤ (G c 3).toInt ∧ x4.toInt ≤ (G c 3).toInt
      · rw [if_pos ((mx_le _ _ _).mpr h3), decide_eq_false (fun q => q.2.2.1 h3)]
        rfl
      · rw [if_neg (fun q => h3 ((mx_le _ _ _).mp q)), zn_eq, ee1 hc, zb2_some]
        by_cases h4 : (G c 3 + G c 5).toInt ≤ x2.toInt ∧ (G c 3 + G c 5).toInt ≤ x4.toInt
        · rw [if_neg (fun q => (mn_lt _ _ _).mp q h4), decide_eq_false (fun q => q.2.2.2.1 h4)]
          rfl
        · rw [if_pos ((mn_lt _ _ _).mpr h4)]
          by_cases h5 : x1 = x3
          · rw [if_pos h5, decide_eq_true ⟨h1, h2, h3, h4, Or.inl (by rw [h5])⟩]
            rfl
          · rw [if_neg h5]
            by_cases h6 : x2 = x4
            · rw [if_pos h6, decide_eq_true ⟨h1, h2, h3, h4, Or.inr (Or.inl (by rw [h6]))⟩]
              rfl
            · rw [if_neg h6, e_corners hc hF b1 b2 b3 b4 rfl rfl rfl rfl, zb2_some]
              have h5' : ¬ x1.toInt = x3.toInt := fun e => h5 ((fa_eq _ _).mpr e)
              have h6' : ¬ x2.toInt = x4.toInt := fun e => h6 ((fa_eq _ _).mpr e)
              rw [bIif]
              exact congrArg (fun d => some (bI d, (G, ρ))) (decide_eq_decide.mpr ⟨fun h => ⟨h1, h2, h3, h4, Or.inr (Or.inr h)⟩, fun h => (h.2.2.2.2.resolve_left h5').resolve_left h6'⟩)
end CRS
