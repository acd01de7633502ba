/-! the units' ways: the class checks and shifts unit by unit -/
def uB (sel : Nat → Bool) (uo : Nat → Nat) (v s : Nat) : Bool := sel s && decide (uo s = v)
theorem uB_iff {sel : Nat → Bool} {uo : Nat → Nat} {v s : Nat} : uB sel uo v s = true ↔ sel s = true ∧ uo s = v := by
  unfold uB
  rw [Bool.and_eq_true, decide_eq_true_iff]
def UN (D : Nat → Nat → Int32) (sel : Nat → Bool) (uo o : Nat → Nat) (m : Nat) (w wy : Nat → Int32) : Prop :=
  m ≤ 20 ∧ D 370 2 = nI m ∧ (∀ i, i < m → D 371 i = mkS (uB sel uo (o i)) 20 ∧ D 372 i = w i) ∧ (∀ i j, i < m → j < m → o i = o j → i = j) ∧ (∀ s, s < 20 → sel s = true → ∃ i, i < m ∧ uo s = o i ∧ wy s = w i) ∧ ∀ s, s < 20 → sel s = false → wy s = 0
def axs (α β : Nat) (wy : Nat → Int32) (s : Nat) : Int32 := if α = β then wy s else 0
section WAY
variable {G M : Nat → Nat → Int32} {q : Nat → Option Nat} {N : Nat} {n c ln : Nat} {th sel gt : Nat → Bool} {p uo o : Nat → Nat} {hs hg : Nat → Option Nat} {ρ : Nat → Nat → Option Nat} {V w wy : Nat → Int32} {s t a b y k d u α m i : Nat} {x z : Int32}
theorem UN_w (h : UN G sel uo o m w wy) (hi : i < m) (hs : s < 20) (hb : uB sel uo (o i) s = true) : wy s = w i := by
  rw [uB_iff] at hb
  obtain ⟨j, j1, j2, j3⟩ := h.2.2.2.2.1 s hs hb.1
  rw [h.2.2.2.1 i j hi j1 (hb.2.symm.trans j2)]
  exact j3
theorem e_setOf (h : G 370 2 = nI m) (hm : m ≤ 20) (hi : i < m) : f_X10_setOf TC N (G, rfC q) 370 (nI i) = some (G 371 i, (G, rfC q)) := by
  unfold f_X10_setOf
  rw [zz1_of TC_370, if_neg (nI_pos (by omega)), gI_of TC_370, h, Option.bind_some, if_neg (nI_ge hi (by omega)), gR_of TC_370, rf_370_0, Option.bind_some, aL_of TC_371, TL_371, Option.bind_some, if_neg (nI_ge (show i < 20 by omega) (by decide)), Option.bind_some, aI_of TC_371 TL_371 (show i < 20 by omega) (by decide), Option.bind_some]
theorem e_wayOf (h : G 370 2 = nI m) (hm : m ≤ 20) (hi : i < m) : f_X10_wayOf TC N (G, rfC q) 370 (nI i) = some (G 372 i, (G, rfC q)) := by
  unfold f_X10_wayOf
  rw [zz1_of TC_370, if_neg (nI_pos (by omega)), gI_of TC_370, h, Option.bind_some, if_neg (nI_ge hi (by omega)), gR_of TC_370, rf_370_1, Option.bind_some, aL_of TC_372, TL_372, Option.bind_some, if_neg (nI_ge (show i < 20 by omega) (by decide)), Option.bind_some, aI_of TC_372 TL_372 (show i < 20 by omega) (by decide), Option.bind_some]
theorem e_putWay (hi : i < 20) : f_X10_putWay TC N (G, rfC q) 370 (nI i) x = some (zu G 372 i x, rfC q) := by
  unfold f_X10_putWay
  rw [zz1_of TC_370, if_neg (nI_pos (by omega)), gR_of TC_370, rf_370_1, Option.bind_some, aL_of TC_372, TL_372, Option.bind_some, if_neg (nI_ge hi (by decide)), Option.bind_some, sI_of TC_372 TL_372 hi (by decide), Option.bind_some]
theorem st_ax (hS : QS n th G V) (hα : α < 2) : allB (stB th G (axs α 0 wy) (axs α 1 wy)) 20 = true ↔ ∀ s, s < 20 → th s = true → wth (G (4 + s) (2 + α) + wy s) (-10000) 10000 = 1 := by
  have e1 : (-10000 : Int32).toInt = -10000 := by decide
  have e2 : (10000 : Int32).toInt = 10000 := by decide
  have hz : ∀ s j, s < 20 → th s = true → 2 ≤ j → j < 4 → wth (G (4 + s) j + 0) (-10000) 10000 = 1 := fun s j h1 h2 h3 h4 => by
    have := (hS.fD s h1 h2).2.1 j h3 h4
    rw [Int32.add_zero]
    refine wth1.mpr ⟨?_, ?_⟩
    · rw [fa_le, e1]; exact this.1
    · rw [fa_le, e2]; exact this.2
  rw [allB_iff]
  have hα2 : α = 0 ∨ α = 1 := by omega
  constructor
  · intro h s hs ht
    have h2 := h s hs
    unfold stB at h2
    rw [ht, Bool.not_true, Bool.false_or, Bool.and_eq_true, decide_eq_true_iff, decide_eq_true_iff] at h2
    rcases hα2 with rfl | rfl
    · exact h2.1
    · exact h2.2
  · intro h s hs
    unfold stB
    by_cases ht : th s = true
    · rw [ht, Bool.not_true, Bool.false_or, Bool.and_eq_true, decide_eq_true_iff, decide_eq_true_iff]
      rcases hα2 with rfl | rfl
      · exact ⟨h s hs ht, hz s 3 hs ht (by omega) (by omega)⟩
      · exact ⟨hz s 2 hs ht (by omega) (by omega), h s hs ht⟩
    · rw [eq_false_of_ne_true ht]
      rfl
theorem can_un (hS : QS n th G V) (hC : QC th sel G V) (hα : α < 2) (hU : UN G sel uo o m w wy) : (∀ i, i < m → canG G (G 371 i) α (G 372 i)) ↔ allB (stB th G (axs α 0 wy) (axs α 1 wy)) 20 = true := by
  rw [st_ax hS hα]
  constructor
  · intro h s hs ht
    cases hsl : sel s
    · have := (hS.fD s hs ht).2.1 (2 + α) (by omega) (by omega)
      have e1 : (-10000 : Int32).toInt = -10000 := by decide
      have e2 : (10000 : Int32).toInt = 10000 := by decide
      rw [hU.2.2.2.2.2 s hs hsl, Int32.add_zero]
      refine wth1.mpr ⟨?_, ?_⟩
      · rw [fa_le, e1]; exact this.1
      · rw [fa_le, e2]; exact this.2
    · obtain ⟨i, i1, i2, i3⟩ := hU.2.2.2.2.1 s hs hsl
      obtain ⟨j1, j2⟩ := hU.2.2.1 i i1
      have := h i i1 s hs (by rw [QS_liv hS hs]; exact ht) (by rw [j1, bt_S _ hs]; exact uB_iff.mpr ⟨hsl, i2⟩)
      rw [i3, ← j2]
      exact this
  · intro h i hi s hs hl hb
    obtain ⟨j1, j2⟩ := hU.2.2.1 i hi
    rw [j1, bt_S _ hs] at hb
    rw [j2, ← UN_w hU hi hs hb]
    exact h s hs (by rw [← QS_liv hS hs]; exact hl)
theorem e_ucan (hN : 20 < N) (hS : QS n th G V) (hC : QC th sel G V) (hα : α < 2) (hU : UN G sel uo o m w wy) : f_X10_canShift TC N (G, rfC q) 370 2 (nI α) = some (bI (allB (stB th G (axs α 0 wy) (axs α 1 wy)) 20), (G, rfC q)) := by
  obtain ⟨hm, h2, h3, -, -, -⟩ := id hU
  have hk := can_un hS hC hα hU
  unfold f_X10_canShift
  rw [zz1_of TC_370]
  refine zl2_inv (P := fun r => r = some (bI (allB (stB th G (axs α 0 wy) (axs α 1 wy)) 20), (G, rfC q))) m (fun i x st => x = nI i ∧ st = (G, rfC q) ∧ ∀ j, j < i → canG G (G 371 j) α (G 372 j)) ?_ ?_ m 0 N (0 : Int32) _ (by omega) (by omega) ⟨nI_0.symm, rfl, fun j h => absurd h (Nat.not_lt_zero j)⟩
  · rintro i hi x st ⟨rfl, rfl, hc⟩
    by_cases h : canG G (G 371 i) α (G 372 i)
    · refine Or.inl ⟨nI (i + 1), (G, rfC q), ⟨rfl, rfl, fun j hj => ?_⟩, fun k => ?_⟩
      · by_cases e : j = i
        · rw [e]; exact h
        · exact hc j (by omega)
      · unfold f_X10_canShift_L2
        rw [gI_of TC_370, h2, Option.bind_some, if_neg (nI_ge hi (by omega)), e_setOf h2 hm hi, zb2_some, e_wayOf h2 hm hi, zb2_some, (e_canShift hN hα _ _).1 h, zb2_some, if_pos (by decide), zn_eq, nI_1]
    · refine Or.inr (fun k => ?_)
      have hf : allB (stB th G (axs α 0 wy) (axs α 1 wy)) 20 = false := by
        cases e : allB (stB th G (axs α 0 wy) (axs α 1 wy)) 20
        · rfl
        · exact absurd (hk.mpr e i hi) h
      unfold f_X10_canShift_L2
      rw [gI_of TC_370, h2, Option.bind_some, if_neg (nI_ge hi (by omega)), e_setOf h2 hm hi, zb2_some, e_wayOf h2 hm hi, zb2_some, (e_canShift hN hα _ _).2 h, zb2_some, if_neg (by decide), hf]
      rfl
  · rintro x st ⟨rfl, rfl, hc⟩ k
    unfold f_X10_canShift_L2
    rw [gI_of TC_370, h2, Option.bind_some, if_pos (nI_le (Nat.le_refl m) (by omega)), hk.mp hc]
    rfl
end WAY
