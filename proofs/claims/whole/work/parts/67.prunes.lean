/-! removing a shape: groups without shapes are gone -/
theorem insA_fuel {K : Nat → Prop} {hg : Nat → Option Nat} {r : Nat → Nat} (hK : ∀ g, K g → ∀ g2, hg g = some g2 → K g2) (hr : ∀ g, K g → ∀ g2, hg g = some g2 → r g2 < r g) {h : Nat} : ∀ (b m : Nat) (x : Option Nat), (∀ k, x = some k → K k ∧ r k < b) → insA hg h m x = true → insA hg h b x = true := by
  intro b
  induction b with
  | zero =>
    intro m x hx e
    cases x with
    | none => rw [insA_no] at e; cases e
    | some k => have := (hx k rfl).2; omega
  | succ b ih =>
    intro m x hx e
    cases x with
    | none => rw [insA_no] at e; cases e
    | some k =>
      obtain ⟨h1, h2⟩ := hx k rfl
      show (decide (k = h) || insA hg h b (hg k)) = true
      rw [Bool.or_eq_true]
      cases m with
      | zero =>
        have e : (some k : Option Nat) = some h := of_decide_eq_true e
        exact Or.inl (decide_eq_true (Option.some.inj e))
      | succ m =>
        have e : (decide (k = h) || insA hg h m (hg k)) = true := e
        rw [Bool.or_eq_true] at e
        rcases e with e | e
        · exact Or.inl e
        · refine Or.inr (ih m (hg k) (fun k2 e2 => ?_) e)
          have := hr k h1 k2 e2
          exact ⟨hK k h1 k2 e2, by omega⟩
theorem insA_next {hg : Nat → Option Nat} {g g2 : Nat} (hgg : hg g = some g2) : ∀ (m : Nat) (x : Option Nat), insA hg g m x = true → insA hg g2 (m + 1) x = true := by
  intro m
  induction m with
  | zero =>
    intro x e
    have e : x = some g := of_decide_eq_true e
    rw [e]
    show (decide (g = g2) || insA hg g2 0 (hg g)) = true
    rw [hgg]
    show (decide (g = g2) || decide (some g2 = some g2)) = true
    simp
  | succ m ih =>
    intro x e
    cases x with
    | none => cases e
    | some k =>
      have e : (decide (k = g) || insA hg g m (hg k)) = true := e
      show (decide (k = g2) || insA hg g2 (m + 1) (hg k)) = true
      rw [Bool.or_eq_true] at e ⊢
      refine Or.inr ?_
      rcases e with e | e
      · rw [of_decide_eq_true e, hgg]
        show (decide (g2 = g2) || _) = true
        simp
      · exact ih (hg k) e
/-- group g has shapes -/
def neB (th : Nat → Bool) (hs hg : Nat → Option Nat) (g : Nat) : Bool := anyB (fun t => th t && insA hg g 8 (hs t)) 20
section PRN
variable {G M : Nat → Nat → Int32} {q : Nat → Option Nat} {N : Nat} {n c ln : Nat} {th sel gt : Nat → Bool} {p : Nat → Nat} {hs hg : Nat → Option Nat} {D : Nat → Nat → Int32} {V : Nat → Int32} {s u g a : Nat}
theorem ne_S {P : Nat → Bool} : mkS P 20 = 0 ↔ anyB P 20 = false := by
  rw [S_eq0]
  constructor
  · intro h
    cases e : anyB P 20
    · rfl
    · obtain ⟨i, h1, h2⟩ := anyB_iff.mp e
      rw [h i h1] at h2
      cases h2
  · intro h i hi
    cases e : P i
    · rfl
    · rw [anyB_iff.mpr ⟨i, hi, e⟩] at h
      cases h
/-- the groups with shapes are closed upwards -/
theorem ne_up (gg : ∀ g, g < 8 → gt g = true → ∀ g2, hg g = some g2 → g2 < 8 ∧ gt g2 = true) (rk : ∃ r : Nat → Nat, ∀ g, g < 8 → gt g = true → ∀ g2, hg g = some g2 → r g2 < r g) (sg : ∀ s, s < 20 → th s = true → ∀ g, hs s = some g → g < 8 ∧ gt g = true) {g g2 : Nat} (h8 : g < 8) (hgt : gt g = true) (hn : neB th hs hg g = true) (e : hg g = some g2) : neB th hs hg g2 = true := by
  obtain ⟨r, hr⟩ := rk8 gg rk
  obtain ⟨t, t1, t2⟩ := anyB_iff.mp hn
  have t2 : (th t && insA hg g 8 (hs t)) = true := t2
  rw [Bool.and_eq_true] at t2
  refine anyB_iff.mpr ⟨t, t1, ?_⟩
  show (th t && insA hg g2 8 (hs t)) = true
  rw [t2.1, insA_fuel (K := fun g => g < 8 ∧ gt g = true) (r := r) (fun g h g2 e => gg g h.1 h.2 g2 e) (fun g h g2 e => (hr g h).2 g2 e) 8 9 (hs t) (fun k e => ⟨sg t t1 t2.1 k e, (hr k (sg t t1 t2.1 k e)).1⟩) (insA_next e 8 _ t2.2)]
  rfl
theorem ne_hs {k t : Nat} (h : t < 20) (ht : th t = true) (e : hs t = some k) : neB th hs hg k = true := by
  refine anyB_iff.mpr ⟨t, h, ?_⟩
  show (th t && insA hg k 8 (hs t)) = true
  rw [ht, e]
  show (true && (decide (k = k) || _)) = true
  simp
theorem m_prunes (hN : 20 < N) (gg : ∀ g, g < 8 → gt g = true → ∀ g2, hg g = some g2 → g2 < 8 ∧ gt g2 = true) (rk : ∃ r : Nat → Nat, ∀ g, g < 8 → gt g = true → ∀ g2, hg g = some g2 → r g2 < r g) (sg : ∀ s, s < 20 → th s = true → ∀ g, hs s = some g → g < 8 ∧ gt g = true) (t0 : ∀ s, s < 20 → M 1 (10 + 8 * s) = bI (th s)) (t7 : ∀ s, s < 20 → th s = true → M 1 (10 + 8 * s + 7) = hM (hs s)) (tV : ∀ g, g < 8 → M 1 (290 + 2 * g) = bI (gt g)) (gV : ∀ g, g < 8 → gt g = true → M 1 (290 + 2 * g + 1) = hM (hg g)) :
    ∃ M', f_X12_prunes TM N (M, rfM) 0 = some (M', rfM) ∧ (∀ g, g < 8 → M' 1 (290 + 2 * g) = bI (gt g && neB th hs hg g)) ∧ ∀ a j, ¬ (a = 1 ∧ ∃ g, g < 8 ∧ j = 290 + 2 * g) → M' a j = M a j := by
  obtain ⟨r, hr⟩ := rk8 gg rk
  unfold f_X12_prunes
  rw [zz1_of TM_0]
  refine zl2_inv (P := fun rr => ∃ M' : Nat → Nat → Int32, rr = some (M', rfM) ∧ (∀ g, g < 8 → M' 1 (290 + 2 * g) = bI (gt g && neB th hs hg g)) ∧ ∀ a j, ¬ (a = 1 ∧ ∃ g, g < 8 ∧ j = 290 + 2 * g) → M' a j = M a j) 8
    (fun i (x : Int32) st => x = nI i ∧ ∃ M' : Nat → Nat → Int32, st = (M', rfM) ∧ (∀ g, g < 8 → M' 1 (290 + 2 * g) = bI (gt g && (decide (i ≤ g) || neB th hs hg g))) ∧ ∀ a j, ¬ (a = 1 ∧ ∃ g, g < 8 ∧ j = 290 + 2 * g) → M' a j = M a j) ?_ ?_ 8 0 N (0 : Int32) (M, rfM) rfl (by omega) ⟨nI_0.symm, M, rfl, fun g h8 => by rw [decide_eq_true (Nat.zero_le g), Bool.true_or, Bool.and_true]; exact tV g h8, fun a j _ => rfl⟩
  · rintro i hi x st ⟨rfl, M1, rfl, hA, hB⟩
    have hgi : M1 1 (290 + 2 * i) = bI (gt i) := by rw [hA i hi, decide_eq_true (Nat.le_refl i), Bool.true_or, Bool.and_true]
    have hkeep : (gt i && neB th hs hg i) = gt i → ∀ g, g < 8 → M1 1 (290 + 2 * g) = bI (gt g && (decide (i + 1 ≤ g) || neB th hs hg g)) := fun hq g h8 => by
      rw [hA g h8]
      by_cases e : g = i
      · subst e
        rw [decide_eq_true (Nat.le_refl g), decide_eq_false (by omega), Bool.true_or, Bool.false_or, Bool.and_true, hq]
      · by_cases e2 : i ≤ g
        · rw [decide_eq_true e2, decide_eq_true (show i + 1 ≤ g by omega)]
        · rw [decide_eq_false e2, decide_eq_false (show ¬ i + 1 ≤ g by omega)]
    refine Or.inl ?_
    by_cases hgt : gt i = true
    · have hset : f_X12_setOf TM N (M1, rfM) 0 (nI i) = some (mkS (inA th hs hg i) 20, (M1, rfM)) := by
        refine m_setOf (G := fun a j => if a = 47 then 1 else hC (hg j)) (K := fun g => g < 8 ∧ gt g = true ∧ neB th hs hg g = true) (r := r) hN (fun g ⟨h8, h1, h2⟩ => ⟨h8, by simp, by simp, ?_, fun g2 e => ?_⟩) (fun g ⟨h8, h1, h2⟩ => hr g ⟨h8, h1⟩) hi (fun s h => ?_) (fun s h ht => ⟨?_, fun g e => ?_⟩)
        · rw [hB _ _ (fun ⟨_, k, _, e⟩ => by omega)]; exact gV g h8 h1
        · obtain ⟨b1, b2⟩ := gg g h8 h1 g2 e
          exact ⟨b1, b2, ne_up gg rk sg h8 h1 h2 e⟩
        · rw [hB _ _ (fun ⟨_, k, _, e⟩ => by omega)]; exact t0 s h
        · rw [hB _ _ (fun ⟨_, k, _, e⟩ => by omega)]; exact t7 s h ht
        · obtain ⟨b1, b2⟩ := sg s h ht g e
          exact ⟨b1, b2, ne_hs h ht e⟩
      by_cases hn : neB th hs hg i = true
      · refine ⟨nI (i + 1), (M1, rfM), ⟨rfl, M1, rfl, hkeep (by rw [hn, Bool.and_true]), hB⟩, fun k => ?_⟩
        unfold f_X12_prunes_L2
        rw [if_neg (nI_n8 hi), m_isGrp hi hgi, zb2_some, hgt, if_neg (by decide), hset, zb2_some, if_pos, zn_eq, nI_1]
        intro e
        have := ne_S.mp e
        have h2 : anyB (inA th hs hg i) 20 = true := hn
        rw [this] at h2
        cases h2
      · have hn2 : neB th hs hg i = false := by simpa using hn
        refine ⟨nI (i + 1), (zu M1 1 (290 + 2 * i) 0, rfM), ⟨rfl, _, rfl, fun g h8 => ?_, fun a j h => ?_⟩, fun k => ?_⟩
        · by_cases e : g = i
          · subst e
            rw [zu_same, decide_eq_false (show ¬ g + 1 ≤ g by omega), Bool.false_or, hn2, Bool.and_false]
            rfl
          · rw [zu_ne (fun _ => by omega), hA g h8]
            by_cases e2 : i ≤ g
            · rw [decide_eq_true e2, decide_eq_true (show i + 1 ≤ g by omega)]
            · rw [decide_eq_false e2, decide_eq_false (show ¬ i + 1 ≤ g by omega)]
        · rw [zu_ne (fun e1 e2 => h ⟨e1, i, hi, e2⟩)]; exact hB a j h
        · unfold f_X12_prunes_L2
          have hz : mkS (inA th hs hg i) 20 = 0 := ne_S.mpr hn2
          rw [if_neg (nI_n8 hi), m_isGrp hi hgi, zb2_some, hgt, if_neg (by decide), hset, zb2_some, if_neg (fun n => n hz), g_v, Option.bind_some, ix2, v_wr (by omega), Option.bind_some, zn_eq, nI_1]
    · have hgt2 : gt i = false := by simpa using hgt
      refine ⟨nI (i + 1), (M1, rfM), ⟨rfl, M1, rfl, hkeep (by rw [hgt2]; rfl), hB⟩, fun k => ?_⟩
      unfold f_X12_prunes_L2
      rw [if_neg (nI_n8 hi), m_isGrp hi hgi, zb2_some, hgt2, if_pos (by decide), zn_eq, nI_1]
  · rintro x st ⟨rfl, M1, rfl, hA, hB⟩ k
    refine ⟨M1, ?_, fun g h8 => ?_, hB⟩
    · unfold f_X12_prunes_L2
      rw [if_pos (nI_8 (Nat.le_refl 8) (by decide))]
    · rw [hA g h8, decide_eq_false (show ¬ 8 ≤ g by omega), Bool.false_or]
/-- the class's pruning, then what comes behind it -/
theorem e_prunes {R : Int32} (hN : 20 < N) (gg : ∀ g, g < 8 → gt g = true → ∀ g2, hg g = some g2 → g2 < 8 ∧ gt g2 = true) (rk : ∃ r : Nat → Nat, ∀ g, g < 8 → gt g = true → ∀ g2, hg g = some g2 → r g2 < r g) (sg : ∀ s, s < 20 → th s = true → ∀ g, hs s = some g → g < 8 ∧ gt g = true) (t0 : ∀ s, s < 20 → liv G s = th s) (t7 : ∀ s, s < 20 → th s = true → G (4 + s) 7 = hC (hs s)) (tD : ∀ g, g < 8 → G 47 g = bI (gt g)) (gD : ∀ g, g < 8 → gt g = true → G 48 g = hC (hg g)) :
    ∃ G', zl2 (f_X2_dropShape_L10 TC N 1 R) N (0 : Int32) (G, rfC q) = (zb2 (f_X1_dropAt TC N (G', rfC q) 24 R) fun x10 s9 => some (x10, s9)) ∧ (∀ g, g < 8 → G' 47 g = bI (gt g && neB th hs hg g)) ∧ (∀ g, g < 8 → (gt g && neB th hs hg g) = true → G' 48 g = hC (hg g)) ∧ ∀ a j, a ≠ 47 → a ≠ 48 → G' a j = G a j := by
  refine zl2_inv (P := fun rr => ∃ G' : Nat → Nat → Int32, rr = (zb2 (f_X1_dropAt TC N (G', rfC q) 24 R) fun x10 s9 => some (x10, s9)) ∧ (∀ g, g < 8 → G' 47 g = bI (gt g && neB th hs hg g)) ∧ (∀ g, g < 8 → (gt g && neB th hs hg g) = true → G' 48 g = hC (hg g)) ∧ ∀ a j, a ≠ 47 → a ≠ 48 → G' a j = G a j) 8
    (fun i (x : Int32) st => x = nI i ∧ ∃ G' : Nat → Nat → Int32, st = (G', rfC q) ∧ (∀ g, g < 8 → G' 47 g = bI (gt g && (decide (i ≤ g) || neB th hs hg g))) ∧ (∀ g, g < 8 → (gt g && (decide (i ≤ g) || neB th hs hg g)) = true → G' 48 g = hC (hg g)) ∧ ∀ a j, a ≠ 47 → a ≠ 48 → G' a j = G a j) ?_ ?_ 8 0 N (0 : Int32) (G, rfC q) rfl (by omega) ⟨nI_0.symm, G, rfl, fun g h8 => by rw [decide_eq_true (Nat.zero_le g), Bool.true_or, Bool.and_true]; exact tD g h8, fun g h8 hq => gD g h8 (by rw [Bool.and_eq_true] at hq; exact hq.1), fun a j _ _ => rfl⟩
  · rintro i hi x st ⟨rfl, G1, rfl, hA, hE, hB⟩
    have hgi : G1 47 i = bI (gt i) := by rw [hA i hi, decide_eq_true (Nat.le_refl i), Bool.true_or, Bool.and_true]
    have hhas : f_X3_has TC N (G1, rfC q) 46 (nI i) = some (bI (gt i), (G1, rfC q)) := by
      rw [e_has_g hi, hgi]
      cases gt i
      · rw [if_pos (by decide)]; rfl
      · rw [if_neg (by decide)]; rfl
    have hkeep : (gt i && neB th hs hg i) = gt i → ∀ g, g < 8 → (gt g && (decide (i + 1 ≤ g) || neB th hs hg g)) = (gt g && (decide (i ≤ g) || neB th hs hg g)) := fun hq g h8 => by
      by_cases e : g = i
      · subst e
        rw [decide_eq_true (Nat.le_refl g), decide_eq_false (by omega), Bool.true_or, Bool.false_or, Bool.and_true, hq]
      · by_cases e2 : i ≤ g
        · rw [decide_eq_true e2, decide_eq_true (show i + 1 ≤ g by omega)]
        · rw [decide_eq_false e2, decide_eq_false (show ¬ i + 1 ≤ g by omega)]
    refine Or.inl ?_
    by_cases hgt : gt i = true
    · have hK : QK (fun g => g < 8 ∧ gt g = true ∧ neB th hs hg g = true) hg G1 (fun j => hM (hg ((j - 291) / 2))) := by
        refine fun g ⟨h8, h1, h2⟩ => ⟨h8, by rw [hA g h8, h1, h2, Bool.or_true]; rfl, hE g h8 (by rw [h1, h2, Bool.or_true]; rfl), ?_, fun g2 e => ?_⟩
        · show hM (hg ((290 + 2 * g + 1 - 291) / 2)) = _
          rw [show (290 + 2 * g + 1 - 291) / 2 = g by omega]
        · obtain ⟨b1, b2⟩ := gg g h8 h1 g2 e
          exact ⟨b1, b2, ne_up gg rk sg h8 h1 h2 e⟩
      have hin : mkS (inG G1 (nI i)) 20 = mkS (inA th hs hg i) 20 := mkS_ext (fun t ht => by
        unfold inG inA
        have hl : liv G1 t = th t := by
          unfold liv
          rw [hB _ _ (by omega) (by omega)]
          exact t0 t ht
        rw [hl]
        by_cases htt : th t = true
        · rw [htt, Bool.true_and, Bool.true_and, hB _ _ (by omega) (by omega), t7 t ht htt]
          have := insG_K hK hi 8 (hs t) (fun g e => by
            obtain ⟨b1, b2⟩ := sg t ht htt g e
            exact ⟨b1, b2, ne_hs ht htt e⟩)
          cases e : insA hg i 8 (hs t)
          · exact decide_eq_false (fun q => by rw [this.mp q] at e; cases e)
          · exact decide_eq_true (this.mpr e)
        · have h2 : th t = false := by simpa using htt
          rw [h2, Bool.false_and, Bool.false_and])
      by_cases hn : neB th hs hg i = true
      · have hk := hkeep (by rw [hn, Bool.and_true])
        refine ⟨nI (i + 1), (G1, rfC q), ⟨rfl, G1, rfl, fun g h8 => by rw [hk g h8]; exact hA g h8, fun g h8 hq => hE g h8 (by rw [← hk g h8]; exact hq), hB⟩, fun k => ?_⟩
        unfold f_X2_dropShape_L10
        rw [if_neg (nI_n8 hi), g_groups, Option.bind_some, hhas, zb2_some, hgt, if_neg (by decide), e_shapesIn hN, zb2_some, hin, if_pos, zn_eq, nI_1]
        intro e
        have := ne_S.mp e
        have h2 : anyB (inA th hs hg i) 20 = true := hn
        rw [this] at h2
        cases h2
      · have hn2 : neB th hs hg i = false := by simpa using hn
        have hz : mkS (inA th hs hg i) 20 = 0 := ne_S.mpr hn2
        refine ⟨nI (i + 1), (zu (zu G1 47 i 0) 48 i (-1000000), rfC q), ⟨rfl, _, rfl, fun g h8 => ?_, fun g h8 hq => ?_, fun a j h1 h2 => ?_⟩, fun k => ?_⟩
        · rw [zu_cell (by decide)]
          by_cases e : g = i
          · subst e
            rw [zu_same, decide_eq_false (show ¬ g + 1 ≤ g by omega), Bool.false_or, hn2, Bool.and_false]
            rfl
          · rw [zu_ne (fun _ => by omega), hA g h8]
            by_cases e2 : i ≤ g
            · rw [decide_eq_true e2, decide_eq_true (show i + 1 ≤ g by omega)]
            · rw [decide_eq_false e2, decide_eq_false (show ¬ i + 1 ≤ g by omega)]
        · have hne : g ≠ i := fun e => by
            rw [e, decide_eq_false (show ¬ i + 1 ≤ i by omega), hn2] at hq
            simp at hq
          rw [zu_ne (fun _ => hne), zu_cell (by decide)]
          refine hE g h8 ?_
          rw [Bool.and_eq_true, Bool.or_eq_true] at hq ⊢
          rcases hq with ⟨q1, q2 | q2⟩
          · have := of_decide_eq_true q2
            exact ⟨q1, Or.inl (decide_eq_true (by omega))⟩
          · exact ⟨q1, Or.inr q2⟩
        · rw [zu_cell h2, zu_cell h1]; exact hB a j h1 h2
        · unfold f_X2_dropShape_L10 f_X3_drop
          rw [if_neg (nI_n8 hi), g_groups, Option.bind_some, hhas, zb2_some, hgt, if_neg (by decide), e_shapesIn hN, zb2_some, hin, if_neg (fun n => n hz), g_groups, Option.bind_some, zz1_of TC_46, show f_X3_put TC N (G1, rfC q) 46 (nI i) 0 (-1000000) = _ from e_bput (b := 1) (by decide) hi (Or.inl rfl), Option.bind_some, Option.bind_some, zn_eq, nI_1]
    · have hgt2 : gt i = false := by simpa using hgt
      have hk := hkeep (by rw [hgt2]; rfl)
      refine ⟨nI (i + 1), (G1, rfC q), ⟨rfl, G1, rfl, fun g h8 => by rw [hk g h8]; exact hA g h8, fun g h8 hq => hE g h8 (by rw [← hk g h8]; exact hq), hB⟩, fun k => ?_⟩
      unfold f_X2_dropShape_L10
      rw [if_neg (nI_n8 hi), g_groups, Option.bind_some, hhas, zb2_some, hgt2, if_pos (by decide), zn_eq, nI_1]
  · rintro x st ⟨rfl, G1, rfl, hA, hE, hB⟩ k
    have h8 : ∀ g, g < 8 → (gt g && (decide (8 ≤ g) || neB th hs hg g)) = (gt g && neB th hs hg g) := fun g h => by rw [decide_eq_false (show ¬ 8 ≤ g by omega), Bool.false_or]
    refine ⟨G1, ?_, fun g h => by rw [hA g h, h8 g h], fun g h hq => hE g h (by rw [h8 g h]; exact hq), hB⟩
    unfold f_X2_dropShape_L10
    rw [if_pos (nI_8 (Nat.le_refl 8) (by decide)), gR_of TC_1, rf_1_1, Option.bind_some]
end PRN
