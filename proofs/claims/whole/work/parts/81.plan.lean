/-! distribute: both plans -/
def lwO (G : Nat → Nat → Int32) (sel : Nat → Bool) (uo o : Nat → Nat) (α t : Nat) : Int32 := lwU G α (uB sel uo (o t))
def hgO (G : Nat → Nat → Int32) (sel : Nat → Bool) (uo o : Nat → Nat) (α t : Nat) : Int32 := hgU G α (uB sel uo (o t))
section PLN
variable {G M G1 M1 C D : Nat → Nat → Int32} {q : Nat → Option Nat} {N : Nat} {n c ln : Nat} {th sel gt P : Nat → Bool} {p uo o : Nat → Nat} {hs hg : Nat → Option Nat} {ρ : Nat → Nat → Option Nat} {V w wy : Nat → Int32} {s t a b y k d u α m i l r : Nat} {x z S : Int32}
theorem sp_b (hα : α < 2) (hA : QA n th sel c p hs hg gt ln G V) (hB : GB th sel uo m G M G1 M1) (ho : pmO o m) : ∀ t, t < m → -10000 ≤ (lwO G sel uo o α t).toInt ∧ (lwO G sel uo o α t).toInt < (hgO G sel uo o α t).toInt ∧ (hgO G sel uo o α t).toInt ≤ 10500 := fun t ht => by
  have h := hB.2.2.2.2.2.2.2.1 (o t) (ho.1 t ht)
  exact box_b hA.1 hα h.1 h.2
theorem e_planD (hN : 20 < N) (hα : α < 2) (hA : QA n th sel c p hs hg gt ln G V) (hB : GB th sel uo m G M G1 M1) (hm : 3 ≤ m) (ho : pmO o m) (hso : f_X10_sortAlong TC N (G1, rfC q) 370 2 (nI α) = some (C, rfC q)) (c1 : ∀ t, t < m → C 371 t = mkS (uB sel uo (o t)) 20) (c2 : ∀ a b, a ≠ 371 → C a b = G1 a b)
    (hS : S = spF (lwO G sel uo o α) (hgO G sel uo o α) (lwO G sel uo o α (m - 1) - hgO G sel uo o α 0) (m - 2)) (hr : r < m - 1) (hr2 : fmJ S (nI (m - 1)) = nI r) (hr3 : wF (lwO G sel uo o α) (hgO G sel uo o α) (fdJ S (nI (m - 1))) r (m - 1) = 0) :
    ∃ G', f_X10_planDistribution TC N (G1, rfC q) 370 2 (nI α) = some (S, (G', rfC q)) ∧ (∀ t, t < m → G' 372 t = wF (lwO G sel uo o α) (hgO G sel uo o α) (fdJ S (nI (m - 1))) r t) ∧ ∀ a j, a ≠ 372 → G' a j = C a j := by
  obtain ⟨b1, b2, b3, b4, b5, b6, b7, b8, b9, b10⟩ := hB
  have f0 : ∀ D : Nat → Nat → Int32, (∀ a b, a ≠ 372 → D a b = C a b) → (∀ a j, a < 360 → D a j = G a j) ∧ D 370 2 = nI m ∧ ∀ t, t < m → D 371 t = mkS (uB sel uo (o t)) 20 := fun D h => ⟨fun a j ha => ((h _ _ (by omega)).trans (c2 _ _ (by omega))).trans (b9 _ _ (by omega) (by omega)), ((h _ _ (by decide)).trans (c2 _ _ (by decide))).trans b2, fun t ht => (h _ _ (by decide)).trans (c1 t ht)⟩
  have hlo : ∀ (D : Nat → Nat → Int32) (t : Nat), (∀ a b, a ≠ 372 → D a b = C a b) → t < m → f_X7_low TC N (D, rfC q) 2 (mkS (uB sel uo (o t)) 20) (nI α) = some (lwO G sel uo o α t, (D, rfC q)) := fun D t h ht => e_lowU hN hα hA.1 (f0 D h).1 (b8 _ (ho.1 t ht))
  have hhi : ∀ (D : Nat → Nat → Int32) (t : Nat), (∀ a b, a ≠ 372 → D a b = C a b) → t < m → f_X7_high TC N (D, rfC q) 2 (mkS (uB sel uo (o t)) 20) (nI α) = some (hgO G sel uo o α t, (D, rfC q)) := fun D t h ht => e_highU hN hα hA.1 (f0 D h).1 (b8 _ (ho.1 t ht))
  have hse : ∀ (D : Nat → Nat → Int32) (t : Nat), (∀ a b, a ≠ 372 → D a b = C a b) → t < m → f_X10_setOf TC N (D, rfC q) 370 (nI t) = some (mkS (uB sel uo (o t)) 20, (D, rfC q)) := fun D t h ht => by
    rw [e_setOf (f0 D h).2.1 b1 ht, (f0 D h).2.2 t ht]
  have hse0 : ∀ (D : Nat → Nat → Int32), (∀ a b, a ≠ 372 → D a b = C a b) → f_X10_setOf TC N (D, rfC q) 370 (0 : Int32) = some (mkS (uB sel uo (o 0)) 20, (D, rfC q)) := fun D h => hse D 0 h (by omega)
  have hsz : ∀ (D : Nat → Nat → Int32) (t : Nat), (∀ a b, a ≠ 372 → D a b = C a b) → t < m → f_X10_sizeOf TC N (D, rfC q) 370 2 (nI t) (nI α) = some (hgO G sel uo o α t - lwO G sel uo o α t, (D, rfC q)) := fun D t h ht => by
    unfold f_X10_sizeOf
    rw [zz1_of TC_370, hse D t h ht, zb2_some, hhi D t h ht, zb2_some, hse D t h ht, zb2_some, hlo D t h ht, zb2_some]
  have hre : ∀ a b, a ≠ 372 → C a b = C a b := fun _ _ _ => rfl
  have em : nI m - (1 : Int32) = nI (m - 1) := by
    rw [show nI m = nI (m - 1) + 1 by rw [nI_1, show m - 1 + 1 = m by omega], Int32.add_sub_cancel]
  have hd0 : ¬ nI (m - 1) ≤ 0 := nI_nle (by omega) (by omega)
  have hd1 : ¬ nI (m - 1) = 0 := nI_ne0 (by omega) (by omega)
  unfold f_X10_planDistribution
  rw [zz1_of TC_370, hso, Option.bind_some, gI_of TC_370, (f0 C hre).2.1, Option.bind_some, zn_eq, em, hse C (m - 1) hre (by omega), zb2_some, hlo C (m - 1) hre (by omega), zb2_some, hse0 C hre, zb2_some, hhi C 0 hre (by omega), zb2_some, zn_eq]
  have hend : ∀ k : Int32 → Int32 → zS → Option (Int32 × zS), ∃ G', f_X10_planDistribution_L39 TC N 370 2 (nI α) (nI (m - 1)) k S (nI (m - 2 + 1)) (C, rfC q) = some (S, (G', rfC q)) ∧ (∀ t, t < m → G' 372 t = wF (lwO G sel uo o α) (hgO G sel uo o α) (fdJ S (nI (m - 1))) r t) ∧ ∀ a j, a ≠ 372 → G' a j = C a j := fun k => by
    unfold f_X10_planDistribution_L39
    rw [show m - 2 + 1 = m - 1 by omega, if_pos (nI_le (Nat.le_refl (m - 1)) (by omega)), if_neg hd0, e_fdiv hd1, zb2_some]
    unfold f_X10_planDistribution_J78
    rw [if_neg hd0, e_fmod hd1, zb2_some, hr2]
    unfold f_X10_planDistribution_J94
    rw [hse0 C hre, zb2_some, hhi C 0 hre (by omega), zb2_some, show f_X10_putWay TC N (C, rfC q) 370 (0 : Int32) (0 : Int32) = some (zu C 372 0 0, rfC q) from e_putWay (i := 0) (by omega), Option.bind_some, e_putWay (show m - 1 < 20 by omega), Option.bind_some]
    refine zl3_inv (P := fun res => ∃ G' : Nat → Nat → Int32, res = some (S, (G', rfC q)) ∧ (∀ t, t < m → G' 372 t = wF (lwO G sel uo o α) (hgO G sel uo o α) (fdJ S (nI (m - 1))) r t) ∧ ∀ a j, a ≠ 372 → G' a j = C a j) (m - 2)
      (fun i (x0 : Int32) (x1 : Int32) st => x0 = cuF (lwO G sel uo o α) (hgO G sel uo o α) (fdJ S (nI (m - 1))) r i ∧ x1 = nI (i + 1) ∧ ∃ D : Nat → Nat → Int32, st = (D, rfC q) ∧ (∀ t, t < m → t ≤ i ∨ t = m - 1 → D 372 t = wF (lwO G sel uo o α) (hgO G sel uo o α) (fdJ S (nI (m - 1))) r t) ∧ ∀ a j, a ≠ 372 → D a j = C a j) ?_ ?_ (m - 2) 0 N _ (1 : Int32) _ (by omega) (by omega) ⟨rfl, rfl, _, rfl, fun t ht h => ?_, fun a j h => by rw [zu_cell h, zu_cell h]⟩
    · rintro i hi x0 x1 st ⟨rfl, rfl, D, rfl, g1, g2⟩
      refine Or.inl ⟨_, nI (i + 1 + 1), (zu D 372 (i + 1) (wF (lwO G sel uo o α) (hgO G sel uo o α) (fdJ S (nI (m - 1))) r (i + 1)), rfC q), ⟨rfl, rfl, _, rfl, fun t ht h => ?_, fun a j h => by rw [zu_cell h]; exact g2 a j h⟩, fun k => ?_⟩
      · by_cases e : t = i + 1
        · rw [e, zu_same]
        · rw [zu_ne (fun _ => e)]
          exact g1 t ht (by omega)
      · have hJ : ∀ y : Int32, y = gpF (fdJ S (nI (m - 1))) r (i + 1) → f_X10_planDistribution_J147 TC N 370 2 (nI α) (cuF (lwO G sel uo o α) (hgO G sel uo o α) (fdJ S (nI (m - 1))) r i) (nI (i + 1)) (D, rfC q) k y = k (cuF (lwO G sel uo o α) (hgO G sel uo o α) (fdJ S (nI (m - 1))) r (i + 1)) (nI (i + 1 + 1)) (zu D 372 (i + 1) (wF (lwO G sel uo o α) (hgO G sel uo o α) (fdJ S (nI (m - 1))) r (i + 1)), rfC q) := fun y hy => by
          unfold f_X10_planDistribution_J147
          rw [zn_eq, hse D (i + 1) g2 (by omega), zb2_some, hlo D (i + 1) g2 (by omega), zb2_some, e_putWay (show i + 1 < 20 by omega), Option.bind_some, hsz _ (i + 1) (fun a b h => by rw [zu_cell h]; exact g2 a b h) (by omega), zb2_some, zn_eq, zn_eq, nI_1, hy]
          rfl
        unfold f_X10_planDistribution_L123
        rw [if_neg (nI_ge (show i + 1 < m - 1 by omega) (by omega))]
        by_cases h : r < i + 1
        · rw [if_pos (nI_lt h (by omega))]
          exact hJ _ (by unfold gpF; rw [if_neg (by omega)])
        · rw [if_neg (nI_nlt (by omega) (by omega))]
          exact hJ _ (by unfold gpF; rw [if_pos (by omega)])
    · rintro x0 x1 st ⟨rfl, rfl, D, rfl, g1, g2⟩ k
      refine ⟨D, ?_, fun t ht => g1 t ht (by omega), g2⟩
      unfold f_X10_planDistribution_L123
      rw [if_pos (nI_le (show m - 1 ≤ m - 2 + 1 by omega) (by omega))]
    · by_cases e : t = m - 1
      · rw [e, zu_same, hr3]
      · have e0 : t = 0 := by omega
        rw [e0, zu_ne (fun _ => by omega), zu_same]
        rfl
  obtain ⟨G', h1, h2, h3⟩ := hend (zl3 (f_X10_planDistribution_L39 TC N 370 2 (nI α) (nI (m - 1))) (N - (m - 2) - 1))
  refine ⟨G', ?_, h2, h3⟩
  rw [← h1]
  refine zl3_end (m - 2) (fun i => spF (lwO G sel uo o α) (hgO G sel uo o α) (lwO G sel uo o α (m - 1) - hgO G sel uo o α 0) i) (fun i => nI (i + 1)) (fun _ => (C, rfC q)) rfl rfl rfl (by omega) (fun i hi k => ?_) (fun k => ?_)
  · unfold f_X10_planDistribution_L39
    rw [if_neg (nI_ge (show i + 1 < m - 1 by omega) (by omega)), hsz C (i + 1) hre (by omega), zb2_some, zn_eq, zn_eq, nI_1]
    rfl
  · have hi : ∀ k1 k2 : Int32 → Int32 → zS → Option (Int32 × zS), f_X10_planDistribution_L39 TC N 370 2 (nI α) (nI (m - 1)) k1 S (nI (m - 2 + 1)) (C, rfC q) = f_X10_planDistribution_L39 TC N 370 2 (nI α) (nI (m - 1)) k2 S (nI (m - 2 + 1)) (C, rfC q) := fun k1 k2 => by
      unfold f_X10_planDistribution_L39
      rw [show m - 2 + 1 = m - 1 by omega, if_pos (nI_le (Nat.le_refl (m - 1)) (by omega)), if_pos (nI_le (Nat.le_refl (m - 1)) (by omega))]
    show f_X10_planDistribution_L39 TC N 370 2 (nI α) (nI (m - 1)) k (spF (lwO G sel uo o α) (hgO G sel uo o α) (lwO G sel uo o α (m - 1) - hgO G sel uo o α 0) (m - 2)) (nI (m - 2 + 1)) (C, rfC q) = _
    rw [← hS]
    exact hi _ _
/-- where a unit stands -/
def poF (o : Nat → Nat) (m v : Nat) : Nat := fdx (fun t => decide (o t = v)) m
theorem po_ok {v : Nat} (ho : pmO o m) (hv : v < m) : poF o m v < m ∧ o (poF o m v) = v := by
  obtain ⟨h1, h2, h3⟩ := fdx_spec (f := fun t => decide (o t = v)) m
  have hlt : fdx (fun t => decide (o t = v)) m < m := by
    rcases Nat.lt_or_ge (fdx (fun t => decide (o t = v)) m) m with h | h
    · exact h
    · obtain ⟨t, t1, t2⟩ := ho.2.2 v hv
      have := h2 t (by omega)
      exact absurd t2 (of_decide_eq_false this)
  exact ⟨hlt, of_decide_eq_true (h3 hlt)⟩
theorem po_iff {v : Nat} (ho : pmO o m) (hv : v < m) (ht : t < m) : o t = v ↔ poF o m v = t := by
  obtain ⟨h1, h2⟩ := po_ok ho hv
  constructor
  · intro e
    exact ho.2.1 _ _ h1 ht (h2.trans e.symm)
  · intro e
    rw [← e]
    exact h2
/-- the way of a shape -/
def wyO (sel : Nat → Bool) (uo o : Nat → Nat) (m : Nat) (w : Nat → Int32) (s : Nat) : Int32 := wyF sel (fun s => poF o m (uo s)) w s
theorem m_planD (hN : 20 < N) (hα : α < 2) (hA : QA n th sel c p hs hg gt ln G (M 1)) (hB : GB th sel uo m G M G1 M1) (hm : 3 ≤ m) (ho : pmO o m) (d1 : ∀ t, t < m → D 12 t = nI (o t)) (d2 : ∀ a b, a ≠ 10 → a ≠ 11 → a ≠ 12 → D a b = M1 a b) (h0 : ∀ s, s < 20 → D 10 s = 0 ∧ D 11 s = 0)
    (hS : S = spF (lwO G sel uo o α) (hgO G sel uo o α) (lwO G sel uo o α (m - 1) - hgO G sel uo o α 0) (m - 2)) (hr : r < m - 1) (hr2 : rsJ S (nI (m - 1)) = nI r) (hr4 : (S - nI r) / nI (m - 1) = fdJ S (nI (m - 1))) :
    ∃ M' : Nat → Nat → Int32, (zl2 (f_X12_distribute_L75 TM N 0 (nI α) (D, rfM) (nI (m - 1))) N (lwO G sel uo o α (m - 1) - hgO G sel uo o α 0) (1 : Int32) = zb2 (f_X12_isInside TM N (M', rfM) 0) fun x35 s34 => if ¬ x35 = 0 then ((f_X12_act TM N s34 0).bind fun s36 => (f_X12_movesAll TM N s36 0).bind fun s37 => some (S, s37)) else some ((-1000000 : Int32), s34)) ∧ (∀ s, s < 20 → M' 10 s = axs α 0 (wyO sel uo o m (wF (lwO G sel uo o α) (hgO G sel uo o α) (fdJ S (nI (m - 1))) r)) s ∧ M' 11 s = axs α 1 (wyO sel uo o m (wF (lwO G sel uo o α) (hgO G sel uo o α) (fdJ S (nI (m - 1))) r)) s) ∧ ∀ a j, a ≠ 10 → a ≠ 11 → M' a j = D a j := by
  obtain ⟨b1, b2, b3, b4, b5, b6, b7, b8, b9, b10⟩ := hB
  have hd0 : ¬ nI (m - 1) = 0 := nI_ne0 (by omega) (by omega)
  -- reads
  have r12 : ∀ (E : Nat → Nat → Int32) (t : Nat), (∀ a j, a ≠ 10 → a ≠ 11 → E a j = D a j) → t < m → aI TM (E, rfM) 12 13 (nI t) = some (nI (o t)) := fun E t h ht => by
    rw [aI_of TM_12 ML_12 (show t < 20 by omega) (by decide), h _ _ (by decide) (by decide), d1 t ht]
  have r7 : ∀ (E : Nat → Nat → Int32) (t : Nat), (∀ a j, a ≠ 10 → a ≠ 11 → E a j = D a j) → t < m → aI TM (E, rfM) 7 13 ((2 : Int32) * nI (o t) + nI α) = some (lwO G sel uo o α t) := fun E t h ht => by
    have := ho.1 t ht
    rw [ixB, aI_of TM_7 ML_7 (show 2 * o t + α < 42 by omega) (by decide), h _ _ (by decide) (by decide), d2 _ _ (by decide) (by decide) (by decide), (b6 _ this α hα).1]
    rfl
  have r8 : ∀ (E : Nat → Nat → Int32) (t : Nat), (∀ a j, a ≠ 10 → a ≠ 11 → E a j = D a j) → t < m → aI TM (E, rfM) 8 13 ((2 : Int32) * nI (o t) + nI α) = some (hgO G sel uo o α t) := fun E t h ht => by
    have := ho.1 t ht
    rw [ixB, aI_of TM_8 ML_8 (show 2 * o t + α < 42 by omega) (by decide), h _ _ (by decide) (by decide), d2 _ _ (by decide) (by decide) (by decide), (b6 _ this α hα).2]
    rfl
  have hre : ∀ a j, a ≠ 10 → a ≠ 11 → D a j = D a j := fun _ _ _ _ => rfl
  have hd2 : ∀ a b, a ≠ 10 → a ≠ 11 → a ≠ 12 → D a b = M1 a b := d2
  -- what follows the space
  have hJ : ∃ M' : Nat → Nat → Int32, (f_X12_distribute_J142 TM N 0 (nI α) (D, rfM) (nI (m - 1)) S (nI r) = zb2 (f_X12_isInside TM N (M', rfM) 0) fun x35 s34 => if ¬ x35 = 0 then ((f_X12_act TM N s34 0).bind fun s36 => (f_X12_movesAll TM N s36 0).bind fun s37 => some (S, s37)) else some ((-1000000 : Int32), s34)) ∧ (∀ s, s < 20 → M' 10 s = axs α 0 (wyO sel uo o m (wF (lwO G sel uo o α) (hgO G sel uo o α) (fdJ S (nI (m - 1))) r)) s ∧ M' 11 s = axs α 1 (wyO sel uo o m (wF (lwO G sel uo o α) (hgO G sel uo o α) (fdJ S (nI (m - 1))) r)) s) ∧ ∀ a j, a ≠ 10 → a ≠ 11 → M' a j = D a j := by
    unfold f_X12_distribute_J142
    rw [zz1_of hd0, hr4, zn_eq, gm9, Option.bind_some, gm16, Option.bind_some, show aI TM (D, rfM) 12 13 (0 : Int32) = some (nI (o 0)) from r12 D 0 hre (by omega), Option.bind_some, r8 D 0 hre (by omega), Option.bind_some]
    generalize hwy : wyO sel uo o m (wF (lwO G sel uo o α) (hgO G sel uo o α) (fdJ S (nI (m - 1))) r) = wy
    refine zl3_inv (P := fun res => ∃ M' : Nat → Nat → Int32, (res = zb2 (f_X12_isInside TM N (M', rfM) 0) fun x35 s34 => if ¬ x35 = 0 then ((f_X12_act TM N s34 0).bind fun s36 => (f_X12_movesAll TM N s36 0).bind fun s37 => some (S, s37)) else some ((-1000000 : Int32), s34)) ∧ (∀ s, s < 20 → M' 10 s = axs α 0 wy s ∧ M' 11 s = axs α 1 wy s) ∧ ∀ a j, a ≠ 10 → a ≠ 11 → M' a j = D a j) (m - 1)
      (fun i (x0 : Int32) (x1 : Int32) st => x0 = cuF (lwO G sel uo o α) (hgO G sel uo o α) (fdJ S (nI (m - 1))) r i ∧ x1 = nI (i + 1) ∧ ∃ E : Nat → Nat → Int32, st = (E, rfM) ∧ (∀ s, s < 20 → E 10 s = (if sel s = true ∧ poF o m (uo s) ≤ i then axs α 0 wy s else 0) ∧ E 11 s = if sel s = true ∧ poF o m (uo s) ≤ i then axs α 1 wy s else 0) ∧ ∀ a j, a ≠ 10 → a ≠ 11 → E a j = D a j) ?_ ?_ (m - 1) 0 N _ (1 : Int32) _ (by omega) (by omega) ⟨rfl, rfl, D, rfl, fun s hs => ?_, fun a j _ _ => rfl⟩
    · rintro i hi x0 x1 st ⟨rfl, rfl, E, rfl, g1, g2⟩
      have e1 : E 1 = M 1 := funext (fun j => ((g2 1 j (by decide) (by decide)).trans (hd2 _ _ (by decide) (by decide) (by decide))).trans (b10 _ _ (by omega) (by omega)))
      have hoi := ho.1 (i + 1) (by omega)
      obtain ⟨M3, e3, k1, k2⟩ := m_laysUnit (N := N) (M := E) (u := o (i + 1)) (uo := uo) (x := wF (lwO G sel uo o α) (hgO G sel uo o α) (fdJ S (nI (m - 1))) r (i + 1)) hN hα (by rw [e1]; exact hA.1) (by rw [e1]; exact hA.2.1) (by omega) (fun s h1 h2 => ⟨((g2 _ _ (by decide) (by decide)).trans (hd2 _ _ (by decide) (by decide) (by decide))).trans (b5 s h1 h2).1, by have := (b5 s h1 h2).2; omega⟩)
      have g3 : ∀ a j, a ≠ 10 → a ≠ 11 → M3 a j = D a j := fun a j h1 h2 => (k2 a j h1 h2).trans (g2 a j h1 h2)
      have hJ2 : ∀ (y : Int32) (k : Int32 → Int32 → zS → Option (Int32 × zS)), fdJ S (nI (m - 1)) + y = gpF (fdJ S (nI (m - 1))) r (i + 1) → f_X12_distribute_J212 TM N 0 (nI α) (fdJ S (nI (m - 1))) (cuF (lwO G sel uo o α) (hgO G sel uo o α) (fdJ S (nI (m - 1))) r i) (nI (i + 1)) (E, rfM) k ((2 : Int32) * nI (o (i + 1)) + nI α) y = k (cuF (lwO G sel uo o α) (hgO G sel uo o α) (fdJ S (nI (m - 1))) r (i + 1)) (nI (i + 1 + 1)) (M3, rfM) := fun y k hy => by
        unfold f_X12_distribute_J212
        rw [zn_eq, hy, gm16, Option.bind_some, r12 E (i + 1) g2 (by omega), Option.bind_some, gm8, Option.bind_some, r7 E (i + 1) g2 (by omega), Option.bind_some]
        show (f_X12_laysUnit TM N (E, rfM) 0 (nI (o (i + 1))) (nI α) (wF (lwO G sel uo o α) (hgO G sel uo o α) (fdJ S (nI (m - 1))) r (i + 1))).bind _ = _
        rw [e3, Option.bind_some, gm9, Option.bind_some, r8 M3 (i + 1) g3 (by omega), Option.bind_some, gm8, Option.bind_some, r7 M3 (i + 1) g3 (by omega), Option.bind_some, zn_eq, zn_eq, nI_1]
        rfl
      refine Or.inl ⟨_, nI (i + 1 + 1), (M3, rfM), ⟨rfl, rfl, M3, rfl, fun s hs => ?_, g3⟩, fun k => ?_⟩
      · rw [(k1 s hs).1, (k1 s hs).2]
        by_cases hb : uB sel uo (o (i + 1)) s = true
        · obtain ⟨hb1, hb2⟩ := uB_iff.mp hb
          have hp : poF o m (uo s) = i + 1 := (po_iff ho (b5 s hs hb1).2 (by omega)).mp hb2.symm
          have hq : sel s = true ∧ poF o m (uo s) ≤ i + 1 := ⟨hb1, by omega⟩
          have hw : wy s = wF (lwO G sel uo o α) (hgO G sel uo o α) (fdJ S (nI (m - 1))) r (i + 1) := by
            rw [← hwy]
            unfold wyO
            rw [wyF_t hb1, hp]
          rw [if_pos hb, if_pos hb, if_pos hq, if_pos hq]
          unfold axs
          rw [hw]
          exact ⟨rfl, rfl⟩
        · have hq : (sel s = true ∧ poF o m (uo s) ≤ i + 1) ↔ (sel s = true ∧ poF o m (uo s) ≤ i) := ⟨fun h => ⟨h.1, by
            have : poF o m (uo s) ≠ i + 1 := fun e => hb (uB_iff.mpr ⟨h.1, ((po_iff ho (b5 s hs h.1).2 (by omega)).mpr e).symm⟩)
            omega⟩, fun h => ⟨h.1, by omega⟩⟩
          rw [if_neg hb, if_neg hb]
          simp only [hq]
          exact g1 s hs
      · unfold f_X12_distribute_L172
        rw [gI_of TM_0, g2 _ _ (by decide) (by decide), hd2 _ _ (by decide) (by decide) (by decide), b4, Option.bind_some, if_neg (nI_ge (show i + 1 < m by omega) (by omega)), gm16, Option.bind_some, r12 E (i + 1) g2 (by omega), Option.bind_some, zn_eq, show nI (i + 1) - (1 : Int32) = nI i by rw [← nI_1, Int32.add_sub_cancel]]
        by_cases h : r ≤ i
        · rw [if_pos (nI_le h (by omega))]
          exact hJ2 _ k (by unfold gpF; rw [if_neg (by omega), Int32.add_zero])
        · rw [if_neg (nI_ge (by omega) (by omega))]
          exact hJ2 _ k (by unfold gpF; rw [if_pos (by omega)])
    · rintro x0 x1 st ⟨rfl, rfl, E, rfl, g1, g2⟩ k
      refine ⟨E, ?_, fun s hs => ?_, g2⟩
      · unfold f_X12_distribute_L172
        rw [gI_of TM_0, g2 _ _ (by decide) (by decide), hd2 _ _ (by decide) (by decide) (by decide), b4, Option.bind_some, if_pos (nI_le (show m ≤ m - 1 + 1 by omega) (by omega))]
      · rw [(g1 s hs).1, (g1 s hs).2]
        cases hsl : sel s
        · rw [if_neg (fun e => by cases e.1), if_neg (fun e => by cases e.1), ← hwy]
          unfold axs wyO
          rw [wyF_f hsl]
          exact ⟨by split <;> rfl, by split <;> rfl⟩
        · have hp := (po_ok ho (b5 s hs hsl).2).1
          rw [if_pos ⟨rfl, by omega⟩, if_pos ⟨rfl, by omega⟩]
          exact ⟨rfl, rfl⟩
    · rw [(h0 s hs).1, (h0 s hs).2]
      by_cases h : sel s = true ∧ poF o m (uo s) ≤ 0
      · rw [if_pos h, if_pos h, ← hwy]
        unfold axs wyO
        rw [wyF_t h.1, show poF o m (uo s) = 0 by omega, show wF (lwO G sel uo o α) (hgO G sel uo o α) (fdJ S (nI (m - 1))) r 0 = 0 from rfl]
        exact ⟨by split <;> rfl, by split <;> rfl⟩
      · rw [if_neg h, if_neg h]
        exact ⟨rfl, rfl⟩
  obtain ⟨M', h1, h2, h3⟩ := hJ
  refine ⟨M', ?_, h2, h3⟩
  rw [← h1]
  refine zl2_end (m - 2) (fun i => spF (lwO G sel uo o α) (hgO G sel uo o α) (lwO G sel uo o α (m - 1) - hgO G sel uo o α 0) i) (fun i => nI (i + 1)) rfl rfl (by omega) (fun i hi k => ?_) (fun k => ?_)
  · unfold f_X12_distribute_L75
    rw [if_neg (nI_ge (show i + 1 < m - 1 by omega) (by omega)), gm9, Option.bind_some, gm16, Option.bind_some, r12 D (i + 1) hre (by omega), Option.bind_some, r8 D (i + 1) hre (by omega), Option.bind_some, gm8, Option.bind_some, Option.bind_some, r12 D (i + 1) hre (by omega), Option.bind_some, r7 D (i + 1) hre (by omega), Option.bind_some, zn_eq, zn_eq, nI_1]
    rfl
  · show f_X12_distribute_L75 TM N 0 (nI α) (D, rfM) (nI (m - 1)) k (spF (lwO G sel uo o α) (hgO G sel uo o α) (lwO G sel uo o α (m - 1) - hgO G sel uo o α 0) (m - 2)) (nI (m - 2 + 1)) = _
    unfold f_X12_distribute_L75
    rw [← hS, show m - 2 + 1 = m - 1 by omega, if_pos (nI_le (Nat.le_refl (m - 1)) (by omega)), zz1_of hd0, zn_eq, ← hr2]
    unfold rsJ
    by_cases h : 0 ≤ S - S / nI (m - 1) * nI (m - 1)
    · rw [if_pos h, if_pos h]
    · rw [if_neg h, if_neg h]
end PLN
