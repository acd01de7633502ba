/-! moving: what the reference lays down, tests and does; move -/
def allB (f : Nat → Bool) : Nat → Bool
  | 0 => true
  | n + 1 => allB f n && f n
theorem allB_iff {f : Nat → Bool} : ∀ {n : Nat}, allB f n = true ↔ ∀ i, i < n → f i = true := by
  intro n
  induction n with
  | zero => exact ⟨fun _ i h => by omega, fun _ => rfl⟩
  | succ n ih =>
    show (allB f n && f n) = true ↔ _
    rw [Bool.and_eq_true, ih]
    refine ⟨fun h i hi => ?_, fun h => ⟨fun i hi => h i (by omega), h n (by omega)⟩⟩
    by_cases e : i = n
    · rw [e]; exact h.2
    · exact h.1 i (by omega)
section MOV
variable {G M : Nat → Nat → Int32} {q : Nat → Option Nat} {N : Nat} {n c ln : Nat} {th sel gt : Nat → Bool} {p : Nat → Nat} {hs hg : Nat → Option Nat} {ρ : Nat → Nat → Option Nat} {V : Nat → Int32} {s t a b y k o d : Nat} {dx dy : Int32}
/-- a shape stays within when it goes by what is laid down -/
def stB (th : Nat → Bool) (G : Nat → Nat → Int32) (bx bz : Nat → Int32) (s : Nat) : Bool := !th s || (decide (wth (G (4 + s) 2 + bx s) (-10000) 10000 = 1) && decide (wth (G (4 + s) 3 + bz s) (-10000) 10000 = 1))
theorem m_lays (hN : 20 < N) (hS : QS n th G (M 1)) (hC : QC th sel G (M 1)) : ∃ M', f_X12_lays TM N (M, rfM) 0 dx dy = some (M', rfM) ∧ (∀ s, s < 20 → M' 10 s = (if sel s = true then dx else 0) ∧ M' 11 s = if sel s = true then dy else 0) ∧ ∀ a j, a ≠ 10 → a ≠ 11 → M' a j = M a j := by
  unfold f_X12_lays
  rw [zz1_of TM_0]
  refine zl2_inv (P := fun r => ∃ M' : Nat → Nat → Int32, r = some (M', rfM) ∧ (∀ s, s < 20 → M' 10 s = (if sel s = true then dx else 0) ∧ M' 11 s = if sel s = true then dy else 0) ∧ ∀ a j, a ≠ 10 → a ≠ 11 → M' a j = M a j) 20
    (fun i (x : Int32) st => x = nI i ∧ ∃ M' : Nat → Nat → Int32, st = (M', rfM) ∧ (∀ s, s < i → M' 10 s = (if sel s = true then dx else 0) ∧ M' 11 s = if sel s = true then dy else 0) ∧ ∀ a j, a ≠ 10 → a ≠ 11 → M' a j = M a j) ?_ ?_ 20 0 N (0 : Int32) (M, rfM) rfl hN ⟨nI_0.symm, M, rfl, fun s h => by omega, fun a j _ _ => rfl⟩
  · rintro i hi x st ⟨rfl, M1, rfl, hA, hB⟩
    refine Or.inl ⟨nI (i + 1), (zu (zu M1 10 i (if sel i = true then dx else 0)) 11 i (if sel i = true then dy else 0), rfM), ⟨rfl, _, rfl, fun s hs => ?_, fun a j h1 h2 => ?_⟩, fun k => ?_⟩
    · by_cases e : s = i
      · subst e
        rw [zu_cell (by decide), zu_same, zu_same]
        exact ⟨rfl, rfl⟩
      · rw [zu_cell (by decide), zu_ne (fun _ => e), zu_ne (fun _ => e), zu_cell (by decide)]
        exact hA s (by omega)
    · rw [zu_cell h2, zu_cell h1, hB a j h1 h2]
    · have q1 : ∀ M2 : Nat → Nat → Int32, (∀ j, M2 1 j = M 1 j) → f_X12_isSelected TM N (M2, rfM) 0 (nI i) = some (bI (sel i), (M2, rfM)) := fun M2 h2 => by
        have e : M2 1 = M 1 := funext h2
        exact m_isSelected (G := G) hi (e ▸ hS) (e ▸ hC)
      unfold f_X12_lays_L2 f_X12_lays_J26
      rw [if_neg (nI_n20 hi), gm12, Option.bind_some, q1 M1 (fun j => hB _ _ (by omega) (by omega)), zb2_some]
      by_cases h : sel i = true
      · rw [h, if_neg (by decide), sI_of TM_10 ML_10 hi (by decide), Option.bind_some, gm13, Option.bind_some, q1 _ (fun j => by rw [zu_cell (by decide)]; exact hB _ _ (by omega) (by omega)), zb2_some, h, if_neg (by decide), sI_of TM_11 ML_11 hi (by decide), Option.bind_some, zn_eq, nI_1]
        rfl
      · have h2 : sel i = false := by simpa using h
        rw [h2, if_pos (by decide), sI_of TM_10 ML_10 hi (by decide), Option.bind_some, gm13, Option.bind_some, q1 _ (fun j => by rw [zu_cell (by decide)]; exact hB _ _ (by omega) (by omega)), zb2_some, h2, if_pos (by decide), sI_of TM_11 ML_11 hi (by decide), Option.bind_some, zn_eq, nI_1]
        rfl
  · rintro x st ⟨rfl, M1, rfl, hA, hB⟩ k
    refine ⟨M1, ?_, hA, hB⟩
    unfold f_X12_lays_L2
    rw [if_pos (nI_20 (Nat.le_refl 20) (by decide))]
theorem m_isInside (hN : 20 < N) (hS : QS n th G (M 1)) : f_X12_isInside TM N (M, rfM) 0 = some (bI (allB (stB th G (M 10) (M 11)) 20), (M, rfM)) := by
  unfold f_X12_isInside
  rw [zz1_of TM_0]
  refine zl3_end 20 (fun i => bI (allB (stB th G (M 10) (M 11)) i)) (fun i => nI i) (fun _ => (M, rfM)) rfl nI_0.symm rfl hN (fun i hi k => ?_) (fun k => ?_)
  · have ea : allB (stB th G (M 10) (M 11)) (i + 1) = (allB (stB th G (M 10) (M 11)) i && stB th G (M 10) (M 11) i) := rfl
    have of0 : f_X12_of TM N (M, rfM) 0 (nI i) (0 : Int32) = some (bI (th i), (M, rfM)) := (m_of (j := 0) (by omega)).trans (by rw [show 10 + 8 * i + 0 = 10 + 8 * i from rfl, hS.tV i hi])
    unfold f_X12_isInside_L4
    rw [if_neg (nI_n20 hi), ea]
    by_cases h : allB (stB th G (M 10) (M 11)) i = true
    · rw [h, if_neg (by decide), of0, zb2_some, Bool.true_and]
      by_cases ht : th i = true
      · have es : stB th G (M 10) (M 11) i = (decide (wth (G (4 + i) 2 + M 10 i) (-10000) 10000 = 1) && decide (wth (G (4 + i) 3 + M 11 i) (-10000) 10000 = 1)) := by unfold stB; rw [ht]; rfl
        have hf : ∀ j, 2 ≤ j → j < 6 → M 1 (10 + 8 * i + j) = G (4 + i) j := fun j h1 h2 => hS.fV i hi ht j (by omega) h2
        rw [ht, if_neg (by decide), mB0 hi hf, zb2_some, gm12, Option.bind_some, aI_of TM_10 ML_10 hi (by decide), Option.bind_some, m_isPlace, zb2_some, es]
        rcases wth01 (G (4 + i) 2 + M 10 i) (-10000) 10000 with hw | hw
        · rw [hw, if_pos rfl, zn_eq, nI_1]
          rfl
        · rw [hw, if_neg (by decide), mB1 hi hf, zb2_some, gm13, Option.bind_some, aI_of TM_11 ML_11 hi (by decide), Option.bind_some, m_isPlace, zb2_some]
          rcases wth01 (G (4 + i) 3 + M 11 i) (-10000) 10000 with hw2 | hw2
          · rw [hw2, if_pos rfl, zn_eq, nI_1]
            rfl
          · rw [hw2, if_neg (by decide), zn_eq, nI_1]
            rfl
      · have ht2 : th i = false := by simpa using ht
        have es : stB th G (M 10) (M 11) i = true := by unfold stB; rw [ht2]; rfl
        rw [ht2, if_pos (by decide), zn_eq, nI_1, es]
        rfl
    · have h2 : allB (stB th G (M 10) (M 11)) i = false := by simpa using h
      rw [h2, if_pos (by decide), zn_eq, nI_1, Bool.false_and]
      rfl
  · unfold f_X12_isInside_L4
    rw [if_pos (nI_20 (Nat.le_refl 20) (by decide)), rZ_01 (bI01 _)]
theorem m_movesAll (hN : 20 < N) : ∃ M', f_X12_movesAll TM N (M, rfM) 0 = some (M', rfM) ∧ (∀ s, s < 20 → M' 1 (10 + 8 * s + 2) = M 1 (10 + 8 * s + 2) + M 10 s ∧ M' 1 (10 + 8 * s + 3) = M 1 (10 + 8 * s + 3) + M 11 s) ∧ ∀ a j, ¬ (a = 1 ∧ ∃ s, s < 20 ∧ (j = 10 + 8 * s + 2 ∨ j = 10 + 8 * s + 3)) → M' a j = M a j := by
  unfold f_X12_movesAll
  rw [zz1_of TM_0]
  refine zl2_inv (P := fun r => ∃ M' : Nat → Nat → Int32, r = some (M', rfM) ∧ (∀ s, s < 20 → M' 1 (10 + 8 * s + 2) = M 1 (10 + 8 * s + 2) + M 10 s ∧ M' 1 (10 + 8 * s + 3) = M 1 (10 + 8 * s + 3) + M 11 s) ∧ ∀ a j, ¬ (a = 1 ∧ ∃ s, s < 20 ∧ (j = 10 + 8 * s + 2 ∨ j = 10 + 8 * s + 3)) → M' a j = M a j) 20
    (fun i (x : Int32) st => x = nI i ∧ ∃ M' : Nat → Nat → Int32, st = (M', rfM) ∧ (∀ s, s < i → M' 1 (10 + 8 * s + 2) = M 1 (10 + 8 * s + 2) + M 10 s ∧ M' 1 (10 + 8 * s + 3) = M 1 (10 + 8 * s + 3) + M 11 s) ∧ ∀ a j, ¬ (a = 1 ∧ ∃ s, s < i ∧ (j = 10 + 8 * s + 2 ∨ j = 10 + 8 * s + 3)) → M' a j = M a j) ?_ ?_ 20 0 N (0 : Int32) (M, rfM) rfl hN ⟨nI_0.symm, M, rfl, fun s h => by omega, fun a j _ => rfl⟩
  · rintro i hi x st ⟨rfl, M1, rfl, hA, hB⟩
    have b2 : M1 1 (10 + 8 * i + 2) = M 1 (10 + 8 * i + 2) := hB _ _ (fun ⟨_, s, h, e⟩ => by omega)
    have b3 : M1 1 (10 + 8 * i + 3) = M 1 (10 + 8 * i + 3) := hB _ _ (fun ⟨_, s, h, e⟩ => by omega)
    have b10 : M1 10 i = M 10 i := hB _ _ (fun ⟨e, _⟩ => by omega)
    have b11 : M1 11 i = M 11 i := hB _ _ (fun ⟨e, _⟩ => by omega)
    refine Or.inl ⟨nI (i + 1), (zu (zu M1 1 (10 + 8 * i + 2) (M 1 (10 + 8 * i + 2) + M 10 i)) 1 (10 + 8 * i + 3) (M 1 (10 + 8 * i + 3) + M 11 i), rfM), ⟨rfl, _, rfl, fun s hs => ?_, fun a j h1 => ?_⟩, fun k => ?_⟩
    · by_cases e : s = i
      · subst e
        rw [zu_ne (fun _ => by omega), zu_same, zu_same]
        exact ⟨rfl, rfl⟩
      · rw [zu_ne (fun _ => by omega), zu_ne (fun _ => by omega), zu_ne (fun _ => by omega), zu_ne (fun _ => by omega)]
        exact hA s (by omega)
    · rw [zu_ne (fun e1 e2 => h1 ⟨e1, i, by omega, Or.inr e2⟩), zu_ne (fun e1 e2 => h1 ⟨e1, i, by omega, Or.inl e2⟩), hB a j (fun ⟨e1, s, e2, e3⟩ => h1 ⟨e1, s, by omega, e3⟩)]
    · unfold f_X12_movesAll_L2
      rw [if_neg (nI_n20 hi), g_v, Option.bind_some, v_rdL (show (10 : Int32) + 8 * nI i + 2 = nI (10 + 8 * i + 2) from ix8j i 2) (by omega), Option.bind_some, gm12, Option.bind_some, aI_of TM_10 ML_10 hi (by decide), Option.bind_some, v_wrL (show (10 : Int32) + 8 * nI i + 2 = nI (10 + 8 * i + 2) from ix8j i 2) (by omega), Option.bind_some, g_v, Option.bind_some, v_rdL (show (10 : Int32) + 8 * nI i + 3 = nI (10 + 8 * i + 3) from ix8j i 3) (by omega), Option.bind_some, gm13, Option.bind_some, aI_of TM_11 ML_11 hi (by decide), Option.bind_some, v_wrL (show (10 : Int32) + 8 * nI i + 3 = nI (10 + 8 * i + 3) from ix8j i 3) (by omega), Option.bind_some, zn_eq, nI_1, zu_ne (fun _ => by omega), zu_cell (by decide), b2, b3, b10, b11]
  · rintro x st ⟨rfl, M1, rfl, hA, hB⟩ k
    refine ⟨M1, ?_, hA, hB⟩
    unfold f_X12_movesAll_L2
    rw [if_pos (nI_20 (Nat.le_refl 20) (by decide))]
/-- the shapes of a relation go by what was laid down, on both sides -/
theorem QS_go {D D' : Nat → Nat → Int32} {V V' : Nat → Int32} {bx bz : Nat → Int32} (h : QS n th D V) (hb : ∀ s, s < 20 → th s = true → wth (D (4 + s) 2 + bx s) (-10000) 10000 = 1 ∧ wth (D (4 + s) 3 + bz s) (-10000) 10000 = 1) (d1 : ∀ s, s < 20 → th s = true → D' (4 + s) 2 = D (4 + s) 2 + bx s ∧ D' (4 + s) 3 = D (4 + s) 3 + bz s) (d2 : ∀ s, s < 20 → ∀ j, j < 6 → j ≠ 2 → j ≠ 3 → D' (4 + s) j = D (4 + s) j) (d3 : D' 2 1 = D 2 1) (v1 : ∀ s, s < 20 → th s = true → V' (10 + 8 * s + 2) = V (10 + 8 * s + 2) + bx s ∧ V' (10 + 8 * s + 3) = V (10 + 8 * s + 3) + bz s) (v2 : ∀ s, s < 20 → ∀ j, j < 6 → j ≠ 2 → j ≠ 3 → V' (10 + 8 * s + j) = V (10 + 8 * s + j)) (v3 : V' 0 = V 0) : QS n th D' V' := by
  refine QS_upd h (fun s hs => d2 s hs 0 (by omega) (by omega) (by omega)) d3 v3 (fun s hs => v2 s hs 0 (by omega) (by omega) (by omega)) (fun s hs ht j j1 j2 => ?_) (fun s hs ht => ?_)
  · have hv := h.fV s hs ht
    by_cases e2 : j = 2
    · subst e2
      rw [(v1 s hs ht).1, (d1 s hs ht).1, hv 2 (by omega) (by omega)]
    · by_cases e3 : j = 3
      · subst e3
        rw [(v1 s hs ht).2, (d1 s hs ht).2, hv 3 (by omega) (by omega)]
      · rw [v2 s hs j j2 e2 e3, d2 s hs j j2 e2 e3, hv j j1 j2]
  · obtain ⟨f1, f2, f3⟩ := h.fD s hs ht
    refine ⟨by rw [d2 s hs 1 (by omega) (by omega) (by omega)]; exact f1, fun j j1 j2 => ?_, fun j j1 j2 => by rw [d2 s hs j (by omega) (by omega) (by omega)]; exact f3 j j1 j2⟩
    have : j = 2 ∨ j = 3 := by omega
    rcases this with rfl | rfl
    · rw [(d1 s hs ht).1]; exact wthC (hb s hs ht).1
    · rw [(d1 s hs ht).2]; exact wthC (hb s hs ht).2
/-- the class's shifting of a set along both axes -/
theorem shift2 {S : Int32} {s j : Nat} (h : s < 20) : mapC (mapC G (fun s => liv G s && bt S s) 2 (fun x => x + dx) 20) (fun s => liv (mapC G (fun s => liv G s && bt S s) 2 (fun x => x + dx) 20) s && bt S s) 3 (fun x => x + dy) 20 (4 + s) j = if j = 2 then (if liv G s && bt S s then G (4 + s) 2 + dx else G (4 + s) 2) else if j = 3 then (if liv G s && bt S s then G (4 + s) 3 + dy else G (4 + s) 3) else G (4 + s) j := by
  by_cases e3 : j = 3
  · subst e3
    rw [mapC_in h, liv_mapC (by decide), mapC_out (Or.inr (Or.inr (by decide))), if_neg (show ¬ (3 : Nat) = 2 by decide), if_pos rfl]
  · rw [mapC_out (Or.inr (Or.inr e3))]
    by_cases e2 : j = 2
    · subst e2
      rw [mapC_in h, if_pos rfl]
    · rw [mapC_out (Or.inr (Or.inr e2)), if_neg e2, if_neg e3]
/-- both tests are one -/
theorem can_st (hS : QS n th G V) (hC : QC th sel G V) : (canG G (mkS sel 20) 0 dx ∧ canG G (mkS sel 20) 1 dy) ↔ allB (stB th G (fun s => if sel s = true then dx else 0) (fun s => if sel s = true then dy else 0)) 20 = true := by
  rw [allB_iff]
  constructor
  · rintro ⟨h1, h2⟩ s hs
    unfold stB
    by_cases ht : th s = true
    · rw [ht, Bool.not_true, Bool.false_or, Bool.and_eq_true, decide_eq_true_iff, decide_eq_true_iff]
      by_cases hsl : sel s = true
      · simp only [if_pos hsl]
        exact ⟨h1 s hs (by rw [QS_liv hS hs]; exact ht) (by rw [bt_S sel hs]; exact hsl), h2 s hs (by rw [QS_liv hS hs]; exact ht) (by rw [bt_S sel hs]; exact hsl)⟩
      · simp only [if_neg hsl, Int32.add_zero]
        have hf := (hS.fD s hs ht).2.1
        have e1 : (-10000 : Int32).toInt = -10000 := by decide
        have e2 : (10000 : Int32).toInt = 10000 := by decide
        refine ⟨wth1.mpr ⟨?_, ?_⟩, wth1.mpr ⟨?_, ?_⟩⟩
        · rw [fa_le, e1]; exact (hf 2 (by omega) (by omega)).1
        · rw [fa_le, e2]; exact (hf 2 (by omega) (by omega)).2
        · rw [fa_le, e1]; exact (hf 3 (by omega) (by omega)).1
        · rw [fa_le, e2]; exact (hf 3 (by omega) (by omega)).2
    · have ht2 : th s = false := by simpa using ht
      rw [ht2]
      rfl
  · intro h
    have key : ∀ s, s < 20 → liv G s = true → bt (mkS sel 20) s = true → wth (G (4 + s) 2 + dx) (-10000) 10000 = 1 ∧ wth (G (4 + s) 3 + dy) (-10000) 10000 = 1 := fun s hs hl hb => by
      have ht : th s = true := by rw [← QS_liv hS hs]; exact hl
      have hsl : sel s = true := by rw [← bt_S sel hs]; exact hb
      have h2 := h s hs
      unfold stB at h2
      rw [ht, Bool.not_true, Bool.false_or, Bool.and_eq_true, decide_eq_true_iff, decide_eq_true_iff] at h2
      simp only [if_pos hsl] at h2
      exact h2
    exact ⟨fun s hs hl hb => (key s hs hl hb).1, fun s hs hl hb => (key s hs hl hb).2⟩
theorem e_canShiftChosen (hN : 20 < N) (hS : QS n th G V) (hC : QC th sel G V) : f_X11_canShiftChosen TC N (G, rfC q) 0 dx dy = some (bI (allB (stB th G (fun s => if sel s = true then dx else 0) (fun s => if sel s = true then dy else 0)) 20), (G, rfC q)) := by
  have hst := can_st (dx := dx) (dy := dy) hS hC
  unfold f_X11_canShiftChosen
  rw [zz1_of TC_0]
  simp only [g_now, g_shapes, Option.bind_some, gI_of TC_2, hC.cD]
  have k0 := e_canShift (G := G) (q := q) (N := N) hN (α := 0) (by omega) (mkS sel 20) dx
  have k1 := e_canShift (G := G) (q := q) (N := N) hN (α := 1) (by omega) (mkS sel 20) dy
  have no : ¬ (canG G (mkS sel 20) 0 dx ∧ canG G (mkS sel 20) 1 dy) → allB (stB th G (fun s => if sel s = true then dx else 0) (fun s => if sel s = true then dy else 0)) 20 = false := fun h => by
    cases e : allB (stB th G (fun s => if sel s = true then dx else 0) (fun s => if sel s = true then dy else 0)) 20
    · rfl
    · exact absurd (hst.mpr e) h
  by_cases h0 : canG G (mkS sel 20) 0 dx
  · rw [show f_X7_canShift TC N (G, rfC q) 2 (mkS sel 20) (0 : Int32) dx = _ from k0.1 h0, zb2_some, if_neg (by decide)]
    simp only [g_now, g_shapes, Option.bind_some]
    by_cases h1 : canG G (mkS sel 20) 1 dy
    · rw [show f_X7_canShift TC N (G, rfC q) 2 (mkS sel 20) (1 : Int32) dy = _ from k1.1 h1, zb2_some, if_neg (by decide), hst.mp ⟨h0, h1⟩]
      rfl
    · rw [show f_X7_canShift TC N (G, rfC q) 2 (mkS sel 20) (1 : Int32) dy = _ from k1.2 h1, zb2_some, if_pos rfl, no (fun q => h1 q.2)]
      rfl
  · rw [show f_X7_canShift TC N (G, rfC q) 2 (mkS sel 20) (0 : Int32) dx = _ from k0.2 h0, zb2_some, if_pos rfl, no (fun q => h0 q.1)]
    rfl
theorem e_shiftChosen (hN : 20 < N) (hC : QC th sel G V) : f_X11_shiftChosen TC N (G, rfC q) 0 dx dy = some (mapC (mapC G (fun s => liv G s && bt (mkS sel 20) s) 2 (fun x => x + dx) 20) (fun s => liv (mapC G (fun s => liv G s && bt (mkS sel 20) s) 2 (fun x => x + dx) 20) s && bt (mkS sel 20) s) 3 (fun x => x + dy) 20, rfC q) := by
  unfold f_X11_shiftChosen
  rw [zz1_of TC_0]
  simp only [g_now, g_shapes, Option.bind_some, gI_of TC_2, hC.cD]
  rw [show f_X7_shift TC N (G, rfC q) 2 (mkS sel 20) (0 : Int32) dx = _ from e_shift hN (α := 0) (by omega) (mkS sel 20) dx, Option.bind_some]
  simp only [g_now, g_shapes, Option.bind_some, gI_of TC_2]
  rw [mapC_out (Or.inl (by omega)), hC.cD, show f_X7_shift TC N (mapC G (fun s => liv G s && bt (mkS sel 20) s) (2 + 0) (fun x => x + dx) 20, rfC q) 2 (mkS sel 20) (1 : Int32) dy = _ from e_shift hN (α := 1) (by omega) (mkS sel 20) dy, Option.bind_some]
end MOV
