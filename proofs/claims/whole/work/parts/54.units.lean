/-! outermost groups; select -/
theorem insA_no {hg : Nat → Option Nat} {g : Nat} : ∀ n, insA hg g n none = false := by
  intro n
  cases n <;> rfl
theorem topA_ins {hg : Nat → Option Nat} {g : Nat} : ∀ (n : Nat) (x : Option Nat), topA hg n x = some g → insA hg g n x = true := by
  intro n
  induction n with
  | zero => intro x h; exact decide_eq_true h
  | succ n ih =>
    intro x h
    cases x with
    | none => cases h
    | some k =>
      show (decide (k = g) || insA hg g n (hg k)) = true
      unfold topA at h
      cases e : hg k with
      | none =>
        rw [e] at h
        have : k = g := by simpa using h
        rw [this]
        simp
      | some k2 =>
        rw [e] at h
        rw [ih (some k2) h, Bool.or_true]
theorem insA_top {hg : Nat → Option Nat} {g : Nat} (hn : hg g = none) : ∀ (n : Nat) (x : Option Nat), insA hg g n x = true → topA hg n x = some g := by
  intro n
  induction n with
  | zero => intro x h; exact of_decide_eq_true h
  | succ n ih =>
    intro x h
    cases x with
    | none => cases h
    | some k =>
      have h : (decide (k = g) || insA hg g n (hg k)) = true := h
      unfold topA
      by_cases e : k = g
      · subst e
        rw [hn]
      · rw [decide_eq_false e, Bool.false_or] at h
        cases e2 : hg k with
        | none => rw [e2, insA_no] at h; cases h
        | some k2 =>
          rw [e2] at h
          exact ih (some k2) h
theorem topA_end {K : Nat → Prop} {hg : Nat → Option Nat} {r : Nat → Nat} (hK : ∀ g, K g → ∀ g2, hg g = some g2 → K g2) (hr : ∀ g, K g → ∀ g2, hg g = some g2 → r g2 < r g) {g : Nat} : ∀ (b : Nat) (x : Option Nat), (∀ k, x = some k → K k ∧ r k < b) → topA hg b x = some g → hg g = none := by
  intro b
  induction b with
  | zero =>
    intro x hx h
    have := (hx g h).2
    omega
  | succ b ih =>
    intro x hx h
    cases x with
    | none => cases h
    | some k =>
      obtain ⟨h1, h2⟩ := hx k rfl
      unfold topA at h
      cases e : hg k with
      | none =>
        rw [e] at h
        have : k = g := by simpa using h
        rw [← this]
        exact e
      | some k2 =>
        rw [e] at h
        refine ih (some k2) (fun k3 h3 => ?_) h
        cases h3
        have := hr k h1 k2 e
        exact ⟨hK k h1 k2 e, by omega⟩
/-- the outermost group of a shape -/
def unO (hs hg : Nat → Option Nat) (s : Nat) : Option Nat := topA hg 8 (hs s)
/-- the shapes that are selected together with s -/
def unA (th : Nat → Bool) (hs hg : Nat → Option Nat) (s i : Nat) : Bool := match unO hs hg s with
  | none => decide (i = s)
  | some g => th i && decide (unO hs hg i = some g)
section UNT
variable {G M : Nat → Nat → Int32} {q : Nat → Option Nat} {N : Nat} {n c ln : Nat} {th sel gt : Nat → Bool} {p : Nat → Nat} {hs hg : Nat → Option Nat} {ρ : Nat → Nat → Option Nat} {V : Nat → Int32} {s t a b y k o d : Nat}
theorem unO_8 {D : Nat → Nat → Int32} (hH : QH th sel hs hg gt D V) (h : s < 20) (ht : th s = true) {g : Nat} (e : unO hs hg s = some g) : g < 8 ∧ gt g = true ∧ hg g = none := by
  obtain ⟨r, hr⟩ := rk8 hH.gg hH.rk
  have h1 : ∀ (b : Nat) (x : Option Nat), (∀ g, x = some g → g < 8 ∧ gt g = true) → ∀ g, topA hg b x = some g → g < 8 ∧ gt g = true := by
    intro b
    induction b with
    | zero => intro x hx g e; exact hx g e
    | succ b ih =>
      intro x hx g e
      cases x with
      | none => cases e
      | some k =>
        unfold topA at e
        cases e2 : hg k with
        | none =>
          rw [e2] at e
          have : k = g := by simpa using e
          subst this
          exact hx k rfl
        | some k2 =>
          rw [e2] at e
          exact ih (some k2) (fun g h => by cases h; exact hH.gg k (hx k rfl).1 (hx k rfl).2 k2 e2) g e
  obtain ⟨a1, a2⟩ := h1 8 (hs s) (fun g e => hH.sg s h ht g e) g e
  exact ⟨a1, a2, topA_end (K := fun g => g < 8 ∧ gt g = true) (r := r) (fun g hg2 g2 e => hH.gg g hg2.1 hg2.2 g2 e) (fun g hg2 g2 e => (hr g hg2).2 g2 e) 8 (hs s) (fun k e => ⟨hH.sg s h ht k e, (hr k (hH.sg s h ht k e)).1⟩) e⟩
theorem ins_un {D : Nat → Nat → Int32} (hH : QH th sel hs hg gt D V) {g : Nat} (hn : hg g = none) (i : Nat) : insA hg g 8 (hs i) = decide (unO hs hg i = some g) := by
  by_cases e : unO hs hg i = some g
  · rw [decide_eq_true e, topA_ins 8 _ e]
  · rw [decide_eq_false e]
    cases h : insA hg g 8 (hs i)
    · rfl
    · exact absurd (insA_top hn 8 _ h) e
theorem untG_A (hS : QS n th G V) (hH : QH th sel hs hg gt G V) (h : s < 20) (ht : th s = true) {i : Nat} (hi : i < 20) : untG G s i = unA th hs hg s i := by
  have e1 : outG G 8 (G (4 + s) 7) = hC (unO hs hg s) := by
    rw [hH.sD s h ht]
    exact outG_K (QH_K hH).1 8 (hs s) (fun g e => hH.sg s h ht g e)
  unfold untG unA
  rw [e1]
  cases e : unO hs hg s with
  | none => rw [if_pos (show hC none = -1000000 from rfl)]
  | some g =>
    obtain ⟨g8, gg, gn⟩ := unO_8 hH h ht e
    rw [if_neg (show ¬ hC (some g) = -1000000 from nI_nNN (by omega))]
    show inG G (nI g) i = _
    rw [inG_A hS hH g8 hi]
    unfold inA
    rw [ins_un hH gn]
theorem unA_self (ht : th s = true) : unA th hs hg s s = true := by
  unfold unA
  cases e : unO hs hg s with
  | none => exact decide_eq_true rfl
  | some g =>
    show (th s && decide (some g = some g)) = true
    rw [ht]
    simp
theorem m_many (hN : 20 < N) {σ : zS} (P : Nat → Bool) : f_X12_many TM N σ (mkS P 20) = some (nI (cnt P 20), σ) := by
  unfold f_X12_many
  refine zl2_end 20 (fun i => nI (cnt P i)) (fun i => nI i) nI_0.symm nI_0.symm hN (fun i hi k => ?_) (fun k => ?_)
  · unfold f_X12_many_L4
    rw [if_neg (nI_n20 hi), zn_eq, zn_eq, b_ask (by omega), bt_S P hi, nI_1]
    by_cases h : P i = true
    · rw [if_pos h, nI_1, cnt_t h]
    · rw [if_neg h, Int32.add_zero, cnt_f h]
  · unfold f_X12_many_L4
    rw [if_pos (nI_20 (Nat.le_refl 20) (by decide))]
/-- who is selected after a selecting -/
def selN (U sel : Nat → Bool) (on : Bool) (i : Nat) : Bool := if U i = true then on else sel i
theorem sel_S {U : Nat → Bool} {on : Bool} : (if on = true then mkS sel 20 ||| mkS U 20 else mkS sel 20 &&& (mkS U 20 ^^^ (-1))) = mkS (selN U sel on) 20 := by
  unfold selN
  cases on
  · rw [if_neg (by decide), S_diff]
    refine mkS_ext (fun i _ => ?_)
    cases U i <;> simp
  · rw [if_pos rfl, S_or]
    refine mkS_ext (fun i _ => ?_)
    cases U i <;> simp
theorem selN_th (ht : th s = true) (hC : QC th sel G V) {on : Bool} : ∀ i, i < 20 → selN (unA th hs hg s) sel on i = true → th i = true := fun i hi h => by
  unfold selN at h
  by_cases e : unA th hs hg s i = true
  · unfold unA at e
    cases eu : unO hs hg s with
    | none =>
      rw [eu] at e
      rw [of_decide_eq_true e]
      exact ht
    | some g =>
      rw [eu] at e
      have e : (th i && decide (unO hs hg i = some g)) = true := e
      rw [Bool.and_eq_true] at e
      exact e.1
  · rw [if_neg e] at h
    exact hC.ct i hi h
theorem m_selL (hN : 20 < N) (hS : QS n th G (M 1)) (hC : QC th sel G (M 1)) (hH : QH th sel hs hg gt G (M 1)) (h : s < 20) (ht : th s = true) {z : Int32} {on : Bool} (hz : z = 0 ↔ on = false) :
    ∃ M', zl2 (f_X12_select_L23 TM N 0 (nI s) z (hJ (unO hs hg s))) N (0 : Int32) (M, rfM) = some (nI (cnt (selN (unA th hs hg s) sel on) 20), (M', rfM)) ∧ (∀ k, k < 20 → M' 1 (10 + 8 * k + 6) = if unA th hs hg s k = true then bI on else M 1 (10 + 8 * k + 6)) ∧ ∀ a j, ¬ (a = 1 ∧ ∃ k, k < 20 ∧ j = 10 + 8 * k + 6) → M' a j = M a j := by
  refine zl2_inv (P := fun r => ∃ M' : Nat → Nat → Int32, r = some (nI (cnt (selN (unA th hs hg s) sel on) 20), (M', rfM)) ∧ (∀ k, k < 20 → M' 1 (10 + 8 * k + 6) = if unA th hs hg s k = true then bI on else M 1 (10 + 8 * k + 6)) ∧ ∀ a j, ¬ (a = 1 ∧ ∃ k, k < 20 ∧ j = 10 + 8 * k + 6) → M' a j = M a j) 20
    (fun i (x : Int32) st => x = nI i ∧ ∃ M' : Nat → Nat → Int32, st = (M', rfM) ∧ (∀ k, k < 20 → M' 1 (10 + 8 * k + 6) = if k < i ∧ unA th hs hg s k = true then bI on else M 1 (10 + 8 * k + 6)) ∧ ∀ a j, ¬ (a = 1 ∧ ∃ k, k < 20 ∧ j = 10 + 8 * k + 6) → M' a j = M a j) ?_ ?_ 20 0 N (0 : Int32) (M, rfM) rfl hN ⟨nI_0.symm, M, rfl, fun k _ => by rw [if_neg (by omega)], fun a j _ => rfl⟩
  · rintro i hi x st ⟨rfl, M1, rfl, hA, hB⟩
    have hS1 : QS n th G (M1 1) := QS_fr hS (fun s _ j _ => rfl) rfl (hB _ _ (fun ⟨_, k, _, e⟩ => by omega)) (fun s _ j _ => hB _ _ (fun ⟨_, k, _, e⟩ => by omega))
    have hH1 : QH th sel hs hg gt G (M1 1) := QH_fr hH (fun s _ => rfl) (fun s _ => hB _ _ (fun ⟨_, k, _, e⟩ => by omega)) (fun g _ => rfl) (fun g _ _ => rfl) (fun i hi => hB _ _ (fun ⟨_, k, _, e⟩ => by omega))
    have skip : unA th hs hg s i = false → (∀ k : Int32 → zS → Option (Int32 × zS), f_X12_select_L23 TM N 0 (nI s) z (hJ (unO hs hg s)) k (nI i) (M1, rfM) = k (nI (i + 1)) (M1, rfM)) → (∃ b0 b1, (b0 = nI (i + 1) ∧ ∃ M' : Nat → Nat → Int32, b1 = (M', rfM) ∧ (∀ k, k < 20 → M' 1 (10 + 8 * k + 6) = if k < i + 1 ∧ unA th hs hg s k = true then bI on else M 1 (10 + 8 * k + 6)) ∧ ∀ a j, ¬ (a = 1 ∧ ∃ k, k < 20 ∧ j = 10 + 8 * k + 6) → M' a j = M a j) ∧ ∀ k : Int32 → zS → Option (Int32 × zS), f_X12_select_L23 TM N 0 (nI s) z (hJ (unO hs hg s)) k (nI i) (M1, rfM) = k b0 b1) := fun hu hst => by
      refine ⟨nI (i + 1), (M1, rfM), ⟨rfl, M1, rfl, fun k hk => ?_, hB⟩, hst⟩
      rw [hA k hk]
      by_cases e : k = i
      · subst e
        rw [if_neg (by omega), if_neg (fun q => by rw [hu] at q; cases q.2)]
      · by_cases e2 : k < i ∧ unA th hs hg s k = true
        · rw [if_pos e2, if_pos ⟨by omega, e2.2⟩]
        · rw [if_neg e2, if_neg (fun q => e2 ⟨by omega, q.2⟩)]
    have hJw : ∀ k : Int32 → zS → Option (Int32 × zS), f_X12_select_J61 TM N 0 z (nI i) k (M1, rfM) = k (nI (i + 1)) (zu M1 1 (10 + 8 * i + 6) (bI on), rfM) := fun k => by
      unfold f_X12_select_J61
      rw [g_v, Option.bind_some]
      by_cases e : z = 0
      · rw [if_pos e, v_wrL (show (10 : Int32) + 8 * nI i + 6 = nI (10 + 8 * i + 6) from ix8j i 6) (by omega), Option.bind_some, zn_eq, nI_1, hz.mp e]
        rfl
      · have ho : on = true := by
          cases on
          · exact absurd (hz.mpr rfl) e
          · rfl
        rw [if_neg e, v_wrL (show (10 : Int32) + 8 * nI i + 6 = nI (10 + 8 * i + 6) from ix8j i 6) (by omega), Option.bind_some, zn_eq, nI_1, ho]
        rfl
    have take : unA th hs hg s i = true → (∀ k : Int32 → zS → Option (Int32 × zS), f_X12_select_L23 TM N 0 (nI s) z (hJ (unO hs hg s)) k (nI i) (M1, rfM) = f_X12_select_J61 TM N 0 z (nI i) k (M1, rfM)) → (∃ b0 b1, (b0 = nI (i + 1) ∧ ∃ M' : Nat → Nat → Int32, b1 = (M', rfM) ∧ (∀ k, k < 20 → M' 1 (10 + 8 * k + 6) = if k < i + 1 ∧ unA th hs hg s k = true then bI on else M 1 (10 + 8 * k + 6)) ∧ ∀ a j, ¬ (a = 1 ∧ ∃ k, k < 20 ∧ j = 10 + 8 * k + 6) → M' a j = M a j) ∧ ∀ k : Int32 → zS → Option (Int32 × zS), f_X12_select_L23 TM N 0 (nI s) z (hJ (unO hs hg s)) k (nI i) (M1, rfM) = k b0 b1) := fun hu hst => by
      refine ⟨nI (i + 1), (zu M1 1 (10 + 8 * i + 6) (bI on), rfM), ⟨rfl, _, rfl, fun k hk => ?_, fun a j ha => ?_⟩, fun k => (hst k).trans (hJw k)⟩
      · by_cases e : k = i
        · subst e
          rw [zu_same, if_pos ⟨by omega, hu⟩]
        · rw [zu_ne (fun _ => by omega), hA k hk]
          by_cases e2 : k < i ∧ unA th hs hg s k = true
          · rw [if_pos e2, if_pos ⟨by omega, e2.2⟩]
          · rw [if_neg e2, if_neg (fun q => e2 ⟨by omega, q.2⟩)]
      · rw [zu_ne (fun e1 e2 => ha ⟨e1, i, hi, e2⟩), hB a j ha]
    refine Or.inl ?_
    by_cases e : i = s
    · subst e
      exact take (unA_self ht) (fun k => by
        unfold f_X12_select_L23
        rw [if_neg (nI_n20 hi), if_pos rfl])
    · have ene : ¬ nI i = nI s := fun q => e ((nI_eq (by omega) (by omega)).mp q)
      cases eu : unO hs hg s with
      | none =>
        refine eu ▸ skip (by unfold unA; rw [eu]; exact decide_eq_false e) (fun k => ?_)
        unfold f_X12_select_L23
        rw [eu, if_neg (nI_n20 hi), if_neg ene, if_pos (show hJ none < 0 by decide), zn_eq, nI_1]
      | some g =>
        obtain ⟨g8, gg, gn⟩ := unO_8 hH h ht eu
        have hgp : ¬ hJ (some g) < 0 := nI_pos (by omega)
        have of0 : f_X12_of TM N (M1, rfM) 0 (nI i) (0 : Int32) = some (bI (th i), (M1, rfM)) := (m_of (j := 0) (by omega)).trans (by rw [show 10 + 8 * i + 0 = 10 + 8 * i from rfl, hS1.tV i hi])
        have hu : unA th hs hg s i = (th i && decide (unO hs hg i = some g)) := by unfold unA; rw [eu]
        by_cases hti : th i = true
        · obtain ⟨hk, r, hr⟩ := QH_K hH1
          have hw : f_X12_isWithin TM N (M1, rfM) 0 (nI i) (hJ (some g)) = some (bI (decide (unO hs hg i = some g)), (M1, rfM)) := by
            rw [← ins_un hH gn i]
            exact m_isWithin (by omega) hk hr g8 hi (fun g e => hH.sg i hi hti g e) (hH1.sV i hi hti)
          by_cases hd : unO hs hg i = some g
          · refine eu ▸ take (by rw [hu, hti, decide_eq_true hd]; rfl) (fun k => ?_)
            unfold f_X12_select_L23
            rw [eu, if_neg (nI_n20 hi), if_neg ene, if_neg hgp, of0, zb2_some, hti, if_neg (fun n => n rfl), hw, zb2_some, decide_eq_true hd, if_neg (by decide)]
          · refine eu ▸ skip (by rw [hu, decide_eq_false hd, Bool.and_false]) (fun k => ?_)
            unfold f_X12_select_L23
            rw [eu, if_neg (nI_n20 hi), if_neg ene, if_neg hgp, of0, zb2_some, hti, if_neg (fun n => n rfl), hw, zb2_some, decide_eq_false hd, if_pos (by decide), zn_eq, nI_1]
        · have hti2 : th i = false := by simpa using hti
          refine eu ▸ skip (by rw [hu, hti2, Bool.false_and]) (fun k => ?_)
          unfold f_X12_select_L23
          rw [eu, if_neg (nI_n20 hi), if_neg ene, if_neg hgp, of0, zb2_some, hti2, if_pos (by decide), zn_eq, nI_1]
  · rintro x st ⟨rfl, M1, rfl, hA, hB⟩ k
    have hA2 : ∀ k, k < 20 → M1 1 (10 + 8 * k + 6) = if unA th hs hg s k = true then bI on else M 1 (10 + 8 * k + 6) := fun k hk => by
      rw [hA k hk]
      by_cases e : unA th hs hg s k = true
      · rw [if_pos ⟨hk, e⟩, if_pos e]
      · rw [if_neg (fun q => e q.2), if_neg e]
    refine ⟨M1, ?_, hA2, hB⟩
    have hS1 : QS n th (zu G 2 2 (mkS (selN (unA th hs hg s) sel on) 20)) (M1 1) := QS_fr hS (fun s _ j _ => zu_ne (fun e => by omega)) (zu_ne (fun _ => by omega)) (hB _ _ (fun ⟨_, k, _, e⟩ => by omega)) (fun s _ j _ => hB _ _ (fun ⟨_, k, _, e⟩ => by omega))
    have hC1 : QC th (selN (unA th hs hg s) sel on) (zu G 2 2 (mkS (selN (unA th hs hg s) sel on) 20)) (M1 1) := ⟨zu_same, fun k hk hkt => by
      rw [hA2 k hk]
      unfold selN
      by_cases e : unA th hs hg s k = true
      · rw [if_pos e, if_pos e]
      · rw [if_neg e, if_neg e]; exact hC.cV k hk hkt, selN_th ht hC⟩
    unfold f_X12_select_L23
    rw [if_pos (nI_20 (Nat.le_refl 20) (by decide)), m_chosen hN hS1 hC1, zb2_some, m_many hN, zb2_some]
theorem o_select (hN : 1901 < N) {σC σM : zS} (hI : INV σC σM) (x z : Int32) : zAg INV (f_X11_select TC N σC 0 x z) (f_X12_select TM N σM 0 x z) := by
  obtain ⟨G, q, M, rfl, rfl, ⟨n, th, sel, c, p, hs, hg, gt, ln, hA⟩, hH, hT⟩ := id hI
  unfold f_X11_select f_X12_select
  rw [zz1_of TC_0, zz1_of TM_0]
  simp only [g_now, g_shapes, Option.bind_some]
  rcases shp (q := q) (N := N) hA.1 x with ⟨s, hs20, rfl, ht, k1, k2⟩ | ⟨k1, k2⟩
  · rw [k1, k2, zb2_some, zb2_some, zo_some, if_pos (by decide)]
    obtain ⟨G1, q1, M1, e1, e2, ⟨a1, a2, a3, a4, a5, a6⟩, h1, h2, h3, h4⟩ := keep2 hN hA hH hT
    obtain ⟨hk, r, hr⟩ := QH_K a4
    have hz : z = 0 ↔ (!decide (z = 0)) = false := by
      by_cases e : z = 0
      · simp [e]
      · simp [e]
    obtain ⟨M2, e3, c1, c2⟩ := m_selL (N := N) (by omega) a1 a2 a4 hs20 ht hz
    have eu : mkS (untG G1 s) 20 = mkS (unA th hs hg s) 20 := mkS_ext (fun i hi => untG_A a1 a4 hs20 ht hi)
    simp only [g_hist, g_now, Option.bind_some, e1, e2]
    rw [e_unitOf (by omega) hs20, zb2_some, eu, m_outermost (by omega) hk hr hs20 (fun g e => a4.sg s hs20 ht g e) (a4.sV s hs20 ht), zb2_some]
    show zAg INV _ (zl2 (f_X12_select_L23 TM N 0 (nI s) z (hJ (unO hs hg s))) N (0 : Int32) (M1, rfM))
    rw [e3]
    have ec : (if z = 0 then (gR TC (G1, rfC q1) 0 11 0).bind fun a22 =>
        (gR TC (G1, rfC q1) a22 2 0).bind fun a23 =>
          (gI TC (G1, rfC q1) a23 7 2).bind fun x24 =>
            (pI TC (G1, rfC q1) a23 7 2 (x24 &&& (mkS (unA th hs hg s) 20 ^^^ -1))).bind fun s25 => f_X11_select_J83 TC N 0 s25
      else (gR TC (G1, rfC q1) 0 11 0).bind fun a26 =>
        (gR TC (G1, rfC q1) a26 2 0).bind fun a27 =>
          (gI TC (G1, rfC q1) a27 7 2).bind fun x28 =>
            (pI TC (G1, rfC q1) a27 7 2 (x28 ||| mkS (unA th hs hg s) 20)).bind fun s29 => f_X11_select_J83 TC N 0 s29) = some (nI (cnt (selN (unA th hs hg s) sel (!decide (z = 0))) 20), (zu G1 2 2 (mkS (selN (unA th hs hg s) sel (!decide (z = 0))) 20), rfC q1)) := by
      have ej : f_X11_select_J83 TC N 0 (zu G1 2 2 (mkS (selN (unA th hs hg s) sel (!decide (z = 0))) 20), rfC q1) = some (nI (cnt (selN (unA th hs hg s) sel (!decide (z = 0))) 20), (zu G1 2 2 (mkS (selN (unA th hs hg s) sel (!decide (z = 0))) 20), rfC q1)) := by
        unfold f_X11_select_J83
        rw [g_now, Option.bind_some, g_shapes, Option.bind_some, gI_of TC_2, zu_same, Option.bind_some, e_bitCount, zb2_some]
      by_cases e : z = 0
      · have es := sel_S (sel := sel) (U := unA th hs hg s) (on := false)
        rw [if_neg (by decide)] at es
        rw [if_pos e]
        simp only [g_now, g_shapes, Option.bind_some, gI_of TC_2, pI_of TC_2, a2.cD, es]
        rw [← ej, decide_eq_true e]
        rfl
      · have es := sel_S (sel := sel) (U := unA th hs hg s) (on := true)
        rw [if_pos rfl] at es
        rw [if_neg e]
        simp only [g_now, g_shapes, Option.bind_some, gI_of TC_2, pI_of TC_2, a2.cD, es]
        rw [← ej, decide_eq_false e]
        rfl
    refine ⟨_, _, _, ec, rfl, ?_⟩
    have hq : QC th (selN (unA th hs hg s) sel (!decide (z = 0))) (zu G1 2 2 (mkS (selN (unA th hs hg s) sel (!decide (z = 0))) 20)) (M2 1) := ⟨zu_same, fun k hk hkt => by
      rw [c1 k hk]
      unfold selN
      by_cases e : unA th hs hg s k = true
      · rw [if_pos e, if_pos e]
      · rw [if_neg e, if_neg e]; exact a2.cV k hk hkt, selN_th ht a2⟩
    have hh : QH th (selN (unA th hs hg s) sel (!decide (z = 0))) hs hg gt (zu G1 2 2 (mkS (selN (unA th hs hg s) sel (!decide (z = 0))) 20)) (M2 1) := by
      have hh0 : QH th sel hs hg gt (zu G1 2 2 (mkS (selN (unA th hs hg s) sel (!decide (z = 0))) 20)) (M2 1) := QH_fr a4 (fun s _ => zu_ne (fun e => by omega)) (fun s _ => c2 _ _ (fun ⟨_, k, _, e⟩ => by omega)) (fun g _ => zu_ne (fun e => by omega)) (fun g _ _ => zu_ne (fun e => by omega)) (fun i hi => c2 _ _ (fun ⟨_, k, _, e⟩ => by omega))
      obtain ⟨w1, w2, w3, w4, w5, w6, w7, w8, w9, w10, w11⟩ := hh0
      refine ⟨w1, w2, w3, w4, w5, w6, w7, w8, w9, w10, fun i t g hi ht2 hti htt ei et => ?_⟩
      have huu : unA th hs hg s i = unA th hs hg s t := by
        have ei : unO hs hg i = some g := ei
        have et : unO hs hg t = some g := et
        unfold unA
        cases eu : unO hs hg s with
        | none =>
          have n1 : i ≠ s := fun e => by rw [e, eu] at ei; cases ei
          have n2 : t ≠ s := fun e => by rw [e, eu] at et; cases et
          show decide (i = s) = decide (t = s)
          rw [decide_eq_false n1, decide_eq_false n2]
        | some g0 =>
          show (th i && decide (unO hs hg i = some g0)) = (th t && decide (unO hs hg t = some g0))
          rw [hti, htt, ei, et]
      unfold selN
      rw [huu, w11 i t g hi ht2 hti htt ei et]
    refine INV_now h1 h2 ⟨n, th, selN (unA th hs hg s) sel (!decide (z = 0)), c, p, hs, hg, gt, ln, QS_fr a1 ?_ ?_ ?_ ?_, hq, QP_fr a3 ?_ ?_ ?_, hh, QL_fr a5 ?_ ?_ ?_ ?_, QU_fr a6 ?_ ?_ ?_ ?_⟩ ?_ ?_ ?_ ?_ ?_
    all_goals (intros; first | exact c2 _ _ (fun ⟨_, k, _, e⟩ => by omega) | exact zu_ne (fun e => by omega) | exact ⟨zu_ne (fun e => by omega), zu_ne (fun e => by omega)⟩)
  · rw [k1, k2, zb2_some, zb2_some, zo_none, if_neg (by decide)]
    exact ⟨_, _, _, rfl, rfl, hI⟩
end UNT
