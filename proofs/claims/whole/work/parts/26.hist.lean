/-! a diagram in the memory; what two must share to be the same; the history -/
def dv (G : Nat → Nat → Int32) (b : Nat) : Nat → Nat → Int32 := fun o j => G (b + o) j
def Dag (D E : Nat → Nat → Int32) : Prop :=
  (∀ s, s < 20 → ∀ j, j < 8 → E (3 + s) j = D (3 + s) j) ∧ E 1 1 = D 1 1 ∧ E 1 2 = D 1 2 ∧ (∀ s, s < 20 → ∀ j, j < 5 → E (25 + s) j = D (25 + s) j) ∧ E 23 1 = D 23 1 ∧ (∀ g, g < 8 → E 46 g = D 46 g) ∧ (∀ g, g < 8 → D 46 g = 1 → E 47 g = D 47 g) ∧ E 48 2 = D 48 2 ∧ E 48 3 = D 48 3 ∧ E 48 4 = D 48 4 ∧ ∀ n k, n ≤ 10 → D 48 2 = nI n → k < n → E 49 k = D 49 k ∧ E 50 k = D 50 k
def WFd (D : Nat → Nat → Int32) : Prop := (∀ s, s < 20 → D (3 + s) 0 = 0 ∨ D (3 + s) 0 = 1) ∧ (∀ g, g < 8 → D 46 g = 0 ∨ D 46 g = 1) ∧ ∃ n, n ≤ 10 ∧ D 48 2 = nI n
theorem Dag_r {D E E' : Nat → Nat → Int32} (h : Dag D E) (he : ∀ o, o < 51 → ∀ j, E' o j = E o j) : Dag D E' := by
  obtain ⟨a1, a2, a3, a4, a5, a6, a7, a8, a9, a10, a11⟩ := h
  refine ⟨fun s hs j hj => ?_, ?_, ?_, fun s hs j hj => ?_, ?_, fun g hg => ?_, fun g hg hh => ?_, ?_, ?_, ?_, fun n k hn hc hk => ⟨?_, ?_⟩⟩
  · rw [he _ (by omega), a1 s hs j hj]
  · rw [he _ (by omega), a2]
  · rw [he _ (by omega), a3]
  · rw [he _ (by omega), a4 s hs j hj]
  · rw [he _ (by omega), a5]
  · rw [he _ (by omega), a6 g hg]
  · rw [he _ (by omega), a7 g hg hh]
  · rw [he _ (by omega), a8]
  · rw [he _ (by omega), a9]
  · rw [he _ (by omega), a10]
  · rw [he _ (by omega), (a11 n k hn hc hk).1]
  · rw [he _ (by omega), (a11 n k hn hc hk).2]
section HST
variable {G : Nat → Nat → Int32} {q : Nat → Option Nat} {N : Nat} {b1 b2 : Nat}
theorem e_dcopy (hN : 20 < N) (h1 : b1 ∈ bases) (h2 : b2 ∈ bases) (hne : b1 ≠ b2) (hw : WFd (dv G b1)) : ∃ G', f_X2_copy TC N (G, rfC q) b2 b1 = some (G', rfC q) ∧ Dag (dv G b1) (dv G' b2) ∧ ∀ a j, (∀ o, o < 51 → a ≠ b2 + o) → G' a j = G a j := by
  obtain ⟨w1, w2, n, hn, w3⟩ := hw
  have ap : ∀ {o o2 : Nat}, o < 51 → o2 < 51 → b1 + o ≠ b2 + o2 := fun h h' => bases_apart h1 h2 hne h h'
  obtain ⟨G1, e1, p1, p2, p3, p4⟩ := e_shcopy (G := G) (q := q) (N := N) hN h1 h2 hne w1
  have s1 : ∀ o j, o < 51 → G1 (b1 + o) j = G (b1 + o) j := fun o j ho => p4 _ j (fun o2 h => ap ho (by omega))
  obtain ⟨G2, e2, r1, r2, r3⟩ := e_cncopy (G := G1) (q := q) (N := N) hN h1 h2 hne
  have s2 : ∀ o j, o < 51 → G2 (b1 + o) j = G (b1 + o) j := fun o j ho => (r3 _ j (fun o2 h h' => ap ho (by omega))).trans (s1 o j ho)
  obtain ⟨G3, e3, t1, t2, t3⟩ := e_gcopy (G := G2) (q := q) (N := N) hN h1 h2 hne (fun g hg => by rw [s2 46 g (by omega)]; exact w2 g hg)
  have s3 : ∀ o j, o < 51 → G3 (b1 + o) j = G (b1 + o) j := fun o j ho => (t3 _ j (ap ho (by omega)) (ap ho (by omega))).trans (s2 o j ho)
  obtain ⟨G4, e4, u1, u2, u3, u4, u5, u6⟩ := e_ucopy (G := G3) (q := q) (N := N) hN h1 h2 hne hn (by rw [s3 48 2 (by omega)]; exact w3)
  refine ⟨G4, ?_, ⟨fun s hs j hj => ?_, ?_, ?_, fun s hs j hj => ?_, ?_, fun g hg => ?_, fun g hg h => ?_, ?_, ?_, ?_, fun n2 k hn2 hc hk => ?_⟩, fun a j ha => ?_⟩
  · unfold f_X2_copy
    rw [zz1_of (kB0 h2)]
    simp only [gR_of (kB0 h2), gR_of (kB0 h1), rB0 h2, rB0 h1, rB1 h2, rB1 h1, rB2 h2, rB2 h1, rB3 h2, rB3 h1, Option.bind_some, e1, e2, e3, e4]
  · show G4 (b2 + (3 + s)) j = G (b1 + (3 + s)) j
    rw [u6 _ _ (by omega) (by omega) (by omega), t3 _ _ (by omega) (by omega), r3 _ _ (fun o h h' => by omega), p1 s hs j hj]
  · show G4 (b2 + 1) 1 = G (b1 + 1) 1
    rw [u6 _ _ (by omega) (by omega) (by omega), t3 _ _ (by omega) (by omega), r3 _ _ (fun o h h' => by omega), p2]
  · show G4 (b2 + 1) 2 = G (b1 + 1) 2
    rw [u6 _ _ (by omega) (by omega) (by omega), t3 _ _ (by omega) (by omega), r3 _ _ (fun o h h' => by omega), p3]
  · show G4 (b2 + (25 + s)) j = G (b1 + (25 + s)) j
    rw [u6 _ _ (by omega) (by omega) (by omega), t3 _ _ (by omega) (by omega), r1 s hs j hj, s1 _ _ (by omega)]
  · show G4 (b2 + 23) 1 = G (b1 + 23) 1
    rw [u6 _ _ (by omega) (by omega) (by omega), t3 _ _ (by omega) (by omega), r2, s1 _ _ (by omega)]
  · show G4 (b2 + 46) g = G (b1 + 46) g
    rw [u6 _ _ (by omega) (by omega) (by omega), t1 g hg, s2 _ _ (by omega)]
  · show G4 (b2 + 47) g = G (b1 + 47) g
    rw [u6 _ _ (by omega) (by omega) (by omega), t2 g hg (by rw [s2 _ _ (by omega)]; exact h), s2 _ _ (by omega)]
  · show G4 (b2 + 48) 2 = G (b1 + 48) 2
    rw [u3]; exact w3.symm
  · show G4 (b2 + 48) 3 = G (b1 + 48) 3
    rw [u4, s3 _ _ (by omega)]
  · show G4 (b2 + 48) 4 = G (b1 + 48) 4
    rw [u5, s3 _ _ (by omega)]
  · have e : n2 = n := (nI_eq (by omega) (by omega)).mp (hc.symm.trans w3)
    subst e
    refine ⟨?_, ?_⟩
    · show G4 (b2 + 49) k = G (b1 + 49) k
      rw [u1 k hk, s3 _ _ (by omega)]
    · show G4 (b2 + 50) k = G (b1 + 50) k
      rw [u2 k hk, s3 _ _ (by omega)]
  · rw [u6 _ _ (ha 48 (by omega)) (ha 49 (by omega)) (ha 50 (by omega)), t3 _ _ (ha 46 (by omega)) (ha 47 (by omega)), r3 _ _ (fun o h h' => ha o (by omega)), p4 _ _ (fun o h => ha o (by omega))]
/-- the oldest comes to the end -/
def rot (q : Nat → Option Nat) : Nat → Option Nat := fun k => if k < 5 then q (k + 1) else if k = 5 then q 0 else q k
def rotI (q : Nat → Option Nat) (i : Nat) : Nat → Option Nat := fun k => if k < i then q (k + 1) else q k
theorem rotI_s {i : Nat} : va_up (rotI q i) i (q (i + 1)) = rotI q (i + 1) := by
  funext k
  unfold va_up rotI
  rcases Nat.lt_trichotomy k i with h | h | h
  · rw [if_neg (by omega), if_pos h, if_pos (by omega)]
  · subst h
    rw [if_pos rfl, if_pos (by omega)]
  · rw [if_neg (by omega), if_neg (by omega), if_neg (by omega)]
theorem rotI_5 {a : Nat} (h : q 0 = some a) : va_up (rotI q 5) 5 (some a) = rot q := by
  funext k
  unfold va_up rotI rot
  by_cases h1 : k < 5
  · rw [if_neg (by omega), if_pos h1, if_pos h1]
  · by_cases h2 : k = 5
    · rw [if_pos h2, if_neg h1, if_pos h2, h]
    · rw [if_neg h2, if_neg h1, if_neg h1, if_neg h2]
theorem nI_pm (n : Nat) : nI (n + 1) - 1 = nI n := nI_pred n
theorem e_drop (hN : 20 < N) {t : Nat → Nat} (hq : ∀ k, k < 6 → q k = some (t k) ∧ TC.1 (t k) = 2) {x : Int32} (hx : G 52 1 = x) : f_X5_dropOldest TC N (G, rfC q) 52 = some (zu G 52 1 (x - 1), rfC (rot q)) := by
  unfold f_X5_dropOldest
  rw [zz1_of TC_52]
  simp only [gR_of TC_52, rf_52_0, Option.bind_some, aL_of TC_53, TL_53]
  rw [if_neg (nI_nle (by decide) (by decide)), ← nI_0, aR_of TC_53 TL_53 (show 0 < 6 by decide) (by decide), rfC_53, (hq 0 (by omega)).1, Option.bind_some]
  unfold f_X5_dropOldest_J18
  rw [zo_some, ← nI_0]
  refine zl2_end 5 (fun i => nI i) (fun i => (G, rfC (rotI q i))) rfl (by congr 2) (by omega) (fun i hi k => ?_) (fun k => ?_)
  · unfold f_X5_dropOldest_L21b
    simp only [gR_of TC_52, rf_52_0, Option.bind_some, aL_of TC_53, TL_53, nI_1]
    rw [if_neg (nI_ge (show i + 1 < 6 by omega) (by decide)), aR_of TC_53 TL_53 (show i + 1 < 6 by omega) (by decide), rfC_53]
    have e : rotI q i (i + 1) = some (t (i + 1)) := by unfold rotI; rw [if_neg (by omega)]; exact (hq (i + 1) (by omega)).1
    rw [e, Option.bind_some, sR_of TC_53 (hq (i + 1) (by omega)).2 TL_53 (show i < 6 by omega) (by decide), Option.bind_some, zn_eq, rfC_up, ← (hq (i + 1) (by omega)).1, rotI_s]
  · unfold f_X5_dropOldest_L21b
    simp only [gR_of TC_52, rf_52_0, Option.bind_some, aL_of TC_53, TL_53, nI_1]
    rw [if_pos (nI_le (show 6 ≤ 5 + 1 by omega) (by decide)), if_neg (nI_nle (by decide) (by decide)), nI_pm, sR_of TC_53 (hq 0 (by omega)).2 TL_53 (show 5 < 6 by omega) (by decide)]
    simp only [Option.bind_some, gI_of TC_52, pI_of TC_52]
    rw [hx, rfC_up, rotI_5 (hq 0 (by omega)).1]
/-- the state is copied to the next row -/
theorem e_keepJ (hN : 20 < N) {t : Nat → Nat} (hq : ∀ k, k < 6 → q k = some (t k) ∧ t k ∈ bases ∧ t k ≠ 1) {h : Nat} (hh : h < 6) (hx : G 52 1 = nI h) (hw : WFd (dv G 1)) :
    ∃ G', f_X5_keep_J16 TC N 52 1 (G, rfC q) = some (G', rfC q) ∧ Dag (dv G 1) (dv G' (t h)) ∧ G' 52 1 = nI (h + 1) ∧ ∀ a j, (∀ o, o < 51 → a ≠ t h + o) → ¬ (a = 52 ∧ j = 1) → G' a j = G a j := by
  obtain ⟨G1, e1, p1, p2⟩ := e_dcopy (G := G) (q := q) (N := N) hN (b1 := 1) (b2 := t h) (by decide) (hq h hh).2.1 (fun e => (hq h hh).2.2 e.symm) hw
  have h52 : ∀ o, o < 51 → 52 ≠ t h + o := fun o ho => by
    have : ∀ b ∈ bases, b + 51 ≤ 52 ∨ 53 ≤ b := by decide
    have := this _ (hq h hh).2.1
    omega
  have hne : ∀ o, o < 51 → 52 ≠ t h + o := h52
  refine ⟨zu G1 52 1 (nI (h + 1)), ?_, Dag_r p1 (fun o ho j => ?_), zu_same, fun a j ha hb => ?_⟩
  · unfold f_X5_keep_J16
    simp only [gI_of TC_52, Option.bind_some, hx]
    rw [if_neg (nI_pos (by omega))]
    simp only [gR_of TC_52, rf_52_0, Option.bind_some, aL_of TC_53, TL_53]
    rw [if_neg (nI_ge hh (by decide)), aR_of TC_53 TL_53 hh (by decide), rfC_53, (hq h hh).1]
    simp only [Option.bind_some, e1, gI_of TC_52]
    rw [p2 52 1 h52, hx, nI_1, pI_of TC_52, Option.bind_some]
  · show zu G1 52 1 (nI (h + 1)) (t h + o) j = G1 (t h + o) j
    rw [zu_cell (fun e => h52 o ho e.symm)]
  · rw [zu_ne (fun e1 e2 => hb ⟨e1, e2⟩), p2 a j ha]
/-- the history of the class: how many, and which diagram holds which -/
def HC (G : Nat → Nat → Int32) (q : Nat → Option Nat) (h : Nat) (t : Nat → Nat) : Prop := h ≤ 6 ∧ G 52 1 = nI h ∧ (∀ k, k < 6 → q k = some (t k) ∧ t k ∈ bases ∧ t k ≠ 1) ∧ ∀ i j, i < 6 → j < 6 → t i = t j → i = j
theorem k2_bases {b : Nat} (hb : b ∈ bases) : TC.1 b = 2 := kB0 hb
/-- what the class does before an act -/
theorem e_keep (hN : 20 < N) {h : Nat} {t : Nat → Nat} (hH : HC G q h t) (hw : WFd (dv G 1)) :
    ∃ G' q' h' t', f_X5_keep TC N (G, rfC q) 52 1 = some (G', rfC q') ∧ HC G' q' (h' + 1) t' ∧ (h' = if h = 6 then 5 else h) ∧ (∀ k, k < h' → t' k = t (if h = 6 then k + 1 else k)) ∧ Dag (dv G 1) (dv G' (t' h')) ∧ (∀ k, k < h' → ∀ o, o < 51 → ∀ j, dv G' (t' k) o j = dv G (t' k) o j) ∧ ∀ a j, (a < 52 ∨ 360 ≤ a) → G' a j = G a j := by
  obtain ⟨h6, hx, hq, hi⟩ := hH
  have hout : ∀ (b : Nat), b ∈ bases → b ≠ 1 → ∀ o, o < 51 → 54 ≤ b + o ∧ b + o < 360 := by
    have : ∀ b ∈ bases, b ≠ 1 → 54 ≤ b ∧ b + 51 ≤ 360 := by decide
    intro b hb hb1 o ho
    have := this b hb hb1
    omega
  have pre : ∀ {q : Nat → Option Nat}, f_X5_keep TC N (G, rfC q) 52 1 = if G 52 1 < nI 6 then f_X5_keep_J16 TC N 52 1 (G, rfC q) else (f_X5_dropOldest TC N (G, rfC q) 52).bind fun s21 => f_X5_keep_J16 TC N 52 1 s21 := by
    intro q
    unfold f_X5_keep
    rw [zz1_of TC_52]
    simp only [gI_of TC_52, gR_of TC_52, rf_52_0, Option.bind_some, aL_of TC_53, TL_53]
  by_cases e6 : h = 6
  · subst e6
    have hlt : ¬ G 52 1 < nI 6 := by rw [hx]; exact nI_nlt (Nat.le_refl 6) (by decide)
    have e1 := e_drop (G := G) (q := q) (N := N) hN (t := t) (fun k hk => ⟨(hq k hk).1, kB0 (hq k hk).2.1⟩) hx
    have hq2 : ∀ k, k < 6 → rot q k = some ((fun k => if k < 5 then t (k + 1) else t 0) k) ∧ (fun k => if k < 5 then t (k + 1) else t 0) k ∈ bases ∧ (fun k => if k < 5 then t (k + 1) else t 0) k ≠ 1 := by
      intro k hk
      unfold rot
      by_cases h5 : k < 5
      · simp only [if_pos h5]
        exact hq (k + 1) (by omega)
      · have : k = 5 := by omega
        subst this
        simp only [if_neg h5, if_true]
        exact hq 0 (by omega)
    have hw2 : WFd (dv (zu G 52 1 (nI 6 - 1)) 1) := by
      have e : ∀ o, o < 51 → ∀ j, dv (zu G 52 1 (nI 6 - 1)) 1 o j = dv G 1 o j := fun o ho j => zu_ne (fun q => by omega)
      obtain ⟨w1, w2, n, w3, w4⟩ := hw
      exact ⟨fun s hs => by rw [e _ (by omega)]; exact w1 s hs, fun g hg => by rw [e _ (by omega)]; exact w2 g hg, n, w3, by rw [e _ (by omega)]; exact w4⟩
    obtain ⟨G2, e2, p1, p2, p3⟩ := e_keepJ (G := zu G 52 1 (nI 6 - 1)) (q := rot q) (N := N) hN (t := fun k => if k < 5 then t (k + 1) else t 0) hq2 (h := 5) (by omega) (by rw [zu_same]; exact nI_pm 5) hw2
    have hinj : ∀ i j, i < 6 → j < 6 → (fun k => if k < 5 then t (k + 1) else t 0) i = (fun k => if k < 5 then t (k + 1) else t 0) j → i = j := by
      intro i j hi' hj' e
      by_cases a1 : i < 5 <;> by_cases a2 : j < 5
      · simp only [if_pos a1, if_pos a2] at e
        have := hi _ _ (by omega) (by omega) e
        omega
      · simp only [if_pos a1, if_neg a2] at e
        have := hi _ _ (by omega) (by omega) e
        omega
      · simp only [if_neg a1, if_pos a2] at e
        have := hi _ _ (by omega) (by omega) e
        omega
      · omega
    refine ⟨G2, rot q, 5, fun k => if k < 5 then t (k + 1) else t 0, ?_, ⟨by omega, p2, hq2, hinj⟩, rfl, fun k hk => ?_, ?_, fun k hk o ho j => ?_, fun a j ha => ?_⟩
    · rw [pre, if_neg hlt, e1, Option.bind_some, e2]
    · simp only [if_pos hk, if_true]
    · have e : dv (zu G 52 1 (nI 6 - 1)) 1 = fun o j => zu G 52 1 (nI 6 - 1) (1 + o) j := rfl
      obtain ⟨a1, a2, a3, a4, a5, a6, a7, a8, a9, a10, a11⟩ := p1
      have es : ∀ o, o < 51 → ∀ j, dv (zu G 52 1 (nI 6 - 1)) 1 o j = dv G 1 o j := fun o ho j => zu_ne (fun q => by omega)
      exact ⟨fun s hs j hj => by rw [a1 s hs j hj, es _ (by omega)], by rw [a2, es _ (by omega)], by rw [a3, es _ (by omega)], fun s hs j hj => by rw [a4 s hs j hj, es _ (by omega)], by rw [a5, es _ (by omega)], fun g hg => by rw [a6 g hg, es _ (by omega)], fun g hg hh => by rw [a7 g hg (by rw [es _ (by omega)]; exact hh), es _ (by omega)], by rw [a8, es _ (by omega)], by rw [a9, es _ (by omega)], by rw [a10, es _ (by omega)], fun n k hn hc hk => by
        have := a11 n k hn (by rw [es _ (by omega)]; exact hc) hk
        rw [es _ (by omega), es _ (by omega)] at this
        exact this⟩
    · have hb := hout _ (hq2 k (by omega)).2.1 (hq2 k (by omega)).2.2 o ho
      refine (p3 _ j (fun o2 h2 => bases_apart (hq2 k (by omega)).2.1 (hq2 5 (by omega)).2.1 (fun e => by have := hinj k 5 (by omega) (by omega) e; omega) ho h2) (fun e => by omega)).trans ?_
      exact zu_ne (fun e => by omega)
    · refine (p3 a j (fun o ho e => ?_) (fun e => by omega)).trans (zu_ne (fun e => by omega))
      have := hout _ (hq2 5 (by omega)).2.1 (hq2 5 (by omega)).2.2 o ho
      dsimp only at e this
      omega
  · have hlt : G 52 1 < nI 6 := by rw [hx]; exact nI_lt (by omega) (by decide)
    obtain ⟨G2, e2, p1, p2, p3⟩ := e_keepJ (G := G) (q := q) (N := N) hN (t := t) hq (h := h) (by omega) hx hw
    refine ⟨G2, q, h, t, ?_, ⟨by omega, p2, hq, hi⟩, by rw [if_neg e6], fun k hk => by rw [if_neg e6], p1, fun k hk o ho j => ?_, fun a j ha => ?_⟩
    · rw [pre, if_pos hlt, e2]
    · have hb := hout _ (hq k (by omega)).2.1 (hq k (by omega)).2.2 o ho
      exact p3 _ j (fun o2 h2 => bases_apart (hq k (by omega)).2.1 (hq h (by omega)).2.1 (fun e => by have := hi k h (by omega) (by omega) e; omega) ho h2) (fun e => by omega)
    · refine p3 a j (fun o ho e => ?_) (fun e => by omega)
      have := hout _ (hq h (by omega)).2.1 (hq h (by omega)).2.2 o ho
      omega
end HST
