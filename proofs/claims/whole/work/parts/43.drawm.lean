/-! the points of a connector: the reference's side; point -/
section DRM
variable {G M : Nat → Nat → Int32} {q : Nat → Option Nat} {N : Nat} {n c ln : Nat} {th sel gt : Nat → Bool} {p : Nat → Nat} {hs hg : Nat → Option Nat} {ρ : Nat → Nat → Option Nat} {V : Nat → Int32} {s t a b y k α : Nat} {A B : Nat → Int32}
theorem ptL_0 : ptL A B a y 0 α = A α := by unfold ptL; rw [if_pos rfl]
theorem ptL_e (h : y < k) : ptL A B a y k α = B α := by unfold ptL; rw [if_neg (by omega), if_pos h]
theorem ptL_s1 (h : (a = 1 ∨ a = 3) ↔ α = 0) : ptL A B a 1 1 α = B α := by unfold ptL; rw [if_neg (by decide), if_neg (by decide), if_pos rfl, if_pos h]
theorem ptL_n1 (h : ¬ ((a = 1 ∨ a = 3) ↔ α = 0)) : ptL A B a 1 1 α = A α := by unfold ptL; rw [if_neg (by decide), if_neg (by decide), if_pos rfl, if_neg h]
theorem ptL_s2 (h : (a = 1 ∨ a = 3) ↔ α = 0) (hk : k = 1 ∨ k = 2) : ptL A B a 2 k α = fdJ (A α + B α) 2 := by unfold ptL; rw [if_neg (by omega), if_neg (by omega), if_neg (by decide), if_pos h]
theorem ptL_n21 (h : ¬ ((a = 1 ∨ a = 3) ↔ α = 0)) : ptL A B a 2 1 α = A α := by unfold ptL; rw [if_neg (by decide), if_neg (by decide), if_neg (by decide), if_neg h, if_pos rfl]
theorem ptL_n22 (h : ¬ ((a = 1 ∨ a = 3) ↔ α = 0)) : ptL A B a 2 2 α = B α := by unfold ptL; rw [if_neg (by decide), if_neg (by decide), if_neg (by decide), if_neg h, if_neg (by decide)]
theorem sd_p0 (h : a = 1 ∨ a = 3) : (a = 1 ∨ a = 3) ↔ (0 : Nat) = 0 := ⟨fun _ => rfl, fun _ => h⟩
theorem sd_p1 (h : a = 1 ∨ a = 3) : ¬ ((a = 1 ∨ a = 3) ↔ (1 : Nat) = 0) := fun q => absurd (q.mp h) (by decide)
theorem sd_n0 (h : ¬ (a = 1 ∨ a = 3)) : ¬ ((a = 1 ∨ a = 3) ↔ (0 : Nat) = 0) := fun q => h (q.mpr rfl)
theorem sd_n1 (h : ¬ (a = 1 ∨ a = 3)) : (a = 1 ∨ a = 3) ↔ (1 : Nat) = 0 := ⟨fun q => absurd q h, fun q => absurd q (by decide)⟩
theorem m_puts {i : Nat} {x z : Int32} (h : M 0 5 = nI i) (hi : i < 4) : ∃ M', f_X12_puts TM N (M, rfM) 0 x z = some (M', rfM) ∧ M' 0 5 = nI (i + 1) ∧ M' 3 i = x ∧ M' 4 i = z ∧ (∀ j, j ≠ i → M' 3 j = M 3 j ∧ M' 4 j = M 4 j) ∧ ∀ a j, ¬ (a = 0 ∧ j = 5) → a ≠ 3 → a ≠ 4 → M' a j = M a j := by
  refine ⟨zu (zu (zu M 3 i x) 4 i z) 0 5 (nI (i + 1)), ?_, zu_same, ?_, ?_, fun j hj => ⟨?_, ?_⟩, fun a j h1 h2 h3 => ?_⟩
  · unfold f_X12_puts
    rw [zz1_of TM_0]
    have hz : zu M 3 i x 0 5 = nI i := by rw [zu_cell (by decide), h]
    have hz2 : zu (zu M 3 i x) 4 i z 0 5 = nI i := by rw [zu_cell (by decide), hz]
    rw [gR_of TM_0, rm_3, Option.bind_some, gI_of TM_0, h, Option.bind_some, sI_of TM_3 ML_3 hi (by decide), Option.bind_some, gR_of TM_0, rm_4, Option.bind_some, gI_of TM_0, hz, Option.bind_some, sI_of TM_4 ML_4 hi (by decide), Option.bind_some, gI_of TM_0, hz2, Option.bind_some, pI_of TM_0, Option.bind_some, nI_1]
  · rw [zu_cell (by decide), zu_cell (by decide), zu_same]
  · rw [zu_cell (by decide), zu_same]
  · rw [zu_cell (by decide), zu_cell (by decide), zu_ne (fun _ => hj)]
  · rw [zu_cell (by decide), zu_ne (fun _ => hj), zu_cell (by decide)]
  · rw [zu_ne (fun e e2 => h1 ⟨e, e2⟩), zu_ne (fun e => absurd e h3), zu_ne (fun e => absurd e h2)]
theorem m_drawsJ (hk : k < 20) (v4 : M 1 (190 + 5 * k + 4) = nI y) (hy : y < 3) {x31 : Int32} (hx : x31 = if a = 1 ∨ a = 3 then 1 else 0) :
    ∃ M', f_X12_draws_J114 TM N 0 (nI (190 + 5 * k)) (A 0) (A 1) (B 0) (M, rfM) (B 1) x31 = some (M', rfM) ∧ M' 0 5 = nI (y + 2) ∧ (∀ i, i < y + 2 → M' 3 i = ptL A B a y i 0 ∧ M' 4 i = ptL A B a y i 1) ∧ ∀ a j, ¬ (a = 0 ∧ j = 5) → a ≠ 3 → a ≠ 4 → M' a j = M a j := by
  unfold f_X12_draws_J114
  rw [pI_of TM_0, Option.bind_some]
  obtain ⟨M1, p1, c1, x1, y1, o1, f1⟩ := m_puts (N := N) (M := zu M 0 5 0) (i := 0) zu_same (by omega) (x := A 0) (z := A 1)
  rw [p1, Option.bind_some]
  have r4 : aI TM (M1, rfM) 1 13 (nI (190 + 5 * k) + (4 : Int32)) = some (nI y) := by
    rw [show nI (190 + 5 * k) + (4 : Int32) = nI (190 + 5 * k + 4) from nI_add _ 4, v_rd (by omega), f1 _ _ (by omega) (by omega) (by omega), zu_cell (by decide), v4]
  simp only [g_v, Option.bind_some, r4]
  have f0 : ∀ a j, ¬ (a = 0 ∧ j = 5) → a ≠ 3 → a ≠ 4 → M1 a j = M a j := fun a j h1 h2 h3 => by rw [f1 a j h1 h2 h3, zu_ne (fun e e2 => h1 ⟨e, e2⟩)]
  have hy3 : y = 0 ∨ y = 1 ∨ y = 2 := by omega
  rcases hy3 with rfl | rfl | rfl
  · rw [if_pos (by decide), if_pos (by decide)]
    unfold f_X12_draws_J262
    obtain ⟨M2, p2, c2, x2, y2, o2, f2⟩ := m_puts (N := N) (M := M1) (i := 1) c1 (by omega) (x := B 0) (z := B 1)
    rw [p2, Option.bind_some]
    refine ⟨M2, rfl, c2, fun i hi => ?_, fun a j h1 h2 h3 => (f2 a j h1 h2 h3).trans (f0 a j h1 h2 h3)⟩
    have : i = 0 ∨ i = 1 := by omega
    rcases this with rfl | rfl
    · rw [(o2 0 (by omega)).1, (o2 0 (by omega)).2, x1, y1, ptL_0, ptL_0]
      exact ⟨rfl, rfl⟩
    · rw [x2, y2, ptL_e (by omega), ptL_e (by omega)]
      exact ⟨rfl, rfl⟩
  · rw [if_neg (show ¬ ¬ nI 1 = (1 : Int32) from fun n => n rfl)]
    unfold f_X12_draws_J152
    by_cases hs : a = 1 ∨ a = 3
    · rw [hx, if_pos hs, if_neg (by decide), if_neg (by decide)]
      obtain ⟨M2, p2, c2, x2, y2, o2, f2⟩ := m_puts (N := N) (M := M1) (i := 1) c1 (by omega) (x := B 0) (z := A 1)
      rw [p2, Option.bind_some]
      unfold f_X12_draws_J262
      obtain ⟨M3, p3, c3, x3, y3, o3, f3⟩ := m_puts (N := N) (M := M2) (i := 2) c2 (by omega) (x := B 0) (z := B 1)
      rw [p3, Option.bind_some]
      refine ⟨M3, rfl, c3, fun i hi => ?_, fun a j h1 h2 h3 => (f3 a j h1 h2 h3).trans ((f2 a j h1 h2 h3).trans (f0 a j h1 h2 h3))⟩
      have : i = 0 ∨ i = 1 ∨ i = 2 := by omega
      rcases this with rfl | rfl | rfl
      · rw [(o3 0 (by omega)).1, (o3 0 (by omega)).2, (o2 0 (by omega)).1, (o2 0 (by omega)).2, x1, y1, ptL_0, ptL_0]
        exact ⟨rfl, rfl⟩
      · rw [(o3 1 (by omega)).1, (o3 1 (by omega)).2, x2, y2, ptL_s1 (sd_p0 hs), ptL_n1 (sd_p1 hs)]
        exact ⟨rfl, rfl⟩
      · rw [x3, y3, ptL_e (by omega), ptL_e (by omega)]
        exact ⟨rfl, rfl⟩
    · rw [hx, if_neg hs, if_pos rfl, if_pos rfl]
      obtain ⟨M2, p2, c2, x2, y2, o2, f2⟩ := m_puts (N := N) (M := M1) (i := 1) c1 (by omega) (x := A 0) (z := B 1)
      rw [p2, Option.bind_some]
      unfold f_X12_draws_J262
      obtain ⟨M3, p3, c3, x3, y3, o3, f3⟩ := m_puts (N := N) (M := M2) (i := 2) c2 (by omega) (x := B 0) (z := B 1)
      rw [p3, Option.bind_some]
      refine ⟨M3, rfl, c3, fun i hi => ?_, fun a j h1 h2 h3 => (f3 a j h1 h2 h3).trans ((f2 a j h1 h2 h3).trans (f0 a j h1 h2 h3))⟩
      have : i = 0 ∨ i = 1 ∨ i = 2 := by omega
      rcases this with rfl | rfl | rfl
      · rw [(o3 0 (by omega)).1, (o3 0 (by omega)).2, (o2 0 (by omega)).1, (o2 0 (by omega)).2, x1, y1, ptL_0, ptL_0]
        exact ⟨rfl, rfl⟩
      · rw [(o3 1 (by omega)).1, (o3 1 (by omega)).2, x2, y2, ptL_n1 (sd_n0 hs), ptL_s1 (sd_n1 hs)]
        exact ⟨rfl, rfl⟩
      · rw [x3, y3, ptL_e (by omega), ptL_e (by omega)]
        exact ⟨rfl, rfl⟩
  · rw [if_pos (by decide), if_neg (show ¬ ¬ nI 2 = (2 : Int32) from fun n => n rfl)]
    unfold f_X12_half f_X12_draws_J205 f_X12_draws_J219 f_X12_draws_J231 f_X12_draws_J247 f_X12_draws_J262
    simp only [zb2_some, i_half2]
    by_cases hs : a = 1 ∨ a = 3
    · rw [hx, if_pos hs, if_neg (by decide), if_neg (by decide), if_neg (by decide)]
      obtain ⟨M2, p2, c2, x2, y2, o2, f2⟩ := m_puts (N := N) (M := M1) (i := 1) c1 (by omega) (x := fdJ (A 0 + B 0) 2) (z := A 1)
      rw [p2, Option.bind_some, if_neg (by decide), if_neg (by decide)]
      obtain ⟨M3, p3, c3, x3, y3, o3, f3⟩ := m_puts (N := N) (M := M2) (i := 2) c2 (by omega) (x := fdJ (A 0 + B 0) 2) (z := B 1)
      rw [p3, Option.bind_some]
      obtain ⟨M4, p4, c4, x4, y4, o4, f4⟩ := m_puts (N := N) (M := M3) (i := 3) c3 (by omega) (x := B 0) (z := B 1)
      rw [p4, Option.bind_some]
      refine ⟨M4, rfl, c4, fun i hi => ?_, fun a j h1 h2 h3 => (f4 a j h1 h2 h3).trans ((f3 a j h1 h2 h3).trans ((f2 a j h1 h2 h3).trans (f0 a j h1 h2 h3)))⟩
      have : i = 0 ∨ i = 1 ∨ i = 2 ∨ i = 3 := by omega
      rcases this with rfl | rfl | rfl | rfl
      · rw [(o4 0 (by omega)).1, (o4 0 (by omega)).2, (o3 0 (by omega)).1, (o3 0 (by omega)).2, (o2 0 (by omega)).1, (o2 0 (by omega)).2, x1, y1, ptL_0, ptL_0]
        exact ⟨rfl, rfl⟩
      · rw [(o4 1 (by omega)).1, (o4 1 (by omega)).2, (o3 1 (by omega)).1, (o3 1 (by omega)).2, x2, y2, ptL_s2 (sd_p0 hs) (by omega), ptL_n21 (sd_p1 hs)]
        exact ⟨rfl, rfl⟩
      · rw [(o4 2 (by omega)).1, (o4 2 (by omega)).2, x3, y3, ptL_s2 (sd_p0 hs) (by omega), ptL_n22 (sd_p1 hs)]
        exact ⟨rfl, rfl⟩
      · rw [x4, y4, ptL_e (by omega), ptL_e (by omega)]
        exact ⟨rfl, rfl⟩
    · rw [hx, if_neg hs, if_pos rfl, if_pos rfl, if_pos rfl]
      obtain ⟨M2, p2, c2, x2, y2, o2, f2⟩ := m_puts (N := N) (M := M1) (i := 1) c1 (by omega) (x := A 0) (z := fdJ (A 1 + B 1) 2)
      rw [p2, Option.bind_some, if_pos rfl, if_pos rfl]
      obtain ⟨M3, p3, c3, x3, y3, o3, f3⟩ := m_puts (N := N) (M := M2) (i := 2) c2 (by omega) (x := B 0) (z := fdJ (A 1 + B 1) 2)
      rw [p3, Option.bind_some]
      obtain ⟨M4, p4, c4, x4, y4, o4, f4⟩ := m_puts (N := N) (M := M3) (i := 3) c3 (by omega) (x := B 0) (z := B 1)
      rw [p4, Option.bind_some]
      refine ⟨M4, rfl, c4, fun i hi => ?_, fun a j h1 h2 h3 => (f4 a j h1 h2 h3).trans ((f3 a j h1 h2 h3).trans ((f2 a j h1 h2 h3).trans (f0 a j h1 h2 h3)))⟩
      have : i = 0 ∨ i = 1 ∨ i = 2 ∨ i = 3 := by omega
      rcases this with rfl | rfl | rfl | rfl
      · rw [(o4 0 (by omega)).1, (o4 0 (by omega)).2, (o3 0 (by omega)).1, (o3 0 (by omega)).2, (o2 0 (by omega)).1, (o2 0 (by omega)).2, x1, y1, ptL_0, ptL_0]
        exact ⟨rfl, rfl⟩
      · rw [(o4 1 (by omega)).1, (o4 1 (by omega)).2, (o3 1 (by omega)).1, (o3 1 (by omega)).2, x2, y2, ptL_n21 (sd_n0 hs), ptL_s2 (sd_n1 hs) (by omega)]
        exact ⟨rfl, rfl⟩
      · rw [(o4 2 (by omega)).1, (o4 2 (by omega)).2, x3, y3, ptL_n22 (sd_n0 hs), ptL_s2 (sd_n1 hs) (by omega)]
        exact ⟨rfl, rfl⟩
      · rw [x4, y4, ptL_e (by omega), ptL_e (by omega)]
        exact ⟨rfl, rfl⟩
/-- a connector of both sides: its numbers and its points -/
theorem m_draws (hS : QS n th G (M 1)) (hs20 : s < 20) (hts : th s = true) (ht20 : t < 20) (htt : th t = true) (ha : a < 4) (hb : b < 4) (hy : y < 3) (hk : k < 20) (v0 : M 1 (190 + 5 * k) = nI s) (v1 : M 1 (190 + 5 * k + 1) = nI a) (v2 : M 1 (190 + 5 * k + 2) = nI t) (v3 : M 1 (190 + 5 * k + 3) = nI b) (v4 : M 1 (190 + 5 * k + 4) = nI y) :
    ∃ M', f_X12_draws TM N (M, rfM) 0 (nI k) = some (M', rfM) ∧ M' 0 5 = nI (y + 2) ∧ (∀ i, i < y + 2 → M' 3 i = ptL (ptA G (4 + s) a) (ptA G (4 + t) b) a y i 0 ∧ M' 4 i = ptL (ptA G (4 + s) a) (ptA G (4 + t) b) a y i 1) ∧ ∀ a j, ¬ (a = 0 ∧ j = 5) → a ≠ 3 → a ≠ 4 → M' a j = M a j := by
  have r0 : aI TM (M, rfM) 1 13 (nI (190 + 5 * k)) = some (nI s) := by rw [v_rd (by omega), v0]
  have r1 : aI TM (M, rfM) 1 13 (nI (190 + 5 * k) + (1 : Int32)) = some (nI a) := by rw [nI_1, v_rd (by omega), v1]
  have r2 : aI TM (M, rfM) 1 13 (nI (190 + 5 * k) + (2 : Int32)) = some (nI t) := by rw [show nI (190 + 5 * k) + (2 : Int32) = nI (190 + 5 * k + 2) from nI_add _ 2, v_rd (by omega), v2]
  have r3 : aI TM (M, rfM) 1 13 (nI (190 + 5 * k) + (3 : Int32)) = some (nI b) := by rw [show nI (190 + 5 * k) + (3 : Int32) = nI (190 + 5 * k + 3) from nI_add _ 3, v_rd (by omega), v3]
  have q00 : f_X12_portOf TM N (M, rfM) 0 (nI s) (nI a) (0 : Int32) = some (ptA G (4 + s) a 0, (M, rfM)) := m_portOf hs20 ha (α := 0) (by omega) (fun j h1 h2 => hS.fV s hs20 hts j (by omega) h2)
  have q01 : f_X12_portOf TM N (M, rfM) 0 (nI s) (nI a) (1 : Int32) = some (ptA G (4 + s) a 1, (M, rfM)) := m_portOf hs20 ha (α := 1) (by omega) (fun j h1 h2 => hS.fV s hs20 hts j (by omega) h2)
  have q10 : f_X12_portOf TM N (M, rfM) 0 (nI t) (nI b) (0 : Int32) = some (ptA G (4 + t) b 0, (M, rfM)) := m_portOf ht20 hb (α := 0) (by omega) (fun j h1 h2 => hS.fV t ht20 htt j (by omega) h2)
  have q11 : f_X12_portOf TM N (M, rfM) 0 (nI t) (nI b) (1 : Int32) = some (ptA G (4 + t) b 1, (M, rfM)) := m_portOf ht20 hb (α := 1) (by omega) (fun j h1 h2 => hS.fV t ht20 htt j (by omega) h2)
  unfold f_X12_draws
  rw [zz1_of TM_0, zn_eq, ix5]
  simp only [g_v, Option.bind_some, r0, r1, r2, r3, q00, q01, q10, q11, zb2_some]
  have h4 : a = 0 ∨ a = 1 ∨ a = 2 ∨ a = 3 := by omega
  rcases h4 with rfl | rfl | rfl | rfl
  · rw [if_pos (by decide)]
    exact m_drawsJ (A := ptA G (4 + s) 0) (B := ptA G (4 + t) b) (a := 0) hk v4 hy (by decide)
  · rw [if_neg (by decide)]
    exact m_drawsJ (A := ptA G (4 + s) 1) (B := ptA G (4 + t) b) (a := 1) hk v4 hy (by decide)
  · rw [if_pos (by decide)]
    exact m_drawsJ (A := ptA G (4 + s) 2) (B := ptA G (4 + t) b) (a := 2) hk v4 hy (by decide)
  · rw [if_neg (by decide)]
    exact m_drawsJ (A := ptA G (4 + s) 3) (B := ptA G (4 + t) b) (a := 3) hk v4 hy (by decide)
end DRM
