/-! adding a shape -/
section ADS
variable {G M : Nat → Nat → Int32} {q : Nat → Option Nat} {N : Nat} {n c ln : Nat} {th sel gt : Nat → Bool} {p : Nat → Nat} {hs hg : Nat → Option Nat} {ρ : Nat → Nat → Option Nat} {V : Nat → Int32} {s t a b y k o d : Nat} {x1 x2 x3 x4 x5 : Int32}
theorem e_add (hN : 20 < N) (hS : QS n th G V) (hP : QP th c p G V) (hn : n < 20) :
    ∃ G', f_X7_add TC N (G, rfC q) 2 x1 x2 x3 x4 x5 = some (nI n, (G', rfC q)) ∧ (G' (4 + n) 0 = 1 ∧ G' (4 + n) 1 = x1 ∧ G' (4 + n) 2 = x2 ∧ G' (4 + n) 3 = x3 ∧ G' (4 + n) 4 = x4 ∧ G' (4 + n) 5 = x5 ∧ G' (4 + n) 6 = nI 0 ∧ G' (4 + n) 7 = -1000000) ∧ (∀ s, s < 20 → s ≠ n → ∀ j, j ≠ 6 → G' (4 + s) j = G (4 + s) j) ∧ (∀ k, k < c → G' (4 + p k) 6 = nI (k + 1)) ∧ G' 2 1 = nI (n + 1) ∧ ∀ a j, (∀ s, s < 20 → a ≠ 4 + s) → ¬ (a = 2 ∧ j = 1) → G' a j = G a j := by
  have htn : th n = false := hS.fr n (Nat.le_refl n) hn
  have hc20 : c < 20 := by rw [← hP.cn]; exact cnt_lt hn htn
  obtain ⟨G1, hG1⟩ : ∃ G1, G1 = zu (zu (zu (zu (zu (zu (zu (zu G (4 + n) 0 1) (4 + n) 1 x1) (4 + n) 2 x2) (4 + n) 3 x3) (4 + n) 4 x4) (4 + n) 5 x5) (4 + n) 6 (nI c)) (4 + n) 7 (-1000000) := ⟨_, rfl⟩
  have f0 : G1 (4 + n) 0 = 1 := by rw [hG1]; repeat (first | rw [zu_same] | rw [zu_ne (fun _ => by omega)])
  have f1 : G1 (4 + n) 1 = x1 := by rw [hG1]; repeat (first | rw [zu_same] | rw [zu_ne (fun _ => by omega)])
  have f2 : G1 (4 + n) 2 = x2 := by rw [hG1]; repeat (first | rw [zu_same] | rw [zu_ne (fun _ => by omega)])
  have f3 : G1 (4 + n) 3 = x3 := by rw [hG1]; repeat (first | rw [zu_same] | rw [zu_ne (fun _ => by omega)])
  have f4 : G1 (4 + n) 4 = x4 := by rw [hG1]; repeat (first | rw [zu_same] | rw [zu_ne (fun _ => by omega)])
  have f5 : G1 (4 + n) 5 = x5 := by rw [hG1]; repeat (first | rw [zu_same] | rw [zu_ne (fun _ => by omega)])
  have f6 : G1 (4 + n) 6 = nI c := by rw [hG1]; repeat (first | rw [zu_same] | rw [zu_ne (fun _ => by omega)])
  have f7 : G1 (4 + n) 7 = -1000000 := by rw [hG1]; repeat (first | rw [zu_same] | rw [zu_ne (fun _ => by omega)])
  have fo : ∀ a, a ≠ 4 + n → G1 a = G a := fun a ha => by
    rw [hG1]
    rw [zu_cell ha, zu_cell ha, zu_cell ha, zu_cell ha, zu_cell ha, zu_cell ha, zu_cell ha, zu_cell ha]
  have hl : ∀ s, s < 20 → s ≠ n → liv G1 s = th s := fun s h hne => by
    unfold liv
    rw [fo _ (by omega)]
    exact QS_liv hS h
  refine ⟨zu (zu (mapC G1 (liv G1) 6 (pdv (nI 0) (nI c)) 20) (4 + n) 6 (nI 0)) 2 1 (nI (n + 1)), ?_, ⟨?_, ?_, ?_, ?_, ?_, ?_, ?_, ?_⟩, fun s h hne j hj => ?_, fun k hk => ?_, zu_same, fun a j ha hb => ?_⟩
  · unfold f_X7_add
    rw [zz1_of TC_2, gI_of TC_2, Option.bind_some, hS.nD, if_neg (nI_pos (by omega))]
    simp only [gR_of TC_2, rf_2_0, Option.bind_some, aL_of TC_3, TL_3]
    rw [if_neg (nI_ge hn (by decide)), aR_of TC_3 TL_3 hn (by decide), rf_3 hn]
    simp only [Option.bind_some]
    rw [e_count hN, zb2_some, cnt_c hS hP, pZ_of (TC_sh hn) (Or.inr rfl), Option.bind_some, pI_of (TC_sh hn), Option.bind_some, pI_of (TC_sh hn), Option.bind_some, pI_of (TC_sh hn), Option.bind_some, pI_of (TC_sh hn), Option.bind_some, pI_of (TC_sh hn), Option.bind_some, pI_of (TC_sh hn), Option.bind_some, pI_of (TC_sh hn), Option.bind_some, ← hG1, ← nI_0, e_putAtDepth hN hn, Option.bind_some, gI_of TC_2, f6]
    rw [zu_ne (fun e => by omega), mapC_out (Or.inl (by omega)), fo _ (by omega), hS.nD, Option.bind_some, nI_1, pI_of TC_2, Option.bind_some]
  · rw [zu_ne (fun e => by omega), zu_ne (fun _ => by omega), mapC_out (by omega), f0]
  · rw [zu_ne (fun e => by omega), zu_ne (fun _ => by omega), mapC_out (by omega), f1]
  · rw [zu_ne (fun e => by omega), zu_ne (fun _ => by omega), mapC_out (by omega), f2]
  · rw [zu_ne (fun e => by omega), zu_ne (fun _ => by omega), mapC_out (by omega), f3]
  · rw [zu_ne (fun e => by omega), zu_ne (fun _ => by omega), mapC_out (by omega), f4]
  · rw [zu_ne (fun e => by omega), zu_ne (fun _ => by omega), mapC_out (by omega), f5]
  · rw [zu_ne (fun e => by omega), zu_same]
  · rw [zu_ne (fun e => by omega), zu_ne (fun _ => by omega), mapC_out (by omega), f7]
  · rw [zu_ne (fun e => by omega), zu_ne (fun e => by omega), mapC_out (by omega), fo _ (by omega)]
  · obtain ⟨p1, p2, p3, p4⟩ := hP.pk k hk
    have hne : p k ≠ n := fun e => by rw [e, htn] at p2; cases p2
    rw [zu_ne (fun e => by omega), zu_ne (fun e => by omega), mapC_in p1, if_pos (by rw [hl _ p1 hne]; exact p2), fo _ (by omega), p4, pdv_N (by omega) (by omega) (by omega)]
    unfold pdN
    rw [if_pos (by omega)]
  · have hne : a ≠ 4 + n := ha n hn
    have hm : a < 4 ∨ 4 + 20 ≤ a := by
      by_cases h : 4 ≤ a ∧ a < 24
      · exact absurd (show a = 4 + (a - 4) by omega) (ha (a - 4) (by omega))
      · omega
    rw [zu_ne (fun e e2 => hb ⟨e, e2⟩), zu_ne (fun e => absurd e hne), mapC_out (by omega), fo _ hne]
theorem m_adds (hN : 20 < N) (h0 : M 1 0 = nI n) (h1 : M 1 1 = nI c) (hn : n < 20) (hc : c < 20) :
    ∃ M', f_X12_adds TM N (M, rfM) 0 x1 x2 x3 x4 x5 = some (nI n, (M', rfM)) ∧ (M' 1 (10 + 8 * n) = 1 ∧ M' 1 (10 + 8 * n + 1) = x1 ∧ M' 1 (10 + 8 * n + 2) = x2 ∧ M' 1 (10 + 8 * n + 3) = x3 ∧ M' 1 (10 + 8 * n + 4) = x4 ∧ M' 1 (10 + 8 * n + 5) = x5 ∧ M' 1 (10 + 8 * n + 6) = 0 ∧ M' 1 (10 + 8 * n + 7) = 0) ∧ M' 1 0 = nI (n + 1) ∧ M' 1 1 = nI (c + 1) ∧ M' 1 170 = nI n ∧ (∀ k, k < c → M' 1 (170 + (k + 1)) = M 1 (170 + k)) ∧ ∀ a j, ¬ (a = 1 ∧ (j < 2 ∨ (10 + 8 * n ≤ j ∧ j < 10 + 8 * n + 8) ∨ (170 ≤ j ∧ j ≤ 170 + c))) → M' a j = M a j := by
  obtain ⟨M1, hM1⟩ : ∃ M1, M1 = zu (zu (zu (zu (zu (zu (zu (zu (zu (zu M 1 (10 + 8 * n) 1) 1 (10 + 8 * n + 1) x1) 1 (10 + 8 * n + 2) x2) 1 (10 + 8 * n + 3) x3) 1 (10 + 8 * n + 4) x4) 1 (10 + 8 * n + 5) x5) 1 (10 + 8 * n + 6) 0) 1 (10 + 8 * n + 7) 0) 1 0 (nI (n + 1))) 1 1 (nI (c + 1)) := ⟨_, rfl⟩
  have f0 : M1 1 (10 + 8 * n) = 1 := by rw [hM1]; repeat (first | rw [zu_same] | rw [zu_ne (fun _ => by omega)])
  have f1 : M1 1 (10 + 8 * n + 1) = x1 := by rw [hM1]; repeat (first | rw [zu_same] | rw [zu_ne (fun _ => by omega)])
  have f2 : M1 1 (10 + 8 * n + 2) = x2 := by rw [hM1]; repeat (first | rw [zu_same] | rw [zu_ne (fun _ => by omega)])
  have f3 : M1 1 (10 + 8 * n + 3) = x3 := by rw [hM1]; repeat (first | rw [zu_same] | rw [zu_ne (fun _ => by omega)])
  have f4 : M1 1 (10 + 8 * n + 4) = x4 := by rw [hM1]; repeat (first | rw [zu_same] | rw [zu_ne (fun _ => by omega)])
  have f5 : M1 1 (10 + 8 * n + 5) = x5 := by rw [hM1]; repeat (first | rw [zu_same] | rw [zu_ne (fun _ => by omega)])
  have f6 : M1 1 (10 + 8 * n + 6) = 0 := by rw [hM1]; repeat (first | rw [zu_same] | rw [zu_ne (fun _ => by omega)])
  have f7 : M1 1 (10 + 8 * n + 7) = 0 := by rw [hM1]; repeat (first | rw [zu_same] | rw [zu_ne (fun _ => by omega)])
  have f8 : M1 1 0 = nI (n + 1) := by rw [hM1]; repeat (first | rw [zu_same] | rw [zu_ne (fun _ => by omega)])
  have f9 : M1 1 1 = nI (c + 1) := by rw [hM1]; repeat (first | rw [zu_same] | rw [zu_ne (fun _ => by omega)])
  have fo : ∀ a j, ¬ (a = 1 ∧ (j < 2 ∨ (10 + 8 * n ≤ j ∧ j < 10 + 8 * n + 8))) → M1 a j = M a j := fun a j ha => by
    rw [hM1]
    repeat rw [zu_ne (fun _ => by omega)]
  obtain ⟨M2, e3, m1, m2, m3⟩ := m_front (N := N) (M := M1) (o := c) (x := nI n) (z := nI n) (by omega) hc
  refine ⟨M2, ?_, ⟨?_, ?_, ?_, ?_, ?_, ?_, ?_, ?_⟩, ?_, ?_, m1, fun k hk => ?_, fun a j ha => ?_⟩
  · unfold f_X12_adds
    rw [zz1_of TM_0]
    simp only [g_v, Option.bind_some, v0_, h0, zn_eq, ix8]
    rw [v_wr (by omega), Option.bind_some, g_v, Option.bind_some, nI_1, v_wr (by omega), Option.bind_some, g_v, Option.bind_some]
    rw [show nI (10 + 8 * n) + (2 : Int32) = nI (10 + 8 * n + 2) from nI_add _ 2, v_wr (by omega), Option.bind_some, g_v, Option.bind_some]
    rw [show nI (10 + 8 * n) + (3 : Int32) = nI (10 + 8 * n + 3) from nI_add _ 3, v_wr (by omega), Option.bind_some, g_v, Option.bind_some]
    rw [show nI (10 + 8 * n) + (4 : Int32) = nI (10 + 8 * n + 4) from nI_add _ 4, v_wr (by omega), Option.bind_some, g_v, Option.bind_some]
    rw [show nI (10 + 8 * n) + (5 : Int32) = nI (10 + 8 * n + 5) from nI_add _ 5, v_wr (by omega), Option.bind_some, g_v, Option.bind_some]
    rw [show nI (10 + 8 * n) + (6 : Int32) = nI (10 + 8 * n + 6) from nI_add _ 6, v_wr (by omega), Option.bind_some, g_v, Option.bind_some]
    rw [show nI (10 + 8 * n) + (7 : Int32) = nI (10 + 8 * n + 7) from nI_add _ 7, v_wr (by omega), Option.bind_some, g_v, Option.bind_some, v0_, Option.bind_some]
    repeat rw [zu_ne (fun _ => by omega)]
    rw [h0, nI_1, w0_, Option.bind_some, g_v, Option.bind_some, v1_, Option.bind_some]
    repeat rw [zu_ne (fun _ => by omega)]
    rw [h1, nI_1, w1_, Option.bind_some, ← hM1, g_v, Option.bind_some, v1_, Option.bind_some, f9, nI_pred]
    exact e3
  · rw [m3 _ _ (by omega), f0]
  · rw [m3 _ _ (by omega), f1]
  · rw [m3 _ _ (by omega), f2]
  · rw [m3 _ _ (by omega), f3]
  · rw [m3 _ _ (by omega), f4]
  · rw [m3 _ _ (by omega), f5]
  · rw [m3 _ _ (by omega), f6]
  · rw [m3 _ _ (by omega), f7]
  · rw [m3 _ _ (by omega), f8]
  · rw [m3 _ _ (by omega), f9]
  · rw [m2 (k + 1) (by omega) (by omega), Nat.add_sub_cancel, fo _ _ (by omega)]
  · rw [m3 a j (fun q => ha ⟨q.1, by omega⟩), fo a j (fun q => ha ⟨q.1, by omega⟩)]
theorem LOK_th {th' : Nat → Bool} (h : LOK th V k) (hi : ∀ s, s < 20 → th s = true → th' s = true) : LOK th' V k := by
  obtain ⟨s, a, t, b, y, h1, h2, h3, h4, h5⟩ := h
  exact ⟨s, a, t, b, y, h1, hi s h1 h2, h3, hi t h3 h4, h5⟩
theorem bI_ite (b : Bool) : bI b = if b = true then 1 else 0 := rfl
/-- a shape more on both sides -/
theorem QA_add {D D' : Nat → Nat → Int32} {V V' : Nat → Int32} (h : QA n th sel c p hs hg gt ln D V) (hn : n < 20) (hk : x1 = 0 ∨ x1 = 1 ∨ x1 = 2) (r2 : -10000 ≤ x2.toInt ∧ x2.toInt ≤ 10000) (r3 : -10000 ≤ x3.toInt ∧ x3.toInt ≤ 10000) (r4 : 1 ≤ x4.toInt ∧ x4.toInt ≤ 500) (r5 : 1 ≤ x5.toInt ∧ x5.toInt ≤ 500)
    (d1 : D' (4 + n) 0 = 1 ∧ D' (4 + n) 1 = x1 ∧ D' (4 + n) 2 = x2 ∧ D' (4 + n) 3 = x3 ∧ D' (4 + n) 4 = x4 ∧ D' (4 + n) 5 = x5 ∧ D' (4 + n) 6 = nI 0 ∧ D' (4 + n) 7 = -1000000) (d2 : ∀ s, s < 20 → s ≠ n → ∀ j, j ≠ 6 → D' (4 + s) j = D (4 + s) j) (d3 : ∀ k, k < c → D' (4 + p k) 6 = nI (k + 1)) (d4 : D' 2 1 = nI (n + 1)) (d5 : ∀ a j, (∀ s, s < 20 → a ≠ 4 + s) → ¬ (a = 2 ∧ j = 1) → D' a j = D a j)
    (v1 : V' (10 + 8 * n) = 1 ∧ V' (10 + 8 * n + 1) = x1 ∧ V' (10 + 8 * n + 2) = x2 ∧ V' (10 + 8 * n + 3) = x3 ∧ V' (10 + 8 * n + 4) = x4 ∧ V' (10 + 8 * n + 5) = x5 ∧ V' (10 + 8 * n + 6) = 0 ∧ V' (10 + 8 * n + 7) = 0) (v2 : V' 0 = nI (n + 1)) (v3 : V' 1 = nI (c + 1)) (v4 : V' 170 = nI n) (v5 : ∀ k, k < c → V' (170 + (k + 1)) = V (170 + k)) (v6 : ∀ j, ¬ (j < 2 ∨ (10 + 8 * n ≤ j ∧ j < 10 + 8 * n + 8) ∨ (170 ≤ j ∧ j ≤ 170 + c)) → V' j = V j) :
    QA (n + 1) (fun s => if s = n then true else th s) sel (c + 1) (fun k => if k = 0 then n else p (k - 1)) (fun s => if s = n then none else hs s) hg gt ln D' V' := by
  obtain ⟨a1, a2, a3, a4, a5, a6⟩ := h
  have htn : th n = false := a1.fr n (Nat.le_refl n) hn
  have hsn : sel n = false := by
    by_cases e : sel n = true
    · rw [a2.ct n hn e] at htn; cases htn
    · simpa using e
  have hc20 : c < 20 := by rw [← a3.cn]; exact cnt_lt hn htn
  obtain ⟨d10, d11, d12, d13, d14, d15, d16, d17⟩ := d1
  obtain ⟨v10, v11, v12, v13, v14, v15, v16, v17⟩ := v1
  refine ⟨⟨by omega, d4, v2, fun s hs => ?_, fun s hs => ?_, fun s h1 h2 => ?_, fun s hs ht j j1 j2 => ?_, fun s hs ht => ?_⟩, ⟨(d5 2 2 (fun s h => by omega) (by omega)).trans a2.cD, fun s hs ht => ?_, fun s hs h => ?_⟩, ⟨by omega, v3, ?_, fun k hk => ?_, fun s hs ht => ?_⟩, ⟨fun s hs ht => ?_, fun s hs ht => ?_, fun s hs ht g hg => ?_, fun g hg => (d5 _ _ (fun s h => by omega) (by omega)).trans (a4.tD g hg), fun g hg => (v6 _ (by omega)).trans (a4.tV g hg), fun g hg ht => (d5 _ _ (fun s h => by omega) (by omega)).trans (a4.gD g hg ht), fun g hg ht => (v6 _ (by omega)).trans (a4.gV g hg ht), a4.gg, a4.rk, fun g hg ht => ?_, fun s t g hs ht h1 h2 h3 h4 => ?_⟩, ⟨a5.l20, (d5 _ _ (fun s h => by omega) (by omega)).trans a5.lD, (v6 _ (by omega)).trans a5.lV, fun k hk j hj => ?_, fun k hk => ?_⟩, QU_fr a6 (fun j _ _ => d5 _ _ (fun s h => by omega) (by omega)) (fun i _ hi => v6 _ (by omega)) (fun n k _ _ _ => ⟨d5 _ _ (fun s h => by omega) (by omega), d5 _ _ (fun s h => by omega) (by omega)⟩) (fun i hi => v6 _ (by omega))⟩
  · by_cases e : s = n
    · subst e; simp only [if_true]; exact d10
    · simp only [if_neg e]; rw [d2 s hs e 0 (by omega)]; exact a1.tD s hs
  · by_cases e : s = n
    · subst e; simp only [if_true]; exact v10
    · simp only [if_neg e]; rw [v6 _ (by omega)]; exact a1.tV s hs
  · show (if s = n then true else th s) = false
    rw [if_neg (by omega)]; exact a1.fr s (by omega) h2
  · by_cases e : s = n
    · subst e
      have : j = 1 ∨ j = 2 ∨ j = 3 ∨ j = 4 ∨ j = 5 := by omega
      rcases this with rfl | rfl | rfl | rfl | rfl
      · rw [v11, d11]
      · rw [v12, d12]
      · rw [v13, d13]
      · rw [v14, d14]
      · rw [v15, d15]
    · simp only [if_neg e] at ht
      rw [v6 _ (by omega), d2 s hs e j (by omega)]; exact a1.fV s hs ht j j1 j2
  · by_cases e : s = n
    · subst e
      refine ⟨by rw [d11]; exact hk, fun j j1 j2 => ?_, fun j j1 j2 => ?_⟩
      · have : j = 2 ∨ j = 3 := by omega
        rcases this with rfl | rfl
        · rw [d12]; exact r2
        · rw [d13]; exact r3
      · have : j = 4 ∨ j = 5 := by omega
        rcases this with rfl | rfl
        · rw [d14]; exact r4
        · rw [d15]; exact r5
    · simp only [if_neg e] at ht
      obtain ⟨g1, g2, g3⟩ := a1.fD s hs ht
      refine ⟨by rw [d2 s hs e 1 (by omega)]; exact g1, fun j j1 j2 => by rw [d2 s hs e j (by omega)]; exact g2 j j1 j2, fun j j1 j2 => by rw [d2 s hs e j (by omega)]; exact g3 j j1 j2⟩
  · by_cases e : s = n
    · subst e; rw [v16, hsn]; rfl
    · simp only [if_neg e] at ht
      rw [v6 _ (by omega)]; exact a2.cV s hs ht
  · show (if s = n then true else th s) = true
    by_cases e : s = n
    · rw [if_pos e]
    · rw [if_neg e]; exact a2.ct s hs h
  · rw [← a3.cn]
    exact cnt_add hn htn (if_pos rfl) (fun i _ hi => if_neg hi)
  · by_cases e : k = 0
    · subst e
      simp only [if_true]
      exact ⟨hn, trivial, v4, d16⟩
    · obtain ⟨p1, p2, p3, p4⟩ := a3.pk (k - 1) (by omega)
      have hne : p (k - 1) ≠ n := fun e => by rw [e, htn] at p2; cases p2
      have v5' := v5 (k - 1) (by omega)
      have d3' := d3 (k - 1) (by omega)
      have hk1 : k - 1 + 1 = k := by omega
      rw [hk1] at v5' d3'
      simp only [if_neg e, if_neg hne]
      exact ⟨p1, p2, v5'.trans p3, d3'⟩
  · by_cases e : s = n
    · exact ⟨0, by omega, by show (if (0 : Nat) = 0 then n else p (0 - 1)) = s; rw [if_pos rfl, e]⟩
    · simp only [if_neg e] at ht
      obtain ⟨k, hk, hpk⟩ := a3.ps s hs ht
      exact ⟨k + 1, by omega, by show (if k + 1 = 0 then n else p (k + 1 - 1)) = s; rw [if_neg (by omega)]; exact hpk⟩
  · by_cases e : s = n
    · subst e; simp only [if_true]; exact d17
    · simp only [if_neg e] at ht ⊢
      rw [d2 s hs e 7 (by omega)]; exact a4.sD s hs ht
  · by_cases e : s = n
    · subst e; simp only [if_true]; exact v17
    · simp only [if_neg e] at ht ⊢
      rw [v6 _ (by omega)]; exact a4.sV s hs ht
  · by_cases e : s = n
    · simp only [if_pos e] at hg
      cases hg
    · simp only [if_neg e] at hg ht
      exact a4.sg s hs ht g hg
  · obtain ⟨s, h1, h2, h3⟩ := a4.ne g hg ht
    have e : s ≠ n := fun e => by rw [e, htn] at h2; cases h2
    exact ⟨s, h1, by show (if s = n then true else th s) = true; rw [if_neg e]; exact h2, by simp only [if_neg e]; exact h3⟩
  · have e : s ≠ n := fun e => by
      simp only [if_pos e] at h3
      have h5 : (none : Option Nat) = some g := h3
      cases h5
    have e2 : t ≠ n := fun e => by
      simp only [if_pos e] at h4
      have h5 : (none : Option Nat) = some g := h4
      cases h5
    simp only [if_neg e] at h1 h3
    simp only [if_neg e2] at h2 h4
    exact a4.cl s t g hs ht h1 h2 h3 h4
  · have := a5.l20
    rw [d5 _ _ (fun s h => by omega) (by omega), v6 _ (by omega)]; exact a5.eq k hk j hj
  · have := a5.l20
    refine LOK_th (LOK_mv (k' := k) (V' := V') (a5.ok k hk) (fun j hj => v6 _ (by omega))) (fun s _ h => ?_)
    show (if s = n then true else th s) = true
    by_cases e : s = n
    · rw [if_pos e]
    · rw [if_neg e]; exact h
theorem o_addShape (hN : 1901 < N) {σC σM : zS} (h : INV σC σM) (x1 x2 x3 x4 x5 : Int32) : zAg INV (f_X11_addShape TC N σC 0 x1 x2 x3 x4 x5) (f_X12_addShape TM N σM 0 x1 x2 x3 x4 x5) := by
  obtain ⟨G, q, M, rfl, rfl, ⟨n, th, sel, c, p, hs, hg, gt, ln, hA⟩, hH, hT⟩ := id h
  unfold f_X11_addShape f_X12_addShape
  rw [zz1_of TC_0, zz1_of TM_0, e_isWithin, m_in, zb2_some, zb2_some]
  rcases style_k (x := x1) with hw | ⟨kd, hkd, rfl⟩
  · rw [hw, if_pos rfl, if_pos rfl]
    exact ⟨_, _, _, rfl, rfl, h⟩
  rw [wth_2 hkd, if_neg (by decide), if_neg (by decide), e_isCoordinate, m_isPlace, zb2_some, zb2_some]
  rcases wth01 x2 (-10000) 10000 with hw2 | hw2
  · rw [hw2, if_pos rfl, if_pos rfl]
    exact ⟨_, _, _, rfl, rfl, h⟩
  rw [hw2, if_neg (by decide), if_neg (by decide), e_isCoordinate, m_isPlace, zb2_some, zb2_some]
  rcases wth01 x3 (-10000) 10000 with hw3 | hw3
  · rw [hw3, if_neg (by decide), if_pos rfl]
    exact ⟨_, _, _, rfl, rfl, h⟩
  rw [hw3, if_pos (by decide), if_neg (by decide), e_isSize, m_isSize, zb2_some, zb2_some]
  rcases wth01 x4 1 500 with hw4 | hw4
  · rw [hw4, if_pos rfl, if_pos rfl]
    exact ⟨_, _, _, rfl, rfl, h⟩
  rw [hw4, if_neg (by decide), if_neg (by decide), e_isSize, m_isSize, zb2_some, zb2_some]
  rcases wth01 x5 1 500 with hw5 | hw5
  · rw [hw5, if_neg (by decide), if_neg (by decide)]
    exact ⟨_, _, _, rfl, rfl, h⟩
  rw [hw5, if_pos (by decide), if_pos (by decide)]
  simp only [g_now, g_shapes, Option.bind_some, gI_of TC_2, hA.1.nD, g_v, v0_, hA.1.nV]
  have hn20 := hA.1.n20
  by_cases e20 : n = 20
  · subst e20
    rw [if_neg (show ¬ nI 20 < (20 : Int32) by decide), if_neg (show ¬ ¬ nI 20 = (20 : Int32) by decide)]
    exact ⟨_, _, _, rfl, rfl, h⟩
  · have hn : n < 20 := by omega
    rw [if_pos (show nI n < (20 : Int32) from nI_lt (b := 20) hn (by decide)), if_pos (show ¬ nI n = (20 : Int32) from fun e => e20 ((nI_eq (b := 20) (by omega) (by decide)).mp e))]
    obtain ⟨G1, q1, M1, e1, e2, hA1, h1, h2, h3, h4⟩ := keep2 hN hA hH hT
    have htn : th n = false := hA1.1.fr n (Nat.le_refl n) hn
    have hc20 : c < 20 := by rw [← hA1.2.2.1.cn]; exact cnt_lt hn htn
    obtain ⟨G2, e3, b1, b2, b3, b4, b5⟩ := e_add (q := q1) (N := N) (x1 := nI kd) (x2 := x2) (x3 := x3) (x4 := x4) (x5 := x5) (by omega) hA1.1 hA1.2.2.1 hn
    obtain ⟨M2, e4, c1, c2, c3, c4, c5, c6⟩ := m_adds (N := N) (x1 := nI kd) (x2 := x2) (x3 := x3) (x4 := x4) (x5 := x5) (by omega) hA1.1.nV hA1.2.2.1.cV hn hc20
    refine ⟨nI n, (G2, rfC q1), (M2, rfM), ?_, ?_, ?_⟩
    · simp only [g_hist, g_now, g_shapes, Option.bind_some, e1]
      rw [e3, zb2_some]
    · rw [e2, Option.bind_some, e4, zb2_some]
    · refine INV_now h1 h2 (QA_QR (QA_add hA1 hn ?_ (wthC hw2) (wthC hw3) (wthS hw4) (wthS hw5) b1 b2 b3 b4 b5 c1 c2 c3 c4 c5 (fun j hj => c6 1 j (fun q => hj q.2)))) ?_ ?_ ?_ ?_ ?_
      · have : kd = 0 ∨ kd = 1 ∨ kd = 2 := by omega
        rcases this with rfl | rfl | rfl
        · exact Or.inl rfl
        · exact Or.inr (Or.inl rfl)
        · exact Or.inr (Or.inr rfl)
      · exact fun a j _ _ => b5 a j (fun s h => by omega) (by omega)
      · exact fun j => c6 _ _ (by omega)
      · exact c6 _ _ (by omega)
      · exact c6 _ _ (by omega)
      · exact fun j => c6 _ _ (by omega)
end ADS
