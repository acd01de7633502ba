/-! read: the whole operation -/
section ORD
variable {G M C D G1 M1 : Nat → Nat → Int32} {q q1 : Nat → Option Nat} {N : Nat} {len a i j k f T K n c ln : Nat} {th sel gt : Nat → Bool} {p : Nat → Nat} {hs hg : Nat → Option Nat} {x z v : Int32}
theorem okn_lo (h : j < 2) : okn j v = wth v (-10000) 10000 := if_neg (by omega)
theorem okn_hi (h : 2 ≤ j) : okn j v = wth v 1 500 := if_pos h
theorem adds_both (hN : 20 < N) (hR : RDY G1 M1 f) : ∀ (d k : Nat), k + d = f → ∀ (n1 n2 : Nat), d < n1 → d < n2 → ∀ (C D : Nat → Nat → Int32) (n c ln : Nat) (th sel gt : Nat → Bool) (p : Nat → Nat) (hs hg : Nat → Option Nat), n + d ≤ 20 → QA n th sel c p hs hg gt ln C (D 1) → (∀ a j, 52 ≤ a → C a j = G1 a j) → (∀ a j, a ≠ 1 → D a j = M1 a j) →
    ∃ (C' D' : Nat → Nat → Int32), zl2 (f_X11_read_L58 TC N 0) n1 (nI k) (C, rfC q1) = some (nI f, (zu C' 360 2 0, rfC q1)) ∧ zl2 (f_X12_read_L39 TM N 0) n2 (nI k) (D, rfM) = some (nI f, (zu D' 0 18 0, rfM)) ∧ QR C' (D' 1) ∧ (∀ a j, 52 ≤ a → C' a j = G1 a j) ∧ ∀ a j, a ≠ 1 → D' a j = M1 a j := by
  obtain ⟨r1, r2, r3, r4, r5⟩ := hR
  intro d
  induction d with
  | zero =>
    intro k hk n1 n2 hn1 hn2 C D n c ln th sel gt p hs hg hn hA g1 g2
    obtain ⟨n1, rfl⟩ : ∃ r, n1 = r + 1 := ⟨n1 - 1, by omega⟩
    obtain ⟨n2, rfl⟩ : ∃ r, n2 = r + 1 := ⟨n2 - 1, by omega⟩
    have hk : k = f := by omega
    subst hk
    refine ⟨C, D, ?_, ?_, QA_QR hA, g1, g2⟩
    · rw [zl2]
      unfold f_X11_read_L58
      rw [g_text, Option.bind_some, gI_of TC_360, g1 _ _ (by omega), r2, Option.bind_some, if_pos (nI_le (Nat.le_refl k) (by omega)), Option.bind_some, pI_of TC_360, Option.bind_some, g_text, Option.bind_some, gI_of TC_360, zu_ne (fun e => by omega), g1 _ _ (by omega), r2, Option.bind_some]
    · rw [zl2]
      unfold f_X12_read_L39
      rw [gI_of TM_0, g2 _ _ (by omega), r3, Option.bind_some, if_pos (nI_le (Nat.le_refl k) (by omega)), pI_of TM_0, Option.bind_some, gI_of TM_0, zu_ne (fun e => by omega), g2 _ _ (by omega), r3, Option.bind_some]
  | succ d ih =>
    intro k hk n1 n2 hn1 hn2 C D n c ln th sel gt p hs hg hn hA g1 g2
    obtain ⟨n1, rfl⟩ : ∃ r, n1 = r + 1 := ⟨n1 - 1, by omega⟩
    obtain ⟨n2, rfl⟩ : ∃ r, n2 = r + 1 := ⟨n2 - 1, by omega⟩
    have hkf : k < f := by omega
    have hn20 : n < 20 := by omega
    have htn : th n = false := hA.1.fr n (Nat.le_refl n) hn20
    have hc20 : c < 20 := by rw [← hA.2.2.1.cn]; exact cnt_lt hn20 htn
    -- the fields of draft k
    have fd : ∀ j, j < 4 → C (363 + k) (2 + j) = M1 15 (4 * k + j) ∧ okn j (M1 15 (4 * k + j)) = 1 := fun j hj => by
      have h := r4 (4 * k + j) (by omega)
      rw [show (4 * k + j) / 4 = k by omega, show (4 * k + j) % 4 = j by omega] at h
      exact ⟨(g1 _ _ (by omega)).trans h.1, h.2⟩
    have fk := r5 k hkf
    have w0 : wth (M1 15 (4 * k + 0)) (-10000) 10000 = 1 := (okn_lo (by decide)).symm.trans (fd 0 (by omega)).2
    have w1 : wth (M1 15 (4 * k + 1)) (-10000) 10000 = 1 := (okn_lo (by decide)).symm.trans (fd 1 (by omega)).2
    have w2 : wth (M1 15 (4 * k + 2)) 1 500 = 1 := (okn_hi (by decide)).symm.trans (fd 2 (by omega)).2
    have w3 : wth (M1 15 (4 * k + 3)) 1 500 = 1 := (okn_hi (by decide)).symm.trans (fd 3 (by omega)).2
    obtain ⟨C2, e3, b1, b2, b3, b4, b5⟩ := e_add (q := q1) (N := N) (x1 := M1 14 k) (x2 := M1 15 (4 * k + 0)) (x3 := M1 15 (4 * k + 1)) (x4 := M1 15 (4 * k + 2)) (x5 := M1 15 (4 * k + 3)) (by omega) hA.1 hA.2.2.1 hn20
    obtain ⟨D2, e4, c1, c2, c3, c4, c5, c6⟩ := m_adds (N := N) (x1 := M1 14 k) (x2 := M1 15 (4 * k + 0)) (x3 := M1 15 (4 * k + 1)) (x4 := M1 15 (4 * k + 2)) (x5 := M1 15 (4 * k + 3)) (by omega) hA.1.nV hA.2.2.1.cV hn20 hc20
    have hA2 := QA_add hA hn20 fk.2 (wthC w0) (wthC w1) (wthS w2) (wthS w3) b1 b2 b3 b4 b5 c1 c2 c3 c4 c5 (fun j hj => c6 1 j (fun q => hj q.2))
    obtain ⟨C', D', k1, k2, k3, k4, k5⟩ := ih (k + 1) (by omega) n1 n2 (by omega) (by omega) C2 D2 _ _ _ _ _ _ _ _ _ (by omega) hA2 (fun a j h => (b5 a j (fun s hs => by omega) (by omega)).trans (g1 a j h)) (fun a j h => (c6 a j (by omega)).trans (g2 a j h))
    refine ⟨C', D', ?_, ?_, k3, k4, k5⟩
    · rw [zl2, ← k1]
      conv => lhs; unfold f_X11_read_L58
      rw [g_text, Option.bind_some, gI_of TC_360, g1 _ _ (by omega), r2, Option.bind_some, if_neg (nI_ge hkf (by omega)), Option.bind_some]
      unfold f_X9_draft
      rw [zz1_of TC_360, if_neg (nI_pos (by omega)), gR_of TC_360, rf_360_1, Option.bind_some, aL_of TC_362, TL_362, Option.bind_some, if_neg (nI_ge (show k < 7 by omega) (by decide)), Option.bind_some, aR_of TC_362 TL_362 (show k < 7 by omega) (by decide), rf_362 (show k < 7 by omega), Option.bind_some, zb2_some, zo_some, g_now, Option.bind_some, g_shapes, Option.bind_some, gI_of (TC_dr (show k < 7 by omega)), Option.bind_some, gI_of (TC_dr (show k < 7 by omega)), Option.bind_some, gI_of (TC_dr (show k < 7 by omega)), Option.bind_some, gI_of (TC_dr (show k < 7 by omega)), Option.bind_some, gI_of (TC_dr (show k < 7 by omega)), Option.bind_some]
      rw [show C (363 + k) 1 = M1 14 k from (g1 _ _ (by omega)).trans fk.1, show C (363 + k) 2 = M1 15 (4 * k + 0) from (fd 0 (by omega)).1, show C (363 + k) 3 = M1 15 (4 * k + 1) from (fd 1 (by omega)).1, show C (363 + k) 4 = M1 15 (4 * k + 2) from (fd 2 (by omega)).1, show C (363 + k) 5 = M1 15 (4 * k + 3) from (fd 3 (by omega)).1, e3, zb2_some, zn_eq, nI_1]
      rfl
    · have i0 : (4 : Int32) * nI k = nI (4 * k + 0) := by
        have := m_idx (a := 4) (b := k) (c := 0)
        exact (Int32.add_zero _).symm.trans this
      have i1 : (4 : Int32) * nI k + 1 = nI (4 * k + 1) := by rw [i0, nI_1]
      have i2 : (4 : Int32) * nI k + 2 = nI (4 * k + 2) := by rw [i0]; exact nI_add _ 2
      have i3 : (4 : Int32) * nI k + 3 = nI (4 * k + 3) := by rw [i0]; exact nI_add _ 3
      rw [zl2, ← k2]
      conv => lhs; unfold f_X12_read_L39
      simp only [i1, i2, i3]
      rw [gI_of TM_0, g2 _ _ (by omega), r3, Option.bind_some, if_neg (nI_ge hkf (by omega)), gm22, Option.bind_some, aI_of TM_14 ML_14 (show k < 20 by omega) (by decide), Option.bind_some, gm23, Option.bind_some, i0, aI_of TM_15 ML_15 (show 4 * k + 0 < 80 by omega) (by decide), Option.bind_some, Option.bind_some, aI_of TM_15 ML_15 (show 4 * k + 1 < 80 by omega) (by decide), Option.bind_some, Option.bind_some, aI_of TM_15 ML_15 (show 4 * k + 2 < 80 by omega) (by decide), Option.bind_some, Option.bind_some, aI_of TM_15 ML_15 (show 4 * k + 3 < 80 by omega) (by decide), Option.bind_some]
      rw [g2 14 _ (by decide), g2 15 _ (by decide), g2 15 _ (by decide), g2 15 _ (by decide), g2 15 _ (by decide), e4, zb2_some, zn_eq, nI_1]
      rfl
theorem o_read (hN : 1901 < N) {σC σM : zS} (hI : INV σC σM) : zAg INV (f_X11_read TC N σC 0) (f_X12_read TM N σM 0) := by
  obtain ⟨G, q, M, rfl, rfl, ⟨n, th, sel, c, p, hs, hg, gt, ln, hA⟩, hH, hT⟩ := id hI
  obtain ⟨len, l1, l2, l3, l4⟩ := id hT
  obtain ⟨rc, rm, C, D, e1, e2, ⟨f1, f2, f3, f4⟩, hres⟩ := parse_both (q := q) (N := N) (G := G) (M := M) (by omega) ⟨l1, l3, fun i hi => (l4 i hi).symm⟩ l2
  have hscr : INV (C, rfC q) (D, rfM) := INV_scr (QA_QR hA) hH hT (fun a j h => f1 a j h) (f2.trans l2.symm) f3 (fun j => f4 _ _ (by omega) (by omega) (by omega)) (fun j => f4 _ _ (by omega) (by omega) (by omega)) (f4 _ _ (by omega) (by omega) (by omega)) (f4 _ _ (by omega) (by omega) (by omega)) (fun j => f4 _ _ (by omega) (by omega) (by omega))
  unfold f_X11_read f_X12_read
  rw [zz1_of TC_0, zz1_of TM_0, g_text, Option.bind_some, e1, e2, zb2_some, zb2_some]
  rcases hres with ⟨b, b1, rfl, rfl⟩ | ⟨rfl, rfl, f, hR⟩
  · rw [if_neg (nI_nNN b1), if_neg (nI_pos b1)]
    exact ⟨_, _, _, rfl, rfl, hscr⟩
  · rw [if_pos rfl, if_pos (show (-1 : Int32) < 0 by decide), g_now, Option.bind_some, g_shapes, Option.bind_some, gI_of TC_2, f1 _ _ (by omega), hA.1.nD, Option.bind_some, g_text, Option.bind_some, gI_of TC_360, hR.2.1, Option.bind_some, g_v, Option.bind_some, v0_, f4 1 0 (by omega) (by omega) (by omega), hA.1.nV, Option.bind_some, gI_of TM_0, hR.2.2.1, Option.bind_some, nI_add]
    have hn20 := hA.1.n20
    have hf7 := hR.1
    by_cases h20 : n + f ≤ 20
    · rw [if_pos (show nI (n + f) ≤ (20 : Int32) from nI_le (b := 20) h20 (by decide)), if_pos (show nI (n + f) ≤ (20 : Int32) from nI_le (b := 20) h20 (by decide))]
      obtain ⟨G1, q1, M1, k1, k2, hA1, h1, h2, h3, h4⟩ := keep3 (M0 := D) (G0 := C) hN hA hH hT (fun a j h => f1 a j h) (f2.trans l2.symm) f3 (fun j => f4 _ _ (by omega) (by omega) (by omega)) (fun j => f4 _ _ (by omega) (by omega) (by omega)) (f4 _ _ (by omega) (by omega) (by omega)) (f4 _ _ (by omega) (by omega) (by omega)) (fun j => f4 _ _ (by omega) (by omega) (by omega))
      have hR1 : RDY G1 M1 f := by
        obtain ⟨r1, r2, r3, r4, r5⟩ := hR
        refine ⟨r1, (h3 _ _ (by omega)).trans r2, (h4 _ _ (by omega) (by omega)).trans r3, fun t ht => ?_, fun k hk => ?_⟩
        · rw [h3 _ _ (by omega), h4 _ _ (by omega) (by omega)]
          exact r4 t ht
        · rw [h3 _ _ (by omega), h4 _ _ (by omega) (by omega)]
          exact r5 k hk
      obtain ⟨C2, D2, m1, m2, m3, m4, m5⟩ := adds_both (q1 := q1) (N := N) (by omega) hR1 f 0 (by omega) N N (by omega) (by omega) G1 M1 n c ln th sel gt p hs hg (by omega) hA1 (fun _ _ _ => rfl) (fun _ _ _ => rfl)
      refine ⟨nI f, (zu C2 360 2 0, rfC q1), (zu D2 0 18 0, rfM), ?_, ?_, ?_⟩
      · rw [g_hist, Option.bind_some, Option.bind_some, k1, Option.bind_some]
        exact m1
      · rw [k2, Option.bind_some]
        exact m2
      · have hc1 : ∀ a j, a ≠ 360 → zu C2 360 2 0 a j = C2 a j := fun a j h => zu_ne (fun e => absurd e h)
        have hd1 : ∀ j, zu D2 0 18 0 1 j = D2 1 j := fun j => zu_ne (fun e => absurd e (by decide))
        refine INV_mk (QR_same m3 (fun i _ => hd1 i) (fun o j _ h => hc1 _ _ (by omega))) (Hist_fr h1 (fun a j ha hb => (hc1 _ _ (by omega)).trans (m4 _ _ ha)) (fun j => (zu_ne (fun e => absurd e (by decide))).trans (m5 _ _ (by decide))) ((zu_ne (fun _ => by decide)).trans (m5 _ _ (by decide)))) ⟨0, by omega, zu_same, zu_same, fun i hi => absurd hi (Nat.not_lt_zero i)⟩
    · rw [if_neg (show ¬ nI (n + f) ≤ (20 : Int32) from nI_ge (a := 20) (b := n + f) (by omega) (by omega)), if_neg (show ¬ nI (n + f) ≤ (20 : Int32) from nI_ge (a := 20) (b := n + f) (by omega) (by omega))]
      exact ⟨_, _, _, rfl, rfl, hscr⟩
end ORD
