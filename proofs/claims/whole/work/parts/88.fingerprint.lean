/-! fingerprint -/
def mxL (y : Int64) (v : Int32) : Int64 := 31 * y + v.toInt64
def teF (f : Nat → Int32) (y : Int64) : Nat → Int64
  | 0 => y
  | k + 1 => mxL (teF f y k) (f k)
def ptF (X Y : Nat → Int32) (y : Int64) : Nat → Int64
  | 0 => y
  | k + 1 => mxL (mxL (ptF X Y y k) (X k)) (Y k)
section FPR
variable {G M D : Nat → Nat → Int32} {q : Nat → Option Nat} {N : Nat} {n c ln : Nat} {th sel gt : Nat → Bool} {p : Nat → Nat} {hs hg : Nat → Option Nat} {s t a b k d : Nat} {y : Int64}
theorem e_mixed {σ : zS} {v : Int32} : f_X11_mixed TC N σ y v.toInt64 = some (mxL y v, σ) := rfl
theorem e_shapeMixed (hN : 20 < N) (hA : QA n th sel c p hs hg gt ln G (M 1)) (h : s < 20) (ht : th s = true) : f_X11_shapeMixed TC N (G, rfC q) 0 y (nI s) = some (teF (toldA G sel hs hg s) (mxL y (nI s)) 9, (G, rfC q)) := by
  unfold f_X11_shapeMixed
  rw [zz1_of TC_0, e_mixed, zb2_some]
  refine zl3_end 9 (fun i => teF (toldA G sel hs hg s) (mxL y (nI s)) i) (fun i => nI i) (fun _ => (G, rfC q)) rfl nI_0.symm rfl (by omega) (fun i hi k => ?_) (fun k => ?_)
  · unfold f_X11_shapeMixed_L11
    rw [if_neg (show ¬ (8 : Int32) < nI i from nI_nlt (a := 8) (by omega) (by decide)), e_shape hN h hi ht hA, zb2_some, e_mixed, zb2_some, zn_eq, nI_1]
    rfl
  · unfold f_X11_shapeMixed_L11
    rw [if_pos (show (8 : Int32) < nI 9 by decide)]
theorem m_shapeMixed (hN : 20 < N) (hA : QA n th sel c p hs hg gt ln G (M 1)) (h : s < 20) (ht : th s = true) {K : Int64 → Int32 → zS → Option (Int64 × zS)} : zl3 (f_X12_fingerprint_L34 TM N 0 (nI s) K) N (mxL y (nI s)) (0 : Int32) (M, rfM) = K (teF (toldA G sel hs hg s) (mxL y (nI s)) 9) (nI (s + 1)) (M, rfM) := by
  refine zl3_end 9 (fun i => teF (toldA G sel hs hg s) (mxL y (nI s)) i) (fun i => nI i) (fun _ => (M, rfM)) rfl nI_0.symm rfl (by omega) (fun i hi k => ?_) (fun k => ?_)
  · unfold f_X12_fingerprint_L34
    rw [if_neg (show ¬ (9 : Int32) ≤ nI i from nI_ge (b := 9) hi (by decide)), m_told hN h hi ht hA, zb2_some, zn_eq, zn_eq, nI_1]
    rfl
  · unfold f_X12_fingerprint_L34
    rw [if_pos (show (9 : Int32) ≤ nI 9 by decide), zn_eq, nI_1]
/-- the groups -/
def gsF (th : Nat → Bool) (hs hg : Nat → Option Nat) (gt : Nat → Bool) (y : Int64) : Nat → Int64
  | 0 => y
  | g + 1 => if gt g = true then mxL (mxL (gsF th hs hg gt y g) (nI g)) (mkS (inA th hs hg g) 20) else gsF th hs hg gt y g
theorem gs_both (hN : 20 < N) (hA : QA n th sel c p hs hg gt ln G (M 1)) : zl3 (f_X11_fingerprint_L86 TC N 0) N y (0 : Int32) (G, rfC q) = some (gsF th hs hg gt y 8, (G, rfC q)) ∧ zl3 (f_X12_fingerprint_L172 TM N 0) N y (0 : Int32) (M, rfM) = some (gsF th hs hg gt y 8, (M, rfM)) := by
  obtain ⟨a1, a2, a3, a4, a5, a6⟩ := hA
  constructor
  · refine zl3_end 8 (fun i => gsF th hs hg gt y i) (fun i => nI i) (fun _ => (G, rfC q)) rfl nI_0.symm rfl (by omega) (fun i hi k => ?_) (fun k => ?_)
    · show _ = k (if gt i = true then mxL (mxL (gsF th hs hg gt y i) (nI i)) (mkS (inA th hs hg i) 20) else gsF th hs hg gt y i) _ _
      unfold f_X11_fingerprint_L86
      rw [if_neg (nI_n8 hi), g_now, Option.bind_some, g_groups, Option.bind_some]
      rcases grp (q := q) (N := N) a4 (nI i) with ⟨g, h8, e, ht, k1, k2⟩ | ⟨k1, k2, k3⟩
      · have e := (nI_eq (by omega) (by omega)).mp e
        subst e
        rw [k1, zb2_some, if_neg (by decide), e_mixed, zb2_some, g_now, Option.bind_some, e_shapesIn (by omega), zb2_some, mkS_ext (fun s hs => inG_A a1 a4 h8 hs), e_mixed, zb2_some, zn_eq, nI_1, if_pos ht]
      · rw [k1, zb2_some, if_pos rfl, zn_eq, nI_1, if_neg (by rw [k3 i hi rfl]; decide)]
    · unfold f_X11_fingerprint_L86
      rw [if_pos (show (8 : Int32) ≤ nI 8 by decide)]
  · refine zl3_end 8 (fun i => gsF th hs hg gt y i) (fun i => nI i) (fun _ => (M, rfM)) rfl nI_0.symm rfl (by omega) (fun i hi k => ?_) (fun k => ?_)
    · show _ = k (if gt i = true then mxL (mxL (gsF th hs hg gt y i) (nI i)) (mkS (inA th hs hg i) 20) else gsF th hs hg gt y i) _ _
      unfold f_X12_fingerprint_L172
      rw [if_neg (nI_n8 hi)]
      rcases grp (G := G) (q := q) (N := N) a4 (nI i) with ⟨g, h8, e, ht, k1, k2⟩ | ⟨k1, k2, k3⟩
      · have e := (nI_eq (by omega) (by omega)).mp e
        subst e
        rw [k2, zb2_some, if_neg (by decide), m_setA (by omega) a1 a4 h8, zb2_some, zn_eq, zn_eq, nI_1, if_pos ht]
        rfl
      · rw [k2, zb2_some, if_pos rfl, zn_eq, nI_1, if_neg (by rw [k3 i hi rfl]; decide)]
    · unfold f_X12_fingerprint_L172
      rw [if_pos (show (8 : Int32) ≤ nI 8 by decide)]
/-- what the reference's scratch leaves as it was -/
def SCR (M D : Nat → Nat → Int32) : Prop := (∀ j, D 1 j = M 1 j) ∧ (∀ j, D 2 j = M 2 j) ∧ D 0 2 = M 0 2 ∧ D 0 18 = M 0 18 ∧ ∀ j, D 13 j = M 13 j
theorem cn_both (hN : 20 < N) (hA : QA n th sel c p hs hg gt ln G (M 1)) : ∀ (d k : Nat), k + d = ln → ∀ (n1 n2 : Nat), d < n1 → d < n2 → ∀ (y : Int64) (D : Nat → Nat → Int32), SCR M D →
    ∃ (y' : Int64) (D' : Nat → Nat → Int32), zl3 (f_X11_fingerprint_L57 TC N 0) n1 y (nI k) (G, rfC q) = zl3 (f_X11_fingerprint_L86 TC N 0) N y' (0 : Int32) (G, rfC q) ∧ zl3 (f_X12_fingerprint_L84 TM N 0) n2 y (nI k) (D, rfM) = zl3 (f_X12_fingerprint_L172 TM N 0) N y' (0 : Int32) (D', rfM) ∧ SCR M D' := by
  have h20 := hA.2.2.2.2.1.l20
  intro d
  induction d with
  | zero =>
    intro k hk n1 n2 hn1 hn2 y D hD
    obtain ⟨n1, rfl⟩ : ∃ r, n1 = r + 1 := ⟨n1 - 1, by omega⟩
    obtain ⟨n2, rfl⟩ : ∃ r, n2 = r + 1 := ⟨n2 - 1, by omega⟩
    refine ⟨y, D, ?_, ?_, hD⟩
    · rw [zl3]
      unfold f_X11_fingerprint_L57
      rw [g_now, Option.bind_some, g_conns, Option.bind_some, gI_of TC_24, hA.2.2.2.2.1.lD, Option.bind_some, if_pos (nI_le (show ln ≤ k by omega) (by omega))]
    · rw [zl3]
      unfold f_X12_fingerprint_L84
      rw [g_v, Option.bind_some, v2_, hD.1, hA.2.2.2.2.1.lV, Option.bind_some, if_pos (nI_le (show ln ≤ k by omega) (by omega))]
  | succ d ih =>
    intro k hk n1 n2 hn1 hn2 y D hD
    obtain ⟨n1, rfl⟩ : ∃ r, n1 = r + 1 := ⟨n1 - 1, by omega⟩
    obtain ⟨n2, rfl⟩ : ∃ r, n2 = r + 1 := ⟨n2 - 1, by omega⟩
    have hkl : k < ln := by omega
    have hD1 : D 1 = M 1 := funext hD.1
    have hAD : QA n th sel c p hs hg gt ln G (D 1) := by rw [hD1]; exact hA
    obtain ⟨X, Y, u, hu, g4, p0, p1, bX, bY, D1, e1, c5, hX, f1⟩ := conn (q := q) (N := N) hAD hkl
    have hD2 : D1 1 = M 1 := funext (fun j => (f1 _ _ (by omega) (by omega) (by omega)).trans (hD.1 j))
    have hAD1 : QA n th sel c p hs hg gt ln G (D1 1) := by rw [hD2]; exact hA
    obtain ⟨X2, Y2, u2, hu2, g42, p02, p12, bX2, bY2, D2, e2, c52, hX2, f2⟩ := conn (q := q) (N := N) hAD1 hkl
    have hD3 : ∀ j, D2 1 j = M 1 j := fun j => (f2 _ _ (by omega) (by omega) (by omega)).trans (by rw [hD2])
    have hD4 : D2 1 = M 1 := funext hD3
    have hS2 : SCR M D2 := ⟨hD3, fun j => ((f2 _ _ (by omega) (by omega) (by omega)).trans (f1 _ _ (by omega) (by omega) (by omega))).trans (hD.2.1 j), ((f2 _ _ (by omega) (by omega) (by omega)).trans (f1 _ _ (by omega) (by omega) (by omega))).trans hD.2.2.1, ((f2 _ _ (by omega) (by omega) (by omega)).trans (f1 _ _ (by omega) (by omega) (by omega))).trans hD.2.2.2.1, fun j => ((f2 _ _ (by omega) (by omega) (by omega)).trans (f1 _ _ (by omega) (by omega) (by omega))).trans (hD.2.2.2.2 j)⟩
    obtain ⟨y', D', k1, k2, k3⟩ := ih (k + 1) (by omega) n1 n2 (by omega) (by omega) (ptF X2 Y2 (mxL (mxL y (lenL X Y (u + 1))) (mkS (thrB th G (M 1) k X2 Y2 (u2 + 1)) 20)) (u2 + 2)) D2 hS2
    refine ⟨y', D', ?_, ?_, k3⟩
    · rw [zl3, ← k1]
      conv => lhs; unfold f_X11_fingerprint_L57
      rw [g_now, Option.bind_some, g_conns, Option.bind_some, gI_of TC_24, hA.2.2.2.2.1.lD, Option.bind_some, if_neg (nI_ge hkl (by omega))]
      have hcm : f_X11_connectorMixed TC N (G, rfC q) 0 y (nI k) = some (ptF X2 Y2 (mxL (mxL y (lenL X Y (u + 1))) (mkS (thrB th G (M 1) k X2 Y2 (u2 + 1)) 20)) (u2 + 2), (G, rfC q)) := by
        unfold f_X11_connectorMixed
        rw [zz1_of TC_0, g_now, Option.bind_some, g_conns, Option.bind_some, e_cfind_k hA.2.2.2.2.1.lD h20 (by omega), if_pos hkl, zb2_some, zo_some, g_now, Option.bind_some, g_shapes, Option.bind_some, e_extent (by omega) (by omega) g4 hu p0 p1 bX bY, zb2_some, e_mixed, zb2_some, g_now, Option.bind_some, g_shapes, Option.bind_some, e_crossed (by omega) hA.1 hA.2.2.2.2.1 hkl g42 hu2 p02 p12 bX2 bY2, zb2_some, e_mixed, zb2_some]
        refine zl3_end (u2 + 2) (fun i => ptF X2 Y2 (mxL (mxL y (lenL X Y (u + 1))) (mkS (thrB th G (M 1) k X2 Y2 (u2 + 1)) 20)) i) (fun i => nI i) (fun _ => (G, rfC q)) rfl nI_0.symm rfl (by omega) (fun i hi kk => ?_) (fun kk => ?_)
        · unfold f_X11_connectorMixed_L62
          rw [e_lastPoint (by omega) g42, zb2_some, if_neg (nI_nlt (show i ≤ u2 + 1 by omega) (by omega)), g_now, Option.bind_some, g_shapes, Option.bind_some, p02 i (by omega), zb2_some, e_mixed, zb2_some, g_now, Option.bind_some, g_shapes, Option.bind_some, p12 i (by omega), zb2_some, e_mixed, zb2_some, zn_eq, nI_1]
          rfl
        · unfold f_X11_connectorMixed_L62
          rw [e_lastPoint (by omega) g42, zb2_some, if_pos (nI_lt (show u2 + 1 < u2 + 2 by omega) (by omega))]
      rw [hcm, zb2_some, zn_eq, nI_1]
      rfl
    · rw [zl3, ← k2]
      conv => lhs; unfold f_X12_fingerprint_L84
      have hle : f_X12_lengthOf TM N (D, rfM) 0 (nI k) = some (lenL X Y (u + 1), (D1, rfM)) := by
        unfold f_X12_lengthOf
        rw [zz1_of TM_0, e1, Option.bind_some, m_lenL (by omega) hu c5 hX]
      have hth : f_X12_throughOf TM N (D1, rfM) 0 (nI k) = some (mkS (thrB th G (M 1) k X2 Y2 (u2 + 1)) 20, (D2, rfM)) := by
        unfold f_X12_throughOf
        rw [zz1_of TM_0, e2, Option.bind_some, m_throughL (G := G) (th := th) (by omega) (fun s h => by rw [hD3]; exact hA.1.tV s h) (fun s h ht j h1 h2 => by rw [hD3]; exact hA.1.fV s h ht j (by omega) h2) hA.1.fD (by omega) hu2 c52 hX2 bX2 bY2, hD4]
      rw [g_v, Option.bind_some, v2_, hD.1, hA.2.2.2.2.1.lV, Option.bind_some, if_neg (nI_ge hkl (by omega)), hle, zb2_some, hth, zb2_some, zn_eq]
      refine zl2_end (u2 + 2) (fun i => ptF X2 Y2 (mxL (mxL y (lenL X Y (u + 1))) (mkS (thrB th G (M 1) k X2 Y2 (u2 + 1)) 20)) i) (fun i => nI i) rfl nI_0.symm (by omega) (fun i hi kk => ?_) (fun kk => ?_)
      · unfold f_X12_fingerprint_L121
        rw [gI_of TM_0, c52, Option.bind_some, if_neg (nI_ge hi (by omega)), gm3, Option.bind_some, aI_of TM_3 ML_3 (show i < 4 by omega) (by decide), Option.bind_some, gm4, Option.bind_some, aI_of TM_4 ML_4 (show i < 4 by omega) (by decide), Option.bind_some, zn_eq, zn_eq, nI_1, (hX2 i hi).1, (hX2 i hi).2]
        rfl
      · unfold f_X12_fingerprint_L121
        rw [gI_of TM_0, c52, Option.bind_some, if_pos (nI_le (Nat.le_refl (u2 + 2)) (by omega)), zn_eq, nI_1]
        rfl
/-- the shapes -/
def shF (G : Nat → Nat → Int32) (th sel : Nat → Bool) (hs hg : Nat → Option Nat) : Nat → Int64
  | 0 => 89
  | s + 1 => if th s = true then teF (toldA G sel hs hg s) (mxL (shF G th sel hs hg s) (nI s)) 9 else shF G th sel hs hg s
theorem o_fingerprint (hN : 1901 < N) {σC σM : zS} (hI : INV σC σM) : zAgL INV (f_X11_fingerprint TC N σC 0) (f_X12_fingerprint TM N σM 0) := by
  obtain ⟨G, q, M, rfl, rfl, ⟨n, th, sel, c, p, hs, hg, gt, ln, hA⟩, hH, hT⟩ := id hI
  have h20 := hA.2.2.2.2.1.l20
  obtain ⟨y', D', k1, k2, k3⟩ := cn_both (q := q) (N := N) (by omega) hA ln 0 (by omega) N N (by omega) (by omega) (mxL (shF G th sel hs hg 20) (nI ln)) M ⟨fun _ => rfl, fun _ => rfl, rfl, rfl, fun _ => rfl⟩
  have hD1 : D' 1 = M 1 := funext k3.1
  obtain ⟨j1, j2⟩ := gs_both (q := q) (N := N) (M := D') (y := y') (by omega) (show QA n th sel c p hs hg gt ln G (D' 1) by rw [hD1]; exact hA)
  refine ⟨gsF th hs hg gt y' 8, (G, rfC q), (D', rfM), ?_, ?_, INV_scr (QA_QR hA) hH hT (fun a j _ => rfl) rfl (fun j => rfl) k3.1 k3.2.1 k3.2.2.1 k3.2.2.2.1 k3.2.2.2.2⟩
  · unfold f_X11_fingerprint
    rw [zz1_of TC_0]
    refine zl3_end 20 (fun i => shF G th sel hs hg i) (fun i => nI i) (fun _ => (G, rfC q)) rfl nI_0.symm rfl (by omega) (fun i hi k => ?_) (fun k => ?_)
    · show _ = k (if th i = true then teF (toldA G sel hs hg i) (mxL (shF G th sel hs hg i) (nI i)) 9 else shF G th sel hs hg i) _ _
      unfold f_X11_fingerprint_L6
      rw [if_neg (nI_n20 hi), g_now, Option.bind_some, g_shapes, Option.bind_some, e_find_k hi, QS_liv hA.1 hi, zb2_some]
      by_cases ht : th i = true
      · rw [if_pos ht, if_pos ht, zo_some, e_shapeMixed (by omega) hA hi ht, zb2_some, zn_eq, nI_1]
      · rw [if_neg ht, if_neg ht, zo_none, zn_eq, nI_1]
    · unfold f_X11_fingerprint_L6
      rw [if_pos (nI_20 (Nat.le_refl 20) (by decide)), g_now, Option.bind_some, g_conns, Option.bind_some, gI_of TC_24, hA.2.2.2.2.1.lD, Option.bind_some, e_mixed, zb2_some]
      exact k1.trans j1
  · unfold f_X12_fingerprint
    rw [zz1_of TM_0]
    refine zl3_end 20 (fun i => shF G th sel hs hg i) (fun i => nI i) (fun _ => (M, rfM)) rfl nI_0.symm rfl (by omega) (fun i hi k => ?_) (fun k => ?_)
    · show _ = k (if th i = true then teF (toldA G sel hs hg i) (mxL (shF G th sel hs hg i) (nI i)) 9 else shF G th sel hs hg i) _ _
      unfold f_X12_fingerprint_L6
      rw [if_neg (nI_n20 hi), show (0 : Int32) = nI 0 from rfl, m_of (by omega), zb2_some]
      show (if ¬ M 1 (10 + 8 * i) = 1 then _ else _) = _
      rw [hA.1.tV i hi]
      by_cases ht : th i = true
      · rw [ht, if_neg (fun n => n rfl), if_pos rfl, zn_eq]
        exact m_shapeMixed (by omega) hA hi ht
      · rw [if_neg ht, eq_false_of_ne_true ht, if_pos (by decide), zn_eq, nI_1]
    · unfold f_X12_fingerprint_L6
      rw [if_pos (nI_20 (Nat.le_refl 20) (by decide)), g_v, Option.bind_some, v2_, hA.2.2.2.2.1.lV, Option.bind_some, zn_eq]
      exact k2.trans j2
end FPR
