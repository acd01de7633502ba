/-! through -/
def anyB (f : Nat → Bool) : Nat → Bool
  | 0 => false
  | n + 1 => anyB f n || f n
/-- part p of what is drawn meets shape s -/
def crx (G : Nat → Nat → Int32) (X Y : Nat → Int32) (p s : Nat) : Bool := crB (X p).toInt (Y p).toInt (X (p + 1)).toInt (Y (p + 1)).toInt (G (4 + s) 2).toInt (G (4 + s) 2 + G (4 + s) 4).toInt (G (4 + s) 3).toInt (G (4 + s) 3 + G (4 + s) 5).toInt
/-- the shapes that a connector runs through -/
def thrB (th : Nat → Bool) (G : Nat → Nat → Int32) (V : Nat → Int32) (k : Nat) (X Y : Nat → Int32) (y s : Nat) : Bool := th s && (!atB V (nI s) k && anyB (fun p => crx G X Y p s) y)
section THR
variable {G M : Nat → Nat → Int32} {q : Nat → Option Nat} {N : Nat} {n c ln : Nat} {th sel gt : Nat → Bool} {p : Nat → Nat} {hs hg : Nat → Option Nat} {ρ : Nat → Nat → Option Nat} {V : Nat → Int32} {s t a b y k : Nat} {X Y : Nat → Int32}
theorem Rct_of (hF : Fld G s) : Rct G (4 + s) := ⟨hF.2.1, hF.2.2⟩
theorem e_crossed (hN : 20 < N) (hS : QS n th G V) (hL : QL th ln G V) (hk : k < ln) (g4 : G (26 + k) 4 = nI y) (hy : y < 3) (h0 : ∀ i, i < 100 → f_X0_place TC N (G, rfC q) (26 + k) 2 (nI i) (0 : Int32) = some (X i, (G, rfC q))) (h1 : ∀ i, i < 100 → f_X0_place TC N (G, rfC q) (26 + k) 2 (nI i) (1 : Int32) = some (Y i, (G, rfC q))) (bX : ∀ i, Bd (X i)) (bY : ∀ i, Bd (Y i)) : f_X0_crossed TC N (G, rfC q) (26 + k) 2 = some (mkS (thrB th G V k X Y (y + 1)) 20, (G, rfC q)) := by
  have hc : k < 20 := by have := hL.l20; omega
  unfold f_X0_crossed
  rw [zz1_of (TC_cn hc)]
  refine zl3_end (y + 1) (fun i => mkS (thrB th G V k X Y i) 20) (fun i => nI i) (fun _ => (G, rfC q)) (S_eq0.mpr (fun s _ => by simp [thrB, anyB])).symm nI_0.symm rfl (by omega) (fun i hi kk => ?_) (fun kk => ?_)
  · unfold f_X0_crossed_L4
    rw [e_lastPoint hc g4, zb2_some, if_neg (nI_ge hi (by omega)), nI_1, h0 _ (by omega), zb2_some, h1 _ (by omega), zb2_some, h0 _ (by omega), zb2_some, h1 _ (by omega), zb2_some]
    refine zl3_end 20 (fun j => mkS (thrB th G V k X Y i) 20 ||| mkS (fun s => th s && (!atB V (nI s) k && crx G X Y i s)) j) (fun j => nI j) (fun _ => (G, rfC q)) (or_0 _).symm nI_0.symm rfl hN (fun j hj kk2 => ?_) (fun kk2 => ?_)
    · unfold f_X0_crossed_L55
      rw [if_neg (nI_n20 hj), e_find_k hj, QS_liv hS hj, zb2_some]
      by_cases ht : th j = true
      · rw [if_pos ht, zo_some, e_isAtC (TC_cn hc), zb2_some]
        by_cases ha : atB V (nI j) k = true
        · rw [if_pos ((atB_D hL hk).mpr ha), if_pos (by decide), zn_eq, nI_1, mkS_f (n := j) (by simp [ha])]
        · rw [if_neg (fun e => ha ((atB_D hL hk).mp e)), if_neg (by decide), e_isCrossed (TC_sh hj) (Rct_of (hS.fD j hj ht)) (bX _) (bY _) (bX _) (bY _), zb2_some]
          show (if bI (crx G X Y i j) = 0 then _ else _) = _
          have ha2 : atB V (nI j) k = false := by simpa using ha
          by_cases hx : crx G X Y i j = true
          · rw [hx, if_neg (by decide), zn_eq, zn_eq, nI_1, mkS_t (n := j) (by simp [ht, ha2, hx]), Int32.or_assoc]
          · have hx2 : crx G X Y i j = false := by simpa using hx
            rw [hx2, if_pos (by decide), zn_eq, nI_1, mkS_f (n := j) (by simp [hx2])]
      · rw [if_neg ht, zo_none, zn_eq, nI_1, mkS_f (n := j) (by simp [ht])]
    · unfold f_X0_crossed_L55
      rw [if_pos (nI_20 (Nat.le_refl 20) (by decide)), zn_eq, nI_1, S_or]
      rw [mkS_ext (P := fun s => thrB th G V k X Y i s || (th s && (!atB V (nI s) k && crx G X Y i s))) (Q := thrB th G V k X Y (i + 1)) (fun s _ => by
        simp only [thrB, anyB]
        cases th s <;> cases atB V (nI s) k <;> simp)]
  · unfold f_X0_crossed_L4
    rw [e_lastPoint hc g4, zb2_some, if_pos (nI_le (Nat.le_refl _) (by omega))]
theorem m_throughL (hN : 20 < N) (ht0 : ∀ s, s < 20 → M 1 (10 + 8 * s) = bI (th s)) (hf : ∀ s, s < 20 → th s = true → ∀ j, 2 ≤ j → j < 6 → M 1 (10 + 8 * s + j) = G (4 + s) j) (hF : ∀ s, s < 20 → th s = true → Fld G s) (hk : k < 20) (hy : y < 3) (c5 : M 0 5 = nI (y + 2)) (hX : ∀ i, i < y + 2 → M 3 i = X i ∧ M 4 i = Y i) (bX : ∀ i, Bd (X i)) (bY : ∀ i, Bd (Y i)) :
    zl3 (f_X12_throughOf_L9 TM N 0 (nI k)) N (0 : Int32) (0 : Int32) (M, rfM) = some (mkS (thrB th G (M 1) k X Y (y + 1)) 20, (M, rfM)) := by
  refine zl3_end 20 (fun i => mkS (thrB th G (M 1) k X Y (y + 1)) i) (fun i => nI i) (fun _ => (M, rfM)) rfl nI_0.symm rfl hN (fun i hi kk => ?_) (fun kk => ?_)
  · unfold f_X12_throughOf_L9
    rw [if_neg (nI_n20 hi)]
    have of0 : f_X12_of TM N (M, rfM) 0 (nI i) (0 : Int32) = some (bI (th i), (M, rfM)) := (m_of (j := 0) (by omega)).trans (by rw [show 10 + 8 * i + 0 = 10 + 8 * i from rfl, ht0 i hi])
    obtain ⟨m, rfl⟩ : ∃ m, N = m + 1 := ⟨N - 1, by omega⟩
    by_cases ht : th i = true
    · by_cases ha : atB (M 1) (nI i) k = true
      · rw [zl3]
        unfold f_X12_throughOf_L18
        rw [gI_of TM_0, c5, Option.bind_some, show (0 : Int32) + 1 = nI 1 from rfl, if_neg (nI_ge (by omega) (by omega)), of0, zb2_some, ht, if_neg (fun n => n rfl), m_isAt hk, zb2_some, if_pos (of_decide_eq_true ha), if_pos (by decide), zn_eq, nI_1, mkS_f (n := i) (by simp [thrB, ha])]
      · have ha2 : atB (M 1) (nI i) k = false := by simpa using ha
        refine zl3_end (y + 1) (fun j => if anyB (fun p => crx G X Y p i) j = true then mkS (thrB th G (M 1) k X Y (y + 1)) i ||| ((1 : Int32) <<< (nI i &&& 31)) else mkS (thrB th G (M 1) k X Y (y + 1)) i) (fun j => nI j) (fun _ => (M, rfM)) rfl nI_0.symm rfl (by omega) (fun j hj kk2 => ?_) (fun kk2 => ?_)
        · unfold f_X12_throughOf_L18
          rw [gI_of TM_0, c5, Option.bind_some, nI_1, if_neg (nI_ge (by omega) (by omega)), of0, zb2_some, ht, if_neg (fun n => n rfl), m_isAt hk, zb2_some, if_neg (fun e => ha (decide_eq_true e)), if_neg (by decide), m_meets (G := G) (by omega) hi (Rct_of (hF i hi ht)) (hf i hi ht) (bX j) (bY j) (bX (j + 1)) (bY (j + 1)) (by omega) (hX j (by omega)).1 (hX j (by omega)).2 (hX (j + 1) (by omega)).1 (hX (j + 1) (by omega)).2, zb2_some]
          show (if bI (crx G X Y j i) = 0 then _ else _) = _
          have ea : anyB (fun p => crx G X Y p i) (j + 1) = (anyB (fun p => crx G X Y p i) j || crx G X Y j i) := rfl
          rw [ea]
          by_cases hx : crx G X Y j i = true
          · rw [hx, if_neg (by decide), zn_eq, zn_eq, Bool.or_true, if_pos rfl]
            by_cases hb : anyB (fun p => crx G X Y p i) j = true
            · rw [if_pos hb, Int32.or_assoc, Int32.or_self]
            · rw [if_neg hb]
          · have hx2 : crx G X Y j i = false := by simpa using hx
            rw [hx2, if_pos (by decide), zn_eq, zn_eq, Bool.or_false, or_0]
        · unfold f_X12_throughOf_L18
          rw [gI_of TM_0, c5, Option.bind_some, nI_1, if_pos (nI_le (by omega) (by omega)), zn_eq, nI_1]
          by_cases hb : anyB (fun p => crx G X Y p i) (y + 1) = true
          · rw [if_pos hb, mkS_t (n := i) (by simp [thrB, ht, ha2, hb])]
          · have hb2 : anyB (fun p => crx G X Y p i) (y + 1) = false := by simpa using hb
            rw [if_neg hb, mkS_f (n := i) (by simp [thrB, hb2])]
    · have ht2 : th i = false := by simpa using ht
      rw [zl3]
      unfold f_X12_throughOf_L18
      rw [gI_of TM_0, c5, Option.bind_some, show (0 : Int32) + 1 = nI 1 from rfl, if_neg (nI_ge (by omega) (by omega)), of0, zb2_some, ht2, if_pos (by decide), zn_eq, nI_1, mkS_f (n := i) (by simp [thrB, ht2])]
  · unfold f_X12_throughOf_L9
    rw [if_pos (nI_20 (Nat.le_refl 20) (by decide))]
theorem o_through (hN : 1901 < N) {σC σM : zS} (h : INV σC σM) (x : Int32) : zAg INV (f_X11_through TC N σC 0 x) (f_X12_through TM N σM 0 x) := by
  obtain ⟨G, q, M, rfl, rfl, ⟨n, th, sel, c, p, hs, hg, gt, ln, hA⟩, hH, hT⟩ := id h
  unfold f_X11_through f_X12_through
  rw [zz1_of TC_0, zz1_of TM_0]
  simp only [g_now, g_conns, Option.bind_some]
  rcases lin (q := q) (N := N) hA.2.2.2.2.1 x with ⟨k, hk, rfl, k1, k2⟩ | ⟨k1, k2⟩
  · have h20 := hA.2.2.2.2.1.l20
    rw [k1, k2, zb2_some, zb2_some, zo_some, if_neg (by decide)]
    obtain ⟨X, Y, y, hy, g4, p0, p1, bX, bY, M1, e1, c5, hX, f1⟩ := conn (q := q) (N := N) hA hk
    have e11 : ∀ j, M1 1 j = M 1 j := fun j => f1 _ _ (by omega) (by omega) (by omega)
    have e12 : M1 1 = M 1 := funext e11
    refine ⟨mkS (thrB th G (M 1) k X Y (y + 1)) 20, (G, rfC q), (M1, rfM), ?_, ?_, ?_⟩
    · simp only [g_now, g_shapes, Option.bind_some]
      rw [e_crossed (by omega) hA.1 hA.2.2.2.2.1 hk g4 hy p0 p1 bX bY, zb2_some]
    · unfold f_X12_throughOf
      rw [zz1_of TM_0, e1, Option.bind_some, m_throughL (G := G) (th := th) (by omega) (fun s h => by rw [e11]; exact hA.1.tV s h) (fun s h ht j h1 h2 => by rw [e11]; exact hA.1.fV s h ht j (by omega) h2) hA.1.fD (by omega) hy c5 hX bX bY, zb2_some, e12]
    · exact INV_scr (QA_QR hA) hH hT (fun a j _ => rfl) rfl (fun j => rfl) e11 (fun j => f1 _ _ (by omega) (by omega) (by omega)) (f1 _ _ (by omega) (by omega) (by omega)) (f1 _ _ (by omega) (by omega) (by omega)) (fun j => f1 _ _ (by omega) (by omega) (by omega))
  · rw [k1, k2, zb2_some, zb2_some, zo_none, if_pos rfl]
    exact ⟨_, _, _, rfl, rfl, h⟩
end THR
