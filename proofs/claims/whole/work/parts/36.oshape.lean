/-! shape -/
section OSH
variable {G M : Nat → Nat → Int32} {q : Nat → Option Nat} {N : Nat} {n c ln : Nat} {th sel gt : Nat → Bool} {p : Nat → Nat} {hs hg : Nat → Option Nat}
/-- what the answers about a live shape are -/
def toldA (G : Nat → Nat → Int32) (sel : Nat → Bool) (hs hg : Nat → Option Nat) (s w : Nat) : Int32 := if w < 5 then G (4 + s) (w + 1) else if w = 5 then bI (sel s) else if w = 6 then G (4 + s) 6 else if w = 7 then hC (hs s) else hC (topA hg 8 (hs s))
theorem e_shape {s w : Nat} (hN : 20 < N) (hs20 : s < 20) (hw : w < 9) (ht : th s = true) (hA : QA n th sel c p hs hg gt ln G (M 1)) : f_X11_shape TC N (G, rfC q) 0 (nI s) (nI w) = some (toldA G sel hs hg s w, (G, rfC q)) := by
  obtain ⟨a1, a2, a3, a4, a5, a6⟩ := hA
  unfold f_X11_shape toldA
  rw [zz1_of TC_0]
  simp only [g_now, g_shapes, Option.bind_some]
  rw [e_find_k hs20, QS_liv a1 hs20, if_pos ht, zb2_some, zo_some]
  have h9 : w = 0 ∨ w = 1 ∨ w = 2 ∨ w = 3 ∨ w = 4 ∨ w = 5 ∨ w = 6 ∨ w = 7 ∨ w = 8 := by omega
  have h5 := gI_of (G := G) (ρ := rfC q) (j := 7) (TC_sh hs20)
  rcases h9 with rfl | rfl | rfl | rfl | rfl | rfl | rfl | rfl | rfl
  · rw [if_neg (by decide), if_pos (by decide), gI_of (TC_sh hs20)]; rfl
  · rw [if_neg (by decide), if_neg (by decide), if_pos (by decide), gI_of (TC_sh hs20)]; rfl
  · rw [if_neg (by decide), if_neg (by decide), if_neg (by decide), if_pos (by decide), gI_of (TC_sh hs20)]; rfl
  · rw [if_neg (by decide), if_neg (by decide), if_neg (by decide), if_neg (by decide), if_pos (by decide), gI_of (TC_sh hs20)]; rfl
  · rw [if_neg (by decide), if_neg (by decide), if_neg (by decide), if_neg (by decide), if_neg (by decide), if_pos (by decide), gI_of (TC_sh hs20)]; rfl
  · rw [if_neg (by decide), if_neg (by decide), if_neg (by decide), if_neg (by decide), if_neg (by decide), if_neg (by decide), if_pos (by decide)]
    simp only [g_now, g_shapes, gI_of TC_2, Option.bind_some]
    rw [e_hasBit (by omega), zb2_some, a2.cD, bt_S sel hs20]
    by_cases hsl : sel s = true
    · rw [hsl, if_neg (by decide)]; rfl
    · have h2 : sel s = false := by simpa using hsl
      rw [h2, if_pos (by decide)]; rfl
  · rw [if_neg (by decide), if_neg (by decide), if_neg (by decide), if_neg (by decide), if_neg (by decide), if_neg (by decide), if_neg (by decide), if_pos (by decide), gI_of (TC_sh hs20)]; rfl
  · rw [if_neg (by decide), if_neg (by decide), if_neg (by decide), if_neg (by decide), if_neg (by decide), if_neg (by decide), if_neg (by decide), if_neg (by decide), if_pos (by decide), h5, a4.sD s hs20 ht]; rfl
  · rw [if_neg (by decide), if_neg (by decide), if_neg (by decide), if_neg (by decide), if_neg (by decide), if_neg (by decide), if_neg (by decide), if_neg (by decide), if_neg (by decide), if_pos (by decide)]
    simp only [g_now, g_groups, h5, Option.bind_some]
    rw [e_outermost (by omega), zb2_some, a4.sD s hs20 ht, outG_K (QH_K a4).1 8 (hs s) (fun g h => a4.sg s hs20 ht g h)]
    rfl

theorem m_told {s w : Nat} (hN : 20 < N) (hs20 : s < 20) (hw : w < 9) (ht : th s = true) (hA : QA n th sel c p hs hg gt ln G (M 1)) : f_X12_told TM N (M, rfM) 0 (nI s) (nI w) = some (toldA G sel hs hg s w, (M, rfM)) := by
  obtain ⟨a1, a2, a3, a4, a5, a6⟩ := hA
  obtain ⟨hk, r, hr⟩ := QH_K a4
  have hg8 : ∀ g, hs s = some g → g < 8 := fun g e => (a4.sg s hs20 ht g e).1
  have ht8 : ∀ g, topA hg 8 (hs s) = some g → g < 8 := fun g e => (topA_8 a4 8 (hs s) (fun g h => a4.sg s hs20 ht g h) g e).1
  unfold f_X12_told f_X12_told_J49 toldA
  rw [zz1_of TM_0]
  by_cases h6 : w < 6
  · rw [if_neg (show ¬ (6 : Int32) ≤ nI w from nI_ge h6 (by decide))]
    by_cases h5 : w = 5
    · subst h5
      rw [if_neg (by decide), show (6 : Int32) = nI 6 from rfl, m_of (by omega), zb2_some, a2.cV s hs20 ht]
      rfl
    · rw [if_pos (show ¬ nI w = (5 : Int32) from fun e => h5 ((nI_eq (b := 5) (by omega) (by decide)).mp e)), nI_1, m_of (by omega), zb2_some, a1.fV s hs20 ht (w + 1) (by omega) (by omega), if_pos (by omega)]
  · rw [if_pos (show (6 : Int32) ≤ nI w from nI_le (a := 6) (by omega) (by omega))]
    have h3 : w = 6 ∨ w = 7 ∨ w = 8 := by omega
    rcases h3 with rfl | rfl | rfl
    · obtain ⟨k0, hk0, rfl⟩ := a3.ps s hs20 ht
      rw [if_pos (by decide), m_outermost (by omega) hk hr hs20 (a4.sg _ hs20 ht) (a4.sV _ hs20 ht), zb2_some, if_neg (by decide), m_depthOf (by omega) a3 hk0, zb2_some, (a3.pk k0 hk0).2.2.2]
      rfl
    · rw [if_neg (by decide), m_groupOf hs20, zb2_some, if_pos (by decide), a4.sV _ hs20 ht, hM_1, ← hJ_NN hg8]
      by_cases h0 : 0 ≤ hJ (hs s)
      · rw [if_pos h0, if_pos h0]; rfl
      · rw [if_neg h0, if_neg h0]; rfl
    · rw [if_pos (by decide), m_outermost (by omega) hk hr hs20 (a4.sg _ hs20 ht) (a4.sV _ hs20 ht), zb2_some, if_pos (by decide), ← hJ_NN ht8]
      by_cases h0 : 0 ≤ hJ (topA hg 8 (hs s))
      · rw [if_pos h0, if_pos h0]; rfl
      · rw [if_neg h0, if_neg h0]; rfl
end OSH
