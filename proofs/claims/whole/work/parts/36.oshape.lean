/-! shape -/
section OSH
variable {G M : Nat → Nat → Int32} {q : Nat → Option Nat} {N : Nat} {n c ln : Nat} {th sel gt : Nat → Bool} {p : Nat → Nat} {hs hg : Nat → Option Nat}
/-- what the answers about a live shape are -/
def toldA (G : Nat → Nat → Int32) (sel : Nat → Bool) (hs hg : Nat → Option Nat) (s w : Nat) : Int32 := if w < 5 then G (4 + s) (w + 1) else if w = 5 then bI (sel s) else if w = 6 then G (4 + s) 6 else if w = 7 then hC (hs s) else hC (topA hg 8 (hs s))
theorem e_shape {s w : Nat} (hN : 20 < N) (hs20 : s < 20) (hw : w < 9) (ht : th s = true) (hA : QA n th sel c p hs hg gt ln G (M 1)) : f_X11_shape TC N (G, rfC q) 0 (nI s) (nI w) = some (toldA G sel hs hg s w, (G, rfC q)) := by
  obtain ⟨a1, a2, a3, a4, a5, a6⟩ := hA
  unfold f_X11_shape toldA
  rw [zz1_of TC_0]
  simp only [g_now, g_shapes, Option.bind_some]
  rw [e_find_k hs20, QS_liv a1 hs20, if_pos ht, zb2_some, zo_some]
  have h9 : w = 0 ∨ w = 1 ∨ w = 2 ∨ w = 3 ∨ w = 4 ∨ w = 5 ∨ w = 6 ∨ w = 7 ∨ w = 8 := by omega
  have h5 := gI_of (G := G) (ρ := rfC q) (j := 7) (TC_sh hs20)
  rcases h9 with rfl | rfl | rfl | rfl | rfl | rfl | rfl | rfl | rfl
  · rw [if_neg (by decide), if_pos (by decide), gI_of (TC_sh hs20)]; rfl
  · rw [if_neg (by decide), if_neg (by decide), if_pos (by decide), gI_of (TC_sh hs20)]; rfl
  · rw [if_neg (by decide), if_neg (by decide), if_neg (by decide), if_pos (by decide), gI_of (TC_sh hs20)]; rfl
  · rw [if_neg (by decide), if_neg (by decide), if_neg (by decide), if_neg (by decide), if_pos (by decide), gI_of (TC_sh hs20)]; rfl
  · rw [if_neg (by decide), if_neg (by decide), if_neg (by decide), if_neg (by decide), if_neg (by decide), if_pos (by decide), gI_of (TC_sh hs20)]; rfl
  · rw [if_neg (by decide), if_neg (by decide), if_neg (by decide), if_neg (by decide), if_neg (by decide), if_neg (by decide), if_pos (by decide)]
    simp only [g_now, g_shapes, gI_of TC_2, Option.bind_some]
    rw [e_hasBit (by omega), zb2_some, a2.cD, bt_S sel hs20]
    by_cases hsl : sel s = true
    · rw [hsl, if_neg (by decide)]; rfl
    · have h2 : sel s = false := by simpa using hsl
      rw [h2, if_pos (by decide)]; rfl
  · rw [if_neg (by decide), if_neg (by decide), if_neg (by decide), if_neg (by decide), if_neg (by decide), if_neg (by decide), if_neg (by decide), if_pos (by decide), gI_of (TC_sh hs20)]; rfl
  · rw [if_neg (by decide), if_neg (by decide), if_neg (by decide), if_neg (by decide), if_neg (by decide), if_neg (by decide), if_neg (by decide), if_neg (by decide), if_pos (by decide), h5, a4.sD s hs20 ht]; rfl
  · rw [if_neg (by decide), if_neg (by decide), if_neg (by decide), if_neg (by decide), if_neg (by decide), if_neg (by decide), if_neg (by decide), if_neg (by decide), if_neg (by decide), if_pos (by decide)]
    simp only [g_now, g_groups, h5, Option.bind_some]
    rw [e_outermost (by omega), zb2_some, a4.sD s hs20 ht, outG_K (QH_K a4).1 8 (hs s) (fun g h => a4.sg s hs20 ht g h)]
    rfl
end OSH
