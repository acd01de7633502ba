/-! the points of a connector -/
/-- coordinate α of point k, from those of both ports -/
def ptL (A B : Nat → Int32) (a y k α : Nat) : Int32 :=
  if k = 0 then A α else if y < k then B α else if y = 1 then (if (a = 1 ∨ a = 3) ↔ α = 0 then B α else A α) else if (a = 1 ∨ a = 3) ↔ α = 0 then fdJ (A α + B α) 2 else if k = 1 then A α else B α
section DRW
variable {G M : Nat → Nat → Int32} {q : Nat → Option Nat} {N : Nat} {n c ln : Nat} {th sel gt : Nat → Bool} {p : Nat → Nat} {hs hg : Nat → Option Nat} {ρ : Nat → Nat → Option Nat} {V : Nat → Int32} {s t a b y k α : Nat}
theorem e_lastPoint (hc : c < 20) (g4 : G (26 + c) 4 = nI y) : f_X0_lastPoint TC N (G, ρ) (26 + c) = some (nI (y + 1), (G, ρ)) := by
  unfold f_X0_lastPoint
  rw [zz1_of (TC_cn hc), gI_of (TC_cn hc), Option.bind_some, g4, nI_1]
theorem e_placeJ {σ : zS} (hc : c < 20) (hσ : σ = (G, rfC q)) (g4 : G (26 + c) 4 = nI y) (hy : y < 3) (hk0 : k ≠ 0) (hk : k < y + 1) (hα : α < 2) {A B : Nat → Int32} {x : Int32} (hx : x = if a = 1 ∨ a = 3 then 0 else 1) : f_X0_place_J96 TC N (26 + c) (nI k) (nI α) (A α) (B α) σ x = some (ptL A B a y k α, (G, rfC q)) := by
  subst hσ
  unfold f_X0_place_J96 ptL
  rw [gI_of (TC_cn hc), Option.bind_some, g4, if_neg hk0, if_neg (show ¬ y < k by omega)]
  have hax : (nI α = x) ↔ ((a = 1 ∨ a = 3) ↔ α = 0) := by
    have h2 : α = 0 ∨ α = 1 := by omega
    subst hx
    by_cases ha : a = 1 ∨ a = 3
    · rw [if_pos ha]
      rcases h2 with rfl | rfl
      · exact ⟨fun _ => ⟨fun _ => rfl, fun _ => ha⟩, fun _ => rfl⟩
      · exact ⟨fun h => absurd h (by decide), fun h => absurd (h.mp ha) (by decide)⟩
    · rw [if_neg ha]
      rcases h2 with rfl | rfl
      · exact ⟨fun h => absurd h (by decide), fun h => absurd (h.mpr rfl) ha⟩
      · exact ⟨fun _ => ⟨fun h => absurd h ha, fun h => absurd h (by decide)⟩, fun _ => rfl⟩
  by_cases e1 : y = 1
  · subst e1
    rw [if_neg (show ¬ ¬ nI 1 = (1 : Int32) from fun n => n rfl), if_pos rfl]
    by_cases h : (a = 1 ∨ a = 3) ↔ α = 0
    · rw [if_neg (fun n => n (hax.mpr h)), if_pos h]
    · rw [if_pos (fun n => h (hax.mp n)), if_neg h]
  · rw [if_pos (show ¬ nI y = (1 : Int32) from fun e => e1 ((nI_eq (b := 1) (by omega) (by decide)).mp e)), if_neg e1]
    by_cases h : (a = 1 ∨ a = 3) ↔ α = 0
    · rw [if_neg (fun n => n (hax.mpr h)), if_pos h, e_fdiv (by decide), zb2_some]
    · rw [if_pos (fun n => h (hax.mp n)), if_neg h]
      by_cases h1 : k = 1
      · subst h1
        rw [if_neg (show ¬ ¬ nI 1 = (1 : Int32) from fun n => n rfl), if_pos rfl]
      · rw [if_pos (show ¬ nI k = (1 : Int32) from fun e => h1 ((nI_eq (b := 1) (by omega) (by decide)).mp e)), if_neg h1]
theorem e_place (hc : c < 20) (hS : QS n th G V) (hs20 : s < 20) (hts : th s = true) (ht20 : t < 20) (htt : th t = true) (ha : a < 4) (hb : b < 4) (hy : y < 3) (g0 : G (26 + c) 0 = nI s) (g1 : G (26 + c) 1 = nI a) (g2 : G (26 + c) 2 = nI t) (g3 : G (26 + c) 3 = nI b) (g4 : G (26 + c) 4 = nI y) (hk : k < 100) (hα : α < 2) :
    f_X0_place TC N (G, rfC q) (26 + c) 2 (nI k) (nI α) = some (ptL (ptA G (4 + s) a) (ptA G (4 + t) b) a y k α, (G, rfC q)) := by
  unfold f_X0_place
  rw [zz1_of (TC_cn hc), gI_of (TC_cn hc), Option.bind_some, g0, e_find_k hs20, QS_liv hS hs20, if_pos hts, zb2_some, zo_some, gI_of (TC_cn hc), Option.bind_some, g2, e_find_k ht20, QS_liv hS ht20, if_pos htt, zb2_some, zo_some, gI_of (TC_cn hc), Option.bind_some, g1, e_portPlace (TC_sh hs20) ha hα (size0 hS hs20 hts), zb2_some, gI_of (TC_cn hc), Option.bind_some, g3, e_portPlace (TC_sh ht20) hb hα (size0 hS ht20 htt), zb2_some]
  by_cases hk0 : k = 0
  · subst hk0
    rw [if_neg (by decide)]
    unfold ptL
    rw [if_pos rfl]
  · rw [if_pos (show (0 : Int32) < nI k from nI_lt (a := 0) (by omega) (by omega)), e_lastPoint hc g4, zb2_some]
    by_cases hky : k < y + 1
    · rw [if_pos (nI_lt hky (by omega)), gI_of (TC_cn hc), Option.bind_some, g1]
      have h4 : a = 0 ∨ a = 1 ∨ a = 2 ∨ a = 3 := by omega
      rcases h4 with rfl | rfl | rfl | rfl
      · rw [if_neg (by decide), Option.bind_some, if_pos (by decide), e_placeJ (a := 0) (k := k) (A := ptA G (4 + s) 0) (B := ptA G (4 + t) b) hc rfl g4 hy hk0 hky hα (by decide)]
      · rw [if_pos (by decide), e_placeJ (a := 1) (k := k) (A := ptA G (4 + s) 1) (B := ptA G (4 + t) b) hc rfl g4 hy hk0 hky hα (by decide)]
      · rw [if_neg (by decide), Option.bind_some, if_pos (by decide), e_placeJ (a := 2) (k := k) (A := ptA G (4 + s) 2) (B := ptA G (4 + t) b) hc rfl g4 hy hk0 hky hα (by decide)]
      · rw [if_neg (by decide), Option.bind_some, if_neg (by decide), e_placeJ (a := 3) (k := k) (A := ptA G (4 + s) 3) (B := ptA G (4 + t) b) hc rfl g4 hy hk0 hky hα (by decide)]
    · rw [if_neg (nI_nlt (by omega) (by omega))]
      unfold ptL
      rw [if_neg hk0, if_pos (by omega)]
end DRW
