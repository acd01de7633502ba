/-! the class's shapes -/
def fdJ (x y : Int32) : Int32 := if 0 ≤ (x ^^^ y) then x / y else if (x / y * y) = x then x / y else x / y - 1
theorem e_fdiv {T : zT} {N : Nat} {σ : zS} {x y : Int32} (hy : ¬ y = 0) : f_J9_floorDiv_7cf53 T N σ x y = some (fdJ x y, σ) := by
  unfold f_J9_floorDiv_7cf53 fdJ
  rw [zz1_of hy, zn_eq]
  by_cases h : 0 ≤ (x ^^^ y)
  · rw [if_pos h, if_pos h]
  · rw [if_neg h, if_neg h]
    by_cases h2 : (x / y * y) = x
    · rw [if_pos h2, if_pos h2]
    · rw [if_neg h2, if_neg h2]
section SHP
variable {G : Nat → Nat → Int32} {q : Nat → Option Nat} {N : Nat} {ρ : Nat → Nat → Option Nat}
theorem nI_ax {α : Nat} (h : α < 2) : (¬ nI α = 0) = (α = 1) := by
  have : α = 0 ∨ α = 1 := by omega
  rcases this with rfl | rfl <;> decide
theorem e_start {c α : Nat} (hc : TC.1 c = 6) (hα : α < 2) : f_X6_start TC N (G, ρ) c (nI α) = some (G c (2 + α), (G, ρ)) := by
  unfold f_X6_start
  rw [zz1_of hc]
  have : α = 0 ∨ α = 1 := by omega
  rcases this with rfl | rfl
  · rw [if_neg (by decide)]
    simp only [gI_of hc, Option.bind_some]
  · rw [if_pos (by decide)]
    simp only [gI_of hc, Option.bind_some]
theorem e_size {c α : Nat} (hc : TC.1 c = 6) (hα : α < 2) : f_X6_size TC N (G, ρ) c (nI α) = some (G c (4 + α), (G, ρ)) := by
  unfold f_X6_size
  rw [zz1_of hc]
  have : α = 0 ∨ α = 1 := by omega
  rcases this with rfl | rfl
  · rw [if_neg (by decide)]
    simp only [gI_of hc, Option.bind_some]
  · rw [if_pos (by decide)]
    simp only [gI_of hc, Option.bind_some]
theorem e_end {c α : Nat} (hc : TC.1 c = 6) (hα : α < 2) : f_X6_end TC N (G, ρ) c (nI α) = some (G c (2 + α) + G c (4 + α), (G, ρ)) := by
  unfold f_X6_end
  rw [zz1_of hc, e_start hc hα, zb2_some, e_size hc hα, zb2_some]
theorem e_center {c α : Nat} (hc : TC.1 c = 6) (hα : α < 2) : f_X6_center TC N (G, ρ) c (nI α) = some (G c (2 + α) + fdJ (G c (4 + α)) 2, (G, ρ)) := by
  unfold f_X6_center
  rw [zz1_of hc, e_start hc hα, zb2_some, e_size hc hα, zb2_some, e_fdiv (by decide), zb2_some]
theorem e_sshift {c α : Nat} (hc : TC.1 c = 6) (hα : α < 2) {d : Int32} : f_X6_shift TC N (G, ρ) c (nI α) d = some (zu G c (2 + α) (G c (2 + α) + d), ρ) := by
  unfold f_X6_shift
  rw [zz1_of hc]
  have : α = 0 ∨ α = 1 := by omega
  rcases this with rfl | rfl
  · rw [if_neg (by decide)]
    simp only [gI_of hc, Option.bind_some, pI_of hc]
  · rw [if_pos (by decide)]
    simp only [gI_of hc, Option.bind_some, pI_of hc]
theorem e_hasBit {σ : zS} {x : Int32} {k : Nat} (hk : k < 32) : f_X11_hasBit TC N σ x (nI k) = some (if bt x k = true then 1 else 0, σ) := by
  unfold f_X11_hasBit
  rw [b_ask hk]
  by_cases h : bt x k = true
  · rw [if_pos h, if_neg (by decide)]; rfl
  · rw [if_neg h, if_pos rfl]; rfl
/-- x between a and b, as the class asks it -/
def wth (x a b : Int32) : Int32 := if x < a then 0 else if b < x then 0 else 1
theorem e_isWithin {T : zT} {σ : zS} {x a b : Int32} : f_X11_isWithin T N σ x a b = some (wth x a b, σ) := by
  unfold f_X11_isWithin wth
  by_cases h : x < a
  · rw [if_pos h, if_pos h]; rfl
  · rw [if_neg h, if_neg h]
    by_cases h2 : b < x
    · rw [if_pos h2, if_pos h2]; rfl
    · rw [if_neg h2, if_neg h2]; rfl
theorem wth01 (x a b : Int32) : wth x a b = 0 ∨ wth x a b = 1 := by
  unfold wth
  split
  · exact Or.inl rfl
  · split
    · exact Or.inl rfl
    · exact Or.inr rfl
theorem wth1 {x a b : Int32} : wth x a b = 1 ↔ a ≤ x ∧ x ≤ b := by
  unfold wth
  by_cases h : x < a
  · rw [if_pos h]
    refine ⟨fun h => absurd h (by decide), fun h2 => ?_⟩
    rw [fa_lt] at h
    have := h2.1
    rw [fa_le] at this
    omega
  · rw [if_neg h]
    by_cases h2 : b < x
    · rw [if_pos h2]
      refine ⟨fun h => absurd h (by decide), fun h3 => ?_⟩
      rw [fa_lt] at h2
      have := h3.2
      rw [fa_le] at this
      omega
    · rw [if_neg h2]
      exact ⟨fun _ => ⟨fa_of_nlt h, fa_of_nlt h2⟩, fun _ => rfl⟩
theorem wth0 {x a b : Int32} : wth x a b = 0 ↔ ¬ (a ≤ x ∧ x ≤ b) := by
  rw [← wth1]
  rcases wth01 x a b with h | h <;> rw [h] <;> decide
theorem rZ_01 {σ : zS} {v : Int32} (h : v = 0 ∨ v = 1) : rZ v σ = some (v, σ) := if_pos h
theorem e_isCoordinate {T : zT} {σ : zS} {x : Int32} : f_X11_isCoordinate T N σ x = some (wth x (-10000) 10000, σ) := by
  unfold f_X11_isCoordinate
  rw [e_isWithin, zb2_some, rZ_01 (wth01 _ _ _)]
theorem e_isSize {T : zT} {σ : zS} {x : Int32} : f_X11_isSize T N σ x = some (wth x 1 500, σ) := by
  unfold f_X11_isSize
  rw [e_isWithin, zb2_some, rZ_01 (wth01 _ _ _)]
theorem e_isWay {T : zT} {σ : zS} {x : Int32} : f_X11_isWay T N σ x = some (wth x (-20000) 20000, σ) := by
  unfold f_X11_isWay
  rw [e_isWithin, zb2_some, rZ_01 (wth01 _ _ _)]
theorem e_isPort {T : zT} {σ : zS} {x : Int32} : f_X11_isPort T N σ x = some (wth x 0 3, σ) := by
  unfold f_X11_isPort
  rw [e_isWithin, zb2_some, rZ_01 (wth01 _ _ _)]
theorem e_isAxis {T : zT} {σ : zS} {x : Int32} : f_X11_isAxis T N σ x = some (if x = 0 ∨ x = 1 then 1 else 0, σ) := by
  unfold f_X11_isAxis
  by_cases h : x = 0
  · subst h; rfl
  · by_cases h2 : x = 1
    · subst h2; rfl
    · simp [h, h2, rZ_0]
/-! boxes of sets -/
def lowG (G : Nat → Nat → Int32) (S : Int32) (α : Nat) : Nat → Int32
  | 0 => 2147483647
  | n + 1 => if liv G n = true ∧ bt S n = true then (if G (4 + n) (2 + α) < lowG G S α n then G (4 + n) (2 + α) else lowG G S α n) else lowG G S α n
def highG (G : Nat → Nat → Int32) (S : Int32) (α : Nat) : Nat → Int32
  | 0 => -2147483648
  | n + 1 => if liv G n = true ∧ bt S n = true then (if highG G S α n < G (4 + n) (2 + α) + G (4 + n) (4 + α) then G (4 + n) (2 + α) + G (4 + n) (4 + α) else highG G S α n) else highG G S α n
theorem lowG_t {S : Int32} {α n : Nat} (h : liv G n = true ∧ bt S n = true) : lowG G S α (n + 1) = if G (4 + n) (2 + α) < lowG G S α n then G (4 + n) (2 + α) else lowG G S α n := by
  show (if _ then _ else _) = _
  rw [if_pos h]
theorem lowG_f {S : Int32} {α n : Nat} (h : ¬ (liv G n = true ∧ bt S n = true)) : lowG G S α (n + 1) = lowG G S α n := by
  show (if _ then _ else _) = _
  rw [if_neg h]
theorem highG_t {S : Int32} {α n : Nat} (h : liv G n = true ∧ bt S n = true) : highG G S α (n + 1) = if highG G S α n < G (4 + n) (2 + α) + G (4 + n) (4 + α) then G (4 + n) (2 + α) + G (4 + n) (4 + α) else highG G S α n := by
  show (if _ then _ else _) = _
  rw [if_pos h]
theorem highG_f {S : Int32} {α n : Nat} (h : ¬ (liv G n = true ∧ bt S n = true)) : highG G S α (n + 1) = highG G S α n := by
  show (if _ then _ else _) = _
  rw [if_neg h]
theorem e_low (hN : 20 < N) {α : Nat} (hα : α < 2) (S : Int32) : f_X7_low TC N (G, rfC q) 2 S (nI α) = some (lowG G S α 20, (G, rfC q)) := by
  unfold f_X7_low
  rw [zz1_of TC_2]
  refine zl3_end 20 (fun i => lowG G S α i) (fun i => nI i) (fun _ => (G, rfC q)) rfl nI_0.symm rfl hN (fun i hi k => ?_) (fun k => ?_)
  · unfold f_X7_low_L6
    simp only [gR_of TC_2, rf_2_0, Option.bind_some, aL_of TC_3, TL_3]
    rw [if_neg (nI_ge hi (by decide)), e_find_k hi, zb2_some]
    by_cases hl : liv G i = true
    · rw [if_pos hl, zo_some, e_hasBit (by omega), zb2_some]
      by_cases hb : bt S i = true
      · rw [if_pos hb, if_neg (by decide), e_start (TC_sh hi) hα, zb2_some, zn_eq, zn_eq, nI_1, lowG_t ⟨hl, hb⟩]
      · rw [if_neg hb, if_pos rfl, zn_eq, nI_1, lowG_f (fun h => hb h.2)]
    · rw [if_neg hl, zo_none, zn_eq, nI_1, lowG_f (fun h => hl h.1)]
  · unfold f_X7_low_L6
    simp only [gR_of TC_2, rf_2_0, Option.bind_some, aL_of TC_3, TL_3]
    rw [if_pos (nI_le (Nat.le_refl 20) (by decide))]
theorem e_high (hN : 20 < N) {α : Nat} (hα : α < 2) (S : Int32) : f_X7_high TC N (G, rfC q) 2 S (nI α) = some (highG G S α 20, (G, rfC q)) := by
  unfold f_X7_high
  rw [zz1_of TC_2]
  refine zl3_end 20 (fun i => highG G S α i) (fun i => nI i) (fun _ => (G, rfC q)) rfl nI_0.symm rfl hN (fun i hi k => ?_) (fun k => ?_)
  · unfold f_X7_high_L6
    simp only [gR_of TC_2, rf_2_0, Option.bind_some, aL_of TC_3, TL_3]
    rw [if_neg (nI_ge hi (by decide)), e_find_k hi, zb2_some]
    by_cases hl : liv G i = true
    · rw [if_pos hl, zo_some, e_hasBit (by omega), zb2_some]
      by_cases hb : bt S i = true
      · rw [if_pos hb, if_neg (by decide), e_end (TC_sh hi) hα, zb2_some, zn_eq, zn_eq, nI_1, highG_t ⟨hl, hb⟩]
      · rw [if_neg hb, if_pos rfl, zn_eq, nI_1, highG_f (fun h => hb h.2)]
    · rw [if_neg hl, zo_none, zn_eq, nI_1, highG_f (fun h => hl h.1)]
  · unfold f_X7_high_L6
    simp only [gR_of TC_2, rf_2_0, Option.bind_some, aL_of TC_3, TL_3]
    rw [if_pos (nI_le (Nat.le_refl 20) (by decide))]
def linG (G : Nat → Nat → Int32) (S : Int32) (α m : Nat) : Int32 := if m = 0 then lowG G S α 20 else if m = 2 then highG G S α 20 else lowG G S α 20 + fdJ (highG G S α 20 - lowG G S α 20) 2
theorem e_lineOf (hN : 20 < N) {α m : Nat} (hα : α < 2) (hm : m < 3) (S : Int32) : f_X7_lineOf TC N (G, rfC q) 2 S (nI α) (nI m) = some (linG G S α m, (G, rfC q)) := by
  unfold f_X7_lineOf linG
  rw [zz1_of TC_2, e_low hN hα, zb2_some, e_high hN hα, zb2_some]
  have : m = 0 ∨ m = 1 ∨ m = 2 := by omega
  rcases this with rfl | rfl | rfl
  · rw [if_neg (by decide), if_pos rfl]
  · rw [if_pos (by decide), if_pos (by decide), e_fdiv (by decide), zb2_some, if_neg (by decide), if_neg (by decide)]
  · rw [if_pos (by decide), if_neg (by decide), if_neg (by decide), if_pos rfl]
/-- all shapes of a set stay within when they go by d -/
def canG (G : Nat → Nat → Int32) (S : Int32) (α : Nat) (d : Int32) : Prop := ∀ s, s < 20 → liv G s = true → bt S s = true → wth (G (4 + s) (2 + α) + d) (-10000) 10000 = 1
theorem e_canShift (hN : 20 < N) {α : Nat} (hα : α < 2) (S d : Int32) : (canG G S α d → f_X7_canShift TC N (G, rfC q) 2 S (nI α) d = some (1, (G, rfC q))) ∧ (¬ canG G S α d → f_X7_canShift TC N (G, rfC q) 2 S (nI α) d = some (0, (G, rfC q))) := by
  have key : ∀ (d2 i M : Nat), i + d2 = 20 → d2 < M → ∀ (hi0 : i ≤ 20),
      ((∀ s, i ≤ s → s < 20 → liv G s = true → bt S s = true → wth (G (4 + s) (2 + α) + d) (-10000) 10000 = 1) → zl2 (f_X7_canShift_L3 TC N 2 S (nI α) d) M (nI i) (G, rfC q) = some (1, (G, rfC q))) ∧
      ((¬ ∀ s, i ≤ s → s < 20 → liv G s = true → bt S s = true → wth (G (4 + s) (2 + α) + d) (-10000) 10000 = 1) → zl2 (f_X7_canShift_L3 TC N 2 S (nI α) d) M (nI i) (G, rfC q) = some (0, (G, rfC q))) := by
    intro d2
    induction d2 with
    | zero =>
      intro i M hi hM _
      obtain ⟨n, rfl⟩ : ∃ n, M = n + 1 := ⟨M - 1, by omega⟩
      have hi : i = 20 := by omega
      subst hi
      refine ⟨fun _ => ?_, fun h => absurd (fun s h1 h2 => by omega) h⟩
      rw [zl2]
      unfold f_X7_canShift_L3
      simp only [gR_of TC_2, rf_2_0, Option.bind_some, aL_of TC_3, TL_3]
      rw [if_pos (nI_le (Nat.le_refl 20) (by decide))]
      rfl
    | succ d2 ih =>
      intro i M hi hM _
      obtain ⟨n, rfl⟩ : ∃ n, M = n + 1 := ⟨M - 1, by omega⟩
      have hi2 : i < 20 := by omega
      have ih2 := ih (i + 1) n (by omega) (by omega) (by omega)
      have step : ¬ (liv G i = true ∧ bt S i = true ∧ ¬ wth (G (4 + i) (2 + α) + d) (-10000) 10000 = 1) → zl2 (f_X7_canShift_L3 TC N 2 S (nI α) d) (n + 1) (nI i) (G, rfC q) = zl2 (f_X7_canShift_L3 TC N 2 S (nI α) d) n (nI (i + 1)) (G, rfC q) := by
        intro hns
        rw [zl2]
        unfold f_X7_canShift_L3
        simp only [gR_of TC_2, rf_2_0, Option.bind_some, aL_of TC_3, TL_3]
        rw [if_neg (nI_ge hi2 (by decide)), e_find_k hi2, zb2_some]
        by_cases hl : liv G i = true
        · rw [if_pos hl, zo_some, e_hasBit (by omega), zb2_some]
          by_cases hb : bt S i = true
          · rw [if_pos hb, if_neg (by decide), e_start (TC_sh hi2) hα, zb2_some, e_isCoordinate, zb2_some]
            have hw : wth (G (4 + i) (2 + α) + d) (-10000) 10000 = 1 := by
              rcases wth01 (G (4 + i) (2 + α) + d) (-10000) 10000 with h | h
              · exact absurd ⟨hl, hb, by rw [h]; decide⟩ hns
              · exact h
            rw [hw, if_pos (by decide), zn_eq, nI_1]
          · rw [if_neg hb, if_pos rfl, zn_eq, nI_1]
        · rw [if_neg hl, zo_none, zn_eq, nI_1]
      by_cases hns : liv G i = true ∧ bt S i = true ∧ ¬ wth (G (4 + i) (2 + α) + d) (-10000) 10000 = 1
      · refine ⟨fun h => absurd (h i (Nat.le_refl i) hi2 hns.1 hns.2.1) hns.2.2, fun _ => ?_⟩
        rw [zl2]
        unfold f_X7_canShift_L3
        simp only [gR_of TC_2, rf_2_0, Option.bind_some, aL_of TC_3, TL_3]
        rw [if_neg (nI_ge hi2 (by decide)), e_find_k hi2, zb2_some, if_pos hns.1, zo_some, e_hasBit (by omega), zb2_some, if_pos hns.2.1, if_neg (by decide), e_start (TC_sh hi2) hα, zb2_some, e_isCoordinate, zb2_some]
        have hw : wth (G (4 + i) (2 + α) + d) (-10000) 10000 = 0 := by
          rcases wth01 (G (4 + i) (2 + α) + d) (-10000) 10000 with h | h
          · exact h
          · exact absurd h hns.2.2
        rw [hw, if_neg (by decide)]
        rfl
      · rw [step hns]
        refine ⟨fun h => ih2.1 (fun s h1 h2 => h s (by omega) h2), fun h => ih2.2 (fun h3 => h (fun s h1 h2 hl hb => ?_))⟩
        by_cases e : s = i
        · subst e
          rcases wth01 (G (4 + s) (2 + α) + d) (-10000) 10000 with h4 | h4
          · exact absurd ⟨hl, hb, by rw [h4]; decide⟩ hns
          · exact h4
        · exact h3 s (by omega) h2 hl hb
  have k0 := key 20 0 N (by omega) hN (by omega)
  unfold f_X7_canShift
  rw [zz1_of TC_2, ← nI_0]
  exact ⟨fun h => k0.1 (fun s _ h2 => h s h2), fun h => k0.2 (fun h3 => h (fun s h2 => h3 s (Nat.zero_le s) h2))⟩
theorem e_shift (hN : 20 < N) {α : Nat} (hα : α < 2) (S d : Int32) : f_X7_shift TC N (G, rfC q) 2 S (nI α) d = some (mapC G (fun s => liv G s && bt S s) (2 + α) (fun x => x + d) 20, rfC q) := by
  unfold f_X7_shift
  rw [zz1_of TC_2]
  refine zl2_end 20 (fun i => nI i) (fun i => (mapC G (fun s => liv G s && bt S s) (2 + α) (fun x => x + d) i, rfC q)) nI_0.symm (by rw [mapC_0]) hN (fun i hi k => ?_) (fun k => ?_)
  · unfold f_X7_shift_L3
    simp only [gR_of TC_2, rf_2_0, Option.bind_some, aL_of TC_3, TL_3]
    rw [if_neg (nI_ge hi (by decide)), e_find_k hi, zb2_some, liv_mapC (by omega)]
    by_cases hl : liv G i = true
    · rw [if_pos hl, zo_some, e_hasBit (by omega), zb2_some]
      by_cases hb : bt S i = true
      · rw [if_pos hb, if_neg (by decide), e_sshift (TC_sh hi) hα, Option.bind_some, zn_eq, nI_1, mapC_t (by simp [hl, hb]), mapC_out (Or.inr (Or.inl (by omega)))]
      · rw [if_neg hb, if_pos rfl, zn_eq, nI_1, mapC_f (by simp [hb])]
    · rw [if_neg hl, zo_none, zn_eq, nI_1, mapC_f (by simp [hl])]
  · unfold f_X7_shift_L3
    simp only [gR_of TC_2, rf_2_0, Option.bind_some, aL_of TC_3, TL_3]
    rw [if_pos (nI_le (Nat.le_refl 20) (by decide))]
end SHP
