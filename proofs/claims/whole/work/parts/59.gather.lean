/-! gathering the units: the class's side -/
section GTC
variable {G M : Nat → Nat → Int32} {q : Nat → Option Nat} {N : Nat} {n c ln : Nat} {th sel gt : Nat → Bool} {p : Nat → Nat} {hs hg : Nat → Option Nat} {ρ : Nat → Nat → Option Nat} {V : Nat → Int32} {s t a b y k o d u m : Nat}
theorem e_uadd {x : Int32} (h : G 370 2 = nI m) (hm : m < 20) : f_X10_add TC N (G, rfC q) 370 x = some (zu (zu G 371 m x) 370 2 (nI (m + 1)), rfC q) := by
  unfold f_X10_add
  rw [zz1_of TC_370, gI_of TC_370, h, Option.bind_some, if_neg (nI_pos (by omega)), Option.bind_some, gR_of TC_370, rf_370_0, Option.bind_some, aL_of TC_371, TL_371, Option.bind_some, if_neg (nI_ge hm (by decide))]
  simp only [Option.bind_some]
  rw [sI_of TC_371 TL_371 hm (by decide), Option.bind_some, gI_of TC_370, zu_cell (by decide), h, Option.bind_some, nI_1, pI_of TC_370, Option.bind_some]
/-- what the class has gathered of the shapes below i -/
def GC (G : Nat → Nat → Int32) (th sel : Nat → Bool) (hs hg : Nat → Option Nat) (i : Nat) (G' : Nat → Nat → Int32) : Prop :=
  G' 370 2 = nI (cnt (nwB sel (kyS hs hg)) i) ∧
  (∀ u, u < cnt (nwB sel (kyS hs hg)) i → G' 371 u = mkS (unA th hs hg (usF sel (kyS hs hg) i u)) 20) ∧
  ∀ a j, ¬ (a = 370 ∧ j = 2) → a ≠ 371 → G' a j = G a j
theorem nw_any (hC : QC th sel G V) (hH : QH th sel hs hg gt G V) {i : Nat} (hi : i < 20) (hsl : sel i = true) : anyB (fun u => nwB sel (kyS hs hg) u && unA th hs hg u i) i = anyB (fun u => sel u && decide (kyS hs hg u = kyS hs hg i)) i := by
  rw [Bool.eq_iff_iff, anyB_iff, anyB_iff]
  constructor
  · rintro ⟨u, hu, h⟩
    have h : (nwB sel (kyS hs hg) u && unA th hs hg u i) = true := h
    rw [Bool.and_eq_true] at h
    have hsu := nw_sel h.1
    have h2 := h.2
    rw [unA_ky hH (by omega) (hC.ct u (by omega) hsu) hi, Bool.and_eq_true] at h2
    refine ⟨u, hu, ?_⟩
    show (sel u && decide (kyS hs hg u = kyS hs hg i)) = true
    rw [hsu, h2.2]
    rfl
  · rintro ⟨u, hu, h⟩
    have h : (sel u && decide (kyS hs hg u = kyS hs hg i)) = true := h
    rw [Bool.and_eq_true, decide_eq_true_iff] at h
    obtain ⟨v, v1, v2, v3⟩ := first_of (ky := kyS hs hg) h.1
    refine ⟨v, by omega, ?_⟩
    show (nwB sel (kyS hs hg) v && unA th hs hg v i) = true
    rw [v2, unA_ky hH (by omega) (hC.ct v (by omega) (nw_sel v2)) hi, hC.ct i hi hsl, decide_eq_true (v3.trans h.2)]
    rfl
theorem e_gather (hN : 20 < N) (hS : QS n th G V) (hC : QC th sel G V) (hH : QH th sel hs hg gt G V) : ∃ G', f_X10_gather TC N (G, rfC q) 370 1 = some (G', rfC q) ∧ GC G th sel hs hg 20 G' := by
  unfold f_X10_gather
  rw [zz1_of TC_370, pI_of TC_370, Option.bind_some]
  refine zl3_inv (P := fun r => ∃ G' : Nat → Nat → Int32, r = some (G', rfC q) ∧ GC G th sel hs hg 20 G') 20
    (fun i (x5 : Int32) (x : Int32) st => x = nI i ∧ x5 = mkS (fun j => anyB (fun u => nwB sel (kyS hs hg) u && unA th hs hg u j) i) 20 ∧ ∃ G' : Nat → Nat → Int32, st = (G', rfC q) ∧ GC G th sel hs hg i G') ?_ ?_ 20 0 N (0 : Int32) (0 : Int32) _ rfl hN ⟨nI_0.symm, (S_eq0.mpr (fun s _ => rfl)).symm, _, rfl, zu_same.trans nI_0.symm, fun u h => (by cases h), fun a j h1 h2 => zu_ne (fun e e2 => h1 ⟨e, e2⟩)⟩
  · rintro i hi x5 x st ⟨rfl, rfl, G1, rfl, g1, g2, g3⟩
    have hS1 : QS n th G1 V := QS_fr hS (fun s _ j _ => g3 _ _ (by omega) (by omega)) (g3 _ _ (by omega) (by omega)) rfl (fun s _ j _ => rfl)
    have hC1 : QC th sel G1 V := QC_fr hC (g3 _ _ (by omega) (by omega)) (fun s _ => rfl)
    have hH1 : QH th sel hs hg gt G1 V := QH_fr hH (fun s _ => g3 _ _ (by omega) (by omega)) (fun s _ => rfl) (fun g _ => g3 _ _ (by omega) (by omega)) (fun g _ _ => g3 _ _ (by omega) (by omega)) (fun i _ => rfl)
    have hcl := cnt_le (nwB sel (kyS hs hg)) i
    have hskip : ¬ nwB sel (kyS hs hg) i = true → GC G th sel hs hg (i + 1) G1 ∧ mkS (fun j => anyB (fun u => nwB sel (kyS hs hg) u && unA th hs hg u j) i) 20 = mkS (fun j => anyB (fun u => nwB sel (kyS hs hg) u && unA th hs hg u j) (i + 1)) 20 := fun hn => by
      have hn2 : nwB sel (kyS hs hg) i = false := by simpa using hn
      refine ⟨⟨by rw [cnt_f hn]; exact g1, fun u hu => by rw [cnt_f hn] at hu; rw [us_f hn]; exact g2 u hu, g3⟩, mkS_ext (fun j _ => ?_)⟩
      show _ = (anyB (fun u => nwB sel (kyS hs hg) u && unA th hs hg u j) i || (nwB sel (kyS hs hg) i && unA th hs hg i j))
      rw [hn2, Bool.false_and, Bool.or_false]
    refine Or.inl ?_
    by_cases ht : th i = true
    · have hbit : (sel i && !anyB (fun u => nwB sel (kyS hs hg) u && unA th hs hg u i) i) = nwB sel (kyS hs hg) i := by
        by_cases hsl : sel i = true
        · rw [nw_any hC hH hi hsl]
          rfl
        · have hsl2 : sel i = false := by simpa using hsl
          unfold nwB
          rw [hsl2, Bool.false_and, Bool.false_and]
      have hstep : ∀ k : Int32 → Int32 → zS → Option zS, f_X10_gather_L9 TC N 370 1 k (mkS (fun j => anyB (fun u => nwB sel (kyS hs hg) u && unA th hs hg u j) i) 20) (nI i) (G1, rfC q) = if bI (nwB sel (kyS hs hg) i) = 0 then k (mkS (fun j => anyB (fun u => nwB sel (kyS hs hg) u && unA th hs hg u j) i) 20) (nI (i + 1)) (G1, rfC q) else (f_X10_add TC N (G1, rfC q) 370 (mkS (unA th hs hg i) 20)).bind fun s21 => k (mkS (fun j => anyB (fun u => nwB sel (kyS hs hg) u && unA th hs hg u j) i) 20 ||| mkS (unA th hs hg i) 20) (nI (i + 1)) s21 := fun k => by
        unfold f_X10_gather_L9
        rw [if_neg (nI_n20 hi), g_shapes, Option.bind_some, e_find_k hi, QS_liv hS1 hi, if_pos ht, zb2_some, zo_some, g_shapes, Option.bind_some, gI_of TC_2, hC1.cD, Option.bind_some, S_diff, e_hasBit (by omega), bt_S _ hi, zb2_some, hbit]
        by_cases hn : nwB sel (kyS hs hg) i = true
        · rw [hn, if_pos rfl, if_neg (by decide), if_neg (by decide), e_unitOf hN hi, zb2_some, zn_eq, mkS_ext (fun j hj => untG_A hS1 hH1 hi ht hj)]
          simp only [zn_eq, nI_1]
        · have hn2 : nwB sel (kyS hs hg) i = false := by simpa using hn
          rw [hn2, if_pos (by decide), if_pos (by decide), zn_eq, nI_1]
      by_cases hn : nwB sel (kyS hs hg) i = true
      · refine ⟨mkS (fun j => anyB (fun u => nwB sel (kyS hs hg) u && unA th hs hg u j) i) 20 ||| mkS (unA th hs hg i) 20, nI (i + 1), (zu (zu G1 371 (cnt (nwB sel (kyS hs hg)) i) (mkS (unA th hs hg i) 20)) 370 2 (nI (cnt (nwB sel (kyS hs hg)) i + 1)), rfC q), ⟨rfl, ?_, _, rfl, ?_, fun u hu => ?_, fun a j h1 h2 => ?_⟩, fun k => ?_⟩
        · rw [S_or]
          refine mkS_ext (fun j _ => ?_)
          show _ = (anyB (fun u => nwB sel (kyS hs hg) u && unA th hs hg u j) i || (nwB sel (kyS hs hg) i && unA th hs hg i j))
          rw [hn, Bool.true_and]
        · rw [cnt_t hn]
          exact zu_same
        · rw [cnt_t hn] at hu
          rw [zu_cell (by decide), us_s hn]
          by_cases e : u = cnt (nwB sel (kyS hs hg)) i
          · rw [if_pos e, e, zu_same]
          · rw [if_neg e, zu_ne (fun _ => e)]
            exact g2 u (by omega)
        · rw [zu_ne (fun e e2 => h1 ⟨e, e2⟩), zu_cell h2, g3 a j h1 h2]
        · rw [hstep k, hn, if_neg (by decide), e_uadd g1 (by omega), Option.bind_some]
      · obtain ⟨a1, a2⟩ := hskip hn
        refine ⟨_, nI (i + 1), (G1, rfC q), ⟨rfl, a2, G1, rfl, a1⟩, fun k => ?_⟩
        have hn2 : nwB sel (kyS hs hg) i = false := by simpa using hn
        rw [hstep k, hn2, if_pos (by decide)]
    · have hn : ¬ nwB sel (kyS hs hg) i = true := fun h => ht (hC.ct i hi (nw_sel h))
      obtain ⟨a1, a2⟩ := hskip hn
      refine ⟨_, nI (i + 1), (G1, rfC q), ⟨rfl, a2, G1, rfl, a1⟩, fun k => ?_⟩
      unfold f_X10_gather_L9
      rw [if_neg (nI_n20 hi), g_shapes, Option.bind_some, e_find_k hi, QS_liv hS1 hi, if_neg ht, zb2_some, zo_none, zn_eq, nI_1]
  · rintro x5 x st ⟨rfl, rfl, G1, rfl, hG⟩ k
    refine ⟨G1, ?_, hG⟩
    unfold f_X10_gather_L9
    rw [if_pos (nI_20 (Nat.le_refl 20) (by decide))]
end GTC
