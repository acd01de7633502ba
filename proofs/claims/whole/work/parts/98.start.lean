/-! the 32 operations agree; the beginning -/
theorem ops_all : zOps TC TM INV 2000 := fun σC σM h =>
  ⟨fun x0 x1 x2 x3 x4 => o_addShape (by decide) h x0 x1 x2 x3 x4, fun x0 => o_removeShape (by decide) h x0, fun x0 x1 x2 => o_resize (by decide) h x0 x1 x2, fun x0 x1 => o_shape (by decide) h x0 x1, fun x0 x1 x2 => o_port h x0 x1 x2, fun x0 x1 => o_bring (by decide) h x0 x1, fun x0 x1 => o_at (by decide) h x0 x1, fun x0 x1 x2 x3 x4 => o_connect (by decide) h x0 x1 x2 x3 x4, fun x0 => o_disconnect (by decide) h x0, o_connectors h, fun x0 x1 x2 => o_point (by decide) h x0 x1 x2, fun x0 => o_length (by decide) h x0, fun x0 => o_through (by decide) h x0, fun x0 x1 => o_select (by decide) h x0 x1, o_selected (by decide) h, o_group (by decide) h, fun x0 => o_ungroup (by decide) h x0, fun x0 => o_shapesOf (by decide) h x0, fun x0 x1 => o_move (by decide) h x0 x1, fun x0 x1 => o_drag (by decide) h x0 x1, fun x0 x1 x2 => o_correction (by decide) h x0 x1 x2, fun x0 => o_align (by decide) h x0, fun x0 => o_distribute (by decide) h x0, fun x0 x1 => o_addGuide (by decide) h x0 x1, o_clearGuides (by decide) h, fun x0 => o_setGrid (by decide) h x0, fun x0 => o_setTolerance (by decide) h x0, fun x0 => o_type h x0, o_clear h, o_read (by decide) h, o_undo (by decide) h, o_fingerprint (by decide) h⟩
theorem s0_sh : (List.range 20).all (fun s => decide (sC.1 (4 + s) 0 = 0) && decide (sM.1 1 (10 + 8 * s) = 0)) = true := by decide +kernel
theorem s0_gr : (List.range 8).all (fun g => decide (sC.1 47 g = 0) && decide (sM.1 1 (290 + 2 * g) = 0)) = true := by decide +kernel
theorem s0_c : sC.1 2 1 = 0 ∧ sC.1 2 2 = 0 ∧ sC.1 24 1 = 0 ∧ sC.1 49 2 = 0 ∧ sC.1 49 3 = nI 0 ∧ sC.1 360 2 = 0 := by decide +kernel
theorem s0_m : sM.1 1 0 = 0 ∧ sM.1 1 1 = 0 ∧ sM.1 1 2 = 0 ∧ sM.1 1 3 = 0 ∧ sM.1 1 4 = nI 0 ∧ sM.1 0 18 = 0 ∧ sM.1 0 2 = 0 := by decide +kernel
theorem QR_0 : QR sC.1 (sM.1 1) := by
  have hsh := List.all_eq_true.mp s0_sh
  have hgr := List.all_eq_true.mp s0_gr
  have c1 : ∀ s, s < 20 → sC.1 (4 + s) 0 = 0 ∧ sM.1 1 (10 + 8 * s) = 0 := fun s h => by
    have := hsh s (List.mem_range.mpr h)
    rw [Bool.and_eq_true, decide_eq_true_iff, decide_eq_true_iff] at this
    exact this
  have c2 : ∀ g, g < 8 → sC.1 47 g = 0 ∧ sM.1 1 (290 + 2 * g) = 0 := fun g h => by
    have := hgr g (List.mem_range.mpr h)
    rw [Bool.and_eq_true, decide_eq_true_iff, decide_eq_true_iff] at this
    exact this
  obtain ⟨d1, d2, d3, d4, d5, d6⟩ := s0_c
  obtain ⟨m1, m2, m3, m4, m5, m6, m7⟩ := s0_m
  refine ⟨0, fun _ => false, fun _ => false, 0, fun _ => 0, fun _ => none, fun _ => none, fun _ => false, 0, ⟨by decide, d1, m1, fun s h => (c1 s h).1, fun s h => (c1 s h).2, fun s _ _ => rfl, fun s _ h => (by cases h), fun s _ h => (by cases h)⟩, ⟨?_, fun s _ h => (by cases h), fun s _ h => (by cases h)⟩, ⟨by decide, m2, ?_, fun k h => (by cases h), fun s _ h => (by cases h)⟩, ⟨fun s _ h => (by cases h), fun s _ h => (by cases h), fun s _ h => (by cases h), fun g h => (c2 g h).1, fun g h => (c2 g h).2, fun g _ h => (by cases h), fun g _ h => (by cases h), fun g _ h => (by cases h), ⟨fun _ => 0, fun g _ h => (by cases h)⟩, fun g _ h => (by cases h), fun s t g _ _ h => (by cases h)⟩, ⟨by decide, d3, m3, fun k h => (by cases h), fun k h => (by cases h)⟩, ⟨⟨0, by decide, d4, m4, fun k h => (by cases h)⟩, ⟨0, by decide, d5, m5⟩, ?_⟩⟩
  · rw [d2]
    exact (S_eq0.mpr (fun _ _ => rfl)).symm
  · decide
  · exact ⟨5, by decide, by decide +kernel, by decide +kernel⟩
theorem past_b : (List.range 6).all (fun k => bases.contains (54 + 51 * k)) = true := by decide +kernel
theorem past_c : sC.1 52 1 = nI 0 := by decide +kernel
theorem zS_eta (σ : zS) {f : Nat → Nat → Option Nat} (h : f = σ.2) : σ = (σ.1, f) := by
  cases σ
  cases h
  rfl
theorem rfC_0 : rfC (rf0 53) = rf0 := by
  funext c j
  unfold rfC
  by_cases h : c = 53
  · rw [if_pos h, h]
  · rw [if_neg h]
theorem INV_of {σ τ : zS} {f g : Nat → Nat → Option Nat} {q : Nat → Option Nat} (hf : rfC q = f) (h1 : f = σ.2) (h2 : rfM = τ.2) (hR : QR σ.1 (τ.1 1)) (hH : Hist σ.1 q τ.1) (hT : Txt σ.1 τ.1) : INV σ τ :=
  ⟨σ.1, q, τ.1, zS_eta σ (hf.trans h1), zS_eta τ h2, hR, hH, hT⟩
theorem rf0_e : rf0 = sC.2 := by delta rf0; exact Eq.refl sC.2
theorem rfM_e : rfM = sM.2 := by delta rfM; exact Eq.refl sM.2
theorem Hist_0 {G M : Nat → Nat → Int32} (h1 : G 52 1 = nI 0) (h2 : M 0 2 = nI 0) : Hist G (rf0 53) M :=
  ⟨0, fun k => 54 + 51 * k, ⟨by decide, h1, fun k h => ⟨rf0_past k h, List.contains_iff_mem.mp (List.all_eq_true.mp past_b k (List.mem_range.mpr h)), (by show 54 + 51 * k ≠ 1; omega)⟩, fun i j _ _ e => (by have e : 54 + 51 * i = 54 + 51 * j := e; omega)⟩, h2, fun k h => (by cases h)⟩
theorem Txt_0 {G M : Nat → Nat → Int32} (h1 : G 360 2 = nI 0) (h2 : M 0 18 = nI 0) : Txt G M := ⟨0, by decide, h1, h2, fun i h => (by cases h)⟩
theorem INV_0 : INV sC sM := INV_of (f := rf0) (g := rf0) rfC_0 rf0_e rfM_e QR_0 (Hist_0 past_c (s0_m.2.2.2.2.2.2.trans nI_0.symm)) (Txt_0 (s0_c.2.2.2.2.2.trans nI_0.symm) (s0_m.2.2.2.2.2.1.trans nI_0.symm))
theorem whole_start {p : Program} {e : Env} {s : State} {m : MethodId} {below : List Frame} {meth : Method} {c : Code} (l : Launch) (hflags : l.flags = flags0) {b L : Nat} {xs : Nat → Int32} (hL : L ≤ 3072) (C0 : lw_At p s m meth c b L xs) : W p l e room_1 s m #[Value.ref b] below meth c s.heap [] 0 0 (lw_Z below #[Value.ref b] s) (entryFrame m ([Value.ref b] : List Value).toArray 4) :=
  law_start l hL C0 zCi_eq zMi_eq ops_all INV_0
