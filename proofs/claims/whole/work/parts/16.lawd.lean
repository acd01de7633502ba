section ZLS
variable {p : Program} {l : Launch} {e : Env} {R : Room} {s : State} {m : MethodId} {args : Array Value} {below : List Frame} {meth : Method} {c : Code} {H : Heap} {locs : List Loc} {cells slots : Nat} {Q : State → Prop}
variable {cc : ByteArray} {pc : Nat} {ls : Array Slot} {rest st0 As : List Value} {D : va_G} {A : Nat → Prop} {H0 : Heap} {T T' : zT} {cy : Nat → ClassId} {ad ad' : Nat → Nat} {σ σ' : zS} {ρ : Type} {res : ρ} {nL : Nat} {Ts : List Cond} {own : String}
theorem zz_lawC (S : CallFix p m c cc nL s args Ts own) (hZ : zD D cy T ad A H0 σ H locs s) (hB2 : zB D cy T' ad' A H0 σ' H locs s) (hap : ∀ c c', c < T.2.2 → c' < T'.2.2 → ad c ≠ ad' c') {y : MethodName} {bytes : ByteArray} {maxL n index mc ms b : Nat} {ws : List Cond} {rm : Room} {T1 : zT} {σ1 : zS} (hM : Met l y ws rm (va_Pc (.ref (ad b) :: As) (zPre D cy T ad σ H.size)) (zQn D cy T ad H.size T1 σ1) mc ms (zA T ad H.size))
    (cw : CallB R s args own index y bytes maxL none ws rm mc ms n ∧ y.name = "<init>" ∧ (Cond.instanceMethod y).before args s = true) (hn : As.length = n) (hls : ls.size = nL) (hst : st0 = As.reverse ++ .ref (ad b) :: rest) (hrm : (rest.map fun v => v.category).sum ≤ 8) (hdg : decode cc pc = .ok (.invokespecial index, 3)) (h1 : cells + mc ≤ R.cells ∧ slots + ms ≤ R.slots)
    (kk : ∀ (ad1 : Nat → Nat) (H1 : Heap) (locs1 : List Loc), zG T ad T1 ad1 → zD D cy T1 ad1 A H0 σ1 H1 locs1 s → zB D cy T' ad' A H0 σ' H1 locs1 s → (∀ c c', c < T1.2.2 → c' < T'.2.2 → ad1 c ≠ ad' c') → W p l e R s m args below meth c H1 locs1 (cells + mc) (slots + ms) Q (F0 m (pc + 3) ls rest)) : W p l e R s m args below meth c H locs cells slots Q (F0 m pc ls st0) := by
  refine va_callv (va_runI (As := As) (rest := rest) S hM cw (zz_preS hZ.1) rfl hn hls hst (lv_room hrm) hdg h1) hZ.1.2.2.2.1 (fun q _ h => zz_free hZ.1 q h) (zz_free hZ.1) (fun u t H1 locs1 ht hvm hw hBt hz1 hk1 hS1 => ?_)
  refine kk u H1 locs1 hw.1 ⟨⟨hZ.1.1, by rw [← ht]; exact hBt.1, hBt.2.2.weaken (fun k q _ h => zz_free hZ.1 q.1 h), hS1, hZ.1.2.2.2.2⟩, hw.2.1, hw.2.2⟩ (zz_other hB2 hap hk1 hS1) (fun i j hi hj e => ?_)
  have hq : zA T ad H.size (u i) := hBt.2.2.2 i (u i, zcell T1 cy u σ1 i) (zW_at hi)
  have hlt : ad' j < H.size := (hB2.2.1 j (ad' j, zcell T' cy ad' σ' j) (zW_at hj)).lt
  rcases hq with ⟨k, hk, e2⟩ | h
  · exact hap k j hk hj (e2.symm.trans e)
  · exact absurd hlt (by rw [← e]; exact Nat.not_lt.mpr h)
end ZLS
theorem zb2_pair {α β : Type} {o : Option (α × β)} {a : α} {b : β} (h : o = some (a, b)) : zb2 o (fun x y => some (x, y)) = some (a, b) := by rw [h]; rfl
theorem zb2_inj {α β : Type} {a c : α} {b d : β} (h : some (a, b) = some (c, d)) : a = c ∧ b = d := by cases h; exact ⟨rfl, rfl⟩
theorem zW_last {ws : va_W} {x : Nat × va_E} : (ws ++ [x])[ws.length]? = some x := by simp
theorem zL_two {D : va_G} {cl : List vw_C} {A : Nat → Prop} {ws : va_W} {x : Nat × va_E} {H : Heap} (hP : va_P D cl (ws ++ [x]) H) (hD : va_D A (ws ++ [x])) : va_P D cl ws H ∧ va_D A ws ∧ va_P D cl [x] H ∧ ∀ (k : Nat) (q : Nat × va_E), ws[k]? = some q → x.1 ≠ q.1 := by
  have hl : ∀ (k : Nat) (q : Nat × va_E), ws[k]? = some q → (ws ++ [x])[k]? = some q := fun k q hk => by
    rw [List.getElem?_append_left (List.getElem?_eq_some_iff.mp hk).1]
    exact hk
  refine ⟨fun k q hk => hP k q (hl k q hk), ⟨fun i j y z hi hj e => hD.1 i j y z (hl i y hi) (hl j z hj) e, fun k q hk => hD.2 k q (hl k q hk)⟩, fun k q hk => ?_, fun k q hk e => ?_⟩
  · refine hP (ws.length + k) q ?_
    rw [List.getElem?_append_right (by omega), Nat.add_sub_cancel_left]
    exact hk
  · have h1 := hD.1 ws.length k x q zW_last (hl k q hk) e
    have h2 := (List.getElem?_eq_some_iff.mp hk).1
    omega
theorem zW_0 {k q : Nat} {cy : Nat → ClassId} (hk : k < 13) : zW (zT0 k) cy (fun _ => q) zs0 = [(q, .inr (k, (List.range (zsz k)).map (fun j => if zref k j = true then .null else .int 0)))] := by
  unfold zW
  show (List.range 1).map _ = _
  rw [show List.range 1 = [0] from rfl, List.map_cons, List.map_nil, zcell_obj (k := k) (by simp [zT0]) hk]
  have e : zval (fun _ => q) zs0 0 k = fun j => if zref k j = true then Value.null else Value.int 0 := by
    funext j
    unfold zval
    by_cases h : zref k j = true
    · rw [if_pos h, if_pos h]; rfl
    · rw [if_neg h, if_neg h]; rfl
  rw [e]
theorem zD_0 {cy : Nat → ClassId} {A : Nat → Prop} {q : Nat} {k : Nat} {e : va_E} {ws : va_W} (h : va_D A (ws ++ [(q, e)])) : va_D A (zW (zT0 k) cy (fun _ => q) zs0) := by
  refine ⟨fun i j x y hi hj _ => ?_, fun i x hi => ?_⟩
  · have h1 : i < 1 := by have := (List.getElem?_eq_some_iff.mp hi).1; simpa [zW, zT0] using this
    have h2 : j < 1 := by have := (List.getElem?_eq_some_iff.mp hj).1; simpa [zW, zT0] using this
    omega
  · have h1 : i < 1 := by have := (List.getElem?_eq_some_iff.mp hi).1; simpa [zW, zT0] using this
    have h0 : i = 0 := by omega
    subst h0
    rw [zW_at (show 0 < (zT0 k).2.2 from Nat.one_pos)] at hi
    cases hi
    exact h.2 ws.length (q, e) zW_last
set_option maxHeartbeats 4000000 in
set_option maxRecDepth 100000 in
theorem law_start {p : Program} {e : Env} {s : State} {m : MethodId} {below : List Frame} {meth : Method} {c : Code} (l : Launch) {b L : Nat} {xs : Nat → Int32} (hL : L ≤ 3072) (C0 : lw_At p s m meth c b L xs) {TC TM : zT} {sC sM : zS} (hCi : f_X11_init (zT0 11) 30 zs0 0 = some (TC, sC)) (hMi : f_X12_init (zT0 12) 30 zs0 0 = some (TM, sM)) {INV : zS → zS → Prop} {N : Nat} (hops : zOps TC TM INV N) (h0 : INV sC sM) : W p l e room_1 s m #[Value.ref b] below meth c s.heap [] 0 0 (lw_Z below #[Value.ref b] s) (entryFrame m ([Value.ref b] : List Value).toArray 4) := by
  obtain ⟨hx, hb, hr, hml, hown, hts0, hX, hbl, hlocks, hgv⟩ := id C0
  have hts : ∀ w ∈ WA, w.before #[Value.ref b] s = true := fun w h => hts0 w (wA_tbl w h)
  have S : CallFix p m c code 4 s #[Value.ref b] WA RL := ⟨hx, hb, hml, hown, hts⟩
  have hNs : zN s := zN_start hts0
  have hA : ∀ q : Nat, s.heap.size ≤ q → zAL s q := fun _ h => h
  obtain ⟨D, cy, hK⟩ := zK_start hts0
  have hS : va_S (zAL s) s.heap s.heap [] := va_S.rf
  have hP : va_P D vwCl [] s.heap := fun k q h => by simp at h
  have hD : va_D (zAL s) [] := ⟨fun i j p q h => by simp at h, fun k q h => by simp at h⟩
  obtain ⟨ls, hent, hl⟩ := zz_ent m (vs := [Value.ref b]) rfl (n := 4) (Nat.le_of_ble_eq_true rfl)
  rw [hent]
  have hl : lv_has ls 4 [(0, .ref b)] := hl
  have m1 : Cond.classLink RL 7 RX11 ∈ WA := wd_1121
  have m2 : Cond.instantiable RX11 5 ∈ WA := wd_1122
  have m3 : Cond.initialized RX11 ∈ WA := wd_102
  have m4 : Cond.methodLink RL 9 yX11_init ∈ WA := wd_1123
  have m5 : Cond.instanceMethod yX11_init ∈ WA := wd_1124
  have n1 : Cond.classLink RL 10 RX12 ∈ WA := wd_1125
  have n2 : Cond.instantiable RX12 24 ∈ WA := wd_1126
  have n3 : Cond.initialized RX12 ∈ WA := wd_572
  have n4 : Cond.methodLink RL 12 yX12_init ∈ WA := wd_1127
  have n5 : Cond.instanceMethod yX12_init ∈ WA := wd_1128
  refine va_new (ci := 11) (fs := (List.range (zsz 11)).map (fun j => if zref 11 j = true then .null else .int 0)) (C := RX11) (T := TX11) (N := 5) hx hb hts inWX11 tyX11 tyX11_ok hown (hts _ m1) (hts _ m2) (hts _ m3) hK hP hD hS hA rfl (by intro j hj; rcases (show j = 0 ∨ j = 1 ∨ j = 2 ∨ j = 3 ∨ j = 4 by omega) with rfl | rfl | rfl | rfl | rfl <;> rfl) (Nat.le_of_ble_eq_true rfl) (Nat.le_of_ble_eq_true rfl) dL_law_0 (fun q0 H hP hD hS => ?_)
  have hZ : zD D cy (zT0 11) (fun _ => q0) (zAL s) s.heap zs0 H [] s := ⟨⟨hK, by rw [zW_0 (by decide)]; exact hP, zD_0 hD, hS, hA, hNs⟩, zT0_ok, zs0_cl⟩
  refine lv_dup hx hb dL_law_3 rfl ?_
  refine zz_callC S hZ (As := []) (b := 0) (o := f_X11_init (zT0 11) 30 zs0 0) (K := fun a b => some (a, b)) (res := (TC, sC)) (c_X11_init l D cy (zT0 11) zT0_ok zs0_cl (fun _ => q0) 30 _ 0) (cwI 0 hts (gN (fun _ h => h) wd_1129) rfl rfl rfl (hts _ m3) (hts _ m4) (hts _ m5) rfl (by decide +kernel) ⟨Nat.le_of_ble_eq_true rfl, Nat.le_of_ble_eq_true rfl⟩) rfl hl.1 rfl (Nat.le_of_ble_eq_true rfl) dL_law_4 (zb2_pair hCi) ⟨Nat.le_of_ble_eq_true rfl, Nat.le_of_ble_eq_true rfl⟩ (fun T1 σ1 adC H locs hq hG hZ => ?_)
  obtain ⟨e1, e2⟩ := zb2_inj hq
  have e1 := e1.symm
  have e2 := e2.symm
  subst e1
  subst e2
  have e0 : adC 0 = q0 := (hG 0 Nat.one_pos).2
  rw [← e0]
  refine lv_astore_n (lv' := [(1, .ref (adC 0)), (0, .ref b)]) hx hb dL_law_7 rfl hl (by decide) rfl (fun ls hl => ?_)
  obtain ⟨⟨hK, hP, hD, hS, hA2⟩, hTC, hCC⟩ := hZ
  refine va_new (ci := 12) (fs := (List.range (zsz 12)).map (fun j => if zref 12 j = true then .null else .int 0)) (C := RX12) (T := TX12) (N := 24) hx hb hts inWX12 tyX12 tyX12_ok hown (hts _ n1) (hts _ n2) (hts _ n3) hK hP hD hS hA rfl (by intro j hj; rcases (show j = 0 ∨ j = 1 ∨ j = 2 ∨ j = 3 ∨ j = 4 ∨ j = 5 ∨ j = 6 ∨ j = 7 ∨ j = 8 ∨ j = 9 ∨ j = 10 ∨ j = 11 ∨ j = 12 ∨ j = 13 ∨ j = 14 ∨ j = 15 ∨ j = 16 ∨ j = 17 ∨ j = 18 ∨ j = 19 ∨ j = 20 ∨ j = 21 ∨ j = 22 ∨ j = 23 by omega) with rfl | rfl | rfl | rfl | rfl | rfl | rfl | rfl | rfl | rfl | rfl | rfl | rfl | rfl | rfl | rfl | rfl | rfl | rfl | rfl | rfl | rfl | rfl | rfl <;> rfl) (Nat.le_of_ble_eq_true rfl) (Nat.le_of_ble_eq_true rfl) dL_law_8 (fun q1 H hP hD hS => ?_)
  obtain ⟨hPC, hDC, hPM, hne⟩ := zL_two hP hD
  have hDM := zD_0 (k := 12) (cy := cy) hD
  have hPM : va_P D vwCl (zW (zT0 12) cy (fun _ => q1) zs0) H := by rw [zW_0 (k := 12) (by decide)]; exact hPM
  have hZ : zD D cy (zT0 12) (fun _ => q1) (zAL s) s.heap zs0 H locs s := ⟨⟨hK, hPM, hDM, hS, hA, hNs⟩, zT0_ok, zs0_cl⟩
  have hBC : zB D cy TC adC (zAL s) s.heap sC H locs s := ⟨hK, hPC, hDC, hS, hA, hNs⟩
  have hap : ∀ c c' : Nat, c < (zT0 12).2.2 → c' < TC.2.2 → (fun _ => q1) c ≠ adC c' := fun i j _ hj => hne j (adC j, zcell TC cy adC sC j) (zW_at hj)
  refine lv_dup hx hb dL_law_11 rfl ?_
  refine zz_lawC S hZ hBC hap (As := []) (b := 0) (c_X12_init l D cy (zT0 12) zT0_ok zs0_cl (fun _ => q1) 30 _ 0 TM sM hMi) (cwI 0 hts (gN (fun _ h => h) wd_1130) rfl rfl rfl (hts _ n3) (hts _ n4) (hts _ n5) rfl (by decide +kernel) ⟨Nat.le_of_ble_eq_true rfl, Nat.le_of_ble_eq_true rfl⟩) rfl hl.1 rfl (Nat.le_of_ble_eq_true rfl) dL_law_12 ⟨Nat.le_of_ble_eq_true rfl, Nat.le_of_ble_eq_true rfl⟩ (fun adM H locs hG hZM hBC hap => ?_)
  have e1 : adM 0 = q1 := (hG 0 Nat.one_pos).2
  rw [← e1]
  refine lv_astore_n (lv' := [(2, .ref (adM 0)), (1, .ref (adC 0)), (0, .ref b)]) hx hb dL_law_15 rfl hl (by decide) rfl (fun ls hl => ?_)
  refine lv_iconst (v := 0) hx hb dL_law_16 (by decide) ?_
  refine lv_istore_n (lv' := [(3, .int 0), (2, .ref (adM 0)), (1, .ref (adC 0)), (0, .ref b)]) hx hb dL_law_17 rfl hl (by decide) rfl (fun ls hl => ?_)
  exact law_loop hL C0 hops (L + 1) 0 0 (Nat.zero_le L) (by omega) nI_0.symm sC sM H locs h0 ⟨hBC, hZM.1, hTC, hZM.2.1, fun c c' h h' he => hap c' c h' h he.symm⟩ ls hl
