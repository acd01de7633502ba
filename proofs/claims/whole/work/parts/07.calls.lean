theorem zz_blind {av : List Value} {D : va_G} {cy : Nat → ClassId} {T : zT} {ad : Nat → Nat} {σ : zS} {sz : Nat} : FrameBlind (va_Pc av (zPre D cy T ad σ sz)) := fun a U g mk q => by
  obtain ⟨q0, q1, qP, qK, qD, qN⟩ := q
  exact ⟨q0, q1, qP, va_K.moved (u := U) (U := U.calling g mk a) (Vm.Alike.refl U.vm) qK, qD, zN_same (u := U) (U := U.calling g mk a) rfl (Vm.Alike.refl U.vm) qN⟩
section ZC
variable {p : Program} {l : Launch} {e : Env} {R : Room} {s : State} {m : MethodId} {args : Array Value} {below : List Frame} {meth : Method} {c : Code} {H : Heap} {locs : List Loc} {Q : State → Prop}
variable {cc : ByteArray} {pc : Nat} {ls : Array Slot} {rest st0 As : List Value} {D : va_G} {A : Nat → Prop} {H0 : Heap} {T : zT} {cy : Nat → ClassId} {ad : Nat → Nat} {σ : zS} {ρ : Type} {res : ρ} {nL : Nat} {Ts : List Cond} {own : String}
variable {y : MethodName} {bytes : ByteArray} {maxL n index : Nat} {ret : Option FieldType} {ws : List Cond} {rm : Room}
theorem zz_free (hB : zB D cy T ad A H0 σ H locs s) : ∀ q, zA T ad H.size q → A q := by
  intro q h
  obtain ⟨hK, hP, hD, hS, hA⟩ := hB
  rcases h with ⟨i, hi, rfl⟩ | h
  · exact hD.2 i (ad i, zcell T cy ad σ i) (zW_at hi)
  · exact hA.1 q (Nat.le_trans hS.1 h)
theorem zz_preS (hB : zB D cy T ad A H0 σ H locs s) : PreS s H (va_Pc As (zPre D cy T ad σ H.size)) As :=
  ⟨zz_blind, fun U hU hW => ⟨rfl, by rw [hU], by rw [hU]; exact hB.2.1, va_K.moved hW.alike hB.1, hB.2.2.1.weaken (fun _ _ _ _ => trivial), zN_warm hW hB.2.2.2.2.2⟩⟩
theorem zz_preV (hT : zok T) (hB : zB D cy T ad A H0 σ H locs s) {C : String} {F : u_T} {N b : Nat} (ci : Nat) (hc : vwCl[ci]? = some (C, F, N)) (h13 : ci < 13) (h : T.1 b = ci) : PreV s H C (ad b) (va_Pc (.ref (ad b) :: As) (zPre D cy T ad σ H.size)) As :=
  ⟨zz_blind, va_recv hB.1 hB.2.1 (ci := ci) (q0 := b) hc ((zW_at (hT b (by omega))).trans (by rw [zcell_obj h h13])), fun U hU hW => ⟨rfl, by rw [hU], by rw [hU]; exact hB.2.1, va_K.moved hW.alike hB.1, hB.2.2.1.weaken (fun _ _ _ _ => trivial), zN_warm hW hB.2.2.2.2.2⟩⟩
theorem zz_after (hB : zB D cy T ad A H0 σ H locs s) {t : State} {H1 : Heap} {locs1 : List Loc} {σ' : zS} (ht : t.heap = H1) (hAt : zAt D cy T ad (zA T ad H.size) σ' t) (hS1 : va_S A H0 H1 locs1) : zB D cy T ad A H0 σ' H1 locs1 s :=
  ⟨hB.1, by rw [← ht]; exact hAt.1, hAt.2.2.weaken (fun k q _ h => zz_free hB q.1 h), hS1, hB.2.2.2.2⟩
theorem zz_callVi (S : CallFix p m c cc nL s args Ts own) (hT : zok T) (hB : zB D cy T ad A H0 σ H locs s) {C : String} {b : Nat} {o : Option (Int32 × zS)} (hM : ∀ r0 σ0, o = some (r0, σ0) → Met l y ws rm (va_Pc (.ref (ad b) :: As) (zPre D cy T ad σ H.size)) (va_Qi (fun (r2 : Int32) (σ2 : zS) => r2 = r0 ∧ σ2 = σ0) (zAt D cy T ad (zA T ad H.size)) (zA T ad H.size)) 0 0 (zA T ad H.size)) (cw : CallW R s args own C index y bytes maxL ret ws rm 0 0 n) {F : u_T} {NF : Nat} (ci : Nat) (hc : vwCl[ci]? = some (C, F, NF)) (h13 : ci < 13) (hkd : ∀ q, o = some q → T.1 b = ci) (hn : As.length = n) (hls : ls.size = nL) (hst : st0 = As.reverse ++ .ref (ad b) :: rest) (hrm : (rest.map fun v => v.category).sum ≤ 8) (hdg : decode cc pc = .ok (.invokevirtual index, 3)) {K : Int32 → zS → Option ρ} (hq : zb2 o K = some res)
    (kk : ∀ (r : Int32) (σ1 : zS) (H1 : Heap) (locs1 : List Loc), K r σ1 = some res → zB D cy T ad A H0 σ1 H1 locs1 s → W p l e R s m args below meth c H1 locs1 0 0 Q (F0 m (pc + 3) ls (.int r :: rest))) : W p l e R s m args below meth c H locs 0 0 Q (F0 m pc ls st0) := by
  cases ho : o with
  | none => rw [ho] at hq; exact zz_none hq
  | some q0 =>
    obtain ⟨r0, σ0⟩ := q0
    rw [ho] at hq
    refine va_calli (va_runV (As := As) (rest := rest) S (hM _ _ ho) cw (zz_preV hT hB ci hc h13 (hkd _ ho)) rfl hn hls hst (lv_room hrm) hdg ⟨Nat.zero_le _, Nat.zero_le _⟩) hB.2.2.2.1 (fun q _ h => zz_free hB q h) (zz_free hB) (fun r u t H1 locs1 ht hvm hw hBt hz1 hk1 hS1 => ?_)
    obtain ⟨e1, e2⟩ := hw
    subst e1; subst e2
    exact kk _ _ H1 locs1 hq (zz_after hB ht hBt hS1)
theorem zz_callVl (S : CallFix p m c cc nL s args Ts own) (hT : zok T) (hB : zB D cy T ad A H0 σ H locs s) {C : String} {b : Nat} {o : Option (Int64 × zS)} (hM : ∀ r0 σ0, o = some (r0, σ0) → Met l y ws rm (va_Pc (.ref (ad b) :: As) (zPre D cy T ad σ H.size)) (va_Ql (fun (r2 : Int64) (σ2 : zS) => r2 = r0 ∧ σ2 = σ0) (zAt D cy T ad (zA T ad H.size)) (zA T ad H.size)) 0 0 (zA T ad H.size)) (cw : CallW R s args own C index y bytes maxL ret ws rm 0 0 n) {F : u_T} {NF : Nat} (ci : Nat) (hc : vwCl[ci]? = some (C, F, NF)) (h13 : ci < 13) (hkd : ∀ q, o = some q → T.1 b = ci) (hn : As.length = n) (hls : ls.size = nL) (hst : st0 = As.reverse ++ .ref (ad b) :: rest) (hrm : (rest.map fun v => v.category).sum ≤ 8) (hdg : decode cc pc = .ok (.invokevirtual index, 3)) {K : Int64 → zS → Option ρ} (hq : zb2 o K = some res)
    (kk : ∀ (r : Int64) (σ1 : zS) (H1 : Heap) (locs1 : List Loc), K r σ1 = some res → zB D cy T ad A H0 σ1 H1 locs1 s → W p l e R s m args below meth c H1 locs1 0 0 Q (F0 m (pc + 3) ls (.long r :: rest))) : W p l e R s m args below meth c H locs 0 0 Q (F0 m pc ls st0) := by
  cases ho : o with
  | none => rw [ho] at hq; exact zz_none hq
  | some q0 =>
    obtain ⟨r0, σ0⟩ := q0
    rw [ho] at hq
    refine va_calll (va_runV (As := As) (rest := rest) S (hM _ _ ho) cw (zz_preV hT hB ci hc h13 (hkd _ ho)) rfl hn hls hst (lv_room hrm) hdg ⟨Nat.zero_le _, Nat.zero_le _⟩) hB.2.2.2.1 (fun q _ h => zz_free hB q h) (zz_free hB) (fun r u t H1 locs1 ht hvm hw hBt hz1 hk1 hS1 => ?_)
    obtain ⟨e1, e2⟩ := hw
    subst e1; subst e2
    exact kk _ _ H1 locs1 hq (zz_after hB ht hBt hS1)
theorem zz_callVv (S : CallFix p m c cc nL s args Ts own) (hT : zok T) (hB : zB D cy T ad A H0 σ H locs s) {C : String} {b : Nat} {o : Option zS} (hM : ∀ σ0, o = some σ0 → Met l y ws rm (va_Pc (.ref (ad b) :: As) (zPre D cy T ad σ H.size)) (va_Qv (fun σ2 : zS => σ2 = σ0) (zAt D cy T ad (zA T ad H.size)) (zA T ad H.size)) 0 0 (zA T ad H.size)) (cw : CallW R s args own C index y bytes maxL ret ws rm 0 0 n) {F : u_T} {NF : Nat} (ci : Nat) (hc : vwCl[ci]? = some (C, F, NF)) (h13 : ci < 13) (hkd : ∀ q, o = some q → T.1 b = ci) (hn : As.length = n) (hls : ls.size = nL) (hst : st0 = As.reverse ++ .ref (ad b) :: rest) (hrm : (rest.map fun v => v.category).sum ≤ 8) (hdg : decode cc pc = .ok (.invokevirtual index, 3)) {K : zS → Option ρ} (hq : o.bind K = some res)
    (kk : ∀ (σ1 : zS) (H1 : Heap) (locs1 : List Loc), K σ1 = some res → zB D cy T ad A H0 σ1 H1 locs1 s → W p l e R s m args below meth c H1 locs1 0 0 Q (F0 m (pc + 3) ls rest)) : W p l e R s m args below meth c H locs 0 0 Q (F0 m pc ls st0) := by
  cases ho : o with
  | none => rw [ho] at hq; exact zz_none hq
  | some σ0 =>
    rw [ho] at hq
    refine va_callv (va_runV (As := As) (rest := rest) S (hM _ ho) cw (zz_preV hT hB ci hc h13 (hkd _ ho)) rfl hn hls hst (lv_room hrm) hdg ⟨Nat.zero_le _, Nat.zero_le _⟩) hB.2.2.2.1 (fun q _ h => zz_free hB q h) (zz_free hB) (fun u t H1 locs1 ht hvm hw hBt hz1 hk1 hS1 => ?_)
    subst hw
    exact kk _ H1 locs1 hq (zz_after hB ht hBt hS1)
theorem zz_callVq (S : CallFix p m c cc nL s args Ts own) (hT : zok T) (hB : zB D cy T ad A H0 σ H locs s) {C : String} {b : Nat} {o : Option (Option Nat × zS)} (hM : ∀ r0 σ0, o = some (r0, σ0) → Met l y ws rm (va_Pc (.ref (ad b) :: As) (zPre D cy T ad σ H.size)) (va_Qq (fun (r2 : Option Nat) (σ2 : zS) => r2 = r0.map ad ∧ σ2 = σ0) (zAt D cy T ad (zA T ad H.size)) (zA T ad H.size)) 0 0 (zA T ad H.size)) (cw : CallW R s args own C index y bytes maxL ret ws rm 0 0 n) {F : u_T} {NF : Nat} (ci : Nat) (hc : vwCl[ci]? = some (C, F, NF)) (h13 : ci < 13) (hkd : ∀ q, o = some q → T.1 b = ci) (hn : As.length = n) (hls : ls.size = nL) (hst : st0 = As.reverse ++ .ref (ad b) :: rest) (hrm : (rest.map fun v => v.category).sum ≤ 8) (hdg : decode cc pc = .ok (.invokevirtual index, 3)) {KA : zS → Option ρ} {KB : Nat → zS → Option ρ} (hq : zb2 o (fun r σ1 => zo r (KA σ1) (fun a => KB a σ1)) = some res)
    (kn : ∀ (σ1 : zS) (H1 : Heap) (locs1 : List Loc), KA σ1 = some res → zB D cy T ad A H0 σ1 H1 locs1 s → W p l e R s m args below meth c H1 locs1 0 0 Q (F0 m (pc + 3) ls (.null :: rest)))
    (ks : ∀ (a : Nat) (σ1 : zS) (H1 : Heap) (locs1 : List Loc), KB a σ1 = some res → zB D cy T ad A H0 σ1 H1 locs1 s → W p l e R s m args below meth c H1 locs1 0 0 Q (F0 m (pc + 3) ls (.ref (ad a) :: rest))) : W p l e R s m args below meth c H locs 0 0 Q (F0 m pc ls st0) := by
  cases ho : o with
  | none => rw [ho] at hq; exact zz_none hq
  | some q0 =>
    obtain ⟨r0, σ0⟩ := q0
    rw [ho] at hq
    refine va_callq (va_runV (As := As) (rest := rest) S (hM _ _ ho) cw (zz_preV hT hB ci hc h13 (hkd _ ho)) rfl hn hls hst (lv_room hrm) hdg ⟨Nat.zero_le _, Nat.zero_le _⟩) hB.2.2.2.1 (fun q _ h => zz_free hB q h) (zz_free hB) (fun r u t H1 locs1 ht hvm hw hBt hz1 hk1 hS1 => ?_)
    obtain ⟨e1, e2⟩ := hw
    subst e1; subst e2
    cases r0 with
    | none => exact kn _ H1 locs1 hq (zz_after hB ht hBt hS1)
    | some a => exact ks a _ H1 locs1 hq (zz_after hB ht hBt hS1)
theorem zz_callSi (S : CallFix p m c cc nL s args Ts own) (hT : zok T) (hB : zB D cy T ad A H0 σ H locs s) {o : Option (Int32 × zS)} (hM : ∀ r0 σ0, o = some (r0, σ0) → Met l y ws rm (va_Pc As (zPre D cy T ad σ H.size)) (va_Qi (fun (r2 : Int32) (σ2 : zS) => r2 = r0 ∧ σ2 = σ0) (zAt D cy T ad (zA T ad H.size)) (zA T ad H.size)) 0 0 (zA T ad H.size)) (cw : CallB R s args own index y bytes maxL ret ws rm 0 0 n ∧ (Cond.static y).before args s = true) (hn : As.length = n) (hls : ls.size = nL) (hst : st0 = As.reverse ++ rest) (hrm : (rest.map fun v => v.category).sum ≤ 8) (hdg : decode cc pc = .ok (.invokestatic index, 3)) {K : Int32 → zS → Option ρ} (hq : zb2 o K = some res)
    (kk : ∀ (r : Int32) (σ1 : zS) (H1 : Heap) (locs1 : List Loc), K r σ1 = some res → zB D cy T ad A H0 σ1 H1 locs1 s → W p l e R s m args below meth c H1 locs1 0 0 Q (F0 m (pc + 3) ls (.int r :: rest))) : W p l e R s m args below meth c H locs 0 0 Q (F0 m pc ls st0) := by
  cases ho : o with
  | none => rw [ho] at hq; exact zz_none hq
  | some q0 =>
    obtain ⟨r0, σ0⟩ := q0
    rw [ho] at hq
    refine va_calli (va_runS (As := As) (rest := rest) S (hM _ _ ho) cw (zz_preS hB) rfl hn hls hst (lv_room hrm) hdg ⟨Nat.zero_le _, Nat.zero_le _⟩) hB.2.2.2.1 (fun q _ h => zz_free hB q h) (zz_free hB) (fun r u t H1 locs1 ht hvm hw hBt hz1 hk1 hS1 => ?_)
    obtain ⟨e1, e2⟩ := hw
    subst e1; subst e2
    exact kk _ _ H1 locs1 hq (zz_after hB ht hBt hS1)
theorem zz_callSl (S : CallFix p m c cc nL s args Ts own) (hT : zok T) (hB : zB D cy T ad A H0 σ H locs s) {o : Option (Int64 × zS)} (hM : ∀ r0 σ0, o = some (r0, σ0) → Met l y ws rm (va_Pc As (zPre D cy T ad σ H.size)) (va_Ql (fun (r2 : Int64) (σ2 : zS) => r2 = r0 ∧ σ2 = σ0) (zAt D cy T ad (zA T ad H.size)) (zA T ad H.size)) 0 0 (zA T ad H.size)) (cw : CallB R s args own index y bytes maxL ret ws rm 0 0 n ∧ (Cond.static y).before args s = true) (hn : As.length = n) (hls : ls.size = nL) (hst : st0 = As.reverse ++ rest) (hrm : (rest.map fun v => v.category).sum ≤ 8) (hdg : decode cc pc = .ok (.invokestatic index, 3)) {K : Int64 → zS → Option ρ} (hq : zb2 o K = some res)
    (kk : ∀ (r : Int64) (σ1 : zS) (H1 : Heap) (locs1 : List Loc), K r σ1 = some res → zB D cy T ad A H0 σ1 H1 locs1 s → W p l e R s m args below meth c H1 locs1 0 0 Q (F0 m (pc + 3) ls (.long r :: rest))) : W p l e R s m args below meth c H locs 0 0 Q (F0 m pc ls st0) := by
  cases ho : o with
  | none => rw [ho] at hq; exact zz_none hq
  | some q0 =>
    obtain ⟨r0, σ0⟩ := q0
    rw [ho] at hq
    refine va_calll (va_runS (As := As) (rest := rest) S (hM _ _ ho) cw (zz_preS hB) rfl hn hls hst (lv_room hrm) hdg ⟨Nat.zero_le _, Nat.zero_le _⟩) hB.2.2.2.1 (fun q _ h => zz_free hB q h) (zz_free hB) (fun r u t H1 locs1 ht hvm hw hBt hz1 hk1 hS1 => ?_)
    obtain ⟨e1, e2⟩ := hw
    subst e1; subst e2
    exact kk _ _ H1 locs1 hq (zz_after hB ht hBt hS1)
theorem zz_callSv (S : CallFix p m c cc nL s args Ts own) (hT : zok T) (hB : zB D cy T ad A H0 σ H locs s) {o : Option zS} (hM : ∀ σ0, o = some σ0 → Met l y ws rm (va_Pc As (zPre D cy T ad σ H.size)) (va_Qv (fun σ2 : zS => σ2 = σ0) (zAt D cy T ad (zA T ad H.size)) (zA T ad H.size)) 0 0 (zA T ad H.size)) (cw : CallB R s args own index y bytes maxL ret ws rm 0 0 n ∧ (Cond.static y).before args s = true) (hn : As.length = n) (hls : ls.size = nL) (hst : st0 = As.reverse ++ rest) (hrm : (rest.map fun v => v.category).sum ≤ 8) (hdg : decode cc pc = .ok (.invokestatic index, 3)) {K : zS → Option ρ} (hq : o.bind K = some res)
    (kk : ∀ (σ1 : zS) (H1 : Heap) (locs1 : List Loc), K σ1 = some res → zB D cy T ad A H0 σ1 H1 locs1 s → W p l e R s m args below meth c H1 locs1 0 0 Q (F0 m (pc + 3) ls rest)) : W p l e R s m args below meth c H locs 0 0 Q (F0 m pc ls st0) := by
  cases ho : o with
  | none => rw [ho] at hq; exact zz_none hq
  | some σ0 =>
    rw [ho] at hq
    refine va_callv (va_runS (As := As) (rest := rest) S (hM _ ho) cw (zz_preS hB) rfl hn hls hst (lv_room hrm) hdg ⟨Nat.zero_le _, Nat.zero_le _⟩) hB.2.2.2.1 (fun q _ h => zz_free hB q h) (zz_free hB) (fun u t H1 locs1 ht hvm hw hBt hz1 hk1 hS1 => ?_)
    subst hw
    exact kk _ H1 locs1 hq (zz_after hB ht hBt hS1)
theorem zz_callSq (S : CallFix p m c cc nL s args Ts own) (hT : zok T) (hB : zB D cy T ad A H0 σ H locs s) {o : Option (Option Nat × zS)} (hM : ∀ r0 σ0, o = some (r0, σ0) → Met l y ws rm (va_Pc As (zPre D cy T ad σ H.size)) (va_Qq (fun (r2 : Option Nat) (σ2 : zS) => r2 = r0.map ad ∧ σ2 = σ0) (zAt D cy T ad (zA T ad H.size)) (zA T ad H.size)) 0 0 (zA T ad H.size)) (cw : CallB R s args own index y bytes maxL ret ws rm 0 0 n ∧ (Cond.static y).before args s = true) (hn : As.length = n) (hls : ls.size = nL) (hst : st0 = As.reverse ++ rest) (hrm : (rest.map fun v => v.category).sum ≤ 8) (hdg : decode cc pc = .ok (.invokestatic index, 3)) {KA : zS → Option ρ} {KB : Nat → zS → Option ρ} (hq : zb2 o (fun r σ1 => zo r (KA σ1) (fun a => KB a σ1)) = some res)
    (kn : ∀ (σ1 : zS) (H1 : Heap) (locs1 : List Loc), KA σ1 = some res → zB D cy T ad A H0 σ1 H1 locs1 s → W p l e R s m args below meth c H1 locs1 0 0 Q (F0 m (pc + 3) ls (.null :: rest)))
    (ks : ∀ (a : Nat) (σ1 : zS) (H1 : Heap) (locs1 : List Loc), KB a σ1 = some res → zB D cy T ad A H0 σ1 H1 locs1 s → W p l e R s m args below meth c H1 locs1 0 0 Q (F0 m (pc + 3) ls (.ref (ad a) :: rest))) : W p l e R s m args below meth c H locs 0 0 Q (F0 m pc ls st0) := by
  cases ho : o with
  | none => rw [ho] at hq; exact zz_none hq
  | some q0 =>
    obtain ⟨r0, σ0⟩ := q0
    rw [ho] at hq
    refine va_callq (va_runS (As := As) (rest := rest) S (hM _ _ ho) cw (zz_preS hB) rfl hn hls hst (lv_room hrm) hdg ⟨Nat.zero_le _, Nat.zero_le _⟩) hB.2.2.2.1 (fun q _ h => zz_free hB q h) (zz_free hB) (fun r u t H1 locs1 ht hvm hw hBt hz1 hk1 hS1 => ?_)
    obtain ⟨e1, e2⟩ := hw
    subst e1; subst e2
    cases r0 with
    | none => exact kn _ H1 locs1 hq (zz_after hB ht hBt hS1)
    | some a => exact ks a _ H1 locs1 hq (zz_after hB ht hBt hS1)
theorem zz_callNi (S : CallFix p m c cc nL s args Ts own) (hT : zok T) (hB : zB D cy T ad A H0 σ H locs s) {o : Option (Int32 × zS)} (hM : ∀ r0 σ0, o = some (r0, σ0) → Met l y ws rm (va_Pc As (zPre D cy T ad σ H.size)) (va_Qi (fun (r2 : Int32) (σ2 : zS) => r2 = r0 ∧ σ2 = σ0) (zAt D cy T ad (zA T ad H.size)) (zA T ad H.size)) 0 0 (zA T ad H.size)) {host : String} (cw : va_CN R s args own index y host bytes maxL ret ws rm 0 0 n ∧ (Cond.static y).before args s = true ∧ True) (hn : As.length = n) (hls : ls.size = nL) (hst : st0 = As.reverse ++ rest) (hrm : (rest.map fun v => v.category).sum ≤ 8) (hdg : decode cc pc = .ok (.invokestatic index, 3)) {K : Int32 → zS → Option ρ} (hq : zb2 o K = some res)
    (kk : ∀ (r : Int32) (σ1 : zS) (H1 : Heap) (locs1 : List Loc), K r σ1 = some res → zB D cy T ad A H0 σ1 H1 locs1 s → W p l e R s m args below meth c H1 locs1 0 0 Q (F0 m (pc + 3) ls (.int r :: rest))) : W p l e R s m args below meth c H locs 0 0 Q (F0 m pc ls st0) := by
  cases ho : o with
  | none => rw [ho] at hq; exact zz_none hq
  | some q0 =>
    obtain ⟨r0, σ0⟩ := q0
    rw [ho] at hq
    refine va_calli (va_runSN (As := As) (rest := rest) S (hM _ _ ho) cw (zz_preS hB) rfl hn hls hst (lv_room hrm) hdg ⟨Nat.zero_le _, Nat.zero_le _⟩) hB.2.2.2.1 (fun q _ h => zz_free hB q h) (zz_free hB) (fun r u t H1 locs1 ht hvm hw hBt hz1 hk1 hS1 => ?_)
    obtain ⟨e1, e2⟩ := hw
    subst e1; subst e2
    exact kk _ _ H1 locs1 hq (zz_after hB ht hBt hS1)
theorem zz_callNl (S : CallFix p m c cc nL s args Ts own) (hT : zok T) (hB : zB D cy T ad A H0 σ H locs s) {o : Option (Int64 × zS)} (hM : ∀ r0 σ0, o = some (r0, σ0) → Met l y ws rm (va_Pc As (zPre D cy T ad σ H.size)) (va_Ql (fun (r2 : Int64) (σ2 : zS) => r2 = r0 ∧ σ2 = σ0) (zAt D cy T ad (zA T ad H.size)) (zA T ad H.size)) 0 0 (zA T ad H.size)) {host : String} (cw : va_CN R s args own index y host bytes maxL ret ws rm 0 0 n ∧ (Cond.static y).before args s = true ∧ True) (hn : As.length = n) (hls : ls.size = nL) (hst : st0 = As.reverse ++ rest) (hrm : (rest.map fun v => v.category).sum ≤ 8) (hdg : decode cc pc = .ok (.invokestatic index, 3)) {K : Int64 → zS → Option ρ} (hq : zb2 o K = some res)
    (kk : ∀ (r : Int64) (σ1 : zS) (H1 : Heap) (locs1 : List Loc), K r σ1 = some res → zB D cy T ad A H0 σ1 H1 locs1 s → W p l e R s m args below meth c H1 locs1 0 0 Q (F0 m (pc + 3) ls (.long r :: rest))) : W p l e R s m args below meth c H locs 0 0 Q (F0 m pc ls st0) := by
  cases ho : o with
  | none => rw [ho] at hq; exact zz_none hq
  | some q0 =>
    obtain ⟨r0, σ0⟩ := q0
    rw [ho] at hq
    refine va_calll (va_runSN (As := As) (rest := rest) S (hM _ _ ho) cw (zz_preS hB) rfl hn hls hst (lv_room hrm) hdg ⟨Nat.zero_le _, Nat.zero_le _⟩) hB.2.2.2.1 (fun q _ h => zz_free hB q h) (zz_free hB) (fun r u t H1 locs1 ht hvm hw hBt hz1 hk1 hS1 => ?_)
    obtain ⟨e1, e2⟩ := hw
    subst e1; subst e2
    exact kk _ _ H1 locs1 hq (zz_after hB ht hBt hS1)
theorem zz_callNv (S : CallFix p m c cc nL s args Ts own) (hT : zok T) (hB : zB D cy T ad A H0 σ H locs s) {o : Option zS} (hM : ∀ σ0, o = some σ0 → Met l y ws rm (va_Pc As (zPre D cy T ad σ H.size)) (va_Qv (fun σ2 : zS => σ2 = σ0) (zAt D cy T ad (zA T ad H.size)) (zA T ad H.size)) 0 0 (zA T ad H.size)) {host : String} (cw : va_CN R s args own index y host bytes maxL ret ws rm 0 0 n ∧ (Cond.static y).before args s = true ∧ True) (hn : As.length = n) (hls : ls.size = nL) (hst : st0 = As.reverse ++ rest) (hrm : (rest.map fun v => v.category).sum ≤ 8) (hdg : decode cc pc = .ok (.invokestatic index, 3)) {K : zS → Option ρ} (hq : o.bind K = some res)
    (kk : ∀ (σ1 : zS) (H1 : Heap) (locs1 : List Loc), K σ1 = some res → zB D cy T ad A H0 σ1 H1 locs1 s → W p l e R s m args below meth c H1 locs1 0 0 Q (F0 m (pc + 3) ls rest)) : W p l e R s m args below meth c H locs 0 0 Q (F0 m pc ls st0) := by
  cases ho : o with
  | none => rw [ho] at hq; exact zz_none hq
  | some σ0 =>
    rw [ho] at hq
    refine va_callv (va_runSN (As := As) (rest := rest) S (hM _ ho) cw (zz_preS hB) rfl hn hls hst (lv_room hrm) hdg ⟨Nat.zero_le _, Nat.zero_le _⟩) hB.2.2.2.1 (fun q _ h => zz_free hB q h) (zz_free hB) (fun u t H1 locs1 ht hvm hw hBt hz1 hk1 hS1 => ?_)
    subst hw
    exact kk _ H1 locs1 hq (zz_after hB ht hBt hS1)
theorem zz_callNq (S : CallFix p m c cc nL s args Ts own) (hT : zok T) (hB : zB D cy T ad A H0 σ H locs s) {o : Option (Option Nat × zS)} (hM : ∀ r0 σ0, o = some (r0, σ0) → Met l y ws rm (va_Pc As (zPre D cy T ad σ H.size)) (va_Qq (fun (r2 : Option Nat) (σ2 : zS) => r2 = r0.map ad ∧ σ2 = σ0) (zAt D cy T ad (zA T ad H.size)) (zA T ad H.size)) 0 0 (zA T ad H.size)) {host : String} (cw : va_CN R s args own index y host bytes maxL ret ws rm 0 0 n ∧ (Cond.static y).before args s = true ∧ True) (hn : As.length = n) (hls : ls.size = nL) (hst : st0 = As.reverse ++ rest) (hrm : (rest.map fun v => v.category).sum ≤ 8) (hdg : decode cc pc = .ok (.invokestatic index, 3)) {KA : zS → Option ρ} {KB : Nat → zS → Option ρ} (hq : zb2 o (fun r σ1 => zo r (KA σ1) (fun a => KB a σ1)) = some res)
    (kn : ∀ (σ1 : zS) (H1 : Heap) (locs1 : List Loc), KA σ1 = some res → zB D cy T ad A H0 σ1 H1 locs1 s → W p l e R s m args below meth c H1 locs1 0 0 Q (F0 m (pc + 3) ls (.null :: rest)))
    (ks : ∀ (a : Nat) (σ1 : zS) (H1 : Heap) (locs1 : List Loc), KB a σ1 = some res → zB D cy T ad A H0 σ1 H1 locs1 s → W p l e R s m args below meth c H1 locs1 0 0 Q (F0 m (pc + 3) ls (.ref (ad a) :: rest))) : W p l e R s m args below meth c H locs 0 0 Q (F0 m pc ls st0) := by
  cases ho : o with
  | none => rw [ho] at hq; exact zz_none hq
  | some q0 =>
    obtain ⟨r0, σ0⟩ := q0
    rw [ho] at hq
    refine va_callq (va_runSN (As := As) (rest := rest) S (hM _ _ ho) cw (zz_preS hB) rfl hn hls hst (lv_room hrm) hdg ⟨Nat.zero_le _, Nat.zero_le _⟩) hB.2.2.2.1 (fun q _ h => zz_free hB q h) (zz_free hB) (fun r u t H1 locs1 ht hvm hw hBt hz1 hk1 hS1 => ?_)
    obtain ⟨e1, e2⟩ := hw
    subst e1; subst e2
    cases r0 with
    | none => exact kn _ H1 locs1 hq (zz_after hB ht hBt hS1)
    | some a => exact ks a _ H1 locs1 hq (zz_after hB ht hBt hS1)
theorem zz_iret (S : CallFix p m c cc nL s args Ts own) (hB : zB D cy T ad A s.heap σ H locs s) (hr : meth.sig.returnType = some .int) (hlocks : meth.locks = false) {v r0 : Int32} {σ0 : zS} (hdg : decode cc pc = .ok (.ireturn, 1)) (hq : (some (v, σ) : Option (Int32 × zS)) = some (r0, σ0)) : W p l e R s m args below meth c H locs 0 0 (MQ below (va_Qi (fun (r2 : Int32) (σ2 : zS) => r2 = r0 ∧ σ2 = σ0) (zAt D cy T ad A) A) args s 0 0 A) (F0 m pc ls [.int v]) := by
  obtain ⟨hx, hb, hml, hown, hts⟩ := S
  obtain ⟨hK, hP, hD, hS, hA⟩ := hB
  cases hq
  exact W.iret (v := v) hx hb hr (fun t ht hW => ⟨⟨v, σ, rfl, ⟨rfl, rfl⟩, by rw [ht]; exact hP, va_K.moved hW.alike hK, hD⟩, hS.F ht⟩) hS.2.2 hdg hlocks
def rZ (v : Int32) (σ : zS) : Option (Int32 × zS) := if v = 0 ∨ v = 1 then some (v, σ) else none
theorem zz_zret (S : CallFix p m c cc nL s args Ts own) (hB : zB D cy T ad A s.heap σ H locs s) (hr : meth.sig.returnType = some .boolean) (hlocks : meth.locks = false) {v r0 : Int32} {σ0 : zS} (hdg : decode cc pc = .ok (.ireturn, 1)) (hq : rZ v σ = some (r0, σ0)) : W p l e R s m args below meth c H locs 0 0 (MQ below (va_Qi (fun (r2 : Int32) (σ2 : zS) => r2 = r0 ∧ σ2 = σ0) (zAt D cy T ad A) A) args s 0 0 A) (F0 m pc ls [.int v]) := by
  obtain ⟨hx, hb, hml, hown, hts⟩ := S
  obtain ⟨hK, hP, hD, hS, hA⟩ := hB
  unfold rZ at hq
  by_cases hv : v = 0 ∨ v = 1
  · rw [if_pos hv] at hq
    cases hq
    exact W.zret (v := v) (ty := .boolean) hx hb hr (by rcases hv with rfl | rfl <;> rfl) (fun t ht hW => ⟨⟨v, σ, rfl, ⟨rfl, rfl⟩, by rw [ht]; exact hP, va_K.moved hW.alike hK, hD⟩, hS.F ht⟩) hS.2.2 hdg hlocks
  · rw [if_neg hv] at hq
    exact zz_none hq
theorem zz_lret (S : CallFix p m c cc nL s args Ts own) (hB : zB D cy T ad A s.heap σ H locs s) (hr : meth.sig.returnType = some .long) (hlocks : meth.locks = false) {v r0 : Int64} {σ0 : zS} (hdg : decode cc pc = .ok (.lreturn, 1)) (hq : (some (v, σ) : Option (Int64 × zS)) = some (r0, σ0)) : W p l e R s m args below meth c H locs 0 0 (MQ below (va_Ql (fun (r2 : Int64) (σ2 : zS) => r2 = r0 ∧ σ2 = σ0) (zAt D cy T ad A) A) args s 0 0 A) (F0 m pc ls [.long v]) := by
  obtain ⟨hx, hb, hml, hown, hts⟩ := S
  obtain ⟨hK, hP, hD, hS, hA⟩ := hB
  cases hq
  exact W.lret (v := v) hx hb hr (fun t ht hW => ⟨⟨v, σ, rfl, ⟨rfl, rfl⟩, by rw [ht]; exact hP, va_K.moved hW.alike hK, hD⟩, hS.F ht⟩) hS.2.2 hdg hlocks
theorem zz_vret (S : CallFix p m c cc nL s args Ts own) (hB : zB D cy T ad A s.heap σ H locs s) (hr : meth.sig.returnType = none) (hlocks : meth.locks = false) {σ0 : zS} (hdg : decode cc pc = .ok (.return_, 1)) (hq : (some σ : Option zS) = some σ0) : W p l e R s m args below meth c H locs 0 0 (MQ below (va_Qv (fun σ2 : zS => σ2 = σ0) (zAt D cy T ad A) A) args s 0 0 A) (F0 m pc ls []) := by
  obtain ⟨hx, hb, hml, hown, hts⟩ := S
  obtain ⟨hK, hP, hD, hS, hA⟩ := hB
  cases hq
  exact W.vret hx hb hr (fun t ht hW => ⟨⟨σ, rfl, rfl, by rw [ht]; exact hP, va_K.moved hW.alike hK, hD⟩, hS.F ht⟩) hS.2.2 hdg hlocks
theorem zz_aretN (S : CallFix p m c cc nL s args Ts own) (hB : zB D cy T ad A s.heap σ H locs s) {r0 : Option Nat} {σ0 : zS} {cn : String} (hr : meth.sig.returnType = some (.object cn)) (hlocks : meth.locks = false) (hdg : decode cc pc = .ok (.areturn, 1)) (hq : (some (none, σ) : Option (Option Nat × zS)) = some (r0, σ0)) : W p l e R s m args below meth c H locs 0 0 (MQ below (va_Qq (fun (r2 : Option Nat) (σ2 : zS) => r2 = r0.map ad ∧ σ2 = σ0) (zAt D cy T ad A) A) args s 0 0 A) (F0 m pc ls [.null]) := by
  obtain ⟨hx, hb, hml, hown, hts⟩ := S
  obtain ⟨hK, hP, hD, hS, hA⟩ := hB
  cases hq
  exact W.aret (v := .null) (rt := .object cn) hx hb hr (Or.inl ⟨cn, rfl⟩) (Or.inl rfl) (fun t ht hW => ⟨⟨none, σ, rfl, ⟨rfl, rfl⟩, by rw [ht]; exact hP, va_K.moved hW.alike hK, hD⟩, hS.F ht⟩) hS.2.2 hdg hlocks
theorem zz_aret (S : CallFix p m c cc nL s args Ts own) (hB : zB D cy T ad A s.heap σ H locs s) {r0 : Option Nat} {σ0 : zS} {cn : String} {a : Nat} (hr : meth.sig.returnType = some (.object cn)) (hlocks : meth.locks = false) (hdg : decode cc pc = .ok (.areturn, 1)) (hq : (some (some a, σ) : Option (Option Nat × zS)) = some (r0, σ0)) : W p l e R s m args below meth c H locs 0 0 (MQ below (va_Qq (fun (r2 : Option Nat) (σ2 : zS) => r2 = r0.map ad ∧ σ2 = σ0) (zAt D cy T ad A) A) args s 0 0 A) (F0 m pc ls [.ref (ad a)]) := by
  obtain ⟨hx, hb, hml, hown, hts⟩ := S
  obtain ⟨hK, hP, hD, hS, hA⟩ := hB
  cases hq
  exact W.aret (v := .ref (ad a)) (rt := .object cn) hx hb hr (Or.inl ⟨cn, rfl⟩) (Or.inr ⟨ad a, rfl⟩) (fun t ht hW => ⟨⟨some (ad a), σ, rfl, ⟨rfl, rfl⟩, by rw [ht]; exact hP, va_K.moved hW.alike hK, hD⟩, hS.F ht⟩) hS.2.2 hdg hlocks
theorem zz_max (S : CallFix p m c cc nL s args Ts own) (hls : ls.size = nL) (hlink : Cond.methodLink own index Lib.Math.max.name ∈ Ts) (hstat : Cond.static Lib.Math.max.name ∈ Ts) (hini : Cond.initialized "java/lang/Math" ∈ Ts) (hcode : Cond.code Lib.Math.max.name Lib.Math.max.code 2 (some .int) ∈ Ts) (hf : 1 ≤ R.frames) (hlo : (rest.map fun v => v.category).sum + 13 ≤ R.locals) {x y : Int32} (hdg : decode cc pc = .ok (.invokestatic index, 3))
    (kk : W p l e R s m args below meth c H locs 0 0 Q (F0 m (pc + 3) ls (.int (if x < y then y else x) :: rest))) : W p l e R s m args below meth c H locs 0 0 Q (F0 m pc ls (.int y :: .int x :: rest)) := by
  obtain ⟨hx, hb, hml, hown, hts⟩ := S
  exact va_mmax hx hb (hml.trans hls.symm) hown (hts _ hlink) (hts _ hstat) (hts _ hini) (hts _ hcode) hf hlo (Nat.zero_le _) (Nat.zero_le _) hdg kk
theorem zz_min (S : CallFix p m c cc nL s args Ts own) (hls : ls.size = nL) (hlink : Cond.methodLink own index Lib.Math.min.name ∈ Ts) (hstat : Cond.static Lib.Math.min.name ∈ Ts) (hini : Cond.initialized "java/lang/Math" ∈ Ts) (hcode : Cond.code Lib.Math.min.name Lib.Math.min.code 2 (some .int) ∈ Ts) (hf : 1 ≤ R.frames) (hlo : (rest.map fun v => v.category).sum + 13 ≤ R.locals) {x y : Int32} (hdg : decode cc pc = .ok (.invokestatic index, 3))
    (kk : W p l e R s m args below meth c H locs 0 0 Q (F0 m (pc + 3) ls (.int (if y < x then y else x) :: rest))) : W p l e R s m args below meth c H locs 0 0 Q (F0 m pc ls (.int y :: .int x :: rest)) := by
  obtain ⟨hx, hb, hml, hown, hts⟩ := S
  exact va_mmin hx hb (hml.trans hls.symm) hown (hts _ hlink) (hts _ hstat) (hts _ hini) (hts _ hcode) hf hlo (Nat.zero_le _) (Nat.zero_le _) hdg kk
theorem zz_abs (S : CallFix p m c cc nL s args Ts own) (hls : ls.size = nL) (hlink : Cond.methodLink own index Lib.Math.abs.name ∈ Ts) (hstat : Cond.static Lib.Math.abs.name ∈ Ts) (hini : Cond.initialized "java/lang/Math" ∈ Ts) (hcode : Cond.code Lib.Math.abs.name Lib.Math.abs.code 1 (some .int) ∈ Ts) (hf : 1 ≤ R.frames) (hlo : (rest.map fun v => v.category).sum + 13 ≤ R.locals) {x : Int32} (hdg : decode cc pc = .ok (.invokestatic index, 3))
    (kk : W p l e R s m args below meth c H locs 0 0 Q (F0 m (pc + 3) ls (.int (if 0 ≤ x then x else 0 - x) :: rest))) : W p l e R s m args below meth c H locs 0 0 Q (F0 m pc ls (.int x :: rest)) := by
  obtain ⟨hx, hb, hml, hown, hts⟩ := S
  exact va_mabs hx hb (hml.trans hls.symm) hown (hts _ hlink) (hts _ hstat) (hts _ hini) (hts _ hcode) hf hlo (Nat.zero_le _) (Nat.zero_le _) hdg kk
theorem zz_maxl (S : CallFix p m c cc nL s args Ts own) (hls : ls.size = nL) (hlink : Cond.methodLink own index Lib.MathLoose.max_long.x ∈ Ts) (hstat : Cond.static Lib.MathLoose.max_long.x ∈ Ts) (hini : Cond.initialized "java/lang/Math" ∈ Ts) (hcode : Cond.code Lib.MathLoose.max_long.x Lib.MathLoose.max_long.code 4 (some .long) ∈ Ts) (hf : 1 ≤ R.frames) (hlo : (rest.map fun v => v.category).sum + 15 ≤ R.locals) {x y : Int64} (hdg : decode cc pc = .ok (.invokestatic index, 3))
    (kk : W p l e R s m args below meth c H locs 0 0 Q (F0 m (pc + 3) ls (.long (if y < x then x else y) :: rest))) : W p l e R s m args below meth c H locs 0 0 Q (F0 m pc ls (.long y :: .long x :: rest)) := by
  obtain ⟨hx, hb, hml, hown, hts⟩ := S
  exact va_mmax_long hx hb (hml.trans hls.symm) hown (hts _ hlink) (hts _ hstat) (hts _ hini) (hts _ hcode) hf hlo (Nat.zero_le _) (Nat.zero_le _) hdg kk
theorem zz_minl (S : CallFix p m c cc nL s args Ts own) (hls : ls.size = nL) (hlink : Cond.methodLink own index Lib.MathLoose.min_long.x ∈ Ts) (hstat : Cond.static Lib.MathLoose.min_long.x ∈ Ts) (hini : Cond.initialized "java/lang/Math" ∈ Ts) (hcode : Cond.code Lib.MathLoose.min_long.x Lib.MathLoose.min_long.code 4 (some .long) ∈ Ts) (hf : 1 ≤ R.frames) (hlo : (rest.map fun v => v.category).sum + 15 ≤ R.locals) {x y : Int64} (hdg : decode cc pc = .ok (.invokestatic index, 3))
    (kk : W p l e R s m args below meth c H locs 0 0 Q (F0 m (pc + 3) ls (.long (if y < x then y else x) :: rest))) : W p l e R s m args below meth c H locs 0 0 Q (F0 m pc ls (.long y :: .long x :: rest)) := by
  obtain ⟨hx, hb, hml, hown, hts⟩ := S
  exact va_mmin_long hx hb (hml.trans hls.symm) hown (hts _ hlink) (hts _ hstat) (hts _ hini) (hts _ hcode) hf hlo (Nat.zero_le _) (Nat.zero_le _) hdg kk
theorem zz_absl (S : CallFix p m c cc nL s args Ts own) (hls : ls.size = nL) (hlink : Cond.methodLink own index Lib.MathLoose.abs_long.x ∈ Ts) (hstat : Cond.static Lib.MathLoose.abs_long.x ∈ Ts) (hini : Cond.initialized "java/lang/Math" ∈ Ts) (hcode : Cond.code Lib.MathLoose.abs_long.x Lib.MathLoose.abs_long.code 2 (some .long) ∈ Ts) (hf : 1 ≤ R.frames) (hlo : (rest.map fun v => v.category).sum + 13 ≤ R.locals) {x : Int64} (hdg : decode cc pc = .ok (.invokestatic index, 3))
    (kk : W p l e R s m args below meth c H locs 0 0 Q (F0 m (pc + 3) ls (.long (if 0 < x then x else -x) :: rest))) : W p l e R s m args below meth c H locs 0 0 Q (F0 m pc ls (.long x :: rest)) := by
  obtain ⟨hx, hb, hml, hown, hts⟩ := S
  exact va_mabs_long hx hb (hml.trans hls.symm) hown (hts _ hlink) (hts _ hstat) (hts _ hini) (hts _ hcode) hf hlo (Nat.zero_le _) (Nat.zero_le _) hdg kk
end ZC
