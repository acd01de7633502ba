/-! THE LAW: two worlds side by side -/
def zs0 : zS := (fun _ _ => 0, fun _ _ => none)
def zT0 (k : Nat) : zT := (fun c => if c = 0 then k else 99, fun _ => 0, 1)
/-- the class's world as its constructor makes it, and the reference's -/
def zCi : Option (zT × zS) := f_X11_init (zT0 11) 30 zs0 0
def zMi : Option (zT × zS) := f_X12_init (zT0 12) 30 zs0 0
def TC : zT := match zCi with | some q => q.1 | none => zT0 11
def sC : zS := match zCi with | some q => q.2 | none => zs0
def TM : zT := match zMi with | some q => q.1 | none => zT0 12
def sM : zS := match zMi with | some q => q.2 | none => zs0
theorem zCi_some : zCi.isSome = true := by decide +kernel
theorem zMi_some : zMi.isSome = true := by decide +kernel
theorem zCi_eq : f_X11_init (zT0 11) 30 zs0 0 = some (TC, sC) := by
  have h := zCi_some
  unfold TC sC
  show zCi = _
  cases hz : zCi with
  | none => rw [hz] at h; cases h
  | some q => rfl
theorem zMi_eq : f_X12_init (zT0 12) 30 zs0 0 = some (TM, sM) := by
  have h := zMi_some
  unfold TM sM
  show zMi = _
  cases hz : zMi with
  | none => rw [hz] at h; cases h
  | some q => rfl
theorem zT0_ok {k : Nat} : zok (zT0 k) := by
  intro c hc
  by_cases h : c = 0
  · subst h; exact Nat.one_pos
  · simp [zT0, h] at hc
theorem zs0_cl {T : zT} : zcl T zs0 := fun c j t h => by simp [zs0] at h
def zAL (s : State) : Nat → Prop := fun q => s.heap.size ≤ q
def zLL (TC TM : zT) (D : va_G) (cy : Nat → ClassId) (adC adM : Nat → Nat) (σC σM : zS) (H : Heap) (locs : List Loc) (s : State) : Prop :=
  zB D cy TC adC (zAL s) s.heap σC H locs s ∧ zB D cy TM adM (zAL s) s.heap σM H locs s ∧ zok TC ∧ zok TM ∧ ∀ c c', c < TC.2.2 → c' < TM.2.2 → adC c ≠ adM c'
def zAg (INV : zS → zS → Prop) (o1 o2 : Option (Int32 × zS)) : Prop := ∃ r σ1 σ2, o1 = some (r, σ1) ∧ o2 = some (r, σ2) ∧ INV σ1 σ2
def zAgL (INV : zS → zS → Prop) (o1 o2 : Option (Int64 × zS)) : Prop := ∃ r σ1 σ2, o1 = some (r, σ1) ∧ o2 = some (r, σ2) ∧ INV σ1 σ2
section ZLW
variable {p : Program} {l : Launch} {e : Env} {R : Room} {s : State} {m : MethodId} {args : Array Value} {below : List Frame} {meth : Method} {c : Code} {H : Heap} {locs : List Loc} {cells slots : Nat} {Q : State → Prop}
variable {cc : ByteArray} {pc : Nat} {ls : Array Slot} {rest st0 As : List Value} {D : va_G} {A : Nat → Prop} {H0 : Heap} {T T' : zT} {cy : Nat → ClassId} {ad ad' : Nat → Nat} {σ σ' : zS} {nL : Nat} {Ts : List Cond} {own : String}
variable {y : MethodName} {bytes : ByteArray} {maxL n index : Nat} {ret : Option FieldType} {ws : List Cond} {rm : Room}
theorem zz_other (hB2 : zB D cy T' ad' A H0 σ' H locs s) (hap : ∀ c c', c < T.2.2 → c' < T'.2.2 → ad c ≠ ad' c') {H1 : Heap} {locs1 : List Loc} (hfr : ∀ q : Nat, q < H.size → ¬ zA T ad H.size q → H1[q]? = H[q]?) (hS1 : va_S A H0 H1 locs1) : zB D cy T' ad' A H0 σ' H1 locs1 s := by
  obtain ⟨hK, hP, hD, hS, hA⟩ := hB2
  refine ⟨hK, hP.kept (fun k q hq => ?_), hD, hS1, hA⟩
  have hlt := (hP k q hq).lt
  refine hfr q.1 hlt (fun hz => ?_)
  unfold zW at hq
  rw [List.getElem?_map] at hq
  cases hr : (List.range T'.2.2)[k]? with
  | none => rw [hr] at hq; cases hq
  | some i =>
    rw [hr] at hq
    cases hq
    rcases hz with ⟨j, hj, e⟩ | h
    · exact hap j i hj (List.mem_range.mp (List.mem_of_getElem? hr)) e.symm
    · exact absurd hlt (Nat.not_lt.mpr h)
theorem zz_lawi (S : CallFix p m c cc nL s args Ts own) (hT : zok T) (hB : zB D cy T ad A H0 σ H locs s) (hB2 : zB D cy T' ad' A H0 σ' H locs s) (hap : ∀ c c', c < T.2.2 → c' < T'.2.2 → ad c ≠ ad' c') {C : String} {b : Nat} {r0 : Int32} {σ0 : zS} (hM : Met l y ws rm (va_Pc (.ref (ad b) :: As) (zPre D cy T ad σ H.size)) (va_Qi (fun (r2 : Int32) (σ2 : zS) => r2 = r0 ∧ σ2 = σ0) (zAt D cy T ad (zA T ad H.size)) (zA T ad H.size)) 0 0 (zA T ad H.size)) (cw : CallW R s args own C index y bytes maxL ret ws rm 0 0 n) {F : u_T} {NF : Nat} (ci : Nat) (hc : vwCl[ci]? = some (C, F, NF)) (h13 : ci < 13) (hkd : T.1 b = ci) (hn : As.length = n) (hls : ls.size = nL) (hst : st0 = As.reverse ++ .ref (ad b) :: rest) (hrm : (rest.map fun v => v.category).sum ≤ 8) (hdg : decode cc pc = .ok (.invokevirtual index, 3)) (hf : cells + 0 ≤ R.cells ∧ slots + 0 ≤ R.slots)
    (kk : ∀ (H1 : Heap) (locs1 : List Loc), zB D cy T ad A H0 σ0 H1 locs1 s → zB D cy T' ad' A H0 σ' H1 locs1 s → W p l e R s m args below meth c H1 locs1 cells slots Q (F0 m (pc + 3) ls (.int r0 :: rest))) : W p l e R s m args below meth c H locs cells slots Q (F0 m pc ls st0) := by
  refine va_calli (va_runV (As := As) (rest := rest) S hM cw (zz_preV hT hB ci hc h13 hkd) rfl hn hls hst (lv_room hrm) hdg hf) hB.2.2.2.1 (fun q _ h => zz_free hB q h) (zz_free hB) (fun r u t H1 locs1 ht hvm hw hBt hz1 hk1 hS1 => ?_)
  obtain ⟨e1, e2⟩ := hw
  subst e1; subst e2
  exact kk H1 locs1 (zz_after hB ht hBt hS1) (zz_other hB2 hap hk1 hS1)
theorem zz_lawl (S : CallFix p m c cc nL s args Ts own) (hT : zok T) (hB : zB D cy T ad A H0 σ H locs s) (hB2 : zB D cy T' ad' A H0 σ' H locs s) (hap : ∀ c c', c < T.2.2 → c' < T'.2.2 → ad c ≠ ad' c') {C : String} {b : Nat} {r0 : Int64} {σ0 : zS} (hM : Met l y ws rm (va_Pc (.ref (ad b) :: As) (zPre D cy T ad σ H.size)) (va_Ql (fun (r2 : Int64) (σ2 : zS) => r2 = r0 ∧ σ2 = σ0) (zAt D cy T ad (zA T ad H.size)) (zA T ad H.size)) 0 0 (zA T ad H.size)) (cw : CallW R s args own C index y bytes maxL ret ws rm 0 0 n) {F : u_T} {NF : Nat} (ci : Nat) (hc : vwCl[ci]? = some (C, F, NF)) (h13 : ci < 13) (hkd : T.1 b = ci) (hn : As.length = n) (hls : ls.size = nL) (hst : st0 = As.reverse ++ .ref (ad b) :: rest) (hrm : (rest.map fun v => v.category).sum ≤ 8) (hdg : decode cc pc = .ok (.invokevirtual index, 3)) (hf : cells + 0 ≤ R.cells ∧ slots + 0 ≤ R.slots)
    (kk : ∀ (H1 : Heap) (locs1 : List Loc), zB D cy T ad A H0 σ0 H1 locs1 s → zB D cy T' ad' A H0 σ' H1 locs1 s → W p l e R s m args below meth c H1 locs1 cells slots Q (F0 m (pc + 3) ls (.long r0 :: rest))) : W p l e R s m args below meth c H locs cells slots Q (F0 m pc ls st0) := by
  refine va_calll (va_runV (As := As) (rest := rest) S hM cw (zz_preV hT hB ci hc h13 hkd) rfl hn hls hst (lv_room hrm) hdg hf) hB.2.2.2.1 (fun q _ h => zz_free hB q h) (zz_free hB) (fun r u t H1 locs1 ht hvm hw hBt hz1 hk1 hS1 => ?_)
  obtain ⟨e1, e2⟩ := hw
  subst e1; subst e2
  exact kk H1 locs1 (zz_after hB ht hBt hS1) (zz_other hB2 hap hk1 hS1)
end ZLW
theorem zL_idx {L i k : Nat} {x : Int32} (hL : L ≤ 3072) (hx : x = nI i) (hk : k < 6) (hi : i + 6 ≤ L) : vp_in (x + nI k) L := by
  rw [hx, nI_add]
  exact vp_in_nI (by omega) (by omega)
theorem zL_cond {L i : Nat} {x : Int32} (hL : L ≤ 3072) (hx : x = nI i) (hi : i ≤ L) (h : ¬ nI L - 6 < x) : i + 6 ≤ L := by
  rw [hx, Int32.lt_iff_toInt_lt, show (nI L - 6 : Int32) = nI L - nI 6 from rfl, pk_sub_toInt (by omega) (by omega), nI_toInt (by omega)] at h
  omega
theorem zL_cmp (r : Int64) : lg_cmp r r = 0 := by simp [lg_cmp]
