/-! making cells: the table grows with them -/
def zcl (T : zT) (σ : zS) : Prop := ∀ c j t, σ.2 c j = some t → t < T.2.2
def nT (T : zT) (k z : Nat) : zT := (va_up T.1 T.2.2 k, va_up T.2.1 T.2.2 z, T.2.2 + 1)
def nS (σ : zS) (n : Nat) : zS := (fun a => if a = n then (fun _ => 0) else σ.1 a, fun a => if a = n then (fun _ => none) else σ.2 a)
def nO (T : zT) (σ : zS) (k z : Nat) : Option (zT × zS) := some (nT T k z, nS σ T.2.2)
def pR (T : zT) (σ : zS) (c k j v : Nat) : Option zS := if T.1 c = k ∧ v < T.2.2 then some (σ.1, zur σ.2 c j (some v)) else none
theorem nT_ok {T : zT} (h : zok T) (k z : Nat) : zok (nT T k z) := by
  intro c hc
  show c < T.2.2 + 1
  by_cases e : c = T.2.2
  · omega
  · have : T.1 c < 18 := by simpa [nT, va_up, e] using hc
    have := h c this
    omega
theorem nS_cl {T : zT} {σ : zS} (h : zcl T σ) (k z : Nat) : zcl (nT T k z) (nS σ T.2.2) := by
  intro c j t ht
  show t < T.2.2 + 1
  by_cases e : c = T.2.2
  · simp [nS, e] at ht
  · have : σ.2 c j = some t := by simpa [nS, e] using ht
    have := h c j t this
    omega
theorem zcell_new {T : zT} {cy : Nat → ClassId} {ad : Nat → Nat} {σ : zS} (hcl : zcl T σ) {k z q c : Nat} (hc : c < T.2.2) : zcell (nT T k z) cy (va_up ad T.2.2 q) (nS σ T.2.2) c = zcell T cy ad σ c := by
  have e : ¬ c = T.2.2 := by omega
  have e1 : (nT T k z).1 c = T.1 c := by simp [nT, va_up, e]
  have e2 : (nT T k z).2.1 c = T.2.1 c := by simp [nT, va_up, e]
  have e3 : (nS σ T.2.2).1 c = σ.1 c := by simp [nS, e]
  have e4 : (nS σ T.2.2).2 c = σ.2 c := by simp [nS, e]
  have e5 : ∀ j, (σ.2 c j).map (va_up ad T.2.2 q) = (σ.2 c j).map ad := fun j => by
    cases ht : σ.2 c j with
    | none => rfl
    | some t =>
      have : ¬ t = T.2.2 := by have := hcl c j t ht; omega
      simp [va_up, this]
  have e6 : ∀ k', zval (va_up ad T.2.2 q) (nS σ T.2.2) c k' = zval ad σ c k' := fun k' => by
    funext j
    unfold zval
    rw [e3, e4, e5]
  have e7 : (fun j => ((nS σ T.2.2).2 c j).map (va_up ad T.2.2 q)) = fun j => (σ.2 c j).map ad := by
    funext j
    rw [e4, e5]
  unfold zcell
  rw [e1, e2, e3, e6, e7]
theorem zW_new {T : zT} {cy : Nat → ClassId} {ad : Nat → Nat} {σ : zS} (hcl : zcl T σ) {k z q : Nat} {e : va_E} (he : zcell (nT T k z) cy (va_up ad T.2.2 q) (nS σ T.2.2) T.2.2 = e) : zW T cy ad σ ++ [(q, e)] = zW (nT T k z) cy (va_up ad T.2.2 q) (nS σ T.2.2) := by
  unfold zW
  rw [show (nT T k z).2.2 = T.2.2 + 1 from rfl, List.range_succ, List.map_append]
  congr 1
  · apply List.map_congr_left
    intro c hc
    have hc := List.mem_range.mp hc
    have e : ¬ c = T.2.2 := by omega
    rw [zcell_new hcl hc]
    simp [va_up, e]
  · simp [va_up, he]
theorem zcell_n {T : zT} {cy : Nat → ClassId} {ad : Nat → Nat} {σ : zS} {k z : Nat} (hk : k < 13) : zcell (nT T k z) cy ad (nS σ T.2.2) T.2.2 = .inr (k, (List.range (zsz k)).map (fun j => if zref k j = true then .null else .int 0)) := by
  rw [zcell_obj (k := k) (by simp [nT, va_up]) hk]
  congr 2
  apply List.map_congr_left
  intro j _
  unfold zval
  by_cases h : zref k j = true
  · rw [if_pos h, if_pos h]; simp [nS, va_rf]
  · rw [if_neg h, if_neg h]; simp [nS]
def zD (D : va_G) (cy : Nat → ClassId) (T : zT) (ad : Nat → Nat) (A : Nat → Prop) (H0 : Heap) (σ : zS) (H : Heap) (locs : List Loc) (s : State) : Prop := zB D cy T ad A H0 σ H locs s ∧ zok T ∧ zcl T σ
/-- what grew: the old cells stay where they were -/
def zG (T : zT) (ad : Nat → Nat) (T1 : zT) (ad1 : Nat → Nat) : Prop := ∀ c, c < T.2.2 → c < T1.2.2 ∧ ad1 c = ad c
theorem zG_rf {T : zT} {ad : Nat → Nat} : zG T ad T ad := fun _ h => ⟨h, rfl⟩
theorem zG_tr {T T1 T2 : zT} {ad ad1 ad2 : Nat → Nat} (h : zG T ad T1 ad1) (h2 : zG T1 ad1 T2 ad2) : zG T ad T2 ad2 := fun c hc => ⟨(h2 c (h c hc).1).1, ((h2 c (h c hc).1).2).trans (h c hc).2⟩
section ZN
variable {p : Program} {l : Launch} {e : Env} {R : Room} {s : State} {m : MethodId} {args : Array Value} {below : List Frame} {meth : Method} {c : Code} {H : Heap} {locs : List Loc} {cells slots : Nat} {Q : State → Prop}
variable {cc : ByteArray} {pc : Nat} {ls : Array Slot} {rest st0 As : List Value} {D : va_G} {A : Nat → Prop} {H0 : Heap} {T : zT} {cy : Nat → ClassId} {ad : Nat → Nat} {σ : zS} {ρ : Type} {res : ρ} {nL : Nat} {Ts : List Cond} {own : String}
theorem zG_new {k z q : Nat} : zG T ad (nT T k z) (va_up ad T.2.2 q) := fun c hc => ⟨Nat.lt_succ_of_lt hc, by
  have e : ¬ c = T.2.2 := by omega
  simp [va_up, e]⟩
theorem zz_newO (S : CallFix p m c cc nL s args Ts own) (hZ : zD D cy T ad A H0 σ H locs s) {C : String} {F : u_T} {N index : Nat} (ci : Nat) (hin : ∀ w ∈ u_ws C F N, w ∈ Ts) (ty0 : Nat → FieldType) (hty : ∀ k, k < N → parseFieldDescriptor (F k).2.2.1 = some (ty0 k)) (hc : vwCl[ci]? = some (C, F, N)) (h13 : ci < 13) (hN : zsz ci = N)
    (hdef : ∀ j, j < N → defaultValue (ty0 j) = if zref ci j = true then .null else .int 0) (hcl : Cond.classLink own index C ∈ Ts) (hinst : Cond.instantiable C N ∈ Ts) (hini : Cond.initialized C ∈ Ts) (hdg : decode cc pc = .ok (.new index, 3)) {K : zT → zS → Option ρ} (hq : zb2 (nO T σ ci 0) K = some res) (h1 : cells + 1 ≤ R.cells ∧ slots + N ≤ R.slots)
    (kk : ∀ (T1 : zT) (σ1 : zS) (ad1 : Nat → Nat) (H1 : Heap), K T1 σ1 = some res → zG T ad T1 ad1 → T.2.2 < T1.2.2 → zD D cy T1 ad1 A H0 σ1 H1 locs s → W p l e R s m args below meth c H1 locs (cells + 1) (slots + N) Q (F0 m (pc + 3) ls (.ref (ad1 T.2.2) :: rest))) : W p l e R s m args below meth c H locs cells slots Q (F0 m pc ls rest) := by
  obtain ⟨hx, hb, hml, hown, hts⟩ := S
  obtain ⟨⟨hK, hP, hD, hS, hA⟩, hT, hC⟩ := hZ
  refine va_new (ci := ci) (fs := (List.range (zsz ci)).map (fun j => if zref ci j = true then .null else .int 0)) (C := C) (T := F) (N := N) hx hb hts hin ty0 hty hown (hts _ hcl) (hts _ hinst) (hts _ hini) hK hP hD hS hA.1 hc (fun j hj => ?_) h1.1 h1.2 hdg (fun q H1 hP1 hD1 hS1 => ?_)
  · rw [hdef j hj]
    unfold vp_V
    simp [List.getElem?_map, List.getElem?_range (show j < zsz ci by omega)]
  · have e := zW_new (cy := cy) (ad := ad) (k := ci) (z := 0) (q := q) hC (zcell_n h13)
    rw [e] at hP1 hD1
    have := kk (nT T ci 0) (nS σ T.2.2) (va_up ad T.2.2 q) H1 hq zG_new (Nat.lt_succ_self _) ⟨⟨hK, hP1, hD1, hS1, hA⟩, nT_ok hT _ _, nS_cl hC _ _⟩
    simpa [va_up] using this
theorem zz_arr_cls (hK : va_K D vwCl (ztys cy) s) {cA : ClassId} {ty : FieldType} (hK1 : va_K D vwCl (ztys cy ++ [(cA, ty)]) s) {t0 k : Nat} (ht : (ztys cy)[t0]? = some (cy k, ty)) : cA = cy k := by
  have h1 := (hK.2 t0 _ ht).2
  have h2 := (hK1.2 5 (cA, ty) (by rw [List.getElem?_append_right (Nat.le_refl 5)]; rfl)).2
  cases ty with
  | object C =>
    obtain ⟨_, _, _, _, _, g1⟩ := h1
    obtain ⟨_, _, _, _, _, g2⟩ := h2
    exact Option.some.inj (g2.symm.trans g1)
  | _ => exact Option.some.inj (Eq.trans (Eq.symm h2) h1)
theorem zz_newI (S : CallFix p m c cc nL s args Ts own) (hZ : zD D cy T ad A H0 σ H locs s) {n : Int32} (z : Nat) (harr : Cond.arrayClass .int ∈ Ts) (hn : ¬ n < 0) (hnz : n.toNatClampNeg = z) (hby : z * 4 ≤ 536870912) (hdg : decode cc pc = .ok (.newarray .int, 2)) {K : zT → zS → Option ρ} (hq : zb2 (nO T σ 13 z) K = some res) (h1 : cells + 1 ≤ R.cells ∧ slots + z ≤ R.slots)
    (kk : ∀ (T1 : zT) (σ1 : zS) (ad1 : Nat → Nat) (H1 : Heap), K T1 σ1 = some res → zG T ad T1 ad1 → T.2.2 < T1.2.2 → zD D cy T1 ad1 A H0 σ1 H1 locs s → W p l e R s m args below meth c H1 locs (cells + 1) (slots + z) Q (F0 m (pc + 2) ls (.ref (ad1 T.2.2) :: rest))) : W p l e R s m args below meth c H locs cells slots Q (F0 m pc ls (.int n :: rest)) := by
  obtain ⟨hx, hb, hml, hown, hts⟩ := S
  obtain ⟨⟨hK, hP, hD, hS, hA⟩, hT, hC⟩ := hZ
  refine va_newa (atype := .int) hx hb (hts _ harr) (ty := .int) rfl hK hP hD hS hA.1 (a0 := (z, .inl (fun _ => 0))) (fun _ => rfl) hn hnz hby h1.1 h1.2 hdg (fun q cA H1 hK1 hP1 hD1 hS1 => ?_)
  have hcA : cA = cy 13 := zz_arr_cls hK hK1 (t0 := 0) rfl
  subst hcA
  have e := zW_new (cy := cy) (ad := ad) (k := 13) (z := z) (q := q) hC (by rw [zcell_i (k := 13) (by simp [nT, va_up]) (by decide) (by decide)])
  have e2 : (nT T 13 z).2.1 T.2.2 = z := by simp [nT, va_up]
  have e4 : (nS σ T.2.2).1 T.2.2 = fun _ => 0 := by funext j; simp [nS]
  rw [e2, e4] at e
  rw [e] at hP1 hD1
  have := kk (nT T 13 z) (nS σ T.2.2) (va_up ad T.2.2 q) H1 hq zG_new (Nat.lt_succ_self _) ⟨⟨hK, hP1, hD1, hS1, hA⟩, nT_ok hT _ _, nS_cl hC _ _⟩
  simpa [va_up] using this
theorem zz_newZ (S : CallFix p m c cc nL s args Ts own) (hZ : zD D cy T ad A H0 σ H locs s) {n : Int32} (z : Nat) (harr : Cond.arrayClass .boolean ∈ Ts) (hn : ¬ n < 0) (hnz : n.toNatClampNeg = z) (hby : z * 1 ≤ 536870912) (hdg : decode cc pc = .ok (.newarray .boolean, 2)) {K : zT → zS → Option ρ} (hq : zb2 (nO T σ 14 z) K = some res) (h1 : cells + 1 ≤ R.cells ∧ slots + z ≤ R.slots)
    (kk : ∀ (T1 : zT) (σ1 : zS) (ad1 : Nat → Nat) (H1 : Heap), K T1 σ1 = some res → zG T ad T1 ad1 → T.2.2 < T1.2.2 → zD D cy T1 ad1 A H0 σ1 H1 locs s → W p l e R s m args below meth c H1 locs (cells + 1) (slots + z) Q (F0 m (pc + 2) ls (.ref (ad1 T.2.2) :: rest))) : W p l e R s m args below meth c H locs cells slots Q (F0 m pc ls (.int n :: rest)) := by
  obtain ⟨hx, hb, hml, hown, hts⟩ := S
  obtain ⟨⟨hK, hP, hD, hS, hA⟩, hT, hC⟩ := hZ
  refine va_newa (atype := .boolean) hx hb (hts _ harr) (ty := .boolean) rfl hK hP hD hS hA.1 (a0 := (z, .inl (fun _ => 0))) (fun _ => rfl) hn hnz hby h1.1 h1.2 hdg (fun q cA H1 hK1 hP1 hD1 hS1 => ?_)
  have hcA : cA = cy 14 := zz_arr_cls hK hK1 (t0 := 1) rfl
  subst hcA
  have e := zW_new (cy := cy) (ad := ad) (k := 14) (z := z) (q := q) hC (by rw [zcell_i (k := 14) (by simp [nT, va_up]) (by decide) (by decide)])
  have e2 : (nT T 14 z).2.1 T.2.2 = z := by simp [nT, va_up]
  have e4 : (nS σ T.2.2).1 T.2.2 = fun _ => 0 := by funext j; simp [nS]
  rw [e2, e4] at e
  rw [e] at hP1 hD1
  have := kk (nT T 14 z) (nS σ T.2.2) (va_up ad T.2.2 q) H1 hq zG_new (Nat.lt_succ_self _) ⟨⟨hK, hP1, hD1, hS1, hA⟩, nT_ok hT _ _, nS_cl hC _ _⟩
  simpa [va_up] using this
theorem zz_newQ (S : CallFix p m c cc nL s args Ts own) (hZ : zD D cy T ad A H0 σ H locs s) {n : Int32} (z k t0 : Nat) {C : String} {index : Nat} (ht : (ztys cy)[t0]? = some (cy k, .object C)) (h1k : ¬ k < 15) (hcl : Cond.classLink own index C ∈ Ts) (hao : va_AO C s) (hn : ¬ n < 0) (hnz : n.toNatClampNeg = z) (hby : z * 4 ≤ 536870912) (hdg : decode cc pc = .ok (.anewarray index, 3)) {K : zT → zS → Option ρ} (hq : zb2 (nO T σ k z) K = some res) (h1 : cells + 1 ≤ R.cells ∧ slots + z ≤ R.slots)
    (kk : ∀ (T1 : zT) (σ1 : zS) (ad1 : Nat → Nat) (H1 : Heap), K T1 σ1 = some res → zG T ad T1 ad1 → T.2.2 < T1.2.2 → zD D cy T1 ad1 A H0 σ1 H1 locs s → W p l e R s m args below meth c H1 locs (cells + 1) (slots + z) Q (F0 m (pc + 3) ls (.ref (ad1 T.2.2) :: rest))) : W p l e R s m args below meth c H locs cells slots Q (F0 m pc ls (.int n :: rest)) := by
  obtain ⟨hx, hb, hml, hown, hts⟩ := S
  obtain ⟨⟨hK, hP, hD, hS, hA⟩, hT, hC⟩ := hZ
  refine va_newq hx hb hown (hts _ hcl) hao hK hP hD hS hA.1 hn hnz hby h1.1 h1.2 hdg (fun q cA H1 hK1 hP1 hD1 hS1 => ?_)
  have hcA : cA = cy k := zz_arr_cls hK hK1 ht
  subst hcA
  have e := zW_new (cy := cy) (ad := ad) (k := k) (z := z) (q := q) hC (by rw [zcell_r (k := k) (by simp [nT, va_up]) (by omega) h1k])
  have e2 : (nT T k z).2.1 T.2.2 = z := by simp [nT, va_up]
  have e4 : (fun j => ((nS σ T.2.2).2 T.2.2 j).map (va_up ad T.2.2 q)) = fun _ => none := by funext j; simp [nS]
  rw [e2, e4] at e
  rw [e] at hP1 hD1
  have := kk (nT T k z) (nS σ T.2.2) (va_up ad T.2.2 q) H1 hq zG_new (Nat.lt_succ_self _) ⟨⟨hK, hP1, hD1, hS1, hA⟩, nT_ok hT _ _, nS_cl hC _ _⟩
  simpa [va_up] using this
theorem zset_listR {ad : Nat → Nat} {σ : zS} {a k j v : Nat} (hz : zref k j = true) : (List.range (zsz k)).map (zval ad (σ.1, zur σ.2 a j (some v)) a k) = ((List.range (zsz k)).map (zval ad σ a k)).set j (.ref (ad v)) := by
  apply List.ext_getElem?
  intro i
  rw [List.getElem?_set]
  by_cases hi : i < zsz k
  · rw [List.getElem?_map, List.getElem?_range hi]
    by_cases hij : j = i
    · subst hij
      rw [if_pos rfl, if_pos (by simpa using hi)]
      simp [zval, hz, zur, va_up, va_rf]
    · rw [if_neg hij, List.getElem?_map, List.getElem?_range hi]
      have : ¬ i = j := fun q => hij q.symm
      simp [zval, zur, va_up, this]
  · rw [List.getElem?_eq_none (by simp; omega)]
    by_cases hij : j = i
    · rw [if_pos hij, if_neg (by simp; omega)]
    · rw [if_neg hij, List.getElem?_eq_none (by simp; omega)]
theorem zcl_ur {a j v : Nat} (h : zcl T σ) (hv : v < T.2.2) : zcl T (σ.1, zur σ.2 a j (some v)) := by
  intro c i t ht
  by_cases e : c = a
  · subst e
    by_cases e2 : i = j
    · simp [zur, va_up, e2] at ht
      omega
    · have : σ.2 c i = some t := by simpa [zur, va_up, e2] using ht
      exact h c i t this
  · have : σ.2 c i = some t := by simpa [zur, e] using ht
    exact h c i t this
theorem zz_putRF (S : CallFix p m c cc nL s args Ts own) (hZ : zD D cy T ad A H0 σ H locs s) (hin2 : meth.name = "<init>") {C : String} {F : u_T} {N a v index : Nat} (ci k : Nat) (hin : ∀ w ∈ u_ws C F N, w ∈ Ts) (ty0 : Nat → FieldType) (hty : ∀ k, k < N → parseFieldDescriptor (F k).2.2.1 = some (ty0 k)) (hnm : ∀ a, a < N → ∀ b, b < N → a ≠ b → (F a).2.1 ≠ (F b).2.1) (hc : vwCl[ci]? = some (C, F, N)) (hk : k < N) (h13 : ci < 13) (hN : zsz ci = N) (hz : zref ci k = true)
    (hlink : Cond.fieldLink own index own (F k).2.1 (F k).2.2.1 ∈ Ts) (hsame : ∀ x, s.fieldFound? (F k).1 (F k).2.1 (F k).2.2.1 = some x → s.fieldFound? own (F k).2.1 (F k).2.2.1 = some x) (hfin : (F k).2.2.2 = true) (hdecl : (F k).1 = own) {ty : FieldType} (hd : parseFieldDescriptor (F k).2.2.1 = some ty) (hn : narrow ty (.ref (ad v)) = .ref (ad v)) (hfit : fits ty (.ref (ad v)) = true) (hdg : decode cc pc = .ok (.putfield index, 3)) {K : zS → Option ρ} (hq : (pR T σ a ci k v).bind K = some res)
    (kk : ∀ (σ' : zS) (H1 : Heap) (locs1 : List Loc), K σ' = some res → zD D cy T ad A H0 σ' H1 locs1 s → W p l e R s m args below meth c H1 locs1 cells slots Q (F0 m (pc + 3) ls rest)) : W p l e R s m args below meth c H locs cells slots Q (F0 m pc ls (.ref (ad v) :: .ref (ad a) :: rest)) := by
  obtain ⟨hx, hb, hml, hown, hts⟩ := S
  obtain ⟨⟨hK, hP, hD, hS, hA⟩, hT, hC⟩ := hZ
  unfold pR at hq
  by_cases h : T.1 a = ci ∧ v < T.2.2
  · rw [if_pos h] at hq
    have ha : a < T.2.2 := hT a (by omega)
    refine va_putF (D := D) (ci := ci) (v := .ref (ad v)) (ty := ty) (C := C) (T := F) (N := N) hx hb hts hin ty0 hty hnm hown hK hP hD hS a ((zW_at ha).trans (by rw [zcell_obj h.1 h13])) hc k hk (hts _ hlink) hsame hfin hin2 hdecl hd hn hfit (by simpa using (by omega : k < zsz ci)) hdg (fun H1 locs1 hP1 hD1 hS1 => ?_)
    have e : (zW T cy ad σ).set a (ad a, .inr (ci, ((List.range (zsz ci)).map (zval ad σ a ci)).set k (.ref (ad v)))) = zW T cy ad (σ.1, zur σ.2 a k (some v)) := zW_set ha (by rw [zcell_obj h.1 h13, zset_listR hz]) zcell_oR
    rw [e] at hP1 hD1
    exact kk _ H1 locs1 hq ⟨⟨hK, hP1, hD1, hS1, hA⟩, hT, zcl_ur hC h.2⟩
  · rw [if_neg h] at hq
    exact zz_none hq
theorem zz_putC (S : CallFix p m c cc nL s args Ts own) (hZ : zD D cy T ad A H0 σ H locs s) {C ref : String} {F : u_T} {N a index : Nat} (ci k : Nat) (hin : ∀ w ∈ u_ws C F N, w ∈ Ts) (ty0 : Nat → FieldType) (hty : ∀ k, k < N → parseFieldDescriptor (F k).2.2.1 = some (ty0 k)) (hnm : ∀ a, a < N → ∀ b, b < N → a ≠ b → (F a).2.1 ≠ (F b).2.1) (hc : vwCl[ci]? = some (C, F, N)) (hk : k < N) (h13 : ci < 13) (hN : zsz ci = N) (hz : zref ci k = false)
    (hlink : Cond.fieldLink own index ref (F k).2.1 (F k).2.2.1 ∈ Ts) (hsame : ∀ x, s.fieldFound? (F k).1 (F k).2.1 (F k).2.2.1 = some x → s.fieldFound? ref (F k).2.1 (F k).2.2.1 = some x) (hfin : (F k).2.2.2 = false) {x : Int32} (hd : parseFieldDescriptor (F k).2.2.1 = some .int) (hdg : decode cc pc = .ok (.putfield index, 3)) {K : zS → Option ρ} (hq : (pI T σ a ci k x).bind K = some res)
    (kk : ∀ (σ' : zS) (H1 : Heap) (locs1 : List Loc), K σ' = some res → zD D cy T ad A H0 σ' H1 locs1 s → W p l e R s m args below meth c H1 locs1 cells slots Q (F0 m (pc + 3) ls rest)) : W p l e R s m args below meth c H locs cells slots Q (F0 m pc ls (.int x :: .ref (ad a) :: rest)) := by
  unfold pI at hq
  by_cases h : T.1 a = ci
  · rw [if_pos h] at hq
    exact zz_putA S hZ.2.1 hZ.1 ci k hin ty0 hty hnm hc hk h13 hN hz hlink hsame hfin hd rfl rfl hdg h (fun H1 locs1 hB1 => kk _ H1 locs1 hq ⟨hB1, hZ.2.1, hZ.2.2⟩)
  · rw [if_neg h] at hq
    exact zz_none hq
theorem zz_astC (S : CallFix p m c cc nL s args Ts own) (hZ : zD D cy T ad A H0 σ H locs s) {a : Nat} {i x : Int32} (hdg : decode cc pc = .ok (.iastore, 1)) {K : zS → Option ρ} (hq : (sI T σ a i x).bind K = some res)
    (kk : ∀ (σ' : zS) (H1 : Heap) (locs1 : List Loc), K σ' = some res → zD D cy T ad A H0 σ' H1 locs1 s → W p l e R s m args below meth c H1 locs1 cells slots Q (F0 m (pc + 1) ls rest)) : W p l e R s m args below meth c H locs cells slots Q (F0 m pc ls (.int x :: .int i :: .ref (ad a) :: rest)) := by
  unfold sI at hq
  by_cases h : T.1 a = 13 ∧ ¬ (i < 0 ∨ T.2.1 a ≤ i.toNatClampNeg)
  · rw [if_pos h] at hq
    refine zz_ast S hZ.2.1 hZ.1 hdg (K := some) (res := (zu σ.1 a i.toNatClampNeg x, σ.2)) (by unfold sI; rw [if_pos h]; rfl) (fun σ' H1 locs1 hq1 hB1 => ?_)
    cases hq1
    exact kk _ H1 locs1 hq ⟨hB1, hZ.2.1, hZ.2.2⟩
  · rw [if_neg h] at hq
    exact zz_none hq
theorem zz_astRC (S : CallFix p m c cc nL s args Ts own) (hZ : zD D cy T ad A H0 σ H locs s) {a v : Nat} (k kv : Nat) (t0 : Nat) {r : vw_C} (ht : (ztys cy)[t0]? = some (cy k, .object r.1)) (hc : vwCl[kv]? = some r) (hkv : kv < 13) (h1 : ¬ k < 15) (h2 : k < 18) {i : Int32} (hdg : decode cc pc = .ok (.aastore, 1)) {K : zS → Option ρ} (hq : (sR T σ a k kv i v).bind K = some res)
    (kk : ∀ (σ' : zS) (H1 : Heap) (locs1 : List Loc), K σ' = some res → zD D cy T ad A H0 σ' H1 locs1 s → W p l e R s m args below meth c H1 locs1 cells slots Q (F0 m (pc + 1) ls rest)) : W p l e R s m args below meth c H locs cells slots Q (F0 m pc ls (.ref (ad v) :: .int i :: .ref (ad a) :: rest)) := by
  unfold sR at hq
  by_cases h : T.1 a = k ∧ T.1 v = kv ∧ ¬ (i < 0 ∨ T.2.1 a ≤ i.toNatClampNeg)
  · rw [if_pos h] at hq
    refine zz_astR S hZ.2.1 hZ.1 k kv t0 ht hc hkv h1 h2 hdg (K := some) (res := (σ.1, zur σ.2 a i.toNatClampNeg (some v))) (by unfold sR; rw [if_pos h]; rfl) (fun σ' H1 locs1 hq1 hB1 => ?_)
    cases hq1
    exact kk _ H1 locs1 hq ⟨hB1, hZ.2.1, zcl_ur hZ.2.2 (hZ.2.1 v (by omega))⟩
  · rw [if_neg h] at hq
    exact zz_none hq
theorem zz_getRC (S : CallFix p m c cc nL s args Ts own) (hZ : zD D cy T ad A H0 σ H locs s) {C ref : String} {F : u_T} {N a index : Nat} (ci k : Nat) (hin : ∀ w ∈ u_ws C F N, w ∈ Ts) (hc : vwCl[ci]? = some (C, F, N)) (hk : k < N) (h13 : ci < 13) (hN : zsz ci = N) (hz : zref ci k = true)
    (hlink : Cond.fieldLink own index ref (F k).2.1 (F k).2.2.1 ∈ Ts) (hsame : ∀ x, s.fieldFound? (F k).1 (F k).2.1 (F k).2.2.1 = some x → s.fieldFound? ref (F k).2.1 (F k).2.2.1 = some x) (hdg : decode cc pc = .ok (.getfield index, 3)) {K : Nat → Option ρ} (hq : (gR T σ a ci k).bind K = some res)
    (kk : ∀ x : Nat, x < T.2.2 → K x = some res → W p l e R s m args below meth c H locs cells slots Q (F0 m (pc + 3) ls (.ref (ad x) :: rest))) : W p l e R s m args below meth c H locs cells slots Q (F0 m pc ls (.ref (ad a) :: rest)) := by
  refine zz_getR S hZ.2.1 hZ.1 ci k hin hc hk h13 hN hz hlink hsame hdg (K := fun x => if x < T.2.2 then K x else none) (res := res) ?_ (fun x hq1 => ?_)
  · unfold gR at hq ⊢
    by_cases h : T.1 a = ci
    · rw [if_pos h] at hq ⊢
      cases hv : σ.2 a k with
      | none => rw [hv] at hq; exact zz_none hq
      | some v =>
        rw [hv] at hq
        rw [Option.bind_some] at hq ⊢
        rw [if_pos (hZ.2.2 a k v hv)]
        exact hq
    · rw [if_neg h] at hq
      exact zz_none hq
  · by_cases h : x < T.2.2
    · rw [if_pos h] at hq1
      exact kk x h hq1
    · rw [if_neg h] at hq1
      exact zz_none hq1
/-- what a constructor promises -/
abbrev zQn (D : va_G) (cy : Nat → ClassId) (T : zT) (ad : Nat → Nat) (sz : Nat) (T1 : zT) (σ1 : zS) : Array Value → State → Outcome → State → Prop :=
  va_Qv (fun u : Nat → Nat => zG T ad T1 u ∧ zok T1 ∧ zcl T1 σ1) (fun u t => zAt D cy T1 u (zA T ad sz) σ1 t) (zA T ad sz)
theorem zz_callC (S : CallFix p m c cc nL s args Ts own) (hZ : zD D cy T ad A H0 σ H locs s) {y : MethodName} {bytes : ByteArray} {maxL n index mc ms b : Nat} {ws : List Cond} {rm : Room} {o : Option (zT × zS)} (hM : ∀ T1 σ1, o = some (T1, σ1) → Met l y ws rm (va_Pc (.ref (ad b) :: As) (zPre D cy T ad σ H.size)) (zQn D cy T ad H.size T1 σ1) mc ms (zA T ad H.size))
    (cw : CallB R s args own index y bytes maxL none ws rm mc ms n ∧ y.name = "<init>" ∧ (Cond.instanceMethod y).before args s = true) (hn : As.length = n) (hls : ls.size = nL) (hst : st0 = As.reverse ++ .ref (ad b) :: rest) (hrm : (rest.map fun v => v.category).sum ≤ 8) (hdg : decode cc pc = .ok (.invokespecial index, 3)) {K : zT → zS → Option ρ} (hq : zb2 o K = some res) (h1 : cells + mc ≤ R.cells ∧ slots + ms ≤ R.slots)
    (kk : ∀ (T1 : zT) (σ1 : zS) (ad1 : Nat → Nat) (H1 : Heap) (locs1 : List Loc), K T1 σ1 = some res → zG T ad T1 ad1 → zD D cy T1 ad1 A H0 σ1 H1 locs1 s → W p l e R s m args below meth c H1 locs1 (cells + mc) (slots + ms) Q (F0 m (pc + 3) ls rest)) : W p l e R s m args below meth c H locs cells slots Q (F0 m pc ls st0) := by
  cases ho : o with
  | none => rw [ho] at hq; exact zz_none hq
  | some q0 =>
    obtain ⟨T1, σ1⟩ := q0
    rw [ho] at hq
    refine va_callv (va_runI (As := As) (rest := rest) S (hM _ _ ho) cw (zz_preS hZ.1) rfl hn hls hst (lv_room hrm) hdg h1) hZ.1.2.2.2.1 (fun q _ h => zz_free hZ.1 q h) (zz_free hZ.1) (fun u t H1 locs1 ht hvm hw hBt hz1 hk1 hS1 => ?_)
    exact kk T1 σ1 u H1 locs1 hq hw.1 ⟨⟨hZ.1.1, by rw [← ht]; exact hBt.1, hBt.2.2.weaken (fun k q _ h => zz_free hZ.1 q.1 h), hS1, hZ.1.2.2.2.2⟩, hw.2.1, hw.2.2⟩
theorem zz_callCN (S : CallFix p m c cc nL s args Ts own) (hZ : zD D cy T ad A H0 σ H locs s) {y : MethodName} {host : String} {bytes : ByteArray} {maxL n index mc ms b : Nat} {ws : List Cond} {rm : Room} {o : Option (zT × zS)} (hM : ∀ T1 σ1, o = some (T1, σ1) → Met l y ws rm (va_Pc (.ref (ad b) :: As) (zPre D cy T ad σ H.size)) (zQn D cy T ad H.size T1 σ1) mc ms (zA T ad H.size))
    (cw : va_CN R s args own index y host bytes maxL none ws rm mc ms n ∧ y.name = "<init>" ∧ (Cond.instanceMethod y).before args s = true) (hn : As.length = n) (hls : ls.size = nL) (hst : st0 = As.reverse ++ .ref (ad b) :: rest) (hrm : (rest.map fun v => v.category).sum ≤ 8) (hdg : decode cc pc = .ok (.invokespecial index, 3)) {K : zT → zS → Option ρ} (hq : zb2 o K = some res) (h1 : cells + mc ≤ R.cells ∧ slots + ms ≤ R.slots)
    (kk : ∀ (T1 : zT) (σ1 : zS) (ad1 : Nat → Nat) (H1 : Heap) (locs1 : List Loc), K T1 σ1 = some res → zG T ad T1 ad1 → zD D cy T1 ad1 A H0 σ1 H1 locs1 s → W p l e R s m args below meth c H1 locs1 (cells + mc) (slots + ms) Q (F0 m (pc + 3) ls rest)) : W p l e R s m args below meth c H locs cells slots Q (F0 m pc ls st0) := by
  cases ho : o with
  | none => rw [ho] at hq; exact zz_none hq
  | some q0 =>
    obtain ⟨T1, σ1⟩ := q0
    rw [ho] at hq
    refine va_callv (va_runIN (As := As) (rest := rest) S (hM _ _ ho) cw (zz_preS hZ.1) rfl hn hls hst (lv_room hrm) hdg h1) hZ.1.2.2.2.1 (fun q _ h => zz_free hZ.1 q h) (zz_free hZ.1) (fun u t H1 locs1 ht hvm hw hBt hz1 hk1 hS1 => ?_)
    exact kk T1 σ1 u H1 locs1 hq hw.1 ⟨⟨hZ.1.1, by rw [← ht]; exact hBt.1, hBt.2.2.weaken (fun k q _ h => zz_free hZ.1 q.1 h), hS1, hZ.1.2.2.2.2⟩, hw.2.1, hw.2.2⟩
theorem zz_cret (S : CallFix p m c cc nL s args Ts own) {T0 T1 : zT} {ad0 : Nat → Nat} {σ1 : zS} {mc ms : Nat} (hZ : zD D cy T ad A s.heap σ H locs s) (hG : zG T0 ad0 T ad) (hr : meth.sig.returnType = none) (hlocks : meth.locks = false) (hdg : decode cc pc = .ok (.return_, 1)) (h1 : cells ≤ mc ∧ slots ≤ ms) (hq : (some (T, σ) : Option (zT × zS)) = some (T1, σ1)) (hA0 : A = zA T0 ad0 s.heap.size) : W p l e R s m args below meth c H locs cells slots (MQ below (zQn D cy T0 ad0 s.heap.size T1 σ1) args s mc ms (zA T0 ad0 s.heap.size)) (F0 m pc ls []) := by
  obtain ⟨hx, hb, hml, hown, hts⟩ := S
  obtain ⟨⟨hK, hP, hD, hS, hA⟩, hT, hC⟩ := hZ
  subst hA0
  cases hq
  refine W.widen (k := mc) (n := ms) h1.1 h1.2 ?_
  exact W.vret hx hb hr (fun t ht hW => ⟨⟨ad, rfl, ⟨hG, hT, hC⟩, by rw [ht]; exact hP, va_K.moved hW.alike hK, hD⟩, hS.F ht⟩) hS.2.2 hdg hlocks
end ZN
