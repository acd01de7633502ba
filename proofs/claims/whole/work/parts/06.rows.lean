theorem zz_none {α : Type} {x : α} {P : Prop} (h : (none : Option α) = some x) : P := nomatch h
theorem zz_ent (m : MethodId) {args : Array Value} {vs : List Value} {n : Nat} (h : args = vs.toArray) (hn : (lg_sl vs).length ≤ n) : ∃ ls, entryFrame m args n = F0 m 0 ls [] ∧ lv_has ls n (lv_args 0 vs) := by
  subst h
  exact ⟨_, lg_entry_eq m vs n, lv_entry vs hn⟩
theorem zz_nmV {α ρ : Type} {res : ρ} {e : α} {K : α → Option ρ} (hq : zn e K = some res) {P : Prop} (kk : ∀ y, y = e → K y = some res → P) : P := kk e rfl hq
theorem zz_tabO {x a b : Int32} {lo hi : Int} (h : x < a ∨ b < x) (ha : a.toInt = lo) (hb : b.toInt = hi) : x.toInt < lo ∨ hi < x.toInt := by
  rw [Int32.lt_iff_toInt_lt, Int32.lt_iff_toInt_lt, ha, hb] at h
  exact h
theorem zz_ofWF {l : Launch} {y : MethodName} {ws ws' : List Cond} {rm : Room} {Pc : Array Value → State → Prop} {Qc : Array Value → State → Outcome → State → Prop} {mc ms : Nat} {free : Addr → Prop} {cc : ByteArray} {maxL : Nat} {ret : Option FieldType}
    (hy : plainFor y = true) (hw : ws = Cond.code y cc maxL ret :: ws')
    (body : ∀ p e s m args below meth c s₁, BodyLoose p l y (headSpec ws rm) cc maxL ret e s m args below meth c s₁ → c.maxLocals = maxL → Pc args s →
      W p l e (headSpec ws rm).room s m args below meth c s.heap [] 0 0 (MQ below Qc args s mc ms free) (entryFrame m args maxL)) : Met l y ws rm Pc Qc mc ms free := by
  refine MetFree.of_bodySF (code := cc) (maxLocals := maxL) (ret := ret) hy ?_ ?_
  · intro args s m h hn
    obtain ⟨meth, c, h1, h2, h3, h4, h5, h6, -, -⟩ := Cond.code_spec hn (atoms_spec (ws := ws) h _ (by rw [hw]; exact List.mem_cons_self))
    exact ⟨meth, c, h1, h2, h3, h4, h5, h6⟩
  · intro p e s m args below meth c s₁ B hml hP _
    have hh0 : s₁.heap = s.heap := by rw [B.state]; rfl
    obtain ⟨t, a1, o, b1, b2, b3⟩ := body p e s m args below meth c s₁ B hml hP s₁ hh0 (Stand.of_body B)
    exact ⟨t, o, a1, b1, b2, ⟨b3.1, b3.2⟩⟩
section ZR
variable {p : Program} {l : Launch} {e : Env} {R : Room} {s : State} {m : MethodId} {args : Array Value} {below : List Frame} {meth : Method} {c : Code} {H : Heap} {locs : List Loc} {cells slots : Nat} {Q : State → Prop}
variable {cc : ByteArray} {pc : Nat} {ls : Array Slot} {rest : List Value} {D : va_G} {A : Nat → Prop} {H0 : Heap} {T : zT} {cy : Nat → ClassId} {ad : Nat → Nat} {σ : zS} {ρ : Type} {res : ρ} {nL : Nat} {Ts : List Cond} {own : String}
/-- entry -/
theorem zz_entry (hP : va_P D vwCl (zW T cy ad σ) s.heap) (hK : va_K D vwCl (ztys cy) s) (hD : va_D (fun _ => True) (zW T cy ad σ)) (hN : zN s) : zB D cy T ad (zA T ad s.heap.size) s.heap σ s.heap [] s := by
  refine ⟨hK, hP, ⟨hD.1, fun k q hk => ?_⟩, va_S.rf, fun q h => Or.inr h, hN⟩
  unfold zW at hk
  rw [List.getElem?_map] at hk
  cases hr : (List.range T.2.2)[k]? with
  | none => rw [hr] at hk; cases hk
  | some i =>
    rw [hr] at hk
    cases hk
    exact Or.inl ⟨i, List.mem_range.mp (List.mem_of_getElem? hr), rfl⟩
/-! branches -/
theorem zz_cases {c : Prop} [Decidable c] {X Y : Option ρ} (hq : (if c then X else Y) = some res) {P : Prop} (kt : c → X = some res → P) (kf : ¬ c → Y = some res → P) : P := by
  by_cases h : c
  · exact kt h (by rw [if_pos h] at hq; exact hq)
  · exact kf h (by rw [if_neg h] at hq; exact hq)
theorem zz_guard {c : Prop} [Decidable c] {X : Option ρ} (hq : zz1 c X = some res) {P : Prop} (k : c → X = some res → P) : P := by
  unfold zz1 at hq
  exact zz_cases hq k (fun _ h => nomatch h)
theorem zz_icmp_eq (hx : p.tables.exec = Jvm.exec) (hb : c.code = cc) {x y : Int32} {off : Int} {tgt : Nat} (hdg : decode cc pc = .ok (.if_icmp .eq off, 3)) (ht : (pc : Int) + off = (tgt : Int)) {X Y : Option ρ} (hq : (if x = y then X else Y) = some res)
    (kt : X = some res → W p l e R s m args below meth c H locs cells slots Q (F0 m tgt ls rest)) (kf : Y = some res → W p l e R s m args below meth c H locs cells slots Q (F0 m (pc + 3) ls rest)) : W p l e R s m args below meth c H locs cells slots Q (F0 m pc ls (.int y :: .int x :: rest)) :=
  zz_cases hq (fun h q => lv_icmp_eq hx hb hdg ht (fun _ => kt q) (fun n => absurd h n)) (fun h q => lv_icmp_eq hx hb hdg ht (fun n => absurd n h) (fun _ => kf q))
theorem zz_icmp_ne (hx : p.tables.exec = Jvm.exec) (hb : c.code = cc) {x y : Int32} {off : Int} {tgt : Nat} (hdg : decode cc pc = .ok (.if_icmp .ne off, 3)) (ht : (pc : Int) + off = (tgt : Int)) {X Y : Option ρ} (hq : (if ¬ x = y then X else Y) = some res)
    (kt : X = some res → W p l e R s m args below meth c H locs cells slots Q (F0 m tgt ls rest)) (kf : Y = some res → W p l e R s m args below meth c H locs cells slots Q (F0 m (pc + 3) ls rest)) : W p l e R s m args below meth c H locs cells slots Q (F0 m pc ls (.int y :: .int x :: rest)) :=
  zz_cases hq (fun h q => lv_icmp_ne hx hb hdg ht (fun _ => kt q) (fun n => absurd n h)) (fun h q => lv_icmp_ne hx hb hdg ht (fun n => absurd n h) (fun _ => kf q))
theorem zz_icmp_lt (hx : p.tables.exec = Jvm.exec) (hb : c.code = cc) {x y : Int32} {off : Int} {tgt : Nat} (hdg : decode cc pc = .ok (.if_icmp .lt off, 3)) (ht : (pc : Int) + off = (tgt : Int)) {X Y : Option ρ} (hq : (if x < y then X else Y) = some res)
    (kt : X = some res → W p l e R s m args below meth c H locs cells slots Q (F0 m tgt ls rest)) (kf : Y = some res → W p l e R s m args below meth c H locs cells slots Q (F0 m (pc + 3) ls rest)) : W p l e R s m args below meth c H locs cells slots Q (F0 m pc ls (.int y :: .int x :: rest)) :=
  zz_cases hq (fun h q => lv_icmp_lt hx hb hdg ht (fun _ => kt q) (fun n => absurd h n)) (fun h q => lv_icmp_lt hx hb hdg ht (fun n => absurd n h) (fun _ => kf q))
theorem zz_icmp_ge (hx : p.tables.exec = Jvm.exec) (hb : c.code = cc) {x y : Int32} {off : Int} {tgt : Nat} (hdg : decode cc pc = .ok (.if_icmp .ge off, 3)) (ht : (pc : Int) + off = (tgt : Int)) {X Y : Option ρ} (hq : (if y ≤ x then X else Y) = some res)
    (kt : X = some res → W p l e R s m args below meth c H locs cells slots Q (F0 m tgt ls rest)) (kf : Y = some res → W p l e R s m args below meth c H locs cells slots Q (F0 m (pc + 3) ls rest)) : W p l e R s m args below meth c H locs cells slots Q (F0 m pc ls (.int y :: .int x :: rest)) :=
  zz_cases hq (fun h q => lv_icmp_ge hx hb hdg ht (fun _ => kt q) (fun n => absurd h n)) (fun h q => lv_icmp_ge hx hb hdg ht (fun n => absurd n h) (fun _ => kf q))
theorem zz_icmp_gt (hx : p.tables.exec = Jvm.exec) (hb : c.code = cc) {x y : Int32} {off : Int} {tgt : Nat} (hdg : decode cc pc = .ok (.if_icmp .gt off, 3)) (ht : (pc : Int) + off = (tgt : Int)) {X Y : Option ρ} (hq : (if y < x then X else Y) = some res)
    (kt : X = some res → W p l e R s m args below meth c H locs cells slots Q (F0 m tgt ls rest)) (kf : Y = some res → W p l e R s m args below meth c H locs cells slots Q (F0 m (pc + 3) ls rest)) : W p l e R s m args below meth c H locs cells slots Q (F0 m pc ls (.int y :: .int x :: rest)) :=
  zz_cases hq (fun h q => lv_icmp_gt hx hb hdg ht (fun _ => kt q) (fun n => absurd h n)) (fun h q => lv_icmp_gt hx hb hdg ht (fun n => absurd n h) (fun _ => kf q))
theorem zz_icmp_le (hx : p.tables.exec = Jvm.exec) (hb : c.code = cc) {x y : Int32} {off : Int} {tgt : Nat} (hdg : decode cc pc = .ok (.if_icmp .le off, 3)) (ht : (pc : Int) + off = (tgt : Int)) {X Y : Option ρ} (hq : (if x ≤ y then X else Y) = some res)
    (kt : X = some res → W p l e R s m args below meth c H locs cells slots Q (F0 m tgt ls rest)) (kf : Y = some res → W p l e R s m args below meth c H locs cells slots Q (F0 m (pc + 3) ls rest)) : W p l e R s m args below meth c H locs cells slots Q (F0 m pc ls (.int y :: .int x :: rest)) :=
  zz_cases hq (fun h q => lv_icmp_le hx hb hdg ht (fun _ => kt q) (fun n => absurd h n)) (fun h q => lv_icmp_le hx hb hdg ht (fun n => absurd n h) (fun _ => kf q))
theorem zz_if_eq (hx : p.tables.exec = Jvm.exec) (hb : c.code = cc) {x : Int32} {off : Int} {tgt : Nat} (hdg : decode cc pc = .ok (.ifCond .eq off, 3)) (ht : (pc : Int) + off = (tgt : Int)) {X Y : Option ρ} (hq : (if x = 0 then X else Y) = some res)
    (kt : X = some res → W p l e R s m args below meth c H locs cells slots Q (F0 m tgt ls rest)) (kf : Y = some res → W p l e R s m args below meth c H locs cells slots Q (F0 m (pc + 3) ls rest)) : W p l e R s m args below meth c H locs cells slots Q (F0 m pc ls (.int x :: rest)) :=
  zz_cases hq (fun h q => lv_if_eq hx hb hdg ht (fun _ => kt q) (fun n => absurd h n)) (fun h q => lv_if_eq hx hb hdg ht (fun n => absurd n h) (fun _ => kf q))
theorem zz_if_ne (hx : p.tables.exec = Jvm.exec) (hb : c.code = cc) {x : Int32} {off : Int} {tgt : Nat} (hdg : decode cc pc = .ok (.ifCond .ne off, 3)) (ht : (pc : Int) + off = (tgt : Int)) {X Y : Option ρ} (hq : (if ¬ x = 0 then X else Y) = some res)
    (kt : X = some res → W p l e R s m args below meth c H locs cells slots Q (F0 m tgt ls rest)) (kf : Y = some res → W p l e R s m args below meth c H locs cells slots Q (F0 m (pc + 3) ls rest)) : W p l e R s m args below meth c H locs cells slots Q (F0 m pc ls (.int x :: rest)) :=
  zz_cases hq (fun h q => lv_if_ne hx hb hdg ht (fun _ => kt q) (fun n => absurd n h)) (fun h q => lv_if_ne hx hb hdg ht (fun n => absurd n h) (fun _ => kf q))
theorem zz_if_lt (hx : p.tables.exec = Jvm.exec) (hb : c.code = cc) {x : Int32} {off : Int} {tgt : Nat} (hdg : decode cc pc = .ok (.ifCond .lt off, 3)) (ht : (pc : Int) + off = (tgt : Int)) {X Y : Option ρ} (hq : (if x < 0 then X else Y) = some res)
    (kt : X = some res → W p l e R s m args below meth c H locs cells slots Q (F0 m tgt ls rest)) (kf : Y = some res → W p l e R s m args below meth c H locs cells slots Q (F0 m (pc + 3) ls rest)) : W p l e R s m args below meth c H locs cells slots Q (F0 m pc ls (.int x :: rest)) :=
  zz_cases hq (fun h q => lv_if_lt hx hb hdg ht (fun _ => kt q) (fun n => absurd h n)) (fun h q => lv_if_lt hx hb hdg ht (fun n => absurd n h) (fun _ => kf q))
theorem zz_if_ge (hx : p.tables.exec = Jvm.exec) (hb : c.code = cc) {x : Int32} {off : Int} {tgt : Nat} (hdg : decode cc pc = .ok (.ifCond .ge off, 3)) (ht : (pc : Int) + off = (tgt : Int)) {X Y : Option ρ} (hq : (if 0 ≤ x then X else Y) = some res)
    (kt : X = some res → W p l e R s m args below meth c H locs cells slots Q (F0 m tgt ls rest)) (kf : Y = some res → W p l e R s m args below meth c H locs cells slots Q (F0 m (pc + 3) ls rest)) : W p l e R s m args below meth c H locs cells slots Q (F0 m pc ls (.int x :: rest)) :=
  zz_cases hq (fun h q => lv_if_ge hx hb hdg ht (fun _ => kt q) (fun n => absurd h n)) (fun h q => lv_if_ge hx hb hdg ht (fun n => absurd n h) (fun _ => kf q))
theorem zz_if_gt (hx : p.tables.exec = Jvm.exec) (hb : c.code = cc) {x : Int32} {off : Int} {tgt : Nat} (hdg : decode cc pc = .ok (.ifCond .gt off, 3)) (ht : (pc : Int) + off = (tgt : Int)) {X Y : Option ρ} (hq : (if 0 < x then X else Y) = some res)
    (kt : X = some res → W p l e R s m args below meth c H locs cells slots Q (F0 m tgt ls rest)) (kf : Y = some res → W p l e R s m args below meth c H locs cells slots Q (F0 m (pc + 3) ls rest)) : W p l e R s m args below meth c H locs cells slots Q (F0 m pc ls (.int x :: rest)) :=
  zz_cases hq (fun h q => lv_if_gt hx hb hdg ht (fun _ => kt q) (fun n => absurd h n)) (fun h q => lv_if_gt hx hb hdg ht (fun n => absurd n h) (fun _ => kf q))
theorem zz_if_le (hx : p.tables.exec = Jvm.exec) (hb : c.code = cc) {x : Int32} {off : Int} {tgt : Nat} (hdg : decode cc pc = .ok (.ifCond .le off, 3)) (ht : (pc : Int) + off = (tgt : Int)) {X Y : Option ρ} (hq : (if x ≤ 0 then X else Y) = some res)
    (kt : X = some res → W p l e R s m args below meth c H locs cells slots Q (F0 m tgt ls rest)) (kf : Y = some res → W p l e R s m args below meth c H locs cells slots Q (F0 m (pc + 3) ls rest)) : W p l e R s m args below meth c H locs cells slots Q (F0 m pc ls (.int x :: rest)) :=
  zz_cases hq (fun h q => lv_if_le hx hb hdg ht (fun _ => kt q) (fun n => absurd h n)) (fun h q => lv_if_le hx hb hdg ht (fun n => absurd n h) (fun _ => kf q))
theorem zz_nmI {x : Int32} {K : Int32 → Option ρ} (hq : zn x K = some res) (kk : ∀ y : Int32, K y = some res → W p l e R s m args below meth c H locs cells slots Q (F0 m pc ls (.int y :: rest))) : W p l e R s m args below meth c H locs cells slots Q (F0 m pc ls (.int x :: rest)) := kk x hq
theorem zz_nmJ {x : Int64} {K : Int64 → Option ρ} (hq : zn x K = some res) (kk : ∀ y : Int64, K y = some res → W p l e R s m args below meth c H locs cells slots Q (F0 m pc ls (.long y :: rest))) : W p l e R s m args below meth c H locs cells slots Q (F0 m pc ls (.long x :: rest)) := kk x hq
/-! fields -/
theorem zz_get (S : CallFix p m c cc nL s args Ts own) (hT : zok T) (hB : zB D cy T ad A H0 σ H locs s) {C ref : String} {F : u_T} {N a index : Nat} (ci k : Nat) (hin : ∀ w ∈ u_ws C F N, w ∈ Ts) (hc : vwCl[ci]? = some (C, F, N)) (hk : k < N) (h13 : ci < 13) (hN : zsz ci = N) (hz : zref ci k = false)
    (hlink : Cond.fieldLink own index ref (F k).2.1 (F k).2.2.1 ∈ Ts) (hsame : ∀ x, s.fieldFound? (F k).1 (F k).2.1 (F k).2.2.1 = some x → s.fieldFound? ref (F k).2.1 (F k).2.2.1 = some x) (hdg : decode cc pc = .ok (.getfield index, 3)) {K : Int32 → Option ρ} (hq : (gI T σ a ci k).bind K = some res)
    (kk : ∀ x : Int32, K x = some res → W p l e R s m args below meth c H locs cells slots Q (F0 m (pc + 3) ls (.int x :: rest))) : W p l e R s m args below meth c H locs cells slots Q (F0 m pc ls (.ref (ad a) :: rest)) := by
  obtain ⟨hx, hb, hml, hown, hts⟩ := S
  obtain ⟨hK, hP, hD, hS, hA⟩ := hB
  unfold gI at hq
  by_cases h : T.1 a = ci
  · rw [if_pos h] at hq
    have ha : a < T.2.2 := hT a (by omega)
    refine va_get (D := D) (ci := ci) (v := .int (σ.1 a k)) (C := C) (T := F) (N := N) hx hb hts hin hown hK hP a ((zW_at ha).trans (by rw [zcell_obj h h13])) hc k hk (hts _ hlink) hsame ?_ hdg (kk _ hq)
    rw [zget_list (by omega), zval_i hz]
  · rw [if_neg h] at hq
    exact zz_none hq
theorem zz_getR (S : CallFix p m c cc nL s args Ts own) (hT : zok T) (hB : zB D cy T ad A H0 σ H locs s) {C ref : String} {F : u_T} {N a index : Nat} (ci k : Nat) (hin : ∀ w ∈ u_ws C F N, w ∈ Ts) (hc : vwCl[ci]? = some (C, F, N)) (hk : k < N) (h13 : ci < 13) (hN : zsz ci = N) (hz : zref ci k = true)
    (hlink : Cond.fieldLink own index ref (F k).2.1 (F k).2.2.1 ∈ Ts) (hsame : ∀ x, s.fieldFound? (F k).1 (F k).2.1 (F k).2.2.1 = some x → s.fieldFound? ref (F k).2.1 (F k).2.2.1 = some x) (hdg : decode cc pc = .ok (.getfield index, 3)) {K : Nat → Option ρ} (hq : (gR T σ a ci k).bind K = some res)
    (kk : ∀ x : Nat, K x = some res → W p l e R s m args below meth c H locs cells slots Q (F0 m (pc + 3) ls (.ref (ad x) :: rest))) : W p l e R s m args below meth c H locs cells slots Q (F0 m pc ls (.ref (ad a) :: rest)) := by
  obtain ⟨hx, hb, hml, hown, hts⟩ := S
  obtain ⟨hK, hP, hD, hS, hA⟩ := hB
  unfold gR at hq
  by_cases h : T.1 a = ci
  · rw [if_pos h] at hq
    have ha : a < T.2.2 := hT a (by omega)
    cases hv : σ.2 a k with
    | none => rw [hv] at hq; exact zz_none hq
    | some v =>
      rw [hv] at hq
      refine va_get (D := D) (ci := ci) (v := .ref (ad v)) (C := C) (T := F) (N := N) hx hb hts hin hown hK hP a ((zW_at ha).trans (by rw [zcell_obj h h13])) hc k hk (hts _ hlink) hsame ?_ hdg (kk _ hq)
      rw [zget_list (by omega), zval_r hz hv]
  · rw [if_neg h] at hq
    exact zz_none hq
theorem zz_putA (S : CallFix p m c cc nL s args Ts own) (hT : zok T) (hB : zB D cy T ad A H0 σ H locs s) {C ref : String} {F : u_T} {N a index : Nat} (ci k : Nat) (hin : ∀ w ∈ u_ws C F N, w ∈ Ts) (ty0 : Nat → FieldType) (hty : ∀ k, k < N → parseFieldDescriptor (F k).2.2.1 = some (ty0 k)) (hnm : ∀ a, a < N → ∀ b, b < N → a ≠ b → (F a).2.1 ≠ (F b).2.1) (hc : vwCl[ci]? = some (C, F, N)) (hk : k < N) (h13 : ci < 13) (hN : zsz ci = N) (hz : zref ci k = false)
    (hlink : Cond.fieldLink own index ref (F k).2.1 (F k).2.2.1 ∈ Ts) (hsame : ∀ x, s.fieldFound? (F k).1 (F k).2.1 (F k).2.2.1 = some x → s.fieldFound? ref (F k).2.1 (F k).2.2.1 = some x) (hfin : (F k).2.2.2 = false) {x : Int32} {ty : FieldType} (hd : parseFieldDescriptor (F k).2.2.1 = some ty) (hn : narrow ty (.int x) = .int x) (hfit : fits ty (.int x) = true) (hdg : decode cc pc = .ok (.putfield index, 3)) (h : T.1 a = ci)
    (kk : ∀ (H1 : Heap) (locs1 : List Loc), zB D cy T ad A H0 (zu σ.1 a k x, σ.2) H1 locs1 s → W p l e R s m args below meth c H1 locs1 cells slots Q (F0 m (pc + 3) ls rest)) : W p l e R s m args below meth c H locs cells slots Q (F0 m pc ls (.int x :: .ref (ad a) :: rest)) := by
  obtain ⟨hx, hb, hml, hown, hts⟩ := S
  obtain ⟨hK, hP, hD, hS, hA⟩ := hB
  have ha : a < T.2.2 := hT a (by omega)
  refine va_put (D := D) (ci := ci) (v := .int x) (ty := ty) (C := C) (T := F) (N := N) hx hb hts hin ty0 hty hnm hown hK hP hD hS a ((zW_at ha).trans (by rw [zcell_obj h h13])) hc k hk (hts _ hlink) hsame hfin hd hn hfit (by simpa using (by omega : k < zsz ci)) hdg (fun H1 locs1 hP1 hD1 hS1 => ?_)
  have e : (zW T cy ad σ).set a (ad a, .inr (ci, ((List.range (zsz ci)).map (zval ad σ a ci)).set k (.int x))) = zW T cy ad (zu σ.1 a k x, σ.2) := zW_set ha (by rw [zcell_obj h h13, zset_list hz]) zcell_oI
  rw [e] at hP1 hD1
  exact kk H1 locs1 ⟨hK, hP1, hD1, hS1, hA⟩
theorem zz_put (S : CallFix p m c cc nL s args Ts own) (hT : zok T) (hB : zB D cy T ad A H0 σ H locs s) {C ref : String} {F : u_T} {N a index : Nat} (ci k : Nat) (hin : ∀ w ∈ u_ws C F N, w ∈ Ts) (ty0 : Nat → FieldType) (hty : ∀ k, k < N → parseFieldDescriptor (F k).2.2.1 = some (ty0 k)) (hnm : ∀ a, a < N → ∀ b, b < N → a ≠ b → (F a).2.1 ≠ (F b).2.1) (hc : vwCl[ci]? = some (C, F, N)) (hk : k < N) (h13 : ci < 13) (hN : zsz ci = N) (hz : zref ci k = false)
    (hlink : Cond.fieldLink own index ref (F k).2.1 (F k).2.2.1 ∈ Ts) (hsame : ∀ x, s.fieldFound? (F k).1 (F k).2.1 (F k).2.2.1 = some x → s.fieldFound? ref (F k).2.1 (F k).2.2.1 = some x) (hfin : (F k).2.2.2 = false) {x : Int32} (hd : parseFieldDescriptor (F k).2.2.1 = some .int) (hdg : decode cc pc = .ok (.putfield index, 3)) {K : zS → Option ρ} (hq : (pI T σ a ci k x).bind K = some res)
    (kk : ∀ (σ' : zS) (H1 : Heap) (locs1 : List Loc), K σ' = some res → zB D cy T ad A H0 σ' H1 locs1 s → W p l e R s m args below meth c H1 locs1 cells slots Q (F0 m (pc + 3) ls rest)) : W p l e R s m args below meth c H locs cells slots Q (F0 m pc ls (.int x :: .ref (ad a) :: rest)) := by
  unfold pI at hq
  by_cases h : T.1 a = ci
  · rw [if_pos h] at hq
    exact zz_putA S hT hB ci k hin ty0 hty hnm hc hk h13 hN hz hlink hsame hfin hd rfl rfl hdg h (fun H1 locs1 hB1 => kk _ H1 locs1 hq hB1)
  · rw [if_neg h] at hq
    exact zz_none hq
theorem zz_putZ (S : CallFix p m c cc nL s args Ts own) (hT : zok T) (hB : zB D cy T ad A H0 σ H locs s) {C ref : String} {F : u_T} {N a index : Nat} (ci k : Nat) (hin : ∀ w ∈ u_ws C F N, w ∈ Ts) (ty0 : Nat → FieldType) (hty : ∀ k, k < N → parseFieldDescriptor (F k).2.2.1 = some (ty0 k)) (hnm : ∀ a, a < N → ∀ b, b < N → a ≠ b → (F a).2.1 ≠ (F b).2.1) (hc : vwCl[ci]? = some (C, F, N)) (hk : k < N) (h13 : ci < 13) (hN : zsz ci = N) (hz : zref ci k = false)
    (hlink : Cond.fieldLink own index ref (F k).2.1 (F k).2.2.1 ∈ Ts) (hsame : ∀ x, s.fieldFound? (F k).1 (F k).2.1 (F k).2.2.1 = some x → s.fieldFound? ref (F k).2.1 (F k).2.2.1 = some x) (hfin : (F k).2.2.2 = false) {x : Int32} (hd : parseFieldDescriptor (F k).2.2.1 = some .boolean) (hdg : decode cc pc = .ok (.putfield index, 3)) {K : zS → Option ρ} (hq : (pZ T σ a ci k x).bind K = some res)
    (kk : ∀ (σ' : zS) (H1 : Heap) (locs1 : List Loc), K σ' = some res → zB D cy T ad A H0 σ' H1 locs1 s → W p l e R s m args below meth c H1 locs1 cells slots Q (F0 m (pc + 3) ls rest)) : W p l e R s m args below meth c H locs cells slots Q (F0 m pc ls (.int x :: .ref (ad a) :: rest)) := by
  unfold pZ at hq
  by_cases h : T.1 a = ci ∧ (x = 0 ∨ x = 1)
  · rw [if_pos h] at hq
    exact zz_putA S hT hB ci k hin ty0 hty hnm hc hk h13 hN hz hlink hsame hfin hd (by rcases h.2 with rfl | rfl <;> rfl) (by rcases h.2 with rfl | rfl <;> rfl) hdg h.1 (fun H1 locs1 hB1 => kk _ H1 locs1 hq hB1)
  · rw [if_neg h] at hq
    exact zz_none hq
/-! arrays -/
theorem zz_alen (S : CallFix p m c cc nL s args Ts own) (hT : zok T) (hB : zB D cy T ad A H0 σ H locs s) {a : Nat} (k : Nat) (h1 : ¬ k < 13) (h2 : k < 18) (hdg : decode cc pc = .ok (.arraylength, 1)) {K : Int32 → Option ρ} (hq : (aL T a k).bind K = some res)
    (kk : ∀ x : Int32, K x = some res → W p l e R s m args below meth c H locs cells slots Q (F0 m (pc + 1) ls (.int x :: rest))) : W p l e R s m args below meth c H locs cells slots Q (F0 m pc ls (.ref (ad a) :: rest)) := by
  obtain ⟨hx, hb, hml, hown, hts⟩ := S
  obtain ⟨hK, hP, hD, hS, hA⟩ := hB
  unfold aL at hq
  by_cases h : T.1 a = k
  · rw [if_pos h] at hq
    have ha : a < T.2.2 := hT a (by omega)
    by_cases h3 : k < 15
    · have hcell := (zW_at (cy := cy) (ad := ad) (σ := σ) ha).trans (by rw [zcell_i h h1 h3])
      have hkk : k = 13 ∨ k = 14 := by omega
      rcases hkk with rfl | rfl
      · exact va_alen hx hb hK hP a 0 hcell (ty := .int) rfl rfl hdg (kk _ hq)
      · exact va_alen hx hb hK hP a 1 hcell (ty := .boolean) rfl rfl hdg (kk _ hq)
    · have hcell := (zW_at (cy := cy) (ad := ad) (σ := σ) ha).trans (by rw [zcell_r h h1 h3])
      have hkk : k = 15 ∨ k = 16 ∨ k = 17 := by omega
      rcases hkk with rfl | rfl | rfl
      · exact va_alen hx hb hK hP a 2 hcell (ty := .object RX0) rfl rfl hdg (kk _ hq)
      · exact va_alen hx hb hK hP a 3 hcell (ty := .object RX2) rfl rfl hdg (kk _ hq)
      · exact va_alen hx hb hK hP a 4 hcell (ty := .object RX6) rfl rfl hdg (kk _ hq)
  · rw [if_neg h] at hq
    exact zz_none hq
theorem zz_ald (S : CallFix p m c cc nL s args Ts own) (hT : zok T) (hB : zB D cy T ad A H0 σ H locs s) {a : Nat} {i : Int32} (hdg : decode cc pc = .ok (.iaload, 1)) {K : Int32 → Option ρ} (hq : (aI T σ a 13 i).bind K = some res)
    (kk : ∀ x : Int32, K x = some res → W p l e R s m args below meth c H locs cells slots Q (F0 m (pc + 1) ls (.int x :: rest))) : W p l e R s m args below meth c H locs cells slots Q (F0 m pc ls (.int i :: .ref (ad a) :: rest)) := by
  obtain ⟨hx, hb, hml, hown, hts⟩ := S
  obtain ⟨hK, hP, hD, hS, hA⟩ := hB
  unfold aI at hq
  by_cases h : T.1 a = 13 ∧ ¬ (i < 0 ∨ T.2.1 a ≤ i.toNatClampNeg)
  · rw [if_pos h] at hq
    have ha : a < T.2.2 := hT a (by omega)
    exact va_iald hx hb hK hP a 0 ((zW_at ha).trans (by rw [zcell_i h.1 (by decide) (by decide)])) rfl h.2 hdg (kk _ hq)
  · rw [if_neg h] at hq
    exact zz_none hq
theorem zz_aldZ (S : CallFix p m c cc nL s args Ts own) (hT : zok T) (hB : zB D cy T ad A H0 σ H locs s) {a : Nat} {i : Int32} (hdg : decode cc pc = .ok (.baload, 1)) {K : Int32 → Option ρ} (hq : (aI T σ a 14 i).bind K = some res)
    (kk : ∀ x : Int32, K x = some res → W p l e R s m args below meth c H locs cells slots Q (F0 m (pc + 1) ls (.int x :: rest))) : W p l e R s m args below meth c H locs cells slots Q (F0 m pc ls (.int i :: .ref (ad a) :: rest)) := by
  obtain ⟨hx, hb, hml, hown, hts⟩ := S
  obtain ⟨hK, hP, hD, hS, hA⟩ := hB
  unfold aI at hq
  by_cases h : T.1 a = 14 ∧ ¬ (i < 0 ∨ T.2.1 a ≤ i.toNatClampNeg)
  · rw [if_pos h] at hq
    have ha : a < T.2.2 := hT a (by omega)
    exact va_zald hx hb hK hP a 1 ((zW_at ha).trans (by rw [zcell_i h.1 (by decide) (by decide)])) rfl h.2 hdg (kk _ hq)
  · rw [if_neg h] at hq
    exact zz_none hq
theorem zz_aldR (S : CallFix p m c cc nL s args Ts own) (hT : zok T) (hB : zB D cy T ad A H0 σ H locs s) {a : Nat} (k : Nat) (t0 : Nat) {C : String} (ht : (ztys cy)[t0]? = some (cy k, .object C)) (h1 : ¬ k < 15) (h2 : k < 18) {i : Int32} (hdg : decode cc pc = .ok (.aaload, 1)) {K : Nat → Option ρ} (hq : (aR T σ a k i).bind K = some res)
    (kk : ∀ x : Nat, K x = some res → W p l e R s m args below meth c H locs cells slots Q (F0 m (pc + 1) ls (.ref (ad x) :: rest))) : W p l e R s m args below meth c H locs cells slots Q (F0 m pc ls (.int i :: .ref (ad a) :: rest)) := by
  obtain ⟨hx, hb, hml, hown, hts⟩ := S
  obtain ⟨hK, hP, hD, hS, hA⟩ := hB
  unfold aR at hq
  by_cases h : T.1 a = k ∧ ¬ (i < 0 ∨ T.2.1 a ≤ i.toNatClampNeg)
  · rw [if_pos h] at hq
    have ha : a < T.2.2 := hT a (by omega)
    have hcell := (zW_at (cy := cy) (ad := ad) (σ := σ) ha).trans (by rw [zcell_r h.1 (by omega) h1])
    cases hv : σ.2 a i.toNatClampNeg with
    | none => rw [hv] at hq; exact zz_none hq
    | some v =>
      rw [hv] at hq
      refine va_aldq hx hb hK hP a t0 hcell ht h.2 hdg ?_
      rw [hv]
      exact kk _ hq
  · rw [if_neg h] at hq
    exact zz_none hq
theorem zz_ast (S : CallFix p m c cc nL s args Ts own) (hT : zok T) (hB : zB D cy T ad A H0 σ H locs s) {a : Nat} {i x : Int32} (hdg : decode cc pc = .ok (.iastore, 1)) {K : zS → Option ρ} (hq : (sI T σ a i x).bind K = some res)
    (kk : ∀ (σ' : zS) (H1 : Heap) (locs1 : List Loc), K σ' = some res → zB D cy T ad A H0 σ' H1 locs1 s → W p l e R s m args below meth c H1 locs1 cells slots Q (F0 m (pc + 1) ls rest)) : W p l e R s m args below meth c H locs cells slots Q (F0 m pc ls (.int x :: .int i :: .ref (ad a) :: rest)) := by
  obtain ⟨hx, hb, hml, hown, hts⟩ := S
  obtain ⟨hK, hP, hD, hS, hA⟩ := hB
  unfold sI at hq
  by_cases h : T.1 a = 13 ∧ ¬ (i < 0 ∨ T.2.1 a ≤ i.toNatClampNeg)
  · rw [if_pos h] at hq
    have ha : a < T.2.2 := hT a (by omega)
    refine va_iast hx hb hK hP hD hS a 0 ((zW_at ha).trans (by rw [zcell_i h.1 (by decide) (by decide)])) rfl h.2 hdg (fun H1 locs1 hP1 hD1 hS1 => ?_)
    have e : (zW T cy ad σ).set a (ad a, .inl (cy 13, T.2.1 a, .inl (upd (σ.1 a) i.toNatClampNeg x))) = zW T cy ad (zu σ.1 a i.toNatClampNeg x, σ.2) := zW_set ha (by rw [zcell_i h.1 (by decide) (by decide)]; simp [zu]) zcell_oI
    rw [e] at hP1 hD1
    exact kk _ H1 locs1 hq ⟨hK, hP1, hD1, hS1, hA⟩
  · rw [if_neg h] at hq
    exact zz_none hq
theorem zz_astZ (S : CallFix p m c cc nL s args Ts own) (hT : zok T) (hB : zB D cy T ad A H0 σ H locs s) {a : Nat} {i x : Int32} (hdg : decode cc pc = .ok (.bastore, 1)) {K : zS → Option ρ} (hq : (sZ T σ a i x).bind K = some res)
    (kk : ∀ (σ' : zS) (H1 : Heap) (locs1 : List Loc), K σ' = some res → zB D cy T ad A H0 σ' H1 locs1 s → W p l e R s m args below meth c H1 locs1 cells slots Q (F0 m (pc + 1) ls rest)) : W p l e R s m args below meth c H locs cells slots Q (F0 m pc ls (.int x :: .int i :: .ref (ad a) :: rest)) := by
  obtain ⟨hx, hb, hml, hown, hts⟩ := S
  obtain ⟨hK, hP, hD, hS, hA⟩ := hB
  unfold sZ at hq
  by_cases h : T.1 a = 14 ∧ ¬ (i < 0 ∨ T.2.1 a ≤ i.toNatClampNeg) ∧ (x = 0 ∨ x = 1)
  · rw [if_pos h] at hq
    have ha : a < T.2.2 := hT a (by omega)
    have hx1 : vp_nar .boolean x = x := by rcases h.2.2 with rfl | rfl <;> rfl
    refine va_zast hx hb hK hP hD hS a 1 ((zW_at ha).trans (by rw [zcell_i h.1 (by decide) (by decide)])) rfl h.2.1 hdg (fun H1 locs1 hP1 hD1 hS1 => ?_)
    rw [hx1] at hP1 hD1
    have e : (zW T cy ad σ).set a (ad a, .inl (cy 14, T.2.1 a, .inl (upd (σ.1 a) i.toNatClampNeg x))) = zW T cy ad (zu σ.1 a i.toNatClampNeg x, σ.2) := zW_set ha (by rw [zcell_i h.1 (by decide) (by decide)]; simp [zu]) zcell_oI
    rw [e] at hP1 hD1
    exact kk _ H1 locs1 hq ⟨hK, hP1, hD1, hS1, hA⟩
  · rw [if_neg h] at hq
    exact zz_none hq
theorem zz_astR (S : CallFix p m c cc nL s args Ts own) (hT : zok T) (hB : zB D cy T ad A H0 σ H locs s) {a v : Nat} (k kv : Nat) (t0 : Nat) {r : vw_C} (ht : (ztys cy)[t0]? = some (cy k, .object r.1)) (hc : vwCl[kv]? = some r) (hkv : kv < 13) (h1 : ¬ k < 15) (h2 : k < 18) {i : Int32} (hdg : decode cc pc = .ok (.aastore, 1)) {K : zS → Option ρ} (hq : (sR T σ a k kv i v).bind K = some res)
    (kk : ∀ (σ' : zS) (H1 : Heap) (locs1 : List Loc), K σ' = some res → zB D cy T ad A H0 σ' H1 locs1 s → W p l e R s m args below meth c H1 locs1 cells slots Q (F0 m (pc + 1) ls rest)) : W p l e R s m args below meth c H locs cells slots Q (F0 m pc ls (.ref (ad v) :: .int i :: .ref (ad a) :: rest)) := by
  obtain ⟨hx, hb, hml, hown, hts⟩ := S
  obtain ⟨hK, hP, hD, hS, hA⟩ := hB
  unfold sR at hq
  by_cases h : T.1 a = k ∧ T.1 v = kv ∧ ¬ (i < 0 ∨ T.2.1 a ≤ i.toNatClampNeg)
  · rw [if_pos h] at hq
    have ha : a < T.2.2 := hT a (by omega)
    have hv : v < T.2.2 := hT v (by omega)
    refine va_astq hx hb hK hP hD hS a t0 v kv ((zW_at ha).trans (by rw [zcell_r h.1 (by omega) h1])) ht ((zW_at hv).trans (by rw [zcell_obj h.2.1 hkv])) hc h.2.2 hdg (fun H1 locs1 hP1 hD1 hS1 => ?_)
    have e : (zW T cy ad σ).set a (ad a, .inl (cy k, T.2.1 a, .inr (.inr (.inr (.inr (va_up (fun j => (σ.2 a j).map ad) i.toNatClampNeg (some (ad v)))))))) = zW T cy ad (σ.1, zur σ.2 a i.toNatClampNeg (some v)) := zW_set ha (by
      rw [zcell_r h.1 (by omega) h1]
      have : (fun j => (zur σ.2 a i.toNatClampNeg (some v) a j).map ad) = va_up (fun j => (σ.2 a j).map ad) i.toNatClampNeg (some (ad v)) := by
        funext j
        simp only [zur, if_true, va_up]
        by_cases hj : j = i.toNatClampNeg
        · rw [if_pos hj, if_pos hj]; rfl
        · rw [if_neg hj, if_neg hj]
      dsimp only
      rw [this]) zcell_oR
    rw [e] at hP1 hD1
    exact kk _ H1 locs1 hq ⟨hK, hP1, hD1, hS1, hA⟩
  · rw [if_neg h] at hq
    exact zz_none hq
end ZR
