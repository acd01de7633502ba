/-! A world of one object graph, held by a memory: σ.1 cell place = int, σ.2 cell place = cell that a reference leads to; cells have numbers, 'ad' gives their addresses. T: kind of each cell, length of each array, how many cells. -/
abbrev zT : Type := (Nat → Nat) × (Nat → Nat) × Nat
abbrev zS : Type := (Nat → Nat → Int32) × (Nat → Nat → Option Nat)
def zsz (k : Nat) : Nat := match k with
  | 0 => 5 | 1 => 2 | 2 => 4 | 3 => 2 | 4 => 5 | 5 => 2 | 6 => 8 | 7 => 3 | 8 => 3 | 9 => 7 | 10 => 3 | 11 => 5 | _ => 24
def zref (k j : Nat) : Bool := match k, j with
  | 1, 0 => true | 2, _ => true | 3, _ => true | 4, 0 => true | 4, 1 => true | 5, 0 => true | 7, 0 => true | 9, 0 => true | 9, 1 => true | 10, 0 => true | 10, 1 => true | 11, _ => true
  | 12, 0 => true | 12, 1 => true | 12, 3 => true | 12, 4 => true | 12, 6 => true | 12, 7 => true | 12, 8 => true | 12, 9 => true | 12, 10 => true | 12, 12 => true | 12, 13 => true | 12, 16 => true | 12, 17 => true | 12, 22 => true | 12, 23 => true
  | _, _ => false
def zval (ad : Nat → Nat) (σ : zS) (c k j : Nat) : Value := if zref k j = true then va_rf ((σ.2 c j).map ad) else .int (σ.1 c j)
def zcell (T : zT) (cy : Nat → ClassId) (ad : Nat → Nat) (σ : zS) (c : Nat) : va_E :=
  if T.1 c < 13 then .inr (T.1 c, (List.range (zsz (T.1 c))).map (zval ad σ c (T.1 c)))
  else if T.1 c < 15 then .inl (cy (T.1 c), T.2.1 c, .inl (σ.1 c))
  else .inl (cy (T.1 c), T.2.1 c, .inr (.inr (.inr (.inr (fun j => (σ.2 c j).map ad)))))
def zW (T : zT) (cy : Nat → ClassId) (ad : Nat → Nat) (σ : zS) : va_W := (List.range T.2.2).map (fun c => (ad c, zcell T cy ad σ c))
def ztys (cy : Nat → ClassId) : List (ClassId × FieldType) := [(cy 13, .int), (cy 14, .boolean), (cy 15, .object RX0), (cy 16, .object RX2), (cy 17, .object RX6)]
def zA (T : zT) (ad : Nat → Nat) (sz : Nat) : Nat → Prop := fun q => (∃ c, c < T.2.2 ∧ q = ad c) ∨ sz ≤ q
def zok (T : zT) : Prop := ∀ c, T.1 c < 18 → c < T.2.2
/-- links to private members of nest mates -/
def zNl : List (String × Nat × MethodName × String) := [(RX11, 9, yX2_init, "DiagramDesk"), (RX7, 17, yX6_init, "DiagramDesk"), (RX1, 17, yX0_init, "DiagramDesk"), (RX2, 27, yX3_init, "DiagramDesk"), (RX2, 34, yX4_init, "DiagramDesk"), (RX5, 17, yX2_init, "DiagramDesk"), (RX9, 21, yX6_init, "DiagramDesk"), (RX11, 32, yX10_init, "DiagramDesk"), (RX11, 39, yX8_init, "DiagramDesk"), (RX6, 56, yX11_isWithin, "DiagramDesk"), (RX10, 37, yX11_hasBit, "DiagramDesk"), (RX2, 92, yX11_hasBit, "DiagramDesk"), (RX7, 74, yX11_hasBit, "DiagramDesk"), (RX7, 103, yX11_isCoordinate, "DiagramDesk"), (RX1, 53, yX11_hasBit, "DiagramDesk"), (RX8, 62, yX11_hasBit, "DiagramDesk"), (RX9, 59, yX11_isWithin, "DiagramDesk"), (RX9, 66, yX11_isCoordinate, "DiagramDesk"), (RX9, 70, yX11_isSize, "DiagramDesk")]
def zN (U : State) : Prop := (∀ q ∈ zNl, va_Nw (.methodLinkNest q.1 q.2.1 q.2.2.1 q.2.2.2) U) ∧ va_AO RX0 U ∧ va_AO RX2 U ∧ va_AO RX6 U
theorem zN_at {U : State} (h : zN U) {a b y n} (i : Nat) (hi : zNl[i]? = some (a, b, y, n)) : va_Nw (.methodLinkNest a b y n) U := h.1 (a, b, y, n) (List.mem_of_getElem? hi)
theorem zN_warm {s U : State} (hW : s.WarmedH U.vm) (h : zN s) : zN U := ⟨fun x hx => va_Nw.warmM hW (h.1 x hx), va_AO.moved hW.alike h.2.1, va_AO.moved hW.alike h.2.2.1, va_AO.moved hW.alike h.2.2.2⟩
theorem zN_same {u U : State} (e : u.vm = U.vm) (hvm : u.vm.Alike U.vm) (h : zN u) : zN U := ⟨fun x hx => va_Nw.same rfl e (h.1 x hx), va_AO.moved hvm h.2.1, va_AO.moved hvm h.2.2.1, va_AO.moved hvm h.2.2.2⟩
def zB (D : va_G) (cy : Nat → ClassId) (T : zT) (ad : Nat → Nat) (A : Nat → Prop) (H0 : Heap) (σ : zS) (H : Heap) (locs : List Loc) (s : State) : Prop :=
  va_K D vwCl (ztys cy) s ∧ va_P D vwCl (zW T cy ad σ) H ∧ va_D A (zW T cy ad σ) ∧ va_S A H0 H locs ∧ (∀ q, H0.size ≤ q → A q) ∧ zN s
def zPre (D : va_G) (cy : Nat → ClassId) (T : zT) (ad : Nat → Nat) (σ : zS) (sz : Nat) : State → Prop := fun U =>
  U.heap.size = sz ∧ va_P D vwCl (zW T cy ad σ) U.heap ∧ va_K D vwCl (ztys cy) U ∧ va_D (fun _ => True) (zW T cy ad σ) ∧ zN U
def zAt (D : va_G) (cy : Nat → ClassId) (T : zT) (ad : Nat → Nat) (A : Nat → Prop) (σ : zS) (t : State) : Prop :=
  va_P D vwCl (zW T cy ad σ) t.heap ∧ va_K D vwCl (ztys cy) t ∧ va_D A (zW T cy ad σ)
/-! the memory's own words -/
def zu (f : Nat → Nat → Int32) (c j : Nat) (x : Int32) : Nat → Nat → Int32 := fun a => if a = c then upd (f a) j x else f a
def zur (f : Nat → Nat → Option Nat) (c j : Nat) (v : Option Nat) : Nat → Nat → Option Nat := fun a => if a = c then va_up (f a) j v else f a
def gI (T : zT) (σ : zS) (c k j : Nat) : Option Int32 := if T.1 c = k then some (σ.1 c j) else none
def gR (T : zT) (σ : zS) (c k j : Nat) : Option Nat := if T.1 c = k then σ.2 c j else none
def pI (T : zT) (σ : zS) (c k j : Nat) (x : Int32) : Option zS := if T.1 c = k then some (zu σ.1 c j x, σ.2) else none
def pZ (T : zT) (σ : zS) (c k j : Nat) (x : Int32) : Option zS := if T.1 c = k ∧ (x = 0 ∨ x = 1) then some (zu σ.1 c j x, σ.2) else none
def aL (T : zT) (c k : Nat) : Option Int32 := if T.1 c = k then some (nI (T.2.1 c)) else none
def aI (T : zT) (σ : zS) (c k : Nat) (i : Int32) : Option Int32 := if T.1 c = k ∧ ¬ (i < 0 ∨ T.2.1 c ≤ i.toNatClampNeg) then some (σ.1 c i.toNatClampNeg) else none
def aR (T : zT) (σ : zS) (c k : Nat) (i : Int32) : Option Nat := if T.1 c = k ∧ ¬ (i < 0 ∨ T.2.1 c ≤ i.toNatClampNeg) then σ.2 c i.toNatClampNeg else none
def sI (T : zT) (σ : zS) (c : Nat) (i x : Int32) : Option zS := if T.1 c = 13 ∧ ¬ (i < 0 ∨ T.2.1 c ≤ i.toNatClampNeg) then some (zu σ.1 c i.toNatClampNeg x, σ.2) else none
def sZ (T : zT) (σ : zS) (c : Nat) (i x : Int32) : Option zS := if T.1 c = 14 ∧ ¬ (i < 0 ∨ T.2.1 c ≤ i.toNatClampNeg) ∧ (x = 0 ∨ x = 1) then some (zu σ.1 c i.toNatClampNeg x, σ.2) else none
def sR (T : zT) (σ : zS) (c k kv : Nat) (i : Int32) (v : Nat) : Option zS := if T.1 c = k ∧ T.1 v = kv ∧ ¬ (i < 0 ∨ T.2.1 c ≤ i.toNatClampNeg) then some (σ.1, zur σ.2 c i.toNatClampNeg (some v)) else none
def zb2 {α β ρ : Type} (o : Option (α × β)) (K : α → β → Option ρ) : Option ρ := match o with
  | none => none
  | some q => K q.1 q.2
def zo {α ρ : Type} (r : Option α) (A : Option ρ) (B : α → Option ρ) : Option ρ := match r with
  | none => A
  | some a => B a
def zn {α ρ : Type} (e : α) (K : α → Option ρ) : Option ρ := K e
def zz1 {ρ : Type} (c : Prop) [Decidable c] (r : Option ρ) : Option ρ := if c then r else none
def zl1 {α ρ : Type} (F : (α → Option ρ) → α → Option ρ) : Nat → α → Option ρ
  | 0 => fun _ => none
  | n + 1 => F (zl1 F n)
def zl2 {α β ρ : Type} (F : (α → β → Option ρ) → α → β → Option ρ) : Nat → α → β → Option ρ
  | 0 => fun _ _ => none
  | n + 1 => F (zl2 F n)
def zl3 {α β γ ρ : Type} (F : (α → β → γ → Option ρ) → α → β → γ → Option ρ) : Nat → α → β → γ → Option ρ
  | 0 => fun _ _ _ => none
  | n + 1 => F (zl3 F n)
def zl4 {α β γ δ ρ : Type} (F : (α → β → γ → δ → Option ρ) → α → β → γ → δ → Option ρ) : Nat → α → β → γ → δ → Option ρ
  | 0 => fun _ _ _ _ => none
  | n + 1 => F (zl4 F n)
def zl5 {α β γ δ ε ρ : Type} (F : (α → β → γ → δ → ε → Option ρ) → α → β → γ → δ → ε → Option ρ) : Nat → α → β → γ → δ → ε → Option ρ
  | 0 => fun _ _ _ _ _ => none
  | n + 1 => F (zl5 F n)
def zl6 {α β γ δ ε ζ ρ : Type} (F : (α → β → γ → δ → ε → ζ → Option ρ) → α → β → γ → δ → ε → ζ → Option ρ) : Nat → α → β → γ → δ → ε → ζ → Option ρ
  | 0 => fun _ _ _ _ _ _ => none
  | n + 1 => F (zl6 F n)
/-! the world's places -/
theorem zW_at {T : zT} {cy : Nat → ClassId} {ad : Nat → Nat} {σ : zS} {a : Nat} (h : a < T.2.2) : (zW T cy ad σ)[a]? = some (ad a, zcell T cy ad σ a) := by
  unfold zW
  rw [List.getElem?_map, List.getElem?_range h]
  rfl
theorem zW_set {T : zT} {cy : Nat → ClassId} {ad : Nat → Nat} {σ σ' : zS} {a : Nat} {e : va_E} (h : a < T.2.2) (he : zcell T cy ad σ' a = e) (ho : ∀ c, c ≠ a → zcell T cy ad σ' c = zcell T cy ad σ c) : (zW T cy ad σ).set a (ad a, e) = zW T cy ad σ' := by
  apply List.ext_getElem?
  intro i
  by_cases hi : i < T.2.2
  · rw [zW_at hi, List.getElem?_set]
    by_cases hia : a = i
    · subst hia
      rw [if_pos rfl, if_pos (by unfold zW; simpa using h), he]
    · rw [if_neg hia, zW_at hi, ho i (fun q => hia q.symm)]
  · rw [List.getElem?_eq_none (by unfold zW; simp; omega), List.getElem?_eq_none (by unfold zW; simp; omega)]
theorem zcell_obj {T : zT} {cy : Nat → ClassId} {ad : Nat → Nat} {σ : zS} {c k : Nat} (h : T.1 c = k) (hk : k < 13) : zcell T cy ad σ c = .inr (k, (List.range (zsz k)).map (zval ad σ c k)) := by
  subst h
  unfold zcell
  rw [if_pos hk]
theorem zcell_i {T : zT} {cy : Nat → ClassId} {ad : Nat → Nat} {σ : zS} {c k : Nat} (h : T.1 c = k) (h1 : ¬ k < 13) (h2 : k < 15) : zcell T cy ad σ c = .inl (cy k, T.2.1 c, .inl (σ.1 c)) := by
  subst h
  unfold zcell
  rw [if_neg h1, if_pos h2]
theorem zcell_r {T : zT} {cy : Nat → ClassId} {ad : Nat → Nat} {σ : zS} {c k : Nat} (h : T.1 c = k) (h1 : ¬ k < 13) (h2 : ¬ k < 15) : zcell T cy ad σ c = .inl (cy k, T.2.1 c, .inr (.inr (.inr (.inr (fun j => (σ.2 c j).map ad))))) := by
  subst h
  unfold zcell
  rw [if_neg h1, if_neg h2]
theorem zcell_oI {T : zT} {cy : Nat → ClassId} {ad : Nat → Nat} {σ : zS} {a j : Nat} {x : Int32} : ∀ c, c ≠ a → zcell T cy ad (zu σ.1 a j x, σ.2) c = zcell T cy ad σ c := by
  intro c h
  have e : zu σ.1 a j x c = σ.1 c := by unfold zu; rw [if_neg h]
  have e2 : ∀ k, zval ad (zu σ.1 a j x, σ.2) c k = zval ad σ c k := fun k => by
    funext i
    unfold zval
    dsimp only
    rw [e]
  unfold zcell
  rw [e2]
  dsimp only
  rw [e]
theorem zcell_oR {T : zT} {cy : Nat → ClassId} {ad : Nat → Nat} {σ : zS} {a j : Nat} {x : Option Nat} : ∀ c, c ≠ a → zcell T cy ad (σ.1, zur σ.2 a j x) c = zcell T cy ad σ c := by
  intro c h
  have e : zur σ.2 a j x c = σ.2 c := by unfold zur; rw [if_neg h]
  have e2 : ∀ k, zval ad (σ.1, zur σ.2 a j x) c k = zval ad σ c k := fun k => by
    funext i
    unfold zval
    dsimp only
    rw [e]
  unfold zcell
  rw [e2]
  dsimp only
  rw [e]
theorem zset_list {ad : Nat → Nat} {σ : zS} {a k j : Nat} {x : Int32} (hz : zref k j = false) : (List.range (zsz k)).map (zval ad (zu σ.1 a j x, σ.2) a k) = ((List.range (zsz k)).map (zval ad σ a k)).set j (.int x) := by
  apply List.ext_getElem?
  intro i
  rw [List.getElem?_set]
  by_cases hi : i < zsz k
  · rw [List.getElem?_map, List.getElem?_range hi]
    by_cases hij : j = i
    · subst hij
      rw [if_pos rfl, if_pos (by simpa using hi)]
      simp [zval, hz, zu, upd]
    · rw [if_neg hij, List.getElem?_map, List.getElem?_range hi]
      have : ¬ i = j := fun q => hij q.symm
      simp [zval, zu, upd, this]
  · rw [List.getElem?_eq_none (by simp; omega)]
    by_cases hij : j = i
    · rw [if_pos hij, if_neg (by simp; omega)]
    · rw [if_neg hij, List.getElem?_eq_none (by simp; omega)]
theorem zget_list {ad : Nat → Nat} {σ : zS} {a k j : Nat} (hj : j < zsz k) : ((List.range (zsz k)).map (zval ad σ a k))[j]? = some (zval ad σ a k j) := by
  rw [List.getElem?_map, List.getElem?_range hj]
  rfl
theorem zval_i {ad : Nat → Nat} {σ : zS} {a k j : Nat} (hz : zref k j = false) : zval ad σ a k j = .int (σ.1 a j) := by
  unfold zval
  rw [if_neg (by rw [hz]; decide)]
theorem zval_r {ad : Nat → Nat} {σ : zS} {a k j b : Nat} (hz : zref k j = true) (h : σ.2 a j = some b) : zval ad σ a k j = .ref (ad b) := by
  unfold zval
  rw [if_pos hz, h]
  rfl
