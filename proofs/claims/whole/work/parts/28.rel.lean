/-! the relation of the class's diagram and the reference's row -/
def bI (b : Bool) : Int32 := if b = true then 1 else 0
theorem bI_t : bI true = 1 := rfl
theorem bI_f : bI false = 0 := rfl
theorem bI01 (b : Bool) : bI b = 0 ∨ bI b = 1 := by cases b <;> decide
theorem bI_1 {b : Bool} : bI b = 1 ↔ b = true := by cases b <;> decide
theorem bI_0 {b : Bool} : bI b = 0 ↔ b = false := by cases b <;> decide
def hC : Option Nat → Int32
  | none => -1000000
  | some g => nI g
def hM : Option Nat → Int32
  | none => 0
  | some g => nI (g + 1)
/-- the outermost group above x; whether g is x or above it -/
def topA (hg : Nat → Option Nat) : Nat → Option Nat → Option Nat
  | 0, x => x
  | _ + 1, none => none
  | n + 1, some g => match hg g with
    | none => some g
    | some k => topA hg n (some k)
def insA (hg : Nat → Option Nat) (g : Nat) : Nat → Option Nat → Bool
  | 0, x => decide (x = some g)
  | _ + 1, none => false
  | n + 1, some k => decide (k = g) || insA hg g n (hg k)
/-- a shape's fields are in their ranges -/
def Fld (D : Nat → Nat → Int32) (s : Nat) : Prop := (D (4 + s) 1 = 0 ∨ D (4 + s) 1 = 1 ∨ D (4 + s) 1 = 2) ∧ (∀ j, 2 ≤ j → j < 4 → -10000 ≤ (D (4 + s) j).toInt ∧ (D (4 + s) j).toInt ≤ 10000) ∧ ∀ j, 4 ≤ j → j < 6 → 1 ≤ (D (4 + s) j).toInt ∧ (D (4 + s) j).toInt ≤ 500
def QS (n : Nat) (th : Nat → Bool) (D : Nat → Nat → Int32) (V : Nat → Int32) : Prop := (n ≤ 20) ∧ (D 2 1 = nI n) ∧ (V 0 = nI n) ∧ (∀ s, s < 20 → D (4 + s) 0 = bI (th s)) ∧ (∀ s, s < 20 → V (10 + 8 * s) = bI (th s)) ∧ (∀ s, n ≤ s → s < 20 → th s = false) ∧ (∀ s, s < 20 → th s = true → ∀ j, 1 ≤ j → j < 6 → V (10 + 8 * s + j) = D (4 + s) j) ∧ (∀ s, s < 20 → th s = true → Fld D s)
theorem QS.n20 {n : Nat} {th : Nat → Bool} {D : Nat → Nat → Int32} {V : Nat → Int32} (h : QS n th D V) : n ≤ 20 := h.1
theorem QS.nD {n : Nat} {th : Nat → Bool} {D : Nat → Nat → Int32} {V : Nat → Int32} (h : QS n th D V) : D 2 1 = nI n := h.2.1
theorem QS.nV {n : Nat} {th : Nat → Bool} {D : Nat → Nat → Int32} {V : Nat → Int32} (h : QS n th D V) : V 0 = nI n := h.2.2.1
theorem QS.tD {n : Nat} {th : Nat → Bool} {D : Nat → Nat → Int32} {V : Nat → Int32} (h : QS n th D V) : ∀ s, s < 20 → D (4 + s) 0 = bI (th s) := h.2.2.2.1
theorem QS.tV {n : Nat} {th : Nat → Bool} {D : Nat → Nat → Int32} {V : Nat → Int32} (h : QS n th D V) : ∀ s, s < 20 → V (10 + 8 * s) = bI (th s) := h.2.2.2.2.1
theorem QS.fr {n : Nat} {th : Nat → Bool} {D : Nat → Nat → Int32} {V : Nat → Int32} (h : QS n th D V) : ∀ s, n ≤ s → s < 20 → th s = false := h.2.2.2.2.2.1
theorem QS.fV {n : Nat} {th : Nat → Bool} {D : Nat → Nat → Int32} {V : Nat → Int32} (h : QS n th D V) : ∀ s, s < 20 → th s = true → ∀ j, 1 ≤ j → j < 6 → V (10 + 8 * s + j) = D (4 + s) j := h.2.2.2.2.2.2.1
theorem QS.fD {n : Nat} {th : Nat → Bool} {D : Nat → Nat → Int32} {V : Nat → Int32} (h : QS n th D V) : ∀ s, s < 20 → th s = true → Fld D s := h.2.2.2.2.2.2.2
def QC (th sel : Nat → Bool) (D : Nat → Nat → Int32) (V : Nat → Int32) : Prop := (D 2 2 = mkS sel 20) ∧ (∀ s, s < 20 → th s = true → V (10 + 8 * s + 6) = bI (sel s)) ∧ (∀ s, s < 20 → sel s = true → th s = true)
theorem QC.cD {th sel : Nat → Bool} {D : Nat → Nat → Int32} {V : Nat → Int32} (h : QC th sel D V) : D 2 2 = mkS sel 20 := h.1
theorem QC.cV {th sel : Nat → Bool} {D : Nat → Nat → Int32} {V : Nat → Int32} (h : QC th sel D V) : ∀ s, s < 20 → th s = true → V (10 + 8 * s + 6) = bI (sel s) := h.2.1
theorem QC.ct {th sel : Nat → Bool} {D : Nat → Nat → Int32} {V : Nat → Int32} (h : QC th sel D V) : ∀ s, s < 20 → sel s = true → th s = true := h.2.2
def QP (th : Nat → Bool) (c : Nat) (p : Nat → Nat) (D : Nat → Nat → Int32) (V : Nat → Int32) : Prop := (c ≤ 20) ∧ (V 1 = nI c) ∧ (cnt th 20 = c) ∧ (∀ k, k < c → p k < 20 ∧ th (p k) = true ∧ V (170 + k) = nI (p k) ∧ D (4 + p k) 6 = nI k) ∧ (∀ s, s < 20 → th s = true → ∃ k, k < c ∧ p k = s)
theorem QP.c20 {th : Nat → Bool} {c : Nat} {p : Nat → Nat} {D : Nat → Nat → Int32} {V : Nat → Int32} (h : QP th c p D V) : c ≤ 20 := h.1
theorem QP.cV {th : Nat → Bool} {c : Nat} {p : Nat → Nat} {D : Nat → Nat → Int32} {V : Nat → Int32} (h : QP th c p D V) : V 1 = nI c := h.2.1
theorem QP.cn {th : Nat → Bool} {c : Nat} {p : Nat → Nat} {D : Nat → Nat → Int32} {V : Nat → Int32} (h : QP th c p D V) : cnt th 20 = c := h.2.2.1
theorem QP.pk {th : Nat → Bool} {c : Nat} {p : Nat → Nat} {D : Nat → Nat → Int32} {V : Nat → Int32} (h : QP th c p D V) : ∀ k, k < c → p k < 20 ∧ th (p k) = true ∧ V (170 + k) = nI (p k) ∧ D (4 + p k) 6 = nI k := h.2.2.2.1
theorem QP.ps {th : Nat → Bool} {c : Nat} {p : Nat → Nat} {D : Nat → Nat → Int32} {V : Nat → Int32} (h : QP th c p D V) : ∀ s, s < 20 → th s = true → ∃ k, k < c ∧ p k = s := h.2.2.2.2
def QH (th sel : Nat → Bool) (hs hg : Nat → Option Nat) (gt : Nat → Bool) (D : Nat → Nat → Int32) (V : Nat → Int32) : Prop := (∀ s, s < 20 → th s = true → D (4 + s) 7 = hC (hs s)) ∧ (∀ s, s < 20 → th s = true → V (10 + 8 * s + 7) = hM (hs s)) ∧ (∀ s, s < 20 → th s = true → ∀ g, hs s = some g → g < 8 ∧ gt g = true) ∧ (∀ g, g < 8 → D 47 g = bI (gt g)) ∧ (∀ g, g < 8 → V (290 + 2 * g) = bI (gt g)) ∧ (∀ g, g < 8 → gt g = true → D 48 g = hC (hg g)) ∧ (∀ g, g < 8 → gt g = true → V (290 + 2 * g + 1) = hM (hg g)) ∧ (∀ g, g < 8 → gt g = true → ∀ g2, hg g = some g2 → g2 < 8 ∧ gt g2 = true) ∧ (∃ r : Nat → Nat, ∀ g, g < 8 → gt g = true → ∀ g2, hg g = some g2 → r g2 < r g) ∧ (∀ g, g < 8 → gt g = true → ∃ s, s < 20 ∧ th s = true ∧ insA hg g 8 (hs s) = true) ∧ (∀ s t g, s < 20 → t < 20 → th s = true → th t = true → topA hg 8 (hs s) = some g → topA hg 8 (hs t) = some g → sel s = sel t)
theorem QH.sD {th sel : Nat → Bool} {hs hg : Nat → Option Nat} {gt : Nat → Bool} {D : Nat → Nat → Int32} {V : Nat → Int32} (h : QH th sel hs hg gt D V) : ∀ s, s < 20 → th s = true → D (4 + s) 7 = hC (hs s) := h.1
theorem QH.sV {th sel : Nat → Bool} {hs hg : Nat → Option Nat} {gt : Nat → Bool} {D : Nat → Nat → Int32} {V : Nat → Int32} (h : QH th sel hs hg gt D V) : ∀ s, s < 20 → th s = true → V (10 + 8 * s + 7) = hM (hs s) := h.2.1
theorem QH.sg {th sel : Nat → Bool} {hs hg : Nat → Option Nat} {gt : Nat → Bool} {D : Nat → Nat → Int32} {V : Nat → Int32} (h : QH th sel hs hg gt D V) : ∀ s, s < 20 → th s = true → ∀ g, hs s = some g → g < 8 ∧ gt g = true := h.2.2.1
theorem QH.tD {th sel : Nat → Bool} {hs hg : Nat → Option Nat} {gt : Nat → Bool} {D : Nat → Nat → Int32} {V : Nat → Int32} (h : QH th sel hs hg gt D V) : ∀ g, g < 8 → D 47 g = bI (gt g) := h.2.2.2.1
theorem QH.tV {th sel : Nat → Bool} {hs hg : Nat → Option Nat} {gt : Nat → Bool} {D : Nat → Nat → Int32} {V : Nat → Int32} (h : QH th sel hs hg gt D V) : ∀ g, g < 8 → V (290 + 2 * g) = bI (gt g) := h.2.2.2.2.1
theorem QH.gD {th sel : Nat → Bool} {hs hg : Nat → Option Nat} {gt : Nat → Bool} {D : Nat → Nat → Int32} {V : Nat → Int32} (h : QH th sel hs hg gt D V) : ∀ g, g < 8 → gt g = true → D 48 g = hC (hg g) := h.2.2.2.2.2.1
theorem QH.gV {th sel : Nat → Bool} {hs hg : Nat → Option Nat} {gt : Nat → Bool} {D : Nat → Nat → Int32} {V : Nat → Int32} (h : QH th sel hs hg gt D V) : ∀ g, g < 8 → gt g = true → V (290 + 2 * g + 1) = hM (hg g) := h.2.2.2.2.2.2.1
theorem QH.gg {th sel : Nat → Bool} {hs hg : Nat → Option Nat} {gt : Nat → Bool} {D : Nat → Nat → Int32} {V : Nat → Int32} (h : QH th sel hs hg gt D V) : ∀ g, g < 8 → gt g = true → ∀ g2, hg g = some g2 → g2 < 8 ∧ gt g2 = true := h.2.2.2.2.2.2.2.1
theorem QH.rk {th sel : Nat → Bool} {hs hg : Nat → Option Nat} {gt : Nat → Bool} {D : Nat → Nat → Int32} {V : Nat → Int32} (h : QH th sel hs hg gt D V) : ∃ r : Nat → Nat, ∀ g, g < 8 → gt g = true → ∀ g2, hg g = some g2 → r g2 < r g := h.2.2.2.2.2.2.2.2.1
theorem QH.ne {th sel : Nat → Bool} {hs hg : Nat → Option Nat} {gt : Nat → Bool} {D : Nat → Nat → Int32} {V : Nat → Int32} (h : QH th sel hs hg gt D V) : ∀ g, g < 8 → gt g = true → ∃ s, s < 20 ∧ th s = true ∧ insA hg g 8 (hs s) = true := h.2.2.2.2.2.2.2.2.2.1
theorem QH.cl {th sel : Nat → Bool} {hs hg : Nat → Option Nat} {gt : Nat → Bool} {D : Nat → Nat → Int32} {V : Nat → Int32} (h : QH th sel hs hg gt D V) : ∀ s t g, s < 20 → t < 20 → th s = true → th t = true → topA hg 8 (hs s) = some g → topA hg 8 (hs t) = some g → sel s = sel t := h.2.2.2.2.2.2.2.2.2.2
def QL (th : Nat → Bool) (ln : Nat) (D : Nat → Nat → Int32) (V : Nat → Int32) : Prop := (ln ≤ 20) ∧ (D 24 1 = nI ln) ∧ (V 2 = nI ln) ∧ (∀ c, c < ln → ∀ j, j < 5 → D (26 + c) j = V (190 + 5 * c + j)) ∧ (∀ c, c < ln → ∃ s a t b y, s < 20 ∧ th s = true ∧ t < 20 ∧ th t = true ∧ a < 4 ∧ b < 4 ∧ y < 3 ∧ V (190 + 5 * c) = nI s ∧ V (190 + 5 * c + 1) = nI a ∧ V (190 + 5 * c + 2) = nI t ∧ V (190 + 5 * c + 3) = nI b ∧ V (190 + 5 * c + 4) = nI y)
theorem QL.l20 {th : Nat → Bool} {ln : Nat} {D : Nat → Nat → Int32} {V : Nat → Int32} (h : QL th ln D V) : ln ≤ 20 := h.1
theorem QL.lD {th : Nat → Bool} {ln : Nat} {D : Nat → Nat → Int32} {V : Nat → Int32} (h : QL th ln D V) : D 24 1 = nI ln := h.2.1
theorem QL.lV {th : Nat → Bool} {ln : Nat} {D : Nat → Nat → Int32} {V : Nat → Int32} (h : QL th ln D V) : V 2 = nI ln := h.2.2.1
theorem QL.eq {th : Nat → Bool} {ln : Nat} {D : Nat → Nat → Int32} {V : Nat → Int32} (h : QL th ln D V) : ∀ c, c < ln → ∀ j, j < 5 → D (26 + c) j = V (190 + 5 * c + j) := h.2.2.2.1
theorem QL.ok {th : Nat → Bool} {ln : Nat} {D : Nat → Nat → Int32} {V : Nat → Int32} (h : QL th ln D V) : ∀ c, c < ln → ∃ s a t b y, s < 20 ∧ th s = true ∧ t < 20 ∧ th t = true ∧ a < 4 ∧ b < 4 ∧ y < 3 ∧ V (190 + 5 * c) = nI s ∧ V (190 + 5 * c + 1) = nI a ∧ V (190 + 5 * c + 2) = nI t ∧ V (190 + 5 * c + 3) = nI b ∧ V (190 + 5 * c + 4) = nI y := h.2.2.2.2
def QU (D : Nat → Nat → Int32) (V : Nat → Int32) : Prop := (∃ n, n ≤ 10 ∧ D 49 2 = nI n ∧ V 3 = nI n ∧ ∀ k, k < n → D 50 k = V (310 + 2 * k) ∧ D 51 k = V (310 + 2 * k + 1)) ∧ (∃ g, g ≤ 100 ∧ D 49 3 = nI g ∧ V 4 = nI g) ∧ (∃ g, g ≤ 50 ∧ D 49 4 = nI g ∧ V 5 = nI g)
theorem QU.num {D : Nat → Nat → Int32} {V : Nat → Int32} (h : QU D V) : ∃ n, n ≤ 10 ∧ D 49 2 = nI n ∧ V 3 = nI n ∧ ∀ k, k < n → D 50 k = V (310 + 2 * k) ∧ D 51 k = V (310 + 2 * k + 1) := h.1
theorem QU.grd {D : Nat → Nat → Int32} {V : Nat → Int32} (h : QU D V) : ∃ g, g ≤ 100 ∧ D 49 3 = nI g ∧ V 4 = nI g := h.2.1
theorem QU.tol {D : Nat → Nat → Int32} {V : Nat → Int32} (h : QU D V) : ∃ g, g ≤ 50 ∧ D 49 4 = nI g ∧ V 5 = nI g := h.2.2
def QR (D : Nat → Nat → Int32) (V : Nat → Int32) : Prop := ∃ n th sel c p hs hg gt ln, QS n th D V ∧ QC th sel D V ∧ QP th c p D V ∧ QH th sel hs hg gt D V ∧ QL th ln D V ∧ QU D V
section FRAMES
variable {D D' : Nat → Nat → Int32} {V V' : Nat → Int32} {n c ln : Nat} {th sel gt : Nat → Bool} {p : Nat → Nat} {hs hg : Nat → Option Nat}
theorem QS_fr (h : QS n th D V) (e1 : ∀ s, s < 20 → ∀ j, j < 6 → D' (4 + s) j = D (4 + s) j) (e2 : D' 2 1 = D 2 1) (e3 : V' 0 = V 0) (e4 : ∀ s, s < 20 → ∀ j, j < 6 → V' (10 + 8 * s + j) = V (10 + 8 * s + j)) : QS n th D' V' :=
  ⟨h.n20,
  e2.trans h.nD,
  e3.trans h.nV,
  fun s hs => (e1 s hs 0 (by omega)).trans (h.tD s hs),
  fun s hs => (e4 s hs 0 (by omega)).trans (h.tV s hs),
  h.fr,
  fun s hs ht j h1 h2 => by rw [e4 s hs j h2, e1 s hs j h2, h.fV s hs ht j h1 h2],
  fun s hs ht => by
    obtain ⟨a, b, c⟩ := h.fD s hs ht
    refine ⟨?_, fun j h1 h2 => ?_, fun j h1 h2 => ?_⟩
    · rw [e1 s hs 1 (by omega)]; exact a
    · rw [e1 s hs j (by omega)]; exact b j h1 h2
    · rw [e1 s hs j (by omega)]; exact c j h1 h2⟩
theorem QC_fr (h : QC th sel D V) (e1 : D' 2 2 = D 2 2) (e2 : ∀ s, s < 20 → V' (10 + 8 * s + 6) = V (10 + 8 * s + 6)) : QC th sel D' V' :=
  ⟨e1.trans h.cD,
  fun s hs ht => (e2 s hs).trans (h.cV s hs ht),
  h.ct⟩
theorem QP_fr (h : QP th c p D V) (e1 : ∀ s, s < 20 → D' (4 + s) 6 = D (4 + s) 6) (e2 : V' 1 = V 1) (e3 : ∀ k, k < 20 → V' (170 + k) = V (170 + k)) : QP th c p D' V' :=
  ⟨h.c20,
  e2.trans h.cV,
  h.cn,
  fun k hk => by
    obtain ⟨a, b, d, e⟩ := h.pk k hk
    exact ⟨a, b, (e3 k (by have := h.c20; omega)).trans d, (e1 _ a).trans e⟩,
  h.ps⟩
theorem QH_fr (h : QH th sel hs hg gt D V) (e1 : ∀ s, s < 20 → D' (4 + s) 7 = D (4 + s) 7) (e2 : ∀ s, s < 20 → V' (10 + 8 * s + 7) = V (10 + 8 * s + 7)) (e3 : ∀ g, g < 8 → D' 47 g = D 47 g) (e4 : ∀ g, g < 8 → D 47 g = 1 → D' 48 g = D 48 g) (e5 : ∀ i, i < 16 → V' (290 + i) = V (290 + i)) : QH th sel hs hg gt D' V' :=
  ⟨fun s hs ht => (e1 s hs).trans (h.sD s hs ht),
  fun s hs ht => (e2 s hs).trans (h.sV s hs ht),
  h.sg,
  fun g hg => (e3 g hg).trans (h.tD g hg),
  fun g hg => (e5 (2 * g) (by omega)).trans (h.tV g hg),
  fun g hg ht => (e4 g hg (by rw [h.tD g hg, ht]; rfl)).trans (h.gD g hg ht),
  fun g hg ht => (e5 (2 * g + 1) (by omega)).trans (h.gV g hg ht),
  h.gg,
  h.rk,
  h.ne,
  h.cl⟩
theorem QL_fr (h : QL th ln D V) (e1 : D' 24 1 = D 24 1) (e2 : V' 2 = V 2) (e3 : ∀ c, c < 20 → ∀ j, j < 5 → D' (26 + c) j = D (26 + c) j) (e4 : ∀ i, i < 100 → V' (190 + i) = V (190 + i)) : QL th ln D' V' :=
  ⟨h.l20,
  e1.trans h.lD,
  e2.trans h.lV,
  fun c hc j hj => by
    have hl := h.l20
    rw [e3 c (by omega) j hj, h.eq c hc j hj, Nat.add_assoc, e4 (5 * c + j) (by omega)],
  fun c hc => by
    have hl := h.l20
    obtain ⟨s, a, t, b, y, h1, h2, h3, h4, h5, h6, h7, h8, h9, h10, h11, h12⟩ := h.ok c hc
    exact ⟨s, a, t, b, y, h1, h2, h3, h4, h5, h6, h7, (e4 (5 * c) (by omega)).trans h8, (e4 (5 * c + 1) (by omega)).trans h9, (e4 (5 * c + 2) (by omega)).trans h10, (e4 (5 * c + 3) (by omega)).trans h11, (e4 (5 * c + 4) (by omega)).trans h12⟩⟩
theorem QU_fr (h : QU D V) (e1 : ∀ j, 2 ≤ j → j < 5 → D' 49 j = D 49 j) (e2 : ∀ i, 3 ≤ i → i < 6 → V' i = V i) (e3 : ∀ n k, n ≤ 10 → D 49 2 = nI n → k < n → D' 50 k = D 50 k ∧ D' 51 k = D 51 k) (e4 : ∀ i, i < 20 → V' (310 + i) = V (310 + i)) : QU D' V' :=
  ⟨by
    obtain ⟨n, h1, h2, h3, h4⟩ := h.num
    refine ⟨n, h1, (e1 2 (by omega) (by omega)).trans h2, (e2 3 (by omega) (by omega)).trans h3, fun k hk => ?_⟩
    rw [(e3 n k h1 h2 hk).1, (e3 n k h1 h2 hk).2, e4 (2 * k) (by omega), (h4 k hk).1, (h4 k hk).2]
    exact ⟨rfl, (e4 (2 * k + 1) (by omega)).symm⟩,
  by
    obtain ⟨g, h1, h2, h3⟩ := h.grd
    exact ⟨g, h1, (e1 3 (by omega) (by omega)).trans h2, (e2 4 (by omega) (by omega)).trans h3⟩,
  by
    obtain ⟨g, h1, h2, h3⟩ := h.tol
    exact ⟨g, h1, (e1 4 (by omega) (by omega)).trans h2, (e2 5 (by omega) (by omega)).trans h3⟩⟩
/-- the relation goes over to a copy -/
theorem QR_c (h : QR D V) (hv : ∀ i, i < 380 → V' i = V i) (e1 : ∀ s, s < 20 → ∀ j, j < 8 → D' (4 + s) j = D (4 + s) j) (e2 : D' 2 1 = D 2 1) (e3 : D' 2 2 = D 2 2) (e4 : ∀ c, c < 20 → ∀ j, j < 5 → D' (26 + c) j = D (26 + c) j) (e5 : D' 24 1 = D 24 1) (e6 : ∀ g, g < 8 → D' 47 g = D 47 g) (e7 : ∀ g, g < 8 → D 47 g = 1 → D' 48 g = D 48 g) (e8 : ∀ j, 2 ≤ j → j < 5 → D' 49 j = D 49 j) (e9 : ∀ n k, n ≤ 10 → D 49 2 = nI n → k < n → D' 50 k = D 50 k ∧ D' 51 k = D 51 k) : QR D' V' := by
  obtain ⟨n, th, sel, c, p, hs, hg, gt, ln, a1, a2, a3, a4, a5, a6⟩ := h
  refine ⟨n, th, sel, c, p, hs, hg, gt, ln, QS_fr a1 (fun s hs j hj => e1 s hs j (by omega)) e2 (hv 0 (by omega)) (fun s hs j hj => hv _ (by omega)), QC_fr a2 e3 (fun s hs => hv _ (by omega)), QP_fr a3 (fun s hs => e1 s hs 6 (by omega)) (hv 1 (by omega)) (fun k hk => hv _ (by omega)), QH_fr a4 (fun s hs => e1 s hs 7 (by omega)) (fun s hs => hv _ (by omega)) e6 e7 (fun i hi => hv _ (by omega)), QL_fr a5 e5 (hv 2 (by omega)) e4 (fun i hi => hv _ (by omega)), QU_fr a6 e8 (fun i _ hi => hv _ (by omega)) e9 (fun i hi => hv _ (by omega))⟩
theorem QR_same (h : QR D V) (hv : ∀ i, i < 380 → V' i = V i) (hd : ∀ o j, 1 ≤ o → o ≤ 51 → D' o j = D o j) : QR D' V' :=
  QR_c h hv (fun s hs j _ => hd _ j (by omega) (by omega)) (hd _ _ (by omega) (by omega)) (hd _ _ (by omega) (by omega)) (fun s hs j _ => hd _ j (by omega) (by omega)) (hd _ _ (by omega) (by omega)) (fun g _ => hd _ _ (by omega) (by omega)) (fun g _ _ => hd _ _ (by omega) (by omega)) (fun j _ _ => hd _ _ (by omega) (by omega)) (fun n k _ _ _ => ⟨hd _ _ (by omega) (by omega), hd _ _ (by omega) (by omega)⟩)
end FRAMES
/-- the diagram at base b, seen as 'now' is -/
def at_ (G : Nat → Nat → Int32) (b : Nat) : Nat → Nat → Int32 := fun o j => G (o + (b - 1)) j
theorem at_1 (G : Nat → Nat → Int32) : at_ G 1 = G := rfl
theorem at_dv {G : Nat → Nat → Int32} {b o j : Nat} (hb : 1 ≤ b) (ho : 1 ≤ o) : at_ G b o j = dv G b (o - 1) j := by
  show G (o + (b - 1)) j = G (b + (o - 1)) j
  rw [show o + (b - 1) = b + (o - 1) by omega]
theorem QR_Dag {G G' : Nat → Nat → Int32} {b b' : Nat} {V V' : Nat → Int32} (hb : 1 ≤ b) (hb' : 1 ≤ b') (h : QR (at_ G b) V) (hv : ∀ i, i < 380 → V' i = V i) (hd : Dag (dv G b) (dv G' b')) : QR (at_ G' b') V' := by
  obtain ⟨a1, a2, a3, a4, a5, a6, a7, a8, a9, a10, a11⟩ := hd
  have e : ∀ o, 1 ≤ o → ∀ j, at_ G b o j = dv G b (o - 1) j := fun o ho j => at_dv hb ho
  have e' : ∀ o, 1 ≤ o → ∀ j, at_ G' b' o j = dv G' b' (o - 1) j := fun o ho j => at_dv hb' ho
  refine QR_c h hv (fun s hs j hj => ?_) ?_ ?_ (fun s hs j hj => ?_) ?_ (fun g hg => ?_) (fun g hg ht => ?_) (fun j h1 h2 => ?_) (fun n k hn hc hk => ?_)
  · rw [e _ (by omega), e' _ (by omega), show 4 + s - 1 = 3 + s by omega]; exact a1 s hs j hj
  · rw [e _ (by omega), e' _ (by omega)]; exact a2
  · rw [e _ (by omega), e' _ (by omega)]; exact a3
  · rw [e _ (by omega), e' _ (by omega), show 26 + s - 1 = 25 + s by omega]; exact a4 s hs j hj
  · rw [e _ (by omega), e' _ (by omega)]; exact a5
  · rw [e _ (by omega), e' _ (by omega)]; exact a6 g hg
  · rw [e _ (by omega)] at ht
    rw [e _ (by omega), e' _ (by omega)]
    exact a7 g hg ht
  · rw [e _ (by omega), e' _ (by omega)]
    have : j = 2 ∨ j = 3 ∨ j = 4 := by omega
    rcases this with rfl | rfl | rfl
    · exact a8
    · exact a9
    · exact a10
  · rw [e _ (by omega)] at hc
    rw [e _ (by omega), e' _ (by omega), e _ (by omega), e' _ (by omega)]
    exact a11 n k hn hc hk
theorem QR_WFd {G : Nat → Nat → Int32} {b : Nat} {V : Nat → Int32} (hb : 1 ≤ b) (h : QR (at_ G b) V) : WFd (dv G b) := by
  obtain ⟨n, th, sel, c, p, hs, hg, gt, ln, a1, a2, a3, a4, a5, a6⟩ := h
  have e : ∀ o, 1 ≤ o → ∀ j, at_ G b o j = dv G b (o - 1) j := fun o ho j => at_dv hb ho
  refine ⟨fun s hs => ?_, fun g hg => ?_, ?_⟩
  · have := a1.tD s hs
    rw [e _ (by omega), show 4 + s - 1 = 3 + s by omega] at this
    rw [this]; exact bI01 _
  · have := a4.tD g hg
    rw [e _ (by omega)] at this
    rw [show (46 : Nat) = 47 - 1 from rfl, this]; exact bI01 _
  · obtain ⟨n, h1, h2, h3, h4⟩ := a6.num
    rw [e _ (by omega)] at h2
    exact ⟨n, h1, h2⟩
/-! the history, the text, the invariant -/
def Hist (G : Nat → Nat → Int32) (q : Nat → Option Nat) (M : Nat → Nat → Int32) : Prop := ∃ h t, HC G q h t ∧ M 0 2 = nI h ∧ ∀ k, k < h → QR (at_ G (t k)) (fun i => M 2 (380 * k + i))
def Txt (G M : Nat → Nat → Int32) : Prop := ∃ m, m ≤ 60 ∧ G 360 2 = nI m ∧ M 0 18 = nI m ∧ ∀ i, i < m → G 361 i = M 13 i
def INV (σC σM : zS) : Prop := ∃ G q M, σC = (G, rfC q) ∧ σM = (M, rfM) ∧ QR G (M 1) ∧ Hist G q M ∧ Txt G M
theorem Hist_fr {G G' M M' : Nat → Nat → Int32} {q : Nat → Option Nat} (h : Hist G q M) (e1 : ∀ a j, 52 ≤ a → a < 360 → G' a j = G a j) (e2 : ∀ j, M' 2 j = M 2 j) (e3 : M' 0 2 = M 0 2) : Hist G' q M' := by
  obtain ⟨h, t, ⟨a1, a2, a3, a4⟩, a5, a6⟩ := h
  refine ⟨h, t, ⟨a1, (e1 52 1 (by omega) (by omega)).trans a2, a3, a4⟩, e3.trans a5, fun k hk => QR_same (a6 k hk) (fun i hi => e2 _) (fun o j h1 h2 => ?_)⟩
  have hb := (a3 k (by omega)).2
  have : ∀ b ∈ bases, b ≠ 1 → 54 ≤ b ∧ b + 51 ≤ 360 := by decide
  have := this _ hb.1 hb.2
  exact e1 _ _ (by omega) (by omega)
theorem Txt_fr {G G' M M' : Nat → Nat → Int32} (h : Txt G M) (e1 : G' 360 2 = G 360 2) (e2 : ∀ j, G' 361 j = G 361 j) (e3 : M' 0 18 = M 0 18) (e4 : ∀ j, M' 13 j = M 13 j) : Txt G' M' := by
  obtain ⟨m, h1, h2, h3, h4⟩ := h
  exact ⟨m, h1, e1.trans h2, e3.trans h3, fun i hi => by rw [e2, e4]; exact h4 i hi⟩
/-- both keep the state before an act -/
theorem keep_act {G M : Nat → Nat → Int32} {q : Nat → Option Nat} {N : Nat} (hN : 1901 < N) (hR : QR G (M 1)) (hH : Hist G q M) :
    ∃ G1 q1 M1, f_X5_keep TC N (G, rfC q) 52 1 = some (G1, rfC q1) ∧ f_X12_act TM N (M, rfM) 0 = some (M1, rfM) ∧ Hist G1 q1 M1 ∧ (∀ a j, (a < 52 ∨ 360 ≤ a) → G1 a j = G a j) ∧ ∀ a j, ¬ (a = 0 ∧ j = 2) → a ≠ 2 → M1 a j = M a j := by
  obtain ⟨h, t, hc, hm, hr⟩ := hH
  obtain ⟨G1, q1, h1, t1, e1, c1, d1, d2, d3, d4, d5⟩ := e_keep (N := N) (by omega) hc (QR_WFd (b := 1) (by omega) hR)
  obtain ⟨M1, h2, e2, c2, f1, f2, f3, f4⟩ := e_act (N := N) hN hc.1 hm
  have hh : h2 = h1 := c2.trans d1.symm
  subst hh
  refine ⟨G1, q1, M1, e1, e2, ⟨h2 + 1, t1, c1, f1, fun k hk => ?_⟩, d5, f4⟩
  have hk6 : k < 6 := by have := c1.1; omega
  have hb1 : ∀ b ∈ bases, 1 ≤ b := by decide
  have hb : 1 ≤ t1 k := hb1 _ (c1.2.2.1 k hk6).2.1
  by_cases e : k = h2
  · subst e
    exact QR_Dag (b := 1) (by omega) hb hR (fun i hi => f2 i hi) d3
  · have hk2 : k < h2 := by omega
    have hlt : (if h = 6 then k + 1 else k) < h := by
      have := hc.1
      by_cases e6 : h = 6
      · rw [if_pos e6] at d1 ⊢; omega
      · rw [if_neg e6] at d1 ⊢; omega
    have ho := hr _ hlt
    rw [← d2 k hk2] at ho
    refine QR_same ho (fun i hi => ?_) (fun o j ho1 ho2 => ?_)
    · exact f3 k i hk2 hi
    · rw [at_dv hb ho1, at_dv hb ho1]
      exact d4 k hk2 _ (by omega) j
