/-! ===== the world: every cell of the system has a number; a state gives what the cells hold, by these numbers ===== -/
/-- whole numbers, references (numbers of cells), longs: cell, place -/
abbrev kS : Type := (Nat → Nat → Int32) × (Nat → Nat → Option Nat) × (Nat → Nat → Int64)
/-- the tables' data; the four kinds of arrays; where a cell lies; how many there are; where the old heap ends -/
abbrev kW : Type := va_G × (Nat → ClassId) × (Nat → Nat) × Nat × Nat
abbrev kL (w : kW) : Nat → Nat := w.2.2.1
abbrev kA (w : kW) : Nat → Prop := fun q => w.2.2.2.2 ≤ q
def kt (w : kW) : List (ClassId × FieldType) := [(w.2.1 0, .int), (w.2.1 1, .boolean), (w.2.1 2, .object RX0), (w.2.1 3, .long)]
/-- a cell's kind: (0, class, fields), (1, _, ints), (2, _, booleans), (3, _, references), (4, _, longs) -/
def kE (w : kW) (σ : kS) (c : Nat) : va_E := match kd c with
  | (0, ci, n) => .inr (ci, (List.range n).map fun k => bif kr ci k then va_rf ((σ.2.1 c k).map w.2.2.1) else .int (σ.1 c k))
  | (1, _, n) => .inl (w.2.1 0, n, .inl (σ.1 c))
  | (2, _, n) => .inl (w.2.1 1, n, .inl (σ.1 c))
  | (3, _, n) => .inl (w.2.1 2, n, .inr (.inr (.inr (.inr fun j => (σ.2.1 c j).map w.2.2.1))))
  | (_, _, n) => .inl (w.2.1 3, n, .inr (.inl (σ.2.2 c)))
def kws (w : kW) (σ : kS) : va_W := (List.range w.2.2.2.1).map fun c => (w.2.2.1 c, kE w σ c)
def kH (w : kW) (σ : kS) (H : Heap) : Prop := va_P w.1 vwCl (kws w σ) H ∧ va_D (kA w) (kws w σ)
theorem kws_at (w : kW) (σ : kS) {c : Nat} (h : c < w.2.2.2.1) : (kws w σ)[c]? = some (kL w c, kE w σ c) := by
  simp [kws, List.getElem?_range h]
theorem kE_o (w : kW) (σ : kS) {c ci n : Nat} (h : kd c = (0, ci, n)) : kE w σ c = .inr (ci, (List.range n).map fun k => bif kr ci k then va_rf ((σ.2.1 c k).map w.2.2.1) else .int (σ.1 c k)) := by
  simp only [kE, h]
theorem kE_i (w : kW) (σ : kS) {c x n : Nat} (h : kd c = (1, x, n)) : kE w σ c = .inl (w.2.1 0, n, .inl (σ.1 c)) := by
  simp only [kE, h]
theorem kE_z (w : kW) (σ : kS) {c x n : Nat} (h : kd c = (2, x, n)) : kE w σ c = .inl (w.2.1 1, n, .inl (σ.1 c)) := by
  simp only [kE, h]
theorem kE_r (w : kW) (σ : kS) {c x n : Nat} (h : kd c = (3, x, n)) : kE w σ c = .inl (w.2.1 2, n, .inr (.inr (.inr (.inr fun j => (σ.2.1 c j).map w.2.2.1)))) := by
  simp only [kE, h]
theorem kE_j (w : kW) (σ : kS) {c x n : Nat} (h : kd c = (4, x, n)) : kE w σ c = .inl (w.2.1 3, n, .inr (.inl (σ.2.2 c))) := by
  simp only [kE, h]
/-- what is written -/
def sI (σ : kS) (c i : Nat) (v : Int32) : kS := (fun a j => if a = c ∧ j = i then v else σ.1 a j, σ.2)
def sR (σ : kS) (c i : Nat) (v : Option Nat) : kS := (σ.1, fun a j => if a = c ∧ j = i then v else σ.2.1 a j, σ.2.2)
def sJ (σ : kS) (c i : Nat) (v : Int64) : kS := (σ.1, σ.2.1, fun a j => if a = c ∧ j = i then v else σ.2.2 a j)
/-- one cell is another one: the list with it -/
theorem kws_set (w : kW) {σ τ : kS} {c : Nat} (hn : ∀ a, a ≠ c → kE w τ a = kE w σ a) : (kws w σ).set c (kL w c, kE w τ c) = kws w τ := by
  apply List.ext_getElem?
  intro i
  rw [List.getElem?_set]
  by_cases h : c = i
  · subst h
    simp only [kws, List.length_map, List.length_range, if_true]
    by_cases hc : c < w.2.2.2.1
    · simp [hc]
    · simp [hc]
  · rw [if_neg h]
    simp only [kws, List.getElem?_map]
    by_cases hi : i < w.2.2.2.1
    · rw [List.getElem?_range hi]
      simp only [Option.map_some]
      rw [hn i (fun e => h e.symm)]
    · rw [List.getElem?_eq_none (by simpa using hi)]
      rfl
theorem kE_sI (w : kW) (σ : kS) (c i : Nat) (v : Int32) (a : Nat) (h : a ≠ c) : kE w (sI σ c i v) a = kE w σ a := by
  have e : ∀ j, (sI σ c i v).1 a j = σ.1 a j := fun j => by simp [sI, h]
  have e1 : (sI σ c i v).1 a = σ.1 a := funext e
  simp only [kE, e1]
  rfl
theorem kE_sR (w : kW) (σ : kS) (c i : Nat) (v : Option Nat) (a : Nat) (h : a ≠ c) : kE w (sR σ c i v) a = kE w σ a := by
  have e1 : (sR σ c i v).2.1 a = σ.2.1 a := funext fun j => by simp [sR, h]
  simp only [kE, e1]
  rfl
theorem kE_sJ (w : kW) (σ : kS) (c i : Nat) (v : Int64) (a : Nat) (h : a ≠ c) : kE w (sJ σ c i v) a = kE w σ a := by
  have e1 : (sJ σ c i v).2.2 a = σ.2.2 a := funext fun j => by simp [sJ, h]
  simp only [kE, e1]
  rfl
