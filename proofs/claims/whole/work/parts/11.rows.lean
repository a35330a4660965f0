/-! ===== the final references stand for themselves; the judgement over a state ===== -/
def kF (σ : kS) : kS := (σ.1, fun c k => if (kd c).1 = 0 ∧ kr (kd c).2.1 k = true then some (kfin c (kd c).2.1 k) else σ.2.1 c k, σ.2.2)
theorem kF_sI (σ : kS) (c i : Nat) (v : Int32) : kF (sI σ c i v) = sI (kF σ) c i v := rfl
theorem kF_sJ (σ : kS) (c i : Nat) (v : Int64) : kF (sJ σ c i v) = sJ (kF σ) c i v := rfl
theorem kF_sR (σ : kS) {c i : Nat} (v : Option Nat) (h : (kd c).1 ≠ 0) : kF (sR σ c i v) = sR (kF σ) c i v := by
  simp only [kF, sR]
  congr 1
  congr 1
  funext a j
  by_cases h1 : (kd a).1 = 0 ∧ kr (kd a).2.1 j = true
  · rw [if_pos h1]
    by_cases h2 : a = c ∧ j = i
    · exact absurd (h2.1 ▸ h1.1) h
    · rw [if_neg h2, if_pos h1]
  · rw [if_neg h1]
    by_cases h2 : a = c ∧ j = i
    · rw [if_pos h2, if_pos h2]
    · rw [if_neg h2, if_neg h2, if_neg h1]
def TB : List Cond := lw_tbl.filter goodWord
theorem tb_in {i : Nat} {x : Cond} (h : lw_tbl[i]? = some x) (g : goodWord x = true) : x ∈ TB := List.mem_filter.mpr ⟨List.mem_of_getElem? h, g⟩
theorem tb_good {x : Cond} (h : x ∈ TB) : (x.onTables && x.keeps) = true ∨ ∃ ty, x = .arrayClass ty := good_of_word (List.mem_filter.mp h).2
section KR
variable {w : kW} {p : Program} {l : Launch} {e : Env} {R : Room} {s : State} {m : MethodId} {args : Array Value} {below : List Frame} {meth : Method} {c : Code} {Q : State → Prop}
variable {cc : ByteArray} {nL : Nat} {own : String} {σ : kS} {pc : Nat} {lv lv' : List (Nat × Value)} {st : List Value} {cells slots : Nat}
/-- the locals, all of one word -/
def lvh (ls : Array Slot) (nL : Nat) (lv : List (Nat × Value)) : Prop := lv_has ls nL lv ∧ ∀ q ∈ lv, q.2.category = 1
/-- a local gets a value: the list with it in front -/
def kst (lv : List (Nat × Value)) (i : Nat) (v : Value) : List (Nat × Value) := (i, v) :: lv.filter (fun q => !(q.1 == i))
theorem lvh_st {ls ls' : Array Slot} {nL i : Nat} {lv : List (Nat × Value)} {v : Value} (hl : lvh ls nL lv) (hv : v.category = 1) (h : lv_has ls' nL ((i, v) :: lv.filter (fun q => !(q.1 == i) && !(q.1 + 1 == i && q.2.category == 2)))) : lvh ls' nL (kst lv i v) := by
  have e : lv.filter (fun q => !(q.1 == i) && !(q.1 + 1 == i && q.2.category == 2)) = lv.filter (fun q => !(q.1 == i)) := by
    apply List.filter_congr
    intro q hq
    rw [hl.2 q hq]
    simp
  rw [e] at h
  refine ⟨h, fun q hq => ?_⟩
  rcases List.mem_cons.mp hq with rfl | hq
  · exact hv
  · exact hl.2 q (List.mem_filter.mp hq).1
theorem va_rf_cat (x : Option Nat) : (va_rf x).category = 1 := by cases x <;> rfl
/-- what stays the same in a method's walk -/
def kC (w : kW) (p : Program) (s : State) (m : MethodId) (args : Array Value) (meth : Method) (c : Code) (cc : ByteArray) (nL : Nat) (own : String) : Prop :=
  p.tables.exec = Jvm.exec ∧ c.code = cc ∧ c.maxLocals = nL ∧ s.vm.findClass own = some m.cls ∧ (∀ x ∈ TB, x.before args s = true) ∧ va_K w.1 vwCl (kt w) s ∧ meth.locks = false ∧ w.2.2.2.2 ≤ s.heap.size ∧ w.2.2.2.1 = kN
/-- from the state σ, at pc, with these locals and this stack, the machine comes to Q -/
def kG (w : kW) (p : Program) (l : Launch) (e : Env) (R : Room) (s : State) (m : MethodId) (args : Array Value) (below : List Frame) (meth : Method) (c : Code) (Q : State → Prop) (nL : Nat) (σ : kS) (pc : Nat) (lv : List (Nat × Value)) (st : List Value) (cells slots : Nat) : Prop :=
  ∀ (H : Heap) (locs : List Loc) (ls : Array Slot), kH w (kF σ) H → va_S (kA w) s.heap H locs → lvh ls nL lv → W p l e R s m args below meth c H locs cells slots Q (F0 m pc ls st)
theorem k_iconst (K : kC w p s m args meth c cc nL own) {n : Int} (d : decode cc pc = .ok (.iconst n, 1)) {v : Int32} (hv : Int32.ofInt n = v) (k : kG w p l e R s m args below meth c Q nL σ (pc + 1) lv (.int v :: st) cells slots) : kG w p l e R s m args below meth c Q nL σ pc lv st cells slots :=
  fun H locs ls hH hS hl => lv_iconst K.1 K.2.1 d hv (k H locs ls hH hS hl)
theorem k_bipush (K : kC w p s m args meth c cc nL own) {n : Int} (d : decode cc pc = .ok (.bipush n, 2)) {v : Int32} (hv : (Int8.ofInt n).toInt32 = v) (k : kG w p l e R s m args below meth c Q nL σ (pc + 2) lv (.int v :: st) cells slots) : kG w p l e R s m args below meth c Q nL σ pc lv st cells slots :=
  fun H locs ls hH hS hl => lv_bipush K.1 K.2.1 d hv (k H locs ls hH hS hl)
theorem k_sipush (K : kC w p s m args meth c cc nL own) {n : Int} (d : decode cc pc = .ok (.sipush n, 3)) {v : Int32} (hv : (Int16.ofInt n).toInt32 = v) (k : kG w p l e R s m args below meth c Q nL σ (pc + 3) lv (.int v :: st) cells slots) : kG w p l e R s m args below meth c Q nL σ pc lv st cells slots :=
  fun H locs ls hH hS hl => lv_sipush K.1 K.2.1 d hv (k H locs ls hH hS hl)
theorem k_null (K : kC w p s m args meth c cc nL own) (d : decode cc pc = .ok (.aconst_null, 1)) (k : kG w p l e R s m args below meth c Q nL σ (pc + 1) lv (.null :: st) cells slots) : kG w p l e R s m args below meth c Q nL σ pc lv st cells slots :=
  fun H locs ls hH hS hl => lv_null K.1 K.2.1 d (k H locs ls hH hS hl)
theorem k_iload_n (K : kC w p s m args meth c cc nL own) {j : Fin 4} (d : decode cc pc = .ok (.iload_n j, 1)) (i : Nat) {x : Int32} (hx : lv[i]? = some ((j : Nat), .int x)) (k : kG w p l e R s m args below meth c Q nL σ (pc + 1) lv (.int x :: st) cells slots) : kG w p l e R s m args below meth c Q nL σ pc lv st cells slots :=
  fun H locs ls hH hS hl => lv_iload_n K.1 K.2.1 d rfl (lv_at hl.1 i hx) (k H locs ls hH hS hl)
theorem k_iload (K : kC w p s m args meth c cc nL own) {j : Nat} (d : decode cc pc = .ok (.iload j, 2)) (i : Nat) {x : Int32} (hx : lv[i]? = some (j, .int x)) (k : kG w p l e R s m args below meth c Q nL σ (pc + 2) lv (.int x :: st) cells slots) : kG w p l e R s m args below meth c Q nL σ pc lv st cells slots :=
  fun H locs ls hH hS hl => lv_iload K.1 K.2.1 d (lv_at hl.1 i hx) (k H locs ls hH hS hl)
theorem k_aload_n (K : kC w p s m args meth c cc nL own) {j : Fin 4} (d : decode cc pc = .ok (.aload_n j, 1)) (i : Nat) {x : Nat} (hx : lv[i]? = some ((j : Nat), .ref x)) (k : kG w p l e R s m args below meth c Q nL σ (pc + 1) lv (.ref x :: st) cells slots) : kG w p l e R s m args below meth c Q nL σ pc lv st cells slots :=
  fun H locs ls hH hS hl => lv_aload_n K.1 K.2.1 d rfl (lv_at hl.1 i hx) (k H locs ls hH hS hl)
theorem k_aload (K : kC w p s m args meth c cc nL own) {j : Nat} (d : decode cc pc = .ok (.aload j, 2)) (i : Nat) {x : Nat} (hx : lv[i]? = some (j, .ref x)) (k : kG w p l e R s m args below meth c Q nL σ (pc + 2) lv (.ref x :: st) cells slots) : kG w p l e R s m args below meth c Q nL σ pc lv st cells slots :=
  fun H locs ls hH hS hl => lv_aload K.1 K.2.1 d (lv_at hl.1 i hx) (k H locs ls hH hS hl)
theorem k_aload_nQ (K : kC w p s m args meth c cc nL own) {j : Fin 4} (d : decode cc pc = .ok (.aload_n j, 1)) (i : Nat) {x : Option Nat} (hx : lv[i]? = some ((j : Nat), va_rf x)) (k : kG w p l e R s m args below meth c Q nL σ (pc + 1) lv (va_rf x :: st) cells slots) : kG w p l e R s m args below meth c Q nL σ pc lv st cells slots := by
  intro H locs ls hH hS hl
  cases x with
  | none => exact lv_aload_nN K.1 K.2.1 d rfl (lv_at hl.1 i hx) (k H locs ls hH hS hl)
  | some x => exact lv_aload_n K.1 K.2.1 d rfl (lv_at hl.1 i hx) (k H locs ls hH hS hl)
theorem k_aloadQ (K : kC w p s m args meth c cc nL own) {j : Nat} (d : decode cc pc = .ok (.aload j, 2)) (i : Nat) {x : Option Nat} (hx : lv[i]? = some (j, va_rf x)) (k : kG w p l e R s m args below meth c Q nL σ (pc + 2) lv (va_rf x :: st) cells slots) : kG w p l e R s m args below meth c Q nL σ pc lv st cells slots := by
  intro H locs ls hH hS hl
  cases x with
  | none => exact lv_aloadN K.1 K.2.1 d (lv_at hl.1 i hx) (k H locs ls hH hS hl)
  | some x => exact lv_aload K.1 K.2.1 d (lv_at hl.1 i hx) (k H locs ls hH hS hl)
theorem k_istore_n (K : kC w p s m args meth c cc nL own) {j : Fin 4} (d : decode cc pc = .ok (.istore_n j, 1)) {x : Int32} (hj : (j : Nat) < nL) (hl' : kst lv j (.int x) = lv') (k : kG w p l e R s m args below meth c Q nL σ (pc + 1) lv' st cells slots) : kG w p l e R s m args below meth c Q nL σ pc lv (.int x :: st) cells slots :=
  fun H locs ls hH hS hl => lv_istore_n K.1 K.2.1 d rfl hl.1 hj rfl (fun ls hl2 => k H locs ls hH hS (hl' ▸ lvh_st hl rfl hl2))
theorem k_istore (K : kC w p s m args meth c cc nL own) {j : Nat} (d : decode cc pc = .ok (.istore j, 2)) {x : Int32} (hj : j < nL) (hl' : kst lv j (.int x) = lv') (k : kG w p l e R s m args below meth c Q nL σ (pc + 2) lv' st cells slots) : kG w p l e R s m args below meth c Q nL σ pc lv (.int x :: st) cells slots :=
  fun H locs ls hH hS hl => lv_istore K.1 K.2.1 d hl.1 hj rfl (fun ls hl2 => k H locs ls hH hS (hl' ▸ lvh_st hl rfl hl2))
theorem k_astore_n (K : kC w p s m args meth c cc nL own) {j : Fin 4} (d : decode cc pc = .ok (.astore_n j, 1)) {x : Nat} (hj : (j : Nat) < nL) (hl' : kst lv j (.ref x) = lv') (k : kG w p l e R s m args below meth c Q nL σ (pc + 1) lv' st cells slots) : kG w p l e R s m args below meth c Q nL σ pc lv (.ref x :: st) cells slots :=
  fun H locs ls hH hS hl => lv_astore_n K.1 K.2.1 d rfl hl.1 hj rfl (fun ls hl2 => k H locs ls hH hS (hl' ▸ lvh_st hl rfl hl2))
theorem k_astore (K : kC w p s m args meth c cc nL own) {j : Nat} (d : decode cc pc = .ok (.astore j, 2)) {x : Nat} (hj : j < nL) (hl' : kst lv j (.ref x) = lv') (k : kG w p l e R s m args below meth c Q nL σ (pc + 2) lv' st cells slots) : kG w p l e R s m args below meth c Q nL σ pc lv (.ref x :: st) cells slots :=
  fun H locs ls hH hS hl => lv_astore K.1 K.2.1 d hl.1 hj rfl (fun ls hl2 => k H locs ls hH hS (hl' ▸ lvh_st hl rfl hl2))
theorem k_astore_nQ (K : kC w p s m args meth c cc nL own) {j : Fin 4} (d : decode cc pc = .ok (.astore_n j, 1)) {x : Option Nat} (hj : (j : Nat) < nL) (hl' : kst lv j (va_rf x) = lv') (k : kG w p l e R s m args below meth c Q nL σ (pc + 1) lv' st cells slots) : kG w p l e R s m args below meth c Q nL σ pc lv (va_rf x :: st) cells slots := by
  intro H locs ls hH hS hl
  cases x with
  | none => exact lv_astore_nN K.1 K.2.1 d rfl hl.1 hj rfl (fun ls hl2 => k H locs ls hH hS (hl' ▸ lvh_st hl rfl hl2))
  | some x => exact lv_astore_n K.1 K.2.1 d rfl hl.1 hj rfl (fun ls hl2 => k H locs ls hH hS (hl' ▸ lvh_st hl rfl hl2))
theorem k_astoreQ (K : kC w p s m args meth c cc nL own) {j : Nat} (d : decode cc pc = .ok (.astore j, 2)) {x : Option Nat} (hj : j < nL) (hl' : kst lv j (va_rf x) = lv') (k : kG w p l e R s m args below meth c Q nL σ (pc + 2) lv' st cells slots) : kG w p l e R s m args below meth c Q nL σ pc lv (va_rf x :: st) cells slots := by
  intro H locs ls hH hS hl
  cases x with
  | none => exact lv_astoreN K.1 K.2.1 d hl.1 hj rfl (fun ls hl2 => k H locs ls hH hS (hl' ▸ lvh_st hl rfl hl2))
  | some x => exact lv_astore K.1 K.2.1 d hl.1 hj rfl (fun ls hl2 => k H locs ls hH hS (hl' ▸ lvh_st hl rfl hl2))
theorem k_iinc (K : kC w p s m args meth c cc nL own) {j : Nat} {n : Int} (d : decode cc pc = .ok (.iinc j n, 3)) (i : Nat) {x v : Int32} (hx : lv[i]? = some (j, .int x)) (hv : Int32.ofInt n = v) (hj : j < nL) (hl' : kst lv j (.int (x + v)) = lv') (k : kG w p l e R s m args below meth c Q nL σ (pc + 3) lv' st cells slots) : kG w p l e R s m args below meth c Q nL σ pc lv st cells slots :=
  fun H locs ls hH hS hl => lv_iinc K.1 K.2.1 d hl.1 hx (by rw [hv]) hj rfl (fun ls hl2 => k H locs ls hH hS (hl' ▸ lvh_st hl rfl hl2))
theorem k_iadd (K : kC w p s m args meth c cc nL own) {x y : Int32} (d : decode cc pc = .ok (.iadd, 1)) (k : kG w p l e R s m args below meth c Q nL σ (pc + 1) lv (.int (x + y) :: st) cells slots) : kG w p l e R s m args below meth c Q nL σ pc lv (.int y :: .int x :: st) cells slots :=
  fun H locs ls hH hS hl => lv_iadd K.1 K.2.1 d (k H locs ls hH hS hl)
theorem k_isub (K : kC w p s m args meth c cc nL own) {x y : Int32} (d : decode cc pc = .ok (.isub, 1)) (k : kG w p l e R s m args below meth c Q nL σ (pc + 1) lv (.int (x - y) :: st) cells slots) : kG w p l e R s m args below meth c Q nL σ pc lv (.int y :: .int x :: st) cells slots :=
  fun H locs ls hH hS hl => lv_isub K.1 K.2.1 d (k H locs ls hH hS hl)
theorem k_imul (K : kC w p s m args meth c cc nL own) {x y : Int32} (d : decode cc pc = .ok (.imul, 1)) (k : kG w p l e R s m args below meth c Q nL σ (pc + 1) lv (.int (x * y) :: st) cells slots) : kG w p l e R s m args below meth c Q nL σ pc lv (.int y :: .int x :: st) cells slots :=
  fun H locs ls hH hS hl => lv_imul K.1 K.2.1 d (k H locs ls hH hS hl)
theorem k_iand (K : kC w p s m args meth c cc nL own) {x y : Int32} (d : decode cc pc = .ok (.iand, 1)) (k : kG w p l e R s m args below meth c Q nL σ (pc + 1) lv (.int (x &&& y) :: st) cells slots) : kG w p l e R s m args below meth c Q nL σ pc lv (.int y :: .int x :: st) cells slots :=
  fun H locs ls hH hS hl => lv_iand K.1 K.2.1 d (k H locs ls hH hS hl)
theorem k_ior (K : kC w p s m args meth c cc nL own) {x y : Int32} (d : decode cc pc = .ok (.ior, 1)) (k : kG w p l e R s m args below meth c Q nL σ (pc + 1) lv (.int (x ||| y) :: st) cells slots) : kG w p l e R s m args below meth c Q nL σ pc lv (.int y :: .int x :: st) cells slots :=
  fun H locs ls hH hS hl => lv_ior K.1 K.2.1 d (k H locs ls hH hS hl)
theorem k_ixor (K : kC w p s m args meth c cc nL own) {x y : Int32} (d : decode cc pc = .ok (.ixor, 1)) (k : kG w p l e R s m args below meth c Q nL σ (pc + 1) lv (.int (x ^^^ y) :: st) cells slots) : kG w p l e R s m args below meth c Q nL σ pc lv (.int y :: .int x :: st) cells slots :=
  fun H locs ls hH hS hl => lv_ixor K.1 K.2.1 d (k H locs ls hH hS hl)
theorem k_irem (K : kC w p s m args meth c cc nL own) {x y : Int32} (d : decode cc pc = .ok (.irem, 1)) (hy : ¬ y = 0) (k : kG w p l e R s m args below meth c Q nL σ (pc + 1) lv (.int (x - x / y * y) :: st) cells slots) : kG w p l e R s m args below meth c Q nL σ pc lv (.int y :: .int x :: st) cells slots :=
  fun H locs ls hH hS hl => lv_irem K.1 K.2.1 d hy (k H locs ls hH hS hl)
theorem k_ishl (K : kC w p s m args meth c cc nL own) {x y : Int32} (d : decode cc pc = .ok (.ishl, 1)) (k : kG w p l e R s m args below meth c Q nL σ (pc + 1) lv (.int (x <<< (y &&& 31)) :: st) cells slots) : kG w p l e R s m args below meth c Q nL σ pc lv (.int y :: .int x :: st) cells slots :=
  fun H locs ls hH hS hl => lv_ishl K.1 K.2.1 d (k H locs ls hH hS hl)
theorem k_i2l (K : kC w p s m args meth c cc nL own) {x : Int32} (d : decode cc pc = .ok (.i2l, 1)) (k : kG w p l e R s m args below meth c Q nL σ (pc + 1) lv (.long x.toInt64 :: st) cells slots) : kG w p l e R s m args below meth c Q nL σ pc lv (.int x :: st) cells slots :=
  fun H locs ls hH hS hl => lv_i2l K.1 K.2.1 d rfl (k H locs ls hH hS hl)
theorem k_dup (K : kC w p s m args meth c cc nL own) {a : Value} (d : decode cc pc = .ok (.dup, 1)) (ha : a.category = 1) (k : kG w p l e R s m args below meth c Q nL σ (pc + 1) lv (a :: a :: st) cells slots) : kG w p l e R s m args below meth c Q nL σ pc lv (a :: st) cells slots :=
  fun H locs ls hH hS hl => lv_dup K.1 K.2.1 d ha (k H locs ls hH hS hl)
theorem k_dup2 (K : kC w p s m args meth c cc nL own) {a b : Value} (d : decode cc pc = .ok (.dup2, 1)) (ha : a.category = 1) (hb : b.category = 1) (k : kG w p l e R s m args below meth c Q nL σ (pc + 1) lv (a :: b :: a :: b :: st) cells slots) : kG w p l e R s m args below meth c Q nL σ pc lv (a :: b :: st) cells slots :=
  fun H locs ls hH hS hl => lv_dup2_11 K.1 K.2.1 d ha hb (k H locs ls hH hS hl)
theorem k_pop (K : kC w p s m args meth c cc nL own) {a : Value} (d : decode cc pc = .ok (.pop, 1)) (ha : a.category = 1) (k : kG w p l e R s m args below meth c Q nL σ (pc + 1) lv st cells slots) : kG w p l e R s m args below meth c Q nL σ pc lv (a :: st) cells slots :=
  fun H locs ls hH hS hl => lv_pop K.1 K.2.1 d ha (k H locs ls hH hS hl)
theorem k_goto (K : kC w p s m args meth c cc nL own) {off : Int} (tgt : Nat) (d : decode cc pc = .ok (.goto off, 3)) (ht : (pc : Int) + off = (tgt : Int)) (k : kG w p l e R s m args below meth c Q nL σ tgt lv st cells slots) : kG w p l e R s m args below meth c Q nL σ pc lv st cells slots :=
  fun H locs ls hH hS hl => lv_goto K.1 K.2.1 d ht (k H locs ls hH hS hl)
theorem k_icmp_eq (K : kC w p s m args meth c cc nL own) {x y : Int32} {off : Int} (tgt : Nat) (d : decode cc pc = .ok (.if_icmp .eq off, 3)) (ht : (pc : Int) + off = (tgt : Int)) (kt : x = y → kG w p l e R s m args below meth c Q nL σ tgt lv st cells slots) (kf : ¬ x = y → kG w p l e R s m args below meth c Q nL σ (pc + 3) lv st cells slots) : kG w p l e R s m args below meth c Q nL σ pc lv (.int y :: .int x :: st) cells slots :=
  fun H locs ls hH hS hl => lv_icmp_eq K.1 K.2.1 d ht (fun h => kt h H locs ls hH hS hl) (fun h => kf h H locs ls hH hS hl)
theorem k_if_eq (K : kC w p s m args meth c cc nL own) {x : Int32} {off : Int} (tgt : Nat) (d : decode cc pc = .ok (.ifCond .eq off, 3)) (ht : (pc : Int) + off = (tgt : Int)) (kt : x = 0 → kG w p l e R s m args below meth c Q nL σ tgt lv st cells slots) (kf : ¬ x = 0 → kG w p l e R s m args below meth c Q nL σ (pc + 3) lv st cells slots) : kG w p l e R s m args below meth c Q nL σ pc lv (.int x :: st) cells slots :=
  fun H locs ls hH hS hl => lv_if_eq K.1 K.2.1 d ht (fun h => kt h H locs ls hH hS hl) (fun h => kf h H locs ls hH hS hl)
theorem k_icmp_ne (K : kC w p s m args meth c cc nL own) {x y : Int32} {off : Int} (tgt : Nat) (d : decode cc pc = .ok (.if_icmp .ne off, 3)) (ht : (pc : Int) + off = (tgt : Int)) (kt : ¬ x = y → kG w p l e R s m args below meth c Q nL σ tgt lv st cells slots) (kf : x = y → kG w p l e R s m args below meth c Q nL σ (pc + 3) lv st cells slots) : kG w p l e R s m args below meth c Q nL σ pc lv (.int y :: .int x :: st) cells slots :=
  fun H locs ls hH hS hl => lv_icmp_ne K.1 K.2.1 d ht (fun h => kt h H locs ls hH hS hl) (fun h => kf h H locs ls hH hS hl)
theorem k_if_ne (K : kC w p s m args meth c cc nL own) {x : Int32} {off : Int} (tgt : Nat) (d : decode cc pc = .ok (.ifCond .ne off, 3)) (ht : (pc : Int) + off = (tgt : Int)) (kt : ¬ x = 0 → kG w p l e R s m args below meth c Q nL σ tgt lv st cells slots) (kf : x = 0 → kG w p l e R s m args below meth c Q nL σ (pc + 3) lv st cells slots) : kG w p l e R s m args below meth c Q nL σ pc lv (.int x :: st) cells slots :=
  fun H locs ls hH hS hl => lv_if_ne K.1 K.2.1 d ht (fun h => kt h H locs ls hH hS hl) (fun h => kf h H locs ls hH hS hl)
theorem k_icmp_lt (K : kC w p s m args meth c cc nL own) {x y : Int32} {off : Int} (tgt : Nat) (d : decode cc pc = .ok (.if_icmp .lt off, 3)) (ht : (pc : Int) + off = (tgt : Int)) (kt : x < y → kG w p l e R s m args below meth c Q nL σ tgt lv st cells slots) (kf : ¬ x < y → kG w p l e R s m args below meth c Q nL σ (pc + 3) lv st cells slots) : kG w p l e R s m args below meth c Q nL σ pc lv (.int y :: .int x :: st) cells slots :=
  fun H locs ls hH hS hl => lv_icmp_lt K.1 K.2.1 d ht (fun h => kt h H locs ls hH hS hl) (fun h => kf h H locs ls hH hS hl)
theorem k_if_lt (K : kC w p s m args meth c cc nL own) {x : Int32} {off : Int} (tgt : Nat) (d : decode cc pc = .ok (.ifCond .lt off, 3)) (ht : (pc : Int) + off = (tgt : Int)) (kt : x < 0 → kG w p l e R s m args below meth c Q nL σ tgt lv st cells slots) (kf : ¬ x < 0 → kG w p l e R s m args below meth c Q nL σ (pc + 3) lv st cells slots) : kG w p l e R s m args below meth c Q nL σ pc lv (.int x :: st) cells slots :=
  fun H locs ls hH hS hl => lv_if_lt K.1 K.2.1 d ht (fun h => kt h H locs ls hH hS hl) (fun h => kf h H locs ls hH hS hl)
theorem k_icmp_ge (K : kC w p s m args meth c cc nL own) {x y : Int32} {off : Int} (tgt : Nat) (d : decode cc pc = .ok (.if_icmp .ge off, 3)) (ht : (pc : Int) + off = (tgt : Int)) (kt : y ≤ x → kG w p l e R s m args below meth c Q nL σ tgt lv st cells slots) (kf : ¬ y ≤ x → kG w p l e R s m args below meth c Q nL σ (pc + 3) lv st cells slots) : kG w p l e R s m args below meth c Q nL σ pc lv (.int y :: .int x :: st) cells slots :=
  fun H locs ls hH hS hl => lv_icmp_ge K.1 K.2.1 d ht (fun h => kt h H locs ls hH hS hl) (fun h => kf h H locs ls hH hS hl)
theorem k_if_ge (K : kC w p s m args meth c cc nL own) {x : Int32} {off : Int} (tgt : Nat) (d : decode cc pc = .ok (.ifCond .ge off, 3)) (ht : (pc : Int) + off = (tgt : Int)) (kt : 0 ≤ x → kG w p l e R s m args below meth c Q nL σ tgt lv st cells slots) (kf : ¬ 0 ≤ x → kG w p l e R s m args below meth c Q nL σ (pc + 3) lv st cells slots) : kG w p l e R s m args below meth c Q nL σ pc lv (.int x :: st) cells slots :=
  fun H locs ls hH hS hl => lv_if_ge K.1 K.2.1 d ht (fun h => kt h H locs ls hH hS hl) (fun h => kf h H locs ls hH hS hl)
theorem k_icmp_gt (K : kC w p s m args meth c cc nL own) {x y : Int32} {off : Int} (tgt : Nat) (d : decode cc pc = .ok (.if_icmp .gt off, 3)) (ht : (pc : Int) + off = (tgt : Int)) (kt : y < x → kG w p l e R s m args below meth c Q nL σ tgt lv st cells slots) (kf : ¬ y < x → kG w p l e R s m args below meth c Q nL σ (pc + 3) lv st cells slots) : kG w p l e R s m args below meth c Q nL σ pc lv (.int y :: .int x :: st) cells slots :=
  fun H locs ls hH hS hl => lv_icmp_gt K.1 K.2.1 d ht (fun h => kt h H locs ls hH hS hl) (fun h => kf h H locs ls hH hS hl)
theorem k_if_gt (K : kC w p s m args meth c cc nL own) {x : Int32} {off : Int} (tgt : Nat) (d : decode cc pc = .ok (.ifCond .gt off, 3)) (ht : (pc : Int) + off = (tgt : Int)) (kt : 0 < x → kG w p l e R s m args below meth c Q nL σ tgt lv st cells slots) (kf : ¬ 0 < x → kG w p l e R s m args below meth c Q nL σ (pc + 3) lv st cells slots) : kG w p l e R s m args below meth c Q nL σ pc lv (.int x :: st) cells slots :=
  fun H locs ls hH hS hl => lv_if_gt K.1 K.2.1 d ht (fun h => kt h H locs ls hH hS hl) (fun h => kf h H locs ls hH hS hl)
theorem k_icmp_le (K : kC w p s m args meth c cc nL own) {x y : Int32} {off : Int} (tgt : Nat) (d : decode cc pc = .ok (.if_icmp .le off, 3)) (ht : (pc : Int) + off = (tgt : Int)) (kt : x ≤ y → kG w p l e R s m args below meth c Q nL σ tgt lv st cells slots) (kf : ¬ x ≤ y → kG w p l e R s m args below meth c Q nL σ (pc + 3) lv st cells slots) : kG w p l e R s m args below meth c Q nL σ pc lv (.int y :: .int x :: st) cells slots :=
  fun H locs ls hH hS hl => lv_icmp_le K.1 K.2.1 d ht (fun h => kt h H locs ls hH hS hl) (fun h => kf h H locs ls hH hS hl)
theorem k_if_le (K : kC w p s m args meth c cc nL own) {x : Int32} {off : Int} (tgt : Nat) (d : decode cc pc = .ok (.ifCond .le off, 3)) (ht : (pc : Int) + off = (tgt : Int)) (kt : x ≤ 0 → kG w p l e R s m args below meth c Q nL σ tgt lv st cells slots) (kf : ¬ x ≤ 0 → kG w p l e R s m args below meth c Q nL σ (pc + 3) lv st cells slots) : kG w p l e R s m args below meth c Q nL σ pc lv (.int x :: st) cells slots :=
  fun H locs ls hH hS hl => lv_if_le K.1 K.2.1 d ht (fun h => kt h H locs ls hH hS hl) (fun h => kf h H locs ls hH hS hl)
theorem k_ifnull (K : kC w p s m args meth c cc nL own) {a : Nat} {off : Int} (d : decode cc pc = .ok (.ifnull off, 3)) (k : kG w p l e R s m args below meth c Q nL σ (pc + 3) lv st cells slots) : kG w p l e R s m args below meth c Q nL σ pc lv (.ref a :: st) cells slots :=
  fun H locs ls hH hS hl => lv_ifnull K.1 K.2.1 d (k H locs ls hH hS hl)
theorem k_ifnullN (K : kC w p s m args meth c cc nL own) {off : Int} (tgt : Nat) (d : decode cc pc = .ok (.ifnull off, 3)) (ht : (pc : Int) + off = (tgt : Int)) (k : kG w p l e R s m args below meth c Q nL σ tgt lv st cells slots) : kG w p l e R s m args below meth c Q nL σ pc lv (.null :: st) cells slots :=
  fun H locs ls hH hS hl => lv_ifnullN K.1 K.2.1 d ht (k H locs ls hH hS hl)
theorem k_ifnonnull (K : kC w p s m args meth c cc nL own) {a : Nat} {off : Int} (tgt : Nat) (d : decode cc pc = .ok (.ifnonnull off, 3)) (ht : (pc : Int) + off = (tgt : Int)) (k : kG w p l e R s m args below meth c Q nL σ tgt lv st cells slots) : kG w p l e R s m args below meth c Q nL σ pc lv (.ref a :: st) cells slots :=
  fun H locs ls hH hS hl => lv_ifnonnull K.1 K.2.1 d ht (k H locs ls hH hS hl)
theorem k_ifnonnullN (K : kC w p s m args meth c cc nL own) {off : Int} (d : decode cc pc = .ok (.ifnonnull off, 3)) (k : kG w p l e R s m args below meth c Q nL σ (pc + 3) lv st cells slots) : kG w p l e R s m args below meth c Q nL σ pc lv (.null :: st) cells slots :=
  fun H locs ls hH hS hl => lv_ifnonnullN K.1 K.2.1 d (k H locs ls hH hS hl)
/-! ===== fields and arrays ===== -/
theorem kC.ex (K : kC w p s m args meth c cc nL own) : p.tables.exec = Jvm.exec := K.1
theorem kC.by (K : kC w p s m args meth c cc nL own) : c.code = cc := K.2.1
theorem kC.ml (K : kC w p s m args meth c cc nL own) : c.maxLocals = nL := K.2.2.1
theorem kC.ow (K : kC w p s m args meth c cc nL own) : s.vm.findClass own = some m.cls := K.2.2.2.1
theorem kC.ts (K : kC w p s m args meth c cc nL own) : ∀ x ∈ TB, x.before args s = true := K.2.2.2.2.1
theorem kC.kk (K : kC w p s m args meth c cc nL own) : va_K w.1 vwCl (kt w) s := K.2.2.2.2.2.1
theorem kC.lk (K : kC w p s m args meth c cc nL own) : meth.locks = false := K.2.2.2.2.2.2.1
theorem kC.b0 (K : kC w p s m args meth c cc nL own) : w.2.2.2.2 ≤ s.heap.size := K.2.2.2.2.2.2.2.1
theorem kC.nn (K : kC w p s m args meth c cc nL own) : w.2.2.2.1 = kN := K.2.2.2.2.2.2.2.2
theorem kC.lt (K : kC w p s m args meth c cc nL own) {a : Nat} {x : Nat × Nat × Nat} (h : kd a = x) (hx : x.1 ≠ 9) : a < w.2.2.2.1 := by
  rw [K.nn]; exact kd_lt (by rw [h]; exact hx)
theorem kC.o (K : kC w p s m args meth c cc nL own) (σ : kS) {a ci n : Nat} (h : kd a = (0, ci, n)) : (kws w σ)[a]? = some (kL w a, .inr (ci, (List.range n).map fun k => bif kr ci k then va_rf ((σ.2.1 a k).map w.2.2.1) else .int (σ.1 a k))) := by
  rw [kws_at w σ (K.lt h (by simp)), kE_o w σ h]
theorem kC.i (K : kC w p s m args meth c cc nL own) (σ : kS) {a x n : Nat} (h : kd a = (1, x, n)) : (kws w σ)[a]? = some (kL w a, .inl (w.2.1 0, n, .inl (σ.1 a))) := by
  rw [kws_at w σ (K.lt h (by simp)), kE_i w σ h]
theorem kC.z (K : kC w p s m args meth c cc nL own) (σ : kS) {a x n : Nat} (h : kd a = (2, x, n)) : (kws w σ)[a]? = some (kL w a, .inl (w.2.1 1, n, .inl (σ.1 a))) := by
  rw [kws_at w σ (K.lt h (by simp)), kE_z w σ h]
theorem kC.r (K : kC w p s m args meth c cc nL own) (σ : kS) {a x n : Nat} (h : kd a = (3, x, n)) : (kws w σ)[a]? = some (kL w a, .inl (w.2.1 2, n, .inr (.inr (.inr (.inr fun j => (σ.2.1 a j).map w.2.2.1))))) := by
  rw [kws_at w σ (K.lt h (by simp)), kE_r w σ h]
theorem kC.j (K : kC w p s m args meth c cc nL own) (σ : kS) {a x n : Nat} (h : kd a = (4, x, n)) : (kws w σ)[a]? = some (kL w a, .inl (w.2.1 3, n, .inr (.inl (σ.2.2 a)))) := by
  rw [kws_at w σ (K.lt h (by simp)), kE_j w σ h]
theorem k_getI (K : kC w p s m args meth c cc nL own) {a ci n idx k : Nat} {C : String} {T : u_T} (d : decode cc pc = .ok (.getfield idx, 3)) (hd : kd a = (0, ci, n)) (hc : vwCl[ci]? = some (C, T, n)) (hin : ∀ x ∈ u_ws C T n, x ∈ TB) (hk : k < n) (hr : kr ci k = false) (hl : Cond.fieldLink own idx (T k).1 (T k).2.1 (T k).2.2.1 ∈ TB)
    (kk : kG w p l e R s m args below meth c Q nL σ (pc + 3) lv (.int (σ.1 a k) :: st) cells slots) : kG w p l e R s m args below meth c Q nL σ pc lv (.ref (kL w a) :: st) cells slots := by
  intro H locs ls hH hS hv
  refine va_get (v := .int (σ.1 a k)) K.ex K.by K.ts hin K.ow K.kk hH.1 a (K.o (kF σ) hd) hc k hk (K.ts _ hl) (fun _ h => h) ?_ d (kk H locs ls hH hS hv)
  rw [List.getElem?_map, List.getElem?_range hk]
  simp only [Option.map_some, hr, cond_false]
  rfl
theorem k_getR (K : kC w p s m args meth c cc nL own) {a ci n idx k b : Nat} {C : String} {T : u_T} (d : decode cc pc = .ok (.getfield idx, 3)) (hd : kd a = (0, ci, n)) (hc : vwCl[ci]? = some (C, T, n)) (hin : ∀ x ∈ u_ws C T n, x ∈ TB) (hk : k < n) (hr : kr ci k = true) (hb : kfin a ci k = b) (hl : Cond.fieldLink own idx (T k).1 (T k).2.1 (T k).2.2.1 ∈ TB)
    (kk : kG w p l e R s m args below meth c Q nL σ (pc + 3) lv (.ref (kL w b) :: st) cells slots) : kG w p l e R s m args below meth c Q nL σ pc lv (.ref (kL w a) :: st) cells slots := by
  intro H locs ls hH hS hv
  refine va_get (v := .ref (kL w b)) K.ex K.by K.ts hin K.ow K.kk hH.1 a (K.o (kF σ) hd) hc k hk (K.ts _ hl) (fun _ h => h) ?_ d (kk H locs ls hH hS hv)
  rw [List.getElem?_map, List.getElem?_range hk]
  simp only [Option.map_some, hr, cond_true]
  have e : (kF σ).2.1 a k = some b := by
    simp only [kF]
    rw [if_pos (by rw [hd]; exact ⟨rfl, hr⟩), hd, hb]
  rw [e]
  rfl
theorem kH_put {σ τ : kS} {a : Nat} {x : va_E} {H : Heap} (hn : ∀ b, b ≠ a → kE w τ b = kE w σ b) (he : kE w τ a = x) (hP : va_P w.1 vwCl ((kws w σ).set a (kL w a, x)) H) (hD : va_D (kA w) ((kws w σ).set a (kL w a, x))) : kH w τ H := by
  subst he
  rw [kws_set w hn] at hP hD
  exact ⟨hP, hD⟩
theorem k_putI (K : kC w p s m args meth c cc nL own) {a ci n idx k : Nat} {C : String} {T : u_T} {ty : Nat → FieldType} {v : Int32} (d : decode cc pc = .ok (.putfield idx, 3)) (hd : kd a = (0, ci, n)) (hc : vwCl[ci]? = some (C, T, n)) (hin : ∀ x ∈ u_ws C T n, x ∈ TB) (hty : ∀ k, k < n → parseFieldDescriptor (T k).2.2.1 = some (ty k)) (hnm : ∀ a, a < n → ∀ b, b < n → a ≠ b → (T a).2.1 ≠ (T b).2.1) (hk : k < n) (hr : kr ci k = false) (hl : Cond.fieldLink own idx (T k).1 (T k).2.1 (T k).2.2.1 ∈ TB) (hf : (T k).2.2.2 = false) (hw : narrow (ty k) (.int v) = .int v) (hft : fits (ty k) (.int v) = true)
    (kk : kG w p l e R s m args below meth c Q nL (sI σ a k v) (pc + 3) lv st cells slots) : kG w p l e R s m args below meth c Q nL σ pc lv (.int v :: .ref (kL w a) :: st) cells slots := by
  intro H locs ls hH hS hv
  refine va_put (v := .int v) (ty := ty k) K.ex K.by K.ts hin ty hty hnm K.ow K.kk hH.1 hH.2 hS a (K.o (kF σ) hd) hc k hk (K.ts _ hl) (fun _ h => h) hf (hty k hk) hw hft (by simpa using hk) d (fun H1 locs1 hP hD hS1 => ?_)
  refine kk H1 locs1 ls ?_ hS1 hv
  rw [kF_sI]
  refine kH_put (fun b hb => kE_sI w (kF σ) a k v b hb) ?_ hP hD
  rw [kE_o w _ hd]
  congr 2
  apply List.ext_getElem?
  intro j
  rw [List.getElem?_set]
  simp only [List.length_map, List.length_range, List.getElem?_map]
  by_cases hj : j < n
  · rw [List.getElem?_range hj]
    simp only [Option.map_some]
    by_cases e : k = j
    · subst e
      simp [hj, hr, sI]
    · have e1 : (sI (kF σ) a k v).1 a j = (kF σ).1 a j := by simp [sI]; exact fun h => absurd h.symm e
      have e2 : (sI (kF σ) a k v).2 = (kF σ).2 := rfl
      rw [if_neg e, e1, e2]
  · rw [List.getElem?_eq_none (by simpa using hj)]
    by_cases e : k = j
    · exact absurd (e ▸ hk) hj
    · rw [if_neg e]; rfl
theorem kt0 (w : kW) : (kt w)[0]? = some (w.2.1 0, .int) := rfl
theorem kt1 (w : kW) : (kt w)[1]? = some (w.2.1 1, .boolean) := rfl
theorem kt2 (w : kW) : (kt w)[2]? = some (w.2.1 2, .object RX0) := rfl
theorem kt3 (w : kW) : (kt w)[3]? = some (w.2.1 3, .long) := rfl
theorem k_iald (K : kC w p s m args meth c cc nL own) {a x n : Nat} {i : Int32} (d : decode cc pc = .ok (.iaload, 1)) (hd : kd a = (1, x, n)) (hi : vp_in i n) (kk : kG w p l e R s m args below meth c Q nL σ (pc + 1) lv (.int (σ.1 a i.toNatClampNeg) :: st) cells slots) : kG w p l e R s m args below meth c Q nL σ pc lv (.int i :: .ref (kL w a) :: st) cells slots :=
  fun H locs ls hH hS hv => va_iald K.ex K.by K.kk hH.1 a 0 (K.i (kF σ) hd) (kt0 w) hi d (kk H locs ls hH hS hv)
theorem k_zald (K : kC w p s m args meth c cc nL own) {a x n : Nat} {i : Int32} (d : decode cc pc = .ok (.baload, 1)) (hd : kd a = (2, x, n)) (hi : vp_in i n) (kk : kG w p l e R s m args below meth c Q nL σ (pc + 1) lv (.int (σ.1 a i.toNatClampNeg) :: st) cells slots) : kG w p l e R s m args below meth c Q nL σ pc lv (.int i :: .ref (kL w a) :: st) cells slots :=
  fun H locs ls hH hS hv => va_zald K.ex K.by K.kk hH.1 a 1 (K.z (kF σ) hd) (kt1 w) hi d (kk H locs ls hH hS hv)
theorem k_aald (K : kC w p s m args meth c cc nL own) {a x n : Nat} {i : Int32} (d : decode cc pc = .ok (.aaload, 1)) (hd : kd a = (3, x, n)) (hi : vp_in i n) (kk : kG w p l e R s m args below meth c Q nL σ (pc + 1) lv (va_rf ((σ.2.1 a i.toNatClampNeg).map (kL w)) :: st) cells slots) : kG w p l e R s m args below meth c Q nL σ pc lv (.int i :: .ref (kL w a) :: st) cells slots := by
  intro H locs ls hH hS hv
  refine va_aldq K.ex K.by K.kk hH.1 a 2 (K.r (kF σ) hd) (kt2 w) hi d ?_
  have e : (kF σ).2.1 a i.toNatClampNeg = σ.2.1 a i.toNatClampNeg := by
    simp only [kF]
    rw [if_neg (by rw [hd]; exact fun h => absurd h.1 (by simp))]
  rw [e]
  exact kk H locs ls hH hS hv
theorem k_lald (K : kC w p s m args meth c cc nL own) {a x n : Nat} {i : Int32} (d : decode cc pc = .ok (.laload, 1)) (hd : kd a = (4, x, n)) (hi : vp_in i n) (kk : kG w p l e R s m args below meth c Q nL σ (pc + 1) lv (.long (σ.2.2 a i.toNatClampNeg) :: st) cells slots) : kG w p l e R s m args below meth c Q nL σ pc lv (.int i :: .ref (kL w a) :: st) cells slots :=
  fun H locs ls hH hS hv => va_lald K.ex K.by K.kk hH.1 a 3 (K.j (kF σ) hd) (kt3 w) hi d (kk H locs ls hH hS hv)
theorem k_iast (K : kC w p s m args meth c cc nL own) {a x n : Nat} {i v : Int32} (d : decode cc pc = .ok (.iastore, 1)) (hd : kd a = (1, x, n)) (hi : vp_in i n) (kk : kG w p l e R s m args below meth c Q nL (sI σ a i.toNatClampNeg v) (pc + 1) lv st cells slots) : kG w p l e R s m args below meth c Q nL σ pc lv (.int v :: .int i :: .ref (kL w a) :: st) cells slots := by
  intro H locs ls hH hS hv
  refine va_iast K.ex K.by K.kk hH.1 hH.2 hS a 0 (K.i (kF σ) hd) (kt0 w) hi d (fun H1 locs1 hP hD hS1 => ?_)
  refine kk H1 locs1 ls ?_ hS1 hv
  rw [kF_sI]
  refine kH_put (fun b hb => kE_sI w (kF σ) a _ v b hb) ?_ hP hD
  rw [kE_i w _ hd]
  congr 4
  funext j
  simp [sI, upd]
theorem k_zast (K : kC w p s m args meth c cc nL own) {a x n : Nat} {i v : Int32} (d : decode cc pc = .ok (.bastore, 1)) (hd : kd a = (2, x, n)) (hi : vp_in i n) (hz : vp_nar .boolean v = v) (kk : kG w p l e R s m args below meth c Q nL (sI σ a i.toNatClampNeg v) (pc + 1) lv st cells slots) : kG w p l e R s m args below meth c Q nL σ pc lv (.int v :: .int i :: .ref (kL w a) :: st) cells slots := by
  intro H locs ls hH hS hv
  refine va_zast K.ex K.by K.kk hH.1 hH.2 hS a 1 (K.z (kF σ) hd) (kt1 w) hi d (fun H1 locs1 hP hD hS1 => ?_)
  rw [hz] at hP hD
  refine kk H1 locs1 ls ?_ hS1 hv
  rw [kF_sI]
  refine kH_put (fun b hb => kE_sI w (kF σ) a _ v b hb) ?_ hP hD
  rw [kE_z w _ hd]
  congr 4
  funext j
  simp [sI, upd]
theorem k_last (K : kC w p s m args meth c cc nL own) {a x n : Nat} {i : Int32} {v : Int64} (d : decode cc pc = .ok (.lastore, 1)) (hd : kd a = (4, x, n)) (hi : vp_in i n) (kk : kG w p l e R s m args below meth c Q nL (sJ σ a i.toNatClampNeg v) (pc + 1) lv st cells slots) : kG w p l e R s m args below meth c Q nL σ pc lv (.long v :: .int i :: .ref (kL w a) :: st) cells slots := by
  intro H locs ls hH hS hv
  refine va_last K.ex K.by K.kk hH.1 hH.2 hS a 3 (K.j (kF σ) hd) (kt3 w) hi d (fun H1 locs1 hP hD hS1 => ?_)
  refine kk H1 locs1 ls ?_ hS1 hv
  rw [kF_sJ]
  refine kH_put (fun b hb => kE_sJ w (kF σ) a _ v b hb) ?_ hP hD
  rw [kE_j w _ hd]
  congr 5
  funext j
  simp [sJ, vp_updL]
theorem k_aast (K : kC w p s m args meth c cc nL own) {a b x n : Nat} {i : Int32} (d : decode cc pc = .ok (.aastore, 1)) (hd : kd a = (3, x, n)) (hb : kd b = (0, 0, 8)) (hi : vp_in i n) (kk : kG w p l e R s m args below meth c Q nL (sR σ a i.toNatClampNeg (some b)) (pc + 1) lv st cells slots) : kG w p l e R s m args below meth c Q nL σ pc lv (.ref (kL w b) :: .int i :: .ref (kL w a) :: st) cells slots := by
  intro H locs ls hH hS hv
  refine va_astq (r := (RX0, TX0, 8)) K.ex K.by K.kk hH.1 hH.2 hS a 2 b 0 (K.r (kF σ) hd) (kt2 w) (K.o (kF σ) hb) rfl hi d (fun H1 locs1 hP hD hS1 => ?_)
  refine kk H1 locs1 ls ?_ hS1 hv
  rw [kF_sR _ _ (by rw [hd]; simp)]
  refine kH_put (fun q hq => kE_sR w (kF σ) a _ _ q hq) ?_ hP hD
  rw [kE_r w _ hd]
  congr 7
  funext j
  by_cases e : j = i.toNatClampNeg
  · simp [sR, va_up, e]
  · simp [sR, va_up, e]
theorem k_aastN (K : kC w p s m args meth c cc nL own) {a x n : Nat} {i : Int32} (d : decode cc pc = .ok (.aastore, 1)) (hd : kd a = (3, x, n)) (hi : vp_in i n) (kk : kG w p l e R s m args below meth c Q nL (sR σ a i.toNatClampNeg none) (pc + 1) lv st cells slots) : kG w p l e R s m args below meth c Q nL σ pc lv (.null :: .int i :: .ref (kL w a) :: st) cells slots := by
  intro H locs ls hH hS hv
  refine va_astqN K.ex K.by K.kk hH.1 hH.2 hS a 2 (K.r (kF σ) hd) (kt2 w) hi d (fun H1 locs1 hP hD hS1 => ?_)
  refine kk H1 locs1 ls ?_ hS1 hv
  rw [kF_sR _ _ (by rw [hd]; simp)]
  refine kH_put (fun q hq => kE_sR w (kF σ) a _ _ q hq) ?_ hP hD
  rw [kE_r w _ hd]
  congr 7
  funext j
  by_cases e : j = i.toNatClampNeg
  · simp [sR, va_up, e]
  · simp [sR, va_up, e]
theorem k_alen (K : kC w p s m args meth c cc nL own) {a x n : Nat} {v : Int32} (d : decode cc pc = .ok (.arraylength, 1)) (hd : kd a = (1, x, n)) (hv : Int32.ofNat n = v) (kk : kG w p l e R s m args below meth c Q nL σ (pc + 1) lv (.int v :: st) cells slots) : kG w p l e R s m args below meth c Q nL σ pc lv (.ref (kL w a) :: st) cells slots :=
  fun H locs ls hH hS hl => va_alen K.ex K.by K.kk hH.1 a 0 (K.i (kF σ) hd) (kt0 w) hv d (kk H locs ls hH hS hl)
/-- two cells are one only if their numbers are -/
theorem kL_inj (K : kC w p s m args meth c cc nL own) {H : Heap} (hH : kH w σ H) {a b : Nat} (ha : a < kN) (hb : b < kN) (h : kL w a = kL w b) : a = b :=
  hH.2.1 a b _ _ (kws_at w σ (by rw [K.nn]; exact ha)) (kws_at w σ (by rw [K.nn]; exact hb)) h
theorem kL_injQ (K : kC w p s m args meth c cc nL own) {H : Heap} (hH : kH w σ H) {x y : Option Nat} (ha : ∀ a, x = some a → a < kN) (hb : ∀ b, y = some b → b < kN) : x.map (kL w) = y.map (kL w) ↔ x = y := by
  constructor
  · intro h
    cases x with
    | none => cases y with
      | none => rfl
      | some b => simp at h
    | some a => cases y with
      | none => simp at h
      | some b => simp only [Option.map_some, Option.some.injEq] at h; rw [kL_inj K hH (ha a rfl) (hb b rfl) h]
  · intro h; rw [h]
theorem k_acmp_eq (K : kC w p s m args meth c cc nL own) {x y : Option Nat} {off : Int} (tgt : Nat) (d : decode cc pc = .ok (.if_acmp .eq off, 3)) (ht : (pc : Int) + off = (tgt : Int)) (hx : ∀ a, x = some a → a < kN) (hy : ∀ a, y = some a → a < kN) (kt : x = y → kG w p l e R s m args below meth c Q nL σ tgt lv st cells slots) (kf : ¬ x = y → kG w p l e R s m args below meth c Q nL σ (pc + 3) lv st cells slots) : kG w p l e R s m args below meth c Q nL σ pc lv (va_rf (y.map (kL w)) :: va_rf (x.map (kL w)) :: st) cells slots :=
  fun H locs ls hH hS hl => lv_acmp_eq K.ex K.by d ht (fun h => kt ((kL_injQ K hH hx hy).mp h) H locs ls hH hS hl) (fun h => kf (fun q => h (by rw [q])) H locs ls hH hS hl)
theorem k_acmp_ne (K : kC w p s m args meth c cc nL own) {x y : Option Nat} {off : Int} (tgt : Nat) (d : decode cc pc = .ok (.if_acmp .ne off, 3)) (ht : (pc : Int) + off = (tgt : Int)) (hx : ∀ a, x = some a → a < kN) (hy : ∀ a, y = some a → a < kN) (kt : ¬ x = y → kG w p l e R s m args below meth c Q nL σ tgt lv st cells slots) (kf : x = y → kG w p l e R s m args below meth c Q nL σ (pc + 3) lv st cells slots) : kG w p l e R s m args below meth c Q nL σ pc lv (va_rf (y.map (kL w)) :: va_rf (x.map (kL w)) :: st) cells slots :=
  fun H locs ls hH hS hl => lv_acmp_ne K.ex K.by d ht (fun h => kt (fun q => h (by rw [q])) H locs ls hH hS hl) (fun h => kf ((kL_injQ K hH hx hy).mp h) H locs ls hH hS hl)
end KR
