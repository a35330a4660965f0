/-! ===== while the system is made: n cells stand, one behind another from the old heap's end on ===== -/
def wn (w : kW) (n : Nat) : kW := (w.1, w.2.1, w.2.2.1, n, w.2.2.2.2)
def kHc (w : kW) (n : Nat) (σ : kS) (H : Heap) : Prop := kH (wn w n) σ H ∧ H.size = w.2.2.2.2 + n ∧ ∀ c, kL w c = w.2.2.2.2 + c
/-- the cell n holds nothing yet -/
def kZ (σ : kS) (n : Nat) : Prop := σ.1 n = (fun _ => 0) ∧ σ.2.1 n = (fun _ => none) ∧ σ.2.2 n = (fun _ => 0)
def kCc (w : kW) (p : Program) (s : State) (m : MethodId) (args : Array Value) (meth : Method) (c : Code) (cc : ByteArray) (nL : Nat) (own : String) : Prop :=
  p.tables.exec = Jvm.exec ∧ c.code = cc ∧ c.maxLocals = nL ∧ s.vm.findClass own = some m.cls ∧ (∀ x ∈ TB, x.before args s = true) ∧ va_K w.1 vwCl (kt w) s ∧ meth.locks = false ∧ w.2.2.2.2 ≤ s.heap.size
section CC
variable {w : kW} {p : Program} {l : Launch} {e : Env} {R : Room} {s : State} {m : MethodId} {args : Array Value} {below : List Frame} {meth : Method} {c : Code} {Q : State → Prop}
variable {cc : ByteArray} {nL n : Nat} {own : String} {σ : kS} {pc : Nat} {lv lv' : List (Nat × Value)} {st : List Value} {cells slots : Nat}
theorem kCc.ex (K : kCc w p s m args meth c cc nL own) : p.tables.exec = Jvm.exec := K.1
theorem kCc.by (K : kCc w p s m args meth c cc nL own) : c.code = cc := K.2.1
theorem kCc.ml (K : kCc w p s m args meth c cc nL own) : c.maxLocals = nL := K.2.2.1
theorem kCc.ow (K : kCc w p s m args meth c cc nL own) : s.vm.findClass own = some m.cls := K.2.2.2.1
theorem kCc.ts (K : kCc w p s m args meth c cc nL own) : ∀ x ∈ TB, x.before args s = true := K.2.2.2.2.1
theorem kCc.kk (K : kCc w p s m args meth c cc nL own) : va_K w.1 vwCl (kt w) s := K.2.2.2.2.2.1
theorem kCc.lk (K : kCc w p s m args meth c cc nL own) : meth.locks = false := K.2.2.2.2.2.2.1
theorem kCc.b0 (K : kCc w p s m args meth c cc nL own) : w.2.2.2.2 ≤ s.heap.size := K.2.2.2.2.2.2.2
def kGc (w : kW) (p : Program) (l : Launch) (e : Env) (R : Room) (s : State) (m : MethodId) (args : Array Value) (below : List Frame) (meth : Method) (c : Code) (Q : State → Prop) (nL n : Nat) (σ : kS) (pc : Nat) (lv : List (Nat × Value)) (st : List Value) (cells slots : Nat) : Prop :=
  ∀ (H : Heap) (locs : List Loc) (ls : Array Slot), kHc w n σ H → va_S (kA w) s.heap H locs → lvh ls nL lv → W p l e R s m args below meth c H locs cells slots Q (F0 m pc ls st)
theorem c_iconst (K : kCc w p s m args meth c cc nL own) {j : Int} (d : decode cc pc = .ok (.iconst j, 1)) {v : Int32} (hv : Int32.ofInt j = v) (k : kGc w p l e R s m args below meth c Q nL n σ (pc + 1) lv (.int v :: st) cells slots) : kGc w p l e R s m args below meth c Q nL n σ pc lv st cells slots :=
  fun H locs ls hH hS hl => lv_iconst K.1 K.2.1 d hv (k H locs ls hH hS hl)
theorem c_bipush (K : kCc w p s m args meth c cc nL own) {j : Int} (d : decode cc pc = .ok (.bipush j, 2)) {v : Int32} (hv : (Int8.ofInt j).toInt32 = v) (k : kGc w p l e R s m args below meth c Q nL n σ (pc + 2) lv (.int v :: st) cells slots) : kGc w p l e R s m args below meth c Q nL n σ pc lv st cells slots :=
  fun H locs ls hH hS hl => lv_bipush K.1 K.2.1 d hv (k H locs ls hH hS hl)
theorem c_sipush (K : kCc w p s m args meth c cc nL own) {j : Int} (d : decode cc pc = .ok (.sipush j, 3)) {v : Int32} (hv : (Int16.ofInt j).toInt32 = v) (k : kGc w p l e R s m args below meth c Q nL n σ (pc + 3) lv (.int v :: st) cells slots) : kGc w p l e R s m args below meth c Q nL n σ pc lv st cells slots :=
  fun H locs ls hH hS hl => lv_sipush K.1 K.2.1 d hv (k H locs ls hH hS hl)
theorem c_aload_n (K : kCc w p s m args meth c cc nL own) {j : Fin 4} (d : decode cc pc = .ok (.aload_n j, 1)) (i : Nat) {x : Nat} (hx : lv[i]? = some ((j : Nat), .ref x)) (k : kGc w p l e R s m args below meth c Q nL n σ (pc + 1) lv (.ref x :: st) cells slots) : kGc w p l e R s m args below meth c Q nL n σ pc lv st cells slots :=
  fun H locs ls hH hS hl => lv_aload_n K.1 K.2.1 d rfl (lv_at hl.1 i hx) (k H locs ls hH hS hl)
theorem c_iload_n (K : kCc w p s m args meth c cc nL own) {j : Fin 4} (d : decode cc pc = .ok (.iload_n j, 1)) (i : Nat) {x : Int32} (hx : lv[i]? = some ((j : Nat), .int x)) (k : kGc w p l e R s m args below meth c Q nL n σ (pc + 1) lv (.int x :: st) cells slots) : kGc w p l e R s m args below meth c Q nL n σ pc lv st cells slots :=
  fun H locs ls hH hS hl => lv_iload_n K.1 K.2.1 d rfl (lv_at hl.1 i hx) (k H locs ls hH hS hl)
theorem c_istore_n (K : kCc w p s m args meth c cc nL own) {j : Fin 4} (d : decode cc pc = .ok (.istore_n j, 1)) {x : Int32} (hj : (j : Nat) < nL) (hl' : kst lv j (.int x) = lv') (k : kGc w p l e R s m args below meth c Q nL n σ (pc + 1) lv' st cells slots) : kGc w p l e R s m args below meth c Q nL n σ pc lv (.int x :: st) cells slots :=
  fun H locs ls hH hS hl => lv_istore_n K.1 K.2.1 d rfl hl.1 hj rfl (fun ls hl2 => k H locs ls hH hS (hl' ▸ lvh_st hl rfl hl2))
theorem c_istore (K : kCc w p s m args meth c cc nL own) {j : Nat} (d : decode cc pc = .ok (.istore j, 2)) {x : Int32} (hj : j < nL) (hl' : kst lv j (.int x) = lv') (k : kGc w p l e R s m args below meth c Q nL n σ (pc + 2) lv' st cells slots) : kGc w p l e R s m args below meth c Q nL n σ pc lv (.int x :: st) cells slots :=
  fun H locs ls hH hS hl => lv_istore K.1 K.2.1 d hl.1 hj rfl (fun ls hl2 => k H locs ls hH hS (hl' ▸ lvh_st hl rfl hl2))
theorem c_astore_n (K : kCc w p s m args meth c cc nL own) {j : Fin 4} (d : decode cc pc = .ok (.astore_n j, 1)) {x : Nat} (hj : (j : Nat) < nL) (hl' : kst lv j (.ref x) = lv') (k : kGc w p l e R s m args below meth c Q nL n σ (pc + 1) lv' st cells slots) : kGc w p l e R s m args below meth c Q nL n σ pc lv (.ref x :: st) cells slots :=
  fun H locs ls hH hS hl => lv_astore_n K.1 K.2.1 d rfl hl.1 hj rfl (fun ls hl2 => k H locs ls hH hS (hl' ▸ lvh_st hl rfl hl2))
theorem c_iinc (K : kCc w p s m args meth c cc nL own) {j : Nat} {z : Int} (d : decode cc pc = .ok (.iinc j z, 3)) (i : Nat) {x v : Int32} (hx : lv[i]? = some (j, .int x)) (hv : Int32.ofInt z = v) (hj : j < nL) (hl' : kst lv j (.int (x + v)) = lv') (k : kGc w p l e R s m args below meth c Q nL n σ (pc + 3) lv' st cells slots) : kGc w p l e R s m args below meth c Q nL n σ pc lv st cells slots :=
  fun H locs ls hH hS hl => lv_iinc K.1 K.2.1 d hl.1 hx (by rw [hv]) hj rfl (fun ls hl2 => k H locs ls hH hS (hl' ▸ lvh_st hl rfl hl2))
theorem c_goto (K : kCc w p s m args meth c cc nL own) {off : Int} (tgt : Nat) (d : decode cc pc = .ok (.goto off, 3)) (ht : (pc : Int) + off = (tgt : Int)) (k : kGc w p l e R s m args below meth c Q nL n σ tgt lv st cells slots) : kGc w p l e R s m args below meth c Q nL n σ pc lv st cells slots :=
  fun H locs ls hH hS hl => lv_goto K.1 K.2.1 d ht (k H locs ls hH hS hl)
theorem c_dup (K : kCc w p s m args meth c cc nL own) {a : Value} (d : decode cc pc = .ok (.dup, 1)) (ha : a.category = 1) (k : kGc w p l e R s m args below meth c Q nL n σ (pc + 1) lv (a :: a :: st) cells slots) : kGc w p l e R s m args below meth c Q nL n σ pc lv (a :: st) cells slots :=
  fun H locs ls hH hS hl => lv_dup K.1 K.2.1 d ha (k H locs ls hH hS hl)
theorem c_icmp_ge (K : kCc w p s m args meth c cc nL own) {x y : Int32} {off : Int} (tgt : Nat) (d : decode cc pc = .ok (.if_icmp .ge off, 3)) (ht : (pc : Int) + off = (tgt : Int)) (kt : y ≤ x → kGc w p l e R s m args below meth c Q nL n σ tgt lv st cells slots) (kf : ¬ y ≤ x → kGc w p l e R s m args below meth c Q nL n σ (pc + 3) lv st cells slots) : kGc w p l e R s m args below meth c Q nL n σ pc lv (.int y :: .int x :: st) cells slots :=
  fun H locs ls hH hS hl => lv_icmp_ge K.1 K.2.1 d ht (fun h => kt h H locs ls hH hS hl) (fun h => kf h H locs ls hH hS hl)
theorem c_sub (ks : List Nat) (h : lv_pick lv ks = lv') (k : kGc w p l e R s m args below meth c Q nL n σ pc lv' st cells slots) : kGc w p l e R s m args below meth c Q nL n σ pc lv st cells slots :=
  fun H locs ls hH hS hl => k H locs ls hH hS ⟨lv_sub hl.1 ks h, fun q hq => by
    rw [← h] at hq
    obtain ⟨i, -, hi⟩ := List.mem_filterMap.mp hq
    exact hl.2 q (List.mem_of_getElem? hi)⟩
theorem c_obj (K : kCc w p s m args meth c cc nL own) {idx : Nat} (d : decode cc pc = .ok (.invokespecial idx, 3)) (h1 : Cond.methodLink own idx objectInit ∈ TB) (h2 : Cond.instanceMethod objectInit ∈ TB) (h3 : Cond.code objectInit ⟨#[0xb1]⟩ 1 none ∈ TB) {a : Nat} (hf : 1 ≤ R.frames) (hlc : (st.map fun v => v.category).sum + 12 ≤ R.locals) (k : kGc w p l e R s m args below meth c Q nL n σ (pc + 3) lv st cells slots) : kGc w p l e R s m args below meth c Q nL n σ pc lv (.ref a :: st) cells slots := by
  intro H locs ls hH hS hl
  refine W.objInit K.ex K.by K.ow (K.ts _ h1) (K.ts _ h2) (K.ts _ h3) rfl (by rw [K.ml]; exact hl.1.1) rfl d hf ?_ (k H locs ls hH hS hl)
  simpa [JFrame.monitorRoom] using hlc
theorem wn_at (σ : kS) {a : Nat} (h : a < n) : (kws (wn w n) σ)[a]? = some (kL w a, kE w σ a) := by
  have := kws_at (wn w n) σ (c := a) h
  exact this
theorem wn_push (σ : kS) : kws (wn w (n + 1)) σ = kws (wn w n) σ ++ [(kL w n, kE w σ n)] := by
  show (List.range (n + 1)).map _ = (List.range n).map _ ++ _
  rw [List.range_succ, List.map_append]
  rfl
/-- a new cell, at the end -/
theorem kHc_push {σ : kS} {H H1 : Heap} (hH : kHc w n σ H) (h1 : va_at w.1 vwCl (kL w n, kE w σ n) H1) (h2 : H1.size = H.size + 1) (h3 : ∀ q : Nat, q < H.size → H1[q]? = H[q]?) : kHc w (n + 1) σ H1 := by
  obtain ⟨⟨hP, hD⟩, hz, hL⟩ := hH
  have hk : ∀ (k : Nat) (x : Nat × va_E), (kws (wn w n) σ)[k]? = some x → H1[x.1]? = H[x.1]? := fun k x hx => h3 x.1 ((hP k x hx).lt)
  have e : kL w n = H.size := by rw [hL n, hz]
  refine ⟨⟨?_, ?_⟩, by omega, hL⟩
  · show va_P w.1 vwCl _ H1
    rw [wn_push]
    refine (hP.kept hk).app (fun k x hx => ?_)
    have hz : k < 1 := (List.getElem?_eq_some_iff.mp hx).1
    rw [show k = 0 by omega] at hx
    cases hx
    exact h1
  · rw [wn_push, e]
    exact hD.push hP rfl (by show w.2.2.2.2 ≤ H.size; omega)
theorem kS_push {H H1 : Heap} {locs : List Loc} (hS : va_S (kA w) s.heap H locs) (h2 : H1.size = H.size + 1) (h3 : ∀ q : Nat, q < H.size → H1[q]? = H[q]?) : va_S (kA w) s.heap H1 locs :=
  ⟨Nat.le_trans hS.1 (by omega), fun x g1 g2 => (h3 x (Nat.lt_of_lt_of_le g1 hS.1)).trans (hS.2.1 x g1 g2), hS.2.2⟩
theorem c_newI (K : kCc w p s m args meth c cc nL own) (d : decode cc pc = .ok (.newarray .int, 2)) (ha : Cond.arrayClass .int ∈ TB) {v : Int32} {N : Nat} (hv : v = nI N) (hN : N ≤ 16384) (hk : kd n = (1, 0, N)) (hz : kZ σ n) (hc : cells + 1 ≤ R.cells) (hs : slots + N ≤ R.slots) (k : kGc w p l e R s m args below meth c Q nL (n + 1) σ (pc + 2) lv (.ref (kL w n) :: st) (cells + 1) (slots + N)) : kGc w p l e R s m args below meth c Q nL n σ pc lv (.int v :: st) cells slots := by
  intro H locs ls hH hS hl
  subst hv
  refine va_newaK K.ex K.by (atype := .int) (K.ts _ ha) rfl d rfl (nI_pos (by omega)) (nI_clamp (by omega)) (by show N * 4 ≤ _; omega) hc hs rfl (fun H1 cA e1 z1 o1 _ hf => ?_)
  have hcA : cA = w.2.1 0 := Option.some.inj (hf.symm.trans (K.kk.2 0 _ (kt0 w)).2)
  subst hcA
  have hp := kHc_push (H1 := H1) hH (by
    rw [kE_i w σ hk, hz.1]
    show H1[kL w n]? = some (vp_cell (w.2.1 0) (N, .inl (fun _ => 0)))
    rw [hH.2.2 n, ← hH.2.1, vp_cell_i]
    exact e1) z1 o1
  have e : kL w n = H.size := by rw [hH.2.2 n, hH.2.1]
  rw [e] at k
  exact k H1 locs ls hp (kS_push hS z1 o1) hl
theorem c_newZ (K : kCc w p s m args meth c cc nL own) (d : decode cc pc = .ok (.newarray .boolean, 2)) (ha : Cond.arrayClass .boolean ∈ TB) {v : Int32} {N : Nat} (hv : v = nI N) (hN : N ≤ 16384) (hk : kd n = (2, 0, N)) (hz : kZ σ n) (hc : cells + 1 ≤ R.cells) (hs : slots + N ≤ R.slots) (k : kGc w p l e R s m args below meth c Q nL (n + 1) σ (pc + 2) lv (.ref (kL w n) :: st) (cells + 1) (slots + N)) : kGc w p l e R s m args below meth c Q nL n σ pc lv (.int v :: st) cells slots := by
  intro H locs ls hH hS hl
  subst hv
  refine va_newaK K.ex K.by (atype := .boolean) (K.ts _ ha) rfl d rfl (nI_pos (by omega)) (nI_clamp (by omega)) (by show N * 1 ≤ _; omega) hc hs rfl (fun H1 cA e1 z1 o1 _ hf => ?_)
  have hcA : cA = w.2.1 1 := Option.some.inj (hf.symm.trans (K.kk.2 1 _ (kt1 w)).2)
  subst hcA
  have hp := kHc_push (H1 := H1) hH (by
    rw [kE_z w σ hk, hz.1]
    show H1[kL w n]? = some (vp_cell (w.2.1 1) (N, .inl (fun _ => 0)))
    rw [hH.2.2 n, ← hH.2.1, vp_cell_i]
    exact e1) z1 o1
  have e : kL w n = H.size := by rw [hH.2.2 n, hH.2.1]
  rw [e] at k
  exact k H1 locs ls hp (kS_push hS z1 o1) hl
theorem c_newJ (K : kCc w p s m args meth c cc nL own) (d : decode cc pc = .ok (.newarray .long, 2)) (ha : Cond.arrayClass .long ∈ TB) {v : Int32} {N : Nat} (hv : v = nI N) (hN : N ≤ 16384) (hk : kd n = (4, 0, N)) (hz : kZ σ n) (hc : cells + 1 ≤ R.cells) (hs : slots + N ≤ R.slots) (k : kGc w p l e R s m args below meth c Q nL (n + 1) σ (pc + 2) lv (.ref (kL w n) :: st) (cells + 1) (slots + N)) : kGc w p l e R s m args below meth c Q nL n σ pc lv (.int v :: st) cells slots := by
  intro H locs ls hH hS hl
  subst hv
  refine va_newaK K.ex K.by (atype := .long) (K.ts _ ha) rfl d rfl (nI_pos (by omega)) (nI_clamp (by omega)) (by show N * 8 ≤ _; omega) hc hs rfl (fun H1 cA e1 z1 o1 _ hf => ?_)
  have hcA : cA = w.2.1 3 := Option.some.inj (hf.symm.trans (K.kk.2 3 _ (kt3 w)).2)
  subst hcA
  have hp := kHc_push (H1 := H1) hH (by
    rw [kE_j w σ hk, hz.2.2]
    show H1[kL w n]? = some (vp_cell (w.2.1 3) (N, .inr (.inl (fun _ => 0))))
    rw [hH.2.2 n, ← hH.2.1]
    exact e1) z1 o1
  have e : kL w n = H.size := by rw [hH.2.2 n, hH.2.1]
  rw [e] at k
  exact k H1 locs ls hp (kS_push hS z1 o1) hl
theorem c_newR (K : kCc w p s m args meth c cc nL own) {idx : Nat} (d : decode cc pc = .ok (.anewarray idx, 3)) (h1 : Cond.classLink own idx RX0 ∈ TB) (h2 : va_AO RX0 s) {v : Int32} {N : Nat} (hv : v = nI N) (hN : N ≤ 16384) (hk : kd n = (3, 0, N)) (hz : kZ σ n) (hc : cells + 1 ≤ R.cells) (hs : slots + N ≤ R.slots) (k : kGc w p l e R s m args below meth c Q nL (n + 1) σ (pc + 3) lv (.ref (kL w n) :: st) (cells + 1) (slots + N)) : kGc w p l e R s m args below meth c Q nL n σ pc lv (.int v :: st) cells slots := by
  intro H locs ls hH hS hl
  subst hv
  have hcl : (nI N).toNatClampNeg = N := nI_clamp (by omega)
  refine W.anew K.ex K.by K.ow (K.ts _ h1) (va_AO.use h2) rfl d rfl (nI_pos (by omega)) (by rw [hcl]; omega) hc (by rw [hcl]; exact hs) (fun cA kA comp f1 f2 f3 f4 => ?_)
  have hcA : cA = w.2.1 2 := by
    obtain ⟨k9, c9, g1, g2, g3, g4⟩ := (K.kk.2 2 _ (kt2 w)).2
    exact Option.some.inj (f1.symm.trans g4)
  subst hcA
  rw [hcl]
  generalize hH1 : H.push ({ cls := w.2.1 2, slots := Array.replicate N .null, vm := .none } : Cell) = H1
  have z1 : H1.size = H.size + 1 := by rw [← hH1, Array.size_push]
  have e1 : H1[H.size]? = some (arrV (w.2.1 2) N (fun _ => .null)) := by rw [← hH1, Array.getElem?_push_size, ← arrV_new]
  have o1 : ∀ q : Nat, q < H.size → H1[q]? = H[q]? := fun q hq => by rw [← hH1, Array.getElem?_push, if_neg (Nat.ne_of_lt hq)]
  have hp := kHc_push (H1 := H1) hH (by
    rw [kE_r w σ hk, hz.2.1]
    show H1[kL w n]? = some (vp_cell (w.2.1 2) (N, .inr (.inr (.inr (.inr (fun j => (none : Option Nat).map w.2.2.1))))))
    rw [hH.2.2 n, ← hH.2.1, vp_cell_q]
    exact e1) z1 o1
  have e : kL w n = H.size := by rw [hH.2.2 n, hH.2.1]
  rw [e] at k
  exact k H1 locs ls hp (kS_push hS z1 o1) hl
/-- a new object -/
theorem c_newO (K : kCc w p s m args meth c cc nL own) {idx ci N : Nat} {C : String} {T : u_T} {ty : Nat → FieldType} (d : decode cc pc = .ok (.new idx, 3)) (h1 : Cond.classLink own idx C ∈ TB) (h2 : Cond.instantiable C N ∈ TB) (h3 : Cond.initialized C ∈ TB) (hcl : vwCl[ci]? = some (C, T, N)) (hin : ∀ x ∈ u_ws C T N, x ∈ TB) (hty : ∀ k, k < N → parseFieldDescriptor (T k).2.2.1 = some (ty k)) (hdf : ∀ k, k < N → defaultValue (ty k) = bif kr ci k then .null else .int 0) (hk : kd n = (0, ci, N)) (hz : kZ σ n) (hc : cells + 1 ≤ R.cells) (hs : slots + N ≤ R.slots)
    (k : kGc w p l e R s m args below meth c Q nL (n + 1) σ (pc + 3) lv (.ref (kL w n) :: st) (cells + 1) (slots + N)) : kGc w p l e R s m args below meth c Q nL n σ pc lv st cells slots := by
  intro H locs ls hH hS hl
  have hKn := K.kk.1 ci _ hcl
  refine W.newcK K.ex K.by K.ow (K.ts _ h1) (K.ts _ h2) (K.ts _ h3) rfl d hc hs hKn.2.1 rfl (fun H1 kC hkC e1 z1 o1 => ?_)
  have e : kL w n = H.size := by rw [hH.2.2 n, hH.2.1]
  have hp := kHc_push (H1 := H1) hH (by
    rw [kE_o w σ hk, hz.1, hz.2.1, e]
    refine ⟨_, hcl, (u_born ty K.ts hin hKn hkC e1 hty).to (fun j hj => ?_)⟩
    have e9 : vp_V ((List.range N).map fun k => bif kr ci k then va_rf ((none : Option Nat).map w.2.2.1) else .int 0) j = bif kr ci j then va_rf ((none : Option Nat).map w.2.2.1) else .int 0 := by
      simp [vp_V, hj]
    rw [e9, hdf j hj]
    rfl) z1 o1
  rw [e] at k
  exact k H1 locs ls hp (kS_push hS z1 o1) hl
theorem kHc_put {σ τ : kS} {a : Nat} {x : va_E} {H H0 : Heap} (h0 : kHc w n σ H0) (hz : H.size = H0.size) (hn : ∀ b, b ≠ a → kE w τ b = kE w σ b) (he : kE w τ a = x) (hP : va_P w.1 vwCl ((kws (wn w n) σ).set a (kL w a, x)) H) (hD : va_D (kA w) ((kws (wn w n) σ).set a (kL w a, x))) : kHc w n τ H :=
  ⟨kH_put (w := wn w n) hn he hP hD, by rw [hz]; exact h0.2.1, h0.2.2⟩
theorem kE_fld (σ τ : kS) {a ci N k : Nat} {v : Value} (hk : kd a = (0, ci, N)) (hkN : k < N) (hv : (bif kr ci k then va_rf ((τ.2.1 a k).map w.2.2.1) else .int (τ.1 a k)) = v) (ho : ∀ j, j ≠ k → τ.1 a j = σ.1 a j ∧ τ.2.1 a j = σ.2.1 a j) : kE w τ a = .inr (ci, ((List.range N).map fun k => bif kr ci k then va_rf ((σ.2.1 a k).map w.2.2.1) else .int (σ.1 a k)).set k v) := by
  rw [kE_o w τ hk]
  congr 2
  apply List.ext_getElem?
  intro j
  rw [List.getElem?_set]
  simp only [List.length_map, List.length_range, List.getElem?_map]
  by_cases hj : j < N
  · rw [List.getElem?_range hj]
    simp only [Option.map_some]
    by_cases e : k = j
    · subst e
      simp [hj, hv]
    · rw [if_neg e, (ho j (fun q => e q.symm)).1, (ho j (fun q => e q.symm)).2]
  · rw [List.getElem?_eq_none (by simpa using hj)]
    by_cases e : k = j
    · exact absurd (e ▸ hkN) hj
    · rw [if_neg e]; rfl
end CC
