/-! ===== exceptions ===== -/
def NB : List Cond := lw_tbl.filter (fun w => match w with | .castable .. => true | .declares .. => true | _ => false)
def SB : List (Nat × String) := [(36, "no such depth"), (46, "some member was founded"), (214, "no such point"), (57, "it is open"), (216, "the point is or was a member's"), (218, "as many live as may"), (66, "too few founders"), (207, "no such live member"), (92, "too few would be live"), (98, "some list would have no live one"), (113, "no such finger"), (130, "no such number of rounds"), (132, "it is not open"), (149, "no such hop"), (209, "no such key"), (154, "the value is below 0"), (175, "no such part of a pair"), (177, "no such entry"), (202, "no such count")]
theorem nb_warm {x : Cond} (h : x ∈ NB) {s U : State} (hW : s.WarmedH U.vm) (hz : va_Nw x s) : va_Nw x U := by
  have h2 := (List.mem_filter.mp h).2
  cases x with
  | castable C T => exact va_Nw.warmC hW hz
  | declares y => exact va_Nw.warmD hW hz
  | _ => simp at h2
theorem nb_tabs {x : Cond} (h : x ∈ NB) : x.onTables = true := by
  have h2 := (List.mem_filter.mp h).2
  cases x with
  | castable C T => rfl
  | declares y => rfl
  | _ => simp at h2
/-- what a throw needs of the start: no traces, the two statics, the words, the texts -/
def kX (w : kW) (l : Launch) (U : State) : Prop := l.stackTraces = false ∧ vx_Zq Bundle.tN "UNASSIGNED_STACK" Bundle.steD (kA w) U U.heap ∧ vx_Zq Bundle.tN "SUPPRESSED_SENTINEL" Bundle.listD (kA w) U U.heap ∧ (∀ x ∈ NB, va_Nw x U) ∧ ∀ q ∈ SB, ∃ sa, vk_R RX1 q.1 q.2 sa U
theorem kX.go {w : kW} {l : Launch} {s U : State} {H : Heap} {locs : List Loc} (h : kX w l s) (hU : U.heap = H) (hW : s.WarmedH U.vm) (hS : va_S (kA w) s.heap H locs) : kX w l U := by
  obtain ⟨h1, h2, h3, h4, h5⟩ := h
  refine ⟨h1, ?_, ?_, fun x hx => nb_warm hx hW (h4 x hx), fun q hq => ?_⟩
  · rw [hU]; exact (h2.moved hW.alike).kept (fun a ha hn => hS.2.1 a ha hn)
  · rw [hU]; exact (h3.moved hW.alike).kept (fun a ha hn => hS.2.1 a ha hn)
  · obtain ⟨sa, hs⟩ := h5 q hq
    exact ⟨sa, hs.warm hW⟩
def kPX (w : kW) (l : Launch) (σ : kS) (U : State) : Prop := kP w σ U ∧ kX w l U
theorem kPX_blind (w : kW) (l : Launch) (σ : kS) (As : List Value) : FrameBlind (va_Pc As (kPX w l σ)) := by
  intro a U g mk q
  obtain ⟨e, q1, q2⟩ := q
  have h1 := kP_blind w σ As a U g mk ⟨e, q1⟩
  obtain ⟨z1, z2, z3, z4, z5⟩ := q2
  refine ⟨e, h1.2, z1, z2.moved (u := U) (U := U.calling g mk a) (Vm.Alike.refl U.vm), z3.moved (u := U) (U := U.calling g mk a) (Vm.Alike.refl U.vm), fun x hx => va_Nw.same (u := U) (U := U.calling g mk a) (nb_tabs hx) rfl (z4 x hx), fun q hq => ?_⟩
  obtain ⟨sa, hs⟩ := z5 q hq
  exact ⟨sa, vk_R.same (u := U) (U := U.calling g mk a) rfl hs⟩
def kXi (w : kW) (o : String ⊕ Int32) (σ : kS) : Array Value → State → Outcome → State → Prop := va_Qi (fun r (u : kS) => o = .inr r ∧ u = σ) (fun u t => kH w (kF u) t.heap) (kA w)
def kXv (w : kW) (o : String ⊕ Unit) (σ : kS) : Array Value → State → Outcome → State → Prop := va_Qv (fun (u : kS) => o = .inr () ∧ u = σ) (fun u t => kH w (kF u) t.heap) (kA w)
def kXq (w : kW) (o : String ⊕ Nat) (σ : kS) : Array Value → State → Outcome → State → Prop := va_Qq (fun r (u : kS) => (∃ a, o = .inr a ∧ r = some (kL w a)) ∧ u = σ) (fun u t => kH w (kF u) t.heap) (kA w)
def kXX {τ : Type} (w : kW) (o : String ⊕ τ) (σ : kS) : String → State → State → Prop := vx_X (fun (u : kS) => u = σ) (fun E u t => o = .inl E ∧ kH w (kF u) t.heap) (kA w)
section KXR
variable {w : kW} {p : Program} {l : Launch} {e : Env} {R : Room} {s : State} {m : MethodId} {args : Array Value} {below : List Frame} {meth : Method} {c : Code} {Q : State → Prop}
variable {cc : ByteArray} {nL : Nat} {own : String} {σ τ : kS} {pc : Nat} {lv : List (Nat × Value)} {st rest As : List Value} {cells slots mc ms mc' ms' : Nat} {y : MethodName} {bytes : ByteArray} {maxL idx n : Nat} {ret : Option FieldType} {rm : Room} {H : Heap} {locs : List Loc}
theorem kC.preX (K : kC w p s m args meth c cc nL own) (KX : kX w l s) (hH : kH w (kF σ) H) (hS : va_S (kA w) s.heap H locs) (As : List Value) : PreS s H (va_Pc As (kPX w l σ)) As :=
  ⟨kPX_blind w l σ As, fun U hU hW => ⟨rfl, ((K.pre hH hS As).2 U hU hW).2, KX.go hU hW hS⟩⟩
theorem kC.preVX (K : kC w p s m args meth c cc nL own) (KX : kX w l s) (hH : kH w (kF σ) H) (hS : va_S (kA w) s.heap H locs) {a ci nf : Nat} {C : String} {T : u_T} (hd : kd a = (0, ci, nf)) (hc : vwCl[ci]? = some (C, T, nf)) (As : List Value) : PreV s H C (kL w a) (va_Pc (.ref (kL w a) :: As) (kPX w l σ)) As :=
  ⟨kPX_blind w l σ _, va_recv K.kk hH.1 hc (K.o (kF σ) hd), fun U hU hW => ⟨rfl, ((K.preV hH hS hd hc As).2.2 U hU hW).2, KX.go hU hW hS⟩⟩
/-- the machine with an exception of the class E over the frame -/
def kGx (w : kW) (p : Program) (l : Launch) (e : Env) (R : Room) (s : State) (m : MethodId) (args : Array Value) (below : List Frame) (meth : Method) (c : Code) (Q : State → Prop) (nL : Nat) (E : String) (σ : kS) (pc : Nat) (lv : List (Nat × Value)) (st : List Value) (cells slots : Nat) : Prop :=
  ∀ (H : Heap) (locs : List Loc) (ls : Array Slot) (q : Nat) (ce : Cell), kH w (kF σ) H → va_S (kA w) s.heap H locs → lvh ls nL lv → H[q]? = some ce → ce.vm = .none → s.vm.findClass E = some ce.cls → vx_W p l e R s m args below meth c H locs cells slots Q (F0 m pc ls st) q
theorem vx_callq {S SX : Type} {post : Option Nat → S → Prop} {px : SX → Prop} {B : S → State → Prop} {BX : String → SX → State → Prop} {A0 A1 AX : Nat → Prop} {H0 : Heap} {a : Array Value} {ls : Array Slot} {st0 : List Value} {free : Addr → Prop} (hr : vx_Run p l e R s m args below meth c H locs cells slots mc ms (F0 m pc ls st0) rest (va_Qq post B A1 a) (vx_X px BX AX) free) (hS : va_S A0 H0 H locs) (hA : ∀ q, q < H.size → A1 q → A0 q) (hf : ∀ q, free q → A0 q) (hAX : ∀ q, q < H.size → AX q → A0 q)
    (kx : ∀ (E : String) (ce : Cell) (q9 : Addr) (u : SX) (t : State) (H1 : Heap) (locs1 : List Loc), t.heap = H1 → s.vm.Alike t.vm → px u → BX E u t → H.size ≤ H1.size → (∀ q : Nat, q < H.size → ¬ AX q → H1[q]? = H[q]?) → va_S A0 H0 H1 locs1 → H1[q9]? = some ce → ce.vm = .none → s.vm.findClass E = some ce.cls → vx_W p l e R s m args below meth c H1 locs1 (cells + mc) (slots + ms) Q (F0 m pc ls rest) q9)
    (kk : ∀ (r : Option Nat) (u : S) (t : State) (H1 : Heap) (locs1 : List Loc), t.heap = H1 → s.vm.Alike t.vm → post r u → B u t → H.size ≤ H1.size → (∀ q : Nat, q < H.size → ¬ A1 q → H1[q]? = H[q]?) → va_S A0 H0 H1 locs1 → W p l e R s m args below meth c H1 locs1 (cells + mc) (slots + ms) Q (F0 m (pc + 3) ls (va_rf r :: rest))) : W p l e R s m args below meth c H locs cells slots Q (F0 m pc ls st0) := by
  intro T hT X
  rcases hr T hT X with ⟨v, st₀, t, T', L, h0, X', hL, e1, e2, ⟨⟨r, u, hv, hp, hb⟩, hF⟩, st⟩ | ⟨q, st₀, t, T', L, E, ce, h0, X', hL, e1, e2, ⟨u, hp, hb, hF⟩, hce, hcv, hcl, st⟩
  · cases hv
    obtain ⟨k1, k2, k3⟩ := vx_keep h0 e1 hS hA hf hL hF
    obtain ⟨t2, a1, b1⟩ := kk r u t T'.heap (locs ++ L) e1.symm (by rw [← e2]; exact X'.warmed.alike) hp hb k1 k2 k3 T' rfl X'
    exact ⟨t2, st t2 a1, b1⟩
  · obtain ⟨k1, k2, k3⟩ := vx_keep h0 e1 hS hAX hf hL hF
    obtain ⟨t2, a1, b1⟩ := kx E ce q u t T'.heap (locs ++ L) e1.symm (by rw [← e2]; exact X'.warmed.alike) hp hb k1 k2 k3 (by rw [e1]; exact hce) hcv hcl T' rfl X'
    exact ⟨t2, st.trans a1, b1⟩
theorem k_callViX (K : kC w p s m args meth c cc nL own) (KX : kX w l s) (d : decode cc pc = .ok (.invokevirtual idx, 3)) {a ci nf : Nat} {C : String} {T : u_T} (hk : kd a = (0, ci, nf)) (hc : vwCl[ci]? = some (C, T, nf)) (hG : GoodIn TB (wsV own idx C y (Cond.code y bytes maxL ret :: TB))) (hC : y.cls = C) (hd : kNm y n) (hn : As.length = n) (hR : rm.frames + 1 ≤ R.frames ∧ 8 + (maxL + 11) + rm.locals ≤ R.locals) (hr : (rest.map fun v => v.category).sum ≤ 8) (hst : st = As.reverse ++ .ref (kL w a) :: rest) (hf : cells + mc ≤ R.cells ∧ slots + ms ≤ R.slots) {o : String ⊕ Int32} (hM : vx_Met l y (Cond.code y bytes maxL ret :: TB) rm (va_Pc (.ref (kL w a) :: As) (kPX w l σ)) (kXi w o τ) (kXX w o τ) mc ms (kA w)) (hrm : rm.cells = mc ∧ rm.slots = ms)
    (kx : ∀ E, o = .inl E → kGx w p l e R s m args below meth c Q nL E τ pc lv rest (cells + mc) (slots + ms)) (kk : ∀ v, o = .inr v → kG w p l e R s m args below meth c Q nL τ (pc + 3) lv (.int v :: rest) (cells + mc) (slots + ms)) : kG w p l e R s m args below meth c Q nL σ pc lv st cells slots := by
  intro H locs ls hH hS hl
  refine vx_calli (vx_runV (As := As) (rest := rest) K.fix hM (cwV n K.ts hG rfl hrm.1 hrm.2 ⟨hC, hd⟩ hR) (K.preVX KX hH hS hk hc As) rfl hn hl.1.1 hst (lv_room hr) d hf) hS (fun _ _ h => h) (fun _ h => h) (fun _ _ h => h) (fun E ce q9 u t H1 locs1 ht _ hp hB _ _ hS1 hq hv hcl => ?_) (fun r u t H1 locs1 ht _ hp hB _ _ hS1 => ?_)
  · obtain rfl := hp
    exact kx E hB.1 H1 locs1 ls q9 ce (by rw [← ht]; exact hB.2) hS1 hl hq hv hcl
  · obtain ⟨ho, rfl⟩ := hp
    exact kk r ho H1 locs1 ls (by rw [← ht]; exact hB) hS1 hl
theorem k_callVqX (K : kC w p s m args meth c cc nL own) (KX : kX w l s) (d : decode cc pc = .ok (.invokevirtual idx, 3)) {a ci nf : Nat} {C : String} {T : u_T} (hk : kd a = (0, ci, nf)) (hc : vwCl[ci]? = some (C, T, nf)) (hG : GoodIn TB (wsV own idx C y (Cond.code y bytes maxL ret :: TB))) (hC : y.cls = C) (hd : kNm y n) (hn : As.length = n) (hR : rm.frames + 1 ≤ R.frames ∧ 8 + (maxL + 11) + rm.locals ≤ R.locals) (hr : (rest.map fun v => v.category).sum ≤ 8) (hst : st = As.reverse ++ .ref (kL w a) :: rest) (hf : cells + mc ≤ R.cells ∧ slots + ms ≤ R.slots) {o : String ⊕ Nat} (hM : vx_Met l y (Cond.code y bytes maxL ret :: TB) rm (va_Pc (.ref (kL w a) :: As) (kPX w l σ)) (kXq w o τ) (kXX w o τ) mc ms (kA w)) (hrm : rm.cells = mc ∧ rm.slots = ms)
    (kx : ∀ E, o = .inl E → kGx w p l e R s m args below meth c Q nL E τ pc lv rest (cells + mc) (slots + ms)) (kk : ∀ v, o = .inr v → kG w p l e R s m args below meth c Q nL τ (pc + 3) lv (.ref (kL w v) :: rest) (cells + mc) (slots + ms)) : kG w p l e R s m args below meth c Q nL σ pc lv st cells slots := by
  intro H locs ls hH hS hl
  refine vx_callq (vx_runV (As := As) (rest := rest) K.fix hM (cwV n K.ts hG rfl hrm.1 hrm.2 ⟨hC, hd⟩ hR) (K.preVX KX hH hS hk hc As) rfl hn hl.1.1 hst (lv_room hr) d hf) hS (fun _ _ h => h) (fun _ h => h) (fun _ _ h => h) (fun E ce q9 u t H1 locs1 ht _ hp hB _ _ hS1 hq hv hcl => ?_) (fun r u t H1 locs1 ht _ hp hB _ _ hS1 => ?_)
  · obtain rfl := hp
    exact kx E hB.1 H1 locs1 ls q9 ce (by rw [← ht]; exact hB.2) hS1 hl hq hv hcl
  · obtain ⟨⟨a9, ho, rfl⟩, rfl⟩ := hp
    exact kk a9 ho H1 locs1 ls (by rw [← ht]; exact hB) hS1 hl
theorem k_callVvX (K : kC w p s m args meth c cc nL own) (KX : kX w l s) (d : decode cc pc = .ok (.invokevirtual idx, 3)) {a ci nf : Nat} {C : String} {T : u_T} (hk : kd a = (0, ci, nf)) (hc : vwCl[ci]? = some (C, T, nf)) (hG : GoodIn TB (wsV own idx C y (Cond.code y bytes maxL ret :: TB))) (hC : y.cls = C) (hd : kNm y n) (hn : As.length = n) (hR : rm.frames + 1 ≤ R.frames ∧ 8 + (maxL + 11) + rm.locals ≤ R.locals) (hr : (rest.map fun v => v.category).sum ≤ 8) (hst : st = As.reverse ++ .ref (kL w a) :: rest) (hf : cells + mc ≤ R.cells ∧ slots + ms ≤ R.slots) {o : String ⊕ Unit} (hM : vx_Met l y (Cond.code y bytes maxL ret :: TB) rm (va_Pc (.ref (kL w a) :: As) (kPX w l σ)) (kXv w o τ) (kXX w o τ) mc ms (kA w)) (hrm : rm.cells = mc ∧ rm.slots = ms)
    (kx : ∀ E, o = .inl E → kGx w p l e R s m args below meth c Q nL E τ pc lv rest (cells + mc) (slots + ms)) (kk : ∀ v, o = .inr v → kG w p l e R s m args below meth c Q nL τ (pc + 3) lv (rest) (cells + mc) (slots + ms)) : kG w p l e R s m args below meth c Q nL σ pc lv st cells slots := by
  intro H locs ls hH hS hl
  refine vx_callv (vx_runV (As := As) (rest := rest) K.fix hM (cwV n K.ts hG rfl hrm.1 hrm.2 ⟨hC, hd⟩ hR) (K.preVX KX hH hS hk hc As) rfl hn hl.1.1 hst (lv_room hr) d hf) hS (fun _ _ h => h) (fun _ h => h) (fun _ _ h => h) (fun E ce q9 u t H1 locs1 ht _ hp hB _ _ hS1 hq hv hcl => ?_) (fun u t H1 locs1 ht _ hp hB _ _ hS1 => ?_)
  · obtain rfl := hp
    exact kx E hB.1 H1 locs1 ls q9 ce (by rw [← ht]; exact hB.2) hS1 hl hq hv hcl
  · obtain ⟨ho, rfl⟩ := hp
    exact kk () ho H1 locs1 ls (by rw [← ht]; exact hB) hS1 hl
theorem k_callSvX (K : kC w p s m args meth c cc nL own) (KX : kX w l s) (d : decode cc pc = .ok (.invokestatic idx, 3)) (hG : GoodIn TB (va_wsS own idx y (Cond.code y bytes maxL ret :: TB))) (hd : kNm y n) (hn : As.length = n) (hR : rm.frames + 1 ≤ R.frames ∧ 8 + (maxL + 11) + rm.locals ≤ R.locals) (hr : (rest.map fun v => v.category).sum ≤ 8) (hst : st = As.reverse ++ rest) (hf : cells + mc ≤ R.cells ∧ slots + ms ≤ R.slots) {o : String ⊕ Unit} (hM : vx_Met l y (Cond.code y bytes maxL ret :: TB) rm (va_Pc As (kPX w l σ)) (kXv w o τ) (kXX w o τ) mc ms (kA w)) (hrm : rm.cells = mc ∧ rm.slots = ms)
    (kx : ∀ E, o = .inl E → kGx w p l e R s m args below meth c Q nL E τ pc lv rest (cells + mc) (slots + ms)) (kk : ∀ v, o = .inr v → kG w p l e R s m args below meth c Q nL τ (pc + 3) lv (rest) (cells + mc) (slots + ms)) : kG w p l e R s m args below meth c Q nL σ pc lv st cells slots := by
  intro H locs ls hH hS hl
  refine vx_callv (vx_runS (As := As) (rest := rest) K.fix hM (va_cwS n K.ts hG rfl hrm.1 hrm.2 hd hR) (K.preX KX hH hS As) rfl hn hl.1.1 hst (lv_room hr) d hf) hS (fun _ _ h => h) (fun _ h => h) (fun _ _ h => h) (fun E ce q9 u t H1 locs1 ht _ hp hB _ _ hS1 hq hv hcl => ?_) (fun u t H1 locs1 ht _ hp hB _ _ hS1 => ?_)
  · obtain rfl := hp
    exact kx E hB.1 H1 locs1 ls q9 ce (by rw [← ht]; exact hB.2) hS1 hl hq hv hcl
  · obtain ⟨ho, rfl⟩ := hp
    exact kk () ho H1 locs1 ls (by rw [← ht]; exact hB) hS1 hl
theorem k_outX {ρ : Type} {Qc : Array Value → State → Outcome → State → Prop} {E : String} (K : kC w p s m args meth c cc nL own) (hex : ∀ x ∈ c.exceptionTable.toList, False) (hc : cells ≤ mc) (hs : slots ≤ ms) : kGx w p l e R s m args below meth c (vx_MQ below Qc (kXX w (.inl E : String ⊕ ρ) σ) args s mc ms (kA w)) nL E σ pc lv st cells slots := by
  intro H locs ls q ce hH hS hl hq hv hcl
  exact vx_out (fun x hx => (hex x hx).elim) K.lk hq hv hcl (fun t ht _ => ⟨σ, rfl, ⟨rfl, by rw [ht]; exact hH⟩, hS.F ht⟩) hS.2.2 hc hs
theorem kH.kept {H H1 : Heap} (h : kH w σ H) (hk : ∀ q : Nat, q < H.size → H1[q]? = H[q]?) : kH w σ H1 := ⟨h.1.kept (fun k q hq => hk q.1 (h.1 k q hq).lt), h.2⟩
theorem k_throw {ρ : Type} {Qc : Array Value → State → Outcome → State → Prop} {cls text : String} {names : List String} {ik is ic : Nat} (K : kC w p s m args meth c cc nL RX1) (KX : kX w l s)
    (hcls : Bundle.fit cls = true) (hnames : ∀ n ∈ names, Bundle.fit n = true) (hk : Cond.classLink RX1 ik cls ∈ TB) (hini : Cond.initialized cls ∈ TB) (hsb : (is, text) ∈ SB) (hat : ∀ x ∈ vx_atS RX1 ic cls names, x ∈ lw_tbl) (hnb : ∀ x ∈ (vx_atS RX1 ic cls names).filter (fun x => !goodWord x), x ∈ NB)
    (hgood : ∀ x ∈ Cond.classLink RX1 ik cls :: Cond.initialized cls :: vx_atS RX1 ic cls names, vx_ot x = true)
    (d0 : decode cc pc = .ok (.new ik, 3)) (d3 : decode cc (pc + 3) = .ok (.dup, 1)) (d4 : decode cc (pc + 4) = .ok (.ldc is, 2)) (d6 : decode cc (pc + 6) = .ok (.invokespecial ic, 3)) (d9 : decode cc (pc + 9) = .ok (.athrow, 1)) (hex : ∀ x ∈ c.exceptionTable.toList, False)
    (hRf : names.length + 3 < R.frames) (hRl : (st.map fun v => v.category).sum + (13 * (names.length + 1) + 43) ≤ R.locals) (hRc : cells + 1 ≤ R.cells) (hRs : slots + 6 ≤ R.slots) (hc : cells + 1 ≤ mc) (hs : slots + 6 ≤ ms) : kG w p l e R s m args below meth c (vx_MQ below Qc (kXX w (.inl cls : String ⊕ ρ) σ) args s mc ms (kA w)) nL σ pc lv st cells slots := by
  intro H locs ls hH hS hl
  obtain ⟨h1, h2, h3, h4, h5⟩ := KX
  obtain ⟨sa, hsa⟩ := h5 _ hsb
  refine vx_throwS K.ex K.by h1 K.ow hcls hnames (K.ts _ hk) (K.ts _ hini) hsa (vx_hat (B := NB) (fun x hx => ?_) hnb (fun x hx => (h4 x hx).use (nb_tabs hx))) hgood h2 h3 hS (hl.1.1.trans K.ml.symm) d0 d3 d4 d6 d9 (fun x hx => (hex x hx).elim) hRf hRl hRc hRs K.lk (fun t _ hz hq => ⟨σ, rfl, ⟨rfl, hH.kept hq⟩, ?_⟩) hS.2.2 hc hs
  · exact K.ts x (List.mem_filter.mpr ⟨hat x (List.mem_filter.mp hx).1, (List.mem_filter.mp hx).2⟩)
  · exact ⟨Nat.le_trans hS.1 hz, fun q hq1 hq2 => (hq q (Nat.lt_of_lt_of_le hq1 hS.1)).trans (hS.2.1 q hq1 hq2)⟩
/-! returns -/
theorem k_ret {Qc : Array Value → State → Outcome → State → Prop} {XC : String → State → State → Prop} (k : kG w p l e R s m args below meth c (MQ below Qc args s mc ms (kA w)) nL σ pc lv st cells slots) : kG w p l e R s m args below meth c (vx_MQ below Qc XC args s mc ms (kA w)) nL σ pc lv st cells slots :=
  fun H locs ls hH hS hl => vx_ret (k H locs ls hH hS hl)
theorem k_iretX {XC : String → State → State → Prop} (K : kC w p s m args meth c cc nL own) (hr : meth.sig.returnType = some .int) {v : Int32} (d : decode cc pc = .ok (.ireturn, 1)) (hc : cells ≤ mc) (hs : slots ≤ ms) : kG w p l e R s m args below meth c (vx_MQ below (kXi w (.inr v) σ) XC args s mc ms (kA w)) nL σ pc lv [.int v] cells slots :=
  k_ret fun H locs ls hH hS hl => W.widen hc hs (W.iret K.ex K.by hr (fun t ht hW => ⟨⟨v, σ, rfl, ⟨rfl, rfl⟩, by show kH w (kF σ) t.heap; rw [ht]; exact hH⟩, hS.F ht⟩) hS.2.2 d K.lk)
theorem k_vretX {XC : String → State → State → Prop} (K : kC w p s m args meth c cc nL own) (hr : meth.sig.returnType = none) (d : decode cc pc = .ok (.return_, 1)) (hc : cells ≤ mc) (hs : slots ≤ ms) : kG w p l e R s m args below meth c (vx_MQ below (kXv w (.inr ()) σ) XC args s mc ms (kA w)) nL σ pc lv [] cells slots :=
  k_ret fun H locs ls hH hS hl => W.widen hc hs (W.vret K.ex K.by hr (fun t ht hW => ⟨⟨σ, rfl, ⟨rfl, rfl⟩, by show kH w (kF σ) t.heap; rw [ht]; exact hH⟩, hS.F ht⟩) hS.2.2 d K.lk)
theorem k_aretX {XC : String → State → State → Prop} (K : kC w p s m args meth c cc nL own) {n : String} (hr : meth.sig.returnType = some (.object n)) {v : Nat} (d : decode cc pc = .ok (.areturn, 1)) (hc : cells ≤ mc) (hs : slots ≤ ms) : kG w p l e R s m args below meth c (vx_MQ below (kXq w (.inr v) σ) XC args s mc ms (kA w)) nL σ pc lv [.ref (kL w v)] cells slots :=
  k_ret fun H locs ls hH hS hl => W.widen hc hs (W.aret K.ex K.by hr (Or.inl ⟨n, rfl⟩) (Or.inr ⟨_, rfl⟩) (fun t ht hW => ⟨⟨some (kL w v), σ, rfl, ⟨⟨v, rfl, rfl⟩, rfl⟩, by show kH w (kF σ) t.heap; rw [ht]; exact hH⟩, hS.F ht⟩) hS.2.2 d K.lk)
theorem k_metX (hy : plainName y.cls = true) (vs : List Value) (hv : (lg_sl vs).length ≤ maxL) (hv1 : ∀ q ∈ lv_args 0 vs, q.2.category = 1) {Qc : Array Value → State → Outcome → State → Prop} {XC : String → State → State → Prop}
    (body : ∀ p e s m args below meth c, kC w p s m args meth c bytes maxL y.cls → kX w l s → meth.sig.returnType = ret → (∀ x ∈ c.exceptionTable.toList, False) → kG w p l e rm s m args below meth c (vx_MQ below Qc XC args s mc ms (kA w)) maxL σ 0 (lv_args 0 vs) [] 0 0) : vx_Met l y (Cond.code y bytes maxL ret :: TB) rm (va_Pc vs (kPX w l σ)) Qc XC mc ms (kA w) := by
  refine vx_ofW (cc := bytes) (maxL := maxL) (ret := ret) hy rfl ?_
  intro p e s m args below meth c s₁ B hml hex hpc
  obtain ⟨rfl, ⟨hb0, hK, hN, hH⟩, hx⟩ := hpc
  have hts := atoms_spec (ws := Cond.code y bytes maxL ret :: TB) B.pre
  have hl := lv_entry vs (n := maxL) hv
  rw [lg_entry_eq]
  exact body p e s m _ below meth c ⟨B.exec, B.bytes, hml, findClass_of_methodNamed B.named, fun x hx => hts x (List.mem_cons_of_mem _ hx), hK, B.notSynchronized, hb0, hN⟩ hx B.returns hex s.heap [] _ hH va_S.rf ⟨hl, hv1⟩
end KXR
