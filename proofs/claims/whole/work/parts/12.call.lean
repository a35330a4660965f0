/-! ===== contracts: what holds ahead of a call, what behind it; calls; returns ===== -/
def kP (w : kW) (σ : kS) (U : State) : Prop := w.2.2.2.2 ≤ U.heap.size ∧ va_K w.1 vwCl (kt w) U ∧ w.2.2.2.1 = kN ∧ kH w (kF σ) U.heap
def kQi (w : kW) (v : Int32) (σ : kS) : Array Value → State → Outcome → State → Prop := va_Qi (fun r (u : kS) => r = v ∧ u = σ) (fun u t => kH w (kF u) t.heap) (kA w)
def kQv (w : kW) (σ : kS) : Array Value → State → Outcome → State → Prop := va_Qv (fun (u : kS) => u = σ) (fun u t => kH w (kF u) t.heap) (kA w)
def kQq (w : kW) (v : Option Nat) (σ : kS) : Array Value → State → Outcome → State → Prop := va_Qq (fun r (u : kS) => r = v.map (kL w) ∧ u = σ) (fun u t => kH w (kF u) t.heap) (kA w)
theorem kP_blind (w : kW) (σ : kS) (As : List Value) : FrameBlind (va_Pc As (kP w σ)) := fun a U g mk q => ⟨q.1, q.2.1, va_K.moved (u := U) (U := U.calling g mk a) (Vm.Alike.refl U.vm) q.2.2.1, q.2.2.2.1, q.2.2.2.2⟩
theorem kg_S {own : String} {idx : Nat} {y : MethodName} {b : ByteArray} {n : Nat} {r : Option FieldType} (h1 : Cond.methodLink own idx y ∈ TB) (h2 : Cond.static y ∈ TB) (h3 : Cond.initialized y.cls ∈ TB) (h4 : Cond.code y b n r ∈ TB) : GoodIn TB (va_wsS own idx y (Cond.code y b n r :: TB)) := by
  intro x hx
  have : x ∈ TB := by
    rcases List.mem_append.mp hx with h | h
    · rcases List.mem_cons.mp h with rfl | h
      · exact h1
      · rcases List.mem_cons.mp h with rfl | h
        · exact h2
        · rcases List.mem_cons.mp h with rfl | h
          · exact h3
          · cases h
    · rcases List.mem_cons.mp h with rfl | h
      · exact h4
      · exact h
  exact ⟨this, tb_good this⟩
theorem kg_V {own C : String} {idx : Nat} {y : MethodName} {b : ByteArray} {n : Nat} {r : Option FieldType} (h1 : Cond.methodLink own idx y ∈ TB) (h2 : Cond.instanceMethod y ∈ TB) (h3 : Cond.selects C y y ∈ TB) (h5 : Cond.initialized C ∈ TB) (h4 : Cond.code y b n r ∈ TB) : GoodIn TB (wsV own idx C y (Cond.code y b n r :: TB)) := by
  intro x hx
  have : x ∈ TB := by
    rcases List.mem_append.mp hx with h | h
    · rcases List.mem_cons.mp h with rfl | h
      · exact h1
      · rcases List.mem_cons.mp h with rfl | h
        · exact h2
        · rcases List.mem_cons.mp h with rfl | h
          · exact h3
          · rcases List.mem_cons.mp h with rfl | h
            · exact h5
            · cases h
    · rcases List.mem_cons.mp h with rfl | h
      · exact h4
      · exact h
  exact ⟨this, tb_good this⟩
/-- a call's name: not one of the two, so many parameters -/
abbrev kNm (y : MethodName) (n : Nat) : Prop := y.cls ≠ "java/lang/invoke/MethodHandle" ∧ y.cls ≠ "java/lang/invoke/VarHandle" ∧ (parseMethodDescriptor y.desc).map (fun d => d.parameters.length) = some n
section KC
variable {w : kW} {p : Program} {l : Launch} {e : Env} {R : Room} {s : State} {m : MethodId} {args : Array Value} {below : List Frame} {meth : Method} {c : Code} {Q : State → Prop}
variable {cc : ByteArray} {nL : Nat} {own : String} {σ τ : kS} {pc : Nat} {lv : List (Nat × Value)} {st rest As : List Value} {cells slots mc ms mc' ms' : Nat} {y : MethodName} {bytes : ByteArray} {maxL idx n : Nat} {ret : Option FieldType} {rm : Room} {H : Heap} {locs : List Loc}
theorem kC.pre (K : kC w p s m args meth c cc nL own) (hH : kH w (kF σ) H) (hS : va_S (kA w) s.heap H locs) (As : List Value) : PreS s H (va_Pc As (kP w σ)) As :=
  ⟨kP_blind w σ As, fun U hU hW => ⟨rfl, by rw [hU]; exact Nat.le_trans K.b0 hS.1, va_K.moved hW.alike K.kk, K.nn, by rw [hU]; exact hH⟩⟩
theorem kC.preV (K : kC w p s m args meth c cc nL own) (hH : kH w (kF σ) H) (hS : va_S (kA w) s.heap H locs) {a ci nf : Nat} {C : String} {T : u_T} (hd : kd a = (0, ci, nf)) (hc : vwCl[ci]? = some (C, T, nf)) (As : List Value) : PreV s H C (kL w a) (va_Pc (.ref (kL w a) :: As) (kP w σ)) As :=
  ⟨kP_blind w σ _, va_recv K.kk hH.1 hc (K.o (kF σ) hd), fun U hU hW => ⟨rfl, by rw [hU]; exact Nat.le_trans K.b0 hS.1, va_K.moved hW.alike K.kk, K.nn, by rw [hU]; exact hH⟩⟩
theorem kC.fix (K : kC w p s m args meth c cc nL own) : CallFix p m c cc nL s args TB own := ⟨K.ex, K.by, K.ml, K.ow, K.ts⟩
theorem k_callSi (K : kC w p s m args meth c cc nL own) (d : decode cc pc = .ok (.invokestatic idx, 3)) (hG : GoodIn TB (va_wsS own idx y (Cond.code y bytes maxL ret :: TB))) (hd : kNm y n) (hn : As.length = n) (hR : rm.frames + 1 ≤ R.frames ∧ 8 + (maxL + 11) + rm.locals ≤ R.locals) (hr : (rest.map fun v => v.category).sum ≤ 8) (hst : st = As.reverse ++ rest) (hf : cells + mc ≤ R.cells ∧ slots + ms ≤ R.slots) {v : Int32} (hM : Met l y (Cond.code y bytes maxL ret :: TB) rm (va_Pc As (kP w σ)) (kQi w v τ) mc ms (kA w)) (hrm : rm.cells = mc ∧ rm.slots = ms)
    (kk : kG w p l e R s m args below meth c Q nL τ (pc + 3) lv (.int v :: rest) (cells + mc) (slots + ms)) : kG w p l e R s m args below meth c Q nL σ pc lv st cells slots := by
  intro H locs ls hH hS hl
  refine va_calli (va_runS (As := As) (rest := rest) K.fix hM (va_cwS n K.ts hG rfl hrm.1 hrm.2 hd hR) (K.pre hH hS As) rfl hn hl.1.1 hst (lv_room hr) d hf) hS (fun _ _ h => h) (fun _ h => h) (fun r u t H1 locs1 ht _ hp hB _ _ hS1 => ?_)
  obtain ⟨rfl, rfl⟩ := hp
  exact kk H1 locs1 ls (by rw [← ht]; exact hB) hS1 hl
theorem k_callSv (K : kC w p s m args meth c cc nL own) (d : decode cc pc = .ok (.invokestatic idx, 3)) (hG : GoodIn TB (va_wsS own idx y (Cond.code y bytes maxL ret :: TB))) (hd : kNm y n) (hn : As.length = n) (hR : rm.frames + 1 ≤ R.frames ∧ 8 + (maxL + 11) + rm.locals ≤ R.locals) (hr : (rest.map fun v => v.category).sum ≤ 8) (hst : st = As.reverse ++ rest) (hf : cells + mc ≤ R.cells ∧ slots + ms ≤ R.slots) (hM : Met l y (Cond.code y bytes maxL ret :: TB) rm (va_Pc As (kP w σ)) (kQv w τ) mc ms (kA w)) (hrm : rm.cells = mc ∧ rm.slots = ms)
    (kk : kG w p l e R s m args below meth c Q nL τ (pc + 3) lv rest (cells + mc) (slots + ms)) : kG w p l e R s m args below meth c Q nL σ pc lv st cells slots := by
  intro H locs ls hH hS hl
  refine va_callv (va_runS (As := As) (rest := rest) K.fix hM (va_cwS n K.ts hG rfl hrm.1 hrm.2 hd hR) (K.pre hH hS As) rfl hn hl.1.1 hst (lv_room hr) d hf) hS (fun _ _ h => h) (fun _ h => h) (fun u t H1 locs1 ht _ hp hB _ _ hS1 => ?_)
  obtain rfl := hp
  exact kk H1 locs1 ls (by rw [← ht]; exact hB) hS1 hl
theorem k_callVi (K : kC w p s m args meth c cc nL own) (d : decode cc pc = .ok (.invokevirtual idx, 3)) {a ci nf : Nat} {C : String} {T : u_T} (hk : kd a = (0, ci, nf)) (hc : vwCl[ci]? = some (C, T, nf)) (hG : GoodIn TB (wsV own idx C y (Cond.code y bytes maxL ret :: TB))) (hC : y.cls = C) (hd : kNm y n) (hn : As.length = n) (hR : rm.frames + 1 ≤ R.frames ∧ 8 + (maxL + 11) + rm.locals ≤ R.locals) (hr : (rest.map fun v => v.category).sum ≤ 8) (hst : st = As.reverse ++ .ref (kL w a) :: rest) (hf : cells + mc ≤ R.cells ∧ slots + ms ≤ R.slots) {v : Int32} (hM : Met l y (Cond.code y bytes maxL ret :: TB) rm (va_Pc (.ref (kL w a) :: As) (kP w σ)) (kQi w v τ) mc ms (kA w)) (hrm : rm.cells = mc ∧ rm.slots = ms)
    (kk : kG w p l e R s m args below meth c Q nL τ (pc + 3) lv (.int v :: rest) (cells + mc) (slots + ms)) : kG w p l e R s m args below meth c Q nL σ pc lv st cells slots := by
  intro H locs ls hH hS hl
  refine va_calli (va_runV (As := As) (rest := rest) K.fix hM (cwV n K.ts hG rfl hrm.1 hrm.2 ⟨hC, hd⟩ hR) (K.preV hH hS hk hc As) rfl hn hl.1.1 hst (lv_room hr) d hf) hS (fun _ _ h => h) (fun _ h => h) (fun r u t H1 locs1 ht _ hp hB _ _ hS1 => ?_)
  obtain ⟨rfl, rfl⟩ := hp
  exact kk H1 locs1 ls (by rw [← ht]; exact hB) hS1 hl
theorem k_callVv (K : kC w p s m args meth c cc nL own) (d : decode cc pc = .ok (.invokevirtual idx, 3)) {a ci nf : Nat} {C : String} {T : u_T} (hk : kd a = (0, ci, nf)) (hc : vwCl[ci]? = some (C, T, nf)) (hG : GoodIn TB (wsV own idx C y (Cond.code y bytes maxL ret :: TB))) (hC : y.cls = C) (hd : kNm y n) (hn : As.length = n) (hR : rm.frames + 1 ≤ R.frames ∧ 8 + (maxL + 11) + rm.locals ≤ R.locals) (hr : (rest.map fun v => v.category).sum ≤ 8) (hst : st = As.reverse ++ .ref (kL w a) :: rest) (hf : cells + mc ≤ R.cells ∧ slots + ms ≤ R.slots) (hM : Met l y (Cond.code y bytes maxL ret :: TB) rm (va_Pc (.ref (kL w a) :: As) (kP w σ)) (kQv w τ) mc ms (kA w)) (hrm : rm.cells = mc ∧ rm.slots = ms)
    (kk : kG w p l e R s m args below meth c Q nL τ (pc + 3) lv rest (cells + mc) (slots + ms)) : kG w p l e R s m args below meth c Q nL σ pc lv st cells slots := by
  intro H locs ls hH hS hl
  refine va_callv (va_runV (As := As) (rest := rest) K.fix hM (cwV n K.ts hG rfl hrm.1 hrm.2 ⟨hC, hd⟩ hR) (K.preV hH hS hk hc As) rfl hn hl.1.1 hst (lv_room hr) d hf) hS (fun _ _ h => h) (fun _ h => h) (fun u t H1 locs1 ht _ hp hB _ _ hS1 => ?_)
  obtain rfl := hp
  exact kk H1 locs1 ls (by rw [← ht]; exact hB) hS1 hl
theorem k_callVq (K : kC w p s m args meth c cc nL own) (d : decode cc pc = .ok (.invokevirtual idx, 3)) {a ci nf : Nat} {C : String} {T : u_T} (hk : kd a = (0, ci, nf)) (hc : vwCl[ci]? = some (C, T, nf)) (hG : GoodIn TB (wsV own idx C y (Cond.code y bytes maxL ret :: TB))) (hC : y.cls = C) (hd : kNm y n) (hn : As.length = n) (hR : rm.frames + 1 ≤ R.frames ∧ 8 + (maxL + 11) + rm.locals ≤ R.locals) (hr : (rest.map fun v => v.category).sum ≤ 8) (hst : st = As.reverse ++ .ref (kL w a) :: rest) (hf : cells + mc ≤ R.cells ∧ slots + ms ≤ R.slots) {v : Option Nat} (hM : Met l y (Cond.code y bytes maxL ret :: TB) rm (va_Pc (.ref (kL w a) :: As) (kP w σ)) (kQq w v τ) mc ms (kA w)) (hrm : rm.cells = mc ∧ rm.slots = ms)
    (kk : kG w p l e R s m args below meth c Q nL τ (pc + 3) lv (va_rf (v.map (kL w)) :: rest) (cells + mc) (slots + ms)) : kG w p l e R s m args below meth c Q nL σ pc lv st cells slots := by
  intro H locs ls hH hS hl
  refine va_callq (va_runV (As := As) (rest := rest) K.fix hM (cwV n K.ts hG rfl hrm.1 hrm.2 ⟨hC, hd⟩ hR) (K.preV hH hS hk hc As) rfl hn hl.1.1 hst (lv_room hr) d hf) hS (fun _ _ h => h) (fun _ h => h) (fun r u t H1 locs1 ht _ hp hB _ _ hS1 => ?_)
  obtain ⟨rfl, rfl⟩ := hp
  exact kk H1 locs1 ls (by rw [← ht]; exact hB) hS1 hl
/-! returns -/
theorem k_iret (K : kC w p s m args meth c cc nL own) (hr : meth.sig.returnType = some .int) {v : Int32} (d : decode cc pc = .ok (.ireturn, 1)) (hc : cells ≤ mc) (hs : slots ≤ ms) : kG w p l e R s m args below meth c (MQ below (kQi w v σ) args s mc ms (kA w)) nL σ pc lv [.int v] cells slots :=
  fun H locs ls hH hS hl => W.widen hc hs (W.iret K.ex K.by hr (fun t ht hW => ⟨⟨v, σ, rfl, ⟨rfl, rfl⟩, by show kH w (kF σ) t.heap; rw [ht]; exact hH⟩, hS.F ht⟩) hS.2.2 d K.lk)
theorem k_zret (K : kC w p s m args meth c cc nL own) (hr : meth.sig.returnType = some .boolean) {v : Int32} (hn : narrow .boolean (.int v) = .int v) (d : decode cc pc = .ok (.ireturn, 1)) (hc : cells ≤ mc) (hs : slots ≤ ms) : kG w p l e R s m args below meth c (MQ below (kQi w v σ) args s mc ms (kA w)) nL σ pc lv [.int v] cells slots :=
  fun H locs ls hH hS hl => W.widen hc hs (W.zret K.ex K.by hr hn (fun t ht hW => ⟨⟨v, σ, rfl, ⟨rfl, rfl⟩, by show kH w (kF σ) t.heap; rw [ht]; exact hH⟩, hS.F ht⟩) hS.2.2 d K.lk)
theorem k_vret (K : kC w p s m args meth c cc nL own) (hr : meth.sig.returnType = none) (d : decode cc pc = .ok (.return_, 1)) (hc : cells ≤ mc) (hs : slots ≤ ms) : kG w p l e R s m args below meth c (MQ below (kQv w σ) args s mc ms (kA w)) nL σ pc lv [] cells slots :=
  fun H locs ls hH hS hl => W.widen hc hs (W.vret K.ex K.by hr (fun t ht hW => ⟨⟨σ, rfl, rfl, by show kH w (kF σ) t.heap; rw [ht]; exact hH⟩, hS.F ht⟩) hS.2.2 d K.lk)
theorem k_aret (K : kC w p s m args meth c cc nL own) {n : String} (hr : meth.sig.returnType = some (.object n)) {v : Option Nat} (d : decode cc pc = .ok (.areturn, 1)) (hc : cells ≤ mc) (hs : slots ≤ ms) : kG w p l e R s m args below meth c (MQ below (kQq w v σ) args s mc ms (kA w)) nL σ pc lv [va_rf (v.map (kL w))] cells slots :=
  fun H locs ls hH hS hl => W.widen hc hs (W.aret K.ex K.by hr (Or.inl ⟨n, rfl⟩) (va_rf_or _) (fun t ht hW => ⟨⟨v.map (kL w), σ, rfl, ⟨rfl, rfl⟩, by show kH w (kF σ) t.heap; rw [ht]; exact hH⟩, hS.F ht⟩) hS.2.2 d K.lk)
/-! a method's contract out of the walk of its body -/
theorem k_met (hy : plainName y.cls = true) (vs : List Value) (hv : (lg_sl vs).length ≤ maxL) (hv1 : ∀ q ∈ lv_args 0 vs, q.2.category = 1) {Qc : Array Value → State → Outcome → State → Prop}
    (body : ∀ p e s m args below meth c, kC w p s m args meth c bytes maxL y.cls → meth.sig.returnType = ret → kG w p l e rm s m args below meth c (MQ below Qc args s mc ms (kA w)) maxL σ 0 (lv_args 0 vs) [] 0 0) : Met l y (Cond.code y bytes maxL ret :: TB) rm (va_Pc vs (kP w σ)) Qc mc ms (kA w) := by
  refine Met.ofW (cc := bytes) (maxL := maxL) (ret := ret) hy rfl ?_
  intro p e s m args below meth c s₁ B hml hpc
  obtain ⟨rfl, hb0, hK, hN, hH⟩ := hpc
  have hts := atoms_spec (ws := Cond.code y bytes maxL ret :: TB) B.pre
  have hl := lv_entry vs (n := maxL) hv
  rw [lg_entry_eq]
  exact body p e s m _ below meth c ⟨B.exec, B.bytes, hml, findClass_of_methodNamed B.named, fun x hx => hts x (List.mem_cons_of_mem _ hx), hK, B.notSynchronized, hb0, hN⟩ B.returns s.heap [] _ hH va_S.rf ⟨hl, hv1⟩
theorem k_metF (hy : plainFor y = true) (vs : List Value) (hv : (lg_sl vs).length ≤ maxL) (hv1 : ∀ q ∈ lv_args 0 vs, q.2.category = 1) {Qc : Array Value → State → Outcome → State → Prop}
    (body : ∀ p e s m args below meth c, kC w p s m args meth c bytes maxL y.cls → meth.sig.returnType = ret → kG w p l e rm s m args below meth c (MQ below Qc args s mc ms (kA w)) maxL σ 0 (lv_args 0 vs) [] 0 0) : Met l y (Cond.code y bytes maxL ret :: TB) rm (va_Pc vs (kP w σ)) Qc mc ms (kA w) := by
  refine va_MetF (cc := bytes) (maxL := maxL) (ret := ret) hy rfl ?_
  intro p e s m args below meth c s₁ B hml hpc
  obtain ⟨rfl, hb0, hK, hN, hH⟩ := hpc
  have hts := atoms_spec (ws := Cond.code y bytes maxL ret :: TB) B.pre
  have hl := lv_entry vs (n := maxL) hv
  rw [lg_entry_eq]
  exact body p e s m _ below meth c ⟨B.exec, B.bytes, hml, findClass_of_methodNamed B.named, fun x hx => hts x (List.mem_cons_of_mem _ hx), hK, B.notSynchronized, hb0, hN⟩ B.returns s.heap [] _ hH va_S.rf ⟨hl, hv1⟩
end KC
/-! fewer locals -/
theorem k_sub {w : kW} {p : Program} {l : Launch} {e : Env} {R : Room} {s : State} {m : MethodId} {args : Array Value} {below : List Frame} {meth : Method} {c : Code} {Q : State → Prop} {nL : Nat} {σ : kS} {pc : Nat} {lv lv' : List (Nat × Value)} {st : List Value} {cells slots : Nat} (ks : List Nat) (h : lv_pick lv ks = lv') (k : kG w p l e R s m args below meth c Q nL σ pc lv' st cells slots) : kG w p l e R s m args below meth c Q nL σ pc lv st cells slots :=
  fun H locs ls hH hS hl => k H locs ls hH hS ⟨lv_sub hl.1 ks h, fun q hq => by
    rw [← h] at hq
    obtain ⟨i, -, hi⟩ := List.mem_filterMap.mp hq
    exact hl.2 q (List.mem_of_getElem? hi)⟩
theorem k_widen {w : kW} {p : Program} {l : Launch} {e : Env} {R : Room} {s : State} {m : MethodId} {args : Array Value} {below : List Frame} {meth : Method} {c : Code} {Q : State → Prop} {nL : Nat} {σ : kS} {pc : Nat} {lv : List (Nat × Value)} {st : List Value} {cells slots : Nat} {k n : Nat} (h1 : cells ≤ k) (h2 : slots ≤ n) (kk : kG w p l e R s m args below meth c Q nL σ pc lv st k n) : kG w p l e R s m args below meth c Q nL σ pc lv st cells slots :=
  fun H locs ls hH hS hl => W.widen h1 h2 (kk H locs ls hH hS hl)
/-! loops -/
def kit {α β : Type} (body : α → Option (α ⊕ β)) : Nat → α → Option β
  | 0, _ => none
  | n + 1, a => match body a with
    | none => none
    | some (.inl b) => kit body n b
    | some (.inr r) => some r
theorem kit_ind {α β : Type} {body : α → Option (α ⊕ β)} (P : α → β → Prop) (step : ∀ a a' b, body a = some (.inl a') → P a' b → P a b) (fin : ∀ a b, body a = some (.inr b) → P a b) : ∀ (n : Nat) (a : α) (b : β), kit body n a = some b → P a b := by
  intro n
  induction n with
  | zero => intro a b h; cases h
  | succ n ih =>
    intro a b h
    simp only [kit] at h
    cases hb : body a with
    | none => rw [hb] at h; cases h
    | some r =>
      rw [hb] at h
      cases r with
      | inl a' => exact step a a' b hb (ih a' b h)
      | inr r => cases h; exact fin a _ hb
theorem k_gd {α : Type} {c : Prop} [Decidable c] {A : Option α} {b : α} (h : (if c then A else none) = some b) : c ∧ A = some b := by
  by_cases hc : c
  · rw [if_pos hc] at h; exact ⟨hc, h⟩
  · rw [if_neg hc] at h; cases h
theorem k_br {α : Type} {c : Prop} [Decidable c] {A B : Option α} {b : α} (h : (if c then A else B) = some b) : (c ∧ A = some b) ∨ (¬ c ∧ B = some b) := by
  by_cases hc : c
  · rw [if_pos hc] at h; exact Or.inl ⟨hc, h⟩
  · rw [if_neg hc] at h; exact Or.inr ⟨hc, h⟩
theorem k_bd {α β : Type} {x : Option α} {f : α → Option β} {b : β} (h : x.bind f = some b) : ∃ a, x = some a ∧ f a = some b := by
  cases x with
  | none => cases h
  | some a => exact ⟨a, rfl, h⟩
/-- a reference that may be null -/
def kmn {α : Type} (x : Option Nat) (A : Option α) (B : Nat → Option α) : Option α := match x with
  | none => A
  | some c => B c
theorem k_mn {α : Type} {x : Option Nat} {A : Option α} {B : Nat → Option α} {b : α} (h : kmn x A B = some b) : (x = none ∧ A = some b) ∨ ∃ c, x = some c ∧ B c = some b := by
  cases x with
  | none => exact Or.inl ⟨rfl, h⟩
  | some c => exact Or.inr ⟨c, rfl, h⟩
theorem k_mp {α β : Type} {x : Option α} {f : α → β} {b : β} (h : x.map f = some b) : ∃ a, x = some a ∧ f a = b := by
  cases x with
  | none => cases h
  | some a => exact ⟨a, rfl, Option.some.inj h⟩
theorem kd_m0 {a : Nat} (h : kd a = (0, 0, 8)) : kd (a + 1 + 0) = (1, 0, 4) ∧ kd (a + 1 + 1) = (1, 0, 8) ∧ kd (a + 1 + 2) = (1, 0, 64) ∧ kd (a + 1 + 3) = (1, 0, 64) ∧ kd (a + 1 + 4) = (1, 0, 64) := by
  have hlt : a < 139 := kd_lt (by rw [h]; decide)
  have key : ∀ a : Fin 139, kd a.val = (0, 0, 8) → kd (a.val + 1 + 0) = (1, 0, 4) ∧ kd (a.val + 1 + 1) = (1, 0, 8) ∧ kd (a.val + 1 + 2) = (1, 0, 64) ∧ kd (a.val + 1 + 3) = (1, 0, 64) ∧ kd (a.val + 1 + 4) = (1, 0, 64) := by decide +kernel
  exact key ⟨a, hlt⟩ h
