/-! ===== the law's own methods ===== -/
def kPL (w : kW) (l : Launch) (σ : kS) (U : State) : Prop := kPX w l σ U ∧ kNo U
theorem kPL_blind (w : kW) (l : Launch) (σ : kS) (As : List Value) : FrameBlind (va_Pc As (kPL w l σ)) := by
  intro a U g mk q
  obtain ⟨e, q1, q2⟩ := q
  exact ⟨e, (kPX_blind w l σ As a U g mk ⟨e, q1⟩).2, q2.moved (u := U) (U := U.calling g mk a) (Vm.Alike.refl U.vm)⟩
theorem kg_SW {own : String} {idx : Nat} {y : MethodName} {b : ByteArray} {n : Nat} {r : Option FieldType} {hh : List (Nat × Nat × Nat × Nat)} (h1 : Cond.methodLink own idx y ∈ TB) (h2 : Cond.static y ∈ TB) (h3 : Cond.initialized y.cls ∈ TB) (h4 : Cond.codeWith y b n r hh ∈ TB) : GoodIn TB (va_wsS own idx y (Cond.codeWith y b n r hh :: TB)) := by
  intro x hx
  have : x ∈ TB := by
    rcases List.mem_append.mp hx with h | h
    · rcases List.mem_cons.mp h with rfl | h
      · exact h1
      · rcases List.mem_cons.mp h with rfl | h
        · exact h2
        · rcases List.mem_cons.mp h with rfl | h
          · exact h3
          · cases h
    · rcases List.mem_cons.mp h with rfl | h
      · exact h4
      · exact h
  exact ⟨this, tb_good this⟩
section KL
variable {w : kW} {p : Program} {l : Launch} {e : Env} {R : Room} {s : State} {m : MethodId} {args : Array Value} {below : List Frame} {meth : Method} {c : Code} {Q : State → Prop}
variable {cc : ByteArray} {nL : Nat} {own : String} {σ τ : kS} {pc : Nat} {lv : List (Nat × Value)} {st rest As : List Value} {cells slots mc ms : Nat} {y : MethodName} {bytes : ByteArray} {maxL idx n : Nat} {ret : Option FieldType} {rm : Room} {hh : List (Nat × Nat × Nat × Nat)}
theorem k_metL (hy : plainName y.cls = true) (vs : List Value) (hv : (lg_sl vs).length ≤ maxL) (hv1 : ∀ q ∈ lv_args 0 vs, q.2.category = 1) {Qc : Array Value → State → Outcome → State → Prop}
    (body : ∀ p e s m args below meth c, kC w p s m args meth c bytes maxL y.cls → kX w l s → kNo s → meth.sig.returnType = ret → c.exceptionTable.toList = tableOf hh → kG w p l e rm s m args below meth c (MQ below Qc args s mc ms (kA w)) maxL σ 0 (lv_args 0 vs) [] 0 0) : Met l y (Cond.codeWith y bytes maxL ret hh :: TB) rm (va_Pc vs (kPL w l σ)) Qc mc ms (kA w) := by
  refine va_MetW (cc := bytes) (maxL := maxL) (ret := ret) (hh := hh) hy rfl ?_
  intro p e s m args below meth c s₁ B hml hpc
  obtain ⟨rfl, ⟨⟨hb0, hK, hN, hH⟩, hx⟩, hno⟩ := hpc
  have hts := atoms_spec (ws := Cond.codeWith y bytes maxL ret hh :: TB) B.pre
  have hl := lv_entry vs (n := maxL) hv
  rw [lg_entry_eq]
  exact body p e s m _ below meth c ⟨B.exec, B.bytes, hml, findClass_of_methodNamed B.named, fun x hx => hts x (List.mem_cons_of_mem _ hx), hK, B.notSynchronized, hb0, hN⟩ hx hno B.returns (vx_table (x := y) B (hts _ List.mem_cons_self)) s.heap [] _ hH va_S.rf ⟨hl, hv1⟩
theorem k_callLi (K : kC w p s m args meth c cc nL own) (KX : kX w l s) (KN : kNo s) (d : decode cc pc = .ok (.invokestatic idx, 3)) (hG : GoodIn TB (va_wsS own idx y (Cond.codeWith y bytes maxL ret hh :: TB))) (hd : kNm y n) (hn : As.length = n) (hR : rm.frames + 1 ≤ R.frames ∧ 8 + (maxL + 11) + rm.locals ≤ R.locals) (hr : (rest.map fun v => v.category).sum ≤ 8) (hst : st = As.reverse ++ rest) (hf : cells + mc ≤ R.cells ∧ slots + ms ≤ R.slots) {v : Int32} (hM : Met l y (Cond.codeWith y bytes maxL ret hh :: TB) rm (va_Pc As (kPL w l σ)) (kQi w v τ) mc ms (kA w)) (hrm : rm.cells = mc ∧ rm.slots = ms)
    (kk : kG w p l e R s m args below meth c Q nL τ (pc + 3) lv (.int v :: rest) (cells + mc) (slots + ms)) : kG w p l e R s m args below meth c Q nL σ pc lv st cells slots := by
  intro H locs ls hH hS hl
  have hpre : PreS s H (va_Pc As (kPL w l σ)) As := ⟨kPL_blind w l σ As, fun U hU hW => ⟨rfl, ((K.preX KX hH hS As).2 U hU hW).2, KN.moved hW.alike⟩⟩
  refine va_calli (vx_runSW (As := As) (rest := rest) K.fix hM (vx_cwSW n K.ts hG rfl hrm.1 hrm.2 hd hR) hpre rfl hn hl.1.1 hst (lv_room hr) d hf) hS (fun _ _ h => h) (fun _ h => h) (fun r u t H1 locs1 ht _ hp hB _ _ hS1 => ?_)
  obtain ⟨rfl, rfl⟩ := hp
  exact kk H1 locs1 ls (by rw [← ht]; exact hB) hS1 hl
end KL
