theorem tw_65 : (.methodLink RX1 1 objectInit : Cond) ∈ TB := tb_in (i := 65) (by decide +kernel) (by decide +kernel)
theorem tw_66 : (.instanceMethod objectInit : Cond) ∈ TB := tb_in (i := 66) (by decide +kernel) (by decide +kernel)
theorem tw_67 : (.code objectInit ⟨#[0xb1]⟩ 1 none : Cond) ∈ TB := tb_in (i := 67) (by decide +kernel) (by decide +kernel)
theorem tw_68 : (.classLink RX1 9 RX0 : Cond) ∈ TB := tb_in (i := 68) (by decide +kernel) (by decide +kernel)
theorem tw_70 : (.instantiable RX0 8 : Cond) ∈ TB := tb_in (i := 70) (by decide +kernel) (by decide +kernel)
theorem tw_72 : (.instanceMethod yX0_init : Cond) ∈ TB := tb_in (i := 72) (by decide +kernel) (by decide +kernel)
theorem tw_73 : (.code yX0_init cX0_init 1 none : Cond) ∈ TB := tb_in (i := 73) (by decide +kernel) (by decide +kernel)
theorem tw_74 : (.methodLink RX0 3 objectInit : Cond) ∈ TB := tb_in (i := 74) (by decide +kernel) (by decide +kernel)
theorem tw_108 : (.arrayClass .int : Cond) ∈ TB := tb_in (i := 108) (by decide +kernel) (by decide +kernel)
theorem tw_146 : (.arrayClass .boolean : Cond) ∈ TB := tb_in (i := 146) (by decide +kernel) (by decide +kernel)
theorem tw_544 : (.methodLink RX2 1 objectInit : Cond) ∈ TB := tb_in (i := 544) (by decide +kernel) (by decide +kernel)
theorem tw_776 : (.arrayClass .long : Cond) ∈ TB := tb_in (i := 776) (by decide +kernel) (by decide +kernel)
/-! ===== the three constructors ===== -/
def k0 : kS := (fun _ _ => 0, fun _ _ => none, fun _ _ => 0)
theorem kZ_sR {σ : kS} {a k b : Nat} {v : Option Nat} (h : kZ σ b) (hne : b ≠ a) : kZ (sR σ a k v) b := ⟨h.1, by rw [← h.2.1]; funext j; simp [sR, hne], h.2.2⟩
theorem kZ_sI {σ : kS} {a k b : Nat} {v : Int32} (h : kZ σ b) (hne : b ≠ a) : kZ (sI σ a k v) b := ⟨by rw [← h.1]; funext j; simp [sI, hne], h.2⟩
theorem kZ_k0 (b : Nat) : kZ k0 b := ⟨rfl, rfl, rfl⟩
/-- a member is made -/
def mI (σ : kS) (a : Nat) : kS := sI (sI (sR (sR (sR (sR (sR σ a 0 (some (a + 1))) a 1 (some (a + 1 + 1))) a 2 (some (a + 1 + 1 + 1))) a 3 (some (a + 1 + 1 + 1 + 1))) a 4 (some (a + 1 + 1 + 1 + 1 + 1))) a 5 (-1)) a 6 (-1)
theorem kZ_mI {σ : kS} {a b : Nat} (h : kZ σ b) (hne : b ≠ a) : kZ (mI σ a) b := kZ_sI (kZ_sI (kZ_sR (kZ_sR (kZ_sR (kZ_sR (kZ_sR h hne) hne) hne) hne) hne) hne) hne
def yNest : Cond := .methodLinkNest RX1 15 yX0_init RX1
def kPc (w : kW) (n : Nat) (σ : kS) (U : State) : Prop := w.2.2.2.2 ≤ U.heap.size ∧ va_K w.1 vwCl (kt w) U ∧ kHc w n σ U.heap ∧ va_AO RX0 U ∧ va_Nw yNest U
def kQc (w : kW) (n : Nat) (σ : kS) : Array Value → State → Outcome → State → Prop := va_Qv (fun (u : kS) => u = σ) (fun u t => kHc w n u t.heap) (kA w)
theorem kPc_blind (w : kW) (n : Nat) (σ : kS) (As : List Value) : FrameBlind (va_Pc As (kPc w n σ)) := fun a U g mk q => ⟨q.1, q.2.1, va_K.moved (u := U) (U := U.calling g mk a) (Vm.Alike.refl U.vm) q.2.2.1, q.2.2.2.1, va_AO.moved (u := U) (U := U.calling g mk a) (Vm.Alike.refl U.vm) q.2.2.2.2.1, va_Nw.same (u := U) (U := U.calling g mk a) rfl rfl q.2.2.2.2.2⟩
theorem kg_I {y : MethodName} {b : ByteArray} {n : Nat} {r : Option FieldType} (h : Cond.code y b n r ∈ TB) : GoodIn TB (Cond.code y b n r :: TB) := fun x hx => by
  rcases List.mem_cons.mp hx with rfl | hx
  · exact ⟨h, tb_good h⟩
  · exact ⟨hx, tb_good hx⟩
section CT
variable {w : kW} {p : Program} {l : Launch} {e : Env} {R : Room} {s : State} {m : MethodId} {args : Array Value} {below : List Frame} {meth : Method} {c : Code} {Q : State → Prop}
variable {cc bytes : ByteArray} {nL n n' maxL idx : Nat} {own : String} {σ τ : kS} {pc : Nat} {lv lv' : List (Nat × Value)} {st rest : List Value} {cells slots mc ms : Nat} {y : MethodName} {rm : Room}
theorem c_vret (K : kCc w p s m args meth c cc nL own) (hr : meth.sig.returnType = none) (d : decode cc pc = .ok (.return_, 1)) (hc : cells ≤ mc) (hs : slots ≤ ms) : kGc w p l e R s m args below meth c (MQ below (kQc w n σ) args s mc ms (kA w)) nL n σ pc lv [] cells slots :=
  fun H locs ls hH hS hl => W.widen hc hs (W.vret K.ex K.by hr (fun t ht hW => ⟨⟨σ, rfl, rfl, by show kHc w n σ t.heap; rw [ht]; exact hH⟩, hS.F ht⟩) hS.2.2 d K.lk)
theorem c_met (hy : plainName y.cls = true) (vs : List Value) (hv : (lg_sl vs).length ≤ maxL) (hv1 : ∀ q ∈ lv_args 0 vs, q.2.category = 1) {Qc : Array Value → State → Outcome → State → Prop}
    (body : ∀ p e s m args below meth c, kCc w p s m args meth c bytes maxL y.cls → meth.sig.returnType = none → meth.name = y.name → va_AO RX0 s → va_Nw yNest s → kGc w p l e rm s m args below meth c (MQ below Qc args s mc ms (kA w)) maxL n σ 0 (lv_args 0 vs) [] 0 0) : Met l y (Cond.code y bytes maxL none :: TB) rm (va_Pc vs (kPc w n σ)) Qc mc ms (kA w) := by
  refine Met.ofW (cc := bytes) (maxL := maxL) (ret := none) hy rfl ?_
  intro p e s m args below meth c s₁ B hml hpc
  obtain ⟨rfl, hb0, hK, hH, hAO, hNw⟩ := hpc
  have hts := atoms_spec (ws := Cond.code y bytes maxL none :: TB) B.pre
  have hl := lv_entry vs (n := maxL) hv
  rw [lg_entry_eq]
  exact body p e s m _ below meth c ⟨B.exec, B.bytes, hml, findClass_of_methodNamed B.named, fun x hx => hts x (List.mem_cons_of_mem _ hx), hK, B.notSynchronized, hb0⟩ B.returns (name_of_methodNamed B.named B.method).1 hAO hNw s.heap [] _ hH va_S.rf ⟨hl, hv1⟩
theorem c_pre (K : kCc w p s m args meth c cc nL own) (hAO : va_AO RX0 s) (hNw : va_Nw yNest s) {H : Heap} {locs : List Loc} (hH : kHc w n σ H) (hS : va_S (kA w) s.heap H locs) (As : List Value) : PreS s H (va_Pc As (kPc w n σ)) As :=
  ⟨kPc_blind w n σ As, fun U hU hW => ⟨rfl, by rw [hU]; exact Nat.le_trans K.b0 hS.1, va_K.moved hW.alike K.kk, by rw [hU]; exact hH, hAO.moved hW.alike, va_Nw.warmM hW hNw⟩⟩
/-- a constructor is called -/
theorem c_callI (K : kCc w p s m args meth c cc nL own) (hAO : va_AO RX0 s) (hNw : va_Nw yNest s) {a : Nat} (d : decode cc pc = .ok (.invokespecial idx, 3)) (h1 : Cond.code y bytes maxL none ∈ TB) (h2 : Cond.initialized y.cls ∈ TB) (h3 : Cond.methodLink own idx y ∈ TB) (h4 : Cond.instanceMethod y ∈ TB) (hy1 : y.name = "<init>") (hd : kNm y 0) (hR : rm.frames + 1 ≤ R.frames ∧ 8 + (maxL + 11) + rm.locals ≤ R.locals) (hr : (rest.map fun v => v.category).sum ≤ 8) (hf : cells + mc ≤ R.cells ∧ slots + ms ≤ R.slots) (hM : Met l y (Cond.code y bytes maxL none :: TB) rm (va_Pc [.ref (kL w a)] (kPc w n σ)) (kQc w n' τ) mc ms (kA w)) (hrm : rm.cells = mc ∧ rm.slots = ms)
    (kk : kGc w p l e R s m args below meth c Q nL n' τ (pc + 3) lv rest (cells + mc) (slots + ms)) : kGc w p l e R s m args below meth c Q nL n σ pc lv (.ref (kL w a) :: rest) cells slots := by
  intro H locs ls hH hS hl
  refine va_callv (va_runI (As := []) (rest := rest) ⟨K.ex, K.by, K.ml, K.ow, K.ts⟩ hM (cwI 0 K.ts (kg_I h1) rfl hrm.1 hrm.2 (K.ts _ h2) (K.ts _ h3) (K.ts _ h4) hy1 hd hR) (c_pre K hAO hNw hH hS _) rfl rfl hl.1.1 rfl (lv_room hr) d hf) hS (fun _ _ h => h) (fun _ h => h) (fun u t H1 locs1 ht _ hp hB _ _ hS1 => ?_)
  obtain rfl := hp
  exact kk H1 locs1 ls (by rw [← ht]; exact hB) hS1 hl
theorem c_callIN (K : kCc w p s m args meth c cc nL RX1) (hAO : va_AO RX0 s) (hNw : va_Nw yNest s) {a : Nat} (d : decode cc pc = .ok (.invokespecial 15, 3)) (h1 : Cond.code yX0_init bytes maxL none ∈ TB) (h2 : Cond.initialized RX0 ∈ TB) (h4 : Cond.instanceMethod yX0_init ∈ TB) (hR : rm.frames + 1 ≤ R.frames ∧ 8 + (maxL + 11) + rm.locals ≤ R.locals) (hr : (rest.map fun v => v.category).sum ≤ 8) (hf : cells + mc ≤ R.cells ∧ slots + ms ≤ R.slots) (hM : Met l yX0_init (Cond.code yX0_init bytes maxL none :: TB) rm (va_Pc [.ref (kL w a)] (kPc w n σ)) (kQc w n' τ) mc ms (kA w)) (hrm : rm.cells = mc ∧ rm.slots = ms)
    (kk : kGc w p l e R s m args below meth c Q nL n' τ (pc + 3) lv rest (cells + mc) (slots + ms)) : kGc w p l e R s m args below meth c Q nL n σ pc lv (.ref (kL w a) :: rest) cells slots := by
  intro H locs ls hH hS hl
  refine va_callv (va_runIN (As := []) (rest := rest) (host := RX1) (n := 0) ⟨K.ex, K.by, K.ml, K.ow, K.ts⟩ hM ⟨va_cnB 0 K.ts (kg_I h1) rfl hrm.1 hrm.2 hNw (K.ts _ h2) (by decide +kernel) hR, rfl, K.ts _ h4⟩ (c_pre K hAO hNw hH hS _) rfl rfl hl.1.1 rfl (lv_room hr) d hf) hS (fun _ _ h => h) (fun _ h => h) (fun u t H1 locs1 ht _ hp hB _ _ hS1 => ?_)
  obtain rfl := hp
  exact kk H1 locs1 ls (by rw [← ht]; exact hB) hS1 hl
end CT
def rmX0_init : Room := { frames := 1, cells := 5, slots := 204, locals := 30 }
theorem mX0_init (l : Launch) (w : kW) (σ : kS) (a : Nat) (hk : kd a = (0, 0, 8)) (hz0 : kZ σ (a + 1)) (hz1 : kZ σ (a + 1 + 1)) (hz2 : kZ σ (a + 1 + 1 + 1)) (hz3 : kZ σ (a + 1 + 1 + 1 + 1)) (hz4 : kZ σ (a + 1 + 1 + 1 + 1 + 1)) : Met l yX0_init (Cond.code yX0_init cX0_init 1 none :: TB) rmX0_init (va_Pc [.ref (kL w a)] (kPc w (a + 1) σ)) (kQc w (a + 1 + 1 + 1 + 1 + 1 + 1) (mI σ a)) 5 204 (kA w) := by
  refine c_met (by decide) [.ref (kL w a)] (Nat.le_of_ble_eq_true rfl) (by simp [lv_args, Value.category]) ?_
  intro p e s m args below meth c K hret hm hAO hNw
  have K : kCc w p s m args meth c cX0_init 1 RX0 := K
  have hm : meth.name = "<init>" := hm
  refine c_aload_n K dX0_init_0 0 rfl ?_
  refine c_obj K dX0_init_1 tw_74 tw_66 tw_67 (by decide) (by decide) ?_
  refine c_aload_n K dX0_init_4 0 rfl ?_
  refine c_iconst (v := 4) K dX0_init_5 (by decide) ?_
  refine c_newI (N := 4) K dX0_init_6 tw_108 (by decide) (by decide) (kd_m0 hk).1 hz0 (by decide) (by decide) ?_
  refine c_putR (k := 0) (ci := 0) (N := 8) (b := a + 1) (C := RX0) (T := TX0) (ty := tyX0) K dX0_init_8 (by omega) hk rfl inX0 tyX0_ok nmX0 (by decide) (by decide) tw_75 rfl hm rfl rfl rfl ?_
  refine c_aload_n K dX0_init_11 0 rfl ?_
  refine c_bipush (v := 8) K dX0_init_12 (by decide) ?_
  refine c_newI (N := 8) K dX0_init_14 tw_108 (by decide) (by decide) (kd_m0 hk).2.1 (kZ_sR hz1 (by omega)) (by decide) (by decide) ?_
  refine c_putR (k := 1) (ci := 0) (N := 8) (b := a + 1 + 1) (C := RX0) (T := TX0) (ty := tyX0) K dX0_init_16 (by omega) hk rfl inX0 tyX0_ok nmX0 (by decide) (by decide) tw_77 rfl hm rfl rfl rfl ?_
  refine c_aload_n K dX0_init_19 0 rfl ?_
  refine c_bipush (v := 64) K dX0_init_20 (by decide) ?_
  refine c_newI (N := 64) K dX0_init_22 tw_108 (by decide) (by decide) (kd_m0 hk).2.2.1 (kZ_sR (kZ_sR hz2 (by omega)) (by omega)) (by decide) (by decide) ?_
  refine c_putR (k := 2) (ci := 0) (N := 8) (b := a + 1 + 1 + 1) (C := RX0) (T := TX0) (ty := tyX0) K dX0_init_24 (by omega) hk rfl inX0 tyX0_ok nmX0 (by decide) (by decide) tw_79 rfl hm rfl rfl rfl ?_
  refine c_aload_n K dX0_init_27 0 rfl ?_
  refine c_bipush (v := 64) K dX0_init_28 (by decide) ?_
  refine c_newI (N := 64) K dX0_init_30 tw_108 (by decide) (by decide) (kd_m0 hk).2.2.2.1 (kZ_sR (kZ_sR (kZ_sR hz3 (by omega)) (by omega)) (by omega)) (by decide) (by decide) ?_
  refine c_putR (k := 3) (ci := 0) (N := 8) (b := a + 1 + 1 + 1 + 1) (C := RX0) (T := TX0) (ty := tyX0) K dX0_init_32 (by omega) hk rfl inX0 tyX0_ok nmX0 (by decide) (by decide) tw_81 rfl hm rfl rfl rfl ?_
  refine c_aload_n K dX0_init_35 0 rfl ?_
  refine c_bipush (v := 64) K dX0_init_36 (by decide) ?_
  refine c_newI (N := 64) K dX0_init_38 tw_108 (by decide) (by decide) (kd_m0 hk).2.2.2.2 (kZ_sR (kZ_sR (kZ_sR (kZ_sR hz4 (by omega)) (by omega)) (by omega)) (by omega)) (by decide) (by decide) ?_
  refine c_putR (k := 4) (ci := 0) (N := 8) (b := a + 1 + 1 + 1 + 1 + 1) (C := RX0) (T := TX0) (ty := tyX0) K dX0_init_40 (by omega) hk rfl inX0 tyX0_ok nmX0 (by decide) (by decide) tw_83 rfl hm rfl rfl rfl ?_
  refine c_aload_n K dX0_init_43 0 rfl ?_
  refine c_iconst (v := -1) K dX0_init_44 (by decide) ?_
  refine c_putI (k := 5) (ci := 0) (N := 8) (C := RX0) (T := TX0) (ty := tyX0) K dX0_init_45 (by omega) hk rfl inX0 tyX0_ok nmX0 (by decide) (by decide) tw_85 rfl rfl rfl ?_
  refine c_aload_n K dX0_init_48 0 rfl ?_
  refine c_iconst (v := -1) K dX0_init_49 (by decide) ?_
  refine c_putI (k := 6) (ci := 0) (N := 8) (C := RX0) (T := TX0) (ty := tyX0) K dX0_init_50 (by omega) hk rfl inX0 tyX0_ok nmX0 (by decide) (by decide) tw_87 rfl rfl rfl ?_
  exact c_vret K hret dX0_init_53 (by decide) (by decide)
/-- the rows up to i -/
def rI : Nat → kS
  | 0 => sR k0 0 0 (some 1)
  | i + 1 => sR (mI (rI i) (2 + 6 * i)) 1 i (some (2 + 6 * i))
theorem kZ_rI : ∀ (i b : Nat), 2 + 6 * i ≤ b → kZ (rI i) b := by
  intro i
  induction i with
  | zero => intro b h; exact kZ_sR (kZ_k0 b) (by omega)
  | succ i ih => intro b h; exact kZ_sR (kZ_mI (ih b (by omega)) (by omega)) (by omega)
theorem rI_0 : ∀ i, (rI i).2.1 0 0 = some 1 := by
  intro i
  induction i with
  | zero => rfl
  | succ i ih =>
    have e : (rI (i + 1)).2.1 0 0 = (rI i).2.1 0 0 := by
      show (if (0 : Nat) = 1 ∧ (0 : Nat) = i then some (2 + 6 * i) else (mI (rI i) (2 + 6 * i)).2.1 0 0) = _
      rw [if_neg (by omega)]
      have h0 : ¬ (0 : Nat) = 2 + 6 * i := by omega
      simp [mI, sI, sR, h0]
    rw [e, ih]
theorem kd_row {i : Nat} (h : i < 20) : kd (2 + 6 * i) = (0, 0, 8) := by
  have key : ∀ i : Fin 20, kd (2 + 6 * i.val) = (0, 0, 8) := by decide +kernel
  exact key ⟨i, h⟩
def cI : kS := sI (sR (sR (sR (sR (rI 20) 0 1 (some 122)) 0 2 (some 123)) 0 3 (some 124)) 0 5 (some 125)) 0 7 2
def rmX1_init : Room := { frames := 2, cells := 125, slots := 4812, locals := 60 }
set_option maxRecDepth 20000 in
theorem lX1_init {w : kW} {p : Program} {l : Launch} {e : Env} {s : State} {m : MethodId} {args : Array Value} {below : List Frame} {meth : Method} {c : Code} (K : kCc w p s m args meth c cX1_init 2 RX1) (hret : meth.sig.returnType = none) (hm : meth.name = "<init>") (hAO : va_AO RX0 s) (hNw : va_Nw yNest s) : ∀ (k i : Nat), i + k = 20 → kGc w p l e rmX1_init s m args below meth c (MQ below (kQc w 126 cI) args s 125 4812 (kA w)) 2 (2 + 6 * i) (rI i) 15 [(1, .int (nI i)), (0, .ref (kL w 0))] [] (1 + 6 * i) (20 + 212 * i) := by
  intro k
  induction k with
  | zero =>
    intro i hi
    have hi : i = 20 := by omega
    subst hi
    refine c_iload_n K dX1_init_15 0 rfl ?_
    refine c_bipush (v := 20) K dX1_init_16 (by decide) ?_
    refine c_icmp_ge K 40 dX1_init_18 (by decide) (fun _ => ?_) (fun q => absurd (by decide) q)
    refine c_aload_n K dX1_init_40 1 rfl ?_
    refine c_sipush (v := 256) K dX1_init_41 (by decide) ?_
    refine c_newR (n := 122) (N := 256) K dX1_init_44 tw_68 hAO (by decide) (by decide) kd_122 (kZ_rI 20 122 (by decide)) (by decide) (by decide) ?_
    refine c_putR (k := 1) (ci := 1) (N := 12) (b := 122) (C := RX1) (T := TX1) (ty := tyX1) K dX1_init_47 (by decide) kd_0 rfl inX1 tyX1_ok nmX1 (by decide) (by decide) tw_110 rfl hm rfl rfl rfl ?_
    refine c_aload_n K dX1_init_50 1 rfl ?_
    refine c_sipush (v := 256) K dX1_init_51 (by decide) ?_
    refine c_newZ (n := 123) (N := 256) K dX1_init_54 tw_146 (by decide) (by decide) kd_123 (kZ_sR (kZ_rI 20 123 (by decide)) (by decide)) (by decide) (by decide) ?_
    refine c_putR (k := 2) (ci := 1) (N := 12) (b := 123) (C := RX1) (T := TX1) (ty := tyX1) K dX1_init_56 (by decide) kd_0 rfl inX1 tyX1_ok nmX1 (by decide) (by decide) tw_111 rfl hm rfl rfl rfl ?_
    refine c_aload_n K dX1_init_59 1 rfl ?_
    refine c_bipush (v := 20) K dX1_init_60 (by decide) ?_
    refine c_newI (n := 124) (N := 20) K dX1_init_62 tw_108 (by decide) (by decide) kd_124 (kZ_sR (kZ_sR (kZ_rI 20 124 (by decide)) (by decide)) (by decide)) (by decide) (by decide) ?_
    refine c_putR (k := 3) (ci := 1) (N := 12) (b := 124) (C := RX1) (T := TX1) (ty := tyX1) K dX1_init_64 (by decide) kd_0 rfl inX1 tyX1_ok nmX1 (by decide) (by decide) tw_112 rfl hm rfl rfl rfl ?_
    refine c_aload_n K dX1_init_67 1 rfl ?_
    refine c_bipush (v := 20) K dX1_init_68 (by decide) ?_
    refine c_newI (n := 125) (N := 20) K dX1_init_70 tw_108 (by decide) (by decide) kd_125 (kZ_sR (kZ_sR (kZ_sR (kZ_rI 20 125 (by decide)) (by decide)) (by decide)) (by decide)) (by decide) (by decide) ?_
    refine c_putR (k := 5) (ci := 1) (N := 12) (b := 125) (C := RX1) (T := TX1) (ty := tyX1) K dX1_init_72 (by decide) kd_0 rfl inX1 tyX1_ok nmX1 (by decide) (by decide) tw_114 rfl hm rfl rfl rfl ?_
    refine c_aload_n K dX1_init_75 1 rfl ?_
    refine c_iconst (v := 2) K dX1_init_76 (by decide) ?_
    refine c_putI (k := 7) (ci := 1) (N := 12) (C := RX1) (T := TX1) (ty := tyX1) K dX1_init_77 (by decide) kd_0 rfl inX1 tyX1_ok nmX1 (by decide) (by decide) tw_116 rfl rfl rfl ?_
    exact c_vret K hret dX1_init_80 (by decide) (by decide)
  | succ k ih =>
    intro i hi
    have h20 : i < 20 := by omega
    have hkr := kd_row h20
    refine c_iload_n K dX1_init_15 0 rfl ?_
    refine c_bipush (v := 20) K dX1_init_16 (by decide) ?_
    refine c_icmp_ge K 40 dX1_init_18 (by decide) (fun q => absurd q (nI_ge (a := i) (b := 20) h20 (by decide))) (fun _ => ?_)
    refine c_aload_n K dX1_init_21 1 rfl ?_
    refine c_getR (k := 0) (ci := 1) (N := 12) (b := 1) (C := RX1) (T := TX1) K dX1_init_22 (by omega) kd_0 rfl inX1 (by decide) (by decide) (rI_0 i) tw_109 ?_
    refine c_iload_n K dX1_init_25 0 rfl ?_
    refine c_newO (ci := 0) (N := 8) (C := RX0) (T := TX0) (ty := tyX0) K dX1_init_26 tw_68 tw_70 tw_49 rfl inX0 tyX0_ok (by decide) hkr (kZ_rI i _ (by omega)) (by show _ ≤ 125; omega) (by show _ ≤ 4812; omega) ?_
    refine c_dup K dX1_init_29 rfl ?_
    refine c_callIN (rest := [.ref (kL w (2 + 6 * i)), .int (nI i), .ref (kL w 1)]) K hAO hNw dX1_init_30 tw_73 tw_49 tw_72 (by decide) (Nat.le_of_ble_eq_true rfl) ⟨by show _ ≤ 125; omega, by show _ ≤ 4812; omega⟩ (mX0_init l w (rI i) (2 + 6 * i) hkr (kZ_rI i _ (by omega)) (kZ_rI i _ (by omega)) (kZ_rI i _ (by omega)) (kZ_rI i _ (by omega)) (kZ_rI i _ (by omega))) ⟨rfl, rfl⟩ ?_
    refine c_aast (j := i) K dX1_init_33 (by omega) (by omega) kd_1 hkr rfl h20 (by decide) ?_
    refine c_iinc (v := 1) (lv' := [(1, .int (nI i + 1)), (0, .ref (kL w 0))]) K dX1_init_34 0 rfl (by decide) (by decide) rfl ?_
    refine c_goto K 15 dX1_init_37 (by decide) ?_
    rw [nI_1]
    exact ih (i + 1) (by omega)
theorem mX1_init (l : Launch) (w : kW) : Met l yX1_init (Cond.code yX1_init cX1_init 2 none :: TB) rmX1_init (va_Pc [.ref (kL w 0)] (kPc w 1 k0)) (kQc w 126 cI) 125 4812 (kA w) := by
  refine c_met (by decide) [.ref (kL w 0)] (Nat.le_of_ble_eq_true rfl) (by simp [lv_args, Value.category]) ?_
  intro p e s m args below meth c K hret hm hAO hNw
  have K : kCc w p s m args meth c cX1_init 2 RX1 := K
  have hm : meth.name = "<init>" := hm
  refine c_aload_n K dX1_init_0 0 rfl ?_
  refine c_obj K dX1_init_1 tw_65 tw_66 tw_67 (by decide) (by decide) ?_
  refine c_aload_n K dX1_init_4 0 rfl ?_
  refine c_bipush (v := 20) K dX1_init_5 (by decide) ?_
  refine c_newR (n := 1) (N := 20) K dX1_init_7 tw_68 hAO (by decide) (by decide) kd_1 (kZ_k0 1) (by decide) (by decide) ?_
  refine c_putR (k := 0) (ci := 1) (N := 12) (b := 1) (C := RX1) (T := TX1) (ty := tyX1) K dX1_init_10 (by decide) kd_0 rfl inX1 tyX1_ok nmX1 (by decide) (by decide) tw_109 rfl hm rfl rfl rfl ?_
  refine c_iconst (v := 0) K dX1_init_13 (by decide) ?_
  refine c_istore_n (lv' := [(1, .int 0), (0, .ref (kL w 0))]) K dX1_init_14 (by decide) rfl ?_
  exact lX1_init (l := l) (e := e) K hret hm hAO hNw 20 0 rfl
def rmX2_init : Room := { frames := 1, cells := 11, slots := 53124, locals := 30 }
def dI (σ : kS) : kS := sR (sR (sR (sR (sR (sR (sR (sR (sR (sR (sR (sI σ 126 1 2) 126 3 (some 127)) 126 4 (some 128)) 126 5 (some 129)) 126 6 (some 130)) 126 7 (some 131)) 126 8 (some 132)) 126 9 (some 133)) 126 10 (some 134)) 126 11 (some 135)) 126 15 (some 136)) 126 16 (some 137)
set_option maxRecDepth 20000 in
theorem mX2_init (l : Launch) (w : kW) (σ : kS) (hz : ∀ b, 127 ≤ b → kZ σ b) : Met l yX2_init (Cond.code yX2_init cX2_init 1 none :: TB) rmX2_init (va_Pc [.ref (kL w 126)] (kPc w 127 σ)) (kQc w 138 (dI σ)) 11 53124 (kA w) := by
  refine c_met (by decide) [.ref (kL w 126)] (Nat.le_of_ble_eq_true rfl) (by simp [lv_args, Value.category]) ?_
  intro p e s m args below meth c K hret hm hAO hNw
  have K : kCc w p s m args meth c cX2_init 1 RX2 := K
  have hm : meth.name = "<init>" := hm
  refine c_aload_n K dX2_init_0 0 rfl ?_
  refine c_obj K dX2_init_1 tw_544 tw_66 tw_67 (by decide) (by decide) ?_
  refine c_aload_n K dX2_init_4 0 rfl ?_
  refine c_iconst (v := 2) K dX2_init_5 (by decide) ?_
  refine c_putI (k := 1) (ci := 2) (N := 17) (C := RX2) (T := TX2) (ty := tyX2) K dX2_init_6 (by decide) kd_126 rfl inX2 tyX2_ok nmX2 (by decide) (by decide) tw_546 rfl rfl rfl ?_
  refine c_aload_n K dX2_init_9 0 rfl ?_
  refine c_sipush (v := 256) K dX2_init_10 (by decide) ?_
  refine c_newI (n := 127) (N := 256) K dX2_init_13 tw_108 (by decide) (by decide) kd_127 (kZ_sI (hz 127 (by decide)) (by decide)) (by decide) (by decide) ?_
  refine c_putR (k := 3) (ci := 2) (N := 17) (b := 127) (C := RX2) (T := TX2) (ty := tyX2) K dX2_init_15 (by decide) kd_126 rfl inX2 tyX2_ok nmX2 (by decide) (by decide) tw_548 rfl hm rfl rfl rfl ?_
  refine c_aload_n K dX2_init_18 0 rfl ?_
  refine c_sipush (v := 1024) K dX2_init_19 (by decide) ?_
  refine c_newI (n := 128) (N := 1024) K dX2_init_22 tw_108 (by decide) (by decide) kd_128 (kZ_sR (kZ_sI (hz 128 (by decide)) (by decide)) (by decide)) (by decide) (by decide) ?_
  refine c_putR (k := 4) (ci := 2) (N := 17) (b := 128) (C := RX2) (T := TX2) (ty := tyX2) K dX2_init_24 (by decide) kd_126 rfl inX2 tyX2_ok nmX2 (by decide) (by decide) tw_549 rfl hm rfl rfl rfl ?_
  refine c_aload_n K dX2_init_27 0 rfl ?_
  refine c_sipush (v := 256) K dX2_init_28 (by decide) ?_
  refine c_newI (n := 129) (N := 256) K dX2_init_31 tw_108 (by decide) (by decide) kd_129 (kZ_sR (kZ_sR (kZ_sI (hz 129 (by decide)) (by decide)) (by decide)) (by decide)) (by decide) (by decide) ?_
  refine c_putR (k := 5) (ci := 2) (N := 17) (b := 129) (C := RX2) (T := TX2) (ty := tyX2) K dX2_init_33 (by decide) kd_126 rfl inX2 tyX2_ok nmX2 (by decide) (by decide) tw_550 rfl hm rfl rfl rfl ?_
  refine c_aload_n K dX2_init_36 0 rfl ?_
  refine c_sipush (v := 2048) K dX2_init_37 (by decide) ?_
  refine c_newI (n := 130) (N := 2048) K dX2_init_40 tw_108 (by decide) (by decide) kd_130 (kZ_sR (kZ_sR (kZ_sR (kZ_sI (hz 130 (by decide)) (by decide)) (by decide)) (by decide)) (by decide)) (by decide) (by decide) ?_
  refine c_putR (k := 6) (ci := 2) (N := 17) (b := 130) (C := RX2) (T := TX2) (ty := tyX2) K dX2_init_42 (by decide) kd_126 rfl inX2 tyX2_ok nmX2 (by decide) (by decide) tw_551 rfl hm rfl rfl rfl ?_
  refine c_aload_n K dX2_init_45 0 rfl ?_
  refine c_sipush (v := 256) K dX2_init_46 (by decide) ?_
  refine c_newI (n := 131) (N := 256) K dX2_init_49 tw_108 (by decide) (by decide) kd_131 (kZ_sR (kZ_sR (kZ_sR (kZ_sR (kZ_sI (hz 131 (by decide)) (by decide)) (by decide)) (by decide)) (by decide)) (by decide)) (by decide) (by decide) ?_
  refine c_putR (k := 7) (ci := 2) (N := 17) (b := 131) (C := RX2) (T := TX2) (ty := tyX2) K dX2_init_51 (by decide) kd_126 rfl inX2 tyX2_ok nmX2 (by decide) (by decide) tw_552 rfl hm rfl rfl rfl ?_
  refine c_aload_n K dX2_init_54 0 rfl ?_
  refine c_sipush (v := 16384) K dX2_init_55 (by decide) ?_
  refine c_newI (n := 132) (N := 16384) K dX2_init_58 tw_108 (by decide) (by decide) kd_132 (kZ_sR (kZ_sR (kZ_sR (kZ_sR (kZ_sR (kZ_sI (hz 132 (by decide)) (by decide)) (by decide)) (by decide)) (by decide)) (by decide)) (by decide)) (by decide) (by decide) ?_
  refine c_putR (k := 8) (ci := 2) (N := 17) (b := 132) (C := RX2) (T := TX2) (ty := tyX2) K dX2_init_60 (by decide) kd_126 rfl inX2 tyX2_ok nmX2 (by decide) (by decide) tw_553 rfl hm rfl rfl rfl ?_
  refine c_aload_n K dX2_init_63 0 rfl ?_
  refine c_sipush (v := 16384) K dX2_init_64 (by decide) ?_
  refine c_newI (n := 133) (N := 16384) K dX2_init_67 tw_108 (by decide) (by decide) kd_133 (kZ_sR (kZ_sR (kZ_sR (kZ_sR (kZ_sR (kZ_sR (kZ_sI (hz 133 (by decide)) (by decide)) (by decide)) (by decide)) (by decide)) (by decide)) (by decide)) (by decide)) (by decide) (by decide) ?_
  refine c_putR (k := 9) (ci := 2) (N := 17) (b := 133) (C := RX2) (T := TX2) (ty := tyX2) K dX2_init_69 (by decide) kd_126 rfl inX2 tyX2_ok nmX2 (by decide) (by decide) tw_554 rfl hm rfl rfl rfl ?_
  refine c_aload_n K dX2_init_72 0 rfl ?_
  refine c_sipush (v := 16384) K dX2_init_73 (by decide) ?_
  refine c_newI (n := 134) (N := 16384) K dX2_init_76 tw_108 (by decide) (by decide) kd_134 (kZ_sR (kZ_sR (kZ_sR (kZ_sR (kZ_sR (kZ_sR (kZ_sR (kZ_sI (hz 134 (by decide)) (by decide)) (by decide)) (by decide)) (by decide)) (by decide)) (by decide)) (by decide)) (by decide)) (by decide) (by decide) ?_
  refine c_putR (k := 10) (ci := 2) (N := 17) (b := 134) (C := RX2) (T := TX2) (ty := tyX2) K dX2_init_78 (by decide) kd_126 rfl inX2 tyX2_ok nmX2 (by decide) (by decide) tw_555 rfl hm rfl rfl rfl ?_
  refine c_aload_n K dX2_init_81 0 rfl ?_
  refine c_iconst (v := 4) K dX2_init_82 (by decide) ?_
  refine c_newI (n := 135) (N := 4) K dX2_init_83 tw_108 (by decide) (by decide) kd_135 (kZ_sR (kZ_sR (kZ_sR (kZ_sR (kZ_sR (kZ_sR (kZ_sR (kZ_sR (kZ_sI (hz 135 (by decide)) (by decide)) (by decide)) (by decide)) (by decide)) (by decide)) (by decide)) (by decide)) (by decide)) (by decide)) (by decide) (by decide) ?_
  refine c_putR (k := 11) (ci := 2) (N := 17) (b := 135) (C := RX2) (T := TX2) (ty := tyX2) K dX2_init_85 (by decide) kd_126 rfl inX2 tyX2_ok nmX2 (by decide) (by decide) tw_556 rfl hm rfl rfl rfl ?_
  refine c_aload_n K dX2_init_88 0 rfl ?_
  refine c_bipush (v := 64) K dX2_init_89 (by decide) ?_
  refine c_newI (n := 136) (N := 64) K dX2_init_91 tw_108 (by decide) (by decide) kd_136 (kZ_sR (kZ_sR (kZ_sR (kZ_sR (kZ_sR (kZ_sR (kZ_sR (kZ_sR (kZ_sR (kZ_sI (hz 136 (by decide)) (by decide)) (by decide)) (by decide)) (by decide)) (by decide)) (by decide)) (by decide)) (by decide)) (by decide)) (by decide)) (by decide) (by decide) ?_
  refine c_putR (k := 15) (ci := 2) (N := 17) (b := 136) (C := RX2) (T := TX2) (ty := tyX2) K dX2_init_93 (by decide) kd_126 rfl inX2 tyX2_ok nmX2 (by decide) (by decide) tw_560 rfl hm rfl rfl rfl ?_
  refine c_aload_n K dX2_init_96 0 rfl ?_
  refine c_bipush (v := 64) K dX2_init_97 (by decide) ?_
  refine c_newI (n := 137) (N := 64) K dX2_init_99 tw_108 (by decide) (by decide) kd_137 (kZ_sR (kZ_sR (kZ_sR (kZ_sR (kZ_sR (kZ_sR (kZ_sR (kZ_sR (kZ_sR (kZ_sR (kZ_sI (hz 137 (by decide)) (by decide)) (by decide)) (by decide)) (by decide)) (by decide)) (by decide)) (by decide)) (by decide)) (by decide)) (by decide)) (by decide)) (by decide) (by decide) ?_
  refine c_putR (k := 16) (ci := 2) (N := 17) (b := 137) (C := RX2) (T := TX2) (ty := tyX2) K dX2_init_101 (by decide) kd_126 rfl inX2 tyX2_ok nmX2 (by decide) (by decide) tw_561 rfl hm rfl rfl rfl ?_
  exact c_vret K hret dX2_init_104 (by decide) (by decide)
