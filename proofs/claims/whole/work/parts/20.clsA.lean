section F_X1_isPoint
variable {w : kW} {p : Program} {l : Launch} {e : Env} {s : State} {m : MethodId} {args : Array Value} {below : List Frame} {meth : Method} {c : Code}
def fX1_isPoint (x0 : Int32) : Option Int32 :=
  if x0 < 0 then
    some (0)
  else
    if 256 ≤ x0 then
      some (0)
    else
      some (1)
def rmX1_isPoint : Room := { frames := 0, cells := 0, slots := 0, locals := 0 }
set_option maxRecDepth 20000 in
theorem mX1_isPoint (l : Launch) (w : kW) (σ0 : kS) (x0 : Int32) {o : Int32} (h : fX1_isPoint x0 = some o) : Met l yX1_isPoint (Cond.code yX1_isPoint cX1_isPoint 1 (some .boolean) :: TB) rmX1_isPoint (va_Pc [.int x0] (kP w σ0)) (kQi w o σ0) 0 0 (kA w) := by
  refine k_met (by decide +kernel) [.int x0] (Nat.le_of_ble_eq_true rfl) (by simp [lv_args, Value.category]) ?_
  intro p e s m args below meth c K hret
  have K : kC w p s m args meth c cX1_isPoint 1 RX1 := K
  obtain ⟨r, hro⟩ : ∃ r, r = o := ⟨o, rfl⟩
  rw [← hro] at h
  have hO : ∀ z, r = z → z = o := fun z e => by rw [← e]; exact hro
  unfold fX1_isPoint at h
  refine k_iload_n K dX1_isPoint_0 0 rfl ?_
  replace h := k_br h
  rcases h with ⟨b1, h⟩ | ⟨b1, h⟩
  · refine k_if_lt K 15 dX1_isPoint_1 (by decide) (fun _ => ?_) (fun q => absurd b1 q)
    refine k_iconst (v := 0) K dX1_isPoint_15 (by decide) ?_
    cases h
    obtain rfl := hO _ rfl
    exact k_zret (v := 0) K hret (by decide) dX1_isPoint_16 (by decide) (by decide)
  · refine k_if_lt K 15 dX1_isPoint_1 (by decide) (fun q => absurd q b1) (fun _ => ?_)
    refine k_iload_n K dX1_isPoint_4 0 rfl ?_
    refine k_sipush (v := 256) K dX1_isPoint_5 (by decide) ?_
    replace h := k_br h
    rcases h with ⟨b2, h⟩ | ⟨b2, h⟩
    · refine k_icmp_ge K 15 dX1_isPoint_8 (by decide) (fun _ => ?_) (fun q => absurd b2 q)
      refine k_iconst (v := 0) K dX1_isPoint_15 (by decide) ?_
      cases h
      obtain rfl := hO _ rfl
      exact k_zret (v := 0) K hret (by decide) dX1_isPoint_16 (by decide) (by decide)
    · refine k_icmp_ge K 15 dX1_isPoint_8 (by decide) (fun q => absurd q b2) (fun _ => ?_)
      refine k_iconst (v := 1) K dX1_isPoint_11 (by decide) ?_
      refine k_goto K 16 dX1_isPoint_12 (by decide) ?_
      cases h
      obtain rfl := hO _ rfl
      exact k_zret (v := 1) K hret (by decide) dX1_isPoint_16 (by decide) (by decide)
end F_X1_isPoint
section C_X1_isPoint
variable {w : kW} {p : Program} {l : Launch} {e : Env} {R : Room} {s : State} {m : MethodId} {args : Array Value} {below : List Frame} {meth : Method} {c : Code} {Q : State → Prop} {cc : ByteArray} {nL : Nat} {σ : kS} {pc : Nat} {lv : List (Nat × Value)} {st rest : List Value} {cells slots : Nat}
theorem cl_X1_211 (K : kC w p s m args meth c cc nL RX1) {a1 : Int32} {r : Int32} (d : decode cc pc = .ok (.invokestatic 211, 3)) (h : fX1_isPoint a1 = some r) (hR : rmX1_isPoint.frames + 1 ≤ R.frames ∧ 8 + (1 + 11) + rmX1_isPoint.locals ≤ R.locals) (hr : (rest.map fun v => v.category).sum ≤ 8) (hf : cells + 0 ≤ R.cells ∧ slots + 0 ≤ R.slots) (kk : kG w p l e R s m args below meth c Q nL σ (pc + 3) lv (.int r :: rest) (cells + 0) (slots + 0)) : kG w p l e R s m args below meth c Q nL σ pc lv (.int a1 :: rest) cells slots :=
  k_callSi (As := [.int a1]) (rest := rest) (n := 1) K d (kg_S tw_265 tw_266 tw_48 tw_267) (by decide +kernel) rfl hR hr rfl hf (mX1_isPoint l w σ a1 h) ⟨rfl, rfl⟩ kk
end C_X1_isPoint
section F_X1_liveAt
variable {w : kW} {p : Program} {l : Launch} {e : Env} {s : State} {m : MethodId} {args : Array Value} {below : List Frame} {meth : Method} {c : Code}
def fX1_liveAt (σ : kS) (x1 : Int32) : Option (Option Nat) :=
  (fX1_isPoint x1).bind fun r1 =>
  if r1 = 0 then
    some (none)
  else
    if vpi x1 256 then
      some (σ.2.1 122 x1.toNatClampNeg)
    else none
def rmX1_liveAt : Room := { frames := 1, cells := 0, slots := 0, locals := 20 }
set_option maxRecDepth 20000 in
theorem mX1_liveAt (l : Launch) (w : kW) (σ : kS) (x1 : Int32) {o : (Option Nat)} (h : fX1_liveAt σ x1 = some o) : Met l yX1_liveAt (Cond.code yX1_liveAt cX1_liveAt 2 (some (.object "KeyRing$Member")) :: TB) rmX1_liveAt (va_Pc [.ref (kL w 0), .int x1] (kP w σ)) (kQq w o σ) 0 0 (kA w) := by
  refine k_met (by decide +kernel) [.ref (kL w 0), .int x1] (Nat.le_of_ble_eq_true rfl) (by simp [lv_args, Value.category]) ?_
  intro p e s m args below meth c K hret
  have K : kC w p s m args meth c cX1_liveAt 2 RX1 := K
  obtain ⟨r, hro⟩ : ∃ r, r = o := ⟨o, rfl⟩
  rw [← hro] at h
  have hO : ∀ z, r = z → z = o := fun z e => by rw [← e]; exact hro
  unfold fX1_liveAt at h
  refine k_iload_n K dX1_liveAt_0 1 rfl ?_
  replace h := k_bd h
  obtain ⟨r1, hr1, h⟩ := h
  refine cl_X1_211 K dX1_liveAt_1 hr1 (by decide) (Nat.le_of_ble_eq_true rfl) (by decide) ?_
  replace h := k_br h
  rcases h with ⟨b2, h⟩ | ⟨b2, h⟩
  · refine k_if_eq K 16 dX1_liveAt_4 (by decide) (fun _ => ?_) (fun q => absurd b2 q)
    refine k_null K dX1_liveAt_16 ?_
    cases h
    obtain rfl := hO _ rfl
    exact k_aret (v := none) K hret dX1_liveAt_17 (by decide) (by decide)
  · refine k_if_eq K 16 dX1_liveAt_4 (by decide) (fun q => absurd q b2) (fun _ => ?_)
    refine k_aload_n K dX1_liveAt_7 0 rfl ?_
    refine fg_X1_16 K dX1_liveAt_8 ?_
    refine k_iload_n K dX1_liveAt_11 1 rfl ?_
    replace h := k_gd h
    obtain ⟨g3, h⟩ := h
    refine k_aald K dX1_liveAt_12 kd_122 g3 ?_
    refine k_goto K 17 dX1_liveAt_13 (by decide) ?_
    cases h
    obtain rfl := hO _ rfl
    exact k_aret (v := σ.2.1 122 x1.toNatClampNeg) K hret dX1_liveAt_17 (by decide) (by decide)
end F_X1_liveAt
section C_X1_liveAt
variable {w : kW} {p : Program} {l : Launch} {e : Env} {R : Room} {s : State} {m : MethodId} {args : Array Value} {below : List Frame} {meth : Method} {c : Code} {Q : State → Prop} {cc : ByteArray} {nL : Nat} {σ : kS} {pc : Nat} {lv : List (Nat × Value)} {st rest : List Value} {cells slots : Nat}
theorem cl_X1_204 (K : kC w p s m args meth c cc nL RX1) {a1 : Int32} {r : (Option Nat)} (d : decode cc pc = .ok (.invokevirtual 204, 3)) (h : fX1_liveAt σ a1 = some r) (hR : rmX1_liveAt.frames + 1 ≤ R.frames ∧ 8 + (2 + 11) + rmX1_liveAt.locals ≤ R.locals) (hr : (rest.map fun v => v.category).sum ≤ 8) (hf : cells + 0 ≤ R.cells ∧ slots + 0 ≤ R.slots) (kk : kG w p l e R s m args below meth c Q nL σ (pc + 3) lv (va_rf (r.map (kL w)) :: rest) (cells + 0) (slots + 0)) : kG w p l e R s m args below meth c Q nL σ pc lv (.int a1 :: .ref (kL w 0) :: rest) cells slots :=
  k_callVq (As := [.int a1]) (rest := rest) (n := 1) (C := RX1) (T := TX1) K d kd_0 rfl (kg_V tw_307 tw_309 tw_6 tw_48 tw_310) rfl (by decide +kernel) rfl hR hr rfl hf (mX1_liveAt l w σ a1 h) ⟨rfl, rfl⟩ kk
end C_X1_liveAt
section F_X1_successor
variable {w : kW} {p : Program} {l : Launch} {e : Env} {s : State} {m : MethodId} {args : Array Value} {below : List Frame} {meth : Method} {c : Code}
def gX1_successor_2 (c1 : Nat) (σ : kS) (x2 : Int32) : Option ((Int32) ⊕ (Option Nat)) :=
  if (σ.1 0 7) ≤ x2 then
    some (.inr (none))
  else
    if kd c1 = (0, 0, 8) then
      if vpi x2 4 then
        (fX1_liveAt σ (σ.1 (c1 + 1 + 0) x2.toNatClampNeg)).bind fun r4 =>
        kmn (r4) (
          some (.inl (x2 + 1))
        ) fun q5 =>
          some (.inr (some q5))
      else none
    else none
def fX1_successor_2 (c1 : Nat) (σ : kS) (a : Int32) : Option ((Int32) ⊕ (Option Nat)) := gX1_successor_2 c1 σ a
def fX1_successor (σ : kS) (c1 : Nat) : Option (Option Nat) :=
  kit (fX1_successor_2 c1 σ) 300 (0)
def rmX1_successor : Room := { frames := 2, cells := 0, slots := 0, locals := 41 }
set_option maxRecDepth 20000 in
theorem pX1_successor_2 (K : kC w p s m args meth c cX1_successor 4 RX1) (hret : meth.sig.returnType = (some (.object "KeyRing$Member"))) {c1 : Nat} {σ : kS} {x2 : Int32} {r : ((Int32) ⊕ (Option Nat))} {o : (Option Nat)} (h : gX1_successor_2 c1 σ x2 = some r) (hL2 : ∀ z, r = .inl z → kG w p l e rmX1_successor s m args below meth c (MQ below (kQq w o σ) args s 0 0 (kA w)) 4 σ 2 [(0, .ref (kL w 0)), (1, .ref (kL w c1)), (2, .int z)] [] 0 0) (hO : ∀ z, r = .inr z → z = o) : kG w p l e rmX1_successor s m args below meth c (MQ below (kQq w o σ) args s 0 0 (kA w)) 4 σ 2 [(0, .ref (kL w 0)), (1, .ref (kL w c1)), (2, .int x2)] [] 0 0 := by
  unfold gX1_successor_2 at h
  refine k_iload_n K dX1_successor_2 2 rfl ?_
  refine k_aload_n K dX1_successor_3 0 rfl ?_
  refine fg_X1_30 K dX1_successor_4 ?_
  replace h := k_br h
  rcases h with ⟨b1, h⟩ | ⟨b1, h⟩
  · refine k_icmp_ge K 33 dX1_successor_7 (by decide) (fun _ => ?_) (fun q => absurd b1 q)
    refine k_null K dX1_successor_33 ?_
    cases h
    obtain rfl := hO _ rfl
    exact k_aret (v := none) K hret dX1_successor_34 (by decide) (by decide)
  · refine k_icmp_ge K 33 dX1_successor_7 (by decide) (fun q => absurd q b1) (fun _ => ?_)
    refine k_aload_n K dX1_successor_10 0 rfl ?_
    refine k_aload_n K dX1_successor_11 1 rfl ?_
    replace h := k_gd h
    obtain ⟨g2, h⟩ := h
    refine fg_X1_68 K dX1_successor_12 g2 ?_
    refine k_iload_n K dX1_successor_15 2 rfl ?_
    replace h := k_gd h
    obtain ⟨g3, h⟩ := h
    refine k_iald K dX1_successor_16 (kd_m0 g2).1 g3 ?_
    replace h := k_bd h
    obtain ⟨r4, hr4, h⟩ := h
    refine cl_X1_204 K dX1_successor_17 hr4 (by decide) (Nat.le_of_ble_eq_true rfl) (by decide) ?_
    refine k_astore_nQ (lv' := [(3, va_rf ((r4).map (kL w))), (0, .ref (kL w 0)), (1, .ref (kL w c1)), (2, .int x2)]) K dX1_successor_20 (by decide) rfl ?_
    refine k_aload_nQ K dX1_successor_21 0 rfl ?_
    replace h := k_mn h
    rcases h with ⟨hq5, h⟩ | ⟨q5, hq5, h⟩
    · subst hq5
      refine k_ifnullN K 27 dX1_successor_22 (by decide) ?_
      refine k_iinc (v := 1) (lv' := [(2, .int (x2 + 1)), (3, .null), (0, .ref (kL w 0)), (1, .ref (kL w c1))]) K dX1_successor_27 3 rfl (by decide) (by decide) rfl ?_
      refine k_goto K 2 dX1_successor_30 (by decide) ?_
      refine k_sub [2, 3, 0] rfl ?_
      cases h
      exact hL2 _ rfl
    · subst hq5
      refine k_ifnull K dX1_successor_22 ?_
      refine k_aload_n K dX1_successor_25 0 rfl ?_
      cases h
      obtain rfl := hO _ rfl
      exact k_aret (v := some q5) K hret dX1_successor_26 (by decide) (by decide)
set_option maxRecDepth 20000 in
theorem lX1_successor_2 (K : kC w p s m args meth c cX1_successor 4 RX1) (hret : meth.sig.returnType = (some (.object "KeyRing$Member"))) {c1 : Nat} {σ : kS} {n : Nat} {a : Int32} {r : (Option Nat)} {o : (Option Nat)} (h : kit (fX1_successor_2 c1 σ) n a = some r) (hO : ∀ z, r = z → z = o) : kG w p l e rmX1_successor s m args below meth c (MQ below (kQq w o σ) args s 0 0 (kA w)) 4 σ 2 [(0, .ref (kL w 0)), (1, .ref (kL w c1)), (2, .int a)] [] 0 0 :=
  kit_ind (body := fX1_successor_2 c1 σ) (fun a r => (∀ z, r = z → z = o) → kG w p l e rmX1_successor s m args below meth c (MQ below (kQq w o σ) args s 0 0 (kA w)) 4 σ 2 [(0, .ref (kL w 0)), (1, .ref (kL w c1)), (2, .int a)] [] 0 0) (fun a a2 r hb ih hO => pX1_successor_2 K hret hb (fun z e => by cases e; exact ih hO) (fun _ e => by cases e)) (fun a r hb hO => pX1_successor_2 K hret hb (fun _ e => by cases e) (fun z e => hO z (by cases e; rfl))) n a r h hO
set_option maxRecDepth 20000 in
theorem mX1_successor (l : Launch) (w : kW) (σ : kS) (c1 : Nat) {o : (Option Nat)} (h : fX1_successor σ c1 = some o) : Met l yX1_successor (Cond.code yX1_successor cX1_successor 4 (some (.object "KeyRing$Member")) :: TB) rmX1_successor (va_Pc [.ref (kL w 0), .ref (kL w c1)] (kP w σ)) (kQq w o σ) 0 0 (kA w) := by
  refine k_met (by decide +kernel) [.ref (kL w 0), .ref (kL w c1)] (Nat.le_of_ble_eq_true rfl) (by simp [lv_args, Value.category]) ?_
  intro p e s m args below meth c K hret
  have K : kC w p s m args meth c cX1_successor 4 RX1 := K
  obtain ⟨r, hro⟩ : ∃ r, r = o := ⟨o, rfl⟩
  rw [← hro] at h
  have hO : ∀ z, r = z → z = o := fun z e => by rw [← e]; exact hro
  unfold fX1_successor at h
  refine k_iconst (v := 0) K dX1_successor_0 (by decide) ?_
  refine k_istore_n (lv' := [(2, .int 0), (0, .ref (kL w 0)), (1, .ref (kL w c1))]) K dX1_successor_1 (by decide) rfl ?_
  refine k_sub [1, 2, 0] rfl ?_
  exact lX1_successor_2 K hret h hO
end F_X1_successor
section C_X1_successor
variable {w : kW} {p : Program} {l : Launch} {e : Env} {R : Room} {s : State} {m : MethodId} {args : Array Value} {below : List Frame} {meth : Method} {c : Code} {Q : State → Prop} {cc : ByteArray} {nL : Nat} {σ : kS} {pc : Nat} {lv : List (Nat × Value)} {st rest : List Value} {cells slots : Nat}
theorem cl_X1_107 (K : kC w p s m args meth c cc nL RX1) {a1 : Nat} {r : (Option Nat)} (d : decode cc pc = .ok (.invokevirtual 107, 3)) (h : fX1_successor σ a1 = some r) (hR : rmX1_successor.frames + 1 ≤ R.frames ∧ 8 + (4 + 11) + rmX1_successor.locals ≤ R.locals) (hr : (rest.map fun v => v.category).sum ≤ 8) (hf : cells + 0 ≤ R.cells ∧ slots + 0 ≤ R.slots) (kk : kG w p l e R s m args below meth c Q nL σ (pc + 3) lv (va_rf (r.map (kL w)) :: rest) (cells + 0) (slots + 0)) : kG w p l e R s m args below meth c Q nL σ pc lv (.ref (kL w a1) :: .ref (kL w 0) :: rest) cells slots :=
  k_callVq (As := [.ref (kL w a1)]) (rest := rest) (n := 1) (C := RX1) (T := TX1) K d kd_0 rfl (kg_V tw_335 tw_337 tw_9 tw_48 tw_338) rfl (by decide +kernel) rfl hR hr rfl hf (mX1_successor l w σ a1 h) ⟨rfl, rfl⟩ kk
end C_X1_successor
section F_X1_takeOver
variable {w : kW} {p : Program} {l : Launch} {e : Env} {s : State} {m : MethodId} {args : Array Value} {below : List Frame} {meth : Method} {c : Code}
def gX1_takeOver_7 (c1 : Nat) (c2 : Nat) (x3 : Int32) (σ : kS) : Option ((Int32 × kS) ⊕ kS) :=
  if x3 ≤ 0 then
    if kd c1 = (0, 0, 8) then
      if kd c2 = (0, 0, 8) then
        some (.inr (sI σ (c1 + 1 + 0) (0 : Int32).toNatClampNeg (σ.1 c2 5)))
      else none
    else none
  else
    if kd c1 = (0, 0, 8) then
      if kd c2 = (0, 0, 8) then
        if vpi (x3 - 1) 4 then
          if vpi x3 4 then
            some (.inl (x3 + (-1), sI σ (c1 + 1 + 0) x3.toNatClampNeg (σ.1 (c2 + 1 + 0) (x3 - 1).toNatClampNeg)))
          else none
        else none
      else none
    else none
def fX1_takeOver_7 (c1 : Nat) (c2 : Nat) (a : Int32 × kS) : Option ((Int32 × kS) ⊕ kS) := gX1_takeOver_7 c1 c2 a.1 a.2
def fX1_takeOver (σ : kS) (c1 : Nat) (c2 : Nat) : Option kS :=
  kit (fX1_takeOver_7 c1 c2) 300 ((σ.1 0 7) - 1, σ)
def rmX1_takeOver : Room := { frames := 0, cells := 0, slots := 0, locals := 0 }
set_option maxRecDepth 20000 in
theorem pX1_takeOver_7 (K : kC w p s m args meth c cX1_takeOver 4 RX1) (hret : meth.sig.returnType = none) {c1 : Nat} {c2 : Nat} {x3 : Int32} {σ : kS} {r : ((Int32 × kS) ⊕ kS)} {o : kS} (h : gX1_takeOver_7 c1 c2 x3 σ = some r) (hL7 : ∀ z, r = .inl z → kG w p l e rmX1_takeOver s m args below meth c (MQ below (kQv w o) args s 0 0 (kA w)) 4 z.2 7 [(1, .ref (kL w c1)), (2, .ref (kL w c2)), (3, .int (z.1))] [] 0 0) (hO : ∀ z, r = .inr z → z = o) : kG w p l e rmX1_takeOver s m args below meth c (MQ below (kQv w o) args s 0 0 (kA w)) 4 σ 7 [(1, .ref (kL w c1)), (2, .ref (kL w c2)), (3, .int x3)] [] 0 0 := by
  unfold gX1_takeOver_7 at h
  refine k_iload_n K dX1_takeOver_7 2 rfl ?_
  replace h := k_br h
  rcases h with ⟨b1, h⟩ | ⟨b1, h⟩
  · refine k_if_le K 31 dX1_takeOver_8 (by decide) (fun _ => ?_) (fun q => absurd b1 q)
    refine k_aload_n K dX1_takeOver_31 0 rfl ?_
    replace h := k_gd h
    obtain ⟨g2, h⟩ := h
    refine fg_X1_68 K dX1_takeOver_32 g2 ?_
    refine k_iconst (v := 0) K dX1_takeOver_35 (by decide) ?_
    refine k_aload_n K dX1_takeOver_36 1 rfl ?_
    replace h := k_gd h
    obtain ⟨g3, h⟩ := h
    refine fg_X1_89 K dX1_takeOver_37 g3 ?_
    refine k_iast K dX1_takeOver_40 (kd_m0 g2).1 (show vpi 0 4 by decide) ?_
    cases h
    obtain rfl := hO _ rfl
    exact k_vret K hret dX1_takeOver_41 (by decide) (by decide)
  · refine k_if_le K 31 dX1_takeOver_8 (by decide) (fun q => absurd q b1) (fun _ => ?_)
    refine k_aload_n K dX1_takeOver_11 0 rfl ?_
    replace h := k_gd h
    obtain ⟨g4, h⟩ := h
    refine fg_X1_68 K dX1_takeOver_12 g4 ?_
    refine k_iload_n K dX1_takeOver_15 2 rfl ?_
    refine k_aload_n K dX1_takeOver_16 1 rfl ?_
    replace h := k_gd h
    obtain ⟨g5, h⟩ := h
    refine fg_X1_68 K dX1_takeOver_17 g5 ?_
    refine k_iload_n K dX1_takeOver_20 2 rfl ?_
    refine k_iconst (v := 1) K dX1_takeOver_21 (by decide) ?_
    refine k_isub K dX1_takeOver_22 ?_
    replace h := k_gd h
    obtain ⟨g6, h⟩ := h
    refine k_iald K dX1_takeOver_23 (kd_m0 g5).1 g6 ?_
    replace h := k_gd h
    obtain ⟨g7, h⟩ := h
    refine k_iast K dX1_takeOver_24 (kd_m0 g4).1 g7 ?_
    refine k_iinc (v := (-1)) (lv' := [(3, .int (x3 + (-1))), (1, .ref (kL w c1)), (2, .ref (kL w c2))]) K dX1_takeOver_25 2 rfl (by decide) (by decide) rfl ?_
    refine k_goto K 7 dX1_takeOver_28 (by decide) ?_
    refine k_sub [1, 2, 0] rfl ?_
    cases h
    exact hL7 _ rfl
set_option maxRecDepth 20000 in
theorem lX1_takeOver_7 (K : kC w p s m args meth c cX1_takeOver 4 RX1) (hret : meth.sig.returnType = none) {c1 : Nat} {c2 : Nat} {n : Nat} {a : Int32 × kS} {r : kS} {o : kS} (h : kit (fX1_takeOver_7 c1 c2) n a = some r) (hO : ∀ z, r = z → z = o) : kG w p l e rmX1_takeOver s m args below meth c (MQ below (kQv w o) args s 0 0 (kA w)) 4 a.2 7 [(1, .ref (kL w c1)), (2, .ref (kL w c2)), (3, .int (a.1))] [] 0 0 :=
  kit_ind (body := fX1_takeOver_7 c1 c2) (fun a r => (∀ z, r = z → z = o) → kG w p l e rmX1_takeOver s m args below meth c (MQ below (kQv w o) args s 0 0 (kA w)) 4 a.2 7 [(1, .ref (kL w c1)), (2, .ref (kL w c2)), (3, .int (a.1))] [] 0 0) (fun a a2 r hb ih hO => pX1_takeOver_7 K hret hb (fun z e => by cases e; exact ih hO) (fun _ e => by cases e)) (fun a r hb hO => pX1_takeOver_7 K hret hb (fun _ e => by cases e) (fun z e => hO z (by cases e; rfl))) n a r h hO
set_option maxRecDepth 20000 in
theorem mX1_takeOver (l : Launch) (w : kW) (σ : kS) (c1 : Nat) (c2 : Nat) {o : kS} (h : fX1_takeOver σ c1 c2 = some o) : Met l yX1_takeOver (Cond.code yX1_takeOver cX1_takeOver 4 none :: TB) rmX1_takeOver (va_Pc [.ref (kL w 0), .ref (kL w c1), .ref (kL w c2)] (kP w σ)) (kQv w o) 0 0 (kA w) := by
  refine k_met (by decide +kernel) [.ref (kL w 0), .ref (kL w c1), .ref (kL w c2)] (Nat.le_of_ble_eq_true rfl) (by simp [lv_args, Value.category]) ?_
  intro p e s m args below meth c K hret
  have K : kC w p s m args meth c cX1_takeOver 4 RX1 := K
  obtain ⟨r, hro⟩ : ∃ r, r = o := ⟨o, rfl⟩
  rw [← hro] at h
  have hO : ∀ z, r = z → z = o := fun z e => by rw [← e]; exact hro
  unfold fX1_takeOver at h
  refine k_aload_n K dX1_takeOver_0 0 rfl ?_
  refine fg_X1_30 K dX1_takeOver_1 ?_
  refine k_iconst (v := 1) K dX1_takeOver_4 (by decide) ?_
  refine k_isub K dX1_takeOver_5 ?_
  refine k_istore_n (lv' := [(3, .int ((σ.1 0 7) - 1)), (0, .ref (kL w 0)), (1, .ref (kL w c1)), (2, .ref (kL w c2))]) K dX1_takeOver_6 (by decide) rfl ?_
  refine k_sub [2, 3, 0] rfl ?_
  exact lX1_takeOver_7 K hret h hO
end F_X1_takeOver
section C_X1_takeOver
variable {w : kW} {p : Program} {l : Launch} {e : Env} {R : Room} {s : State} {m : MethodId} {args : Array Value} {below : List Frame} {meth : Method} {c : Code} {Q : State → Prop} {cc : ByteArray} {nL : Nat} {σ : kS} {pc : Nat} {lv : List (Nat × Value)} {st rest : List Value} {cells slots : Nat}
theorem cl_X1_85 (K : kC w p s m args meth c cc nL RX1) {a1 : Nat} {a2 : Nat} {r : kS} (d : decode cc pc = .ok (.invokevirtual 85, 3)) (h : fX1_takeOver σ a1 a2 = some r) (hR : rmX1_takeOver.frames + 1 ≤ R.frames ∧ 8 + (4 + 11) + rmX1_takeOver.locals ≤ R.locals) (hr : (rest.map fun v => v.category).sum ≤ 8) (hf : cells + 0 ≤ R.cells ∧ slots + 0 ≤ R.slots) (kk : kG w p l e R s m args below meth c Q nL r (pc + 3) lv (rest) (cells + 0) (slots + 0)) : kG w p l e R s m args below meth c Q nL σ pc lv (.ref (kL w a2) :: .ref (kL w a1) :: .ref (kL w 0) :: rest) cells slots :=
  k_callVv (As := [.ref (kL w a1), .ref (kL w a2)]) (rest := rest) (n := 2) (C := RX1) (T := TX1) K d kd_0 rfl (kg_V tw_349 tw_351 tw_11 tw_48 tw_352) rfl (by decide +kernel) rfl hR hr rfl hf (mX1_takeOver l w σ a1 a2 h) ⟨rfl, rfl⟩ kk
end C_X1_takeOver
section F_X1_stepsUp
variable {w : kW} {p : Program} {l : Launch} {e : Env} {s : State} {m : MethodId} {args : Array Value} {below : List Frame} {meth : Method} {c : Code}
def fX1_stepsUp (x0 : Int32) (x1 : Int32) : Option Int32 :=
  some ((x1 - x0) &&& 255)
def rmX1_stepsUp : Room := { frames := 0, cells := 0, slots := 0, locals := 0 }
set_option maxRecDepth 20000 in
theorem mX1_stepsUp (l : Launch) (w : kW) (σ0 : kS) (x0 : Int32) (x1 : Int32) {o : Int32} (h : fX1_stepsUp x0 x1 = some o) : Met l yX1_stepsUp (Cond.code yX1_stepsUp cX1_stepsUp 2 (some .int) :: TB) rmX1_stepsUp (va_Pc [.int x0, .int x1] (kP w σ0)) (kQi w o σ0) 0 0 (kA w) := by
  refine k_met (by decide +kernel) [.int x0, .int x1] (Nat.le_of_ble_eq_true rfl) (by simp [lv_args, Value.category]) ?_
  intro p e s m args below meth c K hret
  have K : kC w p s m args meth c cX1_stepsUp 2 RX1 := K
  obtain ⟨r, hro⟩ : ∃ r, r = o := ⟨o, rfl⟩
  rw [← hro] at h
  have hO : ∀ z, r = z → z = o := fun z e => by rw [← e]; exact hro
  unfold fX1_stepsUp at h
  refine k_iload_n K dX1_stepsUp_0 1 rfl ?_
  refine k_iload_n K dX1_stepsUp_1 0 rfl ?_
  refine k_isub K dX1_stepsUp_2 ?_
  refine k_sipush (v := 255) K dX1_stepsUp_3 (by decide) ?_
  refine k_iand K dX1_stepsUp_6 ?_
  cases h
  obtain rfl := hO _ rfl
  exact k_iret (v := (x1 - x0) &&& 255) K hret dX1_stepsUp_7 (by decide) (by decide)
end F_X1_stepsUp
section C_X1_stepsUp
variable {w : kW} {p : Program} {l : Launch} {e : Env} {R : Room} {s : State} {m : MethodId} {args : Array Value} {below : List Frame} {meth : Method} {c : Code} {Q : State → Prop} {cc : ByteArray} {nL : Nat} {σ : kS} {pc : Nat} {lv : List (Nat × Value)} {st rest : List Value} {cells slots : Nat}
theorem cl_X1_220 (K : kC w p s m args meth c cc nL RX1) {a1 : Int32} {a2 : Int32} {r : Int32} (d : decode cc pc = .ok (.invokestatic 220, 3)) (h : fX1_stepsUp a1 a2 = some r) (hR : rmX1_stepsUp.frames + 1 ≤ R.frames ∧ 8 + (2 + 11) + rmX1_stepsUp.locals ≤ R.locals) (hr : (rest.map fun v => v.category).sum ≤ 8) (hf : cells + 0 ≤ R.cells ∧ slots + 0 ≤ R.slots) (kk : kG w p l e R s m args below meth c Q nL σ (pc + 3) lv (.int r :: rest) (cells + 0) (slots + 0)) : kG w p l e R s m args below meth c Q nL σ pc lv (.int a2 :: .int a1 :: rest) cells slots :=
  k_callSi (As := [.int a1, .int a2]) (rest := rest) (n := 2) K d (kg_S tw_342 tw_343 tw_48 tw_344) (by decide +kernel) rfl hR hr rfl hf (mX1_stepsUp l w σ a1 a2 h) ⟨rfl, rfl⟩ kk
end C_X1_stepsUp
section F_X1_isBetween
variable {w : kW} {p : Program} {l : Launch} {e : Env} {s : State} {m : MethodId} {args : Array Value} {below : List Frame} {meth : Method} {c : Code}
def fX1_isBetween_28 : Option Int32 :=
  some (1)
def fX1_isBetween (x0 : Int32) (x1 : Int32) (x2 : Int32) : Option Int32 :=
  (fX1_stepsUp x0 x1).bind fun r1 =>
  (fX1_stepsUp x0 x2).bind fun r2 =>
  if r1 = 0 then
    some (0)
  else
    if r2 = 0 then
      fX1_isBetween_28 
    else
      if r2 ≤ r1 then
        some (0)
      else
        fX1_isBetween_28 
def rmX1_isBetween : Room := { frames := 1, cells := 0, slots := 0, locals := 21 }
set_option maxRecDepth 20000 in
theorem pX1_isBetween_28 {σ0 : kS} (K : kC w p s m args meth c cX1_isBetween 5 RX1) (hret : meth.sig.returnType = (some .boolean)) {r : Int32} {o : Int32} (h : fX1_isBetween_28 = some r) (hO : ∀ z, r = z → z = o) : kG w p l e rmX1_isBetween s m args below meth c (MQ below (kQi w o σ0) args s 0 0 (kA w)) 5 σ0 28 [] [] 0 0 := by
  unfold fX1_isBetween_28 at h
  refine k_iconst (v := 1) K dX1_isBetween_28 (by decide) ?_
  refine k_goto K 33 dX1_isBetween_29 (by decide) ?_
  cases h
  obtain rfl := hO _ rfl
  exact k_zret (v := 1) K hret (by decide) dX1_isBetween_33 (by decide) (by decide)
set_option maxRecDepth 20000 in
theorem mX1_isBetween (l : Launch) (w : kW) (σ0 : kS) (x0 : Int32) (x1 : Int32) (x2 : Int32) {o : Int32} (h : fX1_isBetween x0 x1 x2 = some o) : Met l yX1_isBetween (Cond.code yX1_isBetween cX1_isBetween 5 (some .boolean) :: TB) rmX1_isBetween (va_Pc [.int x0, .int x1, .int x2] (kP w σ0)) (kQi w o σ0) 0 0 (kA w) := by
  refine k_met (by decide +kernel) [.int x0, .int x1, .int x2] (Nat.le_of_ble_eq_true rfl) (by simp [lv_args, Value.category]) ?_
  intro p e s m args below meth c K hret
  have K : kC w p s m args meth c cX1_isBetween 5 RX1 := K
  obtain ⟨r, hro⟩ : ∃ r, r = o := ⟨o, rfl⟩
  rw [← hro] at h
  have hO : ∀ z, r = z → z = o := fun z e => by rw [← e]; exact hro
  unfold fX1_isBetween at h
  refine k_iload_n K dX1_isBetween_0 0 rfl ?_
  refine k_iload_n K dX1_isBetween_1 1 rfl ?_
  replace h := k_bd h
  obtain ⟨r1, hr1, h⟩ := h
  refine cl_X1_220 K dX1_isBetween_2 hr1 (by decide) (Nat.le_of_ble_eq_true rfl) (by decide) ?_
  refine k_istore_n (lv' := [(3, .int r1), (0, .int x0), (1, .int x1), (2, .int x2)]) K dX1_isBetween_5 (by decide) rfl ?_
  refine k_iload_n K dX1_isBetween_6 1 rfl ?_
  refine k_iload_n K dX1_isBetween_7 3 rfl ?_
  replace h := k_bd h
  obtain ⟨r2, hr2, h⟩ := h
  refine cl_X1_220 K dX1_isBetween_8 hr2 (by decide) (Nat.le_of_ble_eq_true rfl) (by decide) ?_
  refine k_istore (lv' := [(4, .int r2), (3, .int r1), (0, .int x0), (1, .int x1), (2, .int x2)]) K dX1_isBetween_11 (by decide) rfl ?_
  refine k_iload_n K dX1_isBetween_13 1 rfl ?_
  replace h := k_br h
  rcases h with ⟨b3, h⟩ | ⟨b3, h⟩
  · refine k_if_eq K 32 dX1_isBetween_14 (by decide) (fun _ => ?_) (fun q => absurd b3 q)
    refine k_iconst (v := 0) K dX1_isBetween_32 (by decide) ?_
    cases h
    obtain rfl := hO _ rfl
    exact k_zret (v := 0) K hret (by decide) dX1_isBetween_33 (by decide) (by decide)
  · refine k_if_eq K 32 dX1_isBetween_14 (by decide) (fun q => absurd q b3) (fun _ => ?_)
    refine k_iload K dX1_isBetween_17 0 rfl ?_
    replace h := k_br h
    rcases h with ⟨b4, h⟩ | ⟨b4, h⟩
    · refine k_if_eq K 28 dX1_isBetween_19 (by decide) (fun _ => ?_) (fun q => absurd b4 q)
      refine k_sub [] rfl ?_
      exact pX1_isBetween_28 K hret h hO
    · refine k_if_eq K 28 dX1_isBetween_19 (by decide) (fun q => absurd q b4) (fun _ => ?_)
      refine k_iload_n K dX1_isBetween_22 1 rfl ?_
      refine k_iload K dX1_isBetween_23 0 rfl ?_
      replace h := k_br h
      rcases h with ⟨b5, h⟩ | ⟨b5, h⟩
      · refine k_icmp_ge K 32 dX1_isBetween_25 (by decide) (fun _ => ?_) (fun q => absurd b5 q)
        refine k_iconst (v := 0) K dX1_isBetween_32 (by decide) ?_
        cases h
        obtain rfl := hO _ rfl
        exact k_zret (v := 0) K hret (by decide) dX1_isBetween_33 (by decide) (by decide)
      · refine k_icmp_ge K 32 dX1_isBetween_25 (by decide) (fun q => absurd q b5) (fun _ => ?_)
        refine k_sub [] rfl ?_
        exact pX1_isBetween_28 K hret h hO
end F_X1_isBetween
section C_X1_isBetween
variable {w : kW} {p : Program} {l : Launch} {e : Env} {R : Room} {s : State} {m : MethodId} {args : Array Value} {below : List Frame} {meth : Method} {c : Code} {Q : State → Prop} {cc : ByteArray} {nL : Nat} {σ : kS} {pc : Nat} {lv : List (Nat × Value)} {st rest : List Value} {cells slots : Nat}
theorem cl_X1_241 (K : kC w p s m args meth c cc nL RX1) {a1 : Int32} {a2 : Int32} {a3 : Int32} {r : Int32} (d : decode cc pc = .ok (.invokestatic 241, 3)) (h : fX1_isBetween a1 a2 a3 = some r) (hR : rmX1_isBetween.frames + 1 ≤ R.frames ∧ 8 + (5 + 11) + rmX1_isBetween.locals ≤ R.locals) (hr : (rest.map fun v => v.category).sum ≤ 8) (hf : cells + 0 ≤ R.cells ∧ slots + 0 ≤ R.slots) (kk : kG w p l e R s m args below meth c Q nL σ (pc + 3) lv (.int r :: rest) (cells + 0) (slots + 0)) : kG w p l e R s m args below meth c Q nL σ pc lv (.int a3 :: .int a2 :: .int a1 :: rest) cells slots :=
  k_callSi (As := [.int a1, .int a2, .int a3]) (rest := rest) (n := 3) K d (kg_S tw_339 tw_340 tw_48 tw_341) (by decide +kernel) rfl hR hr rfl hf (mX1_isBetween l w σ a1 a2 a3 h) ⟨rfl, rfl⟩ kk
end C_X1_isBetween
section F_X1_tell
variable {w : kW} {p : Program} {l : Launch} {e : Env} {s : State} {m : MethodId} {args : Array Value} {below : List Frame} {meth : Method} {c : Code}
def fX1_tell_41 (c1 : Nat) (c2 : Nat) (σ : kS) : Option kS :=
  if kd c2 = (0, 0, 8) then
    if kd c1 = (0, 0, 8) then
      some (sI σ c1 6 (σ.1 c2 5))
    else none
  else none
def fX1_tell (σ : kS) (n1 : Option Nat) (c2 : Nat) : Option kS :=
  kmn (n1) (
    some (σ)
  ) fun q1 =>
    if okq (some q1) = true ∧ okq (some c2) = true then
      if some q1 = some c2 then
        some (σ)
      else
        if kd q1 = (0, 0, 8) then
          (fX1_liveAt σ (σ.1 q1 6)).bind fun r5 =>
          kmn (r5) (
            fX1_tell_41 q1 c2 σ
          ) fun q6 =>
            if kd q6 = (0, 0, 8) then
              if kd c2 = (0, 0, 8) then
                (fX1_isBetween (σ.1 q6 5) (σ.1 c2 5) (σ.1 q1 5)).bind fun r9 =>
                if r9 = 0 then
                  some (σ)
                else
                  fX1_tell_41 q1 c2 σ
              else none
            else none
        else none
    else none
def rmX1_tell : Room := { frames := 2, cells := 0, slots := 0, locals := 45 }
set_option maxRecDepth 20000 in
theorem pX1_tell_41 (K : kC w p s m args meth c cX1_tell 4 RX1) (hret : meth.sig.returnType = none) {c1 : Nat} {c2 : Nat} {σ : kS} {r : kS} {o : kS} (h : fX1_tell_41 c1 c2 σ = some r) (hO : ∀ z, r = z → z = o) : kG w p l e rmX1_tell s m args below meth c (MQ below (kQv w o) args s 0 0 (kA w)) 4 σ 41 [(1, .ref (kL w c1)), (2, .ref (kL w c2))] [] 0 0 := by
  unfold fX1_tell_41 at h
  refine k_aload_n K dX1_tell_41 0 rfl ?_
  refine k_aload_n K dX1_tell_42 1 rfl ?_
  replace h := k_gd h
  obtain ⟨g1, h⟩ := h
  refine fg_X1_89 K dX1_tell_43 g1 ?_
  replace h := k_gd h
  obtain ⟨g2, h⟩ := h
  refine fp_X1_75 K dX1_tell_46 g2 ?_
  cases h
  obtain rfl := hO _ rfl
  exact k_vret K hret dX1_tell_49 (by decide) (by decide)
set_option maxRecDepth 20000 in
theorem qX1_tell (K : kC w p s m args meth c cX1_tell 4 RX1) (hret : meth.sig.returnType = none) {σ : kS} {n1 : Option Nat} {c2 : Nat} {o : kS} (h : fX1_tell σ n1 c2 = some o) : kG w p l e rmX1_tell s m args below meth c (MQ below (kQv w o) args s 0 0 (kA w)) 4 σ 0 [(0, .ref (kL w 0)), (1, va_rf ((n1).map (kL w))), (2, .ref (kL w c2))] [] 0 0 := by
  have K : kC w p s m args meth c cX1_tell 4 RX1 := K
  obtain ⟨r, hro⟩ : ∃ r, r = o := ⟨o, rfl⟩
  rw [← hro] at h
  have hO : ∀ z, r = z → z = o := fun z e => by rw [← e]; exact hro
  unfold fX1_tell at h
  refine k_aload_nQ K dX1_tell_0 1 rfl ?_
  replace h := k_mn h
  rcases h with ⟨hq1, h⟩ | ⟨q1, hq1, h⟩
  · subst hq1
    refine k_ifnullN K 9 dX1_tell_1 (by decide) ?_
    cases h
    obtain rfl := hO _ rfl
    exact k_vret K hret dX1_tell_9 (by decide) (by decide)
  · subst hq1
    refine k_ifnull K dX1_tell_1 ?_
    refine k_aload_n K dX1_tell_4 1 rfl ?_
    refine k_aload_n K dX1_tell_5 2 rfl ?_
    replace h := k_gd h
    obtain ⟨g3, h⟩ := h
    replace h := k_br h
    rcases h with ⟨b2, h⟩ | ⟨b2, h⟩
    · refine k_acmp_ne (x := some q1) (y := some c2) K 10 dX1_tell_6 (by decide) (okq_s g3.1) (okq_s g3.2) (fun q => absurd b2 q) (fun _ => ?_)
      cases h
      obtain rfl := hO _ rfl
      exact k_vret K hret dX1_tell_9 (by decide) (by decide)
    · refine k_acmp_ne (x := some q1) (y := some c2) K 10 dX1_tell_6 (by decide) (okq_s g3.1) (okq_s g3.2) (fun _ => ?_) (fun q => absurd q b2)
      refine k_aload_n K dX1_tell_10 0 rfl ?_
      refine k_aload_n K dX1_tell_11 1 rfl ?_
      replace h := k_gd h
      obtain ⟨g4, h⟩ := h
      refine fg_X1_75 K dX1_tell_12 g4 ?_
      replace h := k_bd h
      obtain ⟨r5, hr5, h⟩ := h
      refine cl_X1_204 K dX1_tell_15 hr5 (by decide) (Nat.le_of_ble_eq_true rfl) (by decide) ?_
      refine k_astore_nQ (lv' := [(3, va_rf ((r5).map (kL w))), (0, .ref (kL w 0)), (1, .ref (kL w q1)), (2, .ref (kL w c2))]) K dX1_tell_18 (by decide) rfl ?_
      refine k_aload_nQ K dX1_tell_19 0 rfl ?_
      replace h := k_mn h
      rcases h with ⟨hq6, h⟩ | ⟨q6, hq6, h⟩
      · subst hq6
        refine k_ifnullN K 41 dX1_tell_20 (by decide) ?_
        refine k_sub [2, 3] rfl ?_
        exact pX1_tell_41 K hret h hO
      · subst hq6
        refine k_ifnull K dX1_tell_20 ?_
        refine k_aload_n K dX1_tell_23 0 rfl ?_
        replace h := k_gd h
        obtain ⟨g7, h⟩ := h
        refine fg_X1_89 K dX1_tell_24 g7 ?_
        refine k_aload_n K dX1_tell_27 3 rfl ?_
        replace h := k_gd h
        obtain ⟨g8, h⟩ := h
        refine fg_X1_89 K dX1_tell_28 g8 ?_
        refine k_aload_n K dX1_tell_31 2 rfl ?_
        refine fg_X1_89 K dX1_tell_32 g4 ?_
        replace h := k_bd h
        obtain ⟨r9, hr9, h⟩ := h
        refine cl_X1_241 K dX1_tell_35 hr9 (by decide) (Nat.le_of_ble_eq_true rfl) (by decide) ?_
        replace h := k_br h
        rcases h with ⟨b10, h⟩ | ⟨b10, h⟩
        · refine k_if_eq K 49 dX1_tell_38 (by decide) (fun _ => ?_) (fun q => absurd b10 q)
          cases h
          obtain rfl := hO _ rfl
          exact k_vret K hret dX1_tell_49 (by decide) (by decide)
        · refine k_if_eq K 49 dX1_tell_38 (by decide) (fun q => absurd q b10) (fun _ => ?_)
          refine k_sub [2, 3] rfl ?_
          exact pX1_tell_41 K hret h hO
set_option maxRecDepth 20000 in
theorem mX1_tell (l : Launch) (w : kW) (σ : kS) (n1 : Option Nat) (c2 : Nat) {o : kS} (h : fX1_tell σ n1 c2 = some o) : Met l yX1_tell (Cond.code yX1_tell cX1_tell 4 none :: TB) rmX1_tell (va_Pc [.ref (kL w 0), va_rf ((n1).map (kL w)), .ref (kL w c2)] (kP w σ)) (kQv w o) 0 0 (kA w) := by
  cases n1 <;> (refine k_met (by decide) _ (Nat.le_of_ble_eq_true rfl) (by simp [lv_args, Value.category, va_rf]) ?_ ; intro p e s m args below meth c K hret; exact qX1_tell K hret h)
end F_X1_tell
section C_X1_tell
variable {w : kW} {p : Program} {l : Launch} {e : Env} {R : Room} {s : State} {m : MethodId} {args : Array Value} {below : List Frame} {meth : Method} {c : Code} {Q : State → Prop} {cc : ByteArray} {nL : Nat} {σ : kS} {pc : Nat} {lv : List (Nat × Value)} {st rest : List Value} {cells slots : Nat}
theorem cl_X1_245 (K : kC w p s m args meth c cc nL RX1) {a1 : Option Nat} {a2 : Nat} {r : kS} (d : decode cc pc = .ok (.invokevirtual 245, 3)) (h : fX1_tell σ a1 a2 = some r) (hR : rmX1_tell.frames + 1 ≤ R.frames ∧ 8 + (4 + 11) + rmX1_tell.locals ≤ R.locals) (hr : (rest.map fun v => v.category).sum ≤ 8) (hf : cells + 0 ≤ R.cells ∧ slots + 0 ≤ R.slots) (kk : kG w p l e R s m args below meth c Q nL r (pc + 3) lv (rest) (cells + 0) (slots + 0)) : kG w p l e R s m args below meth c Q nL σ pc lv (.ref (kL w a2) :: va_rf (a1.map (kL w)) :: .ref (kL w 0) :: rest) cells slots :=
  k_callVv (As := [va_rf (a1.map (kL w)), .ref (kL w a2)]) (rest := rest) (n := 2) (C := RX1) (T := TX1) K d kd_0 rfl (kg_V tw_381 tw_383 tw_15 tw_48 tw_384) rfl (by decide +kernel) rfl hR hr rfl hf (mX1_tell l w σ a1 a2 h) ⟨rfl, rfl⟩ kk
end C_X1_tell
section F_X1_stabiliseMember
variable {w : kW} {p : Program} {l : Launch} {e : Env} {s : State} {m : MethodId} {args : Array Value} {below : List Frame} {meth : Method} {c : Code}
def fX1_stabiliseMember_54 (c1 : Nat) (σ : kS) : Option kS :=
  (fX1_successor σ c1).bind fun r1 =>
  (fX1_tell σ r1 c1).bind fun r2 =>
  some (r2)
def fX1_stabiliseMember (σ : kS) (c1 : Nat) : Option kS :=
  (fX1_successor σ c1).bind fun r1 =>
  kmn (r1) (
    some (σ)
  ) fun q2 =>
    (fX1_takeOver σ c1 q2).bind fun r3 =>
    if kd q2 = (0, 0, 8) then
      (fX1_liveAt r3 (r3.1 q2 6)).bind fun r5 =>
      kmn (r5) (
        fX1_stabiliseMember_54 c1 r3
      ) fun q6 =>
        if kd c1 = (0, 0, 8) then
          if kd q6 = (0, 0, 8) then
            (fX1_isBetween (r3.1 c1 5) (r3.1 q6 5) (r3.1 q2 5)).bind fun r9 =>
            if r9 = 0 then
              fX1_stabiliseMember_54 c1 r3
            else
              (fX1_takeOver r3 c1 q6).bind fun r11 =>
              fX1_stabiliseMember_54 c1 r11
          else none
        else none
    else none
def rmX1_stabiliseMember : Room := { frames := 3, cells := 0, slots := 0, locals := 68 }
set_option maxRecDepth 20000 in
theorem pX1_stabiliseMember_54 (K : kC w p s m args meth c cX1_stabiliseMember 4 RX1) (hret : meth.sig.returnType = none) {c1 : Nat} {σ : kS} {r : kS} {o : kS} (h : fX1_stabiliseMember_54 c1 σ = some r) (hO : ∀ z, r = z → z = o) : kG w p l e rmX1_stabiliseMember s m args below meth c (MQ below (kQv w o) args s 0 0 (kA w)) 4 σ 54 [(0, .ref (kL w 0)), (1, .ref (kL w c1))] [] 0 0 := by
  unfold fX1_stabiliseMember_54 at h
  refine k_aload_n K dX1_stabiliseMember_54 0 rfl ?_
  refine k_aload_n K dX1_stabiliseMember_55 0 rfl ?_
  refine k_aload_n K dX1_stabiliseMember_56 1 rfl ?_
  replace h := k_bd h
  obtain ⟨r1, hr1, h⟩ := h
  refine cl_X1_107 K dX1_stabiliseMember_57 hr1 (by decide) (Nat.le_of_ble_eq_true rfl) (by decide) ?_
  refine k_aload_n K dX1_stabiliseMember_60 1 rfl ?_
  replace h := k_bd h
  obtain ⟨r2, hr2, h⟩ := h
  refine cl_X1_245 K dX1_stabiliseMember_61 hr2 (by decide) (Nat.le_of_ble_eq_true rfl) (by decide) ?_
  cases h
  obtain rfl := hO _ rfl
  exact k_vret K hret dX1_stabiliseMember_64 (by decide) (by decide)
set_option maxRecDepth 20000 in
theorem mX1_stabiliseMember (l : Launch) (w : kW) (σ : kS) (c1 : Nat) {o : kS} (h : fX1_stabiliseMember σ c1 = some o) : Met l yX1_stabiliseMember (Cond.code yX1_stabiliseMember cX1_stabiliseMember 4 none :: TB) rmX1_stabiliseMember (va_Pc [.ref (kL w 0), .ref (kL w c1)] (kP w σ)) (kQv w o) 0 0 (kA w) := by
  refine k_met (by decide +kernel) [.ref (kL w 0), .ref (kL w c1)] (Nat.le_of_ble_eq_true rfl) (by simp [lv_args, Value.category]) ?_
  intro p e s m args below meth c K hret
  have K : kC w p s m args meth c cX1_stabiliseMember 4 RX1 := K
  obtain ⟨r, hro⟩ : ∃ r, r = o := ⟨o, rfl⟩
  rw [← hro] at h
  have hO : ∀ z, r = z → z = o := fun z e => by rw [← e]; exact hro
  unfold fX1_stabiliseMember at h
  refine k_aload_n K dX1_stabiliseMember_0 0 rfl ?_
  refine k_aload_n K dX1_stabiliseMember_1 1 rfl ?_
  replace h := k_bd h
  obtain ⟨r1, hr1, h⟩ := h
  refine cl_X1_107 K dX1_stabiliseMember_2 hr1 (by decide) (Nat.le_of_ble_eq_true rfl) (by decide) ?_
  refine k_astore_nQ (lv' := [(2, va_rf ((r1).map (kL w))), (0, .ref (kL w 0)), (1, .ref (kL w c1))]) K dX1_stabiliseMember_5 (by decide) rfl ?_
  refine k_aload_nQ K dX1_stabiliseMember_6 0 rfl ?_
  replace h := k_mn h
  rcases h with ⟨hq2, h⟩ | ⟨q2, hq2, h⟩
  · subst hq2
    refine k_ifnonnullN K dX1_stabiliseMember_7 ?_
    cases h
    obtain rfl := hO _ rfl
    exact k_vret K hret dX1_stabiliseMember_10 (by decide) (by decide)
  · subst hq2
    refine k_ifnonnull K 11 dX1_stabiliseMember_7 (by decide) ?_
    refine k_aload_n K dX1_stabiliseMember_11 1 rfl ?_
    refine k_aload_n K dX1_stabiliseMember_12 2 rfl ?_
    refine k_aload_n K dX1_stabiliseMember_13 0 rfl ?_
    replace h := k_bd h
    obtain ⟨r3, hr3, h⟩ := h
    refine cl_X1_85 K dX1_stabiliseMember_14 hr3 (by decide) (Nat.le_of_ble_eq_true rfl) (by decide) ?_
    refine k_aload_n K dX1_stabiliseMember_17 1 rfl ?_
    refine k_aload_n K dX1_stabiliseMember_18 0 rfl ?_
    replace h := k_gd h
    obtain ⟨g4, h⟩ := h
    refine fg_X1_75 K dX1_stabiliseMember_19 g4 ?_
    replace h := k_bd h
    obtain ⟨r5, hr5, h⟩ := h
    refine cl_X1_204 K dX1_stabiliseMember_22 hr5 (by decide) (Nat.le_of_ble_eq_true rfl) (by decide) ?_
    refine k_astore_nQ (lv' := [(3, va_rf ((r5).map (kL w))), (2, .ref (kL w q2)), (0, .ref (kL w 0)), (1, .ref (kL w c1))]) K dX1_stabiliseMember_25 (by decide) rfl ?_
    refine k_aload_nQ K dX1_stabiliseMember_26 0 rfl ?_
    replace h := k_mn h
    rcases h with ⟨hq6, h⟩ | ⟨q6, hq6, h⟩
    · subst hq6
      refine k_ifnullN K 54 dX1_stabiliseMember_27 (by decide) ?_
      refine k_sub [2, 3] rfl ?_
      exact pX1_stabiliseMember_54 K hret h hO
    · subst hq6
      refine k_ifnull K dX1_stabiliseMember_27 ?_
      refine k_aload_n K dX1_stabiliseMember_30 3 rfl ?_
      replace h := k_gd h
      obtain ⟨g7, h⟩ := h
      refine fg_X1_89 K dX1_stabiliseMember_31 g7 ?_
      refine k_aload_n K dX1_stabiliseMember_34 0 rfl ?_
      replace h := k_gd h
      obtain ⟨g8, h⟩ := h
      refine fg_X1_89 K dX1_stabiliseMember_35 g8 ?_
      refine k_aload_n K dX1_stabiliseMember_38 1 rfl ?_
      refine fg_X1_89 K dX1_stabiliseMember_39 g4 ?_
      replace h := k_bd h
      obtain ⟨r9, hr9, h⟩ := h
      refine cl_X1_241 K dX1_stabiliseMember_42 hr9 (by decide) (Nat.le_of_ble_eq_true rfl) (by decide) ?_
      replace h := k_br h
      rcases h with ⟨b10, h⟩ | ⟨b10, h⟩
      · refine k_if_eq K 54 dX1_stabiliseMember_45 (by decide) (fun _ => ?_) (fun q => absurd b10 q)
        refine k_sub [2, 3] rfl ?_
        exact pX1_stabiliseMember_54 K hret h hO
      · refine k_if_eq K 54 dX1_stabiliseMember_45 (by decide) (fun q => absurd q b10) (fun _ => ?_)
        refine k_aload_n K dX1_stabiliseMember_48 2 rfl ?_
        refine k_aload_n K dX1_stabiliseMember_49 3 rfl ?_
        refine k_aload_n K dX1_stabiliseMember_50 0 rfl ?_
        replace h := k_bd h
        obtain ⟨r11, hr11, h⟩ := h
        refine cl_X1_85 K dX1_stabiliseMember_51 hr11 (by decide) (Nat.le_of_ble_eq_true rfl) (by decide) ?_
        refine k_sub [2, 3] rfl ?_
        exact pX1_stabiliseMember_54 K hret h hO
end F_X1_stabiliseMember
section C_X1_stabiliseMember
variable {w : kW} {p : Program} {l : Launch} {e : Env} {R : Room} {s : State} {m : MethodId} {args : Array Value} {below : List Frame} {meth : Method} {c : Code} {Q : State → Prop} {cc : ByteArray} {nL : Nat} {σ : kS} {pc : Nat} {lv : List (Nat × Value)} {st rest : List Value} {cells slots : Nat}
theorem cl_X1_104 (K : kC w p s m args meth c cc nL RX1) {a1 : Nat} {r : kS} (d : decode cc pc = .ok (.invokevirtual 104, 3)) (h : fX1_stabiliseMember σ a1 = some r) (hR : rmX1_stabiliseMember.frames + 1 ≤ R.frames ∧ 8 + (4 + 11) + rmX1_stabiliseMember.locals ≤ R.locals) (hr : (rest.map fun v => v.category).sum ≤ 8) (hf : cells + 0 ≤ R.cells ∧ slots + 0 ≤ R.slots) (kk : kG w p l e R s m args below meth c Q nL r (pc + 3) lv (rest) (cells + 0) (slots + 0)) : kG w p l e R s m args below meth c Q nL σ pc lv (.ref (kL w a1) :: .ref (kL w 0) :: rest) cells slots :=
  k_callVv (As := [.ref (kL w a1)]) (rest := rest) (n := 1) (C := RX1) (T := TX1) K d kd_0 rfl (kg_V tw_377 tw_379 tw_14 tw_48 tw_380) rfl (by decide +kernel) rfl hR hr rfl hf (mX1_stabiliseMember l w σ a1 h) ⟨rfl, rfl⟩ kk
end C_X1_stabiliseMember
section F_X1_pointUp
variable {w : kW} {p : Program} {l : Launch} {e : Env} {s : State} {m : MethodId} {args : Array Value} {below : List Frame} {meth : Method} {c : Code}
def fX1_pointUp (x0 : Int32) (x1 : Int32) : Option Int32 :=
  some ((x0 + x1) &&& 255)
def rmX1_pointUp : Room := { frames := 0, cells := 0, slots := 0, locals := 0 }
set_option maxRecDepth 20000 in
theorem mX1_pointUp (l : Launch) (w : kW) (σ0 : kS) (x0 : Int32) (x1 : Int32) {o : Int32} (h : fX1_pointUp x0 x1 = some o) : Met l yX1_pointUp (Cond.code yX1_pointUp cX1_pointUp 2 (some .int) :: TB) rmX1_pointUp (va_Pc [.int x0, .int x1] (kP w σ0)) (kQi w o σ0) 0 0 (kA w) := by
  refine k_met (by decide +kernel) [.int x0, .int x1] (Nat.le_of_ble_eq_true rfl) (by simp [lv_args, Value.category]) ?_
  intro p e s m args below meth c K hret
  have K : kC w p s m args meth c cX1_pointUp 2 RX1 := K
  obtain ⟨r, hro⟩ : ∃ r, r = o := ⟨o, rfl⟩
  rw [← hro] at h
  have hO : ∀ z, r = z → z = o := fun z e => by rw [← e]; exact hro
  unfold fX1_pointUp at h
  refine k_iload_n K dX1_pointUp_0 0 rfl ?_
  refine k_iload_n K dX1_pointUp_1 1 rfl ?_
  refine k_iadd K dX1_pointUp_2 ?_
  refine k_sipush (v := 255) K dX1_pointUp_3 (by decide) ?_
  refine k_iand K dX1_pointUp_6 ?_
  cases h
  obtain rfl := hO _ rfl
  exact k_iret (v := (x0 + x1) &&& 255) K hret dX1_pointUp_7 (by decide) (by decide)
end F_X1_pointUp
section C_X1_pointUp
variable {w : kW} {p : Program} {l : Launch} {e : Env} {R : Room} {s : State} {m : MethodId} {args : Array Value} {below : List Frame} {meth : Method} {c : Code} {Q : State → Prop} {cc : ByteArray} {nL : Nat} {σ : kS} {pc : Nat} {lv : List (Nat × Value)} {st rest : List Value} {cells slots : Nat}
theorem cl_X1_224 (K : kC w p s m args meth c cc nL RX1) {a1 : Int32} {a2 : Int32} {r : Int32} (d : decode cc pc = .ok (.invokestatic 224, 3)) (h : fX1_pointUp a1 a2 = some r) (hR : rmX1_pointUp.frames + 1 ≤ R.frames ∧ 8 + (2 + 11) + rmX1_pointUp.locals ≤ R.locals) (hr : (rest.map fun v => v.category).sum ≤ 8) (hf : cells + 0 ≤ R.cells ∧ slots + 0 ≤ R.slots) (kk : kG w p l e R s m args below meth c Q nL σ (pc + 3) lv (.int r :: rest) (cells + 0) (slots + 0)) : kG w p l e R s m args below meth c Q nL σ pc lv (.int a2 :: .int a1 :: rest) cells slots :=
  k_callSi (As := [.int a1, .int a2]) (rest := rest) (n := 2) K d (kg_S tw_397 tw_398 tw_48 tw_399) (by decide +kernel) rfl hR hr rfl hf (mX1_pointUp l w σ a1 a2 h) ⟨rfl, rfl⟩ kk
end C_X1_pointUp
section F_X1_ownerKnownBy
variable {w : kW} {p : Program} {l : Launch} {e : Env} {s : State} {m : MethodId} {args : Array Value} {below : List Frame} {meth : Method} {c : Code}
def fX1_ownerKnownBy (σ : kS) (c1 : Nat) (x2 : Int32) : Option (Option Nat) :=
  if kd c1 = (0, 0, 8) then
    if x2 = (σ.1 c1 5) then
      some (some c1)
    else
      (fX1_successor σ c1).bind fun r3 =>
      kmn (r3) (
        some (none)
      ) fun q4 =>
        if kd q4 = (0, 0, 8) then
          if x2 = (σ.1 q4 5) then
            some (some q4)
          else
            (fX1_isBetween (σ.1 c1 5) x2 (σ.1 q4 5)).bind fun r7 =>
            if r7 = 0 then
              some (none)
            else
              some (some q4)
        else none
  else none
def rmX1_ownerKnownBy : Room := { frames := 3, cells := 0, slots := 0, locals := 64 }
set_option maxRecDepth 20000 in
theorem mX1_ownerKnownBy (l : Launch) (w : kW) (σ : kS) (c1 : Nat) (x2 : Int32) {o : (Option Nat)} (h : fX1_ownerKnownBy σ c1 x2 = some o) : Met l yX1_ownerKnownBy (Cond.code yX1_ownerKnownBy cX1_ownerKnownBy 4 (some (.object "KeyRing$Member")) :: TB) rmX1_ownerKnownBy (va_Pc [.ref (kL w 0), .ref (kL w c1), .int x2] (kP w σ)) (kQq w o σ) 0 0 (kA w) := by
  refine k_met (by decide +kernel) [.ref (kL w 0), .ref (kL w c1), .int x2] (Nat.le_of_ble_eq_true rfl) (by simp [lv_args, Value.category]) ?_
  intro p e s m args below meth c K hret
  have K : kC w p s m args meth c cX1_ownerKnownBy 4 RX1 := K
  obtain ⟨r, hro⟩ : ∃ r, r = o := ⟨o, rfl⟩
  rw [← hro] at h
  have hO : ∀ z, r = z → z = o := fun z e => by rw [← e]; exact hro
  unfold fX1_ownerKnownBy at h
  refine k_iload_n K dX1_ownerKnownBy_0 2 rfl ?_
  refine k_aload_n K dX1_ownerKnownBy_1 1 rfl ?_
  replace h := k_gd h
  obtain ⟨g1, h⟩ := h
  refine fg_X1_89 K dX1_ownerKnownBy_2 g1 ?_
  replace h := k_br h
  rcases h with ⟨b2, h⟩ | ⟨b2, h⟩
  · refine k_icmp_ne K 10 dX1_ownerKnownBy_5 (by decide) (fun q => absurd b2 q) (fun _ => ?_)
    refine k_aload_n K dX1_ownerKnownBy_8 1 rfl ?_
    cases h
    obtain rfl := hO _ rfl
    exact k_aret (v := some c1) K hret dX1_ownerKnownBy_9 (by decide) (by decide)
  · refine k_icmp_ne K 10 dX1_ownerKnownBy_5 (by decide) (fun _ => ?_) (fun q => absurd q b2)
    refine k_aload_n K dX1_ownerKnownBy_10 0 rfl ?_
    refine k_aload_n K dX1_ownerKnownBy_11 1 rfl ?_
    replace h := k_bd h
    obtain ⟨r3, hr3, h⟩ := h
    refine cl_X1_107 K dX1_ownerKnownBy_12 hr3 (by decide) (Nat.le_of_ble_eq_true rfl) (by decide) ?_
    refine k_astore_nQ (lv' := [(3, va_rf ((r3).map (kL w))), (0, .ref (kL w 0)), (1, .ref (kL w c1)), (2, .int x2)]) K dX1_ownerKnownBy_15 (by decide) rfl ?_
    refine k_aload_nQ K dX1_ownerKnownBy_16 0 rfl ?_
    replace h := k_mn h
    rcases h with ⟨hq4, h⟩ | ⟨q4, hq4, h⟩
    · subst hq4
      refine k_ifnullN K 45 dX1_ownerKnownBy_17 (by decide) ?_
      refine k_null K dX1_ownerKnownBy_45 ?_
      cases h
      obtain rfl := hO _ rfl
      exact k_aret (v := none) K hret dX1_ownerKnownBy_46 (by decide) (by decide)
    · subst hq4
      refine k_ifnull K dX1_ownerKnownBy_17 ?_
      refine k_iload_n K dX1_ownerKnownBy_20 3 rfl ?_
      refine k_aload_n K dX1_ownerKnownBy_21 0 rfl ?_
      replace h := k_gd h
      obtain ⟨g5, h⟩ := h
      refine fg_X1_89 K dX1_ownerKnownBy_22 g5 ?_
      replace h := k_br h
      rcases h with ⟨b6, h⟩ | ⟨b6, h⟩
      · refine k_icmp_eq K 43 dX1_ownerKnownBy_25 (by decide) (fun _ => ?_) (fun q => absurd b6 q)
        refine k_aload_n K dX1_ownerKnownBy_43 0 rfl ?_
        cases h
        obtain rfl := hO _ rfl
        exact k_aret (v := some q4) K hret dX1_ownerKnownBy_44 (by decide) (by decide)
      · refine k_icmp_eq K 43 dX1_ownerKnownBy_25 (by decide) (fun q => absurd q b6) (fun _ => ?_)
        refine k_aload_n K dX1_ownerKnownBy_28 2 rfl ?_
        refine fg_X1_89 K dX1_ownerKnownBy_29 g1 ?_
        refine k_iload_n K dX1_ownerKnownBy_32 3 rfl ?_
        refine k_aload_n K dX1_ownerKnownBy_33 0 rfl ?_
        refine fg_X1_89 K dX1_ownerKnownBy_34 g5 ?_
        replace h := k_bd h
        obtain ⟨r7, hr7, h⟩ := h
        refine cl_X1_241 K dX1_ownerKnownBy_37 hr7 (by decide) (Nat.le_of_ble_eq_true rfl) (by decide) ?_
        replace h := k_br h
        rcases h with ⟨b8, h⟩ | ⟨b8, h⟩
        · refine k_if_eq K 45 dX1_ownerKnownBy_40 (by decide) (fun _ => ?_) (fun q => absurd b8 q)
          refine k_null K dX1_ownerKnownBy_45 ?_
          cases h
          obtain rfl := hO _ rfl
          exact k_aret (v := none) K hret dX1_ownerKnownBy_46 (by decide) (by decide)
        · refine k_if_eq K 45 dX1_ownerKnownBy_40 (by decide) (fun q => absurd q b8) (fun _ => ?_)
          refine k_aload_n K dX1_ownerKnownBy_43 0 rfl ?_
          cases h
          obtain rfl := hO _ rfl
          exact k_aret (v := some q4) K hret dX1_ownerKnownBy_44 (by decide) (by decide)
end F_X1_ownerKnownBy
section C_X1_ownerKnownBy
variable {w : kW} {p : Program} {l : Launch} {e : Env} {R : Room} {s : State} {m : MethodId} {args : Array Value} {below : List Frame} {meth : Method} {c : Code} {Q : State → Prop} {cc : ByteArray} {nL : Nat} {σ : kS} {pc : Nat} {lv : List (Nat × Value)} {st rest : List Value} {cells slots : Nat}
theorem cl_X1_235 (K : kC w p s m args meth c cc nL RX1) {a1 : Nat} {a2 : Int32} {r : (Option Nat)} (d : decode cc pc = .ok (.invokevirtual 235, 3)) (h : fX1_ownerKnownBy σ a1 a2 = some r) (hR : rmX1_ownerKnownBy.frames + 1 ≤ R.frames ∧ 8 + (4 + 11) + rmX1_ownerKnownBy.locals ≤ R.locals) (hr : (rest.map fun v => v.category).sum ≤ 8) (hf : cells + 0 ≤ R.cells ∧ slots + 0 ≤ R.slots) (kk : kG w p l e R s m args below meth c Q nL σ (pc + 3) lv (va_rf (r.map (kL w)) :: rest) (cells + 0) (slots + 0)) : kG w p l e R s m args below meth c Q nL σ pc lv (.int a2 :: .ref (kL w a1) :: .ref (kL w 0) :: rest) cells slots :=
  k_callVq (As := [.ref (kL w a1), .int a2]) (rest := rest) (n := 2) (C := RX1) (T := TX1) K d kd_0 rfl (kg_V tw_331 tw_333 tw_8 tw_48 tw_334) rfl (by decide +kernel) rfl hR hr rfl hf (mX1_ownerKnownBy l w σ a1 a2 h) ⟨rfl, rfl⟩ kk
end C_X1_ownerKnownBy
section F_X1_lastKnownAheadOf
variable {w : kW} {p : Program} {l : Launch} {e : Env} {s : State} {m : MethodId} {args : Array Value} {below : List Frame} {meth : Method} {c : Code}
def fX1_lastKnownAheadOf_78 (c1 : Nat) (x2 : Int32) (c3 : Nat) (x4 : Int32) (σ : kS) : Option ((Nat × Int32) ⊕ Nat) :=
  some (.inl (c3, x4 + 1))
def fX1_lastKnownAheadOf_49 (c1 : Nat) (x2 : Int32) (c3 : Nat) (x4 : Int32) (t1 : Int32) (σ : kS) : Option ((Nat × Int32) ⊕ Nat) :=
  (fX1_liveAt σ t1).bind fun r1 =>
  kmn (r1) (
    fX1_lastKnownAheadOf_78 c1 x2 c3 x4 σ
  ) fun q2 =>
    if kd c3 = (0, 0, 8) then
      if kd q2 = (0, 0, 8) then
        (fX1_isBetween (σ.1 c3 5) (σ.1 q2 5) x2).bind fun r5 =>
        if r5 = 0 then
          fX1_lastKnownAheadOf_78 c1 x2 c3 x4 σ
        else
          fX1_lastKnownAheadOf_78 c1 x2 q2 x4 σ
      else none
    else none
def gX1_lastKnownAheadOf_5 (c1 : Nat) (x2 : Int32) (σ : kS) (c3 : Nat) (x4 : Int32) : Option ((Nat × Int32) ⊕ Nat) :=
  if ((σ.1 0 7) + 8) ≤ x4 then
    some (.inr (c3))
  else
    if (σ.1 0 7) ≤ x4 then
      if kd c1 = (0, 0, 8) then
        if vpi (x4 - (σ.1 0 7)) 8 then
          fX1_lastKnownAheadOf_49 c1 x2 c3 x4 (σ.1 (c1 + 1 + 1) (x4 - (σ.1 0 7)).toNatClampNeg) σ
        else none
      else none
    else
      if kd c1 = (0, 0, 8) then
        if vpi x4 4 then
          fX1_lastKnownAheadOf_49 c1 x2 c3 x4 (σ.1 (c1 + 1 + 0) x4.toNatClampNeg) σ
        else none
      else none
def fX1_lastKnownAheadOf_5 (c1 : Nat) (x2 : Int32) (σ : kS) (a : Nat × Int32) : Option ((Nat × Int32) ⊕ Nat) := gX1_lastKnownAheadOf_5 c1 x2 σ a.1 a.2
def fX1_lastKnownAheadOf (σ : kS) (c1 : Nat) (x2 : Int32) : Option Nat :=
  kit (fX1_lastKnownAheadOf_5 c1 x2 σ) 300 (c1, 0)
def rmX1_lastKnownAheadOf : Room := { frames := 2, cells := 0, slots := 0, locals := 45 }
set_option maxRecDepth 20000 in
theorem pX1_lastKnownAheadOf_78 (K : kC w p s m args meth c cX1_lastKnownAheadOf 6 RX1) (hret : meth.sig.returnType = (some (.object "KeyRing$Member"))) {c1 : Nat} {x2 : Int32} {c3 : Nat} {x4 : Int32} {σ : kS} {r : ((Nat × Int32) ⊕ Nat)} {o : Nat} (h : fX1_lastKnownAheadOf_78 c1 x2 c3 x4 σ = some r) (hL5 : ∀ z, r = .inl z → kG w p l e rmX1_lastKnownAheadOf s m args below meth c (MQ below (kQq w (some o) σ) args s 0 0 (kA w)) 6 σ 5 [(0, .ref (kL w 0)), (1, .ref (kL w c1)), (2, .int x2), (3, .ref (kL w (z.1))), (4, .int (z.2))] [] 0 0) (hO : ∀ z, r = .inr z → z = o) : kG w p l e rmX1_lastKnownAheadOf s m args below meth c (MQ below (kQq w (some o) σ) args s 0 0 (kA w)) 6 σ 78 [(0, .ref (kL w 0)), (1, .ref (kL w c1)), (2, .int x2), (3, .ref (kL w c3)), (4, .int x4)] [] 0 0 := by
  unfold fX1_lastKnownAheadOf_78 at h
  refine k_iinc (v := 1) (lv' := [(4, .int (x4 + 1)), (0, .ref (kL w 0)), (1, .ref (kL w c1)), (2, .int x2), (3, .ref (kL w c3))]) K dX1_lastKnownAheadOf_78 4 rfl (by decide) (by decide) rfl ?_
  refine k_goto K 5 dX1_lastKnownAheadOf_81 (by decide) ?_
  refine k_sub [1, 2, 3, 4, 0] rfl ?_
  cases h
  exact hL5 _ rfl
set_option maxRecDepth 20000 in
theorem pX1_lastKnownAheadOf_49 (K : kC w p s m args meth c cX1_lastKnownAheadOf 6 RX1) (hret : meth.sig.returnType = (some (.object "KeyRing$Member"))) {c1 : Nat} {x2 : Int32} {c3 : Nat} {x4 : Int32} {t1 : Int32} {σ : kS} {r : ((Nat × Int32) ⊕ Nat)} {o : Nat} (h : fX1_lastKnownAheadOf_49 c1 x2 c3 x4 t1 σ = some r) (hL5 : ∀ z, r = .inl z → kG w p l e rmX1_lastKnownAheadOf s m args below meth c (MQ below (kQq w (some o) σ) args s 0 0 (kA w)) 6 σ 5 [(0, .ref (kL w 0)), (1, .ref (kL w c1)), (2, .int x2), (3, .ref (kL w (z.1))), (4, .int (z.2))] [] 0 0) (hO : ∀ z, r = .inr z → z = o) : kG w p l e rmX1_lastKnownAheadOf s m args below meth c (MQ below (kQq w (some o) σ) args s 0 0 (kA w)) 6 σ 49 [(0, .ref (kL w 0)), (1, .ref (kL w c1)), (2, .int x2), (3, .ref (kL w c3)), (4, .int x4)] [.int t1, .ref (kL w 0)] 0 0 := by
  unfold fX1_lastKnownAheadOf_49 at h
  replace h := k_bd h
  obtain ⟨r1, hr1, h⟩ := h
  refine cl_X1_204 K dX1_lastKnownAheadOf_49 hr1 (by decide) (Nat.le_of_ble_eq_true rfl) (by decide) ?_
  refine k_astoreQ (lv' := [(5, va_rf ((r1).map (kL w))), (0, .ref (kL w 0)), (1, .ref (kL w c1)), (2, .int x2), (3, .ref (kL w c3)), (4, .int x4)]) K dX1_lastKnownAheadOf_52 (by decide) rfl ?_
  refine k_aloadQ K dX1_lastKnownAheadOf_54 0 rfl ?_
  replace h := k_mn h
  rcases h with ⟨hq2, h⟩ | ⟨q2, hq2, h⟩
  · subst hq2
    refine k_ifnullN K 78 dX1_lastKnownAheadOf_56 (by decide) ?_
    refine k_sub [1, 2, 3, 4, 5] rfl ?_
    exact pX1_lastKnownAheadOf_78 K hret h hL5 hO
  · subst hq2
    refine k_ifnull K dX1_lastKnownAheadOf_56 ?_
    refine k_aload_n K dX1_lastKnownAheadOf_59 4 rfl ?_
    replace h := k_gd h
    obtain ⟨g3, h⟩ := h
    refine fg_X1_89 K dX1_lastKnownAheadOf_60 g3 ?_
    refine k_aload K dX1_lastKnownAheadOf_63 0 rfl ?_
    replace h := k_gd h
    obtain ⟨g4, h⟩ := h
    refine fg_X1_89 K dX1_lastKnownAheadOf_65 g4 ?_
    refine k_iload_n K dX1_lastKnownAheadOf_68 3 rfl ?_
    replace h := k_bd h
    obtain ⟨r5, hr5, h⟩ := h
    refine cl_X1_241 K dX1_lastKnownAheadOf_69 hr5 (by decide) (Nat.le_of_ble_eq_true rfl) (by decide) ?_
    replace h := k_br h
    rcases h with ⟨b6, h⟩ | ⟨b6, h⟩
    · refine k_if_eq K 78 dX1_lastKnownAheadOf_72 (by decide) (fun _ => ?_) (fun q => absurd b6 q)
      refine k_sub [1, 2, 3, 4, 5] rfl ?_
      exact pX1_lastKnownAheadOf_78 K hret h hL5 hO
    · refine k_if_eq K 78 dX1_lastKnownAheadOf_72 (by decide) (fun q => absurd q b6) (fun _ => ?_)
      refine k_aload K dX1_lastKnownAheadOf_75 0 rfl ?_
      refine k_astore_n (lv' := [(3, .ref (kL w q2)), (5, .ref (kL w q2)), (0, .ref (kL w 0)), (1, .ref (kL w c1)), (2, .int x2), (4, .int x4)]) K dX1_lastKnownAheadOf_77 (by decide) rfl ?_
      refine k_sub [2, 3, 4, 0, 5] rfl ?_
      exact pX1_lastKnownAheadOf_78 K hret h hL5 hO
set_option maxRecDepth 20000 in
theorem pX1_lastKnownAheadOf_5 (K : kC w p s m args meth c cX1_lastKnownAheadOf 6 RX1) (hret : meth.sig.returnType = (some (.object "KeyRing$Member"))) {c1 : Nat} {x2 : Int32} {σ : kS} {c3 : Nat} {x4 : Int32} {r : ((Nat × Int32) ⊕ Nat)} {o : Nat} (h : gX1_lastKnownAheadOf_5 c1 x2 σ c3 x4 = some r) (hL5 : ∀ z, r = .inl z → kG w p l e rmX1_lastKnownAheadOf s m args below meth c (MQ below (kQq w (some o) σ) args s 0 0 (kA w)) 6 σ 5 [(0, .ref (kL w 0)), (1, .ref (kL w c1)), (2, .int x2), (3, .ref (kL w (z.1))), (4, .int (z.2))] [] 0 0) (hO : ∀ z, r = .inr z → z = o) : kG w p l e rmX1_lastKnownAheadOf s m args below meth c (MQ below (kQq w (some o) σ) args s 0 0 (kA w)) 6 σ 5 [(0, .ref (kL w 0)), (1, .ref (kL w c1)), (2, .int x2), (3, .ref (kL w c3)), (4, .int x4)] [] 0 0 := by
  unfold gX1_lastKnownAheadOf_5 at h
  refine k_iload K dX1_lastKnownAheadOf_5 4 rfl ?_
  refine k_aload_n K dX1_lastKnownAheadOf_7 0 rfl ?_
  refine fg_X1_30 K dX1_lastKnownAheadOf_8 ?_
  refine k_bipush (v := 8) K dX1_lastKnownAheadOf_11 (by decide) ?_
  refine k_iadd K dX1_lastKnownAheadOf_13 ?_
  replace h := k_br h
  rcases h with ⟨b1, h⟩ | ⟨b1, h⟩
  · refine k_icmp_ge K 84 dX1_lastKnownAheadOf_14 (by decide) (fun _ => ?_) (fun q => absurd b1 q)
    refine k_aload_n K dX1_lastKnownAheadOf_84 3 rfl ?_
    cases h
    obtain rfl := hO _ rfl
    exact k_aret (v := some c3) K hret dX1_lastKnownAheadOf_85 (by decide) (by decide)
  · refine k_icmp_ge K 84 dX1_lastKnownAheadOf_14 (by decide) (fun q => absurd q b1) (fun _ => ?_)
    refine k_aload_n K dX1_lastKnownAheadOf_17 0 rfl ?_
    refine k_iload K dX1_lastKnownAheadOf_18 4 rfl ?_
    refine k_aload_n K dX1_lastKnownAheadOf_20 0 rfl ?_
    refine fg_X1_30 K dX1_lastKnownAheadOf_21 ?_
    replace h := k_br h
    rcases h with ⟨b2, h⟩ | ⟨b2, h⟩
    · refine k_icmp_ge K 37 dX1_lastKnownAheadOf_24 (by decide) (fun _ => ?_) (fun q => absurd b2 q)
      refine k_aload_n K dX1_lastKnownAheadOf_37 1 rfl ?_
      replace h := k_gd h
      obtain ⟨g3, h⟩ := h
      refine fg_X1_120 K dX1_lastKnownAheadOf_38 g3 ?_
      refine k_iload K dX1_lastKnownAheadOf_41 4 rfl ?_
      refine k_aload_n K dX1_lastKnownAheadOf_43 0 rfl ?_
      refine fg_X1_30 K dX1_lastKnownAheadOf_44 ?_
      refine k_isub K dX1_lastKnownAheadOf_47 ?_
      replace h := k_gd h
      obtain ⟨g4, h⟩ := h
      refine k_iald K dX1_lastKnownAheadOf_48 (kd_m0 g3).2.1 g4 ?_
      exact pX1_lastKnownAheadOf_49 K hret h hL5 hO
    · refine k_icmp_ge K 37 dX1_lastKnownAheadOf_24 (by decide) (fun q => absurd q b2) (fun _ => ?_)
      refine k_aload_n K dX1_lastKnownAheadOf_27 1 rfl ?_
      replace h := k_gd h
      obtain ⟨g5, h⟩ := h
      refine fg_X1_68 K dX1_lastKnownAheadOf_28 g5 ?_
      refine k_iload K dX1_lastKnownAheadOf_31 4 rfl ?_
      replace h := k_gd h
      obtain ⟨g6, h⟩ := h
      refine k_iald K dX1_lastKnownAheadOf_33 (kd_m0 g5).1 g6 ?_
      refine k_goto K 49 dX1_lastKnownAheadOf_34 (by decide) ?_
      exact pX1_lastKnownAheadOf_49 K hret h hL5 hO
set_option maxRecDepth 20000 in
theorem lX1_lastKnownAheadOf_5 (K : kC w p s m args meth c cX1_lastKnownAheadOf 6 RX1) (hret : meth.sig.returnType = (some (.object "KeyRing$Member"))) {c1 : Nat} {x2 : Int32} {σ : kS} {n : Nat} {a : Nat × Int32} {r : Nat} {o : Nat} (h : kit (fX1_lastKnownAheadOf_5 c1 x2 σ) n a = some r) (hO : ∀ z, r = z → z = o) : kG w p l e rmX1_lastKnownAheadOf s m args below meth c (MQ below (kQq w (some o) σ) args s 0 0 (kA w)) 6 σ 5 [(0, .ref (kL w 0)), (1, .ref (kL w c1)), (2, .int x2), (3, .ref (kL w (a.1))), (4, .int (a.2))] [] 0 0 :=
  kit_ind (body := fX1_lastKnownAheadOf_5 c1 x2 σ) (fun a r => (∀ z, r = z → z = o) → kG w p l e rmX1_lastKnownAheadOf s m args below meth c (MQ below (kQq w (some o) σ) args s 0 0 (kA w)) 6 σ 5 [(0, .ref (kL w 0)), (1, .ref (kL w c1)), (2, .int x2), (3, .ref (kL w (a.1))), (4, .int (a.2))] [] 0 0) (fun a a2 r hb ih hO => pX1_lastKnownAheadOf_5 K hret hb (fun z e => by cases e; exact ih hO) (fun _ e => by cases e)) (fun a r hb hO => pX1_lastKnownAheadOf_5 K hret hb (fun _ e => by cases e) (fun z e => hO z (by cases e; rfl))) n a r h hO
set_option maxRecDepth 20000 in
theorem mX1_lastKnownAheadOf (l : Launch) (w : kW) (σ : kS) (c1 : Nat) (x2 : Int32) {o : Nat} (h : fX1_lastKnownAheadOf σ c1 x2 = some o) : Met l yX1_lastKnownAheadOf (Cond.code yX1_lastKnownAheadOf cX1_lastKnownAheadOf 6 (some (.object "KeyRing$Member")) :: TB) rmX1_lastKnownAheadOf (va_Pc [.ref (kL w 0), .ref (kL w c1), .int x2] (kP w σ)) (kQq w (some o) σ) 0 0 (kA w) := by
  refine k_met (by decide +kernel) [.ref (kL w 0), .ref (kL w c1), .int x2] (Nat.le_of_ble_eq_true rfl) (by simp [lv_args, Value.category]) ?_
  intro p e s m args below meth c K hret
  have K : kC w p s m args meth c cX1_lastKnownAheadOf 6 RX1 := K
  obtain ⟨r, hro⟩ : ∃ r, r = o := ⟨o, rfl⟩
  rw [← hro] at h
  have hO : ∀ z, r = z → z = o := fun z e => by rw [← e]; exact hro
  unfold fX1_lastKnownAheadOf at h
  refine k_aload_n K dX1_lastKnownAheadOf_0 1 rfl ?_
  refine k_astore_n (lv' := [(3, .ref (kL w c1)), (0, .ref (kL w 0)), (1, .ref (kL w c1)), (2, .int x2)]) K dX1_lastKnownAheadOf_1 (by decide) rfl ?_
  refine k_iconst (v := 0) K dX1_lastKnownAheadOf_2 (by decide) ?_
  refine k_istore (lv' := [(4, .int 0), (3, .ref (kL w c1)), (0, .ref (kL w 0)), (1, .ref (kL w c1)), (2, .int x2)]) K dX1_lastKnownAheadOf_3 (by decide) rfl ?_
  refine k_sub [2, 3, 4, 1, 0] rfl ?_
  exact lX1_lastKnownAheadOf_5 K hret h hO
end F_X1_lastKnownAheadOf
section C_X1_lastKnownAheadOf
variable {w : kW} {p : Program} {l : Launch} {e : Env} {R : Room} {s : State} {m : MethodId} {args : Array Value} {below : List Frame} {meth : Method} {c : Code} {Q : State → Prop} {cc : ByteArray} {nL : Nat} {σ : kS} {pc : Nat} {lv : List (Nat × Value)} {st rest : List Value} {cells slots : Nat}
theorem cl_X1_238 (K : kC w p s m args meth c cc nL RX1) {a1 : Nat} {a2 : Int32} {r : Nat} (d : decode cc pc = .ok (.invokevirtual 238, 3)) (h : fX1_lastKnownAheadOf σ a1 a2 = some r) (hR : rmX1_lastKnownAheadOf.frames + 1 ≤ R.frames ∧ 8 + (6 + 11) + rmX1_lastKnownAheadOf.locals ≤ R.locals) (hr : (rest.map fun v => v.category).sum ≤ 8) (hf : cells + 0 ≤ R.cells ∧ slots + 0 ≤ R.slots) (kk : kG w p l e R s m args below meth c Q nL σ (pc + 3) lv (.ref (kL w r) :: rest) (cells + 0) (slots + 0)) : kG w p l e R s m args below meth c Q nL σ pc lv (.int a2 :: .ref (kL w a1) :: .ref (kL w 0) :: rest) cells slots :=
  k_callVq (As := [.ref (kL w a1), .int a2]) (rest := rest) (n := 2) (C := RX1) (T := TX1) K d kd_0 rfl (kg_V tw_345 tw_347 tw_10 tw_48 tw_348) rfl (by decide +kernel) rfl hR hr rfl hf (mX1_lastKnownAheadOf l w σ a1 a2 h) ⟨rfl, rfl⟩ kk
end C_X1_lastKnownAheadOf
section F_X1_lookFor
variable {w : kW} {p : Program} {l : Launch} {e : Env} {s : State} {m : MethodId} {args : Array Value} {below : List Frame} {meth : Method} {c : Code}
def gX1_lookFor_10 (x2 : Int32) (c3 : Nat) (x4 : Int32) (σ : kS) : Option ((Nat × Int32 × kS) ⊕ (Nat × kS)) :=
  if 20 ≤ x4 then
    some (.inr ((c3, σ)))
  else
    (fX1_ownerKnownBy σ c3 x2).bind fun r2 =>
    kmn (r2) (
      (fX1_lastKnownAheadOf σ c3 x2).bind fun r4 =>
      if kd r4 = (0, 0, 8) then
        if vpi x4 20 then
          some (.inl (r4, x4 + 1, sI (sI (sI σ 124 x4.toNatClampNeg (σ.1 r4 5)) 0 4 (((sI σ 124 x4.toNatClampNeg (σ.1 r4 5)).1 0 4) + 1)) 0 11 (((sI (sI σ 124 x4.toNatClampNeg (σ.1 r4 5)) 0 4 (((sI σ 124 x4.toNatClampNeg (σ.1 r4 5)).1 0 4) + 1)).1 0 11) + 1)))
        else none
      else none
    ) fun q3 =>
      some (.inr ((q3, σ)))
def fX1_lookFor_10 (x2 : Int32) (a : Nat × Int32 × kS) : Option ((Nat × Int32 × kS) ⊕ (Nat × kS)) := gX1_lookFor_10 x2 a.1 a.2.1 a.2.2
def fX1_lookFor (σ : kS) (c1 : Nat) (x2 : Int32) : Option (Nat × kS) :=
  kit (fX1_lookFor_10 x2) 300 (c1, 0, sI σ 0 4 0)
def rmX1_lookFor : Room := { frames := 4, cells := 0, slots := 0, locals := 87 }
set_option maxRecDepth 20000 in
theorem pX1_lookFor_10 (K : kC w p s m args meth c cX1_lookFor 6 RX1) (hret : meth.sig.returnType = (some (.object "KeyRing$Member"))) {x2 : Int32} {c3 : Nat} {x4 : Int32} {σ : kS} {r : ((Nat × Int32 × kS) ⊕ (Nat × kS))} {o : (Nat × kS)} (h : gX1_lookFor_10 x2 c3 x4 σ = some r) (hL10 : ∀ z, r = .inl z → kG w p l e rmX1_lookFor s m args below meth c (MQ below (kQq w (some o.1) o.2) args s 0 0 (kA w)) 6 z.2.2 10 [(0, .ref (kL w 0)), (2, .int x2), (3, .ref (kL w (z.1))), (4, .int (z.2.1))] [] 0 0) (hO : ∀ z, r = .inr z → z = o) : kG w p l e rmX1_lookFor s m args below meth c (MQ below (kQq w (some o.1) o.2) args s 0 0 (kA w)) 6 σ 10 [(0, .ref (kL w 0)), (2, .int x2), (3, .ref (kL w c3)), (4, .int x4)] [] 0 0 := by
  unfold gX1_lookFor_10 at h
  refine k_iload K dX1_lookFor_10 3 rfl ?_
  refine k_bipush (v := 20) K dX1_lookFor_12 (by decide) ?_
  replace h := k_br h
  rcases h with ⟨b1, h⟩ | ⟨b1, h⟩
  · refine k_icmp_ge K 77 dX1_lookFor_14 (by decide) (fun _ => ?_) (fun q => absurd b1 q)
    refine k_aload_n K dX1_lookFor_77 2 rfl ?_
    cases h
    obtain rfl := hO _ rfl
    exact k_aret (v := some c3) K hret dX1_lookFor_78 (by decide) (by decide)
  · refine k_icmp_ge K 77 dX1_lookFor_14 (by decide) (fun q => absurd q b1) (fun _ => ?_)
    refine k_aload_n K dX1_lookFor_17 0 rfl ?_
    refine k_aload_n K dX1_lookFor_18 2 rfl ?_
    refine k_iload_n K dX1_lookFor_19 1 rfl ?_
    replace h := k_bd h
    obtain ⟨r2, hr2, h⟩ := h
    refine cl_X1_235 K dX1_lookFor_20 hr2 (by decide) (Nat.le_of_ble_eq_true rfl) (by decide) ?_
    refine k_astoreQ (lv' := [(5, va_rf ((r2).map (kL w))), (0, .ref (kL w 0)), (2, .int x2), (3, .ref (kL w c3)), (4, .int x4)]) K dX1_lookFor_23 (by decide) rfl ?_
    refine k_aloadQ K dX1_lookFor_25 0 rfl ?_
    replace h := k_mn h
    rcases h with ⟨hq3, h⟩ | ⟨q3, hq3, h⟩
    · subst hq3
      refine k_ifnullN K 33 dX1_lookFor_27 (by decide) ?_
      refine k_aload_n K dX1_lookFor_33 1 rfl ?_
      refine k_aload_n K dX1_lookFor_34 3 rfl ?_
      refine k_iload_n K dX1_lookFor_35 2 rfl ?_
      replace h := k_bd h
      obtain ⟨r4, hr4, h⟩ := h
      refine cl_X1_238 K dX1_lookFor_36 hr4 (by decide) (Nat.le_of_ble_eq_true rfl) (by decide) ?_
      refine k_astore_n (lv' := [(3, .ref (kL w r4)), (5, .null), (0, .ref (kL w 0)), (2, .int x2), (4, .int x4)]) K dX1_lookFor_39 (by decide) rfl ?_
      refine k_aload_n K dX1_lookFor_40 2 rfl ?_
      refine fg_X1_23 K dX1_lookFor_41 ?_
      refine k_iload K dX1_lookFor_44 4 rfl ?_
      refine k_aload_n K dX1_lookFor_46 0 rfl ?_
      replace h := k_gd h
      obtain ⟨g5, h⟩ := h
      refine fg_X1_89 K dX1_lookFor_47 g5 ?_
      replace h := k_gd h
      obtain ⟨g6, h⟩ := h
      refine k_iast K dX1_lookFor_50 kd_124 g6 ?_
      refine k_aload_n K dX1_lookFor_51 2 rfl ?_
      refine k_dup K dX1_lookFor_52 rfl ?_
      refine fg_X1_143 K dX1_lookFor_53 ?_
      refine k_iconst (v := 1) K dX1_lookFor_56 (by decide) ?_
      refine k_iadd K dX1_lookFor_57 ?_
      refine fp_X1_143 K dX1_lookFor_58 ?_
      refine k_aload_n K dX1_lookFor_61 2 rfl ?_
      refine k_dup K dX1_lookFor_62 rfl ?_
      refine fg_X1_199 K dX1_lookFor_63 ?_
      refine k_iconst (v := 1) K dX1_lookFor_66 (by decide) ?_
      refine k_iadd K dX1_lookFor_67 ?_
      refine fp_X1_199 K dX1_lookFor_68 ?_
      refine k_iinc (v := 1) (lv' := [(4, .int (x4 + 1)), (3, .ref (kL w r4)), (5, .null), (0, .ref (kL w 0)), (2, .int x2)]) K dX1_lookFor_71 4 rfl (by decide) (by decide) rfl ?_
      refine k_goto K 10 dX1_lookFor_74 (by decide) ?_
      refine k_sub [3, 4, 1, 0] rfl ?_
      cases h
      exact hL10 _ rfl
    · subst hq3
      refine k_ifnull K dX1_lookFor_27 ?_
      refine k_aload K dX1_lookFor_30 0 rfl ?_
      cases h
      obtain rfl := hO _ rfl
      exact k_aret (v := some q3) K hret dX1_lookFor_32 (by decide) (by decide)
set_option maxRecDepth 20000 in
theorem lX1_lookFor_10 (K : kC w p s m args meth c cX1_lookFor 6 RX1) (hret : meth.sig.returnType = (some (.object "KeyRing$Member"))) {x2 : Int32} {n : Nat} {a : Nat × Int32 × kS} {r : (Nat × kS)} {o : (Nat × kS)} (h : kit (fX1_lookFor_10 x2) n a = some r) (hO : ∀ z, r = z → z = o) : kG w p l e rmX1_lookFor s m args below meth c (MQ below (kQq w (some o.1) o.2) args s 0 0 (kA w)) 6 a.2.2 10 [(0, .ref (kL w 0)), (2, .int x2), (3, .ref (kL w (a.1))), (4, .int (a.2.1))] [] 0 0 :=
  kit_ind (body := fX1_lookFor_10 x2) (fun a r => (∀ z, r = z → z = o) → kG w p l e rmX1_lookFor s m args below meth c (MQ below (kQq w (some o.1) o.2) args s 0 0 (kA w)) 6 a.2.2 10 [(0, .ref (kL w 0)), (2, .int x2), (3, .ref (kL w (a.1))), (4, .int (a.2.1))] [] 0 0) (fun a a2 r hb ih hO => pX1_lookFor_10 K hret hb (fun z e => by cases e; exact ih hO) (fun _ e => by cases e)) (fun a r hb hO => pX1_lookFor_10 K hret hb (fun _ e => by cases e) (fun z e => hO z (by cases e; rfl))) n a r h hO
set_option maxRecDepth 20000 in
theorem mX1_lookFor (l : Launch) (w : kW) (σ : kS) (c1 : Nat) (x2 : Int32) {o : (Nat × kS)} (h : fX1_lookFor σ c1 x2 = some o) : Met l yX1_lookFor (Cond.code yX1_lookFor cX1_lookFor 6 (some (.object "KeyRing$Member")) :: TB) rmX1_lookFor (va_Pc [.ref (kL w 0), .ref (kL w c1), .int x2] (kP w σ)) (kQq w (some o.1) o.2) 0 0 (kA w) := by
  refine k_met (by decide +kernel) [.ref (kL w 0), .ref (kL w c1), .int x2] (Nat.le_of_ble_eq_true rfl) (by simp [lv_args, Value.category]) ?_
  intro p e s m args below meth c K hret
  have K : kC w p s m args meth c cX1_lookFor 6 RX1 := K
  obtain ⟨r, hro⟩ : ∃ r, r = o := ⟨o, rfl⟩
  rw [← hro] at h
  have hO : ∀ z, r = z → z = o := fun z e => by rw [← e]; exact hro
  unfold fX1_lookFor at h
  refine k_aload_n K dX1_lookFor_0 1 rfl ?_
  refine k_astore_n (lv' := [(3, .ref (kL w c1)), (0, .ref (kL w 0)), (1, .ref (kL w c1)), (2, .int x2)]) K dX1_lookFor_1 (by decide) rfl ?_
  refine k_aload_n K dX1_lookFor_2 1 rfl ?_
  refine k_iconst (v := 0) K dX1_lookFor_3 (by decide) ?_
  refine fp_X1_143 K dX1_lookFor_4 ?_
  refine k_iconst (v := 0) K dX1_lookFor_7 (by decide) ?_
  refine k_istore (lv' := [(4, .int 0), (3, .ref (kL w c1)), (0, .ref (kL w 0)), (1, .ref (kL w c1)), (2, .int x2)]) K dX1_lookFor_8 (by decide) rfl ?_
  refine k_sub [2, 4, 1, 0] rfl ?_
  exact lX1_lookFor_10 K hret h hO
end F_X1_lookFor
section C_X1_lookFor
variable {w : kW} {p : Program} {l : Launch} {e : Env} {R : Room} {s : State} {m : MethodId} {args : Array Value} {below : List Frame} {meth : Method} {c : Code} {Q : State → Prop} {cc : ByteArray} {nL : Nat} {σ : kS} {pc : Nat} {lv : List (Nat × Value)} {st rest : List Value} {cells slots : Nat}
theorem cl_X1_81 (K : kC w p s m args meth c cc nL RX1) {a1 : Nat} {a2 : Int32} {r : (Nat × kS)} (d : decode cc pc = .ok (.invokevirtual 81, 3)) (h : fX1_lookFor σ a1 a2 = some r) (hR : rmX1_lookFor.frames + 1 ≤ R.frames ∧ 8 + (6 + 11) + rmX1_lookFor.locals ≤ R.locals) (hr : (rest.map fun v => v.category).sum ≤ 8) (hf : cells + 0 ≤ R.cells ∧ slots + 0 ≤ R.slots) (kk : kG w p l e R s m args below meth c Q nL r.2 (pc + 3) lv (.ref (kL w r.1) :: rest) (cells + 0) (slots + 0)) : kG w p l e R s m args below meth c Q nL σ pc lv (.int a2 :: .ref (kL w a1) :: .ref (kL w 0) :: rest) cells slots :=
  k_callVq (As := [.ref (kL w a1), .int a2]) (rest := rest) (n := 2) (C := RX1) (T := TX1) K d kd_0 rfl (kg_V tw_327 tw_329 tw_7 tw_48 tw_330) rfl (by decide +kernel) rfl hR hr rfl hf (mX1_lookFor l w σ a1 a2 h) ⟨rfl, rfl⟩ kk
end C_X1_lookFor
section F_X1_mendFinger
variable {w : kW} {p : Program} {l : Launch} {e : Env} {s : State} {m : MethodId} {args : Array Value} {below : List Frame} {meth : Method} {c : Code}
def fX1_mendFinger (σ : kS) (c1 : Nat) (x2 : Int32) : Option kS :=
  if kd c1 = (0, 0, 8) then
    (fX1_pointUp (σ.1 c1 5) (1 <<< (x2 &&& 31))).bind fun r2 =>
    (fX1_lookFor σ c1 r2).bind fun r3 =>
    if kd r3.1 = (0, 0, 8) then
      if vpi x2 8 then
        some (sI r3.2 (c1 + 1 + 1) x2.toNatClampNeg ((r3.2).1 r3.1 5))
      else none
    else none
  else none
def rmX1_mendFinger : Room := { frames := 5, cells := 0, slots := 0, locals := 112 }
set_option maxRecDepth 20000 in
theorem mX1_mendFinger (l : Launch) (w : kW) (σ : kS) (c1 : Nat) (x2 : Int32) {o : kS} (h : fX1_mendFinger σ c1 x2 = some o) : Met l yX1_mendFinger (Cond.code yX1_mendFinger cX1_mendFinger 3 none :: TB) rmX1_mendFinger (va_Pc [.ref (kL w 0), .ref (kL w c1), .int x2] (kP w σ)) (kQv w o) 0 0 (kA w) := by
  refine k_met (by decide +kernel) [.ref (kL w 0), .ref (kL w c1), .int x2] (Nat.le_of_ble_eq_true rfl) (by simp [lv_args, Value.category]) ?_
  intro p e s m args below meth c K hret
  have K : kC w p s m args meth c cX1_mendFinger 3 RX1 := K
  obtain ⟨r, hro⟩ : ∃ r, r = o := ⟨o, rfl⟩
  rw [← hro] at h
  have hO : ∀ z, r = z → z = o := fun z e => by rw [← e]; exact hro
  unfold fX1_mendFinger at h
  refine k_aload_n K dX1_mendFinger_0 1 rfl ?_
  replace h := k_gd h
  obtain ⟨g1, h⟩ := h
  refine fg_X1_120 K dX1_mendFinger_1 g1 ?_
  refine k_iload_n K dX1_mendFinger_4 2 rfl ?_
  refine k_aload_n K dX1_mendFinger_5 0 rfl ?_
  refine k_aload_n K dX1_mendFinger_6 1 rfl ?_
  refine k_aload_n K dX1_mendFinger_7 1 rfl ?_
  refine fg_X1_89 K dX1_mendFinger_8 g1 ?_
  refine k_iconst (v := 1) K dX1_mendFinger_11 (by decide) ?_
  refine k_iload_n K dX1_mendFinger_12 2 rfl ?_
  refine k_ishl K dX1_mendFinger_13 ?_
  replace h := k_bd h
  obtain ⟨r2, hr2, h⟩ := h
  refine cl_X1_224 K dX1_mendFinger_14 hr2 (by decide) (Nat.le_of_ble_eq_true rfl) (by decide) ?_
  replace h := k_bd h
  obtain ⟨r3, hr3, h⟩ := h
  refine cl_X1_81 K dX1_mendFinger_17 hr3 (by decide) (Nat.le_of_ble_eq_true rfl) (by decide) ?_
  replace h := k_gd h
  obtain ⟨g4, h⟩ := h
  refine fg_X1_89 K dX1_mendFinger_20 g4 ?_
  replace h := k_gd h
  obtain ⟨g5, h⟩ := h
  refine k_iast K dX1_mendFinger_23 (kd_m0 g1).2.1 g5 ?_
  cases h
  obtain rfl := hO _ rfl
  exact k_vret K hret dX1_mendFinger_24 (by decide) (by decide)
end F_X1_mendFinger
section C_X1_mendFinger
variable {w : kW} {p : Program} {l : Launch} {e : Env} {R : Room} {s : State} {m : MethodId} {args : Array Value} {below : List Frame} {meth : Method} {c : Code} {Q : State → Prop} {cc : ByteArray} {nL : Nat} {σ : kS} {pc : Nat} {lv : List (Nat × Value)} {st rest : List Value} {cells slots : Nat}
theorem cl_X1_116 (K : kC w p s m args meth c cc nL RX1) {a1 : Nat} {a2 : Int32} {r : kS} (d : decode cc pc = .ok (.invokevirtual 116, 3)) (h : fX1_mendFinger σ a1 a2 = some r) (hR : rmX1_mendFinger.frames + 1 ≤ R.frames ∧ 8 + (3 + 11) + rmX1_mendFinger.locals ≤ R.locals) (hr : (rest.map fun v => v.category).sum ≤ 8) (hf : cells + 0 ≤ R.cells ∧ slots + 0 ≤ R.slots) (kk : kG w p l e R s m args below meth c Q nL r (pc + 3) lv (rest) (cells + 0) (slots + 0)) : kG w p l e R s m args below meth c Q nL σ pc lv (.int a2 :: .ref (kL w a1) :: .ref (kL w 0) :: rest) cells slots :=
  k_callVv (As := [.ref (kL w a1), .int a2]) (rest := rest) (n := 2) (C := RX1) (T := TX1) K d kd_0 rfl (kg_V tw_393 tw_395 tw_16 tw_48 tw_396) rfl (by decide +kernel) rfl hR hr rfl hf (mX1_mendFinger l w σ a1 a2 h) ⟨rfl, rfl⟩ kk
end C_X1_mendFinger
section F_X1_pointOfKey
variable {w : kW} {p : Program} {l : Launch} {e : Env} {s : State} {m : MethodId} {args : Array Value} {below : List Frame} {meth : Method} {c : Code}
def fX1_pointOfKey (x0 : Int32) : Option Int32 :=
  (fX1_pointUp (x0 * 61) 17).bind fun r1 =>
  some (r1)
def rmX1_pointOfKey : Room := { frames := 1, cells := 0, slots := 0, locals := 21 }
set_option maxRecDepth 20000 in
theorem mX1_pointOfKey (l : Launch) (w : kW) (σ0 : kS) (x0 : Int32) {o : Int32} (h : fX1_pointOfKey x0 = some o) : Met l yX1_pointOfKey (Cond.code yX1_pointOfKey cX1_pointOfKey 1 (some .int) :: TB) rmX1_pointOfKey (va_Pc [.int x0] (kP w σ0)) (kQi w o σ0) 0 0 (kA w) := by
  refine k_met (by decide +kernel) [.int x0] (Nat.le_of_ble_eq_true rfl) (by simp [lv_args, Value.category]) ?_
  intro p e s m args below meth c K hret
  have K : kC w p s m args meth c cX1_pointOfKey 1 RX1 := K
  obtain ⟨r, hro⟩ : ∃ r, r = o := ⟨o, rfl⟩
  rw [← hro] at h
  have hO : ∀ z, r = z → z = o := fun z e => by rw [← e]; exact hro
  unfold fX1_pointOfKey at h
  refine k_iload_n K dX1_pointOfKey_0 0 rfl ?_
  refine k_bipush (v := 61) K dX1_pointOfKey_1 (by decide) ?_
  refine k_imul K dX1_pointOfKey_3 ?_
  refine k_bipush (v := 17) K dX1_pointOfKey_4 (by decide) ?_
  replace h := k_bd h
  obtain ⟨r1, hr1, h⟩ := h
  refine cl_X1_224 K dX1_pointOfKey_6 hr1 (by decide) (Nat.le_of_ble_eq_true rfl) (by decide) ?_
  cases h
  obtain rfl := hO _ rfl
  exact k_iret K hret dX1_pointOfKey_9 (by decide) (by decide)
end F_X1_pointOfKey
section C_X1_pointOfKey
variable {w : kW} {p : Program} {l : Launch} {e : Env} {R : Room} {s : State} {m : MethodId} {args : Array Value} {below : List Frame} {meth : Method} {c : Code} {Q : State → Prop} {cc : ByteArray} {nL : Nat} {σ : kS} {pc : Nat} {lv : List (Nat × Value)} {st rest : List Value} {cells slots : Nat}
theorem cl_X1_156 (K : kC w p s m args meth c cc nL RX1) {a1 : Int32} {r : Int32} (d : decode cc pc = .ok (.invokestatic 156, 3)) (h : fX1_pointOfKey a1 = some r) (hR : rmX1_pointOfKey.frames + 1 ≤ R.frames ∧ 8 + (1 + 11) + rmX1_pointOfKey.locals ≤ R.locals) (hr : (rest.map fun v => v.category).sum ≤ 8) (hf : cells + 0 ≤ R.cells ∧ slots + 0 ≤ R.slots) (kk : kG w p l e R s m args below meth c Q nL σ (pc + 3) lv (.int r :: rest) (cells + 0) (slots + 0)) : kG w p l e R s m args below meth c Q nL σ pc lv (.int a1 :: rest) cells slots :=
  k_callSi (As := [.int a1]) (rest := rest) (n := 1) K d (kg_S tw_414 tw_415 tw_48 tw_416) (by decide +kernel) rfl hR hr rfl hf (mX1_pointOfKey l w σ a1 h) ⟨rfl, rfl⟩ kk
end C_X1_pointOfKey
section F_X1_isInCare
variable {w : kW} {p : Program} {l : Launch} {e : Env} {s : State} {m : MethodId} {args : Array Value} {below : List Frame} {meth : Method} {c : Code}
def fX1_isInCare_28 (σ : kS) : Option Int32 :=
  some (1)
def fX1_isInCare (σ : kS) (c0 : Nat) (c1 : Nat) (x2 : Int32) : Option Int32 :=
  (fX1_pointOfKey x2).bind fun r1 =>
  if kd c0 = (0, 0, 8) then
    if r1 = (σ.1 c0 5) then
      fX1_isInCare_28 σ
    else
      if kd c1 = (0, 0, 8) then
        (fX1_isBetween (σ.1 c1 5) r1 (σ.1 c0 5)).bind fun r5 =>
        if r5 = 0 then
          some (0)
        else
          fX1_isInCare_28 σ
      else none
  else none
def rmX1_isInCare : Room := { frames := 2, cells := 0, slots := 0, locals := 45 }
set_option maxRecDepth 20000 in
theorem pX1_isInCare_28 (K : kC w p s m args meth c cX1_isInCare 4 RX1) (hret : meth.sig.returnType = (some .boolean)) {σ : kS} {r : Int32} {o : Int32} (h : fX1_isInCare_28 σ = some r) (hO : ∀ z, r = z → z = o) : kG w p l e rmX1_isInCare s m args below meth c (MQ below (kQi w o σ) args s 0 0 (kA w)) 4 σ 28 [] [] 0 0 := by
  unfold fX1_isInCare_28 at h
  refine k_iconst (v := 1) K dX1_isInCare_28 (by decide) ?_
  refine k_goto K 33 dX1_isInCare_29 (by decide) ?_
  cases h
  obtain rfl := hO _ rfl
  exact k_zret (v := 1) K hret (by decide) dX1_isInCare_33 (by decide) (by decide)
set_option maxRecDepth 20000 in
theorem mX1_isInCare (l : Launch) (w : kW) (σ : kS) (c0 : Nat) (c1 : Nat) (x2 : Int32) {o : Int32} (h : fX1_isInCare σ c0 c1 x2 = some o) : Met l yX1_isInCare (Cond.code yX1_isInCare cX1_isInCare 4 (some .boolean) :: TB) rmX1_isInCare (va_Pc [.ref (kL w c0), .ref (kL w c1), .int x2] (kP w σ)) (kQi w o σ) 0 0 (kA w) := by
  refine k_met (by decide +kernel) [.ref (kL w c0), .ref (kL w c1), .int x2] (Nat.le_of_ble_eq_true rfl) (by simp [lv_args, Value.category]) ?_
  intro p e s m args below meth c K hret
  have K : kC w p s m args meth c cX1_isInCare 4 RX1 := K
  obtain ⟨r, hro⟩ : ∃ r, r = o := ⟨o, rfl⟩
  rw [← hro] at h
  have hO : ∀ z, r = z → z = o := fun z e => by rw [← e]; exact hro
  unfold fX1_isInCare at h
  refine k_iload_n K dX1_isInCare_0 2 rfl ?_
  replace h := k_bd h
  obtain ⟨r1, hr1, h⟩ := h
  refine cl_X1_156 K dX1_isInCare_1 hr1 (by decide) (Nat.le_of_ble_eq_true rfl) (by decide) ?_
  refine k_istore_n (lv' := [(3, .int r1), (0, .ref (kL w c0)), (1, .ref (kL w c1)), (2, .int x2)]) K dX1_isInCare_4 (by decide) rfl ?_
  refine k_iload_n K dX1_isInCare_5 0 rfl ?_
  refine k_aload_n K dX1_isInCare_6 1 rfl ?_
  replace h := k_gd h
  obtain ⟨g2, h⟩ := h
  refine fg_X1_89 K dX1_isInCare_7 g2 ?_
  replace h := k_br h
  rcases h with ⟨b3, h⟩ | ⟨b3, h⟩
  · refine k_icmp_eq K 28 dX1_isInCare_10 (by decide) (fun _ => ?_) (fun q => absurd b3 q)
    refine k_sub [] rfl ?_
    exact pX1_isInCare_28 K hret h hO
  · refine k_icmp_eq K 28 dX1_isInCare_10 (by decide) (fun q => absurd q b3) (fun _ => ?_)
    refine k_aload_n K dX1_isInCare_13 2 rfl ?_
    replace h := k_gd h
    obtain ⟨g4, h⟩ := h
    refine fg_X1_89 K dX1_isInCare_14 g4 ?_
    refine k_iload_n K dX1_isInCare_17 0 rfl ?_
    refine k_aload_n K dX1_isInCare_18 1 rfl ?_
    refine fg_X1_89 K dX1_isInCare_19 g2 ?_
    replace h := k_bd h
    obtain ⟨r5, hr5, h⟩ := h
    refine cl_X1_241 K dX1_isInCare_22 hr5 (by decide) (Nat.le_of_ble_eq_true rfl) (by decide) ?_
    replace h := k_br h
    rcases h with ⟨b6, h⟩ | ⟨b6, h⟩
    · refine k_if_eq K 32 dX1_isInCare_25 (by decide) (fun _ => ?_) (fun q => absurd b6 q)
      refine k_iconst (v := 0) K dX1_isInCare_32 (by decide) ?_
      cases h
      obtain rfl := hO _ rfl
      exact k_zret (v := 0) K hret (by decide) dX1_isInCare_33 (by decide) (by decide)
    · refine k_if_eq K 32 dX1_isInCare_25 (by decide) (fun q => absurd q b6) (fun _ => ?_)
      refine k_sub [] rfl ?_
      exact pX1_isInCare_28 K hret h hO
end F_X1_isInCare
section C_X1_isInCare
variable {w : kW} {p : Program} {l : Launch} {e : Env} {R : Room} {s : State} {m : MethodId} {args : Array Value} {below : List Frame} {meth : Method} {c : Code} {Q : State → Prop} {cc : ByteArray} {nL : Nat} {σ : kS} {pc : Nat} {lv : List (Nat × Value)} {st rest : List Value} {cells slots : Nat}
theorem cl_X1_251 (K : kC w p s m args meth c cc nL RX1) {a1 : Nat} {a2 : Nat} {a3 : Int32} {r : Int32} (d : decode cc pc = .ok (.invokestatic 251, 3)) (h : fX1_isInCare σ a1 a2 a3 = some r) (hR : rmX1_isInCare.frames + 1 ≤ R.frames ∧ 8 + (4 + 11) + rmX1_isInCare.locals ≤ R.locals) (hr : (rest.map fun v => v.category).sum ≤ 8) (hf : cells + 0 ≤ R.cells ∧ slots + 0 ≤ R.slots) (kk : kG w p l e R s m args below meth c Q nL σ (pc + 3) lv (.int r :: rest) (cells + 0) (slots + 0)) : kG w p l e R s m args below meth c Q nL σ pc lv (.int a3 :: .ref (kL w a2) :: .ref (kL w a1) :: rest) cells slots :=
  k_callSi (As := [.ref (kL w a1), .ref (kL w a2), .int a3]) (rest := rest) (n := 3) K d (kg_S tw_411 tw_412 tw_48 tw_413) (by decide +kernel) rfl hR hr rfl hf (mX1_isInCare l w σ a1 a2 a3 h) ⟨rfl, rfl⟩ kk
end C_X1_isInCare
section F_X1_isHigher
variable {w : kW} {p : Program} {l : Launch} {e : Env} {s : State} {m : MethodId} {args : Array Value} {below : List Frame} {meth : Method} {c : Code}
def fX1_isHigher (σ : kS) (c0 : Nat) (c1 : Nat) (x2 : Int32) : Option Int32 :=
  if kd c0 = (0, 0, 8) then
    if vpi x2 64 then
      if kd c1 = (0, 0, 8) then
        if (σ.1 (c0 + 1 + 2) x2.toNatClampNeg) = (σ.1 (c1 + 1 + 2) x2.toNatClampNeg) then
          if (σ.1 (c0 + 1 + 3) x2.toNatClampNeg) ≤ (σ.1 (c1 + 1 + 3) x2.toNatClampNeg) then
            some (0)
          else
            some (1)
        else
          if (σ.1 (c0 + 1 + 2) x2.toNatClampNeg) ≤ (σ.1 (c1 + 1 + 2) x2.toNatClampNeg) then
            some (0)
          else
            some (1)
      else none
    else none
  else none
def rmX1_isHigher : Room := { frames := 0, cells := 0, slots := 0, locals := 0 }
set_option maxRecDepth 20000 in
theorem mX1_isHigher (l : Launch) (w : kW) (σ : kS) (c0 : Nat) (c1 : Nat) (x2 : Int32) {o : Int32} (h : fX1_isHigher σ c0 c1 x2 = some o) : Met l yX1_isHigher (Cond.code yX1_isHigher cX1_isHigher 3 (some .boolean) :: TB) rmX1_isHigher (va_Pc [.ref (kL w c0), .ref (kL w c1), .int x2] (kP w σ)) (kQi w o σ) 0 0 (kA w) := by
  refine k_met (by decide +kernel) [.ref (kL w c0), .ref (kL w c1), .int x2] (Nat.le_of_ble_eq_true rfl) (by simp [lv_args, Value.category]) ?_
  intro p e s m args below meth c K hret
  have K : kC w p s m args meth c cX1_isHigher 3 RX1 := K
  obtain ⟨r, hro⟩ : ∃ r, r = o := ⟨o, rfl⟩
  rw [← hro] at h
  have hO : ∀ z, r = z → z = o := fun z e => by rw [← e]; exact hro
  unfold fX1_isHigher at h
  refine k_aload_n K dX1_isHigher_0 0 rfl ?_
  replace h := k_gd h
  obtain ⟨g1, h⟩ := h
  refine fg_X1_159 K dX1_isHigher_1 g1 ?_
  refine k_iload_n K dX1_isHigher_4 2 rfl ?_
  replace h := k_gd h
  obtain ⟨g2, h⟩ := h
  refine k_iald K dX1_isHigher_5 (kd_m0 g1).2.2.1 g2 ?_
  refine k_aload_n K dX1_isHigher_6 1 rfl ?_
  replace h := k_gd h
  obtain ⟨g3, h⟩ := h
  refine fg_X1_159 K dX1_isHigher_7 g3 ?_
  refine k_iload_n K dX1_isHigher_10 2 rfl ?_
  refine k_iald K dX1_isHigher_11 (kd_m0 g3).2.2.1 g2 ?_
  replace h := k_br h
  rcases h with ⟨b4, h⟩ | ⟨b4, h⟩
  · refine k_icmp_eq K 36 dX1_isHigher_12 (by decide) (fun _ => ?_) (fun q => absurd b4 q)
    refine k_aload_n K dX1_isHigher_36 0 rfl ?_
    refine fg_X1_162 K dX1_isHigher_37 g1 ?_
    refine k_iload_n K dX1_isHigher_40 2 rfl ?_
    refine k_iald K dX1_isHigher_41 (kd_m0 g1).2.2.2.1 g2 ?_
    refine k_aload_n K dX1_isHigher_42 1 rfl ?_
    refine fg_X1_162 K dX1_isHigher_43 g3 ?_
    refine k_iload_n K dX1_isHigher_46 2 rfl ?_
    refine k_iald K dX1_isHigher_47 (kd_m0 g3).2.2.2.1 g2 ?_
    replace h := k_br h
    rcases h with ⟨b5, h⟩ | ⟨b5, h⟩
    · refine k_icmp_le K 55 dX1_isHigher_48 (by decide) (fun _ => ?_) (fun q => absurd b5 q)
      refine k_iconst (v := 0) K dX1_isHigher_55 (by decide) ?_
      cases h
      obtain rfl := hO _ rfl
      exact k_zret (v := 0) K hret (by decide) dX1_isHigher_56 (by decide) (by decide)
    · refine k_icmp_le K 55 dX1_isHigher_48 (by decide) (fun q => absurd q b5) (fun _ => ?_)
      refine k_iconst (v := 1) K dX1_isHigher_51 (by decide) ?_
      refine k_goto K 56 dX1_isHigher_52 (by decide) ?_
      cases h
      obtain rfl := hO _ rfl
      exact k_zret (v := 1) K hret (by decide) dX1_isHigher_56 (by decide) (by decide)
  · refine k_icmp_eq K 36 dX1_isHigher_12 (by decide) (fun q => absurd q b4) (fun _ => ?_)
    refine k_aload_n K dX1_isHigher_15 0 rfl ?_
    refine fg_X1_159 K dX1_isHigher_16 g1 ?_
    refine k_iload_n K dX1_isHigher_19 2 rfl ?_
    refine k_iald K dX1_isHigher_20 (kd_m0 g1).2.2.1 g2 ?_
    refine k_aload_n K dX1_isHigher_21 1 rfl ?_
    refine fg_X1_159 K dX1_isHigher_22 g3 ?_
    refine k_iload_n K dX1_isHigher_25 2 rfl ?_
    refine k_iald K dX1_isHigher_26 (kd_m0 g3).2.2.1 g2 ?_
    replace h := k_br h
    rcases h with ⟨b6, h⟩ | ⟨b6, h⟩
    · refine k_icmp_le K 34 dX1_isHigher_27 (by decide) (fun _ => ?_) (fun q => absurd b6 q)
      refine k_iconst (v := 0) K dX1_isHigher_34 (by decide) ?_
      cases h
      obtain rfl := hO _ rfl
      exact k_zret (v := 0) K hret (by decide) dX1_isHigher_35 (by decide) (by decide)
    · refine k_icmp_le K 34 dX1_isHigher_27 (by decide) (fun q => absurd q b6) (fun _ => ?_)
      refine k_iconst (v := 1) K dX1_isHigher_30 (by decide) ?_
      refine k_goto K 35 dX1_isHigher_31 (by decide) ?_
      cases h
      obtain rfl := hO _ rfl
      exact k_zret (v := 1) K hret (by decide) dX1_isHigher_35 (by decide) (by decide)
end F_X1_isHigher
section C_X1_isHigher
variable {w : kW} {p : Program} {l : Launch} {e : Env} {R : Room} {s : State} {m : MethodId} {args : Array Value} {below : List Frame} {meth : Method} {c : Code} {Q : State → Prop} {cc : ByteArray} {nL : Nat} {σ : kS} {pc : Nat} {lv : List (Nat × Value)} {st rest : List Value} {cells slots : Nat}
theorem cl_X1_258 (K : kC w p s m args meth c cc nL RX1) {a1 : Nat} {a2 : Nat} {a3 : Int32} {r : Int32} (d : decode cc pc = .ok (.invokestatic 258, 3)) (h : fX1_isHigher σ a1 a2 a3 = some r) (hR : rmX1_isHigher.frames + 1 ≤ R.frames ∧ 8 + (3 + 11) + rmX1_isHigher.locals ≤ R.locals) (hr : (rest.map fun v => v.category).sum ≤ 8) (hf : cells + 0 ≤ R.cells ∧ slots + 0 ≤ R.slots) (kk : kG w p l e R s m args below meth c Q nL σ (pc + 3) lv (.int r :: rest) (cells + 0) (slots + 0)) : kG w p l e R s m args below meth c Q nL σ pc lv (.int a3 :: .ref (kL w a2) :: .ref (kL w a1) :: rest) cells slots :=
  k_callSi (As := [.ref (kL w a1), .ref (kL w a2), .int a3]) (rest := rest) (n := 3) K d (kg_S tw_420 tw_421 tw_48 tw_422) (by decide +kernel) rfl hR hr rfl hf (mX1_isHigher l w σ a1 a2 a3 h) ⟨rfl, rfl⟩ kk
end C_X1_isHigher
section F_X1_copyIfHigher
variable {w : kW} {p : Program} {l : Launch} {e : Env} {s : State} {m : MethodId} {args : Array Value} {below : List Frame} {meth : Method} {c : Code}
def fX1_copyIfHigher (σ : kS) (c0 : Nat) (c1 : Nat) (x2 : Int32) : Option (Int32 × kS) :=
  (fX1_isHigher σ c0 c1 x2).bind fun r1 =>
  if r1 = 0 then
    some ((0, σ))
  else
    if kd c1 = (0, 0, 8) then
      if kd c0 = (0, 0, 8) then
        if vpi x2 64 then
          some ((1, sI (sI (sI σ (c1 + 1 + 2) x2.toNatClampNeg (σ.1 (c0 + 1 + 2) x2.toNatClampNeg)) (c1 + 1 + 3) x2.toNatClampNeg ((sI σ (c1 + 1 + 2) x2.toNatClampNeg (σ.1 (c0 + 1 + 2) x2.toNatClampNeg)).1 (c0 + 1 + 3) x2.toNatClampNeg)) (c1 + 1 + 4) x2.toNatClampNeg ((sI (sI σ (c1 + 1 + 2) x2.toNatClampNeg (σ.1 (c0 + 1 + 2) x2.toNatClampNeg)) (c1 + 1 + 3) x2.toNatClampNeg ((sI σ (c1 + 1 + 2) x2.toNatClampNeg (σ.1 (c0 + 1 + 2) x2.toNatClampNeg)).1 (c0 + 1 + 3) x2.toNatClampNeg)).1 (c0 + 1 + 4) x2.toNatClampNeg)))
        else none
      else none
    else none
def rmX1_copyIfHigher : Room := { frames := 1, cells := 0, slots := 0, locals := 22 }
set_option maxRecDepth 20000 in
theorem mX1_copyIfHigher (l : Launch) (w : kW) (σ : kS) (c0 : Nat) (c1 : Nat) (x2 : Int32) {o : (Int32 × kS)} (h : fX1_copyIfHigher σ c0 c1 x2 = some o) : Met l yX1_copyIfHigher (Cond.code yX1_copyIfHigher cX1_copyIfHigher 3 (some .boolean) :: TB) rmX1_copyIfHigher (va_Pc [.ref (kL w c0), .ref (kL w c1), .int x2] (kP w σ)) (kQi w o.1 o.2) 0 0 (kA w) := by
  refine k_met (by decide +kernel) [.ref (kL w c0), .ref (kL w c1), .int x2] (Nat.le_of_ble_eq_true rfl) (by simp [lv_args, Value.category]) ?_
  intro p e s m args below meth c K hret
  have K : kC w p s m args meth c cX1_copyIfHigher 3 RX1 := K
  obtain ⟨r, hro⟩ : ∃ r, r = o := ⟨o, rfl⟩
  rw [← hro] at h
  have hO : ∀ z, r = z → z = o := fun z e => by rw [← e]; exact hro
  unfold fX1_copyIfHigher at h
  refine k_aload_n K dX1_copyIfHigher_0 0 rfl ?_
  refine k_aload_n K dX1_copyIfHigher_1 1 rfl ?_
  refine k_iload_n K dX1_copyIfHigher_2 2 rfl ?_
  replace h := k_bd h
  obtain ⟨r1, hr1, h⟩ := h
  refine cl_X1_258 K dX1_copyIfHigher_3 hr1 (by decide) (Nat.le_of_ble_eq_true rfl) (by decide) ?_
  replace h := k_br h
  rcases h with ⟨b2, h⟩ | ⟨b2, h⟩
  · refine k_if_ne K 11 dX1_copyIfHigher_6 (by decide) (fun q => absurd b2 q) (fun _ => ?_)
    refine k_iconst (v := 0) K dX1_copyIfHigher_9 (by decide) ?_
    cases h
    obtain rfl := hO _ rfl
    exact k_zret (v := 0) K hret (by decide) dX1_copyIfHigher_10 (by decide) (by decide)
  · refine k_if_ne K 11 dX1_copyIfHigher_6 (by decide) (fun _ => ?_) (fun q => absurd q b2)
    refine k_aload_n K dX1_copyIfHigher_11 1 rfl ?_
    replace h := k_gd h
    obtain ⟨g3, h⟩ := h
    refine fg_X1_159 K dX1_copyIfHigher_12 g3 ?_
    refine k_iload_n K dX1_copyIfHigher_15 2 rfl ?_
    refine k_aload_n K dX1_copyIfHigher_16 0 rfl ?_
    replace h := k_gd h
    obtain ⟨g4, h⟩ := h
    refine fg_X1_159 K dX1_copyIfHigher_17 g4 ?_
    refine k_iload_n K dX1_copyIfHigher_20 2 rfl ?_
    replace h := k_gd h
    obtain ⟨g5, h⟩ := h
    refine k_iald K dX1_copyIfHigher_21 (kd_m0 g4).2.2.1 g5 ?_
    refine k_iast K dX1_copyIfHigher_22 (kd_m0 g3).2.2.1 g5 ?_
    refine k_aload_n K dX1_copyIfHigher_23 1 rfl ?_
    refine fg_X1_162 K dX1_copyIfHigher_24 g3 ?_
    refine k_iload_n K dX1_copyIfHigher_27 2 rfl ?_
    refine k_aload_n K dX1_copyIfHigher_28 0 rfl ?_
    refine fg_X1_162 K dX1_copyIfHigher_29 g4 ?_
    refine k_iload_n K dX1_copyIfHigher_32 2 rfl ?_
    refine k_iald K dX1_copyIfHigher_33 (kd_m0 g4).2.2.2.1 g5 ?_
    refine k_iast K dX1_copyIfHigher_34 (kd_m0 g3).2.2.2.1 g5 ?_
    refine k_aload_n K dX1_copyIfHigher_35 1 rfl ?_
    refine fg_X1_165 K dX1_copyIfHigher_36 g3 ?_
    refine k_iload_n K dX1_copyIfHigher_39 2 rfl ?_
    refine k_aload_n K dX1_copyIfHigher_40 0 rfl ?_
    refine fg_X1_165 K dX1_copyIfHigher_41 g4 ?_
    refine k_iload_n K dX1_copyIfHigher_44 2 rfl ?_
    refine k_iald K dX1_copyIfHigher_45 (kd_m0 g4).2.2.2.2 g5 ?_
    refine k_iast K dX1_copyIfHigher_46 (kd_m0 g3).2.2.2.2 g5 ?_
    refine k_iconst (v := 1) K dX1_copyIfHigher_47 (by decide) ?_
    cases h
    obtain rfl := hO _ rfl
    exact k_zret (v := 1) K hret (by decide) dX1_copyIfHigher_48 (by decide) (by decide)
end F_X1_copyIfHigher
section C_X1_copyIfHigher
variable {w : kW} {p : Program} {l : Launch} {e : Env} {R : Room} {s : State} {m : MethodId} {args : Array Value} {below : List Frame} {meth : Method} {c : Code} {Q : State → Prop} {cc : ByteArray} {nL : Nat} {σ : kS} {pc : Nat} {lv : List (Nat × Value)} {st rest : List Value} {cells slots : Nat}
theorem cl_X1_255 (K : kC w p s m args meth c cc nL RX1) {a1 : Nat} {a2 : Nat} {a3 : Int32} {r : (Int32 × kS)} (d : decode cc pc = .ok (.invokestatic 255, 3)) (h : fX1_copyIfHigher σ a1 a2 a3 = some r) (hR : rmX1_copyIfHigher.frames + 1 ≤ R.frames ∧ 8 + (3 + 11) + rmX1_copyIfHigher.locals ≤ R.locals) (hr : (rest.map fun v => v.category).sum ≤ 8) (hf : cells + 0 ≤ R.cells ∧ slots + 0 ≤ R.slots) (kk : kG w p l e R s m args below meth c Q nL r.2 (pc + 3) lv (.int r.1 :: rest) (cells + 0) (slots + 0)) : kG w p l e R s m args below meth c Q nL σ pc lv (.int a3 :: .ref (kL w a2) :: .ref (kL w a1) :: rest) cells slots :=
  k_callSi (As := [.ref (kL w a1), .ref (kL w a2), .int a3]) (rest := rest) (n := 3) K d (kg_S tw_417 tw_418 tw_48 tw_419) (by decide +kernel) rfl hR hr rfl hf (mX1_copyIfHigher l w σ a1 a2 a3 h) ⟨rfl, rfl⟩ kk
end C_X1_copyIfHigher
section F_X1_takeFromSuccessor
variable {w : kW} {p : Program} {l : Launch} {e : Env} {s : State} {m : MethodId} {args : Array Value} {below : List Frame} {meth : Method} {c : Code}
def fX1_takeFromSuccessor_66 (c1 : Nat) (c2 : Nat) (c3 : Nat) (x4 : Int32) (x5 : Int32) (σ : kS) : Option ((Int32 × Int32 × kS) ⊕ (Int32 × kS)) :=
  some (.inl (x4, x5 + 1, σ))
def gX1_takeFromSuccessor_36 (c1 : Nat) (c2 : Nat) (c3 : Nat) (x4 : Int32) (x5 : Int32) (σ : kS) : Option ((Int32 × Int32 × kS) ⊕ (Int32 × kS)) :=
  if 64 ≤ x5 then
    some (.inr ((x4, σ)))
  else
    (fX1_isInCare σ c1 c2 x5).bind fun r2 =>
    if r2 = 0 then
      fX1_takeFromSuccessor_66 c1 c2 c3 x4 x5 σ
    else
      (fX1_copyIfHigher σ c3 c1 x5).bind fun r4 =>
      if r4.1 = 0 then
        fX1_takeFromSuccessor_66 c1 c2 c3 x4 x5 r4.2
      else
        fX1_takeFromSuccessor_66 c1 c2 c3 (x4 + 1) x5 r4.2
def fX1_takeFromSuccessor_36 (c1 : Nat) (c2 : Nat) (c3 : Nat) (a : Int32 × Int32 × kS) : Option ((Int32 × Int32 × kS) ⊕ (Int32 × kS)) := gX1_takeFromSuccessor_36 c1 c2 c3 a.1 a.2.1 a.2.2
def fX1_takeFromSuccessor (σ : kS) (c1 : Nat) : Option (Int32 × kS) :=
  if kd c1 = (0, 0, 8) then
    (fX1_liveAt σ (σ.1 c1 6)).bind fun r2 =>
    (fX1_successor σ c1).bind fun r3 =>
    kmn (r2) (
      some ((0, σ))
    ) fun q4 =>
      kmn (r3) (
        some ((0, σ))
      ) fun q5 =>
        if okq (some q5) = true ∧ okq (some c1) = true then
          if some q5 = some c1 then
            some ((0, σ))
          else
            kit (fX1_takeFromSuccessor_36 c1 q4 q5) 300 (0, 0, σ)
        else none
  else none
def rmX1_takeFromSuccessor : Room := { frames := 3, cells := 0, slots := 0, locals := 68 }
set_option maxRecDepth 20000 in
theorem pX1_takeFromSuccessor_66 (K : kC w p s m args meth c cX1_takeFromSuccessor 6 RX1) (hret : meth.sig.returnType = (some .int)) {c1 : Nat} {c2 : Nat} {c3 : Nat} {x4 : Int32} {x5 : Int32} {σ : kS} {r : ((Int32 × Int32 × kS) ⊕ (Int32 × kS))} {o : (Int32 × kS)} (h : fX1_takeFromSuccessor_66 c1 c2 c3 x4 x5 σ = some r) (hL36 : ∀ z, r = .inl z → kG w p l e rmX1_takeFromSuccessor s m args below meth c (MQ below (kQi w o.1 o.2) args s 0 0 (kA w)) 6 z.2.2 36 [(1, .ref (kL w c1)), (2, .ref (kL w c2)), (3, .ref (kL w c3)), (4, .int (z.1)), (5, .int (z.2.1))] [] 0 0) (hO : ∀ z, r = .inr z → z = o) : kG w p l e rmX1_takeFromSuccessor s m args below meth c (MQ below (kQi w o.1 o.2) args s 0 0 (kA w)) 6 σ 66 [(1, .ref (kL w c1)), (2, .ref (kL w c2)), (3, .ref (kL w c3)), (4, .int x4), (5, .int x5)] [] 0 0 := by
  unfold fX1_takeFromSuccessor_66 at h
  refine k_iinc (v := 1) (lv' := [(5, .int (x5 + 1)), (1, .ref (kL w c1)), (2, .ref (kL w c2)), (3, .ref (kL w c3)), (4, .int x4)]) K dX1_takeFromSuccessor_66 4 rfl (by decide) (by decide) rfl ?_
  refine k_goto K 36 dX1_takeFromSuccessor_69 (by decide) ?_
  refine k_sub [1, 2, 3, 4, 0] rfl ?_
  cases h
  exact hL36 _ rfl
set_option maxRecDepth 20000 in
theorem pX1_takeFromSuccessor_36 (K : kC w p s m args meth c cX1_takeFromSuccessor 6 RX1) (hret : meth.sig.returnType = (some .int)) {c1 : Nat} {c2 : Nat} {c3 : Nat} {x4 : Int32} {x5 : Int32} {σ : kS} {r : ((Int32 × Int32 × kS) ⊕ (Int32 × kS))} {o : (Int32 × kS)} (h : gX1_takeFromSuccessor_36 c1 c2 c3 x4 x5 σ = some r) (hL36 : ∀ z, r = .inl z → kG w p l e rmX1_takeFromSuccessor s m args below meth c (MQ below (kQi w o.1 o.2) args s 0 0 (kA w)) 6 z.2.2 36 [(1, .ref (kL w c1)), (2, .ref (kL w c2)), (3, .ref (kL w c3)), (4, .int (z.1)), (5, .int (z.2.1))] [] 0 0) (hO : ∀ z, r = .inr z → z = o) : kG w p l e rmX1_takeFromSuccessor s m args below meth c (MQ below (kQi w o.1 o.2) args s 0 0 (kA w)) 6 σ 36 [(1, .ref (kL w c1)), (2, .ref (kL w c2)), (3, .ref (kL w c3)), (4, .int x4), (5, .int x5)] [] 0 0 := by
  unfold gX1_takeFromSuccessor_36 at h
  refine k_iload K dX1_takeFromSuccessor_36 4 rfl ?_
  refine k_bipush (v := 64) K dX1_takeFromSuccessor_38 (by decide) ?_
  replace h := k_br h
  rcases h with ⟨b1, h⟩ | ⟨b1, h⟩
  · refine k_icmp_ge K 72 dX1_takeFromSuccessor_40 (by decide) (fun _ => ?_) (fun q => absurd b1 q)
    refine k_iload K dX1_takeFromSuccessor_72 3 rfl ?_
    cases h
    obtain rfl := hO _ rfl
    exact k_iret K hret dX1_takeFromSuccessor_74 (by decide) (by decide)
  · refine k_icmp_ge K 72 dX1_takeFromSuccessor_40 (by decide) (fun q => absurd q b1) (fun _ => ?_)
    refine k_aload_n K dX1_takeFromSuccessor_43 0 rfl ?_
    refine k_aload_n K dX1_takeFromSuccessor_44 1 rfl ?_
    refine k_iload K dX1_takeFromSuccessor_45 4 rfl ?_
    replace h := k_bd h
    obtain ⟨r2, hr2, h⟩ := h
    refine cl_X1_251 K dX1_takeFromSuccessor_47 hr2 (by decide) (Nat.le_of_ble_eq_true rfl) (by decide) ?_
    replace h := k_br h
    rcases h with ⟨b3, h⟩ | ⟨b3, h⟩
    · refine k_if_eq K 66 dX1_takeFromSuccessor_50 (by decide) (fun _ => ?_) (fun q => absurd b3 q)
      exact pX1_takeFromSuccessor_66 K hret h hL36 hO
    · refine k_if_eq K 66 dX1_takeFromSuccessor_50 (by decide) (fun q => absurd q b3) (fun _ => ?_)
      refine k_aload_n K dX1_takeFromSuccessor_53 2 rfl ?_
      refine k_aload_n K dX1_takeFromSuccessor_54 0 rfl ?_
      refine k_iload K dX1_takeFromSuccessor_55 4 rfl ?_
      replace h := k_bd h
      obtain ⟨r4, hr4, h⟩ := h
      refine cl_X1_255 K dX1_takeFromSuccessor_57 hr4 (by decide) (Nat.le_of_ble_eq_true rfl) (by decide) ?_
      replace h := k_br h
      rcases h with ⟨b5, h⟩ | ⟨b5, h⟩
      · refine k_if_eq K 66 dX1_takeFromSuccessor_60 (by decide) (fun _ => ?_) (fun q => absurd b5 q)
        exact pX1_takeFromSuccessor_66 K hret h hL36 hO
      · refine k_if_eq K 66 dX1_takeFromSuccessor_60 (by decide) (fun q => absurd q b5) (fun _ => ?_)
        refine k_iinc (v := 1) (lv' := [(4, .int (x4 + 1)), (1, .ref (kL w c1)), (2, .ref (kL w c2)), (3, .ref (kL w c3)), (5, .int x5)]) K dX1_takeFromSuccessor_63 3 rfl (by decide) (by decide) rfl ?_
        refine k_sub [1, 2, 3, 0, 4] rfl ?_
        exact pX1_takeFromSuccessor_66 K hret h hL36 hO
set_option maxRecDepth 20000 in
theorem lX1_takeFromSuccessor_36 (K : kC w p s m args meth c cX1_takeFromSuccessor 6 RX1) (hret : meth.sig.returnType = (some .int)) {c1 : Nat} {c2 : Nat} {c3 : Nat} {n : Nat} {a : Int32 × Int32 × kS} {r : (Int32 × kS)} {o : (Int32 × kS)} (h : kit (fX1_takeFromSuccessor_36 c1 c2 c3) n a = some r) (hO : ∀ z, r = z → z = o) : kG w p l e rmX1_takeFromSuccessor s m args below meth c (MQ below (kQi w o.1 o.2) args s 0 0 (kA w)) 6 a.2.2 36 [(1, .ref (kL w c1)), (2, .ref (kL w c2)), (3, .ref (kL w c3)), (4, .int (a.1)), (5, .int (a.2.1))] [] 0 0 :=
  kit_ind (body := fX1_takeFromSuccessor_36 c1 c2 c3) (fun a r => (∀ z, r = z → z = o) → kG w p l e rmX1_takeFromSuccessor s m args below meth c (MQ below (kQi w o.1 o.2) args s 0 0 (kA w)) 6 a.2.2 36 [(1, .ref (kL w c1)), (2, .ref (kL w c2)), (3, .ref (kL w c3)), (4, .int (a.1)), (5, .int (a.2.1))] [] 0 0) (fun a a2 r hb ih hO => pX1_takeFromSuccessor_36 K hret hb (fun z e => by cases e; exact ih hO) (fun _ e => by cases e)) (fun a r hb hO => pX1_takeFromSuccessor_36 K hret hb (fun _ e => by cases e) (fun z e => hO z (by cases e; rfl))) n a r h hO
set_option maxRecDepth 20000 in
theorem mX1_takeFromSuccessor (l : Launch) (w : kW) (σ : kS) (c1 : Nat) {o : (Int32 × kS)} (h : fX1_takeFromSuccessor σ c1 = some o) : Met l yX1_takeFromSuccessor (Cond.code yX1_takeFromSuccessor cX1_takeFromSuccessor 6 (some .int) :: TB) rmX1_takeFromSuccessor (va_Pc [.ref (kL w 0), .ref (kL w c1)] (kP w σ)) (kQi w o.1 o.2) 0 0 (kA w) := by
  refine k_met (by decide +kernel) [.ref (kL w 0), .ref (kL w c1)] (Nat.le_of_ble_eq_true rfl) (by simp [lv_args, Value.category]) ?_
  intro p e s m args below meth c K hret
  have K : kC w p s m args meth c cX1_takeFromSuccessor 6 RX1 := K
  obtain ⟨r, hro⟩ : ∃ r, r = o := ⟨o, rfl⟩
  rw [← hro] at h
  have hO : ∀ z, r = z → z = o := fun z e => by rw [← e]; exact hro
  unfold fX1_takeFromSuccessor at h
  refine k_aload_n K dX1_takeFromSuccessor_0 0 rfl ?_
  refine k_aload_n K dX1_takeFromSuccessor_1 1 rfl ?_
  replace h := k_gd h
  obtain ⟨g1, h⟩ := h
  refine fg_X1_75 K dX1_takeFromSuccessor_2 g1 ?_
  replace h := k_bd h
  obtain ⟨r2, hr2, h⟩ := h
  refine cl_X1_204 K dX1_takeFromSuccessor_5 hr2 (by decide) (Nat.le_of_ble_eq_true rfl) (by decide) ?_
  refine k_astore_nQ (lv' := [(2, va_rf ((r2).map (kL w))), (0, .ref (kL w 0)), (1, .ref (kL w c1))]) K dX1_takeFromSuccessor_8 (by decide) rfl ?_
  refine k_aload_n K dX1_takeFromSuccessor_9 1 rfl ?_
  refine k_aload_n K dX1_takeFromSuccessor_10 2 rfl ?_
  replace h := k_bd h
  obtain ⟨r3, hr3, h⟩ := h
  refine cl_X1_107 K dX1_takeFromSuccessor_11 hr3 (by decide) (Nat.le_of_ble_eq_true rfl) (by decide) ?_
  refine k_astore_nQ (lv' := [(3, va_rf ((r3).map (kL w))), (2, va_rf ((r2).map (kL w))), (0, .ref (kL w 0)), (1, .ref (kL w c1))]) K dX1_takeFromSuccessor_14 (by decide) rfl ?_
  refine k_aload_nQ K dX1_takeFromSuccessor_15 1 rfl ?_
  replace h := k_mn h
  rcases h with ⟨hq4, h⟩ | ⟨q4, hq4, h⟩
  · subst hq4
    refine k_ifnullN K 28 dX1_takeFromSuccessor_16 (by decide) ?_
    refine k_iconst (v := 0) K dX1_takeFromSuccessor_28 (by decide) ?_
    cases h
    obtain rfl := hO _ rfl
    exact k_iret (v := 0) K hret dX1_takeFromSuccessor_29 (by decide) (by decide)
  · subst hq4
    refine k_ifnull K dX1_takeFromSuccessor_16 ?_
    refine k_aload_nQ K dX1_takeFromSuccessor_19 0 rfl ?_
    replace h := k_mn h
    rcases h with ⟨hq5, h⟩ | ⟨q5, hq5, h⟩
    · subst hq5
      refine k_ifnullN K 28 dX1_takeFromSuccessor_20 (by decide) ?_
      refine k_iconst (v := 0) K dX1_takeFromSuccessor_28 (by decide) ?_
      cases h
      obtain rfl := hO _ rfl
      exact k_iret (v := 0) K hret dX1_takeFromSuccessor_29 (by decide) (by decide)
    · subst hq5
      refine k_ifnull K dX1_takeFromSuccessor_20 ?_
      refine k_aload_n K dX1_takeFromSuccessor_23 0 rfl ?_
      refine k_aload_n K dX1_takeFromSuccessor_24 3 rfl ?_
      replace h := k_gd h
      obtain ⟨g7, h⟩ := h
      replace h := k_br h
      rcases h with ⟨b6, h⟩ | ⟨b6, h⟩
      · refine k_acmp_ne (x := some q5) (y := some c1) K 30 dX1_takeFromSuccessor_25 (by decide) (okq_s g7.1) (okq_s g7.2) (fun q => absurd b6 q) (fun _ => ?_)
        refine k_iconst (v := 0) K dX1_takeFromSuccessor_28 (by decide) ?_
        cases h
        obtain rfl := hO _ rfl
        exact k_iret (v := 0) K hret dX1_takeFromSuccessor_29 (by decide) (by decide)
      · refine k_acmp_ne (x := some q5) (y := some c1) K 30 dX1_takeFromSuccessor_25 (by decide) (okq_s g7.1) (okq_s g7.2) (fun _ => ?_) (fun q => absurd q b6)
        refine k_iconst (v := 0) K dX1_takeFromSuccessor_30 (by decide) ?_
        refine k_istore (lv' := [(4, .int 0), (3, .ref (kL w q5)), (2, .ref (kL w q4)), (0, .ref (kL w 0)), (1, .ref (kL w c1))]) K dX1_takeFromSuccessor_31 (by decide) rfl ?_
        refine k_iconst (v := 0) K dX1_takeFromSuccessor_33 (by decide) ?_
        refine k_istore (lv' := [(5, .int 0), (4, .int 0), (3, .ref (kL w q5)), (2, .ref (kL w q4)), (0, .ref (kL w 0)), (1, .ref (kL w c1))]) K dX1_takeFromSuccessor_34 (by decide) rfl ?_
        refine k_sub [5, 3, 2, 1, 0] rfl ?_
        exact lX1_takeFromSuccessor_36 K hret h hO
end F_X1_takeFromSuccessor
section C_X1_takeFromSuccessor
variable {w : kW} {p : Program} {l : Launch} {e : Env} {R : Room} {s : State} {m : MethodId} {args : Array Value} {below : List Frame} {meth : Method} {c : Code} {Q : State → Prop} {cc : ByteArray} {nL : Nat} {σ : kS} {pc : Nat} {lv : List (Nat × Value)} {st rest : List Value} {cells slots : Nat}
theorem cl_X1_123 (K : kC w p s m args meth c cc nL RX1) {a1 : Nat} {r : (Int32 × kS)} (d : decode cc pc = .ok (.invokevirtual 123, 3)) (h : fX1_takeFromSuccessor σ a1 = some r) (hR : rmX1_takeFromSuccessor.frames + 1 ≤ R.frames ∧ 8 + (6 + 11) + rmX1_takeFromSuccessor.locals ≤ R.locals) (hr : (rest.map fun v => v.category).sum ≤ 8) (hf : cells + 0 ≤ R.cells ∧ slots + 0 ≤ R.slots) (kk : kG w p l e R s m args below meth c Q nL r.2 (pc + 3) lv (.int r.1 :: rest) (cells + 0) (slots + 0)) : kG w p l e R s m args below meth c Q nL σ pc lv (.ref (kL w a1) :: .ref (kL w 0) :: rest) cells slots :=
  k_callVi (As := [.ref (kL w a1)]) (rest := rest) (n := 1) (C := RX1) (T := TX1) K d kd_0 rfl (kg_V tw_407 tw_409 tw_17 tw_48 tw_410) rfl (by decide +kernel) rfl hR hr rfl hf (mX1_takeFromSuccessor l w σ a1 h) ⟨rfl, rfl⟩ kk
end C_X1_takeFromSuccessor
section F_X1_copyToList
variable {w : kW} {p : Program} {l : Launch} {e : Env} {s : State} {m : MethodId} {args : Array Value} {below : List Frame} {meth : Method} {c : Code}
def fX1_copyToList_45 (c1 : Nat) (x2 : Int32) (x3 : Int32) (x4 : Int32) (σ : kS) : Option ((Int32 × Int32 × kS) ⊕ (Int32 × kS)) :=
  some (.inl (x3, x4 + 1, σ))
def gX1_copyToList_5 (c1 : Nat) (x2 : Int32) (x3 : Int32) (x4 : Int32) (σ : kS) : Option ((Int32 × Int32 × kS) ⊕ (Int32 × kS)) :=
  if (σ.1 0 7) ≤ x4 then
    some (.inr ((x3, σ)))
  else
    if kd c1 = (0, 0, 8) then
      if vpi x4 4 then
        (fX1_liveAt σ (σ.1 (c1 + 1 + 0) x4.toNatClampNeg)).bind fun r4 =>
        kmn (r4) (
          fX1_copyToList_45 c1 x2 x3 x4 σ
        ) fun q5 =>
          (fX1_copyIfHigher σ c1 q5 x2).bind fun r6 =>
          if r6.1 = 0 then
            fX1_copyToList_45 c1 x2 x3 x4 r6.2
          else
            fX1_copyToList_45 c1 x2 (x3 + 1) x4 r6.2
      else none
    else none
def fX1_copyToList_5 (c1 : Nat) (x2 : Int32) (a : Int32 × Int32 × kS) : Option ((Int32 × Int32 × kS) ⊕ (Int32 × kS)) := gX1_copyToList_5 c1 x2 a.1 a.2.1 a.2.2
def fX1_copyToList (σ : kS) (c1 : Nat) (x2 : Int32) : Option (Int32 × kS) :=
  kit (fX1_copyToList_5 c1 x2) 300 (0, 0, σ)
def rmX1_copyToList : Room := { frames := 2, cells := 0, slots := 0, locals := 44 }
set_option maxRecDepth 20000 in
theorem pX1_copyToList_45 (K : kC w p s m args meth c cX1_copyToList 6 RX1) (hret : meth.sig.returnType = (some .int)) {c1 : Nat} {x2 : Int32} {x3 : Int32} {x4 : Int32} {σ : kS} {r : ((Int32 × Int32 × kS) ⊕ (Int32 × kS))} {o : (Int32 × kS)} (h : fX1_copyToList_45 c1 x2 x3 x4 σ = some r) (hL5 : ∀ z, r = .inl z → kG w p l e rmX1_copyToList s m args below meth c (MQ below (kQi w o.1 o.2) args s 0 0 (kA w)) 6 z.2.2 5 [(0, .ref (kL w 0)), (1, .ref (kL w c1)), (2, .int x2), (3, .int (z.1)), (4, .int (z.2.1))] [] 0 0) (hO : ∀ z, r = .inr z → z = o) : kG w p l e rmX1_copyToList s m args below meth c (MQ below (kQi w o.1 o.2) args s 0 0 (kA w)) 6 σ 45 [(0, .ref (kL w 0)), (1, .ref (kL w c1)), (2, .int x2), (3, .int x3), (4, .int x4)] [] 0 0 := by
  unfold fX1_copyToList_45 at h
  refine k_iinc (v := 1) (lv' := [(4, .int (x4 + 1)), (0, .ref (kL w 0)), (1, .ref (kL w c1)), (2, .int x2), (3, .int x3)]) K dX1_copyToList_45 4 rfl (by decide) (by decide) rfl ?_
  refine k_goto K 5 dX1_copyToList_48 (by decide) ?_
  refine k_sub [1, 2, 3, 4, 0] rfl ?_
  cases h
  exact hL5 _ rfl
set_option maxRecDepth 20000 in
theorem pX1_copyToList_5 (K : kC w p s m args meth c cX1_copyToList 6 RX1) (hret : meth.sig.returnType = (some .int)) {c1 : Nat} {x2 : Int32} {x3 : Int32} {x4 : Int32} {σ : kS} {r : ((Int32 × Int32 × kS) ⊕ (Int32 × kS))} {o : (Int32 × kS)} (h : gX1_copyToList_5 c1 x2 x3 x4 σ = some r) (hL5 : ∀ z, r = .inl z → kG w p l e rmX1_copyToList s m args below meth c (MQ below (kQi w o.1 o.2) args s 0 0 (kA w)) 6 z.2.2 5 [(0, .ref (kL w 0)), (1, .ref (kL w c1)), (2, .int x2), (3, .int (z.1)), (4, .int (z.2.1))] [] 0 0) (hO : ∀ z, r = .inr z → z = o) : kG w p l e rmX1_copyToList s m args below meth c (MQ below (kQi w o.1 o.2) args s 0 0 (kA w)) 6 σ 5 [(0, .ref (kL w 0)), (1, .ref (kL w c1)), (2, .int x2), (3, .int x3), (4, .int x4)] [] 0 0 := by
  unfold gX1_copyToList_5 at h
  refine k_iload K dX1_copyToList_5 4 rfl ?_
  refine k_aload_n K dX1_copyToList_7 0 rfl ?_
  refine fg_X1_30 K dX1_copyToList_8 ?_
  replace h := k_br h
  rcases h with ⟨b1, h⟩ | ⟨b1, h⟩
  · refine k_icmp_ge K 51 dX1_copyToList_11 (by decide) (fun _ => ?_) (fun q => absurd b1 q)
    refine k_iload_n K dX1_copyToList_51 3 rfl ?_
    cases h
    obtain rfl := hO _ rfl
    exact k_iret K hret dX1_copyToList_52 (by decide) (by decide)
  · refine k_icmp_ge K 51 dX1_copyToList_11 (by decide) (fun q => absurd q b1) (fun _ => ?_)
    refine k_aload_n K dX1_copyToList_14 0 rfl ?_
    refine k_aload_n K dX1_copyToList_15 1 rfl ?_
    replace h := k_gd h
    obtain ⟨g2, h⟩ := h
    refine fg_X1_68 K dX1_copyToList_16 g2 ?_
    refine k_iload K dX1_copyToList_19 4 rfl ?_
    replace h := k_gd h
    obtain ⟨g3, h⟩ := h
    refine k_iald K dX1_copyToList_21 (kd_m0 g2).1 g3 ?_
    replace h := k_bd h
    obtain ⟨r4, hr4, h⟩ := h
    refine cl_X1_204 K dX1_copyToList_22 hr4 (by decide) (Nat.le_of_ble_eq_true rfl) (by decide) ?_
    refine k_astoreQ (lv' := [(5, va_rf ((r4).map (kL w))), (0, .ref (kL w 0)), (1, .ref (kL w c1)), (2, .int x2), (3, .int x3), (4, .int x4)]) K dX1_copyToList_25 (by decide) rfl ?_
    refine k_aloadQ K dX1_copyToList_27 0 rfl ?_
    replace h := k_mn h
    rcases h with ⟨hq5, h⟩ | ⟨q5, hq5, h⟩
    · subst hq5
      refine k_ifnullN K 45 dX1_copyToList_29 (by decide) ?_
      refine k_sub [1, 2, 3, 4, 5] rfl ?_
      exact pX1_copyToList_45 K hret h hL5 hO
    · subst hq5
      refine k_ifnull K dX1_copyToList_29 ?_
      refine k_aload_n K dX1_copyToList_32 2 rfl ?_
      refine k_aload K dX1_copyToList_33 0 rfl ?_
      refine k_iload_n K dX1_copyToList_35 3 rfl ?_
      replace h := k_bd h
      obtain ⟨r6, hr6, h⟩ := h
      refine cl_X1_255 K dX1_copyToList_36 hr6 (by decide) (Nat.le_of_ble_eq_true rfl) (by decide) ?_
      replace h := k_br h
      rcases h with ⟨b7, h⟩ | ⟨b7, h⟩
      · refine k_if_eq K 45 dX1_copyToList_39 (by decide) (fun _ => ?_) (fun q => absurd b7 q)
        refine k_sub [1, 2, 3, 4, 5] rfl ?_
        exact pX1_copyToList_45 K hret h hL5 hO
      · refine k_if_eq K 45 dX1_copyToList_39 (by decide) (fun q => absurd q b7) (fun _ => ?_)
        refine k_iinc (v := 1) (lv' := [(3, .int (x3 + 1)), (5, .ref (kL w q5)), (0, .ref (kL w 0)), (1, .ref (kL w c1)), (2, .int x2), (4, .int x4)]) K dX1_copyToList_42 4 rfl (by decide) (by decide) rfl ?_
        refine k_sub [2, 3, 4, 0, 5] rfl ?_
        exact pX1_copyToList_45 K hret h hL5 hO
set_option maxRecDepth 20000 in
theorem lX1_copyToList_5 (K : kC w p s m args meth c cX1_copyToList 6 RX1) (hret : meth.sig.returnType = (some .int)) {c1 : Nat} {x2 : Int32} {n : Nat} {a : Int32 × Int32 × kS} {r : (Int32 × kS)} {o : (Int32 × kS)} (h : kit (fX1_copyToList_5 c1 x2) n a = some r) (hO : ∀ z, r = z → z = o) : kG w p l e rmX1_copyToList s m args below meth c (MQ below (kQi w o.1 o.2) args s 0 0 (kA w)) 6 a.2.2 5 [(0, .ref (kL w 0)), (1, .ref (kL w c1)), (2, .int x2), (3, .int (a.1)), (4, .int (a.2.1))] [] 0 0 :=
  kit_ind (body := fX1_copyToList_5 c1 x2) (fun a r => (∀ z, r = z → z = o) → kG w p l e rmX1_copyToList s m args below meth c (MQ below (kQi w o.1 o.2) args s 0 0 (kA w)) 6 a.2.2 5 [(0, .ref (kL w 0)), (1, .ref (kL w c1)), (2, .int x2), (3, .int (a.1)), (4, .int (a.2.1))] [] 0 0) (fun a a2 r hb ih hO => pX1_copyToList_5 K hret hb (fun z e => by cases e; exact ih hO) (fun _ e => by cases e)) (fun a r hb hO => pX1_copyToList_5 K hret hb (fun _ e => by cases e) (fun z e => hO z (by cases e; rfl))) n a r h hO
set_option maxRecDepth 20000 in
theorem mX1_copyToList (l : Launch) (w : kW) (σ : kS) (c1 : Nat) (x2 : Int32) {o : (Int32 × kS)} (h : fX1_copyToList σ c1 x2 = some o) : Met l yX1_copyToList (Cond.code yX1_copyToList cX1_copyToList 6 (some .int) :: TB) rmX1_copyToList (va_Pc [.ref (kL w 0), .ref (kL w c1), .int x2] (kP w σ)) (kQi w o.1 o.2) 0 0 (kA w) := by
  refine k_met (by decide +kernel) [.ref (kL w 0), .ref (kL w c1), .int x2] (Nat.le_of_ble_eq_true rfl) (by simp [lv_args, Value.category]) ?_
  intro p e s m args below meth c K hret
  have K : kC w p s m args meth c cX1_copyToList 6 RX1 := K
  obtain ⟨r, hro⟩ : ∃ r, r = o := ⟨o, rfl⟩
  rw [← hro] at h
  have hO : ∀ z, r = z → z = o := fun z e => by rw [← e]; exact hro
  unfold fX1_copyToList at h
  refine k_iconst (v := 0) K dX1_copyToList_0 (by decide) ?_
  refine k_istore_n (lv' := [(3, .int 0), (0, .ref (kL w 0)), (1, .ref (kL w c1)), (2, .int x2)]) K dX1_copyToList_1 (by decide) rfl ?_
  refine k_iconst (v := 0) K dX1_copyToList_2 (by decide) ?_
  refine k_istore (lv' := [(4, .int 0), (3, .int 0), (0, .ref (kL w 0)), (1, .ref (kL w c1)), (2, .int x2)]) K dX1_copyToList_3 (by decide) rfl ?_
  refine k_sub [2, 3, 4, 1, 0] rfl ?_
  exact lX1_copyToList_5 K hret h hO
end F_X1_copyToList
section C_X1_copyToList
variable {w : kW} {p : Program} {l : Launch} {e : Env} {R : Room} {s : State} {m : MethodId} {args : Array Value} {below : List Frame} {meth : Method} {c : Code} {Q : State → Prop} {cc : ByteArray} {nL : Nat} {σ : kS} {pc : Nat} {lv : List (Nat × Value)} {st rest : List Value} {cells slots : Nat}
theorem cl_X1_168 (K : kC w p s m args meth c cc nL RX1) {a1 : Nat} {a2 : Int32} {r : (Int32 × kS)} (d : decode cc pc = .ok (.invokevirtual 168, 3)) (h : fX1_copyToList σ a1 a2 = some r) (hR : rmX1_copyToList.frames + 1 ≤ R.frames ∧ 8 + (6 + 11) + rmX1_copyToList.locals ≤ R.locals) (hr : (rest.map fun v => v.category).sum ≤ 8) (hf : cells + 0 ≤ R.cells ∧ slots + 0 ≤ R.slots) (kk : kG w p l e R s m args below meth c Q nL r.2 (pc + 3) lv (.int r.1 :: rest) (cells + 0) (slots + 0)) : kG w p l e R s m args below meth c Q nL σ pc lv (.int a2 :: .ref (kL w a1) :: .ref (kL w 0) :: rest) cells slots :=
  k_callVi (As := [.ref (kL w a1), .int a2]) (rest := rest) (n := 2) (C := RX1) (T := TX1) K d kd_0 rfl (kg_V tw_434 tw_436 tw_19 tw_48 tw_437) rfl (by decide +kernel) rfl hR hr rfl hf (mX1_copyToList l w σ a1 a2 h) ⟨rfl, rfl⟩ kk
end C_X1_copyToList
section F_X1_spreadFrom
variable {w : kW} {p : Program} {l : Launch} {e : Env} {s : State} {m : MethodId} {args : Array Value} {below : List Frame} {meth : Method} {c : Code}
def fX1_spreadFrom_47 (c1 : Nat) (c2 : Nat) (x3 : Int32) (x4 : Int32) (σ : kS) : Option ((Int32 × Int32 × kS) ⊕ (Int32 × kS)) :=
  some (.inl (x3, x4 + 1, σ))
def gX1_spreadFrom_20 (c1 : Nat) (c2 : Nat) (x3 : Int32) (x4 : Int32) (σ : kS) : Option ((Int32 × Int32 × kS) ⊕ (Int32 × kS)) :=
  if 64 ≤ x4 then
    some (.inr ((x3, σ)))
  else
    (fX1_isInCare σ c1 c2 x4).bind fun r2 =>
    if r2 = 0 then
      fX1_spreadFrom_47 c1 c2 x3 x4 σ
    else
      (fX1_copyToList σ c1 x4).bind fun r4 =>
      fX1_spreadFrom_47 c1 c2 (x3 + r4.1) x4 r4.2
def fX1_spreadFrom_20 (c1 : Nat) (c2 : Nat) (a : Int32 × Int32 × kS) : Option ((Int32 × Int32 × kS) ⊕ (Int32 × kS)) := gX1_spreadFrom_20 c1 c2 a.1 a.2.1 a.2.2
def fX1_spreadFrom (σ : kS) (c1 : Nat) : Option (Int32 × kS) :=
  if kd c1 = (0, 0, 8) then
    (fX1_liveAt σ (σ.1 c1 6)).bind fun r2 =>
    kmn (r2) (
      some ((0, σ))
    ) fun q3 =>
      kit (fX1_spreadFrom_20 c1 q3) 300 (0, 0, σ)
  else none
def rmX1_spreadFrom : Room := { frames := 3, cells := 0, slots := 0, locals := 69 }
set_option maxRecDepth 20000 in
theorem pX1_spreadFrom_47 (K : kC w p s m args meth c cX1_spreadFrom 5 RX1) (hret : meth.sig.returnType = (some .int)) {c1 : Nat} {c2 : Nat} {x3 : Int32} {x4 : Int32} {σ : kS} {r : ((Int32 × Int32 × kS) ⊕ (Int32 × kS))} {o : (Int32 × kS)} (h : fX1_spreadFrom_47 c1 c2 x3 x4 σ = some r) (hL20 : ∀ z, r = .inl z → kG w p l e rmX1_spreadFrom s m args below meth c (MQ below (kQi w o.1 o.2) args s 0 0 (kA w)) 5 z.2.2 20 [(0, .ref (kL w 0)), (1, .ref (kL w c1)), (2, .ref (kL w c2)), (3, .int (z.1)), (4, .int (z.2.1))] [] 0 0) (hO : ∀ z, r = .inr z → z = o) : kG w p l e rmX1_spreadFrom s m args below meth c (MQ below (kQi w o.1 o.2) args s 0 0 (kA w)) 5 σ 47 [(0, .ref (kL w 0)), (1, .ref (kL w c1)), (2, .ref (kL w c2)), (3, .int x3), (4, .int x4)] [] 0 0 := by
  unfold fX1_spreadFrom_47 at h
  refine k_iinc (v := 1) (lv' := [(4, .int (x4 + 1)), (0, .ref (kL w 0)), (1, .ref (kL w c1)), (2, .ref (kL w c2)), (3, .int x3)]) K dX1_spreadFrom_47 4 rfl (by decide) (by decide) rfl ?_
  refine k_goto K 20 dX1_spreadFrom_50 (by decide) ?_
  refine k_sub [1, 2, 3, 4, 0] rfl ?_
  cases h
  exact hL20 _ rfl
set_option maxRecDepth 20000 in
theorem pX1_spreadFrom_20 (K : kC w p s m args meth c cX1_spreadFrom 5 RX1) (hret : meth.sig.returnType = (some .int)) {c1 : Nat} {c2 : Nat} {x3 : Int32} {x4 : Int32} {σ : kS} {r : ((Int32 × Int32 × kS) ⊕ (Int32 × kS))} {o : (Int32 × kS)} (h : gX1_spreadFrom_20 c1 c2 x3 x4 σ = some r) (hL20 : ∀ z, r = .inl z → kG w p l e rmX1_spreadFrom s m args below meth c (MQ below (kQi w o.1 o.2) args s 0 0 (kA w)) 5 z.2.2 20 [(0, .ref (kL w 0)), (1, .ref (kL w c1)), (2, .ref (kL w c2)), (3, .int (z.1)), (4, .int (z.2.1))] [] 0 0) (hO : ∀ z, r = .inr z → z = o) : kG w p l e rmX1_spreadFrom s m args below meth c (MQ below (kQi w o.1 o.2) args s 0 0 (kA w)) 5 σ 20 [(0, .ref (kL w 0)), (1, .ref (kL w c1)), (2, .ref (kL w c2)), (3, .int x3), (4, .int x4)] [] 0 0 := by
  unfold gX1_spreadFrom_20 at h
  refine k_iload K dX1_spreadFrom_20 4 rfl ?_
  refine k_bipush (v := 64) K dX1_spreadFrom_22 (by decide) ?_
  replace h := k_br h
  rcases h with ⟨b1, h⟩ | ⟨b1, h⟩
  · refine k_icmp_ge K 53 dX1_spreadFrom_24 (by decide) (fun _ => ?_) (fun q => absurd b1 q)
    refine k_iload_n K dX1_spreadFrom_53 3 rfl ?_
    cases h
    obtain rfl := hO _ rfl
    exact k_iret K hret dX1_spreadFrom_54 (by decide) (by decide)
  · refine k_icmp_ge K 53 dX1_spreadFrom_24 (by decide) (fun q => absurd q b1) (fun _ => ?_)
    refine k_aload_n K dX1_spreadFrom_27 1 rfl ?_
    refine k_aload_n K dX1_spreadFrom_28 2 rfl ?_
    refine k_iload K dX1_spreadFrom_29 4 rfl ?_
    replace h := k_bd h
    obtain ⟨r2, hr2, h⟩ := h
    refine cl_X1_251 K dX1_spreadFrom_31 hr2 (by decide) (Nat.le_of_ble_eq_true rfl) (by decide) ?_
    replace h := k_br h
    rcases h with ⟨b3, h⟩ | ⟨b3, h⟩
    · refine k_if_eq K 47 dX1_spreadFrom_34 (by decide) (fun _ => ?_) (fun q => absurd b3 q)
      exact pX1_spreadFrom_47 K hret h hL20 hO
    · refine k_if_eq K 47 dX1_spreadFrom_34 (by decide) (fun q => absurd q b3) (fun _ => ?_)
      refine k_iload_n K dX1_spreadFrom_37 3 rfl ?_
      refine k_aload_n K dX1_spreadFrom_38 0 rfl ?_
      refine k_aload_n K dX1_spreadFrom_39 1 rfl ?_
      refine k_iload K dX1_spreadFrom_40 4 rfl ?_
      replace h := k_bd h
      obtain ⟨r4, hr4, h⟩ := h
      refine cl_X1_168 K dX1_spreadFrom_42 hr4 (by decide) (Nat.le_of_ble_eq_true rfl) (by decide) ?_
      refine k_iadd K dX1_spreadFrom_45 ?_
      refine k_istore_n (lv' := [(3, .int (x3 + r4.1)), (0, .ref (kL w 0)), (1, .ref (kL w c1)), (2, .ref (kL w c2)), (4, .int x4)]) K dX1_spreadFrom_46 (by decide) rfl ?_
      refine k_sub [1, 2, 3, 0, 4] rfl ?_
      exact pX1_spreadFrom_47 K hret h hL20 hO
set_option maxRecDepth 20000 in
theorem lX1_spreadFrom_20 (K : kC w p s m args meth c cX1_spreadFrom 5 RX1) (hret : meth.sig.returnType = (some .int)) {c1 : Nat} {c2 : Nat} {n : Nat} {a : Int32 × Int32 × kS} {r : (Int32 × kS)} {o : (Int32 × kS)} (h : kit (fX1_spreadFrom_20 c1 c2) n a = some r) (hO : ∀ z, r = z → z = o) : kG w p l e rmX1_spreadFrom s m args below meth c (MQ below (kQi w o.1 o.2) args s 0 0 (kA w)) 5 a.2.2 20 [(0, .ref (kL w 0)), (1, .ref (kL w c1)), (2, .ref (kL w c2)), (3, .int (a.1)), (4, .int (a.2.1))] [] 0 0 :=
  kit_ind (body := fX1_spreadFrom_20 c1 c2) (fun a r => (∀ z, r = z → z = o) → kG w p l e rmX1_spreadFrom s m args below meth c (MQ below (kQi w o.1 o.2) args s 0 0 (kA w)) 5 a.2.2 20 [(0, .ref (kL w 0)), (1, .ref (kL w c1)), (2, .ref (kL w c2)), (3, .int (a.1)), (4, .int (a.2.1))] [] 0 0) (fun a a2 r hb ih hO => pX1_spreadFrom_20 K hret hb (fun z e => by cases e; exact ih hO) (fun _ e => by cases e)) (fun a r hb hO => pX1_spreadFrom_20 K hret hb (fun _ e => by cases e) (fun z e => hO z (by cases e; rfl))) n a r h hO
set_option maxRecDepth 20000 in
theorem mX1_spreadFrom (l : Launch) (w : kW) (σ : kS) (c1 : Nat) {o : (Int32 × kS)} (h : fX1_spreadFrom σ c1 = some o) : Met l yX1_spreadFrom (Cond.code yX1_spreadFrom cX1_spreadFrom 5 (some .int) :: TB) rmX1_spreadFrom (va_Pc [.ref (kL w 0), .ref (kL w c1)] (kP w σ)) (kQi w o.1 o.2) 0 0 (kA w) := by
  refine k_met (by decide +kernel) [.ref (kL w 0), .ref (kL w c1)] (Nat.le_of_ble_eq_true rfl) (by simp [lv_args, Value.category]) ?_
  intro p e s m args below meth c K hret
  have K : kC w p s m args meth c cX1_spreadFrom 5 RX1 := K
  obtain ⟨r, hro⟩ : ∃ r, r = o := ⟨o, rfl⟩
  rw [← hro] at h
  have hO : ∀ z, r = z → z = o := fun z e => by rw [← e]; exact hro
  unfold fX1_spreadFrom at h
  refine k_aload_n K dX1_spreadFrom_0 0 rfl ?_
  refine k_aload_n K dX1_spreadFrom_1 1 rfl ?_
  replace h := k_gd h
  obtain ⟨g1, h⟩ := h
  refine fg_X1_75 K dX1_spreadFrom_2 g1 ?_
  replace h := k_bd h
  obtain ⟨r2, hr2, h⟩ := h
  refine cl_X1_204 K dX1_spreadFrom_5 hr2 (by decide) (Nat.le_of_ble_eq_true rfl) (by decide) ?_
  refine k_astore_nQ (lv' := [(2, va_rf ((r2).map (kL w))), (0, .ref (kL w 0)), (1, .ref (kL w c1))]) K dX1_spreadFrom_8 (by decide) rfl ?_
  refine k_aload_nQ K dX1_spreadFrom_9 0 rfl ?_
  replace h := k_mn h
  rcases h with ⟨hq3, h⟩ | ⟨q3, hq3, h⟩
  · subst hq3
    refine k_ifnonnullN K dX1_spreadFrom_10 ?_
    refine k_iconst (v := 0) K dX1_spreadFrom_13 (by decide) ?_
    cases h
    obtain rfl := hO _ rfl
    exact k_iret (v := 0) K hret dX1_spreadFrom_14 (by decide) (by decide)
  · subst hq3
    refine k_ifnonnull K 15 dX1_spreadFrom_10 (by decide) ?_
    refine k_iconst (v := 0) K dX1_spreadFrom_15 (by decide) ?_
    refine k_istore_n (lv' := [(3, .int 0), (2, .ref (kL w q3)), (0, .ref (kL w 0)), (1, .ref (kL w c1))]) K dX1_spreadFrom_16 (by decide) rfl ?_
    refine k_iconst (v := 0) K dX1_spreadFrom_17 (by decide) ?_
    refine k_istore (lv' := [(4, .int 0), (3, .int 0), (2, .ref (kL w q3)), (0, .ref (kL w 0)), (1, .ref (kL w c1))]) K dX1_spreadFrom_18 (by decide) rfl ?_
    refine k_sub [3, 4, 2, 1, 0] rfl ?_
    exact lX1_spreadFrom_20 K hret h hO
end F_X1_spreadFrom
section C_X1_spreadFrom
variable {w : kW} {p : Program} {l : Launch} {e : Env} {R : Room} {s : State} {m : MethodId} {args : Array Value} {below : List Frame} {meth : Method} {c : Code} {Q : State → Prop} {cc : ByteArray} {nL : Nat} {σ : kS} {pc : Nat} {lv : List (Nat × Value)} {st rest : List Value} {cells slots : Nat}
theorem cl_X1_127 (K : kC w p s m args meth c cc nL RX1) {a1 : Nat} {r : (Int32 × kS)} (d : decode cc pc = .ok (.invokevirtual 127, 3)) (h : fX1_spreadFrom σ a1 = some r) (hR : rmX1_spreadFrom.frames + 1 ≤ R.frames ∧ 8 + (5 + 11) + rmX1_spreadFrom.locals ≤ R.locals) (hr : (rest.map fun v => v.category).sum ≤ 8) (hf : cells + 0 ≤ R.cells ∧ slots + 0 ≤ R.slots) (kk : kG w p l e R s m args below meth c Q nL r.2 (pc + 3) lv (.int r.1 :: rest) (cells + 0) (slots + 0)) : kG w p l e R s m args below meth c Q nL σ pc lv (.ref (kL w a1) :: .ref (kL w 0) :: rest) cells slots :=
  k_callVi (As := [.ref (kL w a1)]) (rest := rest) (n := 1) (C := RX1) (T := TX1) K d kd_0 rfl (kg_V tw_430 tw_432 tw_18 tw_48 tw_433) rfl (by decide +kernel) rfl hR hr rfl hf (mX1_spreadFrom l w σ a1 h) ⟨rfl, rfl⟩ kk
end C_X1_spreadFrom
section F_X1_takeTurn
variable {w : kW} {p : Program} {l : Launch} {e : Env} {s : State} {m : MethodId} {args : Array Value} {below : List Frame} {meth : Method} {c : Code}
def fX1_takeTurn (σ : kS) (c1 : Nat) : Option (Int32 × kS) :=
  (fX1_stabiliseMember σ c1).bind fun r1 =>
  if kd c1 = (0, 0, 8) then
    (fX1_mendFinger r1 c1 (r1.1 c1 7)).bind fun r3 =>
    (fX1_takeFromSuccessor (sI r3 c1 7 (((r3.1 c1 7) + 1) - ((r3.1 c1 7) + 1) / 8 * 8)) c1).bind fun r4 =>
    (fX1_spreadFrom r4.2 c1).bind fun r5 =>
    some ((r4.1 + r5.1, r5.2))
  else none
def rmX1_takeTurn : Room := { frames := 6, cells := 0, slots := 0, locals := 134 }
set_option maxRecDepth 20000 in
theorem mX1_takeTurn (l : Launch) (w : kW) (σ : kS) (c1 : Nat) {o : (Int32 × kS)} (h : fX1_takeTurn σ c1 = some o) : Met l yX1_takeTurn (Cond.code yX1_takeTurn cX1_takeTurn 2 (some .int) :: TB) rmX1_takeTurn (va_Pc [.ref (kL w 0), .ref (kL w c1)] (kP w σ)) (kQi w o.1 o.2) 0 0 (kA w) := by
  refine k_met (by decide +kernel) [.ref (kL w 0), .ref (kL w c1)] (Nat.le_of_ble_eq_true rfl) (by simp [lv_args, Value.category]) ?_
  intro p e s m args below meth c K hret
  have K : kC w p s m args meth c cX1_takeTurn 2 RX1 := K
  obtain ⟨r, hro⟩ : ∃ r, r = o := ⟨o, rfl⟩
  rw [← hro] at h
  have hO : ∀ z, r = z → z = o := fun z e => by rw [← e]; exact hro
  unfold fX1_takeTurn at h
  refine k_aload_n K dX1_takeTurn_0 0 rfl ?_
  refine k_aload_n K dX1_takeTurn_1 1 rfl ?_
  replace h := k_bd h
  obtain ⟨r1, hr1, h⟩ := h
  refine cl_X1_104 K dX1_takeTurn_2 hr1 (by decide) (Nat.le_of_ble_eq_true rfl) (by decide) ?_
  refine k_aload_n K dX1_takeTurn_5 0 rfl ?_
  refine k_aload_n K dX1_takeTurn_6 1 rfl ?_
  refine k_aload_n K dX1_takeTurn_7 1 rfl ?_
  replace h := k_gd h
  obtain ⟨g2, h⟩ := h
  refine fg_X1_248 K dX1_takeTurn_8 g2 ?_
  replace h := k_bd h
  obtain ⟨r3, hr3, h⟩ := h
  refine cl_X1_116 K dX1_takeTurn_11 hr3 (by decide) (Nat.le_of_ble_eq_true rfl) (by decide) ?_
  refine k_aload_n K dX1_takeTurn_14 1 rfl ?_
  refine k_aload_n K dX1_takeTurn_15 1 rfl ?_
  refine fg_X1_248 K dX1_takeTurn_16 g2 ?_
  refine k_iconst (v := 1) K dX1_takeTurn_19 (by decide) ?_
  refine k_iadd K dX1_takeTurn_20 ?_
  refine k_bipush (v := 8) K dX1_takeTurn_21 (by decide) ?_
  refine k_irem K dX1_takeTurn_23 (by decide) ?_
  refine fp_X1_248 K dX1_takeTurn_24 g2 ?_
  refine k_aload_n K dX1_takeTurn_27 0 rfl ?_
  refine k_aload_n K dX1_takeTurn_28 1 rfl ?_
  replace h := k_bd h
  obtain ⟨r4, hr4, h⟩ := h
  refine cl_X1_123 K dX1_takeTurn_29 hr4 (by decide) (Nat.le_of_ble_eq_true rfl) (by decide) ?_
  refine k_aload_n K dX1_takeTurn_32 0 rfl ?_
  refine k_aload_n K dX1_takeTurn_33 1 rfl ?_
  replace h := k_bd h
  obtain ⟨r5, hr5, h⟩ := h
  refine cl_X1_127 K dX1_takeTurn_34 hr5 (by decide) (Nat.le_of_ble_eq_true rfl) (by decide) ?_
  refine k_iadd K dX1_takeTurn_37 ?_
  cases h
  obtain rfl := hO _ rfl
  exact k_iret (v := r4.1 + r5.1) K hret dX1_takeTurn_38 (by decide) (by decide)
end F_X1_takeTurn
section F_X1_removeMember
variable {w : kW} {p : Program} {l : Launch} {e : Env} {s : State} {m : MethodId} {args : Array Value} {below : List Frame} {meth : Method} {c : Code}
def fX1_removeMember_45 (c1 : Nat) (x2 : Int32) (σ : kS) : Option ((Int32 × kS) ⊕ kS) :=
  some (.inl (x2 + 1, σ))
def gX1_removeMember_2 (c1 : Nat) (x2 : Int32) (σ : kS) : Option ((Int32 × kS) ⊕ kS) :=
  if ((σ.1 0 9) - 1) ≤ x2 then
    if kd c1 = (0, 0, 8) then
      if vpi (σ.1 c1 5) 256 then
        some (.inr (sI (sI (sR σ 122 (σ.1 c1 5).toNatClampNeg none) 0 9 (((sR σ 122 (σ.1 c1 5).toNatClampNeg none).1 0 9) - 1)) 0 10 (((sI (sR σ 122 (σ.1 c1 5).toNatClampNeg none) 0 9 (((sR σ 122 (σ.1 c1 5).toNatClampNeg none).1 0 9) - 1)).1 0 10) + 1)))
      else none
    else none
  else
    if vpi x2 20 then
      if okq (σ.2.1 1 x2.toNatClampNeg) = true ∧ okq (some c1) = true then
        if σ.2.1 1 x2.toNatClampNeg = some c1 then
          if vpi (x2 + 1) 20 then
            (σ.2.1 1 (x2 + 1).toNatClampNeg).bind fun q8 =>
            if kd q8 = (0, 0, 8) then
              if kd c1 = (0, 0, 8) then
                fX1_removeMember_45 c1 x2 (sR (sR σ 1 x2.toNatClampNeg (some q8)) 1 (x2 + 1).toNatClampNeg (some c1))
              else none
            else none
          else none
        else
          fX1_removeMember_45 c1 x2 σ
      else none
    else none
def fX1_removeMember_2 (c1 : Nat) (a : Int32 × kS) : Option ((Int32 × kS) ⊕ kS) := gX1_removeMember_2 c1 a.1 a.2
def fX1_removeMember (σ : kS) (c1 : Nat) : Option kS :=
  kit (fX1_removeMember_2 c1) 300 (0, σ)
def rmX1_removeMember : Room := { frames := 0, cells := 0, slots := 0, locals := 0 }
set_option maxRecDepth 20000 in
theorem pX1_removeMember_45 (K : kC w p s m args meth c cX1_removeMember 3 RX1) (hret : meth.sig.returnType = none) {c1 : Nat} {x2 : Int32} {σ : kS} {r : ((Int32 × kS) ⊕ kS)} {o : kS} (h : fX1_removeMember_45 c1 x2 σ = some r) (hL2 : ∀ z, r = .inl z → kG w p l e rmX1_removeMember s m args below meth c (MQ below (kQv w o) args s 0 0 (kA w)) 3 z.2 2 [(0, .ref (kL w 0)), (1, .ref (kL w c1)), (2, .int (z.1))] [] 0 0) (hO : ∀ z, r = .inr z → z = o) : kG w p l e rmX1_removeMember s m args below meth c (MQ below (kQv w o) args s 0 0 (kA w)) 3 σ 45 [(0, .ref (kL w 0)), (1, .ref (kL w c1)), (2, .int x2)] [] 0 0 := by
  unfold fX1_removeMember_45 at h
  refine k_iinc (v := 1) (lv' := [(2, .int (x2 + 1)), (0, .ref (kL w 0)), (1, .ref (kL w c1))]) K dX1_removeMember_45 2 rfl (by decide) (by decide) rfl ?_
  refine k_goto K 2 dX1_removeMember_48 (by decide) ?_
  refine k_sub [1, 2, 0] rfl ?_
  cases h
  exact hL2 _ rfl
set_option maxRecDepth 20000 in
theorem pX1_removeMember_2 (K : kC w p s m args meth c cX1_removeMember 3 RX1) (hret : meth.sig.returnType = none) {c1 : Nat} {x2 : Int32} {σ : kS} {r : ((Int32 × kS) ⊕ kS)} {o : kS} (h : gX1_removeMember_2 c1 x2 σ = some r) (hL2 : ∀ z, r = .inl z → kG w p l e rmX1_removeMember s m args below meth c (MQ below (kQv w o) args s 0 0 (kA w)) 3 z.2 2 [(0, .ref (kL w 0)), (1, .ref (kL w c1)), (2, .int (z.1))] [] 0 0) (hO : ∀ z, r = .inr z → z = o) : kG w p l e rmX1_removeMember s m args below meth c (MQ below (kQv w o) args s 0 0 (kA w)) 3 σ 2 [(0, .ref (kL w 0)), (1, .ref (kL w c1)), (2, .int x2)] [] 0 0 := by
  unfold gX1_removeMember_2 at h
  refine k_iload_n K dX1_removeMember_2 2 rfl ?_
  refine k_aload_n K dX1_removeMember_3 0 rfl ?_
  refine fg_X1_41 K dX1_removeMember_4 ?_
  refine k_iconst (v := 1) K dX1_removeMember_7 (by decide) ?_
  refine k_isub K dX1_removeMember_8 ?_
  replace h := k_br h
  rcases h with ⟨b1, h⟩ | ⟨b1, h⟩
  · refine k_icmp_ge K 51 dX1_removeMember_9 (by decide) (fun _ => ?_) (fun q => absurd b1 q)
    refine k_aload_n K dX1_removeMember_51 0 rfl ?_
    refine fg_X1_16 K dX1_removeMember_52 ?_
    refine k_aload_n K dX1_removeMember_55 1 rfl ?_
    replace h := k_gd h
    obtain ⟨g2, h⟩ := h
    refine fg_X1_89 K dX1_removeMember_56 g2 ?_
    refine k_null K dX1_removeMember_59 ?_
    replace h := k_gd h
    obtain ⟨g3, h⟩ := h
    refine k_aastN K dX1_removeMember_60 kd_122 g3 ?_
    refine k_aload_n K dX1_removeMember_61 0 rfl ?_
    refine k_dup K dX1_removeMember_62 rfl ?_
    refine fg_X1_41 K dX1_removeMember_63 ?_
    refine k_iconst (v := 1) K dX1_removeMember_66 (by decide) ?_
    refine k_isub K dX1_removeMember_67 ?_
    refine fp_X1_41 K dX1_removeMember_68 ?_
    refine k_aload_n K dX1_removeMember_71 0 rfl ?_
    refine k_dup K dX1_removeMember_72 rfl ?_
    refine fg_X1_186 K dX1_removeMember_73 ?_
    refine k_iconst (v := 1) K dX1_removeMember_76 (by decide) ?_
    refine k_iadd K dX1_removeMember_77 ?_
    refine fp_X1_186 K dX1_removeMember_78 ?_
    cases h
    obtain rfl := hO _ rfl
    exact k_vret K hret dX1_removeMember_81 (by decide) (by decide)
  · refine k_icmp_ge K 51 dX1_removeMember_9 (by decide) (fun q => absurd q b1) (fun _ => ?_)
    refine k_aload_n K dX1_removeMember_12 0 rfl ?_
    refine fg_X1_11 K dX1_removeMember_13 ?_
    refine k_iload_n K dX1_removeMember_16 2 rfl ?_
    replace h := k_gd h
    obtain ⟨g4, h⟩ := h
    refine k_aald K dX1_removeMember_17 kd_1 g4 ?_
    refine k_aload_n K dX1_removeMember_18 1 rfl ?_
    replace h := k_gd h
    obtain ⟨g6, h⟩ := h
    replace h := k_br h
    rcases h with ⟨b5, h⟩ | ⟨b5, h⟩
    · refine k_acmp_ne (x := σ.2.1 1 x2.toNatClampNeg) (y := some c1) K 45 dX1_removeMember_19 (by decide) (okq_s g6.1) (okq_s g6.2) (fun q => absurd b5 q) (fun _ => ?_)
      refine k_aload_n K dX1_removeMember_22 0 rfl ?_
      refine fg_X1_11 K dX1_removeMember_23 ?_
      refine k_iload_n K dX1_removeMember_26 2 rfl ?_
      refine k_aload_n K dX1_removeMember_27 0 rfl ?_
      refine fg_X1_11 K dX1_removeMember_28 ?_
      refine k_iload_n K dX1_removeMember_31 2 rfl ?_
      refine k_iconst (v := 1) K dX1_removeMember_32 (by decide) ?_
      refine k_iadd K dX1_removeMember_33 ?_
      replace h := k_gd h
      obtain ⟨g7, h⟩ := h
      refine k_aald K dX1_removeMember_34 kd_1 g7 ?_
      replace h := k_bd h
      obtain ⟨q8, hq8, h⟩ := h
      rw [hq8]
      replace h := k_gd h
      obtain ⟨g9, h⟩ := h
      refine k_aast K dX1_removeMember_35 kd_1 g9 g4 ?_
      refine k_aload_n K dX1_removeMember_36 0 rfl ?_
      refine fg_X1_11 K dX1_removeMember_37 ?_
      refine k_iload_n K dX1_removeMember_40 2 rfl ?_
      refine k_iconst (v := 1) K dX1_removeMember_41 (by decide) ?_
      refine k_iadd K dX1_removeMember_42 ?_
      refine k_aload_n K dX1_removeMember_43 1 rfl ?_
      replace h := k_gd h
      obtain ⟨g10, h⟩ := h
      refine k_aast K dX1_removeMember_44 kd_1 g10 g7 ?_
      exact pX1_removeMember_45 K hret h hL2 hO
    · refine k_acmp_ne (x := σ.2.1 1 x2.toNatClampNeg) (y := some c1) K 45 dX1_removeMember_19 (by decide) (okq_s g6.1) (okq_s g6.2) (fun _ => ?_) (fun q => absurd q b5)
      exact pX1_removeMember_45 K hret h hL2 hO
set_option maxRecDepth 20000 in
theorem lX1_removeMember_2 (K : kC w p s m args meth c cX1_removeMember 3 RX1) (hret : meth.sig.returnType = none) {c1 : Nat} {n : Nat} {a : Int32 × kS} {r : kS} {o : kS} (h : kit (fX1_removeMember_2 c1) n a = some r) (hO : ∀ z, r = z → z = o) : kG w p l e rmX1_removeMember s m args below meth c (MQ below (kQv w o) args s 0 0 (kA w)) 3 a.2 2 [(0, .ref (kL w 0)), (1, .ref (kL w c1)), (2, .int (a.1))] [] 0 0 :=
  kit_ind (body := fX1_removeMember_2 c1) (fun a r => (∀ z, r = z → z = o) → kG w p l e rmX1_removeMember s m args below meth c (MQ below (kQv w o) args s 0 0 (kA w)) 3 a.2 2 [(0, .ref (kL w 0)), (1, .ref (kL w c1)), (2, .int (a.1))] [] 0 0) (fun a a2 r hb ih hO => pX1_removeMember_2 K hret hb (fun z e => by cases e; exact ih hO) (fun _ e => by cases e)) (fun a r hb hO => pX1_removeMember_2 K hret hb (fun _ e => by cases e) (fun z e => hO z (by cases e; rfl))) n a r h hO
set_option maxRecDepth 20000 in
theorem mX1_removeMember (l : Launch) (w : kW) (σ : kS) (c1 : Nat) {o : kS} (h : fX1_removeMember σ c1 = some o) : Met l yX1_removeMember (Cond.code yX1_removeMember cX1_removeMember 3 none :: TB) rmX1_removeMember (va_Pc [.ref (kL w 0), .ref (kL w c1)] (kP w σ)) (kQv w o) 0 0 (kA w) := by
  refine k_met (by decide +kernel) [.ref (kL w 0), .ref (kL w c1)] (Nat.le_of_ble_eq_true rfl) (by simp [lv_args, Value.category]) ?_
  intro p e s m args below meth c K hret
  have K : kC w p s m args meth c cX1_removeMember 3 RX1 := K
  obtain ⟨r, hro⟩ : ∃ r, r = o := ⟨o, rfl⟩
  rw [← hro] at h
  have hO : ∀ z, r = z → z = o := fun z e => by rw [← e]; exact hro
  unfold fX1_removeMember at h
  refine k_iconst (v := 0) K dX1_removeMember_0 (by decide) ?_
  refine k_istore_n (lv' := [(2, .int 0), (0, .ref (kL w 0)), (1, .ref (kL w c1))]) K dX1_removeMember_1 (by decide) rfl ?_
  refine k_sub [1, 2, 0] rfl ?_
  exact lX1_removeMember_2 K hret h hO
end F_X1_removeMember
section F_J9_floorMod_7cf53
variable {w : kW} {p : Program} {l : Launch} {e : Env} {s : State} {m : MethodId} {args : Array Value} {below : List Frame} {meth : Method} {c : Code}
def fJ9_floorMod_7cf53 (x0 : Int32) (x1 : Int32) : Option Int32 :=
  if ¬ x1 = 0 then
    if 0 ≤ (x0 ^^^ x1) then
      some (x0 - x0 / x1 * x1)
    else
      if (x0 - x0 / x1 * x1) = 0 then
        some (x0 - x0 / x1 * x1)
      else
        some ((x0 - x0 / x1 * x1) + x1)
  else none
def rmJ9_floorMod_7cf53 : Room := { frames := 0, cells := 0, slots := 0, locals := 0 }
set_option maxRecDepth 20000 in
theorem mJ9_floorMod_7cf53 (l : Launch) (w : kW) (σ0 : kS) (x0 : Int32) (x1 : Int32) {o : Int32} (h : fJ9_floorMod_7cf53 x0 x1 = some o) : Met l yJ9_floorMod_7cf53 (Cond.code yJ9_floorMod_7cf53 cJ9_floorMod_7cf53 3 (some .int) :: TB) rmJ9_floorMod_7cf53 (va_Pc [.int x0, .int x1] (kP w σ0)) (kQi w o σ0) 0 0 (kA w) := by
  refine k_metF (by decide +kernel) [.int x0, .int x1] (Nat.le_of_ble_eq_true rfl) (by simp [lv_args, Value.category]) ?_
  intro p e s m args below meth c K hret
  have K : kC w p s m args meth c cJ9_floorMod_7cf53 3 RJ9 := K
  obtain ⟨r, hro⟩ : ∃ r, r = o := ⟨o, rfl⟩
  rw [← hro] at h
  have hO : ∀ z, r = z → z = o := fun z e => by rw [← e]; exact hro
  unfold fJ9_floorMod_7cf53 at h
  refine k_iload_n K dJ9_floorMod_7cf53_0 0 rfl ?_
  refine k_iload_n K dJ9_floorMod_7cf53_1 1 rfl ?_
  replace h := k_gd h
  obtain ⟨g1, h⟩ := h
  refine k_irem K dJ9_floorMod_7cf53_2 g1 ?_
  refine k_istore_n (lv' := [(2, .int (x0 - x0 / x1 * x1)), (0, .int x0), (1, .int x1)]) K dJ9_floorMod_7cf53_3 (by decide) rfl ?_
  refine k_iload_n K dJ9_floorMod_7cf53_4 1 rfl ?_
  refine k_iload_n K dJ9_floorMod_7cf53_5 2 rfl ?_
  refine k_ixor K dJ9_floorMod_7cf53_6 ?_
  replace h := k_br h
  rcases h with ⟨b2, h⟩ | ⟨b2, h⟩
  · refine k_if_ge K 18 dJ9_floorMod_7cf53_7 (by decide) (fun _ => ?_) (fun q => absurd b2 q)
    refine k_iload_n K dJ9_floorMod_7cf53_18 0 rfl ?_
    cases h
    obtain rfl := hO _ rfl
    exact k_iret (v := x0 - x0 / x1 * x1) K hret dJ9_floorMod_7cf53_19 (by decide) (by decide)
  · refine k_if_ge K 18 dJ9_floorMod_7cf53_7 (by decide) (fun q => absurd q b2) (fun _ => ?_)
    refine k_iload_n K dJ9_floorMod_7cf53_10 0 rfl ?_
    replace h := k_br h
    rcases h with ⟨b3, h⟩ | ⟨b3, h⟩
    · refine k_if_eq K 18 dJ9_floorMod_7cf53_11 (by decide) (fun _ => ?_) (fun q => absurd b3 q)
      refine k_iload_n K dJ9_floorMod_7cf53_18 0 rfl ?_
      cases h
      obtain rfl := hO _ rfl
      exact k_iret (v := x0 - x0 / x1 * x1) K hret dJ9_floorMod_7cf53_19 (by decide) (by decide)
    · refine k_if_eq K 18 dJ9_floorMod_7cf53_11 (by decide) (fun q => absurd q b3) (fun _ => ?_)
      refine k_iload_n K dJ9_floorMod_7cf53_14 0 rfl ?_
      refine k_iload_n K dJ9_floorMod_7cf53_15 2 rfl ?_
      refine k_iadd K dJ9_floorMod_7cf53_16 ?_
      cases h
      obtain rfl := hO _ rfl
      exact k_iret (v := (x0 - x0 / x1 * x1) + x1) K hret dJ9_floorMod_7cf53_17 (by decide) (by decide)
end F_J9_floorMod_7cf53
section C_J9_floorMod_7cf53
variable {w : kW} {p : Program} {l : Launch} {e : Env} {R : Room} {s : State} {m : MethodId} {args : Array Value} {below : List Frame} {meth : Method} {c : Code} {Q : State → Prop} {cc : ByteArray} {nL : Nat} {σ : kS} {pc : Nat} {lv : List (Nat × Value)} {st rest : List Value} {cells slots : Nat}
theorem cl_X1_227 (K : kC w p s m args meth c cc nL RX1) {a1 : Int32} {a2 : Int32} {r : Int32} (d : decode cc pc = .ok (.invokestatic 227, 3)) (h : fJ9_floorMod_7cf53 a1 a2 = some r) (hR : rmJ9_floorMod_7cf53.frames + 1 ≤ R.frames ∧ 8 + (3 + 11) + rmJ9_floorMod_7cf53.locals ≤ R.locals) (hr : (rest.map fun v => v.category).sum ≤ 8) (hf : cells + 0 ≤ R.cells ∧ slots + 0 ≤ R.slots) (kk : kG w p l e R s m args below meth c Q nL σ (pc + 3) lv (.int r :: rest) (cells + 0) (slots + 0)) : kG w p l e R s m args below meth c Q nL σ pc lv (.int a2 :: .int a1 :: rest) cells slots :=
  k_callSi (As := [.int a1, .int a2]) (rest := rest) (n := 2) K d (kg_S tw_159 tw_160 tw_57 tw_161) (by decide +kernel) rfl hR hr rfl hf (mJ9_floorMod_7cf53 l w σ a1 a2 h) ⟨rfl, rfl⟩ kk
end C_J9_floorMod_7cf53
section F_X1_livePointInTurn
variable {w : kW} {p : Program} {l : Launch} {e : Env} {s : State} {m : MethodId} {args : Array Value} {below : List Frame} {meth : Method} {c : Code}
def fX1_livePointInTurn (σ : kS) (x1 : Int32) : Option Int32 :=
  if (σ.1 0 9) = 0 then
    some ((-1))
  else
    (fJ9_floorMod_7cf53 x1 (σ.1 0 9)).bind fun r2 =>
    if vpi r2 20 then
      (σ.2.1 1 r2.toNatClampNeg).bind fun q4 =>
      if kd q4 = (0, 0, 8) then
        some (σ.1 q4 5)
      else none
    else none
def rmX1_livePointInTurn : Room := { frames := 1, cells := 0, slots := 0, locals := 22 }
set_option maxRecDepth 20000 in
theorem mX1_livePointInTurn (l : Launch) (w : kW) (σ : kS) (x1 : Int32) {o : Int32} (h : fX1_livePointInTurn σ x1 = some o) : Met l yX1_livePointInTurn (Cond.code yX1_livePointInTurn cX1_livePointInTurn 2 (some .int) :: TB) rmX1_livePointInTurn (va_Pc [.ref (kL w 0), .int x1] (kP w σ)) (kQi w o σ) 0 0 (kA w) := by
  refine k_met (by decide +kernel) [.ref (kL w 0), .int x1] (Nat.le_of_ble_eq_true rfl) (by simp [lv_args, Value.category]) ?_
  intro p e s m args below meth c K hret
  have K : kC w p s m args meth c cX1_livePointInTurn 2 RX1 := K
  obtain ⟨r, hro⟩ : ∃ r, r = o := ⟨o, rfl⟩
  rw [← hro] at h
  have hO : ∀ z, r = z → z = o := fun z e => by rw [← e]; exact hro
  unfold fX1_livePointInTurn at h
  refine k_aload_n K dX1_livePointInTurn_0 0 rfl ?_
  refine fg_X1_41 K dX1_livePointInTurn_1 ?_
  replace h := k_br h
  rcases h with ⟨b1, h⟩ | ⟨b1, h⟩
  · refine k_if_ne K 11 dX1_livePointInTurn_4 (by decide) (fun q => absurd b1 q) (fun _ => ?_)
    refine k_iconst (v := (-1)) K dX1_livePointInTurn_7 (by decide) ?_
    refine k_goto K 27 dX1_livePointInTurn_8 (by decide) ?_
    cases h
    obtain rfl := hO _ rfl
    exact k_iret (v := (-1)) K hret dX1_livePointInTurn_27 (by decide) (by decide)
  · refine k_if_ne K 11 dX1_livePointInTurn_4 (by decide) (fun _ => ?_) (fun q => absurd q b1)
    refine k_aload_n K dX1_livePointInTurn_11 0 rfl ?_
    refine fg_X1_11 K dX1_livePointInTurn_12 ?_
    refine k_iload_n K dX1_livePointInTurn_15 1 rfl ?_
    refine k_aload_n K dX1_livePointInTurn_16 0 rfl ?_
    refine fg_X1_41 K dX1_livePointInTurn_17 ?_
    replace h := k_bd h
    obtain ⟨r2, hr2, h⟩ := h
    refine cl_X1_227 K dX1_livePointInTurn_20 hr2 (by decide) (Nat.le_of_ble_eq_true rfl) (by decide) ?_
    replace h := k_gd h
    obtain ⟨g3, h⟩ := h
    refine k_aald K dX1_livePointInTurn_23 kd_1 g3 ?_
    replace h := k_bd h
    obtain ⟨q4, hq4, h⟩ := h
    rw [hq4]
    replace h := k_gd h
    obtain ⟨g5, h⟩ := h
    refine fg_X1_89 K dX1_livePointInTurn_24 g5 ?_
    cases h
    obtain rfl := hO _ rfl
    exact k_iret (v := σ.1 q4 5) K hret dX1_livePointInTurn_27 (by decide) (by decide)
end F_X1_livePointInTurn
section C_X1_livePointInTurn
variable {w : kW} {p : Program} {l : Launch} {e : Env} {R : Room} {s : State} {m : MethodId} {args : Array Value} {below : List Frame} {meth : Method} {c : Code} {Q : State → Prop} {cc : ByteArray} {nL : Nat} {σ : kS} {pc : Nat} {lv : List (Nat × Value)} {st rest : List Value} {cells slots : Nat}
theorem cl_X1_71 (K : kC w p s m args meth c cc nL RX1) {a1 : Int32} {r : Int32} (d : decode cc pc = .ok (.invokevirtual 71, 3)) (h : fX1_livePointInTurn σ a1 = some r) (hR : rmX1_livePointInTurn.frames + 1 ≤ R.frames ∧ 8 + (2 + 11) + rmX1_livePointInTurn.locals ≤ R.locals) (hr : (rest.map fun v => v.category).sum ≤ 8) (hf : cells + 0 ≤ R.cells ∧ slots + 0 ≤ R.slots) (kk : kG w p l e R s m args below meth c Q nL σ (pc + 3) lv (.int r :: rest) (cells + 0) (slots + 0)) : kG w p l e R s m args below meth c Q nL σ pc lv (.int a1 :: .ref (kL w 0) :: rest) cells slots :=
  k_callVi (As := [.int a1]) (rest := rest) (n := 1) (C := RX1) (T := TX1) K d kd_0 rfl (kg_V tw_155 tw_157 tw_1 tw_48 tw_158) rfl (by decide +kernel) rfl hR hr rfl hf (mX1_livePointInTurn l w σ a1 h) ⟨rfl, rfl⟩ kk
end C_X1_livePointInTurn
section F_X1_trueOwner
variable {w : kW} {p : Program} {l : Launch} {e : Env} {s : State} {m : MethodId} {args : Array Value} {below : List Frame} {meth : Method} {c : Code}
def gX1_trueOwner_2 (x1 : Int32) (σ : kS) (x2 : Int32) : Option ((Int32) ⊕ Int32) :=
  if (σ.1 0 9) ≤ x2 then
    (fX1_livePointInTurn σ 0).bind fun r2 =>
    some (.inr (r2))
  else
    if vpi x2 20 then
      (σ.2.1 1 x2.toNatClampNeg).bind fun q4 =>
      if kd q4 = (0, 0, 8) then
        if (σ.1 q4 5) < x1 then
          some (.inl (x2 + 1))
        else
          (σ.2.1 1 x2.toNatClampNeg).bind fun q7 =>
          if kd q7 = (0, 0, 8) then
            some (.inr (σ.1 q7 5))
          else none
      else none
    else none
def fX1_trueOwner_2 (x1 : Int32) (σ : kS) (a : Int32) : Option ((Int32) ⊕ Int32) := gX1_trueOwner_2 x1 σ a
def fX1_trueOwner (σ : kS) (x1 : Int32) : Option Int32 :=
  kit (fX1_trueOwner_2 x1 σ) 300 (0)
def rmX1_trueOwner : Room := { frames := 2, cells := 0, slots := 0, locals := 43 }
set_option maxRecDepth 20000 in
theorem pX1_trueOwner_2 (K : kC w p s m args meth c cX1_trueOwner 3 RX1) (hret : meth.sig.returnType = (some .int)) {x1 : Int32} {σ : kS} {x2 : Int32} {r : ((Int32) ⊕ Int32)} {o : Int32} (h : gX1_trueOwner_2 x1 σ x2 = some r) (hL2 : ∀ z, r = .inl z → kG w p l e rmX1_trueOwner s m args below meth c (MQ below (kQi w o σ) args s 0 0 (kA w)) 3 σ 2 [(0, .ref (kL w 0)), (1, .int x1), (2, .int z)] [] 0 0) (hO : ∀ z, r = .inr z → z = o) : kG w p l e rmX1_trueOwner s m args below meth c (MQ below (kQi w o σ) args s 0 0 (kA w)) 3 σ 2 [(0, .ref (kL w 0)), (1, .int x1), (2, .int x2)] [] 0 0 := by
  unfold gX1_trueOwner_2 at h
  refine k_iload_n K dX1_trueOwner_2 2 rfl ?_
  refine k_aload_n K dX1_trueOwner_3 0 rfl ?_
  refine fg_X1_41 K dX1_trueOwner_4 ?_
  replace h := k_br h
  rcases h with ⟨b1, h⟩ | ⟨b1, h⟩
  · refine k_icmp_ge K 39 dX1_trueOwner_7 (by decide) (fun _ => ?_) (fun q => absurd b1 q)
    refine k_aload_n K dX1_trueOwner_39 0 rfl ?_
    refine k_iconst (v := 0) K dX1_trueOwner_40 (by decide) ?_
    replace h := k_bd h
    obtain ⟨r2, hr2, h⟩ := h
    refine cl_X1_71 K dX1_trueOwner_41 hr2 (by decide) (Nat.le_of_ble_eq_true rfl) (by decide) ?_
    cases h
    obtain rfl := hO _ rfl
    exact k_iret K hret dX1_trueOwner_44 (by decide) (by decide)
  · refine k_icmp_ge K 39 dX1_trueOwner_7 (by decide) (fun q => absurd q b1) (fun _ => ?_)
    refine k_aload_n K dX1_trueOwner_10 0 rfl ?_
    refine fg_X1_11 K dX1_trueOwner_11 ?_
    refine k_iload_n K dX1_trueOwner_14 2 rfl ?_
    replace h := k_gd h
    obtain ⟨g3, h⟩ := h
    refine k_aald K dX1_trueOwner_15 kd_1 g3 ?_
    replace h := k_bd h
    obtain ⟨q4, hq4, h⟩ := h
    rw [hq4]
    replace h := k_gd h
    obtain ⟨g5, h⟩ := h
    refine fg_X1_89 K dX1_trueOwner_16 g5 ?_
    refine k_iload_n K dX1_trueOwner_19 1 rfl ?_
    replace h := k_br h
    rcases h with ⟨b6, h⟩ | ⟨b6, h⟩
    · refine k_icmp_lt K 33 dX1_trueOwner_20 (by decide) (fun _ => ?_) (fun q => absurd b6 q)
      refine k_iinc (v := 1) (lv' := [(2, .int (x2 + 1)), (0, .ref (kL w 0)), (1, .int x1)]) K dX1_trueOwner_33 2 rfl (by decide) (by decide) rfl ?_
      refine k_goto K 2 dX1_trueOwner_36 (by decide) ?_
      refine k_sub [1, 2, 0] rfl ?_
      cases h
      exact hL2 _ rfl
    · refine k_icmp_lt K 33 dX1_trueOwner_20 (by decide) (fun q => absurd q b6) (fun _ => ?_)
      refine k_aload_n K dX1_trueOwner_23 0 rfl ?_
      refine fg_X1_11 K dX1_trueOwner_24 ?_
      refine k_iload_n K dX1_trueOwner_27 2 rfl ?_
      refine k_aald K dX1_trueOwner_28 kd_1 g3 ?_
      replace h := k_bd h
      obtain ⟨q7, hq7, h⟩ := h
      rw [hq7]
      replace h := k_gd h
      obtain ⟨g8, h⟩ := h
      refine fg_X1_89 K dX1_trueOwner_29 g8 ?_
      cases h
      obtain rfl := hO _ rfl
      exact k_iret (v := σ.1 q7 5) K hret dX1_trueOwner_32 (by decide) (by decide)
set_option maxRecDepth 20000 in
theorem lX1_trueOwner_2 (K : kC w p s m args meth c cX1_trueOwner 3 RX1) (hret : meth.sig.returnType = (some .int)) {x1 : Int32} {σ : kS} {n : Nat} {a : Int32} {r : Int32} {o : Int32} (h : kit (fX1_trueOwner_2 x1 σ) n a = some r) (hO : ∀ z, r = z → z = o) : kG w p l e rmX1_trueOwner s m args below meth c (MQ below (kQi w o σ) args s 0 0 (kA w)) 3 σ 2 [(0, .ref (kL w 0)), (1, .int x1), (2, .int a)] [] 0 0 :=
  kit_ind (body := fX1_trueOwner_2 x1 σ) (fun a r => (∀ z, r = z → z = o) → kG w p l e rmX1_trueOwner s m args below meth c (MQ below (kQi w o σ) args s 0 0 (kA w)) 3 σ 2 [(0, .ref (kL w 0)), (1, .int x1), (2, .int a)] [] 0 0) (fun a a2 r hb ih hO => pX1_trueOwner_2 K hret hb (fun z e => by cases e; exact ih hO) (fun _ e => by cases e)) (fun a r hb hO => pX1_trueOwner_2 K hret hb (fun _ e => by cases e) (fun z e => hO z (by cases e; rfl))) n a r h hO
set_option maxRecDepth 20000 in
theorem mX1_trueOwner (l : Launch) (w : kW) (σ : kS) (x1 : Int32) {o : Int32} (h : fX1_trueOwner σ x1 = some o) : Met l yX1_trueOwner (Cond.code yX1_trueOwner cX1_trueOwner 3 (some .int) :: TB) rmX1_trueOwner (va_Pc [.ref (kL w 0), .int x1] (kP w σ)) (kQi w o σ) 0 0 (kA w) := by
  refine k_met (by decide +kernel) [.ref (kL w 0), .int x1] (Nat.le_of_ble_eq_true rfl) (by simp [lv_args, Value.category]) ?_
  intro p e s m args below meth c K hret
  have K : kC w p s m args meth c cX1_trueOwner 3 RX1 := K
  obtain ⟨r, hro⟩ : ∃ r, r = o := ⟨o, rfl⟩
  rw [← hro] at h
  have hO : ∀ z, r = z → z = o := fun z e => by rw [← e]; exact hro
  unfold fX1_trueOwner at h
  refine k_iconst (v := 0) K dX1_trueOwner_0 (by decide) ?_
  refine k_istore_n (lv' := [(2, .int 0), (0, .ref (kL w 0)), (1, .int x1)]) K dX1_trueOwner_1 (by decide) rfl ?_
  refine k_sub [1, 2, 0] rfl ?_
  exact lX1_trueOwner_2 K hret h hO
end F_X1_trueOwner
section C_X1_trueOwner
variable {w : kW} {p : Program} {l : Launch} {e : Env} {R : Room} {s : State} {m : MethodId} {args : Array Value} {below : List Frame} {meth : Method} {c : Code} {Q : State → Prop} {cc : ByteArray} {nL : Nat} {σ : kS} {pc : Nat} {lv : List (Nat × Value)} {st rest : List Value} {cells slots : Nat}
theorem cl_X1_179 (K : kC w p s m args meth c cc nL RX1) {a1 : Int32} {r : Int32} (d : decode cc pc = .ok (.invokevirtual 179, 3)) (h : fX1_trueOwner σ a1 = some r) (hR : rmX1_trueOwner.frames + 1 ≤ R.frames ∧ 8 + (3 + 11) + rmX1_trueOwner.locals ≤ R.locals) (hr : (rest.map fun v => v.category).sum ≤ 8) (hf : cells + 0 ≤ R.cells ∧ slots + 0 ≤ R.slots) (kk : kG w p l e R s m args below meth c Q nL σ (pc + 3) lv (.int r :: rest) (cells + 0) (slots + 0)) : kG w p l e R s m args below meth c Q nL σ pc lv (.int a1 :: .ref (kL w 0) :: rest) cells slots :=
  k_callVi (As := [.int a1]) (rest := rest) (n := 1) (C := RX1) (T := TX1) K d kd_0 rfl (kg_V tw_515 tw_517 tw_22 tw_48 tw_518) rfl (by decide +kernel) rfl hR hr rfl hf (mX1_trueOwner l w σ a1 h) ⟨rfl, rfl⟩ kk
end C_X1_trueOwner
section F_X1_countPairs
variable {w : kW} {p : Program} {l : Launch} {e : Env} {s : State} {m : MethodId} {args : Array Value} {below : List Frame} {meth : Method} {c : Code}
def fX1_countPairs_37 (x1 : Int32) (x2 : Int32) (x3 : Int32) (σ : kS) : Option ((Int32 × Int32) ⊕ ((Int32 × Int32) ⊕ Int32)) :=
  some (.inl (x1, x3 + 1))
def gX1_countPairs_14 (x2 : Int32) (σ : kS) (x1 : Int32) (x3 : Int32) : Option ((Int32 × Int32) ⊕ ((Int32 × Int32) ⊕ Int32)) :=
  if 64 ≤ x3 then
    some (.inr (.inl (x1, x2 + 1)))
  else
    if vpi x2 20 then
      (σ.2.1 1 x2.toNatClampNeg).bind fun q3 =>
      if kd q3 = (0, 0, 8) then
        if vpi x3 64 then
          if (σ.1 (q3 + 1 + 2) x3.toNatClampNeg) ≤ 0 then
            fX1_countPairs_37 x1 x2 x3 σ
          else
            fX1_countPairs_37 (x1 + 1) x2 x3 σ
        else none
      else none
    else none
def fX1_countPairs_14 (x2 : Int32) (σ : kS) (a : Int32 × Int32) : Option ((Int32 × Int32) ⊕ ((Int32 × Int32) ⊕ Int32)) := gX1_countPairs_14 x2 σ a.1 a.2
def gX1_countPairs_4 (σ : kS) (x1 : Int32) (x2 : Int32) : Option ((Int32 × Int32) ⊕ Int32) :=
  if (σ.1 0 9) ≤ x2 then
    some (.inr (x1))
  else
    kit (fX1_countPairs_14 x2 σ) 300 (x1, 0)
def fX1_countPairs_4 (σ : kS) (a : Int32 × Int32) : Option ((Int32 × Int32) ⊕ Int32) := gX1_countPairs_4 σ a.1 a.2
def fX1_countPairs (σ : kS) : Option Int32 :=
  kit (fX1_countPairs_4 σ) 300 (0, 0)
def rmX1_countPairs : Room := { frames := 0, cells := 0, slots := 0, locals := 0 }
set_option maxRecDepth 20000 in
theorem pX1_countPairs_37 (K : kC w p s m args meth c cX1_countPairs 4 RX1) (hret : meth.sig.returnType = (some .int)) {x1 : Int32} {x2 : Int32} {x3 : Int32} {σ : kS} {r : ((Int32 × Int32) ⊕ ((Int32 × Int32) ⊕ Int32))} {o : Int32} (h : fX1_countPairs_37 x1 x2 x3 σ = some r) (hL4 : ∀ z, r = .inr (.inl z) → kG w p l e rmX1_countPairs s m args below meth c (MQ below (kQi w o σ) args s 0 0 (kA w)) 4 σ 4 [(0, .ref (kL w 0)), (1, .int (z.1)), (2, .int (z.2))] [] 0 0) (hL14 : ∀ z, r = .inl z → kG w p l e rmX1_countPairs s m args below meth c (MQ below (kQi w o σ) args s 0 0 (kA w)) 4 σ 14 [(0, .ref (kL w 0)), (1, .int (z.1)), (2, .int x2), (3, .int (z.2))] [] 0 0) (hO : ∀ z, r = .inr (.inr z) → z = o) : kG w p l e rmX1_countPairs s m args below meth c (MQ below (kQi w o σ) args s 0 0 (kA w)) 4 σ 37 [(0, .ref (kL w 0)), (1, .int x1), (2, .int x2), (3, .int x3)] [] 0 0 := by
  unfold fX1_countPairs_37 at h
  refine k_iinc (v := 1) (lv' := [(3, .int (x3 + 1)), (0, .ref (kL w 0)), (1, .int x1), (2, .int x2)]) K dX1_countPairs_37 3 rfl (by decide) (by decide) rfl ?_
  refine k_goto K 14 dX1_countPairs_40 (by decide) ?_
  refine k_sub [1, 2, 3, 0] rfl ?_
  cases h
  exact hL14 _ rfl
set_option maxRecDepth 20000 in
theorem pX1_countPairs_14 (K : kC w p s m args meth c cX1_countPairs 4 RX1) (hret : meth.sig.returnType = (some .int)) {x2 : Int32} {σ : kS} {x1 : Int32} {x3 : Int32} {r : ((Int32 × Int32) ⊕ ((Int32 × Int32) ⊕ Int32))} {o : Int32} (h : gX1_countPairs_14 x2 σ x1 x3 = some r) (hL4 : ∀ z, r = .inr (.inl z) → kG w p l e rmX1_countPairs s m args below meth c (MQ below (kQi w o σ) args s 0 0 (kA w)) 4 σ 4 [(0, .ref (kL w 0)), (1, .int (z.1)), (2, .int (z.2))] [] 0 0) (hL14 : ∀ z, r = .inl z → kG w p l e rmX1_countPairs s m args below meth c (MQ below (kQi w o σ) args s 0 0 (kA w)) 4 σ 14 [(0, .ref (kL w 0)), (1, .int (z.1)), (2, .int x2), (3, .int (z.2))] [] 0 0) (hO : ∀ z, r = .inr (.inr z) → z = o) : kG w p l e rmX1_countPairs s m args below meth c (MQ below (kQi w o σ) args s 0 0 (kA w)) 4 σ 14 [(0, .ref (kL w 0)), (1, .int x1), (2, .int x2), (3, .int x3)] [] 0 0 := by
  unfold gX1_countPairs_14 at h
  refine k_iload_n K dX1_countPairs_14 3 rfl ?_
  refine k_bipush (v := 64) K dX1_countPairs_15 (by decide) ?_
  replace h := k_br h
  rcases h with ⟨b1, h⟩ | ⟨b1, h⟩
  · refine k_icmp_ge K 43 dX1_countPairs_17 (by decide) (fun _ => ?_) (fun q => absurd b1 q)
    refine k_iinc (v := 1) (lv' := [(2, .int (x2 + 1)), (0, .ref (kL w 0)), (1, .int x1), (3, .int x3)]) K dX1_countPairs_43 2 rfl (by decide) (by decide) rfl ?_
    refine k_goto K 4 dX1_countPairs_46 (by decide) ?_
    refine k_sub [1, 2, 0] rfl ?_
    cases h
    exact hL4 _ rfl
  · refine k_icmp_ge K 43 dX1_countPairs_17 (by decide) (fun q => absurd q b1) (fun _ => ?_)
    refine k_aload_n K dX1_countPairs_20 0 rfl ?_
    refine fg_X1_11 K dX1_countPairs_21 ?_
    refine k_iload_n K dX1_countPairs_24 2 rfl ?_
    replace h := k_gd h
    obtain ⟨g2, h⟩ := h
    refine k_aald K dX1_countPairs_25 kd_1 g2 ?_
    replace h := k_bd h
    obtain ⟨q3, hq3, h⟩ := h
    rw [hq3]
    replace h := k_gd h
    obtain ⟨g4, h⟩ := h
    refine fg_X1_159 K dX1_countPairs_26 g4 ?_
    refine k_iload_n K dX1_countPairs_29 3 rfl ?_
    replace h := k_gd h
    obtain ⟨g5, h⟩ := h
    refine k_iald K dX1_countPairs_30 (kd_m0 g4).2.2.1 g5 ?_
    replace h := k_br h
    rcases h with ⟨b6, h⟩ | ⟨b6, h⟩
    · refine k_if_le K 37 dX1_countPairs_31 (by decide) (fun _ => ?_) (fun q => absurd b6 q)
      exact pX1_countPairs_37 K hret h hL4 hL14 hO
    · refine k_if_le K 37 dX1_countPairs_31 (by decide) (fun q => absurd q b6) (fun _ => ?_)
      refine k_iinc (v := 1) (lv' := [(1, .int (x1 + 1)), (0, .ref (kL w 0)), (2, .int x2), (3, .int x3)]) K dX1_countPairs_34 1 rfl (by decide) (by decide) rfl ?_
      refine k_sub [1, 0, 2, 3] rfl ?_
      exact pX1_countPairs_37 K hret h hL4 hL14 hO
set_option maxRecDepth 20000 in
theorem lX1_countPairs_14 (K : kC w p s m args meth c cX1_countPairs 4 RX1) (hret : meth.sig.returnType = (some .int)) {x2 : Int32} {σ : kS} {n : Nat} {a : Int32 × Int32} {r : ((Int32 × Int32) ⊕ Int32)} {o : Int32} (h : kit (fX1_countPairs_14 x2 σ) n a = some r) (hL4 : ∀ z, r = .inl z → kG w p l e rmX1_countPairs s m args below meth c (MQ below (kQi w o σ) args s 0 0 (kA w)) 4 σ 4 [(0, .ref (kL w 0)), (1, .int (z.1)), (2, .int (z.2))] [] 0 0) (hO : ∀ z, r = .inr z → z = o) : kG w p l e rmX1_countPairs s m args below meth c (MQ below (kQi w o σ) args s 0 0 (kA w)) 4 σ 14 [(0, .ref (kL w 0)), (1, .int (a.1)), (2, .int x2), (3, .int (a.2))] [] 0 0 :=
  kit_ind (body := fX1_countPairs_14 x2 σ) (fun a r => (∀ z, r = .inl z → kG w p l e rmX1_countPairs s m args below meth c (MQ below (kQi w o σ) args s 0 0 (kA w)) 4 σ 4 [(0, .ref (kL w 0)), (1, .int (z.1)), (2, .int (z.2))] [] 0 0) → (∀ z, r = .inr z → z = o) → kG w p l e rmX1_countPairs s m args below meth c (MQ below (kQi w o σ) args s 0 0 (kA w)) 4 σ 14 [(0, .ref (kL w 0)), (1, .int (a.1)), (2, .int x2), (3, .int (a.2))] [] 0 0) (fun a a2 r hb ih hL4 hO => pX1_countPairs_14 K hret hb (fun _ e => by cases e) (fun z e => by cases e; exact ih hL4 hO) (fun _ e => by cases e)) (fun a r hb hL4 hO => pX1_countPairs_14 K hret hb (fun z e => hL4 z (by cases e; rfl)) (fun _ e => by cases e) (fun z e => hO z (by cases e; rfl))) n a r h hL4 hO
set_option maxRecDepth 20000 in
theorem pX1_countPairs_4 (K : kC w p s m args meth c cX1_countPairs 4 RX1) (hret : meth.sig.returnType = (some .int)) {σ : kS} {x1 : Int32} {x2 : Int32} {r : ((Int32 × Int32) ⊕ Int32)} {o : Int32} (h : gX1_countPairs_4 σ x1 x2 = some r) (hL4 : ∀ z, r = .inl z → kG w p l e rmX1_countPairs s m args below meth c (MQ below (kQi w o σ) args s 0 0 (kA w)) 4 σ 4 [(0, .ref (kL w 0)), (1, .int (z.1)), (2, .int (z.2))] [] 0 0) (hO : ∀ z, r = .inr z → z = o) : kG w p l e rmX1_countPairs s m args below meth c (MQ below (kQi w o σ) args s 0 0 (kA w)) 4 σ 4 [(0, .ref (kL w 0)), (1, .int x1), (2, .int x2)] [] 0 0 := by
  unfold gX1_countPairs_4 at h
  refine k_iload_n K dX1_countPairs_4 2 rfl ?_
  refine k_aload_n K dX1_countPairs_5 0 rfl ?_
  refine fg_X1_41 K dX1_countPairs_6 ?_
  replace h := k_br h
  rcases h with ⟨b1, h⟩ | ⟨b1, h⟩
  · refine k_icmp_ge K 49 dX1_countPairs_9 (by decide) (fun _ => ?_) (fun q => absurd b1 q)
    refine k_iload_n K dX1_countPairs_49 1 rfl ?_
    cases h
    obtain rfl := hO _ rfl
    exact k_iret K hret dX1_countPairs_50 (by decide) (by decide)
  · refine k_icmp_ge K 49 dX1_countPairs_9 (by decide) (fun q => absurd q b1) (fun _ => ?_)
    refine k_iconst (v := 0) K dX1_countPairs_12 (by decide) ?_
    refine k_istore_n (lv' := [(3, .int 0), (0, .ref (kL w 0)), (1, .int x1), (2, .int x2)]) K dX1_countPairs_13 (by decide) rfl ?_
    refine k_sub [1, 2, 3, 0] rfl ?_
    exact lX1_countPairs_14 K hret h hL4 hO
set_option maxRecDepth 20000 in
theorem lX1_countPairs_4 (K : kC w p s m args meth c cX1_countPairs 4 RX1) (hret : meth.sig.returnType = (some .int)) {σ : kS} {n : Nat} {a : Int32 × Int32} {r : Int32} {o : Int32} (h : kit (fX1_countPairs_4 σ) n a = some r) (hO : ∀ z, r = z → z = o) : kG w p l e rmX1_countPairs s m args below meth c (MQ below (kQi w o σ) args s 0 0 (kA w)) 4 σ 4 [(0, .ref (kL w 0)), (1, .int (a.1)), (2, .int (a.2))] [] 0 0 :=
  kit_ind (body := fX1_countPairs_4 σ) (fun a r => (∀ z, r = z → z = o) → kG w p l e rmX1_countPairs s m args below meth c (MQ below (kQi w o σ) args s 0 0 (kA w)) 4 σ 4 [(0, .ref (kL w 0)), (1, .int (a.1)), (2, .int (a.2))] [] 0 0) (fun a a2 r hb ih hO => pX1_countPairs_4 K hret hb (fun z e => by cases e; exact ih hO) (fun _ e => by cases e)) (fun a r hb hO => pX1_countPairs_4 K hret hb (fun _ e => by cases e) (fun z e => hO z (by cases e; rfl))) n a r h hO
set_option maxRecDepth 20000 in
theorem mX1_countPairs (l : Launch) (w : kW) (σ : kS) {o : Int32} (h : fX1_countPairs σ = some o) : Met l yX1_countPairs (Cond.code yX1_countPairs cX1_countPairs 4 (some .int) :: TB) rmX1_countPairs (va_Pc [.ref (kL w 0)] (kP w σ)) (kQi w o σ) 0 0 (kA w) := by
  refine k_met (by decide +kernel) [.ref (kL w 0)] (Nat.le_of_ble_eq_true rfl) (by simp [lv_args, Value.category]) ?_
  intro p e s m args below meth c K hret
  have K : kC w p s m args meth c cX1_countPairs 4 RX1 := K
  obtain ⟨r, hro⟩ : ∃ r, r = o := ⟨o, rfl⟩
  rw [← hro] at h
  have hO : ∀ z, r = z → z = o := fun z e => by rw [← e]; exact hro
  unfold fX1_countPairs at h
  refine k_iconst (v := 0) K dX1_countPairs_0 (by decide) ?_
  refine k_istore_n (lv' := [(1, .int 0), (0, .ref (kL w 0))]) K dX1_countPairs_1 (by decide) rfl ?_
  refine k_iconst (v := 0) K dX1_countPairs_2 (by decide) ?_
  refine k_istore_n (lv' := [(2, .int 0), (1, .int 0), (0, .ref (kL w 0))]) K dX1_countPairs_3 (by decide) rfl ?_
  refine k_sub [2, 1, 0] rfl ?_
  exact lX1_countPairs_4 K hret h hO
end F_X1_countPairs
section F_X1_highestInList
variable {w : kW} {p : Program} {l : Launch} {e : Env} {s : State} {m : MethodId} {args : Array Value} {below : List Frame} {meth : Method} {c : Code}
def fX1_highestInList_45 (c1 : Nat) (x2 : Int32) (c3 : Nat) (x4 : Int32) (σ : kS) : Option ((Nat × Int32) ⊕ Nat) :=
  some (.inl (c3, x4 + 1))
def gX1_highestInList_5 (c1 : Nat) (x2 : Int32) (σ : kS) (c3 : Nat) (x4 : Int32) : Option ((Nat × Int32) ⊕ Nat) :=
  if (σ.1 0 7) ≤ x4 then
    some (.inr (c3))
  else
    if kd c1 = (0, 0, 8) then
      if vpi x4 4 then
        (fX1_liveAt σ (σ.1 (c1 + 1 + 0) x4.toNatClampNeg)).bind fun r4 =>
        kmn (r4) (
          fX1_highestInList_45 c1 x2 c3 x4 σ
        ) fun q5 =>
          (fX1_isHigher σ q5 c3 x2).bind fun r6 =>
          if r6 = 0 then
            fX1_highestInList_45 c1 x2 c3 x4 σ
          else
            fX1_highestInList_45 c1 x2 q5 x4 σ
      else none
    else none
def fX1_highestInList_5 (c1 : Nat) (x2 : Int32) (σ : kS) (a : Nat × Int32) : Option ((Nat × Int32) ⊕ Nat) := gX1_highestInList_5 c1 x2 σ a.1 a.2
def fX1_highestInList (σ : kS) (c1 : Nat) (x2 : Int32) : Option Nat :=
  kit (fX1_highestInList_5 c1 x2 σ) 300 (c1, 0)
def rmX1_highestInList : Room := { frames := 2, cells := 0, slots := 0, locals := 41 }
set_option maxRecDepth 20000 in
theorem pX1_highestInList_45 (K : kC w p s m args meth c cX1_highestInList 6 RX1) (hret : meth.sig.returnType = (some (.object "KeyRing$Member"))) {c1 : Nat} {x2 : Int32} {c3 : Nat} {x4 : Int32} {σ : kS} {r : ((Nat × Int32) ⊕ Nat)} {o : Nat} (h : fX1_highestInList_45 c1 x2 c3 x4 σ = some r) (hL5 : ∀ z, r = .inl z → kG w p l e rmX1_highestInList s m args below meth c (MQ below (kQq w (some o) σ) args s 0 0 (kA w)) 6 σ 5 [(0, .ref (kL w 0)), (1, .ref (kL w c1)), (2, .int x2), (3, .ref (kL w (z.1))), (4, .int (z.2))] [] 0 0) (hO : ∀ z, r = .inr z → z = o) : kG w p l e rmX1_highestInList s m args below meth c (MQ below (kQq w (some o) σ) args s 0 0 (kA w)) 6 σ 45 [(0, .ref (kL w 0)), (1, .ref (kL w c1)), (2, .int x2), (3, .ref (kL w c3)), (4, .int x4)] [] 0 0 := by
  unfold fX1_highestInList_45 at h
  refine k_iinc (v := 1) (lv' := [(4, .int (x4 + 1)), (0, .ref (kL w 0)), (1, .ref (kL w c1)), (2, .int x2), (3, .ref (kL w c3))]) K dX1_highestInList_45 4 rfl (by decide) (by decide) rfl ?_
  refine k_goto K 5 dX1_highestInList_48 (by decide) ?_
  refine k_sub [1, 2, 3, 4, 0] rfl ?_
  cases h
  exact hL5 _ rfl
set_option maxRecDepth 20000 in
theorem pX1_highestInList_5 (K : kC w p s m args meth c cX1_highestInList 6 RX1) (hret : meth.sig.returnType = (some (.object "KeyRing$Member"))) {c1 : Nat} {x2 : Int32} {σ : kS} {c3 : Nat} {x4 : Int32} {r : ((Nat × Int32) ⊕ Nat)} {o : Nat} (h : gX1_highestInList_5 c1 x2 σ c3 x4 = some r) (hL5 : ∀ z, r = .inl z → kG w p l e rmX1_highestInList s m args below meth c (MQ below (kQq w (some o) σ) args s 0 0 (kA w)) 6 σ 5 [(0, .ref (kL w 0)), (1, .ref (kL w c1)), (2, .int x2), (3, .ref (kL w (z.1))), (4, .int (z.2))] [] 0 0) (hO : ∀ z, r = .inr z → z = o) : kG w p l e rmX1_highestInList s m args below meth c (MQ below (kQq w (some o) σ) args s 0 0 (kA w)) 6 σ 5 [(0, .ref (kL w 0)), (1, .ref (kL w c1)), (2, .int x2), (3, .ref (kL w c3)), (4, .int x4)] [] 0 0 := by
  unfold gX1_highestInList_5 at h
  refine k_iload K dX1_highestInList_5 4 rfl ?_
  refine k_aload_n K dX1_highestInList_7 0 rfl ?_
  refine fg_X1_30 K dX1_highestInList_8 ?_
  replace h := k_br h
  rcases h with ⟨b1, h⟩ | ⟨b1, h⟩
  · refine k_icmp_ge K 51 dX1_highestInList_11 (by decide) (fun _ => ?_) (fun q => absurd b1 q)
    refine k_aload_n K dX1_highestInList_51 3 rfl ?_
    cases h
    obtain rfl := hO _ rfl
    exact k_aret (v := some c3) K hret dX1_highestInList_52 (by decide) (by decide)
  · refine k_icmp_ge K 51 dX1_highestInList_11 (by decide) (fun q => absurd q b1) (fun _ => ?_)
    refine k_aload_n K dX1_highestInList_14 0 rfl ?_
    refine k_aload_n K dX1_highestInList_15 1 rfl ?_
    replace h := k_gd h
    obtain ⟨g2, h⟩ := h
    refine fg_X1_68 K dX1_highestInList_16 g2 ?_
    refine k_iload K dX1_highestInList_19 4 rfl ?_
    replace h := k_gd h
    obtain ⟨g3, h⟩ := h
    refine k_iald K dX1_highestInList_21 (kd_m0 g2).1 g3 ?_
    replace h := k_bd h
    obtain ⟨r4, hr4, h⟩ := h
    refine cl_X1_204 K dX1_highestInList_22 hr4 (by decide) (Nat.le_of_ble_eq_true rfl) (by decide) ?_
    refine k_astoreQ (lv' := [(5, va_rf ((r4).map (kL w))), (0, .ref (kL w 0)), (1, .ref (kL w c1)), (2, .int x2), (3, .ref (kL w c3)), (4, .int x4)]) K dX1_highestInList_25 (by decide) rfl ?_
    refine k_aloadQ K dX1_highestInList_27 0 rfl ?_
    replace h := k_mn h
    rcases h with ⟨hq5, h⟩ | ⟨q5, hq5, h⟩
    · subst hq5
      refine k_ifnullN K 45 dX1_highestInList_29 (by decide) ?_
      refine k_sub [1, 2, 3, 4, 5] rfl ?_
      exact pX1_highestInList_45 K hret h hL5 hO
    · subst hq5
      refine k_ifnull K dX1_highestInList_29 ?_
      refine k_aload K dX1_highestInList_32 0 rfl ?_
      refine k_aload_n K dX1_highestInList_34 4 rfl ?_
      refine k_iload_n K dX1_highestInList_35 3 rfl ?_
      replace h := k_bd h
      obtain ⟨r6, hr6, h⟩ := h
      refine cl_X1_258 K dX1_highestInList_36 hr6 (by decide) (Nat.le_of_ble_eq_true rfl) (by decide) ?_
      replace h := k_br h
      rcases h with ⟨b7, h⟩ | ⟨b7, h⟩
      · refine k_if_eq K 45 dX1_highestInList_39 (by decide) (fun _ => ?_) (fun q => absurd b7 q)
        refine k_sub [1, 2, 3, 4, 5] rfl ?_
        exact pX1_highestInList_45 K hret h hL5 hO
      · refine k_if_eq K 45 dX1_highestInList_39 (by decide) (fun q => absurd q b7) (fun _ => ?_)
        refine k_aload K dX1_highestInList_42 0 rfl ?_
        refine k_astore_n (lv' := [(3, .ref (kL w q5)), (5, .ref (kL w q5)), (0, .ref (kL w 0)), (1, .ref (kL w c1)), (2, .int x2), (4, .int x4)]) K dX1_highestInList_44 (by decide) rfl ?_
        refine k_sub [2, 3, 4, 0, 5] rfl ?_
        exact pX1_highestInList_45 K hret h hL5 hO
set_option maxRecDepth 20000 in
theorem lX1_highestInList_5 (K : kC w p s m args meth c cX1_highestInList 6 RX1) (hret : meth.sig.returnType = (some (.object "KeyRing$Member"))) {c1 : Nat} {x2 : Int32} {σ : kS} {n : Nat} {a : Nat × Int32} {r : Nat} {o : Nat} (h : kit (fX1_highestInList_5 c1 x2 σ) n a = some r) (hO : ∀ z, r = z → z = o) : kG w p l e rmX1_highestInList s m args below meth c (MQ below (kQq w (some o) σ) args s 0 0 (kA w)) 6 σ 5 [(0, .ref (kL w 0)), (1, .ref (kL w c1)), (2, .int x2), (3, .ref (kL w (a.1))), (4, .int (a.2))] [] 0 0 :=
  kit_ind (body := fX1_highestInList_5 c1 x2 σ) (fun a r => (∀ z, r = z → z = o) → kG w p l e rmX1_highestInList s m args below meth c (MQ below (kQq w (some o) σ) args s 0 0 (kA w)) 6 σ 5 [(0, .ref (kL w 0)), (1, .ref (kL w c1)), (2, .int x2), (3, .ref (kL w (a.1))), (4, .int (a.2))] [] 0 0) (fun a a2 r hb ih hO => pX1_highestInList_5 K hret hb (fun z e => by cases e; exact ih hO) (fun _ e => by cases e)) (fun a r hb hO => pX1_highestInList_5 K hret hb (fun _ e => by cases e) (fun z e => hO z (by cases e; rfl))) n a r h hO
set_option maxRecDepth 20000 in
theorem mX1_highestInList (l : Launch) (w : kW) (σ : kS) (c1 : Nat) (x2 : Int32) {o : Nat} (h : fX1_highestInList σ c1 x2 = some o) : Met l yX1_highestInList (Cond.code yX1_highestInList cX1_highestInList 6 (some (.object "KeyRing$Member")) :: TB) rmX1_highestInList (va_Pc [.ref (kL w 0), .ref (kL w c1), .int x2] (kP w σ)) (kQq w (some o) σ) 0 0 (kA w) := by
  refine k_met (by decide +kernel) [.ref (kL w 0), .ref (kL w c1), .int x2] (Nat.le_of_ble_eq_true rfl) (by simp [lv_args, Value.category]) ?_
  intro p e s m args below meth c K hret
  have K : kC w p s m args meth c cX1_highestInList 6 RX1 := K
  obtain ⟨r, hro⟩ : ∃ r, r = o := ⟨o, rfl⟩
  rw [← hro] at h
  have hO : ∀ z, r = z → z = o := fun z e => by rw [← e]; exact hro
  unfold fX1_highestInList at h
  refine k_aload_n K dX1_highestInList_0 1 rfl ?_
  refine k_astore_n (lv' := [(3, .ref (kL w c1)), (0, .ref (kL w 0)), (1, .ref (kL w c1)), (2, .int x2)]) K dX1_highestInList_1 (by decide) rfl ?_
  refine k_iconst (v := 0) K dX1_highestInList_2 (by decide) ?_
  refine k_istore (lv' := [(4, .int 0), (3, .ref (kL w c1)), (0, .ref (kL w 0)), (1, .ref (kL w c1)), (2, .int x2)]) K dX1_highestInList_3 (by decide) rfl ?_
  refine k_sub [2, 3, 4, 1, 0] rfl ?_
  exact lX1_highestInList_5 K hret h hO
end F_X1_highestInList
section F_X1_countTrueFingers
variable {w : kW} {p : Program} {l : Launch} {e : Env} {s : State} {m : MethodId} {args : Array Value} {below : List Frame} {meth : Method} {c : Code}
def fX1_countTrueFingers_57 (x1 : Int32) (x2 : Int32) (n3 : Option Nat) (x4 : Int32) (σ : kS) : Option ((Int32 × Int32) ⊕ ((Int32 × Int32) ⊕ Int32)) :=
  some (.inl (x1, x4 + 1))
def gX1_countTrueFingers_22 (x2 : Int32) (n3 : Option Nat) (σ : kS) (x1 : Int32) (x4 : Int32) : Option ((Int32 × Int32) ⊕ ((Int32 × Int32) ⊕ Int32)) :=
  if 8 ≤ x4 then
    some (.inr (.inl (x1, x2 + 1)))
  else
    (n3).bind fun q2 =>
    if kd q2 = (0, 0, 8) then
      if vpi x4 8 then
        (fX1_pointUp (σ.1 q2 5) (1 <<< (x4 &&& 31))).bind fun r5 =>
        (fX1_trueOwner σ r5).bind fun r6 =>
        if (σ.1 (q2 + 1 + 1) x4.toNatClampNeg) = r6 then
          fX1_countTrueFingers_57 (x1 + 1) x2 (some q2) x4 σ
        else
          fX1_countTrueFingers_57 x1 x2 (some q2) x4 σ
      else none
    else none
def fX1_countTrueFingers_22 (x2 : Int32) (n3 : Option Nat) (σ : kS) (a : Int32 × Int32) : Option ((Int32 × Int32) ⊕ ((Int32 × Int32) ⊕ Int32)) := gX1_countTrueFingers_22 x2 n3 σ a.1 a.2
def gX1_countTrueFingers_4 (σ : kS) (x1 : Int32) (x2 : Int32) : Option ((Int32 × Int32) ⊕ Int32) :=
  if (σ.1 0 9) ≤ x2 then
    some (.inr (x1))
  else
    if vpi x2 20 then
      kit (fX1_countTrueFingers_22 x2 (σ.2.1 1 x2.toNatClampNeg) σ) 300 (x1, 0)
    else none
def fX1_countTrueFingers_4 (σ : kS) (a : Int32 × Int32) : Option ((Int32 × Int32) ⊕ Int32) := gX1_countTrueFingers_4 σ a.1 a.2
def fX1_countTrueFingers (σ : kS) : Option Int32 :=
  kit (fX1_countTrueFingers_4 σ) 300 (0, 0)
def rmX1_countTrueFingers : Room := { frames := 3, cells := 0, slots := 0, locals := 65 }
set_option maxRecDepth 20000 in
theorem pX1_countTrueFingers_57 (K : kC w p s m args meth c cX1_countTrueFingers 5 RX1) (hret : meth.sig.returnType = (some .int)) {x1 : Int32} {x2 : Int32} {n3 : Option Nat} {x4 : Int32} {σ : kS} {r : ((Int32 × Int32) ⊕ ((Int32 × Int32) ⊕ Int32))} {o : Int32} (h : fX1_countTrueFingers_57 x1 x2 n3 x4 σ = some r) (hL4 : ∀ z, r = .inr (.inl z) → kG w p l e rmX1_countTrueFingers s m args below meth c (MQ below (kQi w o σ) args s 0 0 (kA w)) 5 σ 4 [(0, .ref (kL w 0)), (1, .int (z.1)), (2, .int (z.2))] [] 0 0) (hL22 : ∀ z, r = .inl z → kG w p l e rmX1_countTrueFingers s m args below meth c (MQ below (kQi w o σ) args s 0 0 (kA w)) 5 σ 22 [(0, .ref (kL w 0)), (1, .int (z.1)), (2, .int x2), (3, va_rf ((n3).map (kL w))), (4, .int (z.2))] [] 0 0) (hO : ∀ z, r = .inr (.inr z) → z = o) : kG w p l e rmX1_countTrueFingers s m args below meth c (MQ below (kQi w o σ) args s 0 0 (kA w)) 5 σ 57 [(0, .ref (kL w 0)), (1, .int x1), (2, .int x2), (3, va_rf ((n3).map (kL w))), (4, .int x4)] [] 0 0 := by
  unfold fX1_countTrueFingers_57 at h
  refine k_iinc (v := 1) (lv' := [(4, .int (x4 + 1)), (0, .ref (kL w 0)), (1, .int x1), (2, .int x2), (3, va_rf ((n3).map (kL w)))]) K dX1_countTrueFingers_57 4 rfl (by decide) (by decide) rfl ?_
  refine k_goto K 22 dX1_countTrueFingers_60 (by decide) ?_
  refine k_sub [1, 2, 3, 4, 0] rfl ?_
  cases h
  exact hL22 _ rfl
set_option maxRecDepth 20000 in
theorem pX1_countTrueFingers_22 (K : kC w p s m args meth c cX1_countTrueFingers 5 RX1) (hret : meth.sig.returnType = (some .int)) {x2 : Int32} {n3 : Option Nat} {σ : kS} {x1 : Int32} {x4 : Int32} {r : ((Int32 × Int32) ⊕ ((Int32 × Int32) ⊕ Int32))} {o : Int32} (h : gX1_countTrueFingers_22 x2 n3 σ x1 x4 = some r) (hL4 : ∀ z, r = .inr (.inl z) → kG w p l e rmX1_countTrueFingers s m args below meth c (MQ below (kQi w o σ) args s 0 0 (kA w)) 5 σ 4 [(0, .ref (kL w 0)), (1, .int (z.1)), (2, .int (z.2))] [] 0 0) (hL22 : ∀ z, r = .inl z → kG w p l e rmX1_countTrueFingers s m args below meth c (MQ below (kQi w o σ) args s 0 0 (kA w)) 5 σ 22 [(0, .ref (kL w 0)), (1, .int (z.1)), (2, .int x2), (3, va_rf ((n3).map (kL w))), (4, .int (z.2))] [] 0 0) (hO : ∀ z, r = .inr (.inr z) → z = o) : kG w p l e rmX1_countTrueFingers s m args below meth c (MQ below (kQi w o σ) args s 0 0 (kA w)) 5 σ 22 [(0, .ref (kL w 0)), (1, .int x1), (2, .int x2), (3, va_rf ((n3).map (kL w))), (4, .int x4)] [] 0 0 := by
  unfold gX1_countTrueFingers_22 at h
  refine k_iload K dX1_countTrueFingers_22 4 rfl ?_
  refine k_bipush (v := 8) K dX1_countTrueFingers_24 (by decide) ?_
  replace h := k_br h
  rcases h with ⟨b1, h⟩ | ⟨b1, h⟩
  · refine k_icmp_ge K 63 dX1_countTrueFingers_26 (by decide) (fun _ => ?_) (fun q => absurd b1 q)
    refine k_iinc (v := 1) (lv' := [(2, .int (x2 + 1)), (0, .ref (kL w 0)), (1, .int x1), (3, va_rf ((n3).map (kL w))), (4, .int x4)]) K dX1_countTrueFingers_63 2 rfl (by decide) (by decide) rfl ?_
    refine k_goto K 4 dX1_countTrueFingers_66 (by decide) ?_
    refine k_sub [1, 2, 0] rfl ?_
    cases h
    exact hL4 _ rfl
  · refine k_icmp_ge K 63 dX1_countTrueFingers_26 (by decide) (fun q => absurd q b1) (fun _ => ?_)
    refine k_aload_nQ K dX1_countTrueFingers_29 3 rfl ?_
    replace h := k_bd h
    obtain ⟨q2, hq2, h⟩ := h
    subst hq2
    replace h := k_gd h
    obtain ⟨g3, h⟩ := h
    refine fg_X1_120 K dX1_countTrueFingers_30 g3 ?_
    refine k_iload K dX1_countTrueFingers_33 4 rfl ?_
    replace h := k_gd h
    obtain ⟨g4, h⟩ := h
    refine k_iald K dX1_countTrueFingers_35 (kd_m0 g3).2.1 g4 ?_
    refine k_aload_n K dX1_countTrueFingers_36 0 rfl ?_
    refine k_aload_n K dX1_countTrueFingers_37 3 rfl ?_
    refine fg_X1_89 K dX1_countTrueFingers_38 g3 ?_
    refine k_iconst (v := 1) K dX1_countTrueFingers_41 (by decide) ?_
    refine k_iload K dX1_countTrueFingers_42 4 rfl ?_
    refine k_ishl K dX1_countTrueFingers_44 ?_
    replace h := k_bd h
    obtain ⟨r5, hr5, h⟩ := h
    refine cl_X1_224 K dX1_countTrueFingers_45 hr5 (by decide) (Nat.le_of_ble_eq_true rfl) (by decide) ?_
    replace h := k_bd h
    obtain ⟨r6, hr6, h⟩ := h
    refine cl_X1_179 K dX1_countTrueFingers_48 hr6 (by decide) (Nat.le_of_ble_eq_true rfl) (by decide) ?_
    replace h := k_br h
    rcases h with ⟨b7, h⟩ | ⟨b7, h⟩
    · refine k_icmp_ne K 57 dX1_countTrueFingers_51 (by decide) (fun q => absurd b7 q) (fun _ => ?_)
      refine k_iinc (v := 1) (lv' := [(1, .int (x1 + 1)), (0, .ref (kL w 0)), (2, .int x2), (3, .ref (kL w q2)), (4, .int x4)]) K dX1_countTrueFingers_54 1 rfl (by decide) (by decide) rfl ?_
      refine k_sub [1, 0, 2, 3, 4] rfl ?_
      exact pX1_countTrueFingers_57 K hret h hL4 hL22 hO
    · refine k_icmp_ne K 57 dX1_countTrueFingers_51 (by decide) (fun _ => ?_) (fun q => absurd q b7)
      exact pX1_countTrueFingers_57 K hret h hL4 hL22 hO
set_option maxRecDepth 20000 in
theorem lX1_countTrueFingers_22 (K : kC w p s m args meth c cX1_countTrueFingers 5 RX1) (hret : meth.sig.returnType = (some .int)) {x2 : Int32} {n3 : Option Nat} {σ : kS} {n : Nat} {a : Int32 × Int32} {r : ((Int32 × Int32) ⊕ Int32)} {o : Int32} (h : kit (fX1_countTrueFingers_22 x2 n3 σ) n a = some r) (hL4 : ∀ z, r = .inl z → kG w p l e rmX1_countTrueFingers s m args below meth c (MQ below (kQi w o σ) args s 0 0 (kA w)) 5 σ 4 [(0, .ref (kL w 0)), (1, .int (z.1)), (2, .int (z.2))] [] 0 0) (hO : ∀ z, r = .inr z → z = o) : kG w p l e rmX1_countTrueFingers s m args below meth c (MQ below (kQi w o σ) args s 0 0 (kA w)) 5 σ 22 [(0, .ref (kL w 0)), (1, .int (a.1)), (2, .int x2), (3, va_rf ((n3).map (kL w))), (4, .int (a.2))] [] 0 0 :=
  kit_ind (body := fX1_countTrueFingers_22 x2 n3 σ) (fun a r => (∀ z, r = .inl z → kG w p l e rmX1_countTrueFingers s m args below meth c (MQ below (kQi w o σ) args s 0 0 (kA w)) 5 σ 4 [(0, .ref (kL w 0)), (1, .int (z.1)), (2, .int (z.2))] [] 0 0) → (∀ z, r = .inr z → z = o) → kG w p l e rmX1_countTrueFingers s m args below meth c (MQ below (kQi w o σ) args s 0 0 (kA w)) 5 σ 22 [(0, .ref (kL w 0)), (1, .int (a.1)), (2, .int x2), (3, va_rf ((n3).map (kL w))), (4, .int (a.2))] [] 0 0) (fun a a2 r hb ih hL4 hO => pX1_countTrueFingers_22 K hret hb (fun _ e => by cases e) (fun z e => by cases e; exact ih hL4 hO) (fun _ e => by cases e)) (fun a r hb hL4 hO => pX1_countTrueFingers_22 K hret hb (fun z e => hL4 z (by cases e; rfl)) (fun _ e => by cases e) (fun z e => hO z (by cases e; rfl))) n a r h hL4 hO
set_option maxRecDepth 20000 in
theorem pX1_countTrueFingers_4 (K : kC w p s m args meth c cX1_countTrueFingers 5 RX1) (hret : meth.sig.returnType = (some .int)) {σ : kS} {x1 : Int32} {x2 : Int32} {r : ((Int32 × Int32) ⊕ Int32)} {o : Int32} (h : gX1_countTrueFingers_4 σ x1 x2 = some r) (hL4 : ∀ z, r = .inl z → kG w p l e rmX1_countTrueFingers s m args below meth c (MQ below (kQi w o σ) args s 0 0 (kA w)) 5 σ 4 [(0, .ref (kL w 0)), (1, .int (z.1)), (2, .int (z.2))] [] 0 0) (hO : ∀ z, r = .inr z → z = o) : kG w p l e rmX1_countTrueFingers s m args below meth c (MQ below (kQi w o σ) args s 0 0 (kA w)) 5 σ 4 [(0, .ref (kL w 0)), (1, .int x1), (2, .int x2)] [] 0 0 := by
  unfold gX1_countTrueFingers_4 at h
  refine k_iload_n K dX1_countTrueFingers_4 2 rfl ?_
  refine k_aload_n K dX1_countTrueFingers_5 0 rfl ?_
  refine fg_X1_41 K dX1_countTrueFingers_6 ?_
  replace h := k_br h
  rcases h with ⟨b1, h⟩ | ⟨b1, h⟩
  · refine k_icmp_ge K 69 dX1_countTrueFingers_9 (by decide) (fun _ => ?_) (fun q => absurd b1 q)
    refine k_iload_n K dX1_countTrueFingers_69 1 rfl ?_
    cases h
    obtain rfl := hO _ rfl
    exact k_iret K hret dX1_countTrueFingers_70 (by decide) (by decide)
  · refine k_icmp_ge K 69 dX1_countTrueFingers_9 (by decide) (fun q => absurd q b1) (fun _ => ?_)
    refine k_aload_n K dX1_countTrueFingers_12 0 rfl ?_
    refine fg_X1_11 K dX1_countTrueFingers_13 ?_
    refine k_iload_n K dX1_countTrueFingers_16 2 rfl ?_
    replace h := k_gd h
    obtain ⟨g2, h⟩ := h
    refine k_aald K dX1_countTrueFingers_17 kd_1 g2 ?_
    refine k_astore_nQ (lv' := [(3, va_rf ((σ.2.1 1 x2.toNatClampNeg).map (kL w))), (0, .ref (kL w 0)), (1, .int x1), (2, .int x2)]) K dX1_countTrueFingers_18 (by decide) rfl ?_
    refine k_iconst (v := 0) K dX1_countTrueFingers_19 (by decide) ?_
    refine k_istore (lv' := [(4, .int 0), (3, va_rf ((σ.2.1 1 x2.toNatClampNeg).map (kL w))), (0, .ref (kL w 0)), (1, .int x1), (2, .int x2)]) K dX1_countTrueFingers_20 (by decide) rfl ?_
    refine k_sub [2, 3, 4, 1, 0] rfl ?_
    exact lX1_countTrueFingers_22 K hret h hL4 hO
set_option maxRecDepth 20000 in
theorem lX1_countTrueFingers_4 (K : kC w p s m args meth c cX1_countTrueFingers 5 RX1) (hret : meth.sig.returnType = (some .int)) {σ : kS} {n : Nat} {a : Int32 × Int32} {r : Int32} {o : Int32} (h : kit (fX1_countTrueFingers_4 σ) n a = some r) (hO : ∀ z, r = z → z = o) : kG w p l e rmX1_countTrueFingers s m args below meth c (MQ below (kQi w o σ) args s 0 0 (kA w)) 5 σ 4 [(0, .ref (kL w 0)), (1, .int (a.1)), (2, .int (a.2))] [] 0 0 :=
  kit_ind (body := fX1_countTrueFingers_4 σ) (fun a r => (∀ z, r = z → z = o) → kG w p l e rmX1_countTrueFingers s m args below meth c (MQ below (kQi w o σ) args s 0 0 (kA w)) 5 σ 4 [(0, .ref (kL w 0)), (1, .int (a.1)), (2, .int (a.2))] [] 0 0) (fun a a2 r hb ih hO => pX1_countTrueFingers_4 K hret hb (fun z e => by cases e; exact ih hO) (fun _ e => by cases e)) (fun a r hb hO => pX1_countTrueFingers_4 K hret hb (fun _ e => by cases e) (fun z e => hO z (by cases e; rfl))) n a r h hO
set_option maxRecDepth 20000 in
theorem mX1_countTrueFingers (l : Launch) (w : kW) (σ : kS) {o : Int32} (h : fX1_countTrueFingers σ = some o) : Met l yX1_countTrueFingers (Cond.code yX1_countTrueFingers cX1_countTrueFingers 5 (some .int) :: TB) rmX1_countTrueFingers (va_Pc [.ref (kL w 0)] (kP w σ)) (kQi w o σ) 0 0 (kA w) := by
  refine k_met (by decide +kernel) [.ref (kL w 0)] (Nat.le_of_ble_eq_true rfl) (by simp [lv_args, Value.category]) ?_
  intro p e s m args below meth c K hret
  have K : kC w p s m args meth c cX1_countTrueFingers 5 RX1 := K
  obtain ⟨r, hro⟩ : ∃ r, r = o := ⟨o, rfl⟩
  rw [← hro] at h
  have hO : ∀ z, r = z → z = o := fun z e => by rw [← e]; exact hro
  unfold fX1_countTrueFingers at h
  refine k_iconst (v := 0) K dX1_countTrueFingers_0 (by decide) ?_
  refine k_istore_n (lv' := [(1, .int 0), (0, .ref (kL w 0))]) K dX1_countTrueFingers_1 (by decide) rfl ?_
  refine k_iconst (v := 0) K dX1_countTrueFingers_2 (by decide) ?_
  refine k_istore_n (lv' := [(2, .int 0), (1, .int 0), (0, .ref (kL w 0))]) K dX1_countTrueFingers_3 (by decide) rfl ?_
  refine k_sub [2, 1, 0] rfl ?_
  exact lX1_countTrueFingers_4 K hret h hO
end F_X1_countTrueFingers
section F_X0_begin
variable {w : kW} {p : Program} {l : Launch} {e : Env} {s : State} {m : MethodId} {args : Array Value} {below : List Frame} {meth : Method} {c : Code}
def fX0_begin (σ : kS) (c0 : Nat) (x1 : Int32) : Option kS :=
  if kd c0 = (0, 0, 8) then
    (fJ7_fill_53178 (sI (sI (sI σ c0 5 x1) c0 6 ((-1))) c0 7 0) (c0 + 1 + 0) ((-1))).bind fun r2 =>
    (fJ7_fill_53178 r2 (c0 + 1 + 1) ((-1))).bind fun r3 =>
    (fJ7_fill_53178 r3 (c0 + 1 + 2) 0).bind fun r4 =>
    (fJ7_fill_53178 r4 (c0 + 1 + 3) ((-1))).bind fun r5 =>
    (fJ7_fill_53178 r5 (c0 + 1 + 4) ((-1))).bind fun r6 =>
    some (r6)
  else none
def rmX0_begin : Room := { frames := 1, cells := 0, slots := 0, locals := 23 }
set_option maxRecDepth 20000 in
theorem mX0_begin (l : Launch) (w : kW) (σ : kS) (c0 : Nat) (x1 : Int32) {o : kS} (h : fX0_begin σ c0 x1 = some o) : Met l yX0_begin (Cond.code yX0_begin cX0_begin 2 none :: TB) rmX0_begin (va_Pc [.ref (kL w c0), .int x1] (kP w σ)) (kQv w o) 0 0 (kA w) := by
  refine k_met (by decide +kernel) [.ref (kL w c0), .int x1] (Nat.le_of_ble_eq_true rfl) (by simp [lv_args, Value.category]) ?_
  intro p e s m args below meth c K hret
  have K : kC w p s m args meth c cX0_begin 2 RX0 := K
  obtain ⟨r, hro⟩ : ∃ r, r = o := ⟨o, rfl⟩
  rw [← hro] at h
  have hO : ∀ z, r = z → z = o := fun z e => by rw [← e]; exact hro
  unfold fX0_begin at h
  refine k_aload_n K dX0_begin_0 0 rfl ?_
  refine k_iload_n K dX0_begin_1 1 rfl ?_
  replace h := k_gd h
  obtain ⟨g1, h⟩ := h
  refine fp_X0_27 K dX0_begin_2 g1 ?_
  refine k_aload_n K dX0_begin_5 0 rfl ?_
  refine k_iconst (v := (-1)) K dX0_begin_6 (by decide) ?_
  refine fp_X0_31 K dX0_begin_7 g1 ?_
  refine k_aload_n K dX0_begin_10 0 rfl ?_
  refine k_iconst (v := 0) K dX0_begin_11 (by decide) ?_
  refine fp_X0_34 K dX0_begin_12 g1 ?_
  refine k_aload_n K dX0_begin_15 0 rfl ?_
  refine fg_X0_9 K dX0_begin_16 g1 ?_
  refine k_iconst (v := (-1)) K dX0_begin_19 (by decide) ?_
  replace h := k_bd h
  obtain ⟨r2, hr2, h⟩ := h
  refine cl_X0_37 K dX0_begin_20 hr2 (by decide) (Nat.le_of_ble_eq_true rfl) (by decide) ?_
  refine k_aload_n K dX0_begin_23 0 rfl ?_
  refine fg_X0_15 K dX0_begin_24 g1 ?_
  refine k_iconst (v := (-1)) K dX0_begin_27 (by decide) ?_
  replace h := k_bd h
  obtain ⟨r3, hr3, h⟩ := h
  refine cl_X0_37 K dX0_begin_28 hr3 (by decide) (Nat.le_of_ble_eq_true rfl) (by decide) ?_
  refine k_aload_n K dX0_begin_31 0 rfl ?_
  refine fg_X0_18 K dX0_begin_32 g1 ?_
  refine k_iconst (v := 0) K dX0_begin_35 (by decide) ?_
  replace h := k_bd h
  obtain ⟨r4, hr4, h⟩ := h
  refine cl_X0_37 K dX0_begin_36 hr4 (by decide) (Nat.le_of_ble_eq_true rfl) (by decide) ?_
  refine k_aload_n K dX0_begin_39 0 rfl ?_
  refine fg_X0_21 K dX0_begin_40 g1 ?_
  refine k_iconst (v := (-1)) K dX0_begin_43 (by decide) ?_
  replace h := k_bd h
  obtain ⟨r5, hr5, h⟩ := h
  refine cl_X0_37 K dX0_begin_44 hr5 (by decide) (Nat.le_of_ble_eq_true rfl) (by decide) ?_
  refine k_aload_n K dX0_begin_47 0 rfl ?_
  refine fg_X0_24 K dX0_begin_48 g1 ?_
  refine k_iconst (v := (-1)) K dX0_begin_51 (by decide) ?_
  replace h := k_bd h
  obtain ⟨r6, hr6, h⟩ := h
  refine cl_X0_37 K dX0_begin_52 hr6 (by decide) (Nat.le_of_ble_eq_true rfl) (by decide) ?_
  cases h
  obtain rfl := hO _ rfl
  exact k_vret K hret dX0_begin_55 (by decide) (by decide)
end F_X0_begin
section C_X0_begin
variable {w : kW} {p : Program} {l : Launch} {e : Env} {R : Room} {s : State} {m : MethodId} {args : Array Value} {below : List Frame} {meth : Method} {c : Code} {Q : State → Prop} {cc : ByteArray} {nL : Nat} {σ : kS} {pc : Nat} {lv : List (Nat × Value)} {st rest : List Value} {cells slots : Nat}
theorem cl_X1_232 (K : kC w p s m args meth c cc nL RX1) {a0 : Nat} {a1 : Int32} {r : kS} (d : decode cc pc = .ok (.invokevirtual 232, 3)) (hk : kd a0 = (0, 0, 8)) (h : fX0_begin σ a0 a1 = some r) (hR : rmX0_begin.frames + 1 ≤ R.frames ∧ 8 + (2 + 11) + rmX0_begin.locals ≤ R.locals) (hr : (rest.map fun v => v.category).sum ≤ 8) (hf : cells + 0 ≤ R.cells ∧ slots + 0 ≤ R.slots) (kk : kG w p l e R s m args below meth c Q nL r (pc + 3) lv (rest) (cells + 0) (slots + 0)) : kG w p l e R s m args below meth c Q nL σ pc lv (.int a1 :: .ref (kL w a0) :: rest) cells slots :=
  k_callVv (As := [.int a1]) (rest := rest) (n := 1) (C := RX0) (T := TX0) K d hk rfl (kg_V tw_280 tw_281 tw_282 tw_49 tw_283) rfl (by decide +kernel) rfl hR hr rfl hf (mX0_begin l w σ a0 a1 h) ⟨rfl, rfl⟩ kk
end C_X0_begin
section F_X1_addMember
variable {w : kW} {p : Program} {l : Launch} {e : Env} {s : State} {m : MethodId} {args : Array Value} {below : List Frame} {meth : Method} {c : Code}
def fX1_addMember_54 (x1 : Int32) (n2 : Option Nat) (x3 : Int32) (σ : kS) : Option (Nat × kS) :=
  (n2).bind fun q1 =>
  if kd q1 = (0, 0, 8) then
    if vpi x3 20 then
      (fX0_begin (sR σ 1 x3.toNatClampNeg (some q1)) q1 x1).bind fun r4 =>
      if vpi x1 256 then
        some ((q1, sI (sI (sR r4 122 x1.toNatClampNeg (some q1)) 123 x1.toNatClampNeg 1) 0 9 (((sI (sR r4 122 x1.toNatClampNeg (some q1)) 123 x1.toNatClampNeg 1).1 0 9) + 1)))
      else none
    else none
  else none
def gX1_addMember_15 (x1 : Int32) (n2 : Option Nat) (x3 : Int32) (σ : kS) : Option ((Int32 × kS) ⊕ (Nat × kS)) :=
  if x3 ≤ 0 then
    (fX1_addMember_54 x1 n2 x3 σ).map .inr
  else
    if vpi (x3 - 1) 20 then
      (σ.2.1 1 (x3 - 1).toNatClampNeg).bind fun q3 =>
      if kd q3 = (0, 0, 8) then
        if (σ.1 q3 5) ≤ x1 then
          (fX1_addMember_54 x1 n2 x3 σ).map .inr
        else
          (σ.2.1 1 (x3 - 1).toNatClampNeg).bind fun q6 =>
          if kd q6 = (0, 0, 8) then
            if vpi x3 20 then
              some (.inl (x3 + (-1), sR σ 1 x3.toNatClampNeg (some q6)))
            else none
          else none
      else none
    else none
def fX1_addMember_15 (x1 : Int32) (n2 : Option Nat) (a : Int32 × kS) : Option ((Int32 × kS) ⊕ (Nat × kS)) := gX1_addMember_15 x1 n2 a.1 a.2
def fX1_addMember (σ : kS) (x1 : Int32) : Option (Nat × kS) :=
  if vpi (σ.1 0 9) 20 then
    kit (fX1_addMember_15 x1 (σ.2.1 1 (σ.1 0 9).toNatClampNeg)) 300 (σ.1 0 9, σ)
  else none
def rmX1_addMember : Room := { frames := 2, cells := 0, slots := 0, locals := 44 }
set_option maxRecDepth 20000 in
theorem pX1_addMember_54 (K : kC w p s m args meth c cX1_addMember 4 RX1) (hret : meth.sig.returnType = (some (.object "KeyRing$Member"))) {x1 : Int32} {n2 : Option Nat} {x3 : Int32} {σ : kS} {r : (Nat × kS)} {o : (Nat × kS)} (h : fX1_addMember_54 x1 n2 x3 σ = some r) (hO : ∀ z, r = z → z = o) : kG w p l e rmX1_addMember s m args below meth c (MQ below (kQq w (some o.1) o.2) args s 0 0 (kA w)) 4 σ 54 [(0, .ref (kL w 0)), (1, .int x1), (2, va_rf ((n2).map (kL w))), (3, .int x3)] [] 0 0 := by
  unfold fX1_addMember_54 at h
  refine k_aload_n K dX1_addMember_54 0 rfl ?_
  refine fg_X1_11 K dX1_addMember_55 ?_
  refine k_iload_n K dX1_addMember_58 3 rfl ?_
  refine k_aload_nQ K dX1_addMember_59 2 rfl ?_
  replace h := k_bd h
  obtain ⟨q1, hq1, h⟩ := h
  subst hq1
  replace h := k_gd h
  obtain ⟨g2, h⟩ := h
  replace h := k_gd h
  obtain ⟨g3, h⟩ := h
  refine k_aast K dX1_addMember_60 kd_1 g2 g3 ?_
  refine k_aload_n K dX1_addMember_61 2 rfl ?_
  refine k_iload_n K dX1_addMember_62 1 rfl ?_
  replace h := k_bd h
  obtain ⟨r4, hr4, h⟩ := h
  refine cl_X1_232 K dX1_addMember_63 g2 hr4 (by decide) (Nat.le_of_ble_eq_true rfl) (by decide) ?_
  refine k_aload_n K dX1_addMember_66 0 rfl ?_
  refine fg_X1_16 K dX1_addMember_67 ?_
  refine k_iload_n K dX1_addMember_70 1 rfl ?_
  refine k_aload_n K dX1_addMember_71 2 rfl ?_
  replace h := k_gd h
  obtain ⟨g5, h⟩ := h
  refine k_aast K dX1_addMember_72 kd_122 g2 g5 ?_
  refine k_aload_n K dX1_addMember_73 0 rfl ?_
  refine fg_X1_19 K dX1_addMember_74 ?_
  refine k_iload_n K dX1_addMember_77 1 rfl ?_
  refine k_iconst (v := 1) K dX1_addMember_78 (by decide) ?_
  refine k_zast K dX1_addMember_79 kd_123 g5 (by decide) ?_
  refine k_aload_n K dX1_addMember_80 0 rfl ?_
  refine k_dup K dX1_addMember_81 rfl ?_
  refine fg_X1_41 K dX1_addMember_82 ?_
  refine k_iconst (v := 1) K dX1_addMember_85 (by decide) ?_
  refine k_iadd K dX1_addMember_86 ?_
  refine fp_X1_41 K dX1_addMember_87 ?_
  refine k_aload_n K dX1_addMember_90 2 rfl ?_
  cases h
  obtain rfl := hO _ rfl
  exact k_aret (v := some q1) K hret dX1_addMember_91 (by decide) (by decide)
set_option maxRecDepth 20000 in
theorem pX1_addMember_15 (K : kC w p s m args meth c cX1_addMember 4 RX1) (hret : meth.sig.returnType = (some (.object "KeyRing$Member"))) {x1 : Int32} {n2 : Option Nat} {x3 : Int32} {σ : kS} {r : ((Int32 × kS) ⊕ (Nat × kS))} {o : (Nat × kS)} (h : gX1_addMember_15 x1 n2 x3 σ = some r) (hL15 : ∀ z, r = .inl z → kG w p l e rmX1_addMember s m args below meth c (MQ below (kQq w (some o.1) o.2) args s 0 0 (kA w)) 4 z.2 15 [(0, .ref (kL w 0)), (1, .int x1), (2, va_rf ((n2).map (kL w))), (3, .int (z.1))] [] 0 0) (hO : ∀ z, r = .inr z → z = o) : kG w p l e rmX1_addMember s m args below meth c (MQ below (kQq w (some o.1) o.2) args s 0 0 (kA w)) 4 σ 15 [(0, .ref (kL w 0)), (1, .int x1), (2, va_rf ((n2).map (kL w))), (3, .int x3)] [] 0 0 := by
  unfold gX1_addMember_15 at h
  refine k_iload_n K dX1_addMember_15 3 rfl ?_
  replace h := k_br h
  rcases h with ⟨b1, h⟩ | ⟨b1, h⟩
  · refine k_if_le K 54 dX1_addMember_16 (by decide) (fun _ => ?_) (fun q => absurd b1 q)
    replace h := k_mp h
    obtain ⟨_, h, rfl⟩ := h
    exact pX1_addMember_54 K hret h (fun z e => hO z (by rw [e]))
  · refine k_if_le K 54 dX1_addMember_16 (by decide) (fun q => absurd q b1) (fun _ => ?_)
    refine k_aload_n K dX1_addMember_19 0 rfl ?_
    refine fg_X1_11 K dX1_addMember_20 ?_
    refine k_iload_n K dX1_addMember_23 3 rfl ?_
    refine k_iconst (v := 1) K dX1_addMember_24 (by decide) ?_
    refine k_isub K dX1_addMember_25 ?_
    replace h := k_gd h
    obtain ⟨g2, h⟩ := h
    refine k_aald K dX1_addMember_26 kd_1 g2 ?_
    replace h := k_bd h
    obtain ⟨q3, hq3, h⟩ := h
    rw [hq3]
    replace h := k_gd h
    obtain ⟨g4, h⟩ := h
    refine fg_X1_89 K dX1_addMember_27 g4 ?_
    refine k_iload_n K dX1_addMember_30 1 rfl ?_
    replace h := k_br h
    rcases h with ⟨b5, h⟩ | ⟨b5, h⟩
    · refine k_icmp_le K 54 dX1_addMember_31 (by decide) (fun _ => ?_) (fun q => absurd b5 q)
      replace h := k_mp h
      obtain ⟨_, h, rfl⟩ := h
      exact pX1_addMember_54 K hret h (fun z e => hO z (by rw [e]))
    · refine k_icmp_le K 54 dX1_addMember_31 (by decide) (fun q => absurd q b5) (fun _ => ?_)
      refine k_aload_n K dX1_addMember_34 0 rfl ?_
      refine fg_X1_11 K dX1_addMember_35 ?_
      refine k_iload_n K dX1_addMember_38 3 rfl ?_
      refine k_aload_n K dX1_addMember_39 0 rfl ?_
      refine fg_X1_11 K dX1_addMember_40 ?_
      refine k_iload_n K dX1_addMember_43 3 rfl ?_
      refine k_iconst (v := 1) K dX1_addMember_44 (by decide) ?_
      refine k_isub K dX1_addMember_45 ?_
      refine k_aald K dX1_addMember_46 kd_1 g2 ?_
      replace h := k_bd h
      obtain ⟨q6, hq6, h⟩ := h
      rw [hq6]
      replace h := k_gd h
      obtain ⟨g7, h⟩ := h
      replace h := k_gd h
      obtain ⟨g8, h⟩ := h
      refine k_aast K dX1_addMember_47 kd_1 g7 g8 ?_
      refine k_iinc (v := (-1)) (lv' := [(3, .int (x3 + (-1))), (0, .ref (kL w 0)), (1, .int x1), (2, va_rf ((n2).map (kL w)))]) K dX1_addMember_48 3 rfl (by decide) (by decide) rfl ?_
      refine k_goto K 15 dX1_addMember_51 (by decide) ?_
      refine k_sub [1, 2, 3, 0] rfl ?_
      cases h
      exact hL15 _ rfl
set_option maxRecDepth 20000 in
theorem lX1_addMember_15 (K : kC w p s m args meth c cX1_addMember 4 RX1) (hret : meth.sig.returnType = (some (.object "KeyRing$Member"))) {x1 : Int32} {n2 : Option Nat} {n : Nat} {a : Int32 × kS} {r : (Nat × kS)} {o : (Nat × kS)} (h : kit (fX1_addMember_15 x1 n2) n a = some r) (hO : ∀ z, r = z → z = o) : kG w p l e rmX1_addMember s m args below meth c (MQ below (kQq w (some o.1) o.2) args s 0 0 (kA w)) 4 a.2 15 [(0, .ref (kL w 0)), (1, .int x1), (2, va_rf ((n2).map (kL w))), (3, .int (a.1))] [] 0 0 :=
  kit_ind (body := fX1_addMember_15 x1 n2) (fun a r => (∀ z, r = z → z = o) → kG w p l e rmX1_addMember s m args below meth c (MQ below (kQq w (some o.1) o.2) args s 0 0 (kA w)) 4 a.2 15 [(0, .ref (kL w 0)), (1, .int x1), (2, va_rf ((n2).map (kL w))), (3, .int (a.1))] [] 0 0) (fun a a2 r hb ih hO => pX1_addMember_15 K hret hb (fun z e => by cases e; exact ih hO) (fun _ e => by cases e)) (fun a r hb hO => pX1_addMember_15 K hret hb (fun _ e => by cases e) (fun z e => hO z (by cases e; rfl))) n a r h hO
set_option maxRecDepth 20000 in
theorem mX1_addMember (l : Launch) (w : kW) (σ : kS) (x1 : Int32) {o : (Nat × kS)} (h : fX1_addMember σ x1 = some o) : Met l yX1_addMember (Cond.code yX1_addMember cX1_addMember 4 (some (.object "KeyRing$Member")) :: TB) rmX1_addMember (va_Pc [.ref (kL w 0), .int x1] (kP w σ)) (kQq w (some o.1) o.2) 0 0 (kA w) := by
  refine k_met (by decide +kernel) [.ref (kL w 0), .int x1] (Nat.le_of_ble_eq_true rfl) (by simp [lv_args, Value.category]) ?_
  intro p e s m args below meth c K hret
  have K : kC w p s m args meth c cX1_addMember 4 RX1 := K
  obtain ⟨r, hro⟩ : ∃ r, r = o := ⟨o, rfl⟩
  rw [← hro] at h
  have hO : ∀ z, r = z → z = o := fun z e => by rw [← e]; exact hro
  unfold fX1_addMember at h
  refine k_aload_n K dX1_addMember_0 0 rfl ?_
  refine fg_X1_11 K dX1_addMember_1 ?_
  refine k_aload_n K dX1_addMember_4 0 rfl ?_
  refine fg_X1_41 K dX1_addMember_5 ?_
  replace h := k_gd h
  obtain ⟨g1, h⟩ := h
  refine k_aald K dX1_addMember_8 kd_1 g1 ?_
  refine k_astore_nQ (lv' := [(2, va_rf ((σ.2.1 1 (σ.1 0 9).toNatClampNeg).map (kL w))), (0, .ref (kL w 0)), (1, .int x1)]) K dX1_addMember_9 (by decide) rfl ?_
  refine k_aload_n K dX1_addMember_10 1 rfl ?_
  refine fg_X1_41 K dX1_addMember_11 ?_
  refine k_istore_n (lv' := [(3, .int (σ.1 0 9)), (2, va_rf ((σ.2.1 1 (σ.1 0 9).toNatClampNeg).map (kL w))), (0, .ref (kL w 0)), (1, .int x1)]) K dX1_addMember_14 (by decide) rfl ?_
  refine k_sub [2, 3, 1, 0] rfl ?_
  exact lX1_addMember_15 K hret h hO
end F_X1_addMember
section F_X1_isIdealMember
variable {w : kW} {p : Program} {l : Launch} {e : Env} {s : State} {m : MethodId} {args : Array Value} {below : List Frame} {meth : Method} {c : Code}
def gX1_isIdealMember_9 (x1 : Int32) (n2 : Option Nat) (σ : kS) (x3 : Int32) : Option ((Int32) ⊕ Int32) :=
  if (σ.1 0 7) ≤ x3 then
    (n2).bind fun q2 =>
    if kd q2 = (0, 0, 8) then
      (fX1_livePointInTurn σ (x1 - 1)).bind fun r4 =>
      if (σ.1 q2 6) = r4 then
        some (.inr (1))
      else
        some (.inr (0))
    else none
  else
    (n2).bind fun q6 =>
    if kd q6 = (0, 0, 8) then
      if vpi x3 4 then
        (fX1_livePointInTurn σ ((x1 + 1) + x3)).bind fun r9 =>
        if (σ.1 (q6 + 1 + 0) x3.toNatClampNeg) = r9 then
          some (.inl (x3 + 1))
        else
          some (.inr (0))
      else none
    else none
def fX1_isIdealMember_9 (x1 : Int32) (n2 : Option Nat) (σ : kS) (a : Int32) : Option ((Int32) ⊕ Int32) := gX1_isIdealMember_9 x1 n2 σ a
def fX1_isIdealMember (σ : kS) (x1 : Int32) : Option Int32 :=
  if vpi x1 20 then
    kit (fX1_isIdealMember_9 x1 (σ.2.1 1 x1.toNatClampNeg) σ) 300 (0)
  else none
def rmX1_isIdealMember : Room := { frames := 2, cells := 0, slots := 0, locals := 43 }
set_option maxRecDepth 20000 in
theorem pX1_isIdealMember_9 (K : kC w p s m args meth c cX1_isIdealMember 4 RX1) (hret : meth.sig.returnType = (some .boolean)) {x1 : Int32} {n2 : Option Nat} {σ : kS} {x3 : Int32} {r : ((Int32) ⊕ Int32)} {o : Int32} (h : gX1_isIdealMember_9 x1 n2 σ x3 = some r) (hL9 : ∀ z, r = .inl z → kG w p l e rmX1_isIdealMember s m args below meth c (MQ below (kQi w o σ) args s 0 0 (kA w)) 4 σ 9 [(0, .ref (kL w 0)), (1, .int x1), (2, va_rf ((n2).map (kL w))), (3, .int z)] [] 0 0) (hO : ∀ z, r = .inr z → z = o) : kG w p l e rmX1_isIdealMember s m args below meth c (MQ below (kQi w o σ) args s 0 0 (kA w)) 4 σ 9 [(0, .ref (kL w 0)), (1, .int x1), (2, va_rf ((n2).map (kL w))), (3, .int x3)] [] 0 0 := by
  unfold gX1_isIdealMember_9 at h
  refine k_iload_n K dX1_isIdealMember_9 3 rfl ?_
  refine k_aload_n K dX1_isIdealMember_10 0 rfl ?_
  refine fg_X1_30 K dX1_isIdealMember_11 ?_
  replace h := k_br h
  rcases h with ⟨b1, h⟩ | ⟨b1, h⟩
  · refine k_icmp_ge K 43 dX1_isIdealMember_14 (by decide) (fun _ => ?_) (fun q => absurd b1 q)
    refine k_aload_nQ K dX1_isIdealMember_43 2 rfl ?_
    replace h := k_bd h
    obtain ⟨q2, hq2, h⟩ := h
    subst hq2
    replace h := k_gd h
    obtain ⟨g3, h⟩ := h
    refine fg_X1_75 K dX1_isIdealMember_44 g3 ?_
    refine k_aload_n K dX1_isIdealMember_47 0 rfl ?_
    refine k_iload_n K dX1_isIdealMember_48 1 rfl ?_
    refine k_iconst (v := 1) K dX1_isIdealMember_49 (by decide) ?_
    refine k_isub K dX1_isIdealMember_50 ?_
    replace h := k_bd h
    obtain ⟨r4, hr4, h⟩ := h
    refine cl_X1_71 K dX1_isIdealMember_51 hr4 (by decide) (Nat.le_of_ble_eq_true rfl) (by decide) ?_
    replace h := k_br h
    rcases h with ⟨b5, h⟩ | ⟨b5, h⟩
    · refine k_icmp_ne K 61 dX1_isIdealMember_54 (by decide) (fun q => absurd b5 q) (fun _ => ?_)
      refine k_iconst (v := 1) K dX1_isIdealMember_57 (by decide) ?_
      refine k_goto K 62 dX1_isIdealMember_58 (by decide) ?_
      cases h
      obtain rfl := hO _ rfl
      exact k_zret (v := 1) K hret (by decide) dX1_isIdealMember_62 (by decide) (by decide)
    · refine k_icmp_ne K 61 dX1_isIdealMember_54 (by decide) (fun _ => ?_) (fun q => absurd q b5)
      refine k_iconst (v := 0) K dX1_isIdealMember_61 (by decide) ?_
      cases h
      obtain rfl := hO _ rfl
      exact k_zret (v := 0) K hret (by decide) dX1_isIdealMember_62 (by decide) (by decide)
  · refine k_icmp_ge K 43 dX1_isIdealMember_14 (by decide) (fun q => absurd q b1) (fun _ => ?_)
    refine k_aload_nQ K dX1_isIdealMember_17 2 rfl ?_
    replace h := k_bd h
    obtain ⟨q6, hq6, h⟩ := h
    subst hq6
    replace h := k_gd h
    obtain ⟨g7, h⟩ := h
    refine fg_X1_68 K dX1_isIdealMember_18 g7 ?_
    refine k_iload_n K dX1_isIdealMember_21 3 rfl ?_
    replace h := k_gd h
    obtain ⟨g8, h⟩ := h
    refine k_iald K dX1_isIdealMember_22 (kd_m0 g7).1 g8 ?_
    refine k_aload_n K dX1_isIdealMember_23 0 rfl ?_
    refine k_iload_n K dX1_isIdealMember_24 1 rfl ?_
    refine k_iconst (v := 1) K dX1_isIdealMember_25 (by decide) ?_
    refine k_iadd K dX1_isIdealMember_26 ?_
    refine k_iload_n K dX1_isIdealMember_27 3 rfl ?_
    refine k_iadd K dX1_isIdealMember_28 ?_
    replace h := k_bd h
    obtain ⟨r9, hr9, h⟩ := h
    refine cl_X1_71 K dX1_isIdealMember_29 hr9 (by decide) (Nat.le_of_ble_eq_true rfl) (by decide) ?_
    replace h := k_br h
    rcases h with ⟨b10, h⟩ | ⟨b10, h⟩
    · refine k_icmp_eq K 37 dX1_isIdealMember_32 (by decide) (fun _ => ?_) (fun q => absurd b10 q)
      refine k_iinc (v := 1) (lv' := [(3, .int (x3 + 1)), (0, .ref (kL w 0)), (1, .int x1), (2, .ref (kL w q6))]) K dX1_isIdealMember_37 3 rfl (by decide) (by decide) rfl ?_
      refine k_goto K 9 dX1_isIdealMember_40 (by decide) ?_
      refine k_sub [1, 2, 3, 0] rfl ?_
      cases h
      exact hL9 _ rfl
    · refine k_icmp_eq K 37 dX1_isIdealMember_32 (by decide) (fun q => absurd q b10) (fun _ => ?_)
      refine k_iconst (v := 0) K dX1_isIdealMember_35 (by decide) ?_
      cases h
      obtain rfl := hO _ rfl
      exact k_zret (v := 0) K hret (by decide) dX1_isIdealMember_36 (by decide) (by decide)
set_option maxRecDepth 20000 in
theorem lX1_isIdealMember_9 (K : kC w p s m args meth c cX1_isIdealMember 4 RX1) (hret : meth.sig.returnType = (some .boolean)) {x1 : Int32} {n2 : Option Nat} {σ : kS} {n : Nat} {a : Int32} {r : Int32} {o : Int32} (h : kit (fX1_isIdealMember_9 x1 n2 σ) n a = some r) (hO : ∀ z, r = z → z = o) : kG w p l e rmX1_isIdealMember s m args below meth c (MQ below (kQi w o σ) args s 0 0 (kA w)) 4 σ 9 [(0, .ref (kL w 0)), (1, .int x1), (2, va_rf ((n2).map (kL w))), (3, .int a)] [] 0 0 :=
  kit_ind (body := fX1_isIdealMember_9 x1 n2 σ) (fun a r => (∀ z, r = z → z = o) → kG w p l e rmX1_isIdealMember s m args below meth c (MQ below (kQi w o σ) args s 0 0 (kA w)) 4 σ 9 [(0, .ref (kL w 0)), (1, .int x1), (2, va_rf ((n2).map (kL w))), (3, .int a)] [] 0 0) (fun a a2 r hb ih hO => pX1_isIdealMember_9 K hret hb (fun z e => by cases e; exact ih hO) (fun _ e => by cases e)) (fun a r hb hO => pX1_isIdealMember_9 K hret hb (fun _ e => by cases e) (fun z e => hO z (by cases e; rfl))) n a r h hO
set_option maxRecDepth 20000 in
theorem mX1_isIdealMember (l : Launch) (w : kW) (σ : kS) (x1 : Int32) {o : Int32} (h : fX1_isIdealMember σ x1 = some o) : Met l yX1_isIdealMember (Cond.code yX1_isIdealMember cX1_isIdealMember 4 (some .boolean) :: TB) rmX1_isIdealMember (va_Pc [.ref (kL w 0), .int x1] (kP w σ)) (kQi w o σ) 0 0 (kA w) := by
  refine k_met (by decide +kernel) [.ref (kL w 0), .int x1] (Nat.le_of_ble_eq_true rfl) (by simp [lv_args, Value.category]) ?_
  intro p e s m args below meth c K hret
  have K : kC w p s m args meth c cX1_isIdealMember 4 RX1 := K
  obtain ⟨r, hro⟩ : ∃ r, r = o := ⟨o, rfl⟩
  rw [← hro] at h
  have hO : ∀ z, r = z → z = o := fun z e => by rw [← e]; exact hro
  unfold fX1_isIdealMember at h
  refine k_aload_n K dX1_isIdealMember_0 0 rfl ?_
  refine fg_X1_11 K dX1_isIdealMember_1 ?_
  refine k_iload_n K dX1_isIdealMember_4 1 rfl ?_
  replace h := k_gd h
  obtain ⟨g1, h⟩ := h
  refine k_aald K dX1_isIdealMember_5 kd_1 g1 ?_
  refine k_astore_nQ (lv' := [(2, va_rf ((σ.2.1 1 x1.toNatClampNeg).map (kL w))), (0, .ref (kL w 0)), (1, .int x1)]) K dX1_isIdealMember_6 (by decide) rfl ?_
  refine k_iconst (v := 0) K dX1_isIdealMember_7 (by decide) ?_
  refine k_istore_n (lv' := [(3, .int 0), (2, va_rf ((σ.2.1 1 x1.toNatClampNeg).map (kL w))), (0, .ref (kL w 0)), (1, .int x1)]) K dX1_isIdealMember_8 (by decide) rfl ?_
  refine k_sub [2, 3, 1, 0] rfl ?_
  exact lX1_isIdealMember_9 K hret h hO
end F_X1_isIdealMember
section C_X1_isIdealMember
variable {w : kW} {p : Program} {l : Launch} {e : Env} {R : Room} {s : State} {m : MethodId} {args : Array Value} {below : List Frame} {meth : Method} {c : Code} {Q : State → Prop} {cc : ByteArray} {nL : Nat} {σ : kS} {pc : Nat} {lv : List (Nat × Value)} {st rest : List Value} {cells slots : Nat}
theorem cl_X1_182 (K : kC w p s m args meth c cc nL RX1) {a1 : Int32} {r : Int32} (d : decode cc pc = .ok (.invokevirtual 182, 3)) (h : fX1_isIdealMember σ a1 = some r) (hR : rmX1_isIdealMember.frames + 1 ≤ R.frames ∧ 8 + (4 + 11) + rmX1_isIdealMember.locals ≤ R.locals) (hr : (rest.map fun v => v.category).sum ≤ 8) (hf : cells + 0 ≤ R.cells ∧ slots + 0 ≤ R.slots) (kk : kG w p l e R s m args below meth c Q nL σ (pc + 3) lv (.int r :: rest) (cells + 0) (slots + 0)) : kG w p l e R s m args below meth c Q nL σ pc lv (.int a1 :: .ref (kL w 0) :: rest) cells slots :=
  k_callVi (As := [.int a1]) (rest := rest) (n := 1) (C := RX1) (T := TX1) K d kd_0 rfl (kg_V tw_151 tw_153 tw_0 tw_48 tw_154) rfl (by decide +kernel) rfl hR hr rfl hf (mX1_isIdealMember l w σ a1 h) ⟨rfl, rfl⟩ kk
end C_X1_isIdealMember
section F_X1_ideal
variable {w : kW} {p : Program} {l : Launch} {e : Env} {s : State} {m : MethodId} {args : Array Value} {below : List Frame} {meth : Method} {c : Code}
def gX1_ideal_11 (σ : kS) (x1 : Int32) : Option ((Int32) ⊕ Int32) :=
  if (σ.1 0 9) ≤ x1 then
    some (.inr (1))
  else
    (fX1_isIdealMember σ x1).bind fun r2 =>
    if r2 = 0 then
      some (.inr (0))
    else
      some (.inl (x1 + 1))
def fX1_ideal_11 (σ : kS) (a : Int32) : Option ((Int32) ⊕ Int32) := gX1_ideal_11 σ a
def fX1_ideal (σ : kS) : Option Int32 :=
  if (σ.1 0 8) = 0 then
    some (0)
  else
    kit (fX1_ideal_11 σ) 300 (0)
def rmX1_ideal : Room := { frames := 3, cells := 0, slots := 0, locals := 66 }
set_option maxRecDepth 20000 in
theorem pX1_ideal_11 (K : kC w p s m args meth c cX1_ideal 2 RX1) (hret : meth.sig.returnType = (some .boolean)) {σ : kS} {x1 : Int32} {r : ((Int32) ⊕ Int32)} {o : Int32} (h : gX1_ideal_11 σ x1 = some r) (hL11 : ∀ z, r = .inl z → kG w p l e rmX1_ideal s m args below meth c (MQ below (kQi w o σ) args s 0 0 (kA w)) 2 σ 11 [(0, .ref (kL w 0)), (1, .int z)] [] 0 0) (hO : ∀ z, r = .inr z → z = o) : kG w p l e rmX1_ideal s m args below meth c (MQ below (kQi w o σ) args s 0 0 (kA w)) 2 σ 11 [(0, .ref (kL w 0)), (1, .int x1)] [] 0 0 := by
  unfold gX1_ideal_11 at h
  refine k_iload_n K dX1_ideal_11 1 rfl ?_
  refine k_aload_n K dX1_ideal_12 0 rfl ?_
  refine fg_X1_41 K dX1_ideal_13 ?_
  replace h := k_br h
  rcases h with ⟨b1, h⟩ | ⟨b1, h⟩
  · refine k_icmp_ge K 35 dX1_ideal_16 (by decide) (fun _ => ?_) (fun q => absurd b1 q)
    refine k_iconst (v := 1) K dX1_ideal_35 (by decide) ?_
    cases h
    obtain rfl := hO _ rfl
    exact k_zret (v := 1) K hret (by decide) dX1_ideal_36 (by decide) (by decide)
  · refine k_icmp_ge K 35 dX1_ideal_16 (by decide) (fun q => absurd q b1) (fun _ => ?_)
    refine k_aload_n K dX1_ideal_19 0 rfl ?_
    refine k_iload_n K dX1_ideal_20 1 rfl ?_
    replace h := k_bd h
    obtain ⟨r2, hr2, h⟩ := h
    refine cl_X1_182 K dX1_ideal_21 hr2 (by decide) (Nat.le_of_ble_eq_true rfl) (by decide) ?_
    replace h := k_br h
    rcases h with ⟨b3, h⟩ | ⟨b3, h⟩
    · refine k_if_ne K 29 dX1_ideal_24 (by decide) (fun q => absurd b3 q) (fun _ => ?_)
      refine k_iconst (v := 0) K dX1_ideal_27 (by decide) ?_
      cases h
      obtain rfl := hO _ rfl
      exact k_zret (v := 0) K hret (by decide) dX1_ideal_28 (by decide) (by decide)
    · refine k_if_ne K 29 dX1_ideal_24 (by decide) (fun _ => ?_) (fun q => absurd q b3)
      refine k_iinc (v := 1) (lv' := [(1, .int (x1 + 1)), (0, .ref (kL w 0))]) K dX1_ideal_29 1 rfl (by decide) (by decide) rfl ?_
      refine k_goto K 11 dX1_ideal_32 (by decide) ?_
      refine k_sub [1, 0] rfl ?_
      cases h
      exact hL11 _ rfl
set_option maxRecDepth 20000 in
theorem lX1_ideal_11 (K : kC w p s m args meth c cX1_ideal 2 RX1) (hret : meth.sig.returnType = (some .boolean)) {σ : kS} {n : Nat} {a : Int32} {r : Int32} {o : Int32} (h : kit (fX1_ideal_11 σ) n a = some r) (hO : ∀ z, r = z → z = o) : kG w p l e rmX1_ideal s m args below meth c (MQ below (kQi w o σ) args s 0 0 (kA w)) 2 σ 11 [(0, .ref (kL w 0)), (1, .int a)] [] 0 0 :=
  kit_ind (body := fX1_ideal_11 σ) (fun a r => (∀ z, r = z → z = o) → kG w p l e rmX1_ideal s m args below meth c (MQ below (kQi w o σ) args s 0 0 (kA w)) 2 σ 11 [(0, .ref (kL w 0)), (1, .int a)] [] 0 0) (fun a a2 r hb ih hO => pX1_ideal_11 K hret hb (fun z e => by cases e; exact ih hO) (fun _ e => by cases e)) (fun a r hb hO => pX1_ideal_11 K hret hb (fun _ e => by cases e) (fun z e => hO z (by cases e; rfl))) n a r h hO
set_option maxRecDepth 20000 in
theorem mX1_ideal (l : Launch) (w : kW) (σ : kS) {o : Int32} (h : fX1_ideal σ = some o) : Met l yX1_ideal (Cond.code yX1_ideal cX1_ideal 2 (some .boolean) :: TB) rmX1_ideal (va_Pc [.ref (kL w 0)] (kP w σ)) (kQi w o σ) 0 0 (kA w) := by
  refine k_met (by decide +kernel) [.ref (kL w 0)] (Nat.le_of_ble_eq_true rfl) (by simp [lv_args, Value.category]) ?_
  intro p e s m args below meth c K hret
  have K : kC w p s m args meth c cX1_ideal 2 RX1 := K
  obtain ⟨r, hro⟩ : ∃ r, r = o := ⟨o, rfl⟩
  rw [← hro] at h
  have hO : ∀ z, r = z → z = o := fun z e => by rw [← e]; exact hro
  unfold fX1_ideal at h
  refine k_aload_n K dX1_ideal_0 0 rfl ?_
  refine fg_X1_53 K dX1_ideal_1 ?_
  replace h := k_br h
  rcases h with ⟨b1, h⟩ | ⟨b1, h⟩
  · refine k_if_ne K 9 dX1_ideal_4 (by decide) (fun q => absurd b1 q) (fun _ => ?_)
    refine k_iconst (v := 0) K dX1_ideal_7 (by decide) ?_
    cases h
    obtain rfl := hO _ rfl
    exact k_zret (v := 0) K hret (by decide) dX1_ideal_8 (by decide) (by decide)
  · refine k_if_ne K 9 dX1_ideal_4 (by decide) (fun _ => ?_) (fun q => absurd q b1)
    refine k_iconst (v := 0) K dX1_ideal_9 (by decide) ?_
    refine k_istore_n (lv' := [(1, .int 0), (0, .ref (kL w 0))]) K dX1_ideal_10 (by decide) rfl ?_
    refine k_sub [1, 0] rfl ?_
    exact lX1_ideal_11 K hret h hO
end F_X1_ideal
section F_X1_countTrueSuccessors
variable {w : kW} {p : Program} {l : Launch} {e : Env} {s : State} {m : MethodId} {args : Array Value} {below : List Frame} {meth : Method} {c : Code}
def fX1_countTrueSuccessors_44 (x1 : Int32) (x2 : Int32) (σ : kS) : Option ((Int32 × Int32) ⊕ Int32) :=
  some (.inl (x1, x2 + 1))
def gX1_countTrueSuccessors_4 (σ : kS) (x1 : Int32) (x2 : Int32) : Option ((Int32 × Int32) ⊕ Int32) :=
  if (σ.1 0 9) ≤ x2 then
    some (.inr (x1))
  else
    if vpi x2 20 then
      (σ.2.1 1 x2.toNatClampNeg).bind fun q3 =>
      (fX1_successor σ q3).bind fun r4 =>
      kmn (r4) (
        fX1_countTrueSuccessors_44 x1 x2 σ
      ) fun q5 =>
        if kd q5 = (0, 0, 8) then
          (fX1_livePointInTurn σ (x2 + 1)).bind fun r7 =>
          if (σ.1 q5 5) = r7 then
            fX1_countTrueSuccessors_44 (x1 + 1) x2 σ
          else
            fX1_countTrueSuccessors_44 x1 x2 σ
        else none
    else none
def fX1_countTrueSuccessors_4 (σ : kS) (a : Int32 × Int32) : Option ((Int32 × Int32) ⊕ Int32) := gX1_countTrueSuccessors_4 σ a.1 a.2
def fX1_countTrueSuccessors (σ : kS) : Option Int32 :=
  kit (fX1_countTrueSuccessors_4 σ) 300 (0, 0)
def rmX1_countTrueSuccessors : Room := { frames := 3, cells := 0, slots := 0, locals := 64 }
set_option maxRecDepth 20000 in
theorem pX1_countTrueSuccessors_44 (K : kC w p s m args meth c cX1_countTrueSuccessors 4 RX1) (hret : meth.sig.returnType = (some .int)) {x1 : Int32} {x2 : Int32} {σ : kS} {r : ((Int32 × Int32) ⊕ Int32)} {o : Int32} (h : fX1_countTrueSuccessors_44 x1 x2 σ = some r) (hL4 : ∀ z, r = .inl z → kG w p l e rmX1_countTrueSuccessors s m args below meth c (MQ below (kQi w o σ) args s 0 0 (kA w)) 4 σ 4 [(0, .ref (kL w 0)), (1, .int (z.1)), (2, .int (z.2))] [] 0 0) (hO : ∀ z, r = .inr z → z = o) : kG w p l e rmX1_countTrueSuccessors s m args below meth c (MQ below (kQi w o σ) args s 0 0 (kA w)) 4 σ 44 [(0, .ref (kL w 0)), (1, .int x1), (2, .int x2)] [] 0 0 := by
  unfold fX1_countTrueSuccessors_44 at h
  refine k_iinc (v := 1) (lv' := [(2, .int (x2 + 1)), (0, .ref (kL w 0)), (1, .int x1)]) K dX1_countTrueSuccessors_44 2 rfl (by decide) (by decide) rfl ?_
  refine k_goto K 4 dX1_countTrueSuccessors_47 (by decide) ?_
  refine k_sub [1, 2, 0] rfl ?_
  cases h
  exact hL4 _ rfl
set_option maxRecDepth 20000 in
theorem pX1_countTrueSuccessors_4 (K : kC w p s m args meth c cX1_countTrueSuccessors 4 RX1) (hret : meth.sig.returnType = (some .int)) {σ : kS} {x1 : Int32} {x2 : Int32} {r : ((Int32 × Int32) ⊕ Int32)} {o : Int32} (h : gX1_countTrueSuccessors_4 σ x1 x2 = some r) (hL4 : ∀ z, r = .inl z → kG w p l e rmX1_countTrueSuccessors s m args below meth c (MQ below (kQi w o σ) args s 0 0 (kA w)) 4 σ 4 [(0, .ref (kL w 0)), (1, .int (z.1)), (2, .int (z.2))] [] 0 0) (hO : ∀ z, r = .inr z → z = o) : kG w p l e rmX1_countTrueSuccessors s m args below meth c (MQ below (kQi w o σ) args s 0 0 (kA w)) 4 σ 4 [(0, .ref (kL w 0)), (1, .int x1), (2, .int x2)] [] 0 0 := by
  unfold gX1_countTrueSuccessors_4 at h
  refine k_iload_n K dX1_countTrueSuccessors_4 2 rfl ?_
  refine k_aload_n K dX1_countTrueSuccessors_5 0 rfl ?_
  refine fg_X1_41 K dX1_countTrueSuccessors_6 ?_
  replace h := k_br h
  rcases h with ⟨b1, h⟩ | ⟨b1, h⟩
  · refine k_icmp_ge K 50 dX1_countTrueSuccessors_9 (by decide) (fun _ => ?_) (fun q => absurd b1 q)
    refine k_iload_n K dX1_countTrueSuccessors_50 1 rfl ?_
    cases h
    obtain rfl := hO _ rfl
    exact k_iret K hret dX1_countTrueSuccessors_51 (by decide) (by decide)
  · refine k_icmp_ge K 50 dX1_countTrueSuccessors_9 (by decide) (fun q => absurd q b1) (fun _ => ?_)
    refine k_aload_n K dX1_countTrueSuccessors_12 0 rfl ?_
    refine k_aload_n K dX1_countTrueSuccessors_13 0 rfl ?_
    refine fg_X1_11 K dX1_countTrueSuccessors_14 ?_
    refine k_iload_n K dX1_countTrueSuccessors_17 2 rfl ?_
    replace h := k_gd h
    obtain ⟨g2, h⟩ := h
    refine k_aald K dX1_countTrueSuccessors_18 kd_1 g2 ?_
    replace h := k_bd h
    obtain ⟨q3, hq3, h⟩ := h
    rw [hq3]
    replace h := k_bd h
    obtain ⟨r4, hr4, h⟩ := h
    refine cl_X1_107 K dX1_countTrueSuccessors_19 hr4 (by decide) (Nat.le_of_ble_eq_true rfl) (by decide) ?_
    refine k_astore_nQ (lv' := [(3, va_rf ((r4).map (kL w))), (0, .ref (kL w 0)), (1, .int x1), (2, .int x2)]) K dX1_countTrueSuccessors_22 (by decide) rfl ?_
    refine k_aload_nQ K dX1_countTrueSuccessors_23 0 rfl ?_
    replace h := k_mn h
    rcases h with ⟨hq5, h⟩ | ⟨q5, hq5, h⟩
    · subst hq5
      refine k_ifnullN K 44 dX1_countTrueSuccessors_24 (by decide) ?_
      refine k_sub [1, 2, 3] rfl ?_
      exact pX1_countTrueSuccessors_44 K hret h hL4 hO
    · subst hq5
      refine k_ifnull K dX1_countTrueSuccessors_24 ?_
      refine k_aload_n K dX1_countTrueSuccessors_27 0 rfl ?_
      replace h := k_gd h
      obtain ⟨g6, h⟩ := h
      refine fg_X1_89 K dX1_countTrueSuccessors_28 g6 ?_
      refine k_aload_n K dX1_countTrueSuccessors_31 1 rfl ?_
      refine k_iload_n K dX1_countTrueSuccessors_32 3 rfl ?_
      refine k_iconst (v := 1) K dX1_countTrueSuccessors_33 (by decide) ?_
      refine k_iadd K dX1_countTrueSuccessors_34 ?_
      replace h := k_bd h
      obtain ⟨r7, hr7, h⟩ := h
      refine cl_X1_71 K dX1_countTrueSuccessors_35 hr7 (by decide) (Nat.le_of_ble_eq_true rfl) (by decide) ?_
      replace h := k_br h
      rcases h with ⟨b8, h⟩ | ⟨b8, h⟩
      · refine k_icmp_ne K 44 dX1_countTrueSuccessors_38 (by decide) (fun q => absurd b8 q) (fun _ => ?_)
        refine k_iinc (v := 1) (lv' := [(1, .int (x1 + 1)), (3, .ref (kL w q5)), (0, .ref (kL w 0)), (2, .int x2)]) K dX1_countTrueSuccessors_41 2 rfl (by decide) (by decide) rfl ?_
        refine k_sub [2, 0, 3] rfl ?_
        exact pX1_countTrueSuccessors_44 K hret h hL4 hO
      · refine k_icmp_ne K 44 dX1_countTrueSuccessors_38 (by decide) (fun _ => ?_) (fun q => absurd q b8)
        refine k_sub [1, 2, 3] rfl ?_
        exact pX1_countTrueSuccessors_44 K hret h hL4 hO
set_option maxRecDepth 20000 in
theorem lX1_countTrueSuccessors_4 (K : kC w p s m args meth c cX1_countTrueSuccessors 4 RX1) (hret : meth.sig.returnType = (some .int)) {σ : kS} {n : Nat} {a : Int32 × Int32} {r : Int32} {o : Int32} (h : kit (fX1_countTrueSuccessors_4 σ) n a = some r) (hO : ∀ z, r = z → z = o) : kG w p l e rmX1_countTrueSuccessors s m args below meth c (MQ below (kQi w o σ) args s 0 0 (kA w)) 4 σ 4 [(0, .ref (kL w 0)), (1, .int (a.1)), (2, .int (a.2))] [] 0 0 :=
  kit_ind (body := fX1_countTrueSuccessors_4 σ) (fun a r => (∀ z, r = z → z = o) → kG w p l e rmX1_countTrueSuccessors s m args below meth c (MQ below (kQi w o σ) args s 0 0 (kA w)) 4 σ 4 [(0, .ref (kL w 0)), (1, .int (a.1)), (2, .int (a.2))] [] 0 0) (fun a a2 r hb ih hO => pX1_countTrueSuccessors_4 K hret hb (fun z e => by cases e; exact ih hO) (fun _ e => by cases e)) (fun a r hb hO => pX1_countTrueSuccessors_4 K hret hb (fun _ e => by cases e) (fun z e => hO z (by cases e; rfl))) n a r h hO
set_option maxRecDepth 20000 in
theorem mX1_countTrueSuccessors (l : Launch) (w : kW) (σ : kS) {o : Int32} (h : fX1_countTrueSuccessors σ = some o) : Met l yX1_countTrueSuccessors (Cond.code yX1_countTrueSuccessors cX1_countTrueSuccessors 4 (some .int) :: TB) rmX1_countTrueSuccessors (va_Pc [.ref (kL w 0)] (kP w σ)) (kQi w o σ) 0 0 (kA w) := by
  refine k_met (by decide +kernel) [.ref (kL w 0)] (Nat.le_of_ble_eq_true rfl) (by simp [lv_args, Value.category]) ?_
  intro p e s m args below meth c K hret
  have K : kC w p s m args meth c cX1_countTrueSuccessors 4 RX1 := K
  obtain ⟨r, hro⟩ : ∃ r, r = o := ⟨o, rfl⟩
  rw [← hro] at h
  have hO : ∀ z, r = z → z = o := fun z e => by rw [← e]; exact hro
  unfold fX1_countTrueSuccessors at h
  refine k_iconst (v := 0) K dX1_countTrueSuccessors_0 (by decide) ?_
  refine k_istore_n (lv' := [(1, .int 0), (0, .ref (kL w 0))]) K dX1_countTrueSuccessors_1 (by decide) rfl ?_
  refine k_iconst (v := 0) K dX1_countTrueSuccessors_2 (by decide) ?_
  refine k_istore_n (lv' := [(2, .int 0), (1, .int 0), (0, .ref (kL w 0))]) K dX1_countTrueSuccessors_3 (by decide) rfl ?_
  refine k_sub [2, 1, 0] rfl ?_
  exact lX1_countTrueSuccessors_4 K hret h hO
end F_X1_countTrueSuccessors
section F_X1_knowsLiveOneBeside
variable {w : kW} {p : Program} {l : Launch} {e : Env} {s : State} {m : MethodId} {args : Array Value} {below : List Frame} {meth : Method} {c : Code}
def fX1_knowsLiveOneBeside_41 (c1 : Nat) (c2 : Nat) (x3 : Int32) (σ : kS) : Option ((Int32) ⊕ Int32) :=
  some (.inl (x3 + 1))
def gX1_knowsLiveOneBeside_2 (c1 : Nat) (c2 : Nat) (σ : kS) (x3 : Int32) : Option ((Int32) ⊕ Int32) :=
  if (σ.1 0 7) ≤ x3 then
    some (.inr (0))
  else
    if kd c1 = (0, 0, 8) then
      if vpi x3 4 then
        (fX1_liveAt σ (σ.1 (c1 + 1 + 0) x3.toNatClampNeg)).bind fun r4 =>
        kmn (r4) (
          fX1_knowsLiveOneBeside_41 c1 c2 x3 σ
        ) fun q5 =>
          if okq (some q5) = true ∧ okq (some c1) = true then
            if some q5 = some c1 then
              fX1_knowsLiveOneBeside_41 c1 c2 x3 σ
            else
              if okq (some q5) = true ∧ okq (some c2) = true then
                if some q5 = some c2 then
                  fX1_knowsLiveOneBeside_41 c1 c2 x3 σ
                else
                  some (.inr (1))
              else none
          else none
      else none
    else none
def fX1_knowsLiveOneBeside_2 (c1 : Nat) (c2 : Nat) (σ : kS) (a : Int32) : Option ((Int32) ⊕ Int32) := gX1_knowsLiveOneBeside_2 c1 c2 σ a
def fX1_knowsLiveOneBeside (σ : kS) (c1 : Nat) (c2 : Nat) : Option Int32 :=
  kit (fX1_knowsLiveOneBeside_2 c1 c2 σ) 300 (0)
def rmX1_knowsLiveOneBeside : Room := { frames := 2, cells := 0, slots := 0, locals := 41 }
set_option maxRecDepth 20000 in
theorem pX1_knowsLiveOneBeside_41 (K : kC w p s m args meth c cX1_knowsLiveOneBeside 5 RX1) (hret : meth.sig.returnType = (some .boolean)) {c1 : Nat} {c2 : Nat} {x3 : Int32} {σ : kS} {r : ((Int32) ⊕ Int32)} {o : Int32} (h : fX1_knowsLiveOneBeside_41 c1 c2 x3 σ = some r) (hL2 : ∀ z, r = .inl z → kG w p l e rmX1_knowsLiveOneBeside s m args below meth c (MQ below (kQi w o σ) args s 0 0 (kA w)) 5 σ 2 [(0, .ref (kL w 0)), (1, .ref (kL w c1)), (2, .ref (kL w c2)), (3, .int z)] [] 0 0) (hO : ∀ z, r = .inr z → z = o) : kG w p l e rmX1_knowsLiveOneBeside s m args below meth c (MQ below (kQi w o σ) args s 0 0 (kA w)) 5 σ 41 [(0, .ref (kL w 0)), (1, .ref (kL w c1)), (2, .ref (kL w c2)), (3, .int x3)] [] 0 0 := by
  unfold fX1_knowsLiveOneBeside_41 at h
  refine k_iinc (v := 1) (lv' := [(3, .int (x3 + 1)), (0, .ref (kL w 0)), (1, .ref (kL w c1)), (2, .ref (kL w c2))]) K dX1_knowsLiveOneBeside_41 3 rfl (by decide) (by decide) rfl ?_
  refine k_goto K 2 dX1_knowsLiveOneBeside_44 (by decide) ?_
  refine k_sub [1, 2, 3, 0] rfl ?_
  cases h
  exact hL2 _ rfl
set_option maxRecDepth 20000 in
theorem pX1_knowsLiveOneBeside_2 (K : kC w p s m args meth c cX1_knowsLiveOneBeside 5 RX1) (hret : meth.sig.returnType = (some .boolean)) {c1 : Nat} {c2 : Nat} {σ : kS} {x3 : Int32} {r : ((Int32) ⊕ Int32)} {o : Int32} (h : gX1_knowsLiveOneBeside_2 c1 c2 σ x3 = some r) (hL2 : ∀ z, r = .inl z → kG w p l e rmX1_knowsLiveOneBeside s m args below meth c (MQ below (kQi w o σ) args s 0 0 (kA w)) 5 σ 2 [(0, .ref (kL w 0)), (1, .ref (kL w c1)), (2, .ref (kL w c2)), (3, .int z)] [] 0 0) (hO : ∀ z, r = .inr z → z = o) : kG w p l e rmX1_knowsLiveOneBeside s m args below meth c (MQ below (kQi w o σ) args s 0 0 (kA w)) 5 σ 2 [(0, .ref (kL w 0)), (1, .ref (kL w c1)), (2, .ref (kL w c2)), (3, .int x3)] [] 0 0 := by
  unfold gX1_knowsLiveOneBeside_2 at h
  refine k_iload_n K dX1_knowsLiveOneBeside_2 3 rfl ?_
  refine k_aload_n K dX1_knowsLiveOneBeside_3 0 rfl ?_
  refine fg_X1_30 K dX1_knowsLiveOneBeside_4 ?_
  replace h := k_br h
  rcases h with ⟨b1, h⟩ | ⟨b1, h⟩
  · refine k_icmp_ge K 47 dX1_knowsLiveOneBeside_7 (by decide) (fun _ => ?_) (fun q => absurd b1 q)
    refine k_iconst (v := 0) K dX1_knowsLiveOneBeside_47 (by decide) ?_
    cases h
    obtain rfl := hO _ rfl
    exact k_zret (v := 0) K hret (by decide) dX1_knowsLiveOneBeside_48 (by decide) (by decide)
  · refine k_icmp_ge K 47 dX1_knowsLiveOneBeside_7 (by decide) (fun q => absurd q b1) (fun _ => ?_)
    refine k_aload_n K dX1_knowsLiveOneBeside_10 0 rfl ?_
    refine k_aload_n K dX1_knowsLiveOneBeside_11 1 rfl ?_
    replace h := k_gd h
    obtain ⟨g2, h⟩ := h
    refine fg_X1_68 K dX1_knowsLiveOneBeside_12 g2 ?_
    refine k_iload_n K dX1_knowsLiveOneBeside_15 3 rfl ?_
    replace h := k_gd h
    obtain ⟨g3, h⟩ := h
    refine k_iald K dX1_knowsLiveOneBeside_16 (kd_m0 g2).1 g3 ?_
    replace h := k_bd h
    obtain ⟨r4, hr4, h⟩ := h
    refine cl_X1_204 K dX1_knowsLiveOneBeside_17 hr4 (by decide) (Nat.le_of_ble_eq_true rfl) (by decide) ?_
    refine k_astoreQ (lv' := [(4, va_rf ((r4).map (kL w))), (0, .ref (kL w 0)), (1, .ref (kL w c1)), (2, .ref (kL w c2)), (3, .int x3)]) K dX1_knowsLiveOneBeside_20 (by decide) rfl ?_
    refine k_aloadQ K dX1_knowsLiveOneBeside_22 0 rfl ?_
    replace h := k_mn h
    rcases h with ⟨hq5, h⟩ | ⟨q5, hq5, h⟩
    · subst hq5
      refine k_ifnullN K 41 dX1_knowsLiveOneBeside_24 (by decide) ?_
      refine k_sub [1, 2, 3, 4] rfl ?_
      exact pX1_knowsLiveOneBeside_41 K hret h hL2 hO
    · subst hq5
      refine k_ifnull K dX1_knowsLiveOneBeside_24 ?_
      refine k_aload K dX1_knowsLiveOneBeside_27 0 rfl ?_
      refine k_aload_n K dX1_knowsLiveOneBeside_29 2 rfl ?_
      replace h := k_gd h
      obtain ⟨g7, h⟩ := h
      replace h := k_br h
      rcases h with ⟨b6, h⟩ | ⟨b6, h⟩
      · refine k_acmp_eq (x := some q5) (y := some c1) K 41 dX1_knowsLiveOneBeside_30 (by decide) (okq_s g7.1) (okq_s g7.2) (fun _ => ?_) (fun q => absurd b6 q)
        refine k_sub [1, 2, 3, 4] rfl ?_
        exact pX1_knowsLiveOneBeside_41 K hret h hL2 hO
      · refine k_acmp_eq (x := some q5) (y := some c1) K 41 dX1_knowsLiveOneBeside_30 (by decide) (okq_s g7.1) (okq_s g7.2) (fun q => absurd q b6) (fun _ => ?_)
        refine k_aload K dX1_knowsLiveOneBeside_33 0 rfl ?_
        refine k_aload_n K dX1_knowsLiveOneBeside_35 3 rfl ?_
        replace h := k_gd h
        obtain ⟨g9, h⟩ := h
        replace h := k_br h
        rcases h with ⟨b8, h⟩ | ⟨b8, h⟩
        · refine k_acmp_eq (x := some q5) (y := some c2) K 41 dX1_knowsLiveOneBeside_36 (by decide) (okq_s g9.1) (okq_s g9.2) (fun _ => ?_) (fun q => absurd b8 q)
          refine k_sub [1, 2, 3, 4] rfl ?_
          exact pX1_knowsLiveOneBeside_41 K hret h hL2 hO
        · refine k_acmp_eq (x := some q5) (y := some c2) K 41 dX1_knowsLiveOneBeside_36 (by decide) (okq_s g9.1) (okq_s g9.2) (fun q => absurd q b8) (fun _ => ?_)
          refine k_iconst (v := 1) K dX1_knowsLiveOneBeside_39 (by decide) ?_
          cases h
          obtain rfl := hO _ rfl
          exact k_zret (v := 1) K hret (by decide) dX1_knowsLiveOneBeside_40 (by decide) (by decide)
set_option maxRecDepth 20000 in
theorem lX1_knowsLiveOneBeside_2 (K : kC w p s m args meth c cX1_knowsLiveOneBeside 5 RX1) (hret : meth.sig.returnType = (some .boolean)) {c1 : Nat} {c2 : Nat} {σ : kS} {n : Nat} {a : Int32} {r : Int32} {o : Int32} (h : kit (fX1_knowsLiveOneBeside_2 c1 c2 σ) n a = some r) (hO : ∀ z, r = z → z = o) : kG w p l e rmX1_knowsLiveOneBeside s m args below meth c (MQ below (kQi w o σ) args s 0 0 (kA w)) 5 σ 2 [(0, .ref (kL w 0)), (1, .ref (kL w c1)), (2, .ref (kL w c2)), (3, .int a)] [] 0 0 :=
  kit_ind (body := fX1_knowsLiveOneBeside_2 c1 c2 σ) (fun a r => (∀ z, r = z → z = o) → kG w p l e rmX1_knowsLiveOneBeside s m args below meth c (MQ below (kQi w o σ) args s 0 0 (kA w)) 5 σ 2 [(0, .ref (kL w 0)), (1, .ref (kL w c1)), (2, .ref (kL w c2)), (3, .int a)] [] 0 0) (fun a a2 r hb ih hO => pX1_knowsLiveOneBeside_2 K hret hb (fun z e => by cases e; exact ih hO) (fun _ e => by cases e)) (fun a r hb hO => pX1_knowsLiveOneBeside_2 K hret hb (fun _ e => by cases e) (fun z e => hO z (by cases e; rfl))) n a r h hO
set_option maxRecDepth 20000 in
theorem mX1_knowsLiveOneBeside (l : Launch) (w : kW) (σ : kS) (c1 : Nat) (c2 : Nat) {o : Int32} (h : fX1_knowsLiveOneBeside σ c1 c2 = some o) : Met l yX1_knowsLiveOneBeside (Cond.code yX1_knowsLiveOneBeside cX1_knowsLiveOneBeside 5 (some .boolean) :: TB) rmX1_knowsLiveOneBeside (va_Pc [.ref (kL w 0), .ref (kL w c1), .ref (kL w c2)] (kP w σ)) (kQi w o σ) 0 0 (kA w) := by
  refine k_met (by decide +kernel) [.ref (kL w 0), .ref (kL w c1), .ref (kL w c2)] (Nat.le_of_ble_eq_true rfl) (by simp [lv_args, Value.category]) ?_
  intro p e s m args below meth c K hret
  have K : kC w p s m args meth c cX1_knowsLiveOneBeside 5 RX1 := K
  obtain ⟨r, hro⟩ : ∃ r, r = o := ⟨o, rfl⟩
  rw [← hro] at h
  have hO : ∀ z, r = z → z = o := fun z e => by rw [← e]; exact hro
  unfold fX1_knowsLiveOneBeside at h
  refine k_iconst (v := 0) K dX1_knowsLiveOneBeside_0 (by decide) ?_
  refine k_istore_n (lv' := [(3, .int 0), (0, .ref (kL w 0)), (1, .ref (kL w c1)), (2, .ref (kL w c2))]) K dX1_knowsLiveOneBeside_1 (by decide) rfl ?_
  refine k_sub [1, 2, 3, 0] rfl ?_
  exact lX1_knowsLiveOneBeside_2 K hret h hO
end F_X1_knowsLiveOneBeside
