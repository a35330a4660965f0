section F_X2_isPoint
variable {w : kW} {p : Program} {l : Launch} {e : Env} {s : State} {m : MethodId} {args : Array Value} {below : List Frame} {meth : Method} {c : Code}
def fX2_isPoint (x0 : Int32) : Option Int32 :=
  if x0 < 0 then
    some (0)
  else
    if 256 ≤ x0 then
      some (0)
    else
      some (1)
def rmX2_isPoint : Room := { frames := 0, cells := 0, slots := 0, locals := 0 }
set_option maxRecDepth 20000 in
theorem mX2_isPoint (l : Launch) (w : kW) (σ0 : kS) (x0 : Int32) {o : Int32} (h : fX2_isPoint x0 = some o) : Met l yX2_isPoint (Cond.code yX2_isPoint cX2_isPoint 1 (some .boolean) :: TB) rmX2_isPoint (va_Pc [.int x0] (kP w σ0)) (kQi w o σ0) 0 0 (kA w) := by
  refine k_met (by decide +kernel) [.int x0] (Nat.le_of_ble_eq_true rfl) (by simp [lv_args, Value.category]) ?_
  intro p e s m args below meth c K hret
  have K : kC w p s m args meth c cX2_isPoint 1 RX2 := K
  obtain ⟨r, hro⟩ : ∃ r, r = o := ⟨o, rfl⟩
  rw [← hro] at h
  have hO : ∀ z, r = z → z = o := fun z e => by rw [← e]; exact hro
  unfold fX2_isPoint at h
  refine k_iload_n K dX2_isPoint_0 0 rfl ?_
  replace h := k_br h
  rcases h with ⟨b1, h⟩ | ⟨b1, h⟩
  · refine k_if_lt K 15 dX2_isPoint_1 (by decide) (fun _ => ?_) (fun q => absurd b1 q)
    refine k_iconst (v := 0) K dX2_isPoint_15 (by decide) ?_
    cases h
    obtain rfl := hO _ rfl
    exact k_zret (v := 0) K hret (by decide) dX2_isPoint_16 (by decide) (by decide)
  · refine k_if_lt K 15 dX2_isPoint_1 (by decide) (fun q => absurd q b1) (fun _ => ?_)
    refine k_iload_n K dX2_isPoint_4 0 rfl ?_
    refine k_sipush (v := 256) K dX2_isPoint_5 (by decide) ?_
    replace h := k_br h
    rcases h with ⟨b2, h⟩ | ⟨b2, h⟩
    · refine k_icmp_ge K 15 dX2_isPoint_8 (by decide) (fun _ => ?_) (fun q => absurd b2 q)
      refine k_iconst (v := 0) K dX2_isPoint_15 (by decide) ?_
      cases h
      obtain rfl := hO _ rfl
      exact k_zret (v := 0) K hret (by decide) dX2_isPoint_16 (by decide) (by decide)
    · refine k_icmp_ge K 15 dX2_isPoint_8 (by decide) (fun q => absurd q b2) (fun _ => ?_)
      refine k_iconst (v := 1) K dX2_isPoint_11 (by decide) ?_
      refine k_goto K 16 dX2_isPoint_12 (by decide) ?_
      cases h
      obtain rfl := hO _ rfl
      exact k_zret (v := 1) K hret (by decide) dX2_isPoint_16 (by decide) (by decide)
end F_X2_isPoint
section C_X2_isPoint
variable {w : kW} {p : Program} {l : Launch} {e : Env} {R : Room} {s : State} {m : MethodId} {args : Array Value} {below : List Frame} {meth : Method} {c : Code} {Q : State → Prop} {cc : ByteArray} {nL : Nat} {σ : kS} {pc : Nat} {lv : List (Nat × Value)} {st rest : List Value} {cells slots : Nat}
theorem cl_X2_50 (K : kC w p s m args meth c cc nL RX2) {a1 : Int32} {r : Int32} (d : decode cc pc = .ok (.invokestatic 50, 3)) (h : fX2_isPoint a1 = some r) (hR : rmX2_isPoint.frames + 1 ≤ R.frames ∧ 8 + (1 + 11) + rmX2_isPoint.locals ≤ R.locals) (hr : (rest.map fun v => v.category).sum ≤ 8) (hf : cells + 0 ≤ R.cells ∧ slots + 0 ≤ R.slots) (kk : kG w p l e R s m args below meth c Q nL σ (pc + 3) lv (.int r :: rest) (cells + 0) (slots + 0)) : kG w p l e R s m args below meth c Q nL σ pc lv (.int a1 :: rest) cells slots :=
  k_callSi (As := [.int a1]) (rest := rest) (n := 1) K d (kg_S tw_617 tw_618 tw_50 tw_619) (by decide +kernel) rfl hR hr rfl hf (mX2_isPoint l w σ a1 h) ⟨rfl, rfl⟩ kk
end C_X2_isPoint
section F_X2_live
variable {w : kW} {p : Program} {l : Launch} {e : Env} {s : State} {m : MethodId} {args : Array Value} {below : List Frame} {meth : Method} {c : Code}
def fX2_live (σ : kS) (x1 : Int32) : Option Int32 :=
  (fX2_isPoint x1).bind fun r1 =>
  if r1 = 0 then
    some (0)
  else
    if vpi x1 256 then
      if (σ.1 127 x1.toNatClampNeg) = 1 then
        some (1)
      else
        some (0)
    else none
def rmX2_live : Room := { frames := 1, cells := 0, slots := 0, locals := 20 }
set_option maxRecDepth 20000 in
theorem mX2_live (l : Launch) (w : kW) (σ : kS) (x1 : Int32) {o : Int32} (h : fX2_live σ x1 = some o) : Met l yX2_live (Cond.code yX2_live cX2_live 2 (some .boolean) :: TB) rmX2_live (va_Pc [.ref (kL w 126), .int x1] (kP w σ)) (kQi w o σ) 0 0 (kA w) := by
  refine k_met (by decide +kernel) [.ref (kL w 126), .int x1] (Nat.le_of_ble_eq_true rfl) (by simp [lv_args, Value.category]) ?_
  intro p e s m args below meth c K hret
  have K : kC w p s m args meth c cX2_live 2 RX2 := K
  obtain ⟨r, hro⟩ : ∃ r, r = o := ⟨o, rfl⟩
  rw [← hro] at h
  have hO : ∀ z, r = z → z = o := fun z e => by rw [← e]; exact hro
  unfold fX2_live at h
  refine k_iload_n K dX2_live_0 1 rfl ?_
  replace h := k_bd h
  obtain ⟨r1, hr1, h⟩ := h
  refine cl_X2_50 K dX2_live_1 hr1 (by decide) (Nat.le_of_ble_eq_true rfl) (by decide) ?_
  replace h := k_br h
  rcases h with ⟨b2, h⟩ | ⟨b2, h⟩
  · refine k_if_eq K 21 dX2_live_4 (by decide) (fun _ => ?_) (fun q => absurd b2 q)
    refine k_iconst (v := 0) K dX2_live_21 (by decide) ?_
    cases h
    obtain rfl := hO _ rfl
    exact k_zret (v := 0) K hret (by decide) dX2_live_22 (by decide) (by decide)
  · refine k_if_eq K 21 dX2_live_4 (by decide) (fun q => absurd q b2) (fun _ => ?_)
    refine k_aload_n K dX2_live_7 0 rfl ?_
    refine fg_X2_13 K dX2_live_8 ?_
    refine k_iload_n K dX2_live_11 1 rfl ?_
    replace h := k_gd h
    obtain ⟨g3, h⟩ := h
    refine k_iald K dX2_live_12 kd_127 g3 ?_
    refine k_iconst (v := 1) K dX2_live_13 (by decide) ?_
    replace h := k_br h
    rcases h with ⟨b4, h⟩ | ⟨b4, h⟩
    · refine k_icmp_ne K 21 dX2_live_14 (by decide) (fun q => absurd b4 q) (fun _ => ?_)
      refine k_iconst (v := 1) K dX2_live_17 (by decide) ?_
      refine k_goto K 22 dX2_live_18 (by decide) ?_
      cases h
      obtain rfl := hO _ rfl
      exact k_zret (v := 1) K hret (by decide) dX2_live_22 (by decide) (by decide)
    · refine k_icmp_ne K 21 dX2_live_14 (by decide) (fun _ => ?_) (fun q => absurd q b4)
      refine k_iconst (v := 0) K dX2_live_21 (by decide) ?_
      cases h
      obtain rfl := hO _ rfl
      exact k_zret (v := 0) K hret (by decide) dX2_live_22 (by decide) (by decide)
end F_X2_live
section C_X2_live
variable {w : kW} {p : Program} {l : Launch} {e : Env} {R : Room} {s : State} {m : MethodId} {args : Array Value} {below : List Frame} {meth : Method} {c : Code} {Q : State → Prop} {cc : ByteArray} {nL : Nat} {σ : kS} {pc : Nat} {lv : List (Nat × Value)} {st rest : List Value} {cells slots : Nat}
theorem cl_X2_58 (K : kC w p s m args meth c cc nL RX2) {a1 : Int32} {r : Int32} (d : decode cc pc = .ok (.invokevirtual 58, 3)) (h : fX2_live σ a1 = some r) (hR : rmX2_live.frames + 1 ≤ R.frames ∧ 8 + (2 + 11) + rmX2_live.locals ≤ R.locals) (hr : (rest.map fun v => v.category).sum ≤ 8) (hf : cells + 0 ≤ R.cells ∧ slots + 0 ≤ R.slots) (kk : kG w p l e R s m args below meth c Q nL σ (pc + 3) lv (.int r :: rest) (cells + 0) (slots + 0)) : kG w p l e R s m args below meth c Q nL σ pc lv (.int a1 :: .ref (kL w 126) :: rest) cells slots :=
  k_callVi (As := [.int a1]) (rest := rest) (n := 1) (C := RX2) (T := TX2) K d kd_126 rfl (kg_V tw_644 tw_646 tw_32 tw_50 tw_647) rfl (by decide +kernel) rfl hR hr rfl hf (mX2_live l w σ a1 h) ⟨rfl, rfl⟩ kk
end C_X2_live
section F_X2_member
variable {w : kW} {p : Program} {l : Launch} {e : Env} {s : State} {m : MethodId} {args : Array Value} {below : List Frame} {meth : Method} {c : Code}
def fX2_member (σ : kS) (x1 : Int32) : Option Int32 :=
  if (σ.1 126 2) = 0 then
    some (0)
  else
    (fX2_live σ x1).bind fun r2 =>
    if r2 = 0 then
      some (0)
    else
      some (1)
def rmX2_member : Room := { frames := 2, cells := 0, slots := 0, locals := 41 }
set_option maxRecDepth 20000 in
theorem mX2_member (l : Launch) (w : kW) (σ : kS) (x1 : Int32) {o : Int32} (h : fX2_member σ x1 = some o) : Met l yX2_member (Cond.code yX2_member cX2_member 2 (some .boolean) :: TB) rmX2_member (va_Pc [.ref (kL w 126), .int x1] (kP w σ)) (kQi w o σ) 0 0 (kA w) := by
  refine k_met (by decide +kernel) [.ref (kL w 126), .int x1] (Nat.le_of_ble_eq_true rfl) (by simp [lv_args, Value.category]) ?_
  intro p e s m args below meth c K hret
  have K : kC w p s m args meth c cX2_member 2 RX2 := K
  obtain ⟨r, hro⟩ : ∃ r, r = o := ⟨o, rfl⟩
  rw [← hro] at h
  have hO : ∀ z, r = z → z = o := fun z e => by rw [← e]; exact hro
  unfold fX2_member at h
  refine k_aload_n K dX2_member_0 0 rfl ?_
  refine fg_X2_54 K dX2_member_1 ?_
  replace h := k_br h
  rcases h with ⟨b1, h⟩ | ⟨b1, h⟩
  · refine k_if_eq K 19 dX2_member_4 (by decide) (fun _ => ?_) (fun q => absurd b1 q)
    refine k_iconst (v := 0) K dX2_member_19 (by decide) ?_
    cases h
    obtain rfl := hO _ rfl
    exact k_zret (v := 0) K hret (by decide) dX2_member_20 (by decide) (by decide)
  · refine k_if_eq K 19 dX2_member_4 (by decide) (fun q => absurd q b1) (fun _ => ?_)
    refine k_aload_n K dX2_member_7 0 rfl ?_
    refine k_iload_n K dX2_member_8 1 rfl ?_
    replace h := k_bd h
    obtain ⟨r2, hr2, h⟩ := h
    refine cl_X2_58 K dX2_member_9 hr2 (by decide) (Nat.le_of_ble_eq_true rfl) (by decide) ?_
    replace h := k_br h
    rcases h with ⟨b3, h⟩ | ⟨b3, h⟩
    · refine k_if_eq K 19 dX2_member_12 (by decide) (fun _ => ?_) (fun q => absurd b3 q)
      refine k_iconst (v := 0) K dX2_member_19 (by decide) ?_
      cases h
      obtain rfl := hO _ rfl
      exact k_zret (v := 0) K hret (by decide) dX2_member_20 (by decide) (by decide)
    · refine k_if_eq K 19 dX2_member_12 (by decide) (fun q => absurd q b3) (fun _ => ?_)
      refine k_iconst (v := 1) K dX2_member_15 (by decide) ?_
      refine k_goto K 20 dX2_member_16 (by decide) ?_
      cases h
      obtain rfl := hO _ rfl
      exact k_zret (v := 1) K hret (by decide) dX2_member_20 (by decide) (by decide)
end F_X2_member
section C_X2_member
variable {w : kW} {p : Program} {l : Launch} {e : Env} {R : Room} {s : State} {m : MethodId} {args : Array Value} {below : List Frame} {meth : Method} {c : Code} {Q : State → Prop} {cc : ByteArray} {nL : Nat} {σ : kS} {pc : Nat} {lv : List (Nat × Value)} {st rest : List Value} {cells slots : Nat}
theorem cl_X2_101 (K : kC w p s m args meth c cc nL RX2) {a1 : Int32} {r : Int32} (d : decode cc pc = .ok (.invokevirtual 101, 3)) (h : fX2_member σ a1 = some r) (hR : rmX2_member.frames + 1 ≤ R.frames ∧ 8 + (2 + 11) + rmX2_member.locals ≤ R.locals) (hr : (rest.map fun v => v.category).sum ≤ 8) (hf : cells + 0 ≤ R.cells ∧ slots + 0 ≤ R.slots) (kk : kG w p l e R s m args below meth c Q nL σ (pc + 3) lv (.int r :: rest) (cells + 0) (slots + 0)) : kG w p l e R s m args below meth c Q nL σ pc lv (.int a1 :: .ref (kL w 126) :: rest) cells slots :=
  k_callVi (As := [.int a1]) (rest := rest) (n := 1) (C := RX2) (T := TX2) K d kd_126 rfl (kg_V tw_640 tw_642 tw_31 tw_50 tw_643) rfl (by decide +kernel) rfl hR hr rfl hf (mX2_member l w σ a1 h) ⟨rfl, rfl⟩ kk
end C_X2_member
section F_X2_goes
variable {w : kW} {p : Program} {l : Launch} {e : Env} {s : State} {m : MethodId} {args : Array Value} {below : List Frame} {meth : Method} {c : Code}
def fX2_goes_26 (t1 : Int32) (σ : kS) : Option (Int32 × kS) :=
  if ((sI σ 126 0 t1).1 126 0) = 0 then
    some ((1, sI σ 126 0 t1))
  else
    some ((0, sI σ 126 0 t1))
def fX2_goes (σ : kS) (x1 : Int32) (x2 : Int32) (x3 : Int32) : Option (Int32 × kS) :=
  if x1 = 0 then
    fX2_goes_26 1 σ
  else
    if x2 = 0 then
      fX2_goes_26 2 σ
    else
      if x3 = 0 then
        fX2_goes_26 3 σ
      else
        fX2_goes_26 0 σ
def rmX2_goes : Room := { frames := 0, cells := 0, slots := 0, locals := 0 }
set_option maxRecDepth 20000 in
theorem pX2_goes_26 (K : kC w p s m args meth c cX2_goes 4 RX2) (hret : meth.sig.returnType = (some .boolean)) {t1 : Int32} {σ : kS} {r : (Int32 × kS)} {o : (Int32 × kS)} (h : fX2_goes_26 t1 σ = some r) (hO : ∀ z, r = z → z = o) : kG w p l e rmX2_goes s m args below meth c (MQ below (kQi w o.1 o.2) args s 0 0 (kA w)) 4 σ 26 [(0, .ref (kL w 126))] [.int t1, .ref (kL w 126)] 0 0 := by
  unfold fX2_goes_26 at h
  refine fp_X2_47 K dX2_goes_26 ?_
  refine k_aload_n K dX2_goes_29 0 rfl ?_
  refine fg_X2_47 K dX2_goes_30 ?_
  replace h := k_br h
  rcases h with ⟨b1, h⟩ | ⟨b1, h⟩
  · refine k_if_ne K 40 dX2_goes_33 (by decide) (fun q => absurd b1 q) (fun _ => ?_)
    refine k_iconst (v := 1) K dX2_goes_36 (by decide) ?_
    refine k_goto K 41 dX2_goes_37 (by decide) ?_
    cases h
    obtain rfl := hO _ rfl
    exact k_zret (v := 1) K hret (by decide) dX2_goes_41 (by decide) (by decide)
  · refine k_if_ne K 40 dX2_goes_33 (by decide) (fun _ => ?_) (fun q => absurd q b1)
    refine k_iconst (v := 0) K dX2_goes_40 (by decide) ?_
    cases h
    obtain rfl := hO _ rfl
    exact k_zret (v := 0) K hret (by decide) dX2_goes_41 (by decide) (by decide)
set_option maxRecDepth 20000 in
theorem mX2_goes (l : Launch) (w : kW) (σ : kS) (x1 : Int32) (x2 : Int32) (x3 : Int32) {o : (Int32 × kS)} (h : fX2_goes σ x1 x2 x3 = some o) : Met l yX2_goes (Cond.code yX2_goes cX2_goes 4 (some .boolean) :: TB) rmX2_goes (va_Pc [.ref (kL w 126), .int x1, .int x2, .int x3] (kP w σ)) (kQi w o.1 o.2) 0 0 (kA w) := by
  refine k_met (by decide +kernel) [.ref (kL w 126), .int x1, .int x2, .int x3] (Nat.le_of_ble_eq_true rfl) (by simp [lv_args, Value.category]) ?_
  intro p e s m args below meth c K hret
  have K : kC w p s m args meth c cX2_goes 4 RX2 := K
  obtain ⟨r, hro⟩ : ∃ r, r = o := ⟨o, rfl⟩
  rw [← hro] at h
  have hO : ∀ z, r = z → z = o := fun z e => by rw [← e]; exact hro
  unfold fX2_goes at h
  refine k_aload_n K dX2_goes_0 0 rfl ?_
  refine k_iload_n K dX2_goes_1 1 rfl ?_
  replace h := k_br h
  rcases h with ⟨b1, h⟩ | ⟨b1, h⟩
  · refine k_if_ne K 9 dX2_goes_2 (by decide) (fun q => absurd b1 q) (fun _ => ?_)
    refine k_iconst (v := 1) K dX2_goes_5 (by decide) ?_
    refine k_goto K 26 dX2_goes_6 (by decide) ?_
    refine k_sub [0] rfl ?_
    exact pX2_goes_26 K hret h hO
  · refine k_if_ne K 9 dX2_goes_2 (by decide) (fun _ => ?_) (fun q => absurd q b1)
    refine k_iload_n K dX2_goes_9 2 rfl ?_
    replace h := k_br h
    rcases h with ⟨b2, h⟩ | ⟨b2, h⟩
    · refine k_if_ne K 17 dX2_goes_10 (by decide) (fun q => absurd b2 q) (fun _ => ?_)
      refine k_iconst (v := 2) K dX2_goes_13 (by decide) ?_
      refine k_goto K 26 dX2_goes_14 (by decide) ?_
      refine k_sub [0] rfl ?_
      exact pX2_goes_26 K hret h hO
    · refine k_if_ne K 17 dX2_goes_10 (by decide) (fun _ => ?_) (fun q => absurd q b2)
      refine k_iload_n K dX2_goes_17 3 rfl ?_
      replace h := k_br h
      rcases h with ⟨b3, h⟩ | ⟨b3, h⟩
      · refine k_if_ne K 25 dX2_goes_18 (by decide) (fun q => absurd b3 q) (fun _ => ?_)
        refine k_iconst (v := 3) K dX2_goes_21 (by decide) ?_
        refine k_goto K 26 dX2_goes_22 (by decide) ?_
        refine k_sub [0] rfl ?_
        exact pX2_goes_26 K hret h hO
      · refine k_if_ne K 25 dX2_goes_18 (by decide) (fun _ => ?_) (fun q => absurd q b3)
        refine k_iconst (v := 0) K dX2_goes_25 (by decide) ?_
        refine k_sub [0] rfl ?_
        exact pX2_goes_26 K hret h hO
end F_X2_goes
section C_X2_goes
variable {w : kW} {p : Program} {l : Launch} {e : Env} {R : Room} {s : State} {m : MethodId} {args : Array Value} {below : List Frame} {meth : Method} {c : Code} {Q : State → Prop} {cc : ByteArray} {nL : Nat} {σ : kS} {pc : Nat} {lv : List (Nat × Value)} {st rest : List Value} {cells slots : Nat}
theorem cl_X2_69 (K : kC w p s m args meth c cc nL RX2) {a1 : Int32} {a2 : Int32} {a3 : Int32} {r : (Int32 × kS)} (d : decode cc pc = .ok (.invokevirtual 69, 3)) (h : fX2_goes σ a1 a2 a3 = some r) (hR : rmX2_goes.frames + 1 ≤ R.frames ∧ 8 + (4 + 11) + rmX2_goes.locals ≤ R.locals) (hr : (rest.map fun v => v.category).sum ≤ 8) (hf : cells + 0 ≤ R.cells ∧ slots + 0 ≤ R.slots) (kk : kG w p l e R s m args below meth c Q nL r.2 (pc + 3) lv (.int r.1 :: rest) (cells + 0) (slots + 0)) : kG w p l e R s m args below meth c Q nL σ pc lv (.int a3 :: .int a2 :: .int a1 :: .ref (kL w 126) :: rest) cells slots :=
  k_callVi (As := [.int a1, .int a2, .int a3]) (rest := rest) (n := 3) (C := RX2) (T := TX2) K d kd_126 rfl (kg_V tw_609 tw_611 tw_27 tw_50 tw_612) rfl (by decide +kernel) rfl hR hr rfl hf (mX2_goes l w σ a1 a2 a3 h) ⟨rfl, rfl⟩ kk
end C_X2_goes
section F_X2_successor
variable {w : kW} {p : Program} {l : Launch} {e : Env} {s : State} {m : MethodId} {args : Array Value} {below : List Frame} {meth : Method} {c : Code}
def gX2_successor_2 (x1 : Int32) (σ : kS) (x2 : Int32) : Option ((Int32) ⊕ Int32) :=
  if (σ.1 126 1) ≤ x2 then
    some (.inr ((-1)))
  else
    if vpi ((4 * x1) + x2) 1024 then
      (fX2_live σ (σ.1 128 ((4 * x1) + x2).toNatClampNeg)).bind fun r3 =>
      if r3 = 0 then
        some (.inl (x2 + 1))
      else
        some (.inr (σ.1 128 ((4 * x1) + x2).toNatClampNeg))
    else none
def fX2_successor_2 (x1 : Int32) (σ : kS) (a : Int32) : Option ((Int32) ⊕ Int32) := gX2_successor_2 x1 σ a
def fX2_successor (σ : kS) (x1 : Int32) : Option Int32 :=
  kit (fX2_successor_2 x1 σ) 300 (0)
def rmX2_successor : Room := { frames := 2, cells := 0, slots := 0, locals := 41 }
set_option maxRecDepth 20000 in
theorem pX2_successor_2 (K : kC w p s m args meth c cX2_successor 3 RX2) (hret : meth.sig.returnType = (some .int)) {x1 : Int32} {σ : kS} {x2 : Int32} {r : ((Int32) ⊕ Int32)} {o : Int32} (h : gX2_successor_2 x1 σ x2 = some r) (hL2 : ∀ z, r = .inl z → kG w p l e rmX2_successor s m args below meth c (MQ below (kQi w o σ) args s 0 0 (kA w)) 3 σ 2 [(0, .ref (kL w 126)), (1, .int x1), (2, .int z)] [] 0 0) (hO : ∀ z, r = .inr z → z = o) : kG w p l e rmX2_successor s m args below meth c (MQ below (kQi w o σ) args s 0 0 (kA w)) 3 σ 2 [(0, .ref (kL w 126)), (1, .int x1), (2, .int x2)] [] 0 0 := by
  unfold gX2_successor_2 at h
  refine k_iload_n K dX2_successor_2 2 rfl ?_
  refine k_aload_n K dX2_successor_3 0 rfl ?_
  refine fg_X2_7 K dX2_successor_4 ?_
  replace h := k_br h
  rcases h with ⟨b1, h⟩ | ⟨b1, h⟩
  · refine k_icmp_ge K 44 dX2_successor_7 (by decide) (fun _ => ?_) (fun q => absurd b1 q)
    refine k_iconst (v := (-1)) K dX2_successor_44 (by decide) ?_
    cases h
    obtain rfl := hO _ rfl
    exact k_iret (v := (-1)) K hret dX2_successor_45 (by decide) (by decide)
  · refine k_icmp_ge K 44 dX2_successor_7 (by decide) (fun q => absurd q b1) (fun _ => ?_)
    refine k_aload_n K dX2_successor_10 0 rfl ?_
    refine k_aload_n K dX2_successor_11 0 rfl ?_
    refine fg_X2_17 K dX2_successor_12 ?_
    refine k_iconst (v := 4) K dX2_successor_15 (by decide) ?_
    refine k_iload_n K dX2_successor_16 1 rfl ?_
    refine k_imul K dX2_successor_17 ?_
    refine k_iload_n K dX2_successor_18 2 rfl ?_
    refine k_iadd K dX2_successor_19 ?_
    replace h := k_gd h
    obtain ⟨g2, h⟩ := h
    refine k_iald K dX2_successor_20 kd_128 g2 ?_
    replace h := k_bd h
    obtain ⟨r3, hr3, h⟩ := h
    refine cl_X2_58 K dX2_successor_21 hr3 (by decide) (Nat.le_of_ble_eq_true rfl) (by decide) ?_
    replace h := k_br h
    rcases h with ⟨b4, h⟩ | ⟨b4, h⟩
    · refine k_if_eq K 38 dX2_successor_24 (by decide) (fun _ => ?_) (fun q => absurd b4 q)
      refine k_iinc (v := 1) (lv' := [(2, .int (x2 + 1)), (0, .ref (kL w 126)), (1, .int x1)]) K dX2_successor_38 2 rfl (by decide) (by decide) rfl ?_
      refine k_goto K 2 dX2_successor_41 (by decide) ?_
      refine k_sub [1, 2, 0] rfl ?_
      cases h
      exact hL2 _ rfl
    · refine k_if_eq K 38 dX2_successor_24 (by decide) (fun q => absurd q b4) (fun _ => ?_)
      refine k_aload_n K dX2_successor_27 0 rfl ?_
      refine fg_X2_17 K dX2_successor_28 ?_
      refine k_iconst (v := 4) K dX2_successor_31 (by decide) ?_
      refine k_iload_n K dX2_successor_32 1 rfl ?_
      refine k_imul K dX2_successor_33 ?_
      refine k_iload_n K dX2_successor_34 2 rfl ?_
      refine k_iadd K dX2_successor_35 ?_
      refine k_iald K dX2_successor_36 kd_128 g2 ?_
      cases h
      obtain rfl := hO _ rfl
      exact k_iret (v := σ.1 128 ((4 * x1) + x2).toNatClampNeg) K hret dX2_successor_37 (by decide) (by decide)
set_option maxRecDepth 20000 in
theorem lX2_successor_2 (K : kC w p s m args meth c cX2_successor 3 RX2) (hret : meth.sig.returnType = (some .int)) {x1 : Int32} {σ : kS} {n : Nat} {a : Int32} {r : Int32} {o : Int32} (h : kit (fX2_successor_2 x1 σ) n a = some r) (hO : ∀ z, r = z → z = o) : kG w p l e rmX2_successor s m args below meth c (MQ below (kQi w o σ) args s 0 0 (kA w)) 3 σ 2 [(0, .ref (kL w 126)), (1, .int x1), (2, .int a)] [] 0 0 :=
  kit_ind (body := fX2_successor_2 x1 σ) (fun a r => (∀ z, r = z → z = o) → kG w p l e rmX2_successor s m args below meth c (MQ below (kQi w o σ) args s 0 0 (kA w)) 3 σ 2 [(0, .ref (kL w 126)), (1, .int x1), (2, .int a)] [] 0 0) (fun a a2 r hb ih hO => pX2_successor_2 K hret hb (fun z e => by cases e; exact ih hO) (fun _ e => by cases e)) (fun a r hb hO => pX2_successor_2 K hret hb (fun _ e => by cases e) (fun z e => hO z (by cases e; rfl))) n a r h hO
set_option maxRecDepth 20000 in
theorem mX2_successor (l : Launch) (w : kW) (σ : kS) (x1 : Int32) {o : Int32} (h : fX2_successor σ x1 = some o) : Met l yX2_successor (Cond.code yX2_successor cX2_successor 3 (some .int) :: TB) rmX2_successor (va_Pc [.ref (kL w 126), .int x1] (kP w σ)) (kQi w o σ) 0 0 (kA w) := by
  refine k_met (by decide +kernel) [.ref (kL w 126), .int x1] (Nat.le_of_ble_eq_true rfl) (by simp [lv_args, Value.category]) ?_
  intro p e s m args below meth c K hret
  have K : kC w p s m args meth c cX2_successor 3 RX2 := K
  obtain ⟨r, hro⟩ : ∃ r, r = o := ⟨o, rfl⟩
  rw [← hro] at h
  have hO : ∀ z, r = z → z = o := fun z e => by rw [← e]; exact hro
  unfold fX2_successor at h
  refine k_iconst (v := 0) K dX2_successor_0 (by decide) ?_
  refine k_istore_n (lv' := [(2, .int 0), (0, .ref (kL w 126)), (1, .int x1)]) K dX2_successor_1 (by decide) rfl ?_
  refine k_sub [1, 2, 0] rfl ?_
  exact lX2_successor_2 K hret h hO
end F_X2_successor
section C_X2_successor
variable {w : kW} {p : Program} {l : Launch} {e : Env} {R : Room} {s : State} {m : MethodId} {args : Array Value} {below : List Frame} {meth : Method} {c : Code} {Q : State → Prop} {cc : ByteArray} {nL : Nat} {σ : kS} {pc : Nat} {lv : List (Nat × Value)} {st rest : List Value} {cells slots : Nat}
theorem cl_X2_91 (K : kC w p s m args meth c cc nL RX2) {a1 : Int32} {r : Int32} (d : decode cc pc = .ok (.invokevirtual 91, 3)) (h : fX2_successor σ a1 = some r) (hR : rmX2_successor.frames + 1 ≤ R.frames ∧ 8 + (3 + 11) + rmX2_successor.locals ≤ R.locals) (hr : (rest.map fun v => v.category).sum ≤ 8) (hf : cells + 0 ≤ R.cells ∧ slots + 0 ≤ R.slots) (kk : kG w p l e R s m args below meth c Q nL σ (pc + 3) lv (.int r :: rest) (cells + 0) (slots + 0)) : kG w p l e R s m args below meth c Q nL σ pc lv (.int a1 :: .ref (kL w 126) :: rest) cells slots :=
  k_callVi (As := [.int a1]) (rest := rest) (n := 1) (C := RX2) (T := TX2) K d kd_126 rfl (kg_V tw_652 tw_654 tw_34 tw_50 tw_655) rfl (by decide +kernel) rfl hR hr rfl hf (mX2_successor l w σ a1 h) ⟨rfl, rfl⟩ kk
end C_X2_successor
section F_X2_takeOver
variable {w : kW} {p : Program} {l : Launch} {e : Env} {s : State} {m : MethodId} {args : Array Value} {below : List Frame} {meth : Method} {c : Code}
def gX2_takeOver_44 (x1 : Int32) (x3 : Int32) (σ : kS) : Option ((Int32 × kS) ⊕ kS) :=
  if (σ.1 126 1) ≤ x3 then
    some (.inr (σ))
  else
    if vpi x3 4 then
      if vpi ((4 * x1) + x3) 1024 then
        some (.inl (x3 + 1, sI σ 128 ((4 * x1) + x3).toNatClampNeg (σ.1 135 x3.toNatClampNeg)))
      else none
    else none
def fX2_takeOver_44 (x1 : Int32) (a : Int32 × kS) : Option ((Int32 × kS) ⊕ kS) := gX2_takeOver_44 x1 a.1 a.2
def fX2_takeOver_35 (x1 : Int32) (x2 : Int32) (x3 : Int32) (t1 : Int32) (t2 : Int32) (σ : kS) : Option ((Int32 × kS) ⊕ kS) :=
  if vpi t1 4 then
    some (.inl (x3 + 1, sI σ 135 t1.toNatClampNeg t2))
  else none
def gX2_takeOver_2 (x1 : Int32) (x2 : Int32) (x3 : Int32) (σ : kS) : Option ((Int32 × kS) ⊕ kS) :=
  if (σ.1 126 1) ≤ x3 then
    (kit (fX2_takeOver_44 x1) 300 (0, σ)).map .inr
  else
    if x3 = 0 then
      fX2_takeOver_35 x1 x2 x3 x3 x2 σ
    else
      if vpi (((4 * x2) + x3) - 1) 1024 then
        fX2_takeOver_35 x1 x2 x3 x3 (σ.1 128 (((4 * x2) + x3) - 1).toNatClampNeg) σ
      else none
def fX2_takeOver_2 (x1 : Int32) (x2 : Int32) (a : Int32 × kS) : Option ((Int32 × kS) ⊕ kS) := gX2_takeOver_2 x1 x2 a.1 a.2
def fX2_takeOver (σ : kS) (x1 : Int32) (x2 : Int32) : Option kS :=
  kit (fX2_takeOver_2 x1 x2) 300 (0, σ)
def rmX2_takeOver : Room := { frames := 0, cells := 0, slots := 0, locals := 0 }
set_option maxRecDepth 20000 in
theorem pX2_takeOver_44 (K : kC w p s m args meth c cX2_takeOver 4 RX2) (hret : meth.sig.returnType = none) {x1 : Int32} {x3 : Int32} {σ : kS} {r : ((Int32 × kS) ⊕ kS)} {o : kS} (h : gX2_takeOver_44 x1 x3 σ = some r) (hL44 : ∀ z, r = .inl z → kG w p l e rmX2_takeOver s m args below meth c (MQ below (kQv w o) args s 0 0 (kA w)) 4 z.2 44 [(0, .ref (kL w 126)), (1, .int x1), (3, .int (z.1))] [] 0 0) (hO : ∀ z, r = .inr z → z = o) : kG w p l e rmX2_takeOver s m args below meth c (MQ below (kQv w o) args s 0 0 (kA w)) 4 σ 44 [(0, .ref (kL w 126)), (1, .int x1), (3, .int x3)] [] 0 0 := by
  unfold gX2_takeOver_44 at h
  refine k_iload_n K dX2_takeOver_44 2 rfl ?_
  refine k_aload_n K dX2_takeOver_45 0 rfl ?_
  refine fg_X2_7 K dX2_takeOver_46 ?_
  replace h := k_br h
  rcases h with ⟨b1, h⟩ | ⟨b1, h⟩
  · refine k_icmp_ge K 74 dX2_takeOver_49 (by decide) (fun _ => ?_) (fun q => absurd b1 q)
    cases h
    obtain rfl := hO _ rfl
    exact k_vret K hret dX2_takeOver_74 (by decide) (by decide)
  · refine k_icmp_ge K 74 dX2_takeOver_49 (by decide) (fun q => absurd q b1) (fun _ => ?_)
    refine k_aload_n K dX2_takeOver_52 0 rfl ?_
    refine fg_X2_17 K dX2_takeOver_53 ?_
    refine k_iconst (v := 4) K dX2_takeOver_56 (by decide) ?_
    refine k_iload_n K dX2_takeOver_57 1 rfl ?_
    refine k_imul K dX2_takeOver_58 ?_
    refine k_iload_n K dX2_takeOver_59 2 rfl ?_
    refine k_iadd K dX2_takeOver_60 ?_
    refine k_aload_n K dX2_takeOver_61 0 rfl ?_
    refine fg_X2_38 K dX2_takeOver_62 ?_
    refine k_iload_n K dX2_takeOver_65 2 rfl ?_
    replace h := k_gd h
    obtain ⟨g2, h⟩ := h
    refine k_iald K dX2_takeOver_66 kd_135 g2 ?_
    replace h := k_gd h
    obtain ⟨g3, h⟩ := h
    refine k_iast K dX2_takeOver_67 kd_128 g3 ?_
    refine k_iinc (v := 1) (lv' := [(3, .int (x3 + 1)), (0, .ref (kL w 126)), (1, .int x1)]) K dX2_takeOver_68 2 rfl (by decide) (by decide) rfl ?_
    refine k_goto K 44 dX2_takeOver_71 (by decide) ?_
    refine k_sub [1, 2, 0] rfl ?_
    cases h
    exact hL44 _ rfl
set_option maxRecDepth 20000 in
theorem lX2_takeOver_44 (K : kC w p s m args meth c cX2_takeOver 4 RX2) (hret : meth.sig.returnType = none) {x1 : Int32} {n : Nat} {a : Int32 × kS} {r : kS} {o : kS} (h : kit (fX2_takeOver_44 x1) n a = some r) (hO : ∀ z, r = z → z = o) : kG w p l e rmX2_takeOver s m args below meth c (MQ below (kQv w o) args s 0 0 (kA w)) 4 a.2 44 [(0, .ref (kL w 126)), (1, .int x1), (3, .int (a.1))] [] 0 0 :=
  kit_ind (body := fX2_takeOver_44 x1) (fun a r => (∀ z, r = z → z = o) → kG w p l e rmX2_takeOver s m args below meth c (MQ below (kQv w o) args s 0 0 (kA w)) 4 a.2 44 [(0, .ref (kL w 126)), (1, .int x1), (3, .int (a.1))] [] 0 0) (fun a a2 r hb ih hO => pX2_takeOver_44 K hret hb (fun z e => by cases e; exact ih hO) (fun _ e => by cases e)) (fun a r hb hO => pX2_takeOver_44 K hret hb (fun _ e => by cases e) (fun z e => hO z (by cases e; rfl))) n a r h hO
set_option maxRecDepth 20000 in
theorem pX2_takeOver_35 (K : kC w p s m args meth c cX2_takeOver 4 RX2) (hret : meth.sig.returnType = none) {x1 : Int32} {x2 : Int32} {x3 : Int32} {t1 : Int32} {t2 : Int32} {σ : kS} {r : ((Int32 × kS) ⊕ kS)} {o : kS} (h : fX2_takeOver_35 x1 x2 x3 t1 t2 σ = some r) (hL2 : ∀ z, r = .inl z → kG w p l e rmX2_takeOver s m args below meth c (MQ below (kQv w o) args s 0 0 (kA w)) 4 z.2 2 [(0, .ref (kL w 126)), (1, .int x1), (2, .int x2), (3, .int (z.1))] [] 0 0) (hO : ∀ z, r = .inr z → z = o) : kG w p l e rmX2_takeOver s m args below meth c (MQ below (kQv w o) args s 0 0 (kA w)) 4 σ 35 [(0, .ref (kL w 126)), (1, .int x1), (2, .int x2), (3, .int x3)] [.int t2, .int t1, .ref (kL w 135)] 0 0 := by
  unfold fX2_takeOver_35 at h
  replace h := k_gd h
  obtain ⟨g1, h⟩ := h
  refine k_iast K dX2_takeOver_35 kd_135 g1 ?_
  refine k_iinc (v := 1) (lv' := [(3, .int (x3 + 1)), (0, .ref (kL w 126)), (1, .int x1), (2, .int x2)]) K dX2_takeOver_36 3 rfl (by decide) (by decide) rfl ?_
  refine k_goto K 2 dX2_takeOver_39 (by decide) ?_
  refine k_sub [1, 2, 3, 0] rfl ?_
  cases h
  exact hL2 _ rfl
set_option maxRecDepth 20000 in
theorem pX2_takeOver_2 (K : kC w p s m args meth c cX2_takeOver 4 RX2) (hret : meth.sig.returnType = none) {x1 : Int32} {x2 : Int32} {x3 : Int32} {σ : kS} {r : ((Int32 × kS) ⊕ kS)} {o : kS} (h : gX2_takeOver_2 x1 x2 x3 σ = some r) (hL2 : ∀ z, r = .inl z → kG w p l e rmX2_takeOver s m args below meth c (MQ below (kQv w o) args s 0 0 (kA w)) 4 z.2 2 [(0, .ref (kL w 126)), (1, .int x1), (2, .int x2), (3, .int (z.1))] [] 0 0) (hO : ∀ z, r = .inr z → z = o) : kG w p l e rmX2_takeOver s m args below meth c (MQ below (kQv w o) args s 0 0 (kA w)) 4 σ 2 [(0, .ref (kL w 126)), (1, .int x1), (2, .int x2), (3, .int x3)] [] 0 0 := by
  unfold gX2_takeOver_2 at h
  refine k_iload_n K dX2_takeOver_2 3 rfl ?_
  refine k_aload_n K dX2_takeOver_3 0 rfl ?_
  refine fg_X2_7 K dX2_takeOver_4 ?_
  replace h := k_br h
  rcases h with ⟨b1, h⟩ | ⟨b1, h⟩
  · refine k_icmp_ge K 42 dX2_takeOver_7 (by decide) (fun _ => ?_) (fun q => absurd b1 q)
    refine k_iconst (v := 0) K dX2_takeOver_42 (by decide) ?_
    refine k_istore_n (lv' := [(3, .int 0), (0, .ref (kL w 126)), (1, .int x1), (2, .int x2)]) K dX2_takeOver_43 (by decide) rfl ?_
    refine k_sub [1, 2, 0] rfl ?_
    replace h := k_mp h
    obtain ⟨_, h, rfl⟩ := h
    exact lX2_takeOver_44 K hret h (fun z e => hO z (by rw [e]))
  · refine k_icmp_ge K 42 dX2_takeOver_7 (by decide) (fun q => absurd q b1) (fun _ => ?_)
    refine k_aload_n K dX2_takeOver_10 0 rfl ?_
    refine fg_X2_38 K dX2_takeOver_11 ?_
    refine k_iload_n K dX2_takeOver_14 3 rfl ?_
    refine k_iload_n K dX2_takeOver_15 3 rfl ?_
    replace h := k_br h
    rcases h with ⟨b2, h⟩ | ⟨b2, h⟩
    · refine k_if_ne K 23 dX2_takeOver_16 (by decide) (fun q => absurd b2 q) (fun _ => ?_)
      refine k_iload_n K dX2_takeOver_19 2 rfl ?_
      refine k_goto K 35 dX2_takeOver_20 (by decide) ?_
      exact pX2_takeOver_35 K hret h hL2 hO
    · refine k_if_ne K 23 dX2_takeOver_16 (by decide) (fun _ => ?_) (fun q => absurd q b2)
      refine k_aload_n K dX2_takeOver_23 0 rfl ?_
      refine fg_X2_17 K dX2_takeOver_24 ?_
      refine k_iconst (v := 4) K dX2_takeOver_27 (by decide) ?_
      refine k_iload_n K dX2_takeOver_28 2 rfl ?_
      refine k_imul K dX2_takeOver_29 ?_
      refine k_iload_n K dX2_takeOver_30 3 rfl ?_
      refine k_iadd K dX2_takeOver_31 ?_
      refine k_iconst (v := 1) K dX2_takeOver_32 (by decide) ?_
      refine k_isub K dX2_takeOver_33 ?_
      replace h := k_gd h
      obtain ⟨g3, h⟩ := h
      refine k_iald K dX2_takeOver_34 kd_128 g3 ?_
      exact pX2_takeOver_35 K hret h hL2 hO
set_option maxRecDepth 20000 in
theorem lX2_takeOver_2 (K : kC w p s m args meth c cX2_takeOver 4 RX2) (hret : meth.sig.returnType = none) {x1 : Int32} {x2 : Int32} {n : Nat} {a : Int32 × kS} {r : kS} {o : kS} (h : kit (fX2_takeOver_2 x1 x2) n a = some r) (hO : ∀ z, r = z → z = o) : kG w p l e rmX2_takeOver s m args below meth c (MQ below (kQv w o) args s 0 0 (kA w)) 4 a.2 2 [(0, .ref (kL w 126)), (1, .int x1), (2, .int x2), (3, .int (a.1))] [] 0 0 :=
  kit_ind (body := fX2_takeOver_2 x1 x2) (fun a r => (∀ z, r = z → z = o) → kG w p l e rmX2_takeOver s m args below meth c (MQ below (kQv w o) args s 0 0 (kA w)) 4 a.2 2 [(0, .ref (kL w 126)), (1, .int x1), (2, .int x2), (3, .int (a.1))] [] 0 0) (fun a a2 r hb ih hO => pX2_takeOver_2 K hret hb (fun z e => by cases e; exact ih hO) (fun _ e => by cases e)) (fun a r hb hO => pX2_takeOver_2 K hret hb (fun _ e => by cases e) (fun z e => hO z (by cases e; rfl))) n a r h hO
set_option maxRecDepth 20000 in
theorem mX2_takeOver (l : Launch) (w : kW) (σ : kS) (x1 : Int32) (x2 : Int32) {o : kS} (h : fX2_takeOver σ x1 x2 = some o) : Met l yX2_takeOver (Cond.code yX2_takeOver cX2_takeOver 4 none :: TB) rmX2_takeOver (va_Pc [.ref (kL w 126), .int x1, .int x2] (kP w σ)) (kQv w o) 0 0 (kA w) := by
  refine k_met (by decide +kernel) [.ref (kL w 126), .int x1, .int x2] (Nat.le_of_ble_eq_true rfl) (by simp [lv_args, Value.category]) ?_
  intro p e s m args below meth c K hret
  have K : kC w p s m args meth c cX2_takeOver 4 RX2 := K
  obtain ⟨r, hro⟩ : ∃ r, r = o := ⟨o, rfl⟩
  rw [← hro] at h
  have hO : ∀ z, r = z → z = o := fun z e => by rw [← e]; exact hro
  unfold fX2_takeOver at h
  refine k_iconst (v := 0) K dX2_takeOver_0 (by decide) ?_
  refine k_istore_n (lv' := [(3, .int 0), (0, .ref (kL w 126)), (1, .int x1), (2, .int x2)]) K dX2_takeOver_1 (by decide) rfl ?_
  refine k_sub [1, 2, 3, 0] rfl ?_
  exact lX2_takeOver_2 K hret h hO
end F_X2_takeOver
section C_X2_takeOver
variable {w : kW} {p : Program} {l : Launch} {e : Env} {R : Room} {s : State} {m : MethodId} {args : Array Value} {below : List Frame} {meth : Method} {c : Code} {Q : State → Prop} {cc : ByteArray} {nL : Nat} {σ : kS} {pc : Nat} {lv : List (Nat × Value)} {st rest : List Value} {cells slots : Nat}
theorem cl_X2_107 (K : kC w p s m args meth c cc nL RX2) {a1 : Int32} {a2 : Int32} {r : kS} (d : decode cc pc = .ok (.invokevirtual 107, 3)) (h : fX2_takeOver σ a1 a2 = some r) (hR : rmX2_takeOver.frames + 1 ≤ R.frames ∧ 8 + (4 + 11) + rmX2_takeOver.locals ≤ R.locals) (hr : (rest.map fun v => v.category).sum ≤ 8) (hf : cells + 0 ≤ R.cells ∧ slots + 0 ≤ R.slots) (kk : kG w p l e R s m args below meth c Q nL r (pc + 3) lv (rest) (cells + 0) (slots + 0)) : kG w p l e R s m args below meth c Q nL σ pc lv (.int a2 :: .int a1 :: .ref (kL w 126) :: rest) cells slots :=
  k_callVv (As := [.int a1, .int a2]) (rest := rest) (n := 2) (C := RX2) (T := TX2) K d kd_126 rfl (kg_V tw_666 tw_668 tw_36 tw_50 tw_669) rfl (by decide +kernel) rfl hR hr rfl hf (mX2_takeOver l w σ a1 a2 h) ⟨rfl, rfl⟩ kk
end C_X2_takeOver
section F_X2_up
variable {w : kW} {p : Program} {l : Launch} {e : Env} {s : State} {m : MethodId} {args : Array Value} {below : List Frame} {meth : Method} {c : Code}
def fX2_up (x0 : Int32) (x1 : Int32) : Option Int32 :=
  some (((x1 - x0) + 256) - ((x1 - x0) + 256) / 256 * 256)
def rmX2_up : Room := { frames := 0, cells := 0, slots := 0, locals := 0 }
set_option maxRecDepth 20000 in
theorem mX2_up (l : Launch) (w : kW) (σ0 : kS) (x0 : Int32) (x1 : Int32) {o : Int32} (h : fX2_up x0 x1 = some o) : Met l yX2_up (Cond.code yX2_up cX2_up 2 (some .int) :: TB) rmX2_up (va_Pc [.int x0, .int x1] (kP w σ0)) (kQi w o σ0) 0 0 (kA w) := by
  refine k_met (by decide +kernel) [.int x0, .int x1] (Nat.le_of_ble_eq_true rfl) (by simp [lv_args, Value.category]) ?_
  intro p e s m args below meth c K hret
  have K : kC w p s m args meth c cX2_up 2 RX2 := K
  obtain ⟨r, hro⟩ : ∃ r, r = o := ⟨o, rfl⟩
  rw [← hro] at h
  have hO : ∀ z, r = z → z = o := fun z e => by rw [← e]; exact hro
  unfold fX2_up at h
  refine k_iload_n K dX2_up_0 1 rfl ?_
  refine k_iload_n K dX2_up_1 0 rfl ?_
  refine k_isub K dX2_up_2 ?_
  refine k_sipush (v := 256) K dX2_up_3 (by decide) ?_
  refine k_iadd K dX2_up_6 ?_
  refine k_sipush (v := 256) K dX2_up_7 (by decide) ?_
  refine k_irem K dX2_up_10 (by decide) ?_
  cases h
  obtain rfl := hO _ rfl
  exact k_iret (v := ((x1 - x0) + 256) - ((x1 - x0) + 256) / 256 * 256) K hret dX2_up_11 (by decide) (by decide)
end F_X2_up
section C_X2_up
variable {w : kW} {p : Program} {l : Launch} {e : Env} {R : Room} {s : State} {m : MethodId} {args : Array Value} {below : List Frame} {meth : Method} {c : Code} {Q : State → Prop} {cc : ByteArray} {nL : Nat} {σ : kS} {pc : Nat} {lv : List (Nat × Value)} {st rest : List Value} {cells slots : Nat}
theorem cl_X2_61 (K : kC w p s m args meth c cc nL RX2) {a1 : Int32} {a2 : Int32} {r : Int32} (d : decode cc pc = .ok (.invokestatic 61, 3)) (h : fX2_up a1 a2 = some r) (hR : rmX2_up.frames + 1 ≤ R.frames ∧ 8 + (2 + 11) + rmX2_up.locals ≤ R.locals) (hr : (rest.map fun v => v.category).sum ≤ 8) (hf : cells + 0 ≤ R.cells ∧ slots + 0 ≤ R.slots) (kk : kG w p l e R s m args below meth c Q nL σ (pc + 3) lv (.int r :: rest) (cells + 0) (slots + 0)) : kG w p l e R s m args below meth c Q nL σ pc lv (.int a2 :: .int a1 :: rest) cells slots :=
  k_callSi (As := [.int a1, .int a2]) (rest := rest) (n := 2) K d (kg_S tw_659 tw_660 tw_50 tw_661) (by decide +kernel) rfl hR hr rfl hf (mX2_up l w σ a1 a2 h) ⟨rfl, rfl⟩ kk
end C_X2_up
section F_X2_between
variable {w : kW} {p : Program} {l : Launch} {e : Env} {s : State} {m : MethodId} {args : Array Value} {below : List Frame} {meth : Method} {c : Code}
def fX2_between (x0 : Int32) (x1 : Int32) (x2 : Int32) : Option Int32 :=
  if x1 = x2 then
    if x0 = x1 then
      some (0)
    else
      some (1)
  else
    (fX2_up x1 x0).bind fun r3 =>
    if r3 ≤ 0 then
      some (0)
    else
      (fX2_up x1 x0).bind fun r5 =>
      (fX2_up x1 x2).bind fun r6 =>
      if r6 ≤ r5 then
        some (0)
      else
        some (1)
def rmX2_between : Room := { frames := 1, cells := 0, slots := 0, locals := 21 }
set_option maxRecDepth 20000 in
theorem mX2_between (l : Launch) (w : kW) (σ0 : kS) (x0 : Int32) (x1 : Int32) (x2 : Int32) {o : Int32} (h : fX2_between x0 x1 x2 = some o) : Met l yX2_between (Cond.code yX2_between cX2_between 3 (some .boolean) :: TB) rmX2_between (va_Pc [.int x0, .int x1, .int x2] (kP w σ0)) (kQi w o σ0) 0 0 (kA w) := by
  refine k_met (by decide +kernel) [.int x0, .int x1, .int x2] (Nat.le_of_ble_eq_true rfl) (by simp [lv_args, Value.category]) ?_
  intro p e s m args below meth c K hret
  have K : kC w p s m args meth c cX2_between 3 RX2 := K
  obtain ⟨r, hro⟩ : ∃ r, r = o := ⟨o, rfl⟩
  rw [← hro] at h
  have hO : ∀ z, r = z → z = o := fun z e => by rw [← e]; exact hro
  unfold fX2_between at h
  refine k_iload_n K dX2_between_0 1 rfl ?_
  refine k_iload_n K dX2_between_1 2 rfl ?_
  replace h := k_br h
  rcases h with ⟨b1, h⟩ | ⟨b1, h⟩
  · refine k_icmp_ne K 18 dX2_between_2 (by decide) (fun q => absurd b1 q) (fun _ => ?_)
    refine k_iload_n K dX2_between_5 0 rfl ?_
    refine k_iload_n K dX2_between_6 1 rfl ?_
    replace h := k_br h
    rcases h with ⟨b2, h⟩ | ⟨b2, h⟩
    · refine k_icmp_eq K 14 dX2_between_7 (by decide) (fun _ => ?_) (fun q => absurd b2 q)
      refine k_iconst (v := 0) K dX2_between_14 (by decide) ?_
      refine k_goto K 44 dX2_between_15 (by decide) ?_
      cases h
      obtain rfl := hO _ rfl
      exact k_zret (v := 0) K hret (by decide) dX2_between_44 (by decide) (by decide)
    · refine k_icmp_eq K 14 dX2_between_7 (by decide) (fun q => absurd q b2) (fun _ => ?_)
      refine k_iconst (v := 1) K dX2_between_10 (by decide) ?_
      refine k_goto K 44 dX2_between_11 (by decide) ?_
      cases h
      obtain rfl := hO _ rfl
      exact k_zret (v := 1) K hret (by decide) dX2_between_44 (by decide) (by decide)
  · refine k_icmp_ne K 18 dX2_between_2 (by decide) (fun _ => ?_) (fun q => absurd q b1)
    refine k_iload_n K dX2_between_18 1 rfl ?_
    refine k_iload_n K dX2_between_19 0 rfl ?_
    replace h := k_bd h
    obtain ⟨r3, hr3, h⟩ := h
    refine cl_X2_61 K dX2_between_20 hr3 (by decide) (Nat.le_of_ble_eq_true rfl) (by decide) ?_
    replace h := k_br h
    rcases h with ⟨b4, h⟩ | ⟨b4, h⟩
    · refine k_if_le K 43 dX2_between_23 (by decide) (fun _ => ?_) (fun q => absurd b4 q)
      refine k_iconst (v := 0) K dX2_between_43 (by decide) ?_
      cases h
      obtain rfl := hO _ rfl
      exact k_zret (v := 0) K hret (by decide) dX2_between_44 (by decide) (by decide)
    · refine k_if_le K 43 dX2_between_23 (by decide) (fun q => absurd q b4) (fun _ => ?_)
      refine k_iload_n K dX2_between_26 1 rfl ?_
      refine k_iload_n K dX2_between_27 0 rfl ?_
      replace h := k_bd h
      obtain ⟨r5, hr5, h⟩ := h
      refine cl_X2_61 K dX2_between_28 hr5 (by decide) (Nat.le_of_ble_eq_true rfl) (by decide) ?_
      refine k_iload_n K dX2_between_31 1 rfl ?_
      refine k_iload_n K dX2_between_32 2 rfl ?_
      replace h := k_bd h
      obtain ⟨r6, hr6, h⟩ := h
      refine cl_X2_61 K dX2_between_33 hr6 (by decide) (Nat.le_of_ble_eq_true rfl) (by decide) ?_
      replace h := k_br h
      rcases h with ⟨b7, h⟩ | ⟨b7, h⟩
      · refine k_icmp_ge K 43 dX2_between_36 (by decide) (fun _ => ?_) (fun q => absurd b7 q)
        refine k_iconst (v := 0) K dX2_between_43 (by decide) ?_
        cases h
        obtain rfl := hO _ rfl
        exact k_zret (v := 0) K hret (by decide) dX2_between_44 (by decide) (by decide)
      · refine k_icmp_ge K 43 dX2_between_36 (by decide) (fun q => absurd q b7) (fun _ => ?_)
        refine k_iconst (v := 1) K dX2_between_39 (by decide) ?_
        refine k_goto K 44 dX2_between_40 (by decide) ?_
        cases h
        obtain rfl := hO _ rfl
        exact k_zret (v := 1) K hret (by decide) dX2_between_44 (by decide) (by decide)
end F_X2_between
section C_X2_between
variable {w : kW} {p : Program} {l : Launch} {e : Env} {R : Room} {s : State} {m : MethodId} {args : Array Value} {below : List Frame} {meth : Method} {c : Code} {Q : State → Prop} {cc : ByteArray} {nL : Nat} {σ : kS} {pc : Nat} {lv : List (Nat × Value)} {st rest : List Value} {cells slots : Nat}
theorem cl_X2_84 (K : kC w p s m args meth c cc nL RX2) {a1 : Int32} {a2 : Int32} {a3 : Int32} {r : Int32} (d : decode cc pc = .ok (.invokestatic 84, 3)) (h : fX2_between a1 a2 a3 = some r) (hR : rmX2_between.frames + 1 ≤ R.frames ∧ 8 + (3 + 11) + rmX2_between.locals ≤ R.locals) (hr : (rest.map fun v => v.category).sum ≤ 8) (hf : cells + 0 ≤ R.cells ∧ slots + 0 ≤ R.slots) (kk : kG w p l e R s m args below meth c Q nL σ (pc + 3) lv (.int r :: rest) (cells + 0) (slots + 0)) : kG w p l e R s m args below meth c Q nL σ pc lv (.int a3 :: .int a2 :: .int a1 :: rest) cells slots :=
  k_callSi (As := [.int a1, .int a2, .int a3]) (rest := rest) (n := 3) K d (kg_S tw_656 tw_657 tw_50 tw_658) (by decide +kernel) rfl hR hr rfl hf (mX2_between l w σ a1 a2 a3 h) ⟨rfl, rfl⟩ kk
end C_X2_between
section F_X2_stable
variable {w : kW} {p : Program} {l : Launch} {e : Env} {s : State} {m : MethodId} {args : Array Value} {below : List Frame} {meth : Method} {c : Code}
def fX2_stable_85 (x1 : Int32) (x4 : Int32) (σ : kS) : Option (Int32 × kS) :=
  if vpi x4 256 then
    some ((x4, sI σ 129 x4.toNatClampNeg x1))
  else none
def fX2_stable_42 (x1 : Int32) (σ : kS) : Option (Int32 × kS) :=
  (fX2_successor σ x1).bind fun r1 =>
  if x1 = r1 then
    some ((r1, σ))
  else
    if vpi r1 256 then
      (fX2_live σ (σ.1 129 r1.toNatClampNeg)).bind fun r4 =>
      if r4 = 0 then
        fX2_stable_85 x1 r1 σ
      else
        (fX2_between x1 (σ.1 129 r1.toNatClampNeg) r1).bind fun r6 =>
        if r6 = 0 then
          some ((r1, σ))
        else
          fX2_stable_85 x1 r1 σ
    else none
def fX2_stable (σ : kS) (x1 : Int32) : Option (Int32 × kS) :=
  (fX2_successor σ x1).bind fun r1 =>
  (fX2_takeOver σ x1 r1).bind fun r2 =>
  if vpi r1 256 then
    (fX2_live r2 (r2.1 129 r1.toNatClampNeg)).bind fun r4 =>
    if r4 = 0 then
      fX2_stable_42 x1 r2
    else
      (fX2_between (r2.1 129 r1.toNatClampNeg) x1 r1).bind fun r6 =>
      if r6 = 0 then
        fX2_stable_42 x1 r2
      else
        (fX2_takeOver r2 x1 (r2.1 129 r1.toNatClampNeg)).bind fun r8 =>
        fX2_stable_42 x1 r8
  else none
def rmX2_stable : Room := { frames := 3, cells := 0, slots := 0, locals := 63 }
set_option maxRecDepth 20000 in
theorem pX2_stable_85 (K : kC w p s m args meth c cX2_stable 5 RX2) (hret : meth.sig.returnType = (some .int)) {x1 : Int32} {x4 : Int32} {σ : kS} {r : (Int32 × kS)} {o : (Int32 × kS)} (h : fX2_stable_85 x1 x4 σ = some r) (hO : ∀ z, r = z → z = o) : kG w p l e rmX2_stable s m args below meth c (MQ below (kQi w o.1 o.2) args s 0 0 (kA w)) 5 σ 85 [(0, .ref (kL w 126)), (1, .int x1), (4, .int x4)] [] 0 0 := by
  unfold fX2_stable_85 at h
  refine k_aload_n K dX2_stable_85 0 rfl ?_
  refine fg_X2_20 K dX2_stable_86 ?_
  refine k_iload K dX2_stable_89 2 rfl ?_
  refine k_iload_n K dX2_stable_91 1 rfl ?_
  replace h := k_gd h
  obtain ⟨g1, h⟩ := h
  refine k_iast K dX2_stable_92 kd_129 g1 ?_
  refine k_iload K dX2_stable_93 2 rfl ?_
  cases h
  obtain rfl := hO _ rfl
  exact k_iret K hret dX2_stable_95 (by decide) (by decide)
set_option maxRecDepth 20000 in
theorem pX2_stable_42 (K : kC w p s m args meth c cX2_stable 5 RX2) (hret : meth.sig.returnType = (some .int)) {x1 : Int32} {σ : kS} {r : (Int32 × kS)} {o : (Int32 × kS)} (h : fX2_stable_42 x1 σ = some r) (hO : ∀ z, r = z → z = o) : kG w p l e rmX2_stable s m args below meth c (MQ below (kQi w o.1 o.2) args s 0 0 (kA w)) 5 σ 42 [(0, .ref (kL w 126)), (1, .int x1)] [] 0 0 := by
  unfold fX2_stable_42 at h
  refine k_aload_n K dX2_stable_42 0 rfl ?_
  refine k_iload_n K dX2_stable_43 1 rfl ?_
  replace h := k_bd h
  obtain ⟨r1, hr1, h⟩ := h
  refine cl_X2_91 K dX2_stable_44 hr1 (by decide) (Nat.le_of_ble_eq_true rfl) (by decide) ?_
  refine k_istore (lv' := [(4, .int r1), (0, .ref (kL w 126)), (1, .int x1)]) K dX2_stable_47 (by decide) rfl ?_
  refine k_iload_n K dX2_stable_49 2 rfl ?_
  refine k_iload K dX2_stable_50 0 rfl ?_
  replace h := k_br h
  rcases h with ⟨b2, h⟩ | ⟨b2, h⟩
  · refine k_icmp_eq K 93 dX2_stable_52 (by decide) (fun _ => ?_) (fun q => absurd b2 q)
    refine k_iload K dX2_stable_93 0 rfl ?_
    cases h
    obtain rfl := hO _ rfl
    exact k_iret K hret dX2_stable_95 (by decide) (by decide)
  · refine k_icmp_eq K 93 dX2_stable_52 (by decide) (fun q => absurd q b2) (fun _ => ?_)
    refine k_aload_n K dX2_stable_55 1 rfl ?_
    refine k_aload_n K dX2_stable_56 1 rfl ?_
    refine fg_X2_20 K dX2_stable_57 ?_
    refine k_iload K dX2_stable_60 0 rfl ?_
    replace h := k_gd h
    obtain ⟨g3, h⟩ := h
    refine k_iald K dX2_stable_62 kd_129 g3 ?_
    replace h := k_bd h
    obtain ⟨r4, hr4, h⟩ := h
    refine cl_X2_58 K dX2_stable_63 hr4 (by decide) (Nat.le_of_ble_eq_true rfl) (by decide) ?_
    replace h := k_br h
    rcases h with ⟨b5, h⟩ | ⟨b5, h⟩
    · refine k_if_eq K 85 dX2_stable_66 (by decide) (fun _ => ?_) (fun q => absurd b5 q)
      refine k_sub [1, 2, 0] rfl ?_
      exact pX2_stable_85 K hret h hO
    · refine k_if_eq K 85 dX2_stable_66 (by decide) (fun q => absurd q b5) (fun _ => ?_)
      refine k_iload_n K dX2_stable_69 2 rfl ?_
      refine k_aload_n K dX2_stable_70 1 rfl ?_
      refine fg_X2_20 K dX2_stable_71 ?_
      refine k_iload K dX2_stable_74 0 rfl ?_
      refine k_iald K dX2_stable_76 kd_129 g3 ?_
      refine k_iload K dX2_stable_77 0 rfl ?_
      replace h := k_bd h
      obtain ⟨r6, hr6, h⟩ := h
      refine cl_X2_84 K dX2_stable_79 hr6 (by decide) (Nat.le_of_ble_eq_true rfl) (by decide) ?_
      replace h := k_br h
      rcases h with ⟨b7, h⟩ | ⟨b7, h⟩
      · refine k_if_eq K 93 dX2_stable_82 (by decide) (fun _ => ?_) (fun q => absurd b7 q)
        refine k_iload K dX2_stable_93 0 rfl ?_
        cases h
        obtain rfl := hO _ rfl
        exact k_iret K hret dX2_stable_95 (by decide) (by decide)
      · refine k_if_eq K 93 dX2_stable_82 (by decide) (fun q => absurd q b7) (fun _ => ?_)
        refine k_sub [1, 2, 0] rfl ?_
        exact pX2_stable_85 K hret h hO
set_option maxRecDepth 20000 in
theorem mX2_stable (l : Launch) (w : kW) (σ : kS) (x1 : Int32) {o : (Int32 × kS)} (h : fX2_stable σ x1 = some o) : Met l yX2_stable (Cond.code yX2_stable cX2_stable 5 (some .int) :: TB) rmX2_stable (va_Pc [.ref (kL w 126), .int x1] (kP w σ)) (kQi w o.1 o.2) 0 0 (kA w) := by
  refine k_met (by decide +kernel) [.ref (kL w 126), .int x1] (Nat.le_of_ble_eq_true rfl) (by simp [lv_args, Value.category]) ?_
  intro p e s m args below meth c K hret
  have K : kC w p s m args meth c cX2_stable 5 RX2 := K
  obtain ⟨r, hro⟩ : ∃ r, r = o := ⟨o, rfl⟩
  rw [← hro] at h
  have hO : ∀ z, r = z → z = o := fun z e => by rw [← e]; exact hro
  unfold fX2_stable at h
  refine k_aload_n K dX2_stable_0 0 rfl ?_
  refine k_iload_n K dX2_stable_1 1 rfl ?_
  replace h := k_bd h
  obtain ⟨r1, hr1, h⟩ := h
  refine cl_X2_91 K dX2_stable_2 hr1 (by decide) (Nat.le_of_ble_eq_true rfl) (by decide) ?_
  refine k_istore_n (lv' := [(2, .int r1), (0, .ref (kL w 126)), (1, .int x1)]) K dX2_stable_5 (by decide) rfl ?_
  refine k_aload_n K dX2_stable_6 1 rfl ?_
  refine k_iload_n K dX2_stable_7 2 rfl ?_
  refine k_iload_n K dX2_stable_8 0 rfl ?_
  replace h := k_bd h
  obtain ⟨r2, hr2, h⟩ := h
  refine cl_X2_107 K dX2_stable_9 hr2 (by decide) (Nat.le_of_ble_eq_true rfl) (by decide) ?_
  refine k_aload_n K dX2_stable_12 1 rfl ?_
  refine fg_X2_20 K dX2_stable_13 ?_
  refine k_iload_n K dX2_stable_16 0 rfl ?_
  replace h := k_gd h
  obtain ⟨g3, h⟩ := h
  refine k_iald K dX2_stable_17 kd_129 g3 ?_
  refine k_istore_n (lv' := [(3, .int (r2.1 129 r1.toNatClampNeg)), (2, .int r1), (0, .ref (kL w 126)), (1, .int x1)]) K dX2_stable_18 (by decide) rfl ?_
  refine k_aload_n K dX2_stable_19 2 rfl ?_
  refine k_iload_n K dX2_stable_20 0 rfl ?_
  replace h := k_bd h
  obtain ⟨r4, hr4, h⟩ := h
  refine cl_X2_58 K dX2_stable_21 hr4 (by decide) (Nat.le_of_ble_eq_true rfl) (by decide) ?_
  replace h := k_br h
  rcases h with ⟨b5, h⟩ | ⟨b5, h⟩
  · refine k_if_eq K 42 dX2_stable_24 (by decide) (fun _ => ?_) (fun q => absurd b5 q)
    refine k_sub [2, 3] rfl ?_
    exact pX2_stable_42 K hret h hO
  · refine k_if_eq K 42 dX2_stable_24 (by decide) (fun q => absurd q b5) (fun _ => ?_)
    refine k_iload_n K dX2_stable_27 0 rfl ?_
    refine k_iload_n K dX2_stable_28 3 rfl ?_
    refine k_iload_n K dX2_stable_29 1 rfl ?_
    replace h := k_bd h
    obtain ⟨r6, hr6, h⟩ := h
    refine cl_X2_84 K dX2_stable_30 hr6 (by decide) (Nat.le_of_ble_eq_true rfl) (by decide) ?_
    replace h := k_br h
    rcases h with ⟨b7, h⟩ | ⟨b7, h⟩
    · refine k_if_eq K 42 dX2_stable_33 (by decide) (fun _ => ?_) (fun q => absurd b7 q)
      refine k_sub [2, 3] rfl ?_
      exact pX2_stable_42 K hret h hO
    · refine k_if_eq K 42 dX2_stable_33 (by decide) (fun q => absurd q b7) (fun _ => ?_)
      refine k_aload_n K dX2_stable_36 2 rfl ?_
      refine k_iload_n K dX2_stable_37 3 rfl ?_
      refine k_iload_n K dX2_stable_38 0 rfl ?_
      replace h := k_bd h
      obtain ⟨r8, hr8, h⟩ := h
      refine cl_X2_107 K dX2_stable_39 hr8 (by decide) (Nat.le_of_ble_eq_true rfl) (by decide) ?_
      refine k_sub [2, 3] rfl ?_
      exact pX2_stable_42 K hret h hO
end F_X2_stable
section C_X2_stable
variable {w : kW} {p : Program} {l : Launch} {e : Env} {R : Room} {s : State} {m : MethodId} {args : Array Value} {below : List Frame} {meth : Method} {c : Code} {Q : State → Prop} {cc : ByteArray} {nL : Nat} {σ : kS} {pc : Nat} {lv : List (Nat × Value)} {st rest : List Value} {cells slots : Nat}
theorem cl_X2_114 (K : kC w p s m args meth c cc nL RX2) {a1 : Int32} {r : (Int32 × kS)} (d : decode cc pc = .ok (.invokevirtual 114, 3)) (h : fX2_stable σ a1 = some r) (hR : rmX2_stable.frames + 1 ≤ R.frames ∧ 8 + (5 + 11) + rmX2_stable.locals ≤ R.locals) (hr : (rest.map fun v => v.category).sum ≤ 8) (hf : cells + 0 ≤ R.cells ∧ slots + 0 ≤ R.slots) (kk : kG w p l e R s m args below meth c Q nL r.2 (pc + 3) lv (.int r.1 :: rest) (cells + 0) (slots + 0)) : kG w p l e R s m args below meth c Q nL σ pc lv (.int a1 :: .ref (kL w 126) :: rest) cells slots :=
  k_callVi (As := [.int a1]) (rest := rest) (n := 1) (C := RX2) (T := TX2) K d kd_126 rfl (kg_V tw_682 tw_684 tw_38 tw_50 tw_685) rfl (by decide +kernel) rfl hR hr rfl hf (mX2_stable l w σ a1 h) ⟨rfl, rfl⟩ kk
end C_X2_stable
section F_X2_stabilise
variable {w : kW} {p : Program} {l : Launch} {e : Env} {s : State} {m : MethodId} {args : Array Value} {below : List Frame} {meth : Method} {c : Code}
def fX2_stabilise (σ : kS) (x1 : Int32) : Option (Int32 × kS) :=
  (fX2_member σ x1).bind fun r1 =>
  (fX2_goes σ r1 1 1).bind fun r2 =>
  if r2.1 = 0 then
    some ((0, r2.2))
  else
    (fX2_stable r2.2 x1).bind fun r4 =>
    some ((r4.1, r4.2))
def rmX2_stabilise : Room := { frames := 4, cells := 0, slots := 0, locals := 87 }
set_option maxRecDepth 20000 in
theorem mX2_stabilise (l : Launch) (w : kW) (σ : kS) (x1 : Int32) {o : (Int32 × kS)} (h : fX2_stabilise σ x1 = some o) : Met l yX2_stabilise (Cond.code yX2_stabilise cX2_stabilise 2 (some .int) :: TB) rmX2_stabilise (va_Pc [.ref (kL w 126), .int x1] (kP w σ)) (kQi w o.1 o.2) 0 0 (kA w) := by
  refine k_met (by decide +kernel) [.ref (kL w 126), .int x1] (Nat.le_of_ble_eq_true rfl) (by simp [lv_args, Value.category]) ?_
  intro p e s m args below meth c K hret
  have K : kC w p s m args meth c cX2_stabilise 2 RX2 := K
  obtain ⟨r, hro⟩ : ∃ r, r = o := ⟨o, rfl⟩
  rw [← hro] at h
  have hO : ∀ z, r = z → z = o := fun z e => by rw [← e]; exact hro
  unfold fX2_stabilise at h
  refine k_aload_n K dX2_stabilise_0 0 rfl ?_
  refine k_aload_n K dX2_stabilise_1 0 rfl ?_
  refine k_iload_n K dX2_stabilise_2 1 rfl ?_
  replace h := k_bd h
  obtain ⟨r1, hr1, h⟩ := h
  refine cl_X2_101 K dX2_stabilise_3 hr1 (by decide) (Nat.le_of_ble_eq_true rfl) (by decide) ?_
  refine k_iconst (v := 1) K dX2_stabilise_6 (by decide) ?_
  refine k_iconst (v := 1) K dX2_stabilise_7 (by decide) ?_
  replace h := k_bd h
  obtain ⟨r2, hr2, h⟩ := h
  refine cl_X2_69 K dX2_stabilise_8 hr2 (by decide) (Nat.le_of_ble_eq_true rfl) (by decide) ?_
  replace h := k_br h
  rcases h with ⟨b3, h⟩ | ⟨b3, h⟩
  · refine k_if_eq K 22 dX2_stabilise_11 (by decide) (fun _ => ?_) (fun q => absurd b3 q)
    refine k_iconst (v := 0) K dX2_stabilise_22 (by decide) ?_
    cases h
    obtain rfl := hO _ rfl
    exact k_iret (v := 0) K hret dX2_stabilise_23 (by decide) (by decide)
  · refine k_if_eq K 22 dX2_stabilise_11 (by decide) (fun q => absurd q b3) (fun _ => ?_)
    refine k_aload_n K dX2_stabilise_14 0 rfl ?_
    refine k_iload_n K dX2_stabilise_15 1 rfl ?_
    replace h := k_bd h
    obtain ⟨r4, hr4, h⟩ := h
    refine cl_X2_114 K dX2_stabilise_16 hr4 (by decide) (Nat.le_of_ble_eq_true rfl) (by decide) ?_
    refine k_goto K 23 dX2_stabilise_19 (by decide) ?_
    cases h
    obtain rfl := hO _ rfl
    exact k_iret (v := r4.1) K hret dX2_stabilise_23 (by decide) (by decide)
end F_X2_stabilise
section F_X2_last
variable {w : kW} {p : Program} {l : Launch} {e : Env} {s : State} {m : MethodId} {args : Array Value} {below : List Frame} {meth : Method} {c : Code}
def gX2_last_2 (x1 : Int32) (σ : kS) (x2 : Int32) : Option ((Int32) ⊕ Int32) :=
  if 256 ≤ x2 then
    some (.inr ((-1)))
  else
    if vpi (((x1 + 256) - x2) - ((x1 + 256) - x2) / 256 * 256) 256 then
      if (σ.1 127 (((x1 + 256) - x2) - ((x1 + 256) - x2) / 256 * 256).toNatClampNeg) = 1 then
        some (.inr (((x1 + 256) - x2) - ((x1 + 256) - x2) / 256 * 256))
      else
        some (.inl (x2 + 1))
    else none
def fX2_last_2 (x1 : Int32) (σ : kS) (a : Int32) : Option ((Int32) ⊕ Int32) := gX2_last_2 x1 σ a
def fX2_last (σ : kS) (x1 : Int32) : Option Int32 :=
  kit (fX2_last_2 x1 σ) 300 (0)
def rmX2_last : Room := { frames := 0, cells := 0, slots := 0, locals := 0 }
set_option maxRecDepth 20000 in
theorem pX2_last_2 (K : kC w p s m args meth c cX2_last 3 RX2) (hret : meth.sig.returnType = (some .int)) {x1 : Int32} {σ : kS} {x2 : Int32} {r : ((Int32) ⊕ Int32)} {o : Int32} (h : gX2_last_2 x1 σ x2 = some r) (hL2 : ∀ z, r = .inl z → kG w p l e rmX2_last s m args below meth c (MQ below (kQi w o σ) args s 0 0 (kA w)) 3 σ 2 [(0, .ref (kL w 126)), (1, .int x1), (2, .int z)] [] 0 0) (hO : ∀ z, r = .inr z → z = o) : kG w p l e rmX2_last s m args below meth c (MQ below (kQi w o σ) args s 0 0 (kA w)) 3 σ 2 [(0, .ref (kL w 126)), (1, .int x1), (2, .int x2)] [] 0 0 := by
  unfold gX2_last_2 at h
  refine k_iload_n K dX2_last_2 2 rfl ?_
  refine k_sipush (v := 256) K dX2_last_3 (by decide) ?_
  replace h := k_br h
  rcases h with ⟨b1, h⟩ | ⟨b1, h⟩
  · refine k_icmp_ge K 47 dX2_last_6 (by decide) (fun _ => ?_) (fun q => absurd b1 q)
    refine k_iconst (v := (-1)) K dX2_last_47 (by decide) ?_
    cases h
    obtain rfl := hO _ rfl
    exact k_iret (v := (-1)) K hret dX2_last_48 (by decide) (by decide)
  · refine k_icmp_ge K 47 dX2_last_6 (by decide) (fun q => absurd q b1) (fun _ => ?_)
    refine k_aload_n K dX2_last_9 0 rfl ?_
    refine fg_X2_13 K dX2_last_10 ?_
    refine k_iload_n K dX2_last_13 1 rfl ?_
    refine k_sipush (v := 256) K dX2_last_14 (by decide) ?_
    refine k_iadd K dX2_last_17 ?_
    refine k_iload_n K dX2_last_18 2 rfl ?_
    refine k_isub K dX2_last_19 ?_
    refine k_sipush (v := 256) K dX2_last_20 (by decide) ?_
    refine k_irem K dX2_last_23 (by decide) ?_
    replace h := k_gd h
    obtain ⟨g2, h⟩ := h
    refine k_iald K dX2_last_24 kd_127 g2 ?_
    refine k_iconst (v := 1) K dX2_last_25 (by decide) ?_
    replace h := k_br h
    rcases h with ⟨b3, h⟩ | ⟨b3, h⟩
    · refine k_icmp_ne K 41 dX2_last_26 (by decide) (fun q => absurd b3 q) (fun _ => ?_)
      refine k_iload_n K dX2_last_29 1 rfl ?_
      refine k_sipush (v := 256) K dX2_last_30 (by decide) ?_
      refine k_iadd K dX2_last_33 ?_
      refine k_iload_n K dX2_last_34 2 rfl ?_
      refine k_isub K dX2_last_35 ?_
      refine k_sipush (v := 256) K dX2_last_36 (by decide) ?_
      refine k_irem K dX2_last_39 (by decide) ?_
      cases h
      obtain rfl := hO _ rfl
      exact k_iret (v := ((x1 + 256) - x2) - ((x1 + 256) - x2) / 256 * 256) K hret dX2_last_40 (by decide) (by decide)
    · refine k_icmp_ne K 41 dX2_last_26 (by decide) (fun _ => ?_) (fun q => absurd q b3)
      refine k_iinc (v := 1) (lv' := [(2, .int (x2 + 1)), (0, .ref (kL w 126)), (1, .int x1)]) K dX2_last_41 2 rfl (by decide) (by decide) rfl ?_
      refine k_goto K 2 dX2_last_44 (by decide) ?_
      refine k_sub [1, 2, 0] rfl ?_
      cases h
      exact hL2 _ rfl
set_option maxRecDepth 20000 in
theorem lX2_last_2 (K : kC w p s m args meth c cX2_last 3 RX2) (hret : meth.sig.returnType = (some .int)) {x1 : Int32} {σ : kS} {n : Nat} {a : Int32} {r : Int32} {o : Int32} (h : kit (fX2_last_2 x1 σ) n a = some r) (hO : ∀ z, r = z → z = o) : kG w p l e rmX2_last s m args below meth c (MQ below (kQi w o σ) args s 0 0 (kA w)) 3 σ 2 [(0, .ref (kL w 126)), (1, .int x1), (2, .int a)] [] 0 0 :=
  kit_ind (body := fX2_last_2 x1 σ) (fun a r => (∀ z, r = z → z = o) → kG w p l e rmX2_last s m args below meth c (MQ below (kQi w o σ) args s 0 0 (kA w)) 3 σ 2 [(0, .ref (kL w 126)), (1, .int x1), (2, .int a)] [] 0 0) (fun a a2 r hb ih hO => pX2_last_2 K hret hb (fun z e => by cases e; exact ih hO) (fun _ e => by cases e)) (fun a r hb hO => pX2_last_2 K hret hb (fun _ e => by cases e) (fun z e => hO z (by cases e; rfl))) n a r h hO
set_option maxRecDepth 20000 in
theorem mX2_last (l : Launch) (w : kW) (σ : kS) (x1 : Int32) {o : Int32} (h : fX2_last σ x1 = some o) : Met l yX2_last (Cond.code yX2_last cX2_last 3 (some .int) :: TB) rmX2_last (va_Pc [.ref (kL w 126), .int x1] (kP w σ)) (kQi w o σ) 0 0 (kA w) := by
  refine k_met (by decide +kernel) [.ref (kL w 126), .int x1] (Nat.le_of_ble_eq_true rfl) (by simp [lv_args, Value.category]) ?_
  intro p e s m args below meth c K hret
  have K : kC w p s m args meth c cX2_last 3 RX2 := K
  obtain ⟨r, hro⟩ : ∃ r, r = o := ⟨o, rfl⟩
  rw [← hro] at h
  have hO : ∀ z, r = z → z = o := fun z e => by rw [← e]; exact hro
  unfold fX2_last at h
  refine k_iconst (v := 0) K dX2_last_0 (by decide) ?_
  refine k_istore_n (lv' := [(2, .int 0), (0, .ref (kL w 126)), (1, .int x1)]) K dX2_last_1 (by decide) rfl ?_
  refine k_sub [1, 2, 0] rfl ?_
  exact lX2_last_2 K hret h hO
end F_X2_last
section C_X2_last
variable {w : kW} {p : Program} {l : Launch} {e : Env} {R : Room} {s : State} {m : MethodId} {args : Array Value} {below : List Frame} {meth : Method} {c : Code} {Q : State → Prop} {cc : ByteArray} {nL : Nat} {σ : kS} {pc : Nat} {lv : List (Nat × Value)} {st rest : List Value} {cells slots : Nat}
theorem cl_X2_81 (K : kC w p s m args meth c cc nL RX2) {a1 : Int32} {r : Int32} (d : decode cc pc = .ok (.invokevirtual 81, 3)) (h : fX2_last σ a1 = some r) (hR : rmX2_last.frames + 1 ≤ R.frames ∧ 8 + (3 + 11) + rmX2_last.locals ≤ R.locals) (hr : (rest.map fun v => v.category).sum ≤ 8) (hf : cells + 0 ≤ R.cells ∧ slots + 0 ≤ R.slots) (kk : kG w p l e R s m args below meth c Q nL σ (pc + 3) lv (.int r :: rest) (cells + 0) (slots + 0)) : kG w p l e R s m args below meth c Q nL σ pc lv (.int a1 :: .ref (kL w 126) :: rest) cells slots :=
  k_callVi (As := [.int a1]) (rest := rest) (n := 1) (C := RX2) (T := TX2) K d kd_126 rfl (kg_V tw_632 tw_634 tw_30 tw_50 tw_635) rfl (by decide +kernel) rfl hR hr rfl hf (mX2_last l w σ a1 h) ⟨rfl, rfl⟩ kk
end C_X2_last
section F_X2_later
variable {w : kW} {p : Program} {l : Launch} {e : Env} {s : State} {m : MethodId} {args : Array Value} {below : List Frame} {meth : Method} {c : Code}
def fX2_later_40 (x4 : Int32) (σ : kS) : Option Int32 :=
  some (x4)
def fX2_later (σ : kS) (x1 : Int32) (x2 : Int32) (x3 : Int32) (x4 : Int32) : Option Int32 :=
  (fX2_live σ x4).bind fun r1 =>
  if r1 = 0 then
    some (x3)
  else
    (fX2_between x4 x1 x2).bind fun r3 =>
    if r3 = 0 then
      some (x3)
    else
      if x3 = ((-1)) then
        fX2_later_40 x4 σ
      else
        (fX2_up x1 x4).bind fun r6 =>
        (fX2_up x1 x3).bind fun r7 =>
        if r6 ≤ r7 then
          some (x3)
        else
          fX2_later_40 x4 σ
def rmX2_later : Room := { frames := 2, cells := 0, slots := 0, locals := 43 }
set_option maxRecDepth 20000 in
theorem pX2_later_40 (K : kC w p s m args meth c cX2_later 5 RX2) (hret : meth.sig.returnType = (some .int)) {x4 : Int32} {σ : kS} {r : Int32} {o : Int32} (h : fX2_later_40 x4 σ = some r) (hO : ∀ z, r = z → z = o) : kG w p l e rmX2_later s m args below meth c (MQ below (kQi w o σ) args s 0 0 (kA w)) 5 σ 40 [(4, .int x4)] [] 0 0 := by
  unfold fX2_later_40 at h
  refine k_iload K dX2_later_40 0 rfl ?_
  refine k_goto K 46 dX2_later_42 (by decide) ?_
  cases h
  obtain rfl := hO _ rfl
  exact k_iret K hret dX2_later_46 (by decide) (by decide)
set_option maxRecDepth 20000 in
theorem mX2_later (l : Launch) (w : kW) (σ : kS) (x1 : Int32) (x2 : Int32) (x3 : Int32) (x4 : Int32) {o : Int32} (h : fX2_later σ x1 x2 x3 x4 = some o) : Met l yX2_later (Cond.code yX2_later cX2_later 5 (some .int) :: TB) rmX2_later (va_Pc [.ref (kL w 126), .int x1, .int x2, .int x3, .int x4] (kP w σ)) (kQi w o σ) 0 0 (kA w) := by
  refine k_met (by decide +kernel) [.ref (kL w 126), .int x1, .int x2, .int x3, .int x4] (Nat.le_of_ble_eq_true rfl) (by simp [lv_args, Value.category]) ?_
  intro p e s m args below meth c K hret
  have K : kC w p s m args meth c cX2_later 5 RX2 := K
  obtain ⟨r, hro⟩ : ∃ r, r = o := ⟨o, rfl⟩
  rw [← hro] at h
  have hO : ∀ z, r = z → z = o := fun z e => by rw [← e]; exact hro
  unfold fX2_later at h
  refine k_aload_n K dX2_later_0 0 rfl ?_
  refine k_iload K dX2_later_1 4 rfl ?_
  replace h := k_bd h
  obtain ⟨r1, hr1, h⟩ := h
  refine cl_X2_58 K dX2_later_3 hr1 (by decide) (Nat.le_of_ble_eq_true rfl) (by decide) ?_
  replace h := k_br h
  rcases h with ⟨b2, h⟩ | ⟨b2, h⟩
  · refine k_if_eq K 19 dX2_later_6 (by decide) (fun _ => ?_) (fun q => absurd b2 q)
    refine k_iload_n K dX2_later_19 3 rfl ?_
    cases h
    obtain rfl := hO _ rfl
    exact k_iret K hret dX2_later_20 (by decide) (by decide)
  · refine k_if_eq K 19 dX2_later_6 (by decide) (fun q => absurd q b2) (fun _ => ?_)
    refine k_iload K dX2_later_9 4 rfl ?_
    refine k_iload_n K dX2_later_11 1 rfl ?_
    refine k_iload_n K dX2_later_12 2 rfl ?_
    replace h := k_bd h
    obtain ⟨r3, hr3, h⟩ := h
    refine cl_X2_84 K dX2_later_13 hr3 (by decide) (Nat.le_of_ble_eq_true rfl) (by decide) ?_
    replace h := k_br h
    rcases h with ⟨b4, h⟩ | ⟨b4, h⟩
    · refine k_if_ne K 21 dX2_later_16 (by decide) (fun q => absurd b4 q) (fun _ => ?_)
      refine k_iload_n K dX2_later_19 3 rfl ?_
      cases h
      obtain rfl := hO _ rfl
      exact k_iret K hret dX2_later_20 (by decide) (by decide)
    · refine k_if_ne K 21 dX2_later_16 (by decide) (fun _ => ?_) (fun q => absurd q b4)
      refine k_iload_n K dX2_later_21 3 rfl ?_
      refine k_iconst (v := (-1)) K dX2_later_22 (by decide) ?_
      replace h := k_br h
      rcases h with ⟨b5, h⟩ | ⟨b5, h⟩
      · refine k_icmp_eq K 40 dX2_later_23 (by decide) (fun _ => ?_) (fun q => absurd b5 q)
        refine k_sub [4] rfl ?_
        exact pX2_later_40 K hret h hO
      · refine k_icmp_eq K 40 dX2_later_23 (by decide) (fun q => absurd q b5) (fun _ => ?_)
        refine k_iload_n K dX2_later_26 1 rfl ?_
        refine k_iload K dX2_later_27 4 rfl ?_
        replace h := k_bd h
        obtain ⟨r6, hr6, h⟩ := h
        refine cl_X2_61 K dX2_later_29 hr6 (by decide) (Nat.le_of_ble_eq_true rfl) (by decide) ?_
        refine k_iload_n K dX2_later_32 1 rfl ?_
        refine k_iload_n K dX2_later_33 3 rfl ?_
        replace h := k_bd h
        obtain ⟨r7, hr7, h⟩ := h
        refine cl_X2_61 K dX2_later_34 hr7 (by decide) (Nat.le_of_ble_eq_true rfl) (by decide) ?_
        replace h := k_br h
        rcases h with ⟨b8, h⟩ | ⟨b8, h⟩
        · refine k_icmp_le K 45 dX2_later_37 (by decide) (fun _ => ?_) (fun q => absurd b8 q)
          refine k_iload_n K dX2_later_45 3 rfl ?_
          cases h
          obtain rfl := hO _ rfl
          exact k_iret K hret dX2_later_46 (by decide) (by decide)
        · refine k_icmp_le K 45 dX2_later_37 (by decide) (fun q => absurd q b8) (fun _ => ?_)
          refine k_sub [4] rfl ?_
          exact pX2_later_40 K hret h hO
end F_X2_later
section C_X2_later
variable {w : kW} {p : Program} {l : Launch} {e : Env} {R : Room} {s : State} {m : MethodId} {args : Array Value} {below : List Frame} {meth : Method} {c : Code} {Q : State → Prop} {cc : ByteArray} {nL : Nat} {σ : kS} {pc : Nat} {lv : List (Nat × Value)} {st rest : List Value} {cells slots : Nat}
theorem cl_X2_94 (K : kC w p s m args meth c cc nL RX2) {a1 : Int32} {a2 : Int32} {a3 : Int32} {a4 : Int32} {r : Int32} (d : decode cc pc = .ok (.invokevirtual 94, 3)) (h : fX2_later σ a1 a2 a3 a4 = some r) (hR : rmX2_later.frames + 1 ≤ R.frames ∧ 8 + (5 + 11) + rmX2_later.locals ≤ R.locals) (hr : (rest.map fun v => v.category).sum ≤ 8) (hf : cells + 0 ≤ R.cells ∧ slots + 0 ≤ R.slots) (kk : kG w p l e R s m args below meth c Q nL σ (pc + 3) lv (.int r :: rest) (cells + 0) (slots + 0)) : kG w p l e R s m args below meth c Q nL σ pc lv (.int a4 :: .int a3 :: .int a2 :: .int a1 :: .ref (kL w 126) :: rest) cells slots :=
  k_callVi (As := [.int a1, .int a2, .int a3, .int a4]) (rest := rest) (n := 4) (C := RX2) (T := TX2) K d kd_126 rfl (kg_V tw_662 tw_664 tw_35 tw_50 tw_665) rfl (by decide +kernel) rfl hR hr rfl hf (mX2_later l w σ a1 a2 a3 a4 h) ⟨rfl, rfl⟩ kk
end C_X2_later
section F_X2_empty
variable {w : kW} {p : Program} {l : Launch} {e : Env} {s : State} {m : MethodId} {args : Array Value} {below : List Frame} {meth : Method} {c : Code}
def gX2_empty_42 (x1 : Int32) (x2 : Int32) (σ : kS) : Option ((Int32 × kS) ⊕ kS) :=
  if 64 ≤ x2 then
    some (.inr (σ))
  else
    if vpi ((64 * x1) + x2) 16384 then
      some (.inl (x2 + 1, sI σ 132 ((64 * x1) + x2).toNatClampNeg 0))
    else none
def fX2_empty_42 (x1 : Int32) (a : Int32 × kS) : Option ((Int32 × kS) ⊕ kS) := gX2_empty_42 x1 a.1 a.2
def gX2_empty_16 (x1 : Int32) (x2 : Int32) (σ : kS) : Option ((Int32 × kS) ⊕ kS) :=
  if 8 ≤ x2 then
    (kit (fX2_empty_42 x1) 300 (0, σ)).map .inr
  else
    if vpi ((8 * x1) + x2) 2048 then
      some (.inl (x2 + 1, sI σ 130 ((8 * x1) + x2).toNatClampNeg ((-1))))
    else none
def fX2_empty_16 (x1 : Int32) (a : Int32 × kS) : Option ((Int32 × kS) ⊕ kS) := gX2_empty_16 x1 a.1 a.2
def fX2_empty (σ : kS) (x1 : Int32) : Option kS :=
  if vpi x1 256 then
    kit (fX2_empty_16 x1) 300 (0, sI (sI σ 129 x1.toNatClampNeg ((-1))) 131 x1.toNatClampNeg 0)
  else none
def rmX2_empty : Room := { frames := 0, cells := 0, slots := 0, locals := 0 }
set_option maxRecDepth 20000 in
theorem pX2_empty_42 (K : kC w p s m args meth c cX2_empty 3 RX2) (hret : meth.sig.returnType = none) {x1 : Int32} {x2 : Int32} {σ : kS} {r : ((Int32 × kS) ⊕ kS)} {o : kS} (h : gX2_empty_42 x1 x2 σ = some r) (hL42 : ∀ z, r = .inl z → kG w p l e rmX2_empty s m args below meth c (MQ below (kQv w o) args s 0 0 (kA w)) 3 z.2 42 [(0, .ref (kL w 126)), (1, .int x1), (2, .int (z.1))] [] 0 0) (hO : ∀ z, r = .inr z → z = o) : kG w p l e rmX2_empty s m args below meth c (MQ below (kQv w o) args s 0 0 (kA w)) 3 σ 42 [(0, .ref (kL w 126)), (1, .int x1), (2, .int x2)] [] 0 0 := by
  unfold gX2_empty_42 at h
  refine k_iload_n K dX2_empty_42 2 rfl ?_
  refine k_bipush (v := 64) K dX2_empty_43 (by decide) ?_
  replace h := k_br h
  rcases h with ⟨b1, h⟩ | ⟨b1, h⟩
  · refine k_icmp_ge K 66 dX2_empty_45 (by decide) (fun _ => ?_) (fun q => absurd b1 q)
    cases h
    obtain rfl := hO _ rfl
    exact k_vret K hret dX2_empty_66 (by decide) (by decide)
  · refine k_icmp_ge K 66 dX2_empty_45 (by decide) (fun q => absurd q b1) (fun _ => ?_)
    refine k_aload_n K dX2_empty_48 0 rfl ?_
    refine fg_X2_29 K dX2_empty_49 ?_
    refine k_bipush (v := 64) K dX2_empty_52 (by decide) ?_
    refine k_iload_n K dX2_empty_54 1 rfl ?_
    refine k_imul K dX2_empty_55 ?_
    refine k_iload_n K dX2_empty_56 2 rfl ?_
    refine k_iadd K dX2_empty_57 ?_
    refine k_iconst (v := 0) K dX2_empty_58 (by decide) ?_
    replace h := k_gd h
    obtain ⟨g2, h⟩ := h
    refine k_iast K dX2_empty_59 kd_132 g2 ?_
    refine k_iinc (v := 1) (lv' := [(2, .int (x2 + 1)), (0, .ref (kL w 126)), (1, .int x1)]) K dX2_empty_60 2 rfl (by decide) (by decide) rfl ?_
    refine k_goto K 42 dX2_empty_63 (by decide) ?_
    refine k_sub [1, 2, 0] rfl ?_
    cases h
    exact hL42 _ rfl
set_option maxRecDepth 20000 in
theorem lX2_empty_42 (K : kC w p s m args meth c cX2_empty 3 RX2) (hret : meth.sig.returnType = none) {x1 : Int32} {n : Nat} {a : Int32 × kS} {r : kS} {o : kS} (h : kit (fX2_empty_42 x1) n a = some r) (hO : ∀ z, r = z → z = o) : kG w p l e rmX2_empty s m args below meth c (MQ below (kQv w o) args s 0 0 (kA w)) 3 a.2 42 [(0, .ref (kL w 126)), (1, .int x1), (2, .int (a.1))] [] 0 0 :=
  kit_ind (body := fX2_empty_42 x1) (fun a r => (∀ z, r = z → z = o) → kG w p l e rmX2_empty s m args below meth c (MQ below (kQv w o) args s 0 0 (kA w)) 3 a.2 42 [(0, .ref (kL w 126)), (1, .int x1), (2, .int (a.1))] [] 0 0) (fun a a2 r hb ih hO => pX2_empty_42 K hret hb (fun z e => by cases e; exact ih hO) (fun _ e => by cases e)) (fun a r hb hO => pX2_empty_42 K hret hb (fun _ e => by cases e) (fun z e => hO z (by cases e; rfl))) n a r h hO
set_option maxRecDepth 20000 in
theorem pX2_empty_16 (K : kC w p s m args meth c cX2_empty 3 RX2) (hret : meth.sig.returnType = none) {x1 : Int32} {x2 : Int32} {σ : kS} {r : ((Int32 × kS) ⊕ kS)} {o : kS} (h : gX2_empty_16 x1 x2 σ = some r) (hL16 : ∀ z, r = .inl z → kG w p l e rmX2_empty s m args below meth c (MQ below (kQv w o) args s 0 0 (kA w)) 3 z.2 16 [(0, .ref (kL w 126)), (1, .int x1), (2, .int (z.1))] [] 0 0) (hO : ∀ z, r = .inr z → z = o) : kG w p l e rmX2_empty s m args below meth c (MQ below (kQv w o) args s 0 0 (kA w)) 3 σ 16 [(0, .ref (kL w 126)), (1, .int x1), (2, .int x2)] [] 0 0 := by
  unfold gX2_empty_16 at h
  refine k_iload_n K dX2_empty_16 2 rfl ?_
  refine k_bipush (v := 8) K dX2_empty_17 (by decide) ?_
  replace h := k_br h
  rcases h with ⟨b1, h⟩ | ⟨b1, h⟩
  · refine k_icmp_ge K 40 dX2_empty_19 (by decide) (fun _ => ?_) (fun q => absurd b1 q)
    refine k_iconst (v := 0) K dX2_empty_40 (by decide) ?_
    refine k_istore_n (lv' := [(2, .int 0), (0, .ref (kL w 126)), (1, .int x1)]) K dX2_empty_41 (by decide) rfl ?_
    refine k_sub [1, 2, 0] rfl ?_
    replace h := k_mp h
    obtain ⟨_, h, rfl⟩ := h
    exact lX2_empty_42 K hret h (fun z e => hO z (by rw [e]))
  · refine k_icmp_ge K 40 dX2_empty_19 (by decide) (fun q => absurd q b1) (fun _ => ?_)
    refine k_aload_n K dX2_empty_22 0 rfl ?_
    refine fg_X2_23 K dX2_empty_23 ?_
    refine k_bipush (v := 8) K dX2_empty_26 (by decide) ?_
    refine k_iload_n K dX2_empty_28 1 rfl ?_
    refine k_imul K dX2_empty_29 ?_
    refine k_iload_n K dX2_empty_30 2 rfl ?_
    refine k_iadd K dX2_empty_31 ?_
    refine k_iconst (v := (-1)) K dX2_empty_32 (by decide) ?_
    replace h := k_gd h
    obtain ⟨g2, h⟩ := h
    refine k_iast K dX2_empty_33 kd_130 g2 ?_
    refine k_iinc (v := 1) (lv' := [(2, .int (x2 + 1)), (0, .ref (kL w 126)), (1, .int x1)]) K dX2_empty_34 2 rfl (by decide) (by decide) rfl ?_
    refine k_goto K 16 dX2_empty_37 (by decide) ?_
    refine k_sub [1, 2, 0] rfl ?_
    cases h
    exact hL16 _ rfl
set_option maxRecDepth 20000 in
theorem lX2_empty_16 (K : kC w p s m args meth c cX2_empty 3 RX2) (hret : meth.sig.returnType = none) {x1 : Int32} {n : Nat} {a : Int32 × kS} {r : kS} {o : kS} (h : kit (fX2_empty_16 x1) n a = some r) (hO : ∀ z, r = z → z = o) : kG w p l e rmX2_empty s m args below meth c (MQ below (kQv w o) args s 0 0 (kA w)) 3 a.2 16 [(0, .ref (kL w 126)), (1, .int x1), (2, .int (a.1))] [] 0 0 :=
  kit_ind (body := fX2_empty_16 x1) (fun a r => (∀ z, r = z → z = o) → kG w p l e rmX2_empty s m args below meth c (MQ below (kQv w o) args s 0 0 (kA w)) 3 a.2 16 [(0, .ref (kL w 126)), (1, .int x1), (2, .int (a.1))] [] 0 0) (fun a a2 r hb ih hO => pX2_empty_16 K hret hb (fun z e => by cases e; exact ih hO) (fun _ e => by cases e)) (fun a r hb hO => pX2_empty_16 K hret hb (fun _ e => by cases e) (fun z e => hO z (by cases e; rfl))) n a r h hO
set_option maxRecDepth 20000 in
theorem mX2_empty (l : Launch) (w : kW) (σ : kS) (x1 : Int32) {o : kS} (h : fX2_empty σ x1 = some o) : Met l yX2_empty (Cond.code yX2_empty cX2_empty 3 none :: TB) rmX2_empty (va_Pc [.ref (kL w 126), .int x1] (kP w σ)) (kQv w o) 0 0 (kA w) := by
  refine k_met (by decide +kernel) [.ref (kL w 126), .int x1] (Nat.le_of_ble_eq_true rfl) (by simp [lv_args, Value.category]) ?_
  intro p e s m args below meth c K hret
  have K : kC w p s m args meth c cX2_empty 3 RX2 := K
  obtain ⟨r, hro⟩ : ∃ r, r = o := ⟨o, rfl⟩
  rw [← hro] at h
  have hO : ∀ z, r = z → z = o := fun z e => by rw [← e]; exact hro
  unfold fX2_empty at h
  refine k_aload_n K dX2_empty_0 0 rfl ?_
  refine fg_X2_20 K dX2_empty_1 ?_
  refine k_iload_n K dX2_empty_4 1 rfl ?_
  refine k_iconst (v := (-1)) K dX2_empty_5 (by decide) ?_
  replace h := k_gd h
  obtain ⟨g1, h⟩ := h
  refine k_iast K dX2_empty_6 kd_129 g1 ?_
  refine k_aload_n K dX2_empty_7 0 rfl ?_
  refine fg_X2_26 K dX2_empty_8 ?_
  refine k_iload_n K dX2_empty_11 1 rfl ?_
  refine k_iconst (v := 0) K dX2_empty_12 (by decide) ?_
  refine k_iast K dX2_empty_13 kd_131 g1 ?_
  refine k_iconst (v := 0) K dX2_empty_14 (by decide) ?_
  refine k_istore_n (lv' := [(2, .int 0), (0, .ref (kL w 126)), (1, .int x1)]) K dX2_empty_15 (by decide) rfl ?_
  refine k_sub [1, 2, 0] rfl ?_
  exact lX2_empty_16 K hret h hO
end F_X2_empty
section C_X2_empty
variable {w : kW} {p : Program} {l : Launch} {e : Env} {R : Room} {s : State} {m : MethodId} {args : Array Value} {below : List Frame} {meth : Method} {c : Code} {Q : State → Prop} {cc : ByteArray} {nL : Nat} {σ : kS} {pc : Nat} {lv : List (Nat × Value)} {st rest : List Value} {cells slots : Nat}
theorem cl_X2_73 (K : kC w p s m args meth c cc nL RX2) {a1 : Int32} {r : kS} (d : decode cc pc = .ok (.invokevirtual 73, 3)) (h : fX2_empty σ a1 = some r) (hR : rmX2_empty.frames + 1 ≤ R.frames ∧ 8 + (3 + 11) + rmX2_empty.locals ≤ R.locals) (hr : (rest.map fun v => v.category).sum ≤ 8) (hf : cells + 0 ≤ R.cells ∧ slots + 0 ≤ R.slots) (kk : kG w p l e R s m args below meth c Q nL r (pc + 3) lv (rest) (cells + 0) (slots + 0)) : kG w p l e R s m args below meth c Q nL σ pc lv (.int a1 :: .ref (kL w 126) :: rest) cells slots :=
  k_callVv (As := [.int a1]) (rest := rest) (n := 1) (C := RX2) (T := TX2) K d kd_126 rfl (kg_V tw_624 tw_626 tw_28 tw_50 tw_627) rfl (by decide +kernel) rfl hR hr rfl hf (mX2_empty l w σ a1 h) ⟨rfl, rfl⟩ kk
end C_X2_empty
section F_X2_pointOf
variable {w : kW} {p : Program} {l : Launch} {e : Env} {s : State} {m : MethodId} {args : Array Value} {below : List Frame} {meth : Method} {c : Code}
def fX2_pointOf (x0 : Int32) : Option Int32 :=
  some (((x0 * 61) + 17) - ((x0 * 61) + 17) / 256 * 256)
def rmX2_pointOf : Room := { frames := 0, cells := 0, slots := 0, locals := 0 }
set_option maxRecDepth 20000 in
theorem mX2_pointOf (l : Launch) (w : kW) (σ0 : kS) (x0 : Int32) {o : Int32} (h : fX2_pointOf x0 = some o) : Met l yX2_pointOf (Cond.code yX2_pointOf cX2_pointOf 1 (some .int) :: TB) rmX2_pointOf (va_Pc [.int x0] (kP w σ0)) (kQi w o σ0) 0 0 (kA w) := by
  refine k_met (by decide +kernel) [.int x0] (Nat.le_of_ble_eq_true rfl) (by simp [lv_args, Value.category]) ?_
  intro p e s m args below meth c K hret
  have K : kC w p s m args meth c cX2_pointOf 1 RX2 := K
  obtain ⟨r, hro⟩ : ∃ r, r = o := ⟨o, rfl⟩
  rw [← hro] at h
  have hO : ∀ z, r = z → z = o := fun z e => by rw [← e]; exact hro
  unfold fX2_pointOf at h
  refine k_iload_n K dX2_pointOf_0 0 rfl ?_
  refine k_bipush (v := 61) K dX2_pointOf_1 (by decide) ?_
  refine k_imul K dX2_pointOf_3 ?_
  refine k_bipush (v := 17) K dX2_pointOf_4 (by decide) ?_
  refine k_iadd K dX2_pointOf_6 ?_
  refine k_sipush (v := 256) K dX2_pointOf_7 (by decide) ?_
  refine k_irem K dX2_pointOf_10 (by decide) ?_
  cases h
  obtain rfl := hO _ rfl
  exact k_iret (v := ((x0 * 61) + 17) - ((x0 * 61) + 17) / 256 * 256) K hret dX2_pointOf_11 (by decide) (by decide)
end F_X2_pointOf
section C_X2_pointOf
variable {w : kW} {p : Program} {l : Launch} {e : Env} {R : Room} {s : State} {m : MethodId} {args : Array Value} {below : List Frame} {meth : Method} {c : Code} {Q : State → Prop} {cc : ByteArray} {nL : Nat} {σ : kS} {pc : Nat} {lv : List (Nat × Value)} {st rest : List Value} {cells slots : Nat}
theorem cl_X2_120 (K : kC w p s m args meth c cc nL RX2) {a1 : Int32} {r : Int32} (d : decode cc pc = .ok (.invokestatic 120, 3)) (h : fX2_pointOf a1 = some r) (hR : rmX2_pointOf.frames + 1 ≤ R.frames ∧ 8 + (1 + 11) + rmX2_pointOf.locals ≤ R.locals) (hr : (rest.map fun v => v.category).sum ≤ 8) (hf : cells + 0 ≤ R.cells ∧ slots + 0 ≤ R.slots) (kk : kG w p l e R s m args below meth c Q nL σ (pc + 3) lv (.int r :: rest) (cells + 0) (slots + 0)) : kG w p l e R s m args below meth c Q nL σ pc lv (.int a1 :: rest) cells slots :=
  k_callSi (As := [.int a1]) (rest := rest) (n := 1) K d (kg_S tw_706 tw_707 tw_50 tw_708) (by decide +kernel) rfl hR hr rfl hf (mX2_pointOf l w σ a1 h) ⟨rfl, rfl⟩ kk
end C_X2_pointOf
section F_X2_belongs
variable {w : kW} {p : Program} {l : Launch} {e : Env} {s : State} {m : MethodId} {args : Array Value} {below : List Frame} {meth : Method} {c : Code}
def fX2_belongs_25 (σ : kS) : Option Int32 :=
  some (1)
def fX2_belongs (σ : kS) (x1 : Int32) (x2 : Int32) : Option Int32 :=
  (fX2_pointOf x1).bind fun r1 =>
  if r1 = x2 then
    fX2_belongs_25 σ
  else
    (fX2_pointOf x1).bind fun r3 =>
    if vpi x2 256 then
      (fX2_between r3 (σ.1 129 x2.toNatClampNeg) x2).bind fun r5 =>
      if r5 = 0 then
        some (0)
      else
        fX2_belongs_25 σ
    else none
def rmX2_belongs : Room := { frames := 2, cells := 0, slots := 0, locals := 43 }
set_option maxRecDepth 20000 in
theorem pX2_belongs_25 (K : kC w p s m args meth c cX2_belongs 3 RX2) (hret : meth.sig.returnType = (some .boolean)) {σ : kS} {r : Int32} {o : Int32} (h : fX2_belongs_25 σ = some r) (hO : ∀ z, r = z → z = o) : kG w p l e rmX2_belongs s m args below meth c (MQ below (kQi w o σ) args s 0 0 (kA w)) 3 σ 25 [] [] 0 0 := by
  unfold fX2_belongs_25 at h
  refine k_iconst (v := 1) K dX2_belongs_25 (by decide) ?_
  refine k_goto K 30 dX2_belongs_26 (by decide) ?_
  cases h
  obtain rfl := hO _ rfl
  exact k_zret (v := 1) K hret (by decide) dX2_belongs_30 (by decide) (by decide)
set_option maxRecDepth 20000 in
theorem mX2_belongs (l : Launch) (w : kW) (σ : kS) (x1 : Int32) (x2 : Int32) {o : Int32} (h : fX2_belongs σ x1 x2 = some o) : Met l yX2_belongs (Cond.code yX2_belongs cX2_belongs 3 (some .boolean) :: TB) rmX2_belongs (va_Pc [.ref (kL w 126), .int x1, .int x2] (kP w σ)) (kQi w o σ) 0 0 (kA w) := by
  refine k_met (by decide +kernel) [.ref (kL w 126), .int x1, .int x2] (Nat.le_of_ble_eq_true rfl) (by simp [lv_args, Value.category]) ?_
  intro p e s m args below meth c K hret
  have K : kC w p s m args meth c cX2_belongs 3 RX2 := K
  obtain ⟨r, hro⟩ : ∃ r, r = o := ⟨o, rfl⟩
  rw [← hro] at h
  have hO : ∀ z, r = z → z = o := fun z e => by rw [← e]; exact hro
  unfold fX2_belongs at h
  refine k_iload_n K dX2_belongs_0 1 rfl ?_
  replace h := k_bd h
  obtain ⟨r1, hr1, h⟩ := h
  refine cl_X2_120 K dX2_belongs_1 hr1 (by decide) (Nat.le_of_ble_eq_true rfl) (by decide) ?_
  refine k_iload_n K dX2_belongs_4 2 rfl ?_
  replace h := k_br h
  rcases h with ⟨b2, h⟩ | ⟨b2, h⟩
  · refine k_icmp_eq K 25 dX2_belongs_5 (by decide) (fun _ => ?_) (fun q => absurd b2 q)
    refine k_sub [] rfl ?_
    exact pX2_belongs_25 K hret h hO
  · refine k_icmp_eq K 25 dX2_belongs_5 (by decide) (fun q => absurd q b2) (fun _ => ?_)
    refine k_iload_n K dX2_belongs_8 1 rfl ?_
    replace h := k_bd h
    obtain ⟨r3, hr3, h⟩ := h
    refine cl_X2_120 K dX2_belongs_9 hr3 (by decide) (Nat.le_of_ble_eq_true rfl) (by decide) ?_
    refine k_aload_n K dX2_belongs_12 0 rfl ?_
    refine fg_X2_20 K dX2_belongs_13 ?_
    refine k_iload_n K dX2_belongs_16 2 rfl ?_
    replace h := k_gd h
    obtain ⟨g4, h⟩ := h
    refine k_iald K dX2_belongs_17 kd_129 g4 ?_
    refine k_iload_n K dX2_belongs_18 2 rfl ?_
    replace h := k_bd h
    obtain ⟨r5, hr5, h⟩ := h
    refine cl_X2_84 K dX2_belongs_19 hr5 (by decide) (Nat.le_of_ble_eq_true rfl) (by decide) ?_
    replace h := k_br h
    rcases h with ⟨b6, h⟩ | ⟨b6, h⟩
    · refine k_if_eq K 29 dX2_belongs_22 (by decide) (fun _ => ?_) (fun q => absurd b6 q)
      refine k_iconst (v := 0) K dX2_belongs_29 (by decide) ?_
      cases h
      obtain rfl := hO _ rfl
      exact k_zret (v := 0) K hret (by decide) dX2_belongs_30 (by decide) (by decide)
    · refine k_if_eq K 29 dX2_belongs_22 (by decide) (fun q => absurd q b6) (fun _ => ?_)
      refine k_sub [] rfl ?_
      exact pX2_belongs_25 K hret h hO
end F_X2_belongs
section C_X2_belongs
variable {w : kW} {p : Program} {l : Launch} {e : Env} {R : Room} {s : State} {m : MethodId} {args : Array Value} {below : List Frame} {meth : Method} {c : Code} {Q : State → Prop} {cc : ByteArray} {nL : Nat} {σ : kS} {pc : Nat} {lv : List (Nat × Value)} {st rest : List Value} {cells slots : Nat}
theorem cl_X2_123 (K : kC w p s m args meth c cc nL RX2) {a1 : Int32} {a2 : Int32} {r : Int32} (d : decode cc pc = .ok (.invokevirtual 123, 3)) (h : fX2_belongs σ a1 a2 = some r) (hR : rmX2_belongs.frames + 1 ≤ R.frames ∧ 8 + (3 + 11) + rmX2_belongs.locals ≤ R.locals) (hr : (rest.map fun v => v.category).sum ≤ 8) (hf : cells + 0 ≤ R.cells ∧ slots + 0 ≤ R.slots) (kk : kG w p l e R s m args below meth c Q nL σ (pc + 3) lv (.int r :: rest) (cells + 0) (slots + 0)) : kG w p l e R s m args below meth c Q nL σ pc lv (.int a2 :: .int a1 :: .ref (kL w 126) :: rest) cells slots :=
  k_callVi (As := [.int a1, .int a2]) (rest := rest) (n := 2) (C := RX2) (T := TX2) K d kd_126 rfl (kg_V tw_702 tw_704 tw_41 tw_50 tw_705) rfl (by decide +kernel) rfl hR hr rfl hf (mX2_belongs l w σ a1 a2 h) ⟨rfl, rfl⟩ kk
end C_X2_belongs
section F_X2_higher
variable {w : kW} {p : Program} {l : Launch} {e : Env} {s : State} {m : MethodId} {args : Array Value} {below : List Frame} {meth : Method} {c : Code}
def fX2_higher_54 (σ : kS) : Option Int32 :=
  some (1)
def fX2_higher (σ : kS) (x1 : Int32) (x2 : Int32) : Option Int32 :=
  if vpi x1 16384 then
    if vpi x2 16384 then
      if (σ.1 132 x2.toNatClampNeg) < (σ.1 132 x1.toNatClampNeg) then
        fX2_higher_54 σ
      else
        if (σ.1 132 x1.toNatClampNeg) = (σ.1 132 x2.toNatClampNeg) then
          if (σ.1 132 x1.toNatClampNeg) ≤ 0 then
            some (0)
          else
            if (σ.1 133 x1.toNatClampNeg) ≤ (σ.1 133 x2.toNatClampNeg) then
              some (0)
            else
              fX2_higher_54 σ
        else
          some (0)
    else none
  else none
def rmX2_higher : Room := { frames := 0, cells := 0, slots := 0, locals := 0 }
set_option maxRecDepth 20000 in
theorem pX2_higher_54 (K : kC w p s m args meth c cX2_higher 3 RX2) (hret : meth.sig.returnType = (some .boolean)) {σ : kS} {r : Int32} {o : Int32} (h : fX2_higher_54 σ = some r) (hO : ∀ z, r = z → z = o) : kG w p l e rmX2_higher s m args below meth c (MQ below (kQi w o σ) args s 0 0 (kA w)) 3 σ 54 [] [] 0 0 := by
  unfold fX2_higher_54 at h
  refine k_iconst (v := 1) K dX2_higher_54 (by decide) ?_
  refine k_goto K 59 dX2_higher_55 (by decide) ?_
  cases h
  obtain rfl := hO _ rfl
  exact k_zret (v := 1) K hret (by decide) dX2_higher_59 (by decide) (by decide)
set_option maxRecDepth 20000 in
theorem mX2_higher (l : Launch) (w : kW) (σ : kS) (x1 : Int32) (x2 : Int32) {o : Int32} (h : fX2_higher σ x1 x2 = some o) : Met l yX2_higher (Cond.code yX2_higher cX2_higher 3 (some .boolean) :: TB) rmX2_higher (va_Pc [.ref (kL w 126), .int x1, .int x2] (kP w σ)) (kQi w o σ) 0 0 (kA w) := by
  refine k_met (by decide +kernel) [.ref (kL w 126), .int x1, .int x2] (Nat.le_of_ble_eq_true rfl) (by simp [lv_args, Value.category]) ?_
  intro p e s m args below meth c K hret
  have K : kC w p s m args meth c cX2_higher 3 RX2 := K
  obtain ⟨r, hro⟩ : ∃ r, r = o := ⟨o, rfl⟩
  rw [← hro] at h
  have hO : ∀ z, r = z → z = o := fun z e => by rw [← e]; exact hro
  unfold fX2_higher at h
  refine k_aload_n K dX2_higher_0 0 rfl ?_
  refine fg_X2_29 K dX2_higher_1 ?_
  refine k_iload_n K dX2_higher_4 1 rfl ?_
  replace h := k_gd h
  obtain ⟨g1, h⟩ := h
  refine k_iald K dX2_higher_5 kd_132 g1 ?_
  refine k_aload_n K dX2_higher_6 0 rfl ?_
  refine fg_X2_29 K dX2_higher_7 ?_
  refine k_iload_n K dX2_higher_10 2 rfl ?_
  replace h := k_gd h
  obtain ⟨g2, h⟩ := h
  refine k_iald K dX2_higher_11 kd_132 g2 ?_
  replace h := k_br h
  rcases h with ⟨b3, h⟩ | ⟨b3, h⟩
  · refine k_icmp_gt K 54 dX2_higher_12 (by decide) (fun _ => ?_) (fun q => absurd b3 q)
    refine k_sub [] rfl ?_
    exact pX2_higher_54 K hret h hO
  · refine k_icmp_gt K 54 dX2_higher_12 (by decide) (fun q => absurd q b3) (fun _ => ?_)
    refine k_aload_n K dX2_higher_15 0 rfl ?_
    refine fg_X2_29 K dX2_higher_16 ?_
    refine k_iload_n K dX2_higher_19 1 rfl ?_
    refine k_iald K dX2_higher_20 kd_132 g1 ?_
    refine k_aload_n K dX2_higher_21 0 rfl ?_
    refine fg_X2_29 K dX2_higher_22 ?_
    refine k_iload_n K dX2_higher_25 2 rfl ?_
    refine k_iald K dX2_higher_26 kd_132 g2 ?_
    replace h := k_br h
    rcases h with ⟨b4, h⟩ | ⟨b4, h⟩
    · refine k_icmp_ne K 58 dX2_higher_27 (by decide) (fun q => absurd b4 q) (fun _ => ?_)
      refine k_aload_n K dX2_higher_30 0 rfl ?_
      refine fg_X2_29 K dX2_higher_31 ?_
      refine k_iload_n K dX2_higher_34 1 rfl ?_
      refine k_iald K dX2_higher_35 kd_132 g1 ?_
      replace h := k_br h
      rcases h with ⟨b5, h⟩ | ⟨b5, h⟩
      · refine k_if_le K 58 dX2_higher_36 (by decide) (fun _ => ?_) (fun q => absurd b5 q)
        refine k_iconst (v := 0) K dX2_higher_58 (by decide) ?_
        cases h
        obtain rfl := hO _ rfl
        exact k_zret (v := 0) K hret (by decide) dX2_higher_59 (by decide) (by decide)
      · refine k_if_le K 58 dX2_higher_36 (by decide) (fun q => absurd q b5) (fun _ => ?_)
        refine k_aload_n K dX2_higher_39 0 rfl ?_
        refine fg_X2_32 K dX2_higher_40 ?_
        refine k_iload_n K dX2_higher_43 1 rfl ?_
        refine k_iald K dX2_higher_44 kd_133 g1 ?_
        refine k_aload_n K dX2_higher_45 0 rfl ?_
        refine fg_X2_32 K dX2_higher_46 ?_
        refine k_iload_n K dX2_higher_49 2 rfl ?_
        refine k_iald K dX2_higher_50 kd_133 g2 ?_
        replace h := k_br h
        rcases h with ⟨b6, h⟩ | ⟨b6, h⟩
        · refine k_icmp_le K 58 dX2_higher_51 (by decide) (fun _ => ?_) (fun q => absurd b6 q)
          refine k_iconst (v := 0) K dX2_higher_58 (by decide) ?_
          cases h
          obtain rfl := hO _ rfl
          exact k_zret (v := 0) K hret (by decide) dX2_higher_59 (by decide) (by decide)
        · refine k_icmp_le K 58 dX2_higher_51 (by decide) (fun q => absurd q b6) (fun _ => ?_)
          refine k_sub [] rfl ?_
          exact pX2_higher_54 K hret h hO
    · refine k_icmp_ne K 58 dX2_higher_27 (by decide) (fun _ => ?_) (fun q => absurd q b4)
      refine k_iconst (v := 0) K dX2_higher_58 (by decide) ?_
      cases h
      obtain rfl := hO _ rfl
      exact k_zret (v := 0) K hret (by decide) dX2_higher_59 (by decide) (by decide)
end F_X2_higher
section C_X2_higher
variable {w : kW} {p : Program} {l : Launch} {e : Env} {R : Room} {s : State} {m : MethodId} {args : Array Value} {below : List Frame} {meth : Method} {c : Code} {Q : State → Prop} {cc : ByteArray} {nL : Nat} {σ : kS} {pc : Nat} {lv : List (Nat × Value)} {st rest : List Value} {cells slots : Nat}
theorem cl_X2_127 (K : kC w p s m args meth c cc nL RX2) {a1 : Int32} {a2 : Int32} {r : Int32} (d : decode cc pc = .ok (.invokevirtual 127, 3)) (h : fX2_higher σ a1 a2 = some r) (hR : rmX2_higher.frames + 1 ≤ R.frames ∧ 8 + (3 + 11) + rmX2_higher.locals ≤ R.locals) (hr : (rest.map fun v => v.category).sum ≤ 8) (hf : cells + 0 ≤ R.cells ∧ slots + 0 ≤ R.slots) (kk : kG w p l e R s m args below meth c Q nL σ (pc + 3) lv (.int r :: rest) (cells + 0) (slots + 0)) : kG w p l e R s m args below meth c Q nL σ pc lv (.int a2 :: .int a1 :: .ref (kL w 126) :: rest) cells slots :=
  k_callVi (As := [.int a1, .int a2]) (rest := rest) (n := 2) (C := RX2) (T := TX2) K d kd_126 rfl (kg_V tw_709 tw_711 tw_42 tw_50 tw_712) rfl (by decide +kernel) rfl hR hr rfl hf (mX2_higher l w σ a1 a2 h) ⟨rfl, rfl⟩ kk
end C_X2_higher
section F_X2_copy
variable {w : kW} {p : Program} {l : Launch} {e : Env} {s : State} {m : MethodId} {args : Array Value} {below : List Frame} {meth : Method} {c : Code}
def fX2_copy (σ : kS) (x1 : Int32) (x2 : Int32) : Option kS :=
  if vpi x1 16384 then
    if vpi x2 16384 then
      some (sI (sI (sI σ 132 x2.toNatClampNeg (σ.1 132 x1.toNatClampNeg)) 133 x2.toNatClampNeg ((sI σ 132 x2.toNatClampNeg (σ.1 132 x1.toNatClampNeg)).1 133 x1.toNatClampNeg)) 134 x2.toNatClampNeg ((sI (sI σ 132 x2.toNatClampNeg (σ.1 132 x1.toNatClampNeg)) 133 x2.toNatClampNeg ((sI σ 132 x2.toNatClampNeg (σ.1 132 x1.toNatClampNeg)).1 133 x1.toNatClampNeg)).1 134 x1.toNatClampNeg))
    else none
  else none
def rmX2_copy : Room := { frames := 0, cells := 0, slots := 0, locals := 0 }
set_option maxRecDepth 20000 in
theorem mX2_copy (l : Launch) (w : kW) (σ : kS) (x1 : Int32) (x2 : Int32) {o : kS} (h : fX2_copy σ x1 x2 = some o) : Met l yX2_copy (Cond.code yX2_copy cX2_copy 3 none :: TB) rmX2_copy (va_Pc [.ref (kL w 126), .int x1, .int x2] (kP w σ)) (kQv w o) 0 0 (kA w) := by
  refine k_met (by decide +kernel) [.ref (kL w 126), .int x1, .int x2] (Nat.le_of_ble_eq_true rfl) (by simp [lv_args, Value.category]) ?_
  intro p e s m args below meth c K hret
  have K : kC w p s m args meth c cX2_copy 3 RX2 := K
  obtain ⟨r, hro⟩ : ∃ r, r = o := ⟨o, rfl⟩
  rw [← hro] at h
  have hO : ∀ z, r = z → z = o := fun z e => by rw [← e]; exact hro
  unfold fX2_copy at h
  refine k_aload_n K dX2_copy_0 0 rfl ?_
  refine fg_X2_29 K dX2_copy_1 ?_
  refine k_iload_n K dX2_copy_4 2 rfl ?_
  refine k_aload_n K dX2_copy_5 0 rfl ?_
  refine fg_X2_29 K dX2_copy_6 ?_
  refine k_iload_n K dX2_copy_9 1 rfl ?_
  replace h := k_gd h
  obtain ⟨g1, h⟩ := h
  refine k_iald K dX2_copy_10 kd_132 g1 ?_
  replace h := k_gd h
  obtain ⟨g2, h⟩ := h
  refine k_iast K dX2_copy_11 kd_132 g2 ?_
  refine k_aload_n K dX2_copy_12 0 rfl ?_
  refine fg_X2_32 K dX2_copy_13 ?_
  refine k_iload_n K dX2_copy_16 2 rfl ?_
  refine k_aload_n K dX2_copy_17 0 rfl ?_
  refine fg_X2_32 K dX2_copy_18 ?_
  refine k_iload_n K dX2_copy_21 1 rfl ?_
  refine k_iald K dX2_copy_22 kd_133 g1 ?_
  refine k_iast K dX2_copy_23 kd_133 g2 ?_
  refine k_aload_n K dX2_copy_24 0 rfl ?_
  refine fg_X2_35 K dX2_copy_25 ?_
  refine k_iload_n K dX2_copy_28 2 rfl ?_
  refine k_aload_n K dX2_copy_29 0 rfl ?_
  refine fg_X2_35 K dX2_copy_30 ?_
  refine k_iload_n K dX2_copy_33 1 rfl ?_
  refine k_iald K dX2_copy_34 kd_134 g1 ?_
  refine k_iast K dX2_copy_35 kd_134 g2 ?_
  cases h
  obtain rfl := hO _ rfl
  exact k_vret K hret dX2_copy_36 (by decide) (by decide)
end F_X2_copy
section C_X2_copy
variable {w : kW} {p : Program} {l : Launch} {e : Env} {R : Room} {s : State} {m : MethodId} {args : Array Value} {below : List Frame} {meth : Method} {c : Code} {Q : State → Prop} {cc : ByteArray} {nL : Nat} {σ : kS} {pc : Nat} {lv : List (Nat × Value)} {st rest : List Value} {cells slots : Nat}
theorem cl_X2_130 (K : kC w p s m args meth c cc nL RX2) {a1 : Int32} {a2 : Int32} {r : kS} (d : decode cc pc = .ok (.invokevirtual 130, 3)) (h : fX2_copy σ a1 a2 = some r) (hR : rmX2_copy.frames + 1 ≤ R.frames ∧ 8 + (3 + 11) + rmX2_copy.locals ≤ R.locals) (hr : (rest.map fun v => v.category).sum ≤ 8) (hf : cells + 0 ≤ R.cells ∧ slots + 0 ≤ R.slots) (kk : kG w p l e R s m args below meth c Q nL r (pc + 3) lv (rest) (cells + 0) (slots + 0)) : kG w p l e R s m args below meth c Q nL σ pc lv (.int a2 :: .int a1 :: .ref (kL w 126) :: rest) cells slots :=
  k_callVv (As := [.int a1, .int a2]) (rest := rest) (n := 2) (C := RX2) (T := TX2) K d kd_126 rfl (kg_V tw_713 tw_715 tw_43 tw_50 tw_716) rfl (by decide +kernel) rfl hR hr rfl hf (mX2_copy l w σ a1 a2 h) ⟨rfl, rfl⟩ kk
end C_X2_copy
section F_X2_handed
variable {w : kW} {p : Program} {l : Launch} {e : Env} {s : State} {m : MethodId} {args : Array Value} {below : List Frame} {meth : Method} {c : Code}
def fX2_handed_88 (x1 : Int32) (x2 : Int32) (x3 : Int32) (x4 : Int32) (σ : kS) : Option ((Int32 × Int32 × kS) ⊕ (Int32 × kS)) :=
  some (.inl (x3, x4 + 1, σ))
def gX2_handed_11 (x1 : Int32) (x2 : Int32) (x3 : Int32) (x4 : Int32) (σ : kS) : Option ((Int32 × Int32 × kS) ⊕ (Int32 × kS)) :=
  if 64 ≤ x4 then
    some (.inr ((x3, σ)))
  else
    if vpi x1 256 then
      (fX2_live σ (σ.1 129 x1.toNatClampNeg)).bind fun r3 =>
      if r3 = 0 then
        some (.inr ((x3, σ)))
      else
        if x2 = x1 then
          some (.inr ((x3, σ)))
        else
          (fX2_belongs σ x4 x1).bind fun r6 =>
          if r6 = 0 then
            fX2_handed_88 x1 x2 x3 x4 σ
          else
            (fX2_higher σ ((64 * x2) + x4) ((64 * x1) + x4)).bind fun r8 =>
            if r8 = 0 then
              fX2_handed_88 x1 x2 x3 x4 σ
            else
              (fX2_copy σ ((64 * x2) + x4) ((64 * x1) + x4)).bind fun r10 =>
              fX2_handed_88 x1 x2 (x3 + 1) x4 r10
    else none
def fX2_handed_11 (x1 : Int32) (x2 : Int32) (a : Int32 × Int32 × kS) : Option ((Int32 × Int32 × kS) ⊕ (Int32 × kS)) := gX2_handed_11 x1 x2 a.1 a.2.1 a.2.2
def fX2_handed (σ : kS) (x1 : Int32) : Option (Int32 × kS) :=
  (fX2_successor σ x1).bind fun r1 =>
  kit (fX2_handed_11 x1 r1) 300 (0, 0, σ)
def rmX2_handed : Room := { frames := 3, cells := 0, slots := 0, locals := 65 }
set_option maxRecDepth 20000 in
theorem pX2_handed_88 (K : kC w p s m args meth c cX2_handed 5 RX2) (hret : meth.sig.returnType = (some .int)) {x1 : Int32} {x2 : Int32} {x3 : Int32} {x4 : Int32} {σ : kS} {r : ((Int32 × Int32 × kS) ⊕ (Int32 × kS))} {o : (Int32 × kS)} (h : fX2_handed_88 x1 x2 x3 x4 σ = some r) (hL11 : ∀ z, r = .inl z → kG w p l e rmX2_handed s m args below meth c (MQ below (kQi w o.1 o.2) args s 0 0 (kA w)) 5 z.2.2 11 [(0, .ref (kL w 126)), (1, .int x1), (2, .int x2), (3, .int (z.1)), (4, .int (z.2.1))] [] 0 0) (hO : ∀ z, r = .inr z → z = o) : kG w p l e rmX2_handed s m args below meth c (MQ below (kQi w o.1 o.2) args s 0 0 (kA w)) 5 σ 88 [(0, .ref (kL w 126)), (1, .int x1), (2, .int x2), (3, .int x3), (4, .int x4)] [] 0 0 := by
  unfold fX2_handed_88 at h
  refine k_iinc (v := 1) (lv' := [(4, .int (x4 + 1)), (0, .ref (kL w 126)), (1, .int x1), (2, .int x2), (3, .int x3)]) K dX2_handed_88 4 rfl (by decide) (by decide) rfl ?_
  refine k_goto K 11 dX2_handed_91 (by decide) ?_
  refine k_sub [1, 2, 3, 4, 0] rfl ?_
  cases h
  exact hL11 _ rfl
set_option maxRecDepth 20000 in
theorem pX2_handed_11 (K : kC w p s m args meth c cX2_handed 5 RX2) (hret : meth.sig.returnType = (some .int)) {x1 : Int32} {x2 : Int32} {x3 : Int32} {x4 : Int32} {σ : kS} {r : ((Int32 × Int32 × kS) ⊕ (Int32 × kS))} {o : (Int32 × kS)} (h : gX2_handed_11 x1 x2 x3 x4 σ = some r) (hL11 : ∀ z, r = .inl z → kG w p l e rmX2_handed s m args below meth c (MQ below (kQi w o.1 o.2) args s 0 0 (kA w)) 5 z.2.2 11 [(0, .ref (kL w 126)), (1, .int x1), (2, .int x2), (3, .int (z.1)), (4, .int (z.2.1))] [] 0 0) (hO : ∀ z, r = .inr z → z = o) : kG w p l e rmX2_handed s m args below meth c (MQ below (kQi w o.1 o.2) args s 0 0 (kA w)) 5 σ 11 [(0, .ref (kL w 126)), (1, .int x1), (2, .int x2), (3, .int x3), (4, .int x4)] [] 0 0 := by
  unfold gX2_handed_11 at h
  refine k_iload K dX2_handed_11 4 rfl ?_
  refine k_bipush (v := 64) K dX2_handed_13 (by decide) ?_
  replace h := k_br h
  rcases h with ⟨b1, h⟩ | ⟨b1, h⟩
  · refine k_icmp_ge K 94 dX2_handed_15 (by decide) (fun _ => ?_) (fun q => absurd b1 q)
    refine k_iload_n K dX2_handed_94 3 rfl ?_
    cases h
    obtain rfl := hO _ rfl
    exact k_iret K hret dX2_handed_95 (by decide) (by decide)
  · refine k_icmp_ge K 94 dX2_handed_15 (by decide) (fun q => absurd q b1) (fun _ => ?_)
    refine k_aload_n K dX2_handed_18 0 rfl ?_
    refine k_aload_n K dX2_handed_19 0 rfl ?_
    refine fg_X2_20 K dX2_handed_20 ?_
    refine k_iload_n K dX2_handed_23 1 rfl ?_
    replace h := k_gd h
    obtain ⟨g2, h⟩ := h
    refine k_iald K dX2_handed_24 kd_129 g2 ?_
    replace h := k_bd h
    obtain ⟨r3, hr3, h⟩ := h
    refine cl_X2_58 K dX2_handed_25 hr3 (by decide) (Nat.le_of_ble_eq_true rfl) (by decide) ?_
    replace h := k_br h
    rcases h with ⟨b4, h⟩ | ⟨b4, h⟩
    · refine k_if_eq K 94 dX2_handed_28 (by decide) (fun _ => ?_) (fun q => absurd b4 q)
      refine k_iload_n K dX2_handed_94 3 rfl ?_
      cases h
      obtain rfl := hO _ rfl
      exact k_iret K hret dX2_handed_95 (by decide) (by decide)
    · refine k_if_eq K 94 dX2_handed_28 (by decide) (fun q => absurd q b4) (fun _ => ?_)
      refine k_iload_n K dX2_handed_31 2 rfl ?_
      refine k_iload_n K dX2_handed_32 1 rfl ?_
      replace h := k_br h
      rcases h with ⟨b5, h⟩ | ⟨b5, h⟩
      · refine k_icmp_eq K 94 dX2_handed_33 (by decide) (fun _ => ?_) (fun q => absurd b5 q)
        refine k_iload_n K dX2_handed_94 3 rfl ?_
        cases h
        obtain rfl := hO _ rfl
        exact k_iret K hret dX2_handed_95 (by decide) (by decide)
      · refine k_icmp_eq K 94 dX2_handed_33 (by decide) (fun q => absurd q b5) (fun _ => ?_)
        refine k_aload_n K dX2_handed_36 0 rfl ?_
        refine k_iload K dX2_handed_37 4 rfl ?_
        refine k_iload_n K dX2_handed_39 1 rfl ?_
        replace h := k_bd h
        obtain ⟨r6, hr6, h⟩ := h
        refine cl_X2_123 K dX2_handed_40 hr6 (by decide) (Nat.le_of_ble_eq_true rfl) (by decide) ?_
        replace h := k_br h
        rcases h with ⟨b7, h⟩ | ⟨b7, h⟩
        · refine k_if_eq K 88 dX2_handed_43 (by decide) (fun _ => ?_) (fun q => absurd b7 q)
          exact pX2_handed_88 K hret h hL11 hO
        · refine k_if_eq K 88 dX2_handed_43 (by decide) (fun q => absurd q b7) (fun _ => ?_)
          refine k_aload_n K dX2_handed_46 0 rfl ?_
          refine k_bipush (v := 64) K dX2_handed_47 (by decide) ?_
          refine k_iload_n K dX2_handed_49 2 rfl ?_
          refine k_imul K dX2_handed_50 ?_
          refine k_iload K dX2_handed_51 4 rfl ?_
          refine k_iadd K dX2_handed_53 ?_
          refine k_bipush (v := 64) K dX2_handed_54 (by decide) ?_
          refine k_iload_n K dX2_handed_56 1 rfl ?_
          refine k_imul K dX2_handed_57 ?_
          refine k_iload K dX2_handed_58 4 rfl ?_
          refine k_iadd K dX2_handed_60 ?_
          replace h := k_bd h
          obtain ⟨r8, hr8, h⟩ := h
          refine cl_X2_127 K dX2_handed_61 hr8 (by decide) (Nat.le_of_ble_eq_true rfl) (by decide) ?_
          replace h := k_br h
          rcases h with ⟨b9, h⟩ | ⟨b9, h⟩
          · refine k_if_eq K 88 dX2_handed_64 (by decide) (fun _ => ?_) (fun q => absurd b9 q)
            exact pX2_handed_88 K hret h hL11 hO
          · refine k_if_eq K 88 dX2_handed_64 (by decide) (fun q => absurd q b9) (fun _ => ?_)
            refine k_aload_n K dX2_handed_67 0 rfl ?_
            refine k_bipush (v := 64) K dX2_handed_68 (by decide) ?_
            refine k_iload_n K dX2_handed_70 2 rfl ?_
            refine k_imul K dX2_handed_71 ?_
            refine k_iload K dX2_handed_72 4 rfl ?_
            refine k_iadd K dX2_handed_74 ?_
            refine k_bipush (v := 64) K dX2_handed_75 (by decide) ?_
            refine k_iload_n K dX2_handed_77 1 rfl ?_
            refine k_imul K dX2_handed_78 ?_
            refine k_iload K dX2_handed_79 4 rfl ?_
            refine k_iadd K dX2_handed_81 ?_
            replace h := k_bd h
            obtain ⟨r10, hr10, h⟩ := h
            refine cl_X2_130 K dX2_handed_82 hr10 (by decide) (Nat.le_of_ble_eq_true rfl) (by decide) ?_
            refine k_iinc (v := 1) (lv' := [(3, .int (x3 + 1)), (0, .ref (kL w 126)), (1, .int x1), (2, .int x2), (4, .int x4)]) K dX2_handed_85 3 rfl (by decide) (by decide) rfl ?_
            refine k_sub [1, 2, 3, 0, 4] rfl ?_
            exact pX2_handed_88 K hret h hL11 hO
set_option maxRecDepth 20000 in
theorem lX2_handed_11 (K : kC w p s m args meth c cX2_handed 5 RX2) (hret : meth.sig.returnType = (some .int)) {x1 : Int32} {x2 : Int32} {n : Nat} {a : Int32 × Int32 × kS} {r : (Int32 × kS)} {o : (Int32 × kS)} (h : kit (fX2_handed_11 x1 x2) n a = some r) (hO : ∀ z, r = z → z = o) : kG w p l e rmX2_handed s m args below meth c (MQ below (kQi w o.1 o.2) args s 0 0 (kA w)) 5 a.2.2 11 [(0, .ref (kL w 126)), (1, .int x1), (2, .int x2), (3, .int (a.1)), (4, .int (a.2.1))] [] 0 0 :=
  kit_ind (body := fX2_handed_11 x1 x2) (fun a r => (∀ z, r = z → z = o) → kG w p l e rmX2_handed s m args below meth c (MQ below (kQi w o.1 o.2) args s 0 0 (kA w)) 5 a.2.2 11 [(0, .ref (kL w 126)), (1, .int x1), (2, .int x2), (3, .int (a.1)), (4, .int (a.2.1))] [] 0 0) (fun a a2 r hb ih hO => pX2_handed_11 K hret hb (fun z e => by cases e; exact ih hO) (fun _ e => by cases e)) (fun a r hb hO => pX2_handed_11 K hret hb (fun _ e => by cases e) (fun z e => hO z (by cases e; rfl))) n a r h hO
set_option maxRecDepth 20000 in
theorem mX2_handed (l : Launch) (w : kW) (σ : kS) (x1 : Int32) {o : (Int32 × kS)} (h : fX2_handed σ x1 = some o) : Met l yX2_handed (Cond.code yX2_handed cX2_handed 5 (some .int) :: TB) rmX2_handed (va_Pc [.ref (kL w 126), .int x1] (kP w σ)) (kQi w o.1 o.2) 0 0 (kA w) := by
  refine k_met (by decide +kernel) [.ref (kL w 126), .int x1] (Nat.le_of_ble_eq_true rfl) (by simp [lv_args, Value.category]) ?_
  intro p e s m args below meth c K hret
  have K : kC w p s m args meth c cX2_handed 5 RX2 := K
  obtain ⟨r, hro⟩ : ∃ r, r = o := ⟨o, rfl⟩
  rw [← hro] at h
  have hO : ∀ z, r = z → z = o := fun z e => by rw [← e]; exact hro
  unfold fX2_handed at h
  refine k_aload_n K dX2_handed_0 0 rfl ?_
  refine k_iload_n K dX2_handed_1 1 rfl ?_
  replace h := k_bd h
  obtain ⟨r1, hr1, h⟩ := h
  refine cl_X2_91 K dX2_handed_2 hr1 (by decide) (Nat.le_of_ble_eq_true rfl) (by decide) ?_
  refine k_istore_n (lv' := [(2, .int r1), (0, .ref (kL w 126)), (1, .int x1)]) K dX2_handed_5 (by decide) rfl ?_
  refine k_iconst (v := 0) K dX2_handed_6 (by decide) ?_
  refine k_istore_n (lv' := [(3, .int 0), (2, .int r1), (0, .ref (kL w 126)), (1, .int x1)]) K dX2_handed_7 (by decide) rfl ?_
  refine k_iconst (v := 0) K dX2_handed_8 (by decide) ?_
  refine k_istore (lv' := [(4, .int 0), (3, .int 0), (2, .int r1), (0, .ref (kL w 126)), (1, .int x1)]) K dX2_handed_9 (by decide) rfl ?_
  refine k_sub [3, 4, 2, 1, 0] rfl ?_
  exact lX2_handed_11 K hret h hO
end F_X2_handed
section C_X2_handed
variable {w : kW} {p : Program} {l : Launch} {e : Env} {R : Room} {s : State} {m : MethodId} {args : Array Value} {below : List Frame} {meth : Method} {c : Code} {Q : State → Prop} {cc : ByteArray} {nL : Nat} {σ : kS} {pc : Nat} {lv : List (Nat × Value)} {st rest : List Value} {cells slots : Nat}
theorem cl_X2_133 (K : kC w p s m args meth c cc nL RX2) {a1 : Int32} {r : (Int32 × kS)} (d : decode cc pc = .ok (.invokevirtual 133, 3)) (h : fX2_handed σ a1 = some r) (hR : rmX2_handed.frames + 1 ≤ R.frames ∧ 8 + (5 + 11) + rmX2_handed.locals ≤ R.locals) (hr : (rest.map fun v => v.category).sum ≤ 8) (hf : cells + 0 ≤ R.cells ∧ slots + 0 ≤ R.slots) (kk : kG w p l e R s m args below meth c Q nL r.2 (pc + 3) lv (.int r.1 :: rest) (cells + 0) (slots + 0)) : kG w p l e R s m args below meth c Q nL σ pc lv (.int a1 :: .ref (kL w 126) :: rest) cells slots :=
  k_callVi (As := [.int a1]) (rest := rest) (n := 1) (C := RX2) (T := TX2) K d kd_126 rfl (kg_V tw_698 tw_700 tw_40 tw_50 tw_701) rfl (by decide +kernel) rfl hR hr rfl hf (mX2_handed l w σ a1 h) ⟨rfl, rfl⟩ kk
end C_X2_handed
section F_X2_handOver
variable {w : kW} {p : Program} {l : Launch} {e : Env} {s : State} {m : MethodId} {args : Array Value} {below : List Frame} {meth : Method} {c : Code}
def fX2_handOver (σ : kS) (x1 : Int32) : Option (Int32 × kS) :=
  (fX2_member σ x1).bind fun r1 =>
  (fX2_goes σ r1 1 1).bind fun r2 =>
  if r2.1 = 0 then
    some ((0, r2.2))
  else
    (fX2_handed r2.2 x1).bind fun r4 =>
    some ((r4.1, r4.2))
def rmX2_handOver : Room := { frames := 4, cells := 0, slots := 0, locals := 89 }
set_option maxRecDepth 20000 in
theorem mX2_handOver (l : Launch) (w : kW) (σ : kS) (x1 : Int32) {o : (Int32 × kS)} (h : fX2_handOver σ x1 = some o) : Met l yX2_handOver (Cond.code yX2_handOver cX2_handOver 2 (some .int) :: TB) rmX2_handOver (va_Pc [.ref (kL w 126), .int x1] (kP w σ)) (kQi w o.1 o.2) 0 0 (kA w) := by
  refine k_met (by decide +kernel) [.ref (kL w 126), .int x1] (Nat.le_of_ble_eq_true rfl) (by simp [lv_args, Value.category]) ?_
  intro p e s m args below meth c K hret
  have K : kC w p s m args meth c cX2_handOver 2 RX2 := K
  obtain ⟨r, hro⟩ : ∃ r, r = o := ⟨o, rfl⟩
  rw [← hro] at h
  have hO : ∀ z, r = z → z = o := fun z e => by rw [← e]; exact hro
  unfold fX2_handOver at h
  refine k_aload_n K dX2_handOver_0 0 rfl ?_
  refine k_aload_n K dX2_handOver_1 0 rfl ?_
  refine k_iload_n K dX2_handOver_2 1 rfl ?_
  replace h := k_bd h
  obtain ⟨r1, hr1, h⟩ := h
  refine cl_X2_101 K dX2_handOver_3 hr1 (by decide) (Nat.le_of_ble_eq_true rfl) (by decide) ?_
  refine k_iconst (v := 1) K dX2_handOver_6 (by decide) ?_
  refine k_iconst (v := 1) K dX2_handOver_7 (by decide) ?_
  replace h := k_bd h
  obtain ⟨r2, hr2, h⟩ := h
  refine cl_X2_69 K dX2_handOver_8 hr2 (by decide) (Nat.le_of_ble_eq_true rfl) (by decide) ?_
  replace h := k_br h
  rcases h with ⟨b3, h⟩ | ⟨b3, h⟩
  · refine k_if_eq K 22 dX2_handOver_11 (by decide) (fun _ => ?_) (fun q => absurd b3 q)
    refine k_iconst (v := 0) K dX2_handOver_22 (by decide) ?_
    cases h
    obtain rfl := hO _ rfl
    exact k_iret (v := 0) K hret dX2_handOver_23 (by decide) (by decide)
  · refine k_if_eq K 22 dX2_handOver_11 (by decide) (fun q => absurd q b3) (fun _ => ?_)
    refine k_aload_n K dX2_handOver_14 0 rfl ?_
    refine k_iload_n K dX2_handOver_15 1 rfl ?_
    replace h := k_bd h
    obtain ⟨r4, hr4, h⟩ := h
    refine cl_X2_133 K dX2_handOver_16 hr4 (by decide) (Nat.le_of_ble_eq_true rfl) (by decide) ?_
    refine k_goto K 23 dX2_handOver_19 (by decide) ?_
    cases h
    obtain rfl := hO _ rfl
    exact k_iret (v := r4.1) K hret dX2_handOver_23 (by decide) (by decide)
end F_X2_handOver
section F_X2_many
variable {w : kW} {p : Program} {l : Launch} {e : Env} {s : State} {m : MethodId} {args : Array Value} {below : List Frame} {meth : Method} {c : Code}
def fX2_many_28 (x2 : Int32) (t0 : Int32) (σ : kS) : Option ((Int32 × Int32) ⊕ Int32) :=
  some (.inl (t0, x2 + 1))
def gX2_many_4 (σ : kS) (x1 : Int32) (x2 : Int32) : Option ((Int32 × Int32) ⊕ Int32) :=
  if 256 ≤ x2 then
    some (.inr (x1))
  else
    if vpi x2 256 then
      if (σ.1 127 x2.toNatClampNeg) = 1 then
        fX2_many_28 x2 (x1 + 1) σ
      else
        fX2_many_28 x2 x1 σ
    else none
def fX2_many_4 (σ : kS) (a : Int32 × Int32) : Option ((Int32 × Int32) ⊕ Int32) := gX2_many_4 σ a.1 a.2
def fX2_many (σ : kS) : Option Int32 :=
  kit (fX2_many_4 σ) 300 (0, 0)
def rmX2_many : Room := { frames := 0, cells := 0, slots := 0, locals := 0 }
set_option maxRecDepth 20000 in
theorem pX2_many_28 (K : kC w p s m args meth c cX2_many 3 RX2) (hret : meth.sig.returnType = (some .int)) {x2 : Int32} {t0 : Int32} {σ : kS} {r : ((Int32 × Int32) ⊕ Int32)} {o : Int32} (h : fX2_many_28 x2 t0 σ = some r) (hL4 : ∀ z, r = .inl z → kG w p l e rmX2_many s m args below meth c (MQ below (kQi w o σ) args s 0 0 (kA w)) 3 σ 4 [(0, .ref (kL w 126)), (1, .int (z.1)), (2, .int (z.2))] [] 0 0) (hO : ∀ z, r = .inr z → z = o) : kG w p l e rmX2_many s m args below meth c (MQ below (kQi w o σ) args s 0 0 (kA w)) 3 σ 28 [(0, .ref (kL w 126)), (2, .int x2)] [.int t0] 0 0 := by
  unfold fX2_many_28 at h
  refine k_istore_n (lv' := [(1, .int t0), (0, .ref (kL w 126)), (2, .int x2)]) K dX2_many_28 (by decide) rfl ?_
  refine k_iinc (v := 1) (lv' := [(2, .int (x2 + 1)), (1, .int t0), (0, .ref (kL w 126))]) K dX2_many_29 2 rfl (by decide) (by decide) rfl ?_
  refine k_goto K 4 dX2_many_32 (by decide) ?_
  refine k_sub [2, 1, 0] rfl ?_
  cases h
  exact hL4 _ rfl
set_option maxRecDepth 20000 in
theorem pX2_many_4 (K : kC w p s m args meth c cX2_many 3 RX2) (hret : meth.sig.returnType = (some .int)) {σ : kS} {x1 : Int32} {x2 : Int32} {r : ((Int32 × Int32) ⊕ Int32)} {o : Int32} (h : gX2_many_4 σ x1 x2 = some r) (hL4 : ∀ z, r = .inl z → kG w p l e rmX2_many s m args below meth c (MQ below (kQi w o σ) args s 0 0 (kA w)) 3 σ 4 [(0, .ref (kL w 126)), (1, .int (z.1)), (2, .int (z.2))] [] 0 0) (hO : ∀ z, r = .inr z → z = o) : kG w p l e rmX2_many s m args below meth c (MQ below (kQi w o σ) args s 0 0 (kA w)) 3 σ 4 [(0, .ref (kL w 126)), (1, .int x1), (2, .int x2)] [] 0 0 := by
  unfold gX2_many_4 at h
  refine k_iload_n K dX2_many_4 2 rfl ?_
  refine k_sipush (v := 256) K dX2_many_5 (by decide) ?_
  replace h := k_br h
  rcases h with ⟨b1, h⟩ | ⟨b1, h⟩
  · refine k_icmp_ge K 35 dX2_many_8 (by decide) (fun _ => ?_) (fun q => absurd b1 q)
    refine k_iload_n K dX2_many_35 1 rfl ?_
    cases h
    obtain rfl := hO _ rfl
    exact k_iret K hret dX2_many_36 (by decide) (by decide)
  · refine k_icmp_ge K 35 dX2_many_8 (by decide) (fun q => absurd q b1) (fun _ => ?_)
    refine k_aload_n K dX2_many_11 0 rfl ?_
    refine fg_X2_13 K dX2_many_12 ?_
    refine k_iload_n K dX2_many_15 2 rfl ?_
    replace h := k_gd h
    obtain ⟨g2, h⟩ := h
    refine k_iald K dX2_many_16 kd_127 g2 ?_
    refine k_iconst (v := 1) K dX2_many_17 (by decide) ?_
    replace h := k_br h
    rcases h with ⟨b3, h⟩ | ⟨b3, h⟩
    · refine k_icmp_ne K 27 dX2_many_18 (by decide) (fun q => absurd b3 q) (fun _ => ?_)
      refine k_iload_n K dX2_many_21 1 rfl ?_
      refine k_iconst (v := 1) K dX2_many_22 (by decide) ?_
      refine k_iadd K dX2_many_23 ?_
      refine k_goto K 28 dX2_many_24 (by decide) ?_
      refine k_sub [0, 2] rfl ?_
      exact pX2_many_28 K hret h hL4 hO
    · refine k_icmp_ne K 27 dX2_many_18 (by decide) (fun _ => ?_) (fun q => absurd q b3)
      refine k_iload_n K dX2_many_27 1 rfl ?_
      refine k_sub [0, 2] rfl ?_
      exact pX2_many_28 K hret h hL4 hO
set_option maxRecDepth 20000 in
theorem lX2_many_4 (K : kC w p s m args meth c cX2_many 3 RX2) (hret : meth.sig.returnType = (some .int)) {σ : kS} {n : Nat} {a : Int32 × Int32} {r : Int32} {o : Int32} (h : kit (fX2_many_4 σ) n a = some r) (hO : ∀ z, r = z → z = o) : kG w p l e rmX2_many s m args below meth c (MQ below (kQi w o σ) args s 0 0 (kA w)) 3 σ 4 [(0, .ref (kL w 126)), (1, .int (a.1)), (2, .int (a.2))] [] 0 0 :=
  kit_ind (body := fX2_many_4 σ) (fun a r => (∀ z, r = z → z = o) → kG w p l e rmX2_many s m args below meth c (MQ below (kQi w o σ) args s 0 0 (kA w)) 3 σ 4 [(0, .ref (kL w 126)), (1, .int (a.1)), (2, .int (a.2))] [] 0 0) (fun a a2 r hb ih hO => pX2_many_4 K hret hb (fun z e => by cases e; exact ih hO) (fun _ e => by cases e)) (fun a r hb hO => pX2_many_4 K hret hb (fun _ e => by cases e) (fun z e => hO z (by cases e; rfl))) n a r h hO
set_option maxRecDepth 20000 in
theorem mX2_many (l : Launch) (w : kW) (σ : kS) {o : Int32} (h : fX2_many σ = some o) : Met l yX2_many (Cond.code yX2_many cX2_many 3 (some .int) :: TB) rmX2_many (va_Pc [.ref (kL w 126)] (kP w σ)) (kQi w o σ) 0 0 (kA w) := by
  refine k_met (by decide +kernel) [.ref (kL w 126)] (Nat.le_of_ble_eq_true rfl) (by simp [lv_args, Value.category]) ?_
  intro p e s m args below meth c K hret
  have K : kC w p s m args meth c cX2_many 3 RX2 := K
  obtain ⟨r, hro⟩ : ∃ r, r = o := ⟨o, rfl⟩
  rw [← hro] at h
  have hO : ∀ z, r = z → z = o := fun z e => by rw [← e]; exact hro
  unfold fX2_many at h
  refine k_iconst (v := 0) K dX2_many_0 (by decide) ?_
  refine k_istore_n (lv' := [(1, .int 0), (0, .ref (kL w 126))]) K dX2_many_1 (by decide) rfl ?_
  refine k_iconst (v := 0) K dX2_many_2 (by decide) ?_
  refine k_istore_n (lv' := [(2, .int 0), (1, .int 0), (0, .ref (kL w 126))]) K dX2_many_3 (by decide) rfl ?_
  refine k_sub [2, 1, 0] rfl ?_
  exact lX2_many_4 K hret h hO
end F_X2_many
section C_X2_many
variable {w : kW} {p : Program} {l : Launch} {e : Env} {R : Room} {s : State} {m : MethodId} {args : Array Value} {below : List Frame} {meth : Method} {c : Code} {Q : State → Prop} {cc : ByteArray} {nL : Nat} {σ : kS} {pc : Nat} {lv : List (Nat × Value)} {st rest : List Value} {cells slots : Nat}
theorem cl_X2_65 (K : kC w p s m args meth c cc nL RX2) {r : Int32} (d : decode cc pc = .ok (.invokevirtual 65, 3)) (h : fX2_many σ = some r) (hR : rmX2_many.frames + 1 ≤ R.frames ∧ 8 + (3 + 11) + rmX2_many.locals ≤ R.locals) (hr : (rest.map fun v => v.category).sum ≤ 8) (hf : cells + 0 ≤ R.cells ∧ slots + 0 ≤ R.slots) (kk : kG w p l e R s m args below meth c Q nL σ (pc + 3) lv (.int r :: rest) (cells + 0) (slots + 0)) : kG w p l e R s m args below meth c Q nL σ pc lv (.ref (kL w 126) :: rest) cells slots :=
  k_callVi (As := []) (rest := rest) (n := 0) (C := RX2) (T := TX2) K d kd_126 rfl (kg_V tw_605 tw_607 tw_26 tw_50 tw_608) rfl (by decide +kernel) rfl hR hr rfl hf (mX2_many l w σ h) ⟨rfl, rfl⟩ kk
end C_X2_many
section F_X2_next
variable {w : kW} {p : Program} {l : Launch} {e : Env} {s : State} {m : MethodId} {args : Array Value} {below : List Frame} {meth : Method} {c : Code}
def gX2_next_2 (x1 : Int32) (σ : kS) (x2 : Int32) : Option ((Int32) ⊕ Int32) :=
  if 256 ≤ x2 then
    some (.inr ((-1)))
  else
    if vpi ((x1 + x2) - (x1 + x2) / 256 * 256) 256 then
      if (σ.1 127 ((x1 + x2) - (x1 + x2) / 256 * 256).toNatClampNeg) = 1 then
        some (.inr ((x1 + x2) - (x1 + x2) / 256 * 256))
      else
        some (.inl (x2 + 1))
    else none
def fX2_next_2 (x1 : Int32) (σ : kS) (a : Int32) : Option ((Int32) ⊕ Int32) := gX2_next_2 x1 σ a
def fX2_next (σ : kS) (x1 : Int32) : Option Int32 :=
  kit (fX2_next_2 x1 σ) 300 (0)
def rmX2_next : Room := { frames := 0, cells := 0, slots := 0, locals := 0 }
set_option maxRecDepth 20000 in
theorem pX2_next_2 (K : kC w p s m args meth c cX2_next 3 RX2) (hret : meth.sig.returnType = (some .int)) {x1 : Int32} {σ : kS} {x2 : Int32} {r : ((Int32) ⊕ Int32)} {o : Int32} (h : gX2_next_2 x1 σ x2 = some r) (hL2 : ∀ z, r = .inl z → kG w p l e rmX2_next s m args below meth c (MQ below (kQi w o σ) args s 0 0 (kA w)) 3 σ 2 [(0, .ref (kL w 126)), (1, .int x1), (2, .int z)] [] 0 0) (hO : ∀ z, r = .inr z → z = o) : kG w p l e rmX2_next s m args below meth c (MQ below (kQi w o σ) args s 0 0 (kA w)) 3 σ 2 [(0, .ref (kL w 126)), (1, .int x1), (2, .int x2)] [] 0 0 := by
  unfold gX2_next_2 at h
  refine k_iload_n K dX2_next_2 2 rfl ?_
  refine k_sipush (v := 256) K dX2_next_3 (by decide) ?_
  replace h := k_br h
  rcases h with ⟨b1, h⟩ | ⟨b1, h⟩
  · refine k_icmp_ge K 39 dX2_next_6 (by decide) (fun _ => ?_) (fun q => absurd b1 q)
    refine k_iconst (v := (-1)) K dX2_next_39 (by decide) ?_
    cases h
    obtain rfl := hO _ rfl
    exact k_iret (v := (-1)) K hret dX2_next_40 (by decide) (by decide)
  · refine k_icmp_ge K 39 dX2_next_6 (by decide) (fun q => absurd q b1) (fun _ => ?_)
    refine k_aload_n K dX2_next_9 0 rfl ?_
    refine fg_X2_13 K dX2_next_10 ?_
    refine k_iload_n K dX2_next_13 1 rfl ?_
    refine k_iload_n K dX2_next_14 2 rfl ?_
    refine k_iadd K dX2_next_15 ?_
    refine k_sipush (v := 256) K dX2_next_16 (by decide) ?_
    refine k_irem K dX2_next_19 (by decide) ?_
    replace h := k_gd h
    obtain ⟨g2, h⟩ := h
    refine k_iald K dX2_next_20 kd_127 g2 ?_
    refine k_iconst (v := 1) K dX2_next_21 (by decide) ?_
    replace h := k_br h
    rcases h with ⟨b3, h⟩ | ⟨b3, h⟩
    · refine k_icmp_ne K 33 dX2_next_22 (by decide) (fun q => absurd b3 q) (fun _ => ?_)
      refine k_iload_n K dX2_next_25 1 rfl ?_
      refine k_iload_n K dX2_next_26 2 rfl ?_
      refine k_iadd K dX2_next_27 ?_
      refine k_sipush (v := 256) K dX2_next_28 (by decide) ?_
      refine k_irem K dX2_next_31 (by decide) ?_
      cases h
      obtain rfl := hO _ rfl
      exact k_iret (v := (x1 + x2) - (x1 + x2) / 256 * 256) K hret dX2_next_32 (by decide) (by decide)
    · refine k_icmp_ne K 33 dX2_next_22 (by decide) (fun _ => ?_) (fun q => absurd q b3)
      refine k_iinc (v := 1) (lv' := [(2, .int (x2 + 1)), (0, .ref (kL w 126)), (1, .int x1)]) K dX2_next_33 2 rfl (by decide) (by decide) rfl ?_
      refine k_goto K 2 dX2_next_36 (by decide) ?_
      refine k_sub [1, 2, 0] rfl ?_
      cases h
      exact hL2 _ rfl
set_option maxRecDepth 20000 in
theorem lX2_next_2 (K : kC w p s m args meth c cX2_next 3 RX2) (hret : meth.sig.returnType = (some .int)) {x1 : Int32} {σ : kS} {n : Nat} {a : Int32} {r : Int32} {o : Int32} (h : kit (fX2_next_2 x1 σ) n a = some r) (hO : ∀ z, r = z → z = o) : kG w p l e rmX2_next s m args below meth c (MQ below (kQi w o σ) args s 0 0 (kA w)) 3 σ 2 [(0, .ref (kL w 126)), (1, .int x1), (2, .int a)] [] 0 0 :=
  kit_ind (body := fX2_next_2 x1 σ) (fun a r => (∀ z, r = z → z = o) → kG w p l e rmX2_next s m args below meth c (MQ below (kQi w o σ) args s 0 0 (kA w)) 3 σ 2 [(0, .ref (kL w 126)), (1, .int x1), (2, .int a)] [] 0 0) (fun a a2 r hb ih hO => pX2_next_2 K hret hb (fun z e => by cases e; exact ih hO) (fun _ e => by cases e)) (fun a r hb hO => pX2_next_2 K hret hb (fun _ e => by cases e) (fun z e => hO z (by cases e; rfl))) n a r h hO
set_option maxRecDepth 20000 in
theorem mX2_next (l : Launch) (w : kW) (σ : kS) (x1 : Int32) {o : Int32} (h : fX2_next σ x1 = some o) : Met l yX2_next (Cond.code yX2_next cX2_next 3 (some .int) :: TB) rmX2_next (va_Pc [.ref (kL w 126), .int x1] (kP w σ)) (kQi w o σ) 0 0 (kA w) := by
  refine k_met (by decide +kernel) [.ref (kL w 126), .int x1] (Nat.le_of_ble_eq_true rfl) (by simp [lv_args, Value.category]) ?_
  intro p e s m args below meth c K hret
  have K : kC w p s m args meth c cX2_next 3 RX2 := K
  obtain ⟨r, hro⟩ : ∃ r, r = o := ⟨o, rfl⟩
  rw [← hro] at h
  have hO : ∀ z, r = z → z = o := fun z e => by rw [← e]; exact hro
  unfold fX2_next at h
  refine k_iconst (v := 0) K dX2_next_0 (by decide) ?_
  refine k_istore_n (lv' := [(2, .int 0), (0, .ref (kL w 126)), (1, .int x1)]) K dX2_next_1 (by decide) rfl ?_
  refine k_sub [1, 2, 0] rfl ?_
  exact lX2_next_2 K hret h hO
end F_X2_next
section C_X2_next
variable {w : kW} {p : Program} {l : Launch} {e : Env} {R : Room} {s : State} {m : MethodId} {args : Array Value} {below : List Frame} {meth : Method} {c : Code} {Q : State → Prop} {cc : ByteArray} {nL : Nat} {σ : kS} {pc : Nat} {lv : List (Nat × Value)} {st rest : List Value} {cells slots : Nat}
theorem cl_X2_77 (K : kC w p s m args meth c cc nL RX2) {a1 : Int32} {r : Int32} (d : decode cc pc = .ok (.invokevirtual 77, 3)) (h : fX2_next σ a1 = some r) (hR : rmX2_next.frames + 1 ≤ R.frames ∧ 8 + (3 + 11) + rmX2_next.locals ≤ R.locals) (hr : (rest.map fun v => v.category).sum ≤ 8) (hf : cells + 0 ≤ R.cells ∧ slots + 0 ≤ R.slots) (kk : kG w p l e R s m args below meth c Q nL σ (pc + 3) lv (.int r :: rest) (cells + 0) (slots + 0)) : kG w p l e R s m args below meth c Q nL σ pc lv (.int a1 :: .ref (kL w 126) :: rest) cells slots :=
  k_callVi (As := [.int a1]) (rest := rest) (n := 1) (C := RX2) (T := TX2) K d kd_126 rfl (kg_V tw_628 tw_630 tw_29 tw_50 tw_631) rfl (by decide +kernel) rfl hR hr rfl hf (mX2_next l w σ a1 h) ⟨rfl, rfl⟩ kk
end C_X2_next
section F_X2_sum
variable {w : kW} {p : Program} {l : Launch} {e : Env} {s : State} {m : MethodId} {args : Array Value} {below : List Frame} {meth : Method} {c : Code}
def fX2_sum_222 (x1 : Int32) (x3 : Int32) (t0 : Int32) (σ : kS) : Option ((Int32 × Int32) ⊕ Int32) :=
  some (.inl (t0, x3 + 1))
def fX2_sum_221 (x1 : Int32) (x2 : Int32) (x3 : Int32) (σ : kS) : Option ((Int32 × Int32) ⊕ Int32) :=
  fX2_sum_222 x1 x3 x2 σ
def fX2_sum_186 (x1 : Int32) (x2 : Int32) (x3 : Int32) (x4 : Int32) (σ : kS) : Option ((Int32 × Int32) ⊕ Int32) :=
  if x1 = 4 then
    if x4 = 0 then
      fX2_sum_221 x1 x2 x3 σ
    else
      (fX2_successor σ x3).bind fun r3 =>
      (fX2_next σ ((x3 + 1) - (x3 + 1) / 256 * 256)).bind fun r4 =>
      if r3 = r4 then
        fX2_sum_222 x1 x3 (x2 + 1) σ
      else
        fX2_sum_221 x1 x2 x3 σ
  else
    fX2_sum_221 x1 x2 x3 σ
def fX2_sum_179 (x1 : Int32) (x3 : Int32) (x4 : Int32) (x5 : Int32) (t0 : Int32) (σ : kS) : Option ((Int32 × Int32) ⊕ ((Int32 × Int32) ⊕ Int32)) :=
  some (.inl (t0, x5 + 1))
def fX2_sum_178 (x1 : Int32) (x2 : Int32) (x3 : Int32) (x4 : Int32) (x5 : Int32) (σ : kS) : Option ((Int32 × Int32) ⊕ ((Int32 × Int32) ⊕ Int32)) :=
  fX2_sum_179 x1 x3 x4 x5 x2 σ
def gX2_sum_110 (x1 : Int32) (x3 : Int32) (x4 : Int32) (σ : kS) (x2 : Int32) (x5 : Int32) : Option ((Int32 × Int32) ⊕ ((Int32 × Int32) ⊕ Int32)) :=
  if 8 ≤ x5 then
    (fX2_sum_186 x1 x2 x3 x4 σ).map .inr
  else
    if x1 = 3 then
      if x4 = 0 then
        (fX2_sum_186 x1 x2 x3 x4 σ).map .inr
      else
        if vpi ((8 * x3) + x5) 2048 then
          if (σ.1 130 ((8 * x3) + x5).toNatClampNeg) = ((-1)) then
            fX2_sum_178 x1 x2 x3 x4 x5 σ
          else
            (fX2_next σ ((x3 + (1 <<< (x5 &&& 31))) - (x3 + (1 <<< (x5 &&& 31))) / 256 * 256)).bind fun r6 =>
            if (σ.1 130 ((8 * x3) + x5).toNatClampNeg) = r6 then
              fX2_sum_179 x1 x3 x4 x5 (x2 + 1) σ
            else
              fX2_sum_178 x1 x2 x3 x4 x5 σ
        else none
    else
      (fX2_sum_186 x1 x2 x3 x4 σ).map .inr
def fX2_sum_110 (x1 : Int32) (x3 : Int32) (x4 : Int32) (σ : kS) (a : Int32 × Int32) : Option ((Int32 × Int32) ⊕ ((Int32 × Int32) ⊕ Int32)) := gX2_sum_110 x1 x3 x4 σ a.1 a.2
def fX2_sum_107 (x1 : Int32) (x2 : Int32) (x3 : Int32) (x4 : Int32) (σ : kS) : Option ((Int32 × Int32) ⊕ Int32) :=
  kit (fX2_sum_110 x1 x3 x4 σ) 300 (x2, 0)
def fX2_sum_100 (x1 : Int32) (x3 : Int32) (x4 : Int32) (x5 : Int32) (t0 : Int32) (σ : kS) : Option ((Int32 × Int32) ⊕ ((Int32 × Int32) ⊕ Int32)) :=
  some (.inl (t0, x5 + 1))
def gX2_sum_61 (x1 : Int32) (x3 : Int32) (x4 : Int32) (σ : kS) (x2 : Int32) (x5 : Int32) : Option ((Int32 × Int32) ⊕ ((Int32 × Int32) ⊕ Int32)) :=
  if 64 ≤ x5 then
    (fX2_sum_107 x1 x2 x3 x4 σ).map .inr
  else
    if x1 = 2 then
      if x4 = 0 then
        (fX2_sum_107 x1 x2 x3 x4 σ).map .inr
      else
        if vpi ((64 * x3) + x5) 16384 then
          if (σ.1 132 ((64 * x3) + x5).toNatClampNeg) ≤ 0 then
            fX2_sum_100 x1 x3 x4 x5 x2 σ
          else
            fX2_sum_100 x1 x3 x4 x5 (x2 + 1) σ
        else none
    else
      (fX2_sum_107 x1 x2 x3 x4 σ).map .inr
def fX2_sum_61 (x1 : Int32) (x3 : Int32) (x4 : Int32) (σ : kS) (a : Int32 × Int32) : Option ((Int32 × Int32) ⊕ ((Int32 × Int32) ⊕ Int32)) := gX2_sum_61 x1 x3 x4 σ a.1 a.2
def fX2_sum_56 (x1 : Int32) (x2 : Int32) (x3 : Int32) (t0 : Int32) (σ : kS) : Option ((Int32 × Int32) ⊕ Int32) :=
  kit (fX2_sum_61 x1 x3 t0 σ) 300 (x2, 0)
def fX2_sum_55 (x1 : Int32) (x2 : Int32) (x3 : Int32) (σ : kS) : Option ((Int32 × Int32) ⊕ Int32) :=
  fX2_sum_56 x1 x2 x3 0 σ
def fX2_sum_33 (x1 : Int32) (x3 : Int32) (t0 : Int32) (σ : kS) : Option ((Int32 × Int32) ⊕ Int32) :=
  if vpi x3 256 then
    if (σ.1 127 x3.toNatClampNeg) = 1 then
      if (σ.1 126 2) = 0 then
        fX2_sum_55 x1 t0 x3 σ
      else
        fX2_sum_56 x1 t0 x3 1 σ
    else
      fX2_sum_55 x1 t0 x3 σ
  else none
def fX2_sum_32 (x1 : Int32) (x2 : Int32) (x3 : Int32) (σ : kS) : Option ((Int32 × Int32) ⊕ Int32) :=
  fX2_sum_33 x1 x3 x2 σ
def gX2_sum_4 (x1 : Int32) (σ : kS) (x2 : Int32) (x3 : Int32) : Option ((Int32 × Int32) ⊕ Int32) :=
  if 256 ≤ x3 then
    some (.inr (x2))
  else
    if x1 = 1 then
      if vpi x3 256 then
        if (σ.1 127 x3.toNatClampNeg) = 2 then
          fX2_sum_33 x1 x3 (x2 + 1) σ
        else
          fX2_sum_32 x1 x2 x3 σ
      else none
    else
      fX2_sum_32 x1 x2 x3 σ
def fX2_sum_4 (x1 : Int32) (σ : kS) (a : Int32 × Int32) : Option ((Int32 × Int32) ⊕ Int32) := gX2_sum_4 x1 σ a.1 a.2
def fX2_sum (σ : kS) (x1 : Int32) : Option Int32 :=
  kit (fX2_sum_4 x1 σ) 300 (0, 0)
def rmX2_sum : Room := { frames := 3, cells := 0, slots := 0, locals := 63 }
set_option maxRecDepth 20000 in
theorem pX2_sum_222 (K : kC w p s m args meth c cX2_sum 6 RX2) (hret : meth.sig.returnType = (some .int)) {x1 : Int32} {x3 : Int32} {t0 : Int32} {σ : kS} {r : ((Int32 × Int32) ⊕ Int32)} {o : Int32} (h : fX2_sum_222 x1 x3 t0 σ = some r) (hL4 : ∀ z, r = .inl z → kG w p l e rmX2_sum s m args below meth c (MQ below (kQi w o σ) args s 0 0 (kA w)) 6 σ 4 [(0, .ref (kL w 126)), (1, .int x1), (2, .int (z.1)), (3, .int (z.2))] [] 0 0) (hO : ∀ z, r = .inr z → z = o) : kG w p l e rmX2_sum s m args below meth c (MQ below (kQi w o σ) args s 0 0 (kA w)) 6 σ 222 [(0, .ref (kL w 126)), (1, .int x1), (3, .int x3)] [.int t0] 0 0 := by
  unfold fX2_sum_222 at h
  refine k_istore_n (lv' := [(2, .int t0), (0, .ref (kL w 126)), (1, .int x1), (3, .int x3)]) K dX2_sum_222 (by decide) rfl ?_
  refine k_iinc (v := 1) (lv' := [(3, .int (x3 + 1)), (2, .int t0), (0, .ref (kL w 126)), (1, .int x1)]) K dX2_sum_223 3 rfl (by decide) (by decide) rfl ?_
  refine k_goto K 4 dX2_sum_226 (by decide) ?_
  refine k_sub [2, 3, 1, 0] rfl ?_
  cases h
  exact hL4 _ rfl
set_option maxRecDepth 20000 in
theorem pX2_sum_221 (K : kC w p s m args meth c cX2_sum 6 RX2) (hret : meth.sig.returnType = (some .int)) {x1 : Int32} {x2 : Int32} {x3 : Int32} {σ : kS} {r : ((Int32 × Int32) ⊕ Int32)} {o : Int32} (h : fX2_sum_221 x1 x2 x3 σ = some r) (hL4 : ∀ z, r = .inl z → kG w p l e rmX2_sum s m args below meth c (MQ below (kQi w o σ) args s 0 0 (kA w)) 6 σ 4 [(0, .ref (kL w 126)), (1, .int x1), (2, .int (z.1)), (3, .int (z.2))] [] 0 0) (hO : ∀ z, r = .inr z → z = o) : kG w p l e rmX2_sum s m args below meth c (MQ below (kQi w o σ) args s 0 0 (kA w)) 6 σ 221 [(0, .ref (kL w 126)), (1, .int x1), (2, .int x2), (3, .int x3)] [] 0 0 := by
  unfold fX2_sum_221 at h
  refine k_iload_n K dX2_sum_221 2 rfl ?_
  refine k_sub [0, 1, 3] rfl ?_
  exact pX2_sum_222 K hret h hL4 hO
set_option maxRecDepth 20000 in
theorem pX2_sum_186 (K : kC w p s m args meth c cX2_sum 6 RX2) (hret : meth.sig.returnType = (some .int)) {x1 : Int32} {x2 : Int32} {x3 : Int32} {x4 : Int32} {σ : kS} {r : ((Int32 × Int32) ⊕ Int32)} {o : Int32} (h : fX2_sum_186 x1 x2 x3 x4 σ = some r) (hL4 : ∀ z, r = .inl z → kG w p l e rmX2_sum s m args below meth c (MQ below (kQi w o σ) args s 0 0 (kA w)) 6 σ 4 [(0, .ref (kL w 126)), (1, .int x1), (2, .int (z.1)), (3, .int (z.2))] [] 0 0) (hO : ∀ z, r = .inr z → z = o) : kG w p l e rmX2_sum s m args below meth c (MQ below (kQi w o σ) args s 0 0 (kA w)) 6 σ 186 [(0, .ref (kL w 126)), (1, .int x1), (2, .int x2), (3, .int x3), (4, .int x4)] [] 0 0 := by
  unfold fX2_sum_186 at h
  refine k_iload_n K dX2_sum_186 1 rfl ?_
  refine k_iconst (v := 4) K dX2_sum_187 (by decide) ?_
  replace h := k_br h
  rcases h with ⟨b1, h⟩ | ⟨b1, h⟩
  · refine k_icmp_ne K 221 dX2_sum_188 (by decide) (fun q => absurd b1 q) (fun _ => ?_)
    refine k_iload K dX2_sum_191 4 rfl ?_
    replace h := k_br h
    rcases h with ⟨b2, h⟩ | ⟨b2, h⟩
    · refine k_if_eq K 221 dX2_sum_193 (by decide) (fun _ => ?_) (fun q => absurd b2 q)
      refine k_sub [0, 1, 2, 3] rfl ?_
      exact pX2_sum_221 K hret h hL4 hO
    · refine k_if_eq K 221 dX2_sum_193 (by decide) (fun q => absurd q b2) (fun _ => ?_)
      refine k_aload_n K dX2_sum_196 0 rfl ?_
      refine k_iload_n K dX2_sum_197 3 rfl ?_
      replace h := k_bd h
      obtain ⟨r3, hr3, h⟩ := h
      refine cl_X2_91 K dX2_sum_198 hr3 (by decide) (Nat.le_of_ble_eq_true rfl) (by decide) ?_
      refine k_aload_n K dX2_sum_201 0 rfl ?_
      refine k_iload_n K dX2_sum_202 3 rfl ?_
      refine k_iconst (v := 1) K dX2_sum_203 (by decide) ?_
      refine k_iadd K dX2_sum_204 ?_
      refine k_sipush (v := 256) K dX2_sum_205 (by decide) ?_
      refine k_irem K dX2_sum_208 (by decide) ?_
      replace h := k_bd h
      obtain ⟨r4, hr4, h⟩ := h
      refine cl_X2_77 K dX2_sum_209 hr4 (by decide) (Nat.le_of_ble_eq_true rfl) (by decide) ?_
      replace h := k_br h
      rcases h with ⟨b5, h⟩ | ⟨b5, h⟩
      · refine k_icmp_ne K 221 dX2_sum_212 (by decide) (fun q => absurd b5 q) (fun _ => ?_)
        refine k_iload_n K dX2_sum_215 2 rfl ?_
        refine k_iconst (v := 1) K dX2_sum_216 (by decide) ?_
        refine k_iadd K dX2_sum_217 ?_
        refine k_goto K 222 dX2_sum_218 (by decide) ?_
        refine k_sub [0, 1, 3] rfl ?_
        exact pX2_sum_222 K hret h hL4 hO
      · refine k_icmp_ne K 221 dX2_sum_212 (by decide) (fun _ => ?_) (fun q => absurd q b5)
        refine k_sub [0, 1, 2, 3] rfl ?_
        exact pX2_sum_221 K hret h hL4 hO
  · refine k_icmp_ne K 221 dX2_sum_188 (by decide) (fun _ => ?_) (fun q => absurd q b1)
    refine k_sub [0, 1, 2, 3] rfl ?_
    exact pX2_sum_221 K hret h hL4 hO
set_option maxRecDepth 20000 in
theorem pX2_sum_179 (K : kC w p s m args meth c cX2_sum 6 RX2) (hret : meth.sig.returnType = (some .int)) {x1 : Int32} {x3 : Int32} {x4 : Int32} {x5 : Int32} {t0 : Int32} {σ : kS} {r : ((Int32 × Int32) ⊕ ((Int32 × Int32) ⊕ Int32))} {o : Int32} (h : fX2_sum_179 x1 x3 x4 x5 t0 σ = some r) (hL4 : ∀ z, r = .inr (.inl z) → kG w p l e rmX2_sum s m args below meth c (MQ below (kQi w o σ) args s 0 0 (kA w)) 6 σ 4 [(0, .ref (kL w 126)), (1, .int x1), (2, .int (z.1)), (3, .int (z.2))] [] 0 0) (hL110 : ∀ z, r = .inl z → kG w p l e rmX2_sum s m args below meth c (MQ below (kQi w o σ) args s 0 0 (kA w)) 6 σ 110 [(0, .ref (kL w 126)), (1, .int x1), (2, .int (z.1)), (3, .int x3), (4, .int x4), (5, .int (z.2))] [] 0 0) (hO : ∀ z, r = .inr (.inr z) → z = o) : kG w p l e rmX2_sum s m args below meth c (MQ below (kQi w o σ) args s 0 0 (kA w)) 6 σ 179 [(0, .ref (kL w 126)), (1, .int x1), (3, .int x3), (4, .int x4), (5, .int x5)] [.int t0] 0 0 := by
  unfold fX2_sum_179 at h
  refine k_istore_n (lv' := [(2, .int t0), (0, .ref (kL w 126)), (1, .int x1), (3, .int x3), (4, .int x4), (5, .int x5)]) K dX2_sum_179 (by decide) rfl ?_
  refine k_iinc (v := 1) (lv' := [(5, .int (x5 + 1)), (2, .int t0), (0, .ref (kL w 126)), (1, .int x1), (3, .int x3), (4, .int x4)]) K dX2_sum_180 5 rfl (by decide) (by decide) rfl ?_
  refine k_goto K 110 dX2_sum_183 (by decide) ?_
  refine k_sub [2, 3, 1, 4, 5, 0] rfl ?_
  cases h
  exact hL110 _ rfl
set_option maxRecDepth 20000 in
theorem pX2_sum_178 (K : kC w p s m args meth c cX2_sum 6 RX2) (hret : meth.sig.returnType = (some .int)) {x1 : Int32} {x2 : Int32} {x3 : Int32} {x4 : Int32} {x5 : Int32} {σ : kS} {r : ((Int32 × Int32) ⊕ ((Int32 × Int32) ⊕ Int32))} {o : Int32} (h : fX2_sum_178 x1 x2 x3 x4 x5 σ = some r) (hL4 : ∀ z, r = .inr (.inl z) → kG w p l e rmX2_sum s m args below meth c (MQ below (kQi w o σ) args s 0 0 (kA w)) 6 σ 4 [(0, .ref (kL w 126)), (1, .int x1), (2, .int (z.1)), (3, .int (z.2))] [] 0 0) (hL110 : ∀ z, r = .inl z → kG w p l e rmX2_sum s m args below meth c (MQ below (kQi w o σ) args s 0 0 (kA w)) 6 σ 110 [(0, .ref (kL w 126)), (1, .int x1), (2, .int (z.1)), (3, .int x3), (4, .int x4), (5, .int (z.2))] [] 0 0) (hO : ∀ z, r = .inr (.inr z) → z = o) : kG w p l e rmX2_sum s m args below meth c (MQ below (kQi w o σ) args s 0 0 (kA w)) 6 σ 178 [(0, .ref (kL w 126)), (1, .int x1), (2, .int x2), (3, .int x3), (4, .int x4), (5, .int x5)] [] 0 0 := by
  unfold fX2_sum_178 at h
  refine k_iload_n K dX2_sum_178 2 rfl ?_
  refine k_sub [0, 1, 3, 4, 5] rfl ?_
  exact pX2_sum_179 K hret h hL4 hL110 hO
set_option maxRecDepth 20000 in
theorem pX2_sum_110 (K : kC w p s m args meth c cX2_sum 6 RX2) (hret : meth.sig.returnType = (some .int)) {x1 : Int32} {x3 : Int32} {x4 : Int32} {σ : kS} {x2 : Int32} {x5 : Int32} {r : ((Int32 × Int32) ⊕ ((Int32 × Int32) ⊕ Int32))} {o : Int32} (h : gX2_sum_110 x1 x3 x4 σ x2 x5 = some r) (hL4 : ∀ z, r = .inr (.inl z) → kG w p l e rmX2_sum s m args below meth c (MQ below (kQi w o σ) args s 0 0 (kA w)) 6 σ 4 [(0, .ref (kL w 126)), (1, .int x1), (2, .int (z.1)), (3, .int (z.2))] [] 0 0) (hL110 : ∀ z, r = .inl z → kG w p l e rmX2_sum s m args below meth c (MQ below (kQi w o σ) args s 0 0 (kA w)) 6 σ 110 [(0, .ref (kL w 126)), (1, .int x1), (2, .int (z.1)), (3, .int x3), (4, .int x4), (5, .int (z.2))] [] 0 0) (hO : ∀ z, r = .inr (.inr z) → z = o) : kG w p l e rmX2_sum s m args below meth c (MQ below (kQi w o σ) args s 0 0 (kA w)) 6 σ 110 [(0, .ref (kL w 126)), (1, .int x1), (2, .int x2), (3, .int x3), (4, .int x4), (5, .int x5)] [] 0 0 := by
  unfold gX2_sum_110 at h
  refine k_iload K dX2_sum_110 5 rfl ?_
  refine k_bipush (v := 8) K dX2_sum_112 (by decide) ?_
  replace h := k_br h
  rcases h with ⟨b1, h⟩ | ⟨b1, h⟩
  · refine k_icmp_ge K 186 dX2_sum_114 (by decide) (fun _ => ?_) (fun q => absurd b1 q)
    refine k_sub [0, 1, 2, 3, 4] rfl ?_
    replace h := k_mp h
    obtain ⟨_, h, rfl⟩ := h
    exact pX2_sum_186 K hret h (fun z e => hL4 z (by rw [e])) (fun z e => hO z (by rw [e]))
  · refine k_icmp_ge K 186 dX2_sum_114 (by decide) (fun q => absurd q b1) (fun _ => ?_)
    refine k_iload_n K dX2_sum_117 1 rfl ?_
    refine k_iconst (v := 3) K dX2_sum_118 (by decide) ?_
    replace h := k_br h
    rcases h with ⟨b2, h⟩ | ⟨b2, h⟩
    · refine k_icmp_ne K 186 dX2_sum_119 (by decide) (fun q => absurd b2 q) (fun _ => ?_)
      refine k_iload K dX2_sum_122 4 rfl ?_
      replace h := k_br h
      rcases h with ⟨b3, h⟩ | ⟨b3, h⟩
      · refine k_if_eq K 186 dX2_sum_124 (by decide) (fun _ => ?_) (fun q => absurd b3 q)
        refine k_sub [0, 1, 2, 3, 4] rfl ?_
        replace h := k_mp h
        obtain ⟨_, h, rfl⟩ := h
        exact pX2_sum_186 K hret h (fun z e => hL4 z (by rw [e])) (fun z e => hO z (by rw [e]))
      · refine k_if_eq K 186 dX2_sum_124 (by decide) (fun q => absurd q b3) (fun _ => ?_)
        refine k_aload_n K dX2_sum_127 0 rfl ?_
        refine fg_X2_23 K dX2_sum_128 ?_
        refine k_bipush (v := 8) K dX2_sum_131 (by decide) ?_
        refine k_iload_n K dX2_sum_133 3 rfl ?_
        refine k_imul K dX2_sum_134 ?_
        refine k_iload K dX2_sum_135 5 rfl ?_
        refine k_iadd K dX2_sum_137 ?_
        replace h := k_gd h
        obtain ⟨g4, h⟩ := h
        refine k_iald K dX2_sum_138 kd_130 g4 ?_
        refine k_iconst (v := (-1)) K dX2_sum_139 (by decide) ?_
        replace h := k_br h
        rcases h with ⟨b5, h⟩ | ⟨b5, h⟩
        · refine k_icmp_eq K 178 dX2_sum_140 (by decide) (fun _ => ?_) (fun q => absurd b5 q)
          exact pX2_sum_178 K hret h hL4 hL110 hO
        · refine k_icmp_eq K 178 dX2_sum_140 (by decide) (fun q => absurd q b5) (fun _ => ?_)
          refine k_aload_n K dX2_sum_143 0 rfl ?_
          refine fg_X2_23 K dX2_sum_144 ?_
          refine k_bipush (v := 8) K dX2_sum_147 (by decide) ?_
          refine k_iload_n K dX2_sum_149 3 rfl ?_
          refine k_imul K dX2_sum_150 ?_
          refine k_iload K dX2_sum_151 5 rfl ?_
          refine k_iadd K dX2_sum_153 ?_
          refine k_iald K dX2_sum_154 kd_130 g4 ?_
          refine k_aload_n K dX2_sum_155 0 rfl ?_
          refine k_iload_n K dX2_sum_156 3 rfl ?_
          refine k_iconst (v := 1) K dX2_sum_157 (by decide) ?_
          refine k_iload K dX2_sum_158 5 rfl ?_
          refine k_ishl K dX2_sum_160 ?_
          refine k_iadd K dX2_sum_161 ?_
          refine k_sipush (v := 256) K dX2_sum_162 (by decide) ?_
          refine k_irem K dX2_sum_165 (by decide) ?_
          replace h := k_bd h
          obtain ⟨r6, hr6, h⟩ := h
          refine cl_X2_77 K dX2_sum_166 hr6 (by decide) (Nat.le_of_ble_eq_true rfl) (by decide) ?_
          replace h := k_br h
          rcases h with ⟨b7, h⟩ | ⟨b7, h⟩
          · refine k_icmp_ne K 178 dX2_sum_169 (by decide) (fun q => absurd b7 q) (fun _ => ?_)
            refine k_iload_n K dX2_sum_172 2 rfl ?_
            refine k_iconst (v := 1) K dX2_sum_173 (by decide) ?_
            refine k_iadd K dX2_sum_174 ?_
            refine k_goto K 179 dX2_sum_175 (by decide) ?_
            refine k_sub [0, 1, 3, 4, 5] rfl ?_
            exact pX2_sum_179 K hret h hL4 hL110 hO
          · refine k_icmp_ne K 178 dX2_sum_169 (by decide) (fun _ => ?_) (fun q => absurd q b7)
            exact pX2_sum_178 K hret h hL4 hL110 hO
    · refine k_icmp_ne K 186 dX2_sum_119 (by decide) (fun _ => ?_) (fun q => absurd q b2)
      refine k_sub [0, 1, 2, 3, 4] rfl ?_
      replace h := k_mp h
      obtain ⟨_, h, rfl⟩ := h
      exact pX2_sum_186 K hret h (fun z e => hL4 z (by rw [e])) (fun z e => hO z (by rw [e]))
set_option maxRecDepth 20000 in
theorem lX2_sum_110 (K : kC w p s m args meth c cX2_sum 6 RX2) (hret : meth.sig.returnType = (some .int)) {x1 : Int32} {x3 : Int32} {x4 : Int32} {σ : kS} {n : Nat} {a : Int32 × Int32} {r : ((Int32 × Int32) ⊕ Int32)} {o : Int32} (h : kit (fX2_sum_110 x1 x3 x4 σ) n a = some r) (hL4 : ∀ z, r = .inl z → kG w p l e rmX2_sum s m args below meth c (MQ below (kQi w o σ) args s 0 0 (kA w)) 6 σ 4 [(0, .ref (kL w 126)), (1, .int x1), (2, .int (z.1)), (3, .int (z.2))] [] 0 0) (hO : ∀ z, r = .inr z → z = o) : kG w p l e rmX2_sum s m args below meth c (MQ below (kQi w o σ) args s 0 0 (kA w)) 6 σ 110 [(0, .ref (kL w 126)), (1, .int x1), (2, .int (a.1)), (3, .int x3), (4, .int x4), (5, .int (a.2))] [] 0 0 :=
  kit_ind (body := fX2_sum_110 x1 x3 x4 σ) (fun a r => (∀ z, r = .inl z → kG w p l e rmX2_sum s m args below meth c (MQ below (kQi w o σ) args s 0 0 (kA w)) 6 σ 4 [(0, .ref (kL w 126)), (1, .int x1), (2, .int (z.1)), (3, .int (z.2))] [] 0 0) → (∀ z, r = .inr z → z = o) → kG w p l e rmX2_sum s m args below meth c (MQ below (kQi w o σ) args s 0 0 (kA w)) 6 σ 110 [(0, .ref (kL w 126)), (1, .int x1), (2, .int (a.1)), (3, .int x3), (4, .int x4), (5, .int (a.2))] [] 0 0) (fun a a2 r hb ih hL4 hO => pX2_sum_110 K hret hb (fun _ e => by cases e) (fun z e => by cases e; exact ih hL4 hO) (fun _ e => by cases e)) (fun a r hb hL4 hO => pX2_sum_110 K hret hb (fun z e => hL4 z (by cases e; rfl)) (fun _ e => by cases e) (fun z e => hO z (by cases e; rfl))) n a r h hL4 hO
set_option maxRecDepth 20000 in
theorem pX2_sum_107 (K : kC w p s m args meth c cX2_sum 6 RX2) (hret : meth.sig.returnType = (some .int)) {x1 : Int32} {x2 : Int32} {x3 : Int32} {x4 : Int32} {σ : kS} {r : ((Int32 × Int32) ⊕ Int32)} {o : Int32} (h : fX2_sum_107 x1 x2 x3 x4 σ = some r) (hL4 : ∀ z, r = .inl z → kG w p l e rmX2_sum s m args below meth c (MQ below (kQi w o σ) args s 0 0 (kA w)) 6 σ 4 [(0, .ref (kL w 126)), (1, .int x1), (2, .int (z.1)), (3, .int (z.2))] [] 0 0) (hO : ∀ z, r = .inr z → z = o) : kG w p l e rmX2_sum s m args below meth c (MQ below (kQi w o σ) args s 0 0 (kA w)) 6 σ 107 [(0, .ref (kL w 126)), (1, .int x1), (2, .int x2), (3, .int x3), (4, .int x4)] [] 0 0 := by
  unfold fX2_sum_107 at h
  refine k_iconst (v := 0) K dX2_sum_107 (by decide) ?_
  refine k_istore (lv' := [(5, .int 0), (0, .ref (kL w 126)), (1, .int x1), (2, .int x2), (3, .int x3), (4, .int x4)]) K dX2_sum_108 (by decide) rfl ?_
  refine k_sub [1, 2, 3, 4, 5, 0] rfl ?_
  exact lX2_sum_110 K hret h hL4 hO
set_option maxRecDepth 20000 in
theorem pX2_sum_100 (K : kC w p s m args meth c cX2_sum 6 RX2) (hret : meth.sig.returnType = (some .int)) {x1 : Int32} {x3 : Int32} {x4 : Int32} {x5 : Int32} {t0 : Int32} {σ : kS} {r : ((Int32 × Int32) ⊕ ((Int32 × Int32) ⊕ Int32))} {o : Int32} (h : fX2_sum_100 x1 x3 x4 x5 t0 σ = some r) (hL4 : ∀ z, r = .inr (.inl z) → kG w p l e rmX2_sum s m args below meth c (MQ below (kQi w o σ) args s 0 0 (kA w)) 6 σ 4 [(0, .ref (kL w 126)), (1, .int x1), (2, .int (z.1)), (3, .int (z.2))] [] 0 0) (hL61 : ∀ z, r = .inl z → kG w p l e rmX2_sum s m args below meth c (MQ below (kQi w o σ) args s 0 0 (kA w)) 6 σ 61 [(0, .ref (kL w 126)), (1, .int x1), (2, .int (z.1)), (3, .int x3), (4, .int x4), (5, .int (z.2))] [] 0 0) (hO : ∀ z, r = .inr (.inr z) → z = o) : kG w p l e rmX2_sum s m args below meth c (MQ below (kQi w o σ) args s 0 0 (kA w)) 6 σ 100 [(0, .ref (kL w 126)), (1, .int x1), (3, .int x3), (4, .int x4), (5, .int x5)] [.int t0] 0 0 := by
  unfold fX2_sum_100 at h
  refine k_istore_n (lv' := [(2, .int t0), (0, .ref (kL w 126)), (1, .int x1), (3, .int x3), (4, .int x4), (5, .int x5)]) K dX2_sum_100 (by decide) rfl ?_
  refine k_iinc (v := 1) (lv' := [(5, .int (x5 + 1)), (2, .int t0), (0, .ref (kL w 126)), (1, .int x1), (3, .int x3), (4, .int x4)]) K dX2_sum_101 5 rfl (by decide) (by decide) rfl ?_
  refine k_goto K 61 dX2_sum_104 (by decide) ?_
  refine k_sub [2, 3, 1, 4, 5, 0] rfl ?_
  cases h
  exact hL61 _ rfl
set_option maxRecDepth 20000 in
theorem pX2_sum_61 (K : kC w p s m args meth c cX2_sum 6 RX2) (hret : meth.sig.returnType = (some .int)) {x1 : Int32} {x3 : Int32} {x4 : Int32} {σ : kS} {x2 : Int32} {x5 : Int32} {r : ((Int32 × Int32) ⊕ ((Int32 × Int32) ⊕ Int32))} {o : Int32} (h : gX2_sum_61 x1 x3 x4 σ x2 x5 = some r) (hL4 : ∀ z, r = .inr (.inl z) → kG w p l e rmX2_sum s m args below meth c (MQ below (kQi w o σ) args s 0 0 (kA w)) 6 σ 4 [(0, .ref (kL w 126)), (1, .int x1), (2, .int (z.1)), (3, .int (z.2))] [] 0 0) (hL61 : ∀ z, r = .inl z → kG w p l e rmX2_sum s m args below meth c (MQ below (kQi w o σ) args s 0 0 (kA w)) 6 σ 61 [(0, .ref (kL w 126)), (1, .int x1), (2, .int (z.1)), (3, .int x3), (4, .int x4), (5, .int (z.2))] [] 0 0) (hO : ∀ z, r = .inr (.inr z) → z = o) : kG w p l e rmX2_sum s m args below meth c (MQ below (kQi w o σ) args s 0 0 (kA w)) 6 σ 61 [(0, .ref (kL w 126)), (1, .int x1), (2, .int x2), (3, .int x3), (4, .int x4), (5, .int x5)] [] 0 0 := by
  unfold gX2_sum_61 at h
  refine k_iload K dX2_sum_61 5 rfl ?_
  refine k_bipush (v := 64) K dX2_sum_63 (by decide) ?_
  replace h := k_br h
  rcases h with ⟨b1, h⟩ | ⟨b1, h⟩
  · refine k_icmp_ge K 107 dX2_sum_65 (by decide) (fun _ => ?_) (fun q => absurd b1 q)
    refine k_sub [0, 1, 2, 3, 4] rfl ?_
    replace h := k_mp h
    obtain ⟨_, h, rfl⟩ := h
    exact pX2_sum_107 K hret h (fun z e => hL4 z (by rw [e])) (fun z e => hO z (by rw [e]))
  · refine k_icmp_ge K 107 dX2_sum_65 (by decide) (fun q => absurd q b1) (fun _ => ?_)
    refine k_iload_n K dX2_sum_68 1 rfl ?_
    refine k_iconst (v := 2) K dX2_sum_69 (by decide) ?_
    replace h := k_br h
    rcases h with ⟨b2, h⟩ | ⟨b2, h⟩
    · refine k_icmp_ne K 107 dX2_sum_70 (by decide) (fun q => absurd b2 q) (fun _ => ?_)
      refine k_iload K dX2_sum_73 4 rfl ?_
      replace h := k_br h
      rcases h with ⟨b3, h⟩ | ⟨b3, h⟩
      · refine k_if_eq K 107 dX2_sum_75 (by decide) (fun _ => ?_) (fun q => absurd b3 q)
        refine k_sub [0, 1, 2, 3, 4] rfl ?_
        replace h := k_mp h
        obtain ⟨_, h, rfl⟩ := h
        exact pX2_sum_107 K hret h (fun z e => hL4 z (by rw [e])) (fun z e => hO z (by rw [e]))
      · refine k_if_eq K 107 dX2_sum_75 (by decide) (fun q => absurd q b3) (fun _ => ?_)
        refine k_aload_n K dX2_sum_78 0 rfl ?_
        refine fg_X2_29 K dX2_sum_79 ?_
        refine k_bipush (v := 64) K dX2_sum_82 (by decide) ?_
        refine k_iload_n K dX2_sum_84 3 rfl ?_
        refine k_imul K dX2_sum_85 ?_
        refine k_iload K dX2_sum_86 5 rfl ?_
        refine k_iadd K dX2_sum_88 ?_
        replace h := k_gd h
        obtain ⟨g4, h⟩ := h
        refine k_iald K dX2_sum_89 kd_132 g4 ?_
        replace h := k_br h
        rcases h with ⟨b5, h⟩ | ⟨b5, h⟩
        · refine k_if_le K 99 dX2_sum_90 (by decide) (fun _ => ?_) (fun q => absurd b5 q)
          refine k_iload_n K dX2_sum_99 2 rfl ?_
          refine k_sub [0, 1, 3, 4, 5] rfl ?_
          exact pX2_sum_100 K hret h hL4 hL61 hO
        · refine k_if_le K 99 dX2_sum_90 (by decide) (fun q => absurd q b5) (fun _ => ?_)
          refine k_iload_n K dX2_sum_93 2 rfl ?_
          refine k_iconst (v := 1) K dX2_sum_94 (by decide) ?_
          refine k_iadd K dX2_sum_95 ?_
          refine k_goto K 100 dX2_sum_96 (by decide) ?_
          refine k_sub [0, 1, 3, 4, 5] rfl ?_
          exact pX2_sum_100 K hret h hL4 hL61 hO
    · refine k_icmp_ne K 107 dX2_sum_70 (by decide) (fun _ => ?_) (fun q => absurd q b2)
      refine k_sub [0, 1, 2, 3, 4] rfl ?_
      replace h := k_mp h
      obtain ⟨_, h, rfl⟩ := h
      exact pX2_sum_107 K hret h (fun z e => hL4 z (by rw [e])) (fun z e => hO z (by rw [e]))
set_option maxRecDepth 20000 in
theorem lX2_sum_61 (K : kC w p s m args meth c cX2_sum 6 RX2) (hret : meth.sig.returnType = (some .int)) {x1 : Int32} {x3 : Int32} {x4 : Int32} {σ : kS} {n : Nat} {a : Int32 × Int32} {r : ((Int32 × Int32) ⊕ Int32)} {o : Int32} (h : kit (fX2_sum_61 x1 x3 x4 σ) n a = some r) (hL4 : ∀ z, r = .inl z → kG w p l e rmX2_sum s m args below meth c (MQ below (kQi w o σ) args s 0 0 (kA w)) 6 σ 4 [(0, .ref (kL w 126)), (1, .int x1), (2, .int (z.1)), (3, .int (z.2))] [] 0 0) (hO : ∀ z, r = .inr z → z = o) : kG w p l e rmX2_sum s m args below meth c (MQ below (kQi w o σ) args s 0 0 (kA w)) 6 σ 61 [(0, .ref (kL w 126)), (1, .int x1), (2, .int (a.1)), (3, .int x3), (4, .int x4), (5, .int (a.2))] [] 0 0 :=
  kit_ind (body := fX2_sum_61 x1 x3 x4 σ) (fun a r => (∀ z, r = .inl z → kG w p l e rmX2_sum s m args below meth c (MQ below (kQi w o σ) args s 0 0 (kA w)) 6 σ 4 [(0, .ref (kL w 126)), (1, .int x1), (2, .int (z.1)), (3, .int (z.2))] [] 0 0) → (∀ z, r = .inr z → z = o) → kG w p l e rmX2_sum s m args below meth c (MQ below (kQi w o σ) args s 0 0 (kA w)) 6 σ 61 [(0, .ref (kL w 126)), (1, .int x1), (2, .int (a.1)), (3, .int x3), (4, .int x4), (5, .int (a.2))] [] 0 0) (fun a a2 r hb ih hL4 hO => pX2_sum_61 K hret hb (fun _ e => by cases e) (fun z e => by cases e; exact ih hL4 hO) (fun _ e => by cases e)) (fun a r hb hL4 hO => pX2_sum_61 K hret hb (fun z e => hL4 z (by cases e; rfl)) (fun _ e => by cases e) (fun z e => hO z (by cases e; rfl))) n a r h hL4 hO
set_option maxRecDepth 20000 in
theorem pX2_sum_56 (K : kC w p s m args meth c cX2_sum 6 RX2) (hret : meth.sig.returnType = (some .int)) {x1 : Int32} {x2 : Int32} {x3 : Int32} {t0 : Int32} {σ : kS} {r : ((Int32 × Int32) ⊕ Int32)} {o : Int32} (h : fX2_sum_56 x1 x2 x3 t0 σ = some r) (hL4 : ∀ z, r = .inl z → kG w p l e rmX2_sum s m args below meth c (MQ below (kQi w o σ) args s 0 0 (kA w)) 6 σ 4 [(0, .ref (kL w 126)), (1, .int x1), (2, .int (z.1)), (3, .int (z.2))] [] 0 0) (hO : ∀ z, r = .inr z → z = o) : kG w p l e rmX2_sum s m args below meth c (MQ below (kQi w o σ) args s 0 0 (kA w)) 6 σ 56 [(0, .ref (kL w 126)), (1, .int x1), (2, .int x2), (3, .int x3)] [.int t0] 0 0 := by
  unfold fX2_sum_56 at h
  refine k_istore (lv' := [(4, .int t0), (0, .ref (kL w 126)), (1, .int x1), (2, .int x2), (3, .int x3)]) K dX2_sum_56 (by decide) rfl ?_
  refine k_iconst (v := 0) K dX2_sum_58 (by decide) ?_
  refine k_istore (lv' := [(5, .int 0), (4, .int t0), (0, .ref (kL w 126)), (1, .int x1), (2, .int x2), (3, .int x3)]) K dX2_sum_59 (by decide) rfl ?_
  refine k_sub [2, 3, 4, 5, 1, 0] rfl ?_
  exact lX2_sum_61 K hret h hL4 hO
set_option maxRecDepth 20000 in
theorem pX2_sum_55 (K : kC w p s m args meth c cX2_sum 6 RX2) (hret : meth.sig.returnType = (some .int)) {x1 : Int32} {x2 : Int32} {x3 : Int32} {σ : kS} {r : ((Int32 × Int32) ⊕ Int32)} {o : Int32} (h : fX2_sum_55 x1 x2 x3 σ = some r) (hL4 : ∀ z, r = .inl z → kG w p l e rmX2_sum s m args below meth c (MQ below (kQi w o σ) args s 0 0 (kA w)) 6 σ 4 [(0, .ref (kL w 126)), (1, .int x1), (2, .int (z.1)), (3, .int (z.2))] [] 0 0) (hO : ∀ z, r = .inr z → z = o) : kG w p l e rmX2_sum s m args below meth c (MQ below (kQi w o σ) args s 0 0 (kA w)) 6 σ 55 [(0, .ref (kL w 126)), (1, .int x1), (2, .int x2), (3, .int x3)] [] 0 0 := by
  unfold fX2_sum_55 at h
  refine k_iconst (v := 0) K dX2_sum_55 (by decide) ?_
  exact pX2_sum_56 K hret h hL4 hO
set_option maxRecDepth 20000 in
theorem pX2_sum_33 (K : kC w p s m args meth c cX2_sum 6 RX2) (hret : meth.sig.returnType = (some .int)) {x1 : Int32} {x3 : Int32} {t0 : Int32} {σ : kS} {r : ((Int32 × Int32) ⊕ Int32)} {o : Int32} (h : fX2_sum_33 x1 x3 t0 σ = some r) (hL4 : ∀ z, r = .inl z → kG w p l e rmX2_sum s m args below meth c (MQ below (kQi w o σ) args s 0 0 (kA w)) 6 σ 4 [(0, .ref (kL w 126)), (1, .int x1), (2, .int (z.1)), (3, .int (z.2))] [] 0 0) (hO : ∀ z, r = .inr z → z = o) : kG w p l e rmX2_sum s m args below meth c (MQ below (kQi w o σ) args s 0 0 (kA w)) 6 σ 33 [(0, .ref (kL w 126)), (1, .int x1), (3, .int x3)] [.int t0] 0 0 := by
  unfold fX2_sum_33 at h
  refine k_istore_n (lv' := [(2, .int t0), (0, .ref (kL w 126)), (1, .int x1), (3, .int x3)]) K dX2_sum_33 (by decide) rfl ?_
  refine k_aload_n K dX2_sum_34 1 rfl ?_
  refine fg_X2_13 K dX2_sum_35 ?_
  refine k_iload_n K dX2_sum_38 3 rfl ?_
  replace h := k_gd h
  obtain ⟨g1, h⟩ := h
  refine k_iald K dX2_sum_39 kd_127 g1 ?_
  refine k_iconst (v := 1) K dX2_sum_40 (by decide) ?_
  replace h := k_br h
  rcases h with ⟨b2, h⟩ | ⟨b2, h⟩
  · refine k_icmp_ne K 55 dX2_sum_41 (by decide) (fun q => absurd b2 q) (fun _ => ?_)
    refine k_aload_n K dX2_sum_44 1 rfl ?_
    refine fg_X2_54 K dX2_sum_45 ?_
    replace h := k_br h
    rcases h with ⟨b3, h⟩ | ⟨b3, h⟩
    · refine k_if_eq K 55 dX2_sum_48 (by decide) (fun _ => ?_) (fun q => absurd b3 q)
      refine k_sub [1, 2, 0, 3] rfl ?_
      exact pX2_sum_55 K hret h hL4 hO
    · refine k_if_eq K 55 dX2_sum_48 (by decide) (fun q => absurd q b3) (fun _ => ?_)
      refine k_iconst (v := 1) K dX2_sum_51 (by decide) ?_
      refine k_goto K 56 dX2_sum_52 (by decide) ?_
      refine k_sub [1, 2, 0, 3] rfl ?_
      exact pX2_sum_56 K hret h hL4 hO
  · refine k_icmp_ne K 55 dX2_sum_41 (by decide) (fun _ => ?_) (fun q => absurd q b2)
    refine k_sub [1, 2, 0, 3] rfl ?_
    exact pX2_sum_55 K hret h hL4 hO
set_option maxRecDepth 20000 in
theorem pX2_sum_32 (K : kC w p s m args meth c cX2_sum 6 RX2) (hret : meth.sig.returnType = (some .int)) {x1 : Int32} {x2 : Int32} {x3 : Int32} {σ : kS} {r : ((Int32 × Int32) ⊕ Int32)} {o : Int32} (h : fX2_sum_32 x1 x2 x3 σ = some r) (hL4 : ∀ z, r = .inl z → kG w p l e rmX2_sum s m args below meth c (MQ below (kQi w o σ) args s 0 0 (kA w)) 6 σ 4 [(0, .ref (kL w 126)), (1, .int x1), (2, .int (z.1)), (3, .int (z.2))] [] 0 0) (hO : ∀ z, r = .inr z → z = o) : kG w p l e rmX2_sum s m args below meth c (MQ below (kQi w o σ) args s 0 0 (kA w)) 6 σ 32 [(0, .ref (kL w 126)), (1, .int x1), (2, .int x2), (3, .int x3)] [] 0 0 := by
  unfold fX2_sum_32 at h
  refine k_iload_n K dX2_sum_32 2 rfl ?_
  refine k_sub [0, 1, 3] rfl ?_
  exact pX2_sum_33 K hret h hL4 hO
set_option maxRecDepth 20000 in
theorem pX2_sum_4 (K : kC w p s m args meth c cX2_sum 6 RX2) (hret : meth.sig.returnType = (some .int)) {x1 : Int32} {σ : kS} {x2 : Int32} {x3 : Int32} {r : ((Int32 × Int32) ⊕ Int32)} {o : Int32} (h : gX2_sum_4 x1 σ x2 x3 = some r) (hL4 : ∀ z, r = .inl z → kG w p l e rmX2_sum s m args below meth c (MQ below (kQi w o σ) args s 0 0 (kA w)) 6 σ 4 [(0, .ref (kL w 126)), (1, .int x1), (2, .int (z.1)), (3, .int (z.2))] [] 0 0) (hO : ∀ z, r = .inr z → z = o) : kG w p l e rmX2_sum s m args below meth c (MQ below (kQi w o σ) args s 0 0 (kA w)) 6 σ 4 [(0, .ref (kL w 126)), (1, .int x1), (2, .int x2), (3, .int x3)] [] 0 0 := by
  unfold gX2_sum_4 at h
  refine k_iload_n K dX2_sum_4 3 rfl ?_
  refine k_sipush (v := 256) K dX2_sum_5 (by decide) ?_
  replace h := k_br h
  rcases h with ⟨b1, h⟩ | ⟨b1, h⟩
  · refine k_icmp_ge K 229 dX2_sum_8 (by decide) (fun _ => ?_) (fun q => absurd b1 q)
    refine k_iload_n K dX2_sum_229 2 rfl ?_
    cases h
    obtain rfl := hO _ rfl
    exact k_iret K hret dX2_sum_230 (by decide) (by decide)
  · refine k_icmp_ge K 229 dX2_sum_8 (by decide) (fun q => absurd q b1) (fun _ => ?_)
    refine k_iload_n K dX2_sum_11 1 rfl ?_
    refine k_iconst (v := 1) K dX2_sum_12 (by decide) ?_
    replace h := k_br h
    rcases h with ⟨b2, h⟩ | ⟨b2, h⟩
    · refine k_icmp_ne K 32 dX2_sum_13 (by decide) (fun q => absurd b2 q) (fun _ => ?_)
      refine k_aload_n K dX2_sum_16 0 rfl ?_
      refine fg_X2_13 K dX2_sum_17 ?_
      refine k_iload_n K dX2_sum_20 3 rfl ?_
      replace h := k_gd h
      obtain ⟨g3, h⟩ := h
      refine k_iald K dX2_sum_21 kd_127 g3 ?_
      refine k_iconst (v := 2) K dX2_sum_22 (by decide) ?_
      replace h := k_br h
      rcases h with ⟨b4, h⟩ | ⟨b4, h⟩
      · refine k_icmp_ne K 32 dX2_sum_23 (by decide) (fun q => absurd b4 q) (fun _ => ?_)
        refine k_iload_n K dX2_sum_26 2 rfl ?_
        refine k_iconst (v := 1) K dX2_sum_27 (by decide) ?_
        refine k_iadd K dX2_sum_28 ?_
        refine k_goto K 33 dX2_sum_29 (by decide) ?_
        refine k_sub [0, 1, 3] rfl ?_
        exact pX2_sum_33 K hret h hL4 hO
      · refine k_icmp_ne K 32 dX2_sum_23 (by decide) (fun _ => ?_) (fun q => absurd q b4)
        exact pX2_sum_32 K hret h hL4 hO
    · refine k_icmp_ne K 32 dX2_sum_13 (by decide) (fun _ => ?_) (fun q => absurd q b2)
      exact pX2_sum_32 K hret h hL4 hO
set_option maxRecDepth 20000 in
theorem lX2_sum_4 (K : kC w p s m args meth c cX2_sum 6 RX2) (hret : meth.sig.returnType = (some .int)) {x1 : Int32} {σ : kS} {n : Nat} {a : Int32 × Int32} {r : Int32} {o : Int32} (h : kit (fX2_sum_4 x1 σ) n a = some r) (hO : ∀ z, r = z → z = o) : kG w p l e rmX2_sum s m args below meth c (MQ below (kQi w o σ) args s 0 0 (kA w)) 6 σ 4 [(0, .ref (kL w 126)), (1, .int x1), (2, .int (a.1)), (3, .int (a.2))] [] 0 0 :=
  kit_ind (body := fX2_sum_4 x1 σ) (fun a r => (∀ z, r = z → z = o) → kG w p l e rmX2_sum s m args below meth c (MQ below (kQi w o σ) args s 0 0 (kA w)) 6 σ 4 [(0, .ref (kL w 126)), (1, .int x1), (2, .int (a.1)), (3, .int (a.2))] [] 0 0) (fun a a2 r hb ih hO => pX2_sum_4 K hret hb (fun z e => by cases e; exact ih hO) (fun _ e => by cases e)) (fun a r hb hO => pX2_sum_4 K hret hb (fun _ e => by cases e) (fun z e => hO z (by cases e; rfl))) n a r h hO
set_option maxRecDepth 20000 in
theorem mX2_sum (l : Launch) (w : kW) (σ : kS) (x1 : Int32) {o : Int32} (h : fX2_sum σ x1 = some o) : Met l yX2_sum (Cond.code yX2_sum cX2_sum 6 (some .int) :: TB) rmX2_sum (va_Pc [.ref (kL w 126), .int x1] (kP w σ)) (kQi w o σ) 0 0 (kA w) := by
  refine k_met (by decide +kernel) [.ref (kL w 126), .int x1] (Nat.le_of_ble_eq_true rfl) (by simp [lv_args, Value.category]) ?_
  intro p e s m args below meth c K hret
  have K : kC w p s m args meth c cX2_sum 6 RX2 := K
  obtain ⟨r, hro⟩ : ∃ r, r = o := ⟨o, rfl⟩
  rw [← hro] at h
  have hO : ∀ z, r = z → z = o := fun z e => by rw [← e]; exact hro
  unfold fX2_sum at h
  refine k_iconst (v := 0) K dX2_sum_0 (by decide) ?_
  refine k_istore_n (lv' := [(2, .int 0), (0, .ref (kL w 126)), (1, .int x1)]) K dX2_sum_1 (by decide) rfl ?_
  refine k_iconst (v := 0) K dX2_sum_2 (by decide) ?_
  refine k_istore_n (lv' := [(3, .int 0), (2, .int 0), (0, .ref (kL w 126)), (1, .int x1)]) K dX2_sum_3 (by decide) rfl ?_
  refine k_sub [2, 3, 1, 0] rfl ?_
  exact lX2_sum_4 K hret h hO
end F_X2_sum
section C_X2_sum
variable {w : kW} {p : Program} {l : Launch} {e : Env} {R : Room} {s : State} {m : MethodId} {args : Array Value} {below : List Frame} {meth : Method} {c : Code} {Q : State → Prop} {cc : ByteArray} {nL : Nat} {σ : kS} {pc : Nat} {lv : List (Nat × Value)} {st rest : List Value} {cells slots : Nat}
theorem cl_X2_148 (K : kC w p s m args meth c cc nL RX2) {a1 : Int32} {r : Int32} (d : decode cc pc = .ok (.invokevirtual 148, 3)) (h : fX2_sum σ a1 = some r) (hR : rmX2_sum.frames + 1 ≤ R.frames ∧ 8 + (6 + 11) + rmX2_sum.locals ≤ R.locals) (hr : (rest.map fun v => v.category).sum ≤ 8) (hf : cells + 0 ≤ R.cells ∧ slots + 0 ≤ R.slots) (kk : kG w p l e R s m args below meth c Q nL σ (pc + 3) lv (.int r :: rest) (cells + 0) (slots + 0)) : kG w p l e R s m args below meth c Q nL σ pc lv (.int a1 :: .ref (kL w 126) :: rest) cells slots :=
  k_callVi (As := [.int a1]) (rest := rest) (n := 1) (C := RX2) (T := TX2) K d kd_126 rfl (kg_V tw_772 tw_774 tw_46 tw_50 tw_775) rfl (by decide +kernel) rfl hR hr rfl hf (mX2_sum l w σ a1 h) ⟨rfl, rfl⟩ kk
end C_X2_sum
section F_X2_count
variable {w : kW} {p : Program} {l : Launch} {e : Env} {s : State} {m : MethodId} {args : Array Value} {below : List Frame} {meth : Method} {c : Code}
def fX2_count_16 (x1 : Int32) (t1 : Int32) (σ : kS) : Option (Int32 × kS) :=
  (fX2_goes σ t1 1 1).bind fun r1 =>
  if r1.1 = 0 then
    some ((0, r1.2))
  else
    if x1 = 0 then
      (fX2_many r1.2).bind fun r4 =>
      some ((r4, r1.2))
    else
    if x1 = 1 then
      (fX2_sum r1.2 x1).bind fun r5 =>
      some ((r5, r1.2))
    else
    if x1 = 2 then
      (fX2_sum r1.2 x1).bind fun r6 =>
      some ((r6, r1.2))
    else
    if x1 = 3 then
      (fX2_sum r1.2 x1).bind fun r7 =>
      some ((r7, r1.2))
    else
    if x1 = 4 then
      (fX2_sum r1.2 x1).bind fun r8 =>
      some ((r8, r1.2))
    else
    if x1 = 5 then
      if ((r1.2).1 126 2) = 0 then
        some ((0, r1.2))
      else
        some ((1, r1.2))
    else
    if x1 = 6 then
      some (((r1.2).1 126 13, r1.2))
    else
    if x1 = 7 then
      some (((r1.2).1 126 14, r1.2))
    else
    (fX2_sum r1.2 x1).bind fun r10 =>
    some ((r10, r1.2))
def fX2_count_15 (x1 : Int32) (σ : kS) : Option (Int32 × kS) :=
  fX2_count_16 x1 0 σ
def fX2_count (σ : kS) (x1 : Int32) : Option (Int32 × kS) :=
  if x1 < 0 then
    fX2_count_15 x1 σ
  else
    if 7 < x1 then
      fX2_count_15 x1 σ
    else
      fX2_count_16 x1 1 σ
def rmX2_count : Room := { frames := 4, cells := 0, slots := 0, locals := 88 }
set_option maxRecDepth 20000 in
theorem pX2_count_16 (K : kC w p s m args meth c cX2_count 2 RX2) (hret : meth.sig.returnType = (some .int)) {x1 : Int32} {t1 : Int32} {σ : kS} {r : (Int32 × kS)} {o : (Int32 × kS)} (h : fX2_count_16 x1 t1 σ = some r) (hO : ∀ z, r = z → z = o) : kG w p l e rmX2_count s m args below meth c (MQ below (kQi w o.1 o.2) args s 0 0 (kA w)) 2 σ 16 [(0, .ref (kL w 126)), (1, .int x1)] [.int t1, .ref (kL w 126)] 0 0 := by
  unfold fX2_count_16 at h
  refine k_iconst (v := 1) K dX2_count_16 (by decide) ?_
  refine k_iconst (v := 1) K dX2_count_17 (by decide) ?_
  replace h := k_bd h
  obtain ⟨r1, hr1, h⟩ := h
  refine cl_X2_69 K dX2_count_18 hr1 (by decide) (Nat.le_of_ble_eq_true rfl) (by decide) ?_
  replace h := k_br h
  rcases h with ⟨b2, h⟩ | ⟨b2, h⟩
  · refine k_if_ne K 26 dX2_count_21 (by decide) (fun q => absurd b2 q) (fun _ => ?_)
    refine k_iconst (v := 0) K dX2_count_24 (by decide) ?_
    cases h
    obtain rfl := hO _ rfl
    exact k_iret (v := 0) K hret dX2_count_25 (by decide) (by decide)
  · refine k_if_ne K 26 dX2_count_21 (by decide) (fun _ => ?_) (fun q => absurd q b2)
    refine k_iload_n K dX2_count_26 1 rfl ?_
    replace h := k_br h
    rcases h with ⟨b3_0, h⟩ | ⟨b3_0, h⟩
    · refine k_tableIn (off := 45) K 72 dX2_count_27 (by rw [b3_0]; decide) (by rw [b3_0]; decide) (by rw [b3_0]; decide) (by decide) ?_
      refine k_aload_n K dX2_count_72 0 rfl ?_
      replace h := k_bd h
      obtain ⟨r4, hr4, h⟩ := h
      refine cl_X2_65 K dX2_count_73 hr4 (by decide) (Nat.le_of_ble_eq_true rfl) (by decide) ?_
      cases h
      obtain rfl := hO _ rfl
      exact k_iret K hret dX2_count_76 (by decide) (by decide)
    replace h := k_br h
    rcases h with ⟨b3_1, h⟩ | ⟨b3_1, h⟩
    · refine k_tableIn (off := 73) K 100 dX2_count_27 (by rw [b3_1]; decide) (by rw [b3_1]; decide) (by rw [b3_1]; decide) (by decide) ?_
      refine k_aload_n K dX2_count_100 0 rfl ?_
      refine k_iload_n K dX2_count_101 1 rfl ?_
      replace h := k_bd h
      obtain ⟨r5, hr5, h⟩ := h
      refine cl_X2_148 K dX2_count_102 hr5 (by decide) (Nat.le_of_ble_eq_true rfl) (by decide) ?_
      cases h
      obtain rfl := hO _ rfl
      exact k_iret K hret dX2_count_105 (by decide) (by decide)
    replace h := k_br h
    rcases h with ⟨b3_2, h⟩ | ⟨b3_2, h⟩
    · refine k_tableIn (off := 73) K 100 dX2_count_27 (by rw [b3_2]; decide) (by rw [b3_2]; decide) (by rw [b3_2]; decide) (by decide) ?_
      refine k_aload_n K dX2_count_100 0 rfl ?_
      refine k_iload_n K dX2_count_101 1 rfl ?_
      replace h := k_bd h
      obtain ⟨r6, hr6, h⟩ := h
      refine cl_X2_148 K dX2_count_102 hr6 (by decide) (Nat.le_of_ble_eq_true rfl) (by decide) ?_
      cases h
      obtain rfl := hO _ rfl
      exact k_iret K hret dX2_count_105 (by decide) (by decide)
    replace h := k_br h
    rcases h with ⟨b3_3, h⟩ | ⟨b3_3, h⟩
    · refine k_tableIn (off := 73) K 100 dX2_count_27 (by rw [b3_3]; decide) (by rw [b3_3]; decide) (by rw [b3_3]; decide) (by decide) ?_
      refine k_aload_n K dX2_count_100 0 rfl ?_
      refine k_iload_n K dX2_count_101 1 rfl ?_
      replace h := k_bd h
      obtain ⟨r7, hr7, h⟩ := h
      refine cl_X2_148 K dX2_count_102 hr7 (by decide) (Nat.le_of_ble_eq_true rfl) (by decide) ?_
      cases h
      obtain rfl := hO _ rfl
      exact k_iret K hret dX2_count_105 (by decide) (by decide)
    replace h := k_br h
    rcases h with ⟨b3_4, h⟩ | ⟨b3_4, h⟩
    · refine k_tableIn (off := 73) K 100 dX2_count_27 (by rw [b3_4]; decide) (by rw [b3_4]; decide) (by rw [b3_4]; decide) (by decide) ?_
      refine k_aload_n K dX2_count_100 0 rfl ?_
      refine k_iload_n K dX2_count_101 1 rfl ?_
      replace h := k_bd h
      obtain ⟨r8, hr8, h⟩ := h
      refine cl_X2_148 K dX2_count_102 hr8 (by decide) (Nat.le_of_ble_eq_true rfl) (by decide) ?_
      cases h
      obtain rfl := hO _ rfl
      exact k_iret K hret dX2_count_105 (by decide) (by decide)
    replace h := k_br h
    rcases h with ⟨b3_5, h⟩ | ⟨b3_5, h⟩
    · refine k_tableIn (off := 50) K 77 dX2_count_27 (by rw [b3_5]; decide) (by rw [b3_5]; decide) (by rw [b3_5]; decide) (by decide) ?_
      refine k_aload_n K dX2_count_77 0 rfl ?_
      refine fg_X2_54 K dX2_count_78 ?_
      replace h := k_br h
      rcases h with ⟨b9, h⟩ | ⟨b9, h⟩
      · refine k_if_eq K 88 dX2_count_81 (by decide) (fun _ => ?_) (fun q => absurd b9 q)
        refine k_iconst (v := 0) K dX2_count_88 (by decide) ?_
        cases h
        obtain rfl := hO _ rfl
        exact k_iret (v := 0) K hret dX2_count_89 (by decide) (by decide)
      · refine k_if_eq K 88 dX2_count_81 (by decide) (fun q => absurd q b9) (fun _ => ?_)
        refine k_iconst (v := 1) K dX2_count_84 (by decide) ?_
        refine k_goto K 89 dX2_count_85 (by decide) ?_
        cases h
        obtain rfl := hO _ rfl
        exact k_iret (v := 1) K hret dX2_count_89 (by decide) (by decide)
    replace h := k_br h
    rcases h with ⟨b3_6, h⟩ | ⟨b3_6, h⟩
    · refine k_tableIn (off := 63) K 90 dX2_count_27 (by rw [b3_6]; decide) (by rw [b3_6]; decide) (by rw [b3_6]; decide) (by decide) ?_
      refine k_aload_n K dX2_count_90 0 rfl ?_
      refine fg_X2_142 K dX2_count_91 ?_
      cases h
      obtain rfl := hO _ rfl
      exact k_iret (v := (r1.2).1 126 13) K hret dX2_count_94 (by decide) (by decide)
    replace h := k_br h
    rcases h with ⟨b3_7, h⟩ | ⟨b3_7, h⟩
    · refine k_tableIn (off := 68) K 95 dX2_count_27 (by rw [b3_7]; decide) (by rw [b3_7]; decide) (by rw [b3_7]; decide) (by decide) ?_
      refine k_aload_n K dX2_count_95 0 rfl ?_
      refine fg_X2_98 K dX2_count_96 ?_
      cases h
      obtain rfl := hO _ rfl
      exact k_iret (v := (r1.2).1 126 14) K hret dX2_count_99 (by decide) (by decide)
    refine k_tableOut K 100 dX2_count_27 (by decide) (k_out8 b3_0 b3_1 b3_2 b3_3 b3_4 b3_5 b3_6 b3_7) ?_
    refine k_aload_n K dX2_count_100 0 rfl ?_
    refine k_iload_n K dX2_count_101 1 rfl ?_
    replace h := k_bd h
    obtain ⟨r10, hr10, h⟩ := h
    refine cl_X2_148 K dX2_count_102 hr10 (by decide) (Nat.le_of_ble_eq_true rfl) (by decide) ?_
    cases h
    obtain rfl := hO _ rfl
    exact k_iret K hret dX2_count_105 (by decide) (by decide)
set_option maxRecDepth 20000 in
theorem pX2_count_15 (K : kC w p s m args meth c cX2_count 2 RX2) (hret : meth.sig.returnType = (some .int)) {x1 : Int32} {σ : kS} {r : (Int32 × kS)} {o : (Int32 × kS)} (h : fX2_count_15 x1 σ = some r) (hO : ∀ z, r = z → z = o) : kG w p l e rmX2_count s m args below meth c (MQ below (kQi w o.1 o.2) args s 0 0 (kA w)) 2 σ 15 [(0, .ref (kL w 126)), (1, .int x1)] [.ref (kL w 126)] 0 0 := by
  unfold fX2_count_15 at h
  refine k_iconst (v := 0) K dX2_count_15 (by decide) ?_
  exact pX2_count_16 K hret h hO
set_option maxRecDepth 20000 in
theorem mX2_count (l : Launch) (w : kW) (σ : kS) (x1 : Int32) {o : (Int32 × kS)} (h : fX2_count σ x1 = some o) : Met l yX2_count (Cond.code yX2_count cX2_count 2 (some .int) :: TB) rmX2_count (va_Pc [.ref (kL w 126), .int x1] (kP w σ)) (kQi w o.1 o.2) 0 0 (kA w) := by
  refine k_met (by decide +kernel) [.ref (kL w 126), .int x1] (Nat.le_of_ble_eq_true rfl) (by simp [lv_args, Value.category]) ?_
  intro p e s m args below meth c K hret
  have K : kC w p s m args meth c cX2_count 2 RX2 := K
  obtain ⟨r, hro⟩ : ∃ r, r = o := ⟨o, rfl⟩
  rw [← hro] at h
  have hO : ∀ z, r = z → z = o := fun z e => by rw [← e]; exact hro
  unfold fX2_count at h
  refine k_aload_n K dX2_count_0 0 rfl ?_
  refine k_iload_n K dX2_count_1 1 rfl ?_
  replace h := k_br h
  rcases h with ⟨b1, h⟩ | ⟨b1, h⟩
  · refine k_if_lt K 15 dX2_count_2 (by decide) (fun _ => ?_) (fun q => absurd b1 q)
    exact pX2_count_15 K hret h hO
  · refine k_if_lt K 15 dX2_count_2 (by decide) (fun q => absurd q b1) (fun _ => ?_)
    refine k_iload_n K dX2_count_5 1 rfl ?_
    refine k_bipush (v := 7) K dX2_count_6 (by decide) ?_
    replace h := k_br h
    rcases h with ⟨b2, h⟩ | ⟨b2, h⟩
    · refine k_icmp_gt K 15 dX2_count_8 (by decide) (fun _ => ?_) (fun q => absurd b2 q)
      exact pX2_count_15 K hret h hO
    · refine k_icmp_gt K 15 dX2_count_8 (by decide) (fun q => absurd q b2) (fun _ => ?_)
      refine k_iconst (v := 1) K dX2_count_11 (by decide) ?_
      refine k_goto K 16 dX2_count_12 (by decide) ?_
      exact pX2_count_16 K hret h hO
end F_X2_count
section F_X2_lookFor
variable {w : kW} {p : Program} {l : Launch} {e : Env} {s : State} {m : MethodId} {args : Array Value} {below : List Frame} {meth : Method} {c : Code}
def gX2_lookFor_84 (x2 : Int32) (x3 : Int32) (σ : kS) (x5 : Int32) (x6 : Int32) : Option ((Int32 × Int32) ⊕ ((Int32 × kS) ⊕ (Int32 × kS))) :=
  if (σ.1 126 1) ≤ x6 then
    if vpi (σ.1 126 12) 64 then
      some (.inr (.inl (x5, sI (sI (sI σ 136 (σ.1 126 12).toNatClampNeg x5) 126 12 (((sI σ 136 (σ.1 126 12).toNatClampNeg x5).1 126 12) + 1)) 126 14 (((sI (sI σ 136 (σ.1 126 12).toNatClampNeg x5) 126 12 (((sI σ 136 (σ.1 126 12).toNatClampNeg x5).1 126 12) + 1)).1 126 14) + 1))))
    else none
  else
    if vpi ((4 * x3) + x6) 1024 then
      (fX2_later σ x3 x2 x5 (σ.1 128 ((4 * x3) + x6).toNatClampNeg)).bind fun r4 =>
      some (.inl (r4, x6 + 1))
    else none
def fX2_lookFor_84 (x2 : Int32) (x3 : Int32) (σ : kS) (a : Int32 × Int32) : Option ((Int32 × Int32) ⊕ ((Int32 × kS) ⊕ (Int32 × kS))) := gX2_lookFor_84 x2 x3 σ a.1 a.2
def gX2_lookFor_46 (x2 : Int32) (x3 : Int32) (σ : kS) (x5 : Int32) (x6 : Int32) : Option ((Int32 × Int32) ⊕ ((Int32 × kS) ⊕ (Int32 × kS))) :=
  if 8 ≤ x6 then
    (kit (fX2_lookFor_84 x2 x3 σ) 300 (x5, 0)).map .inr
  else
    if vpi ((8 * x3) + x6) 2048 then
      (fX2_later σ x3 x2 x5 (σ.1 130 ((8 * x3) + x6).toNatClampNeg)).bind fun r3 =>
      some (.inl (r3, x6 + 1))
    else none
def fX2_lookFor_46 (x2 : Int32) (x3 : Int32) (σ : kS) (a : Int32 × Int32) : Option ((Int32 × Int32) ⊕ ((Int32 × kS) ⊕ (Int32 × kS))) := gX2_lookFor_46 x2 x3 σ a.1 a.2
def gX2_lookFor_7 (x2 : Int32) (x3 : Int32) (σ : kS) : Option ((Int32 × kS) ⊕ (Int32 × kS)) :=
  (fX2_successor σ x3).bind fun r1 =>
  if x2 = x3 then
    some (.inr ((x3, σ)))
  else
    if x2 = r1 then
      some (.inr ((r1, σ)))
    else
      (fX2_between x2 x3 r1).bind fun r4 =>
      if r4 = 0 then
        kit (fX2_lookFor_46 x2 x3 σ) 300 ((-1), 0)
      else
        some (.inr ((r1, σ)))
def fX2_lookFor_7 (x2 : Int32) (a : Int32 × kS) : Option ((Int32 × kS) ⊕ (Int32 × kS)) := gX2_lookFor_7 x2 a.1 a.2
def fX2_lookFor (σ : kS) (x1 : Int32) (x2 : Int32) : Option (Int32 × kS) :=
  kit (fX2_lookFor_7 x2) 300 (x1, sI σ 126 12 0)
def rmX2_lookFor : Room := { frames := 3, cells := 0, slots := 0, locals := 67 }
set_option maxRecDepth 20000 in
theorem pX2_lookFor_84 (K : kC w p s m args meth c cX2_lookFor 7 RX2) (hret : meth.sig.returnType = (some .int)) {x2 : Int32} {x3 : Int32} {σ : kS} {x5 : Int32} {x6 : Int32} {r : ((Int32 × Int32) ⊕ ((Int32 × kS) ⊕ (Int32 × kS)))} {o : (Int32 × kS)} (h : gX2_lookFor_84 x2 x3 σ x5 x6 = some r) (hL7 : ∀ z, r = .inr (.inl z) → kG w p l e rmX2_lookFor s m args below meth c (MQ below (kQi w o.1 o.2) args s 0 0 (kA w)) 7 z.2 7 [(0, .ref (kL w 126)), (2, .int x2), (3, .int (z.1))] [] 0 0) (hL84 : ∀ z, r = .inl z → kG w p l e rmX2_lookFor s m args below meth c (MQ below (kQi w o.1 o.2) args s 0 0 (kA w)) 7 σ 84 [(0, .ref (kL w 126)), (2, .int x2), (3, .int x3), (5, .int (z.1)), (6, .int (z.2))] [] 0 0) (hO : ∀ z, r = .inr (.inr z) → z = o) : kG w p l e rmX2_lookFor s m args below meth c (MQ below (kQi w o.1 o.2) args s 0 0 (kA w)) 7 σ 84 [(0, .ref (kL w 126)), (2, .int x2), (3, .int x3), (5, .int x5), (6, .int x6)] [] 0 0 := by
  unfold gX2_lookFor_84 at h
  refine k_iload K dX2_lookFor_84 4 rfl ?_
  refine k_aload_n K dX2_lookFor_86 0 rfl ?_
  refine fg_X2_7 K dX2_lookFor_87 ?_
  replace h := k_br h
  rcases h with ⟨b1, h⟩ | ⟨b1, h⟩
  · refine k_icmp_ge K 120 dX2_lookFor_90 (by decide) (fun _ => ?_) (fun q => absurd b1 q)
    refine k_iload K dX2_lookFor_120 3 rfl ?_
    refine k_istore_n (lv' := [(3, .int x5), (0, .ref (kL w 126)), (2, .int x2), (5, .int x5), (6, .int x6)]) K dX2_lookFor_122 (by decide) rfl ?_
    refine k_aload_n K dX2_lookFor_123 1 rfl ?_
    refine fg_X2_41 K dX2_lookFor_124 ?_
    refine k_aload_n K dX2_lookFor_127 1 rfl ?_
    refine fg_X2_88 K dX2_lookFor_128 ?_
    refine k_iload_n K dX2_lookFor_131 0 rfl ?_
    replace h := k_gd h
    obtain ⟨g2, h⟩ := h
    refine k_iast K dX2_lookFor_132 kd_136 g2 ?_
    refine k_aload_n K dX2_lookFor_133 1 rfl ?_
    refine k_dup K dX2_lookFor_134 rfl ?_
    refine fg_X2_88 K dX2_lookFor_135 ?_
    refine k_iconst (v := 1) K dX2_lookFor_138 (by decide) ?_
    refine k_iadd K dX2_lookFor_139 ?_
    refine fp_X2_88 K dX2_lookFor_140 ?_
    refine k_aload_n K dX2_lookFor_143 1 rfl ?_
    refine k_dup K dX2_lookFor_144 rfl ?_
    refine fg_X2_98 K dX2_lookFor_145 ?_
    refine k_iconst (v := 1) K dX2_lookFor_148 (by decide) ?_
    refine k_iadd K dX2_lookFor_149 ?_
    refine fp_X2_98 K dX2_lookFor_150 ?_
    refine k_goto K 7 dX2_lookFor_153 (by decide) ?_
    refine k_sub [1, 2, 0] rfl ?_
    cases h
    exact hL7 _ rfl
  · refine k_icmp_ge K 120 dX2_lookFor_90 (by decide) (fun q => absurd q b1) (fun _ => ?_)
    refine k_aload_n K dX2_lookFor_93 0 rfl ?_
    refine k_iload_n K dX2_lookFor_94 2 rfl ?_
    refine k_iload_n K dX2_lookFor_95 1 rfl ?_
    refine k_iload K dX2_lookFor_96 3 rfl ?_
    refine k_aload_n K dX2_lookFor_98 0 rfl ?_
    refine fg_X2_17 K dX2_lookFor_99 ?_
    refine k_iconst (v := 4) K dX2_lookFor_102 (by decide) ?_
    refine k_iload_n K dX2_lookFor_103 2 rfl ?_
    refine k_imul K dX2_lookFor_104 ?_
    refine k_iload K dX2_lookFor_105 4 rfl ?_
    refine k_iadd K dX2_lookFor_107 ?_
    replace h := k_gd h
    obtain ⟨g3, h⟩ := h
    refine k_iald K dX2_lookFor_108 kd_128 g3 ?_
    replace h := k_bd h
    obtain ⟨r4, hr4, h⟩ := h
    refine cl_X2_94 K dX2_lookFor_109 hr4 (by decide) (Nat.le_of_ble_eq_true rfl) (by decide) ?_
    refine k_istore (lv' := [(5, .int r4), (0, .ref (kL w 126)), (2, .int x2), (3, .int x3), (6, .int x6)]) K dX2_lookFor_112 (by decide) rfl ?_
    refine k_iinc (v := 1) (lv' := [(6, .int (x6 + 1)), (5, .int r4), (0, .ref (kL w 126)), (2, .int x2), (3, .int x3)]) K dX2_lookFor_114 4 rfl (by decide) (by decide) rfl ?_
    refine k_goto K 84 dX2_lookFor_117 (by decide) ?_
    refine k_sub [2, 3, 4, 1, 0] rfl ?_
    cases h
    exact hL84 _ rfl
set_option maxRecDepth 20000 in
theorem lX2_lookFor_84 (K : kC w p s m args meth c cX2_lookFor 7 RX2) (hret : meth.sig.returnType = (some .int)) {x2 : Int32} {x3 : Int32} {σ : kS} {n : Nat} {a : Int32 × Int32} {r : ((Int32 × kS) ⊕ (Int32 × kS))} {o : (Int32 × kS)} (h : kit (fX2_lookFor_84 x2 x3 σ) n a = some r) (hL7 : ∀ z, r = .inl z → kG w p l e rmX2_lookFor s m args below meth c (MQ below (kQi w o.1 o.2) args s 0 0 (kA w)) 7 z.2 7 [(0, .ref (kL w 126)), (2, .int x2), (3, .int (z.1))] [] 0 0) (hO : ∀ z, r = .inr z → z = o) : kG w p l e rmX2_lookFor s m args below meth c (MQ below (kQi w o.1 o.2) args s 0 0 (kA w)) 7 σ 84 [(0, .ref (kL w 126)), (2, .int x2), (3, .int x3), (5, .int (a.1)), (6, .int (a.2))] [] 0 0 :=
  kit_ind (body := fX2_lookFor_84 x2 x3 σ) (fun a r => (∀ z, r = .inl z → kG w p l e rmX2_lookFor s m args below meth c (MQ below (kQi w o.1 o.2) args s 0 0 (kA w)) 7 z.2 7 [(0, .ref (kL w 126)), (2, .int x2), (3, .int (z.1))] [] 0 0) → (∀ z, r = .inr z → z = o) → kG w p l e rmX2_lookFor s m args below meth c (MQ below (kQi w o.1 o.2) args s 0 0 (kA w)) 7 σ 84 [(0, .ref (kL w 126)), (2, .int x2), (3, .int x3), (5, .int (a.1)), (6, .int (a.2))] [] 0 0) (fun a a2 r hb ih hL7 hO => pX2_lookFor_84 K hret hb (fun _ e => by cases e) (fun z e => by cases e; exact ih hL7 hO) (fun _ e => by cases e)) (fun a r hb hL7 hO => pX2_lookFor_84 K hret hb (fun z e => hL7 z (by cases e; rfl)) (fun _ e => by cases e) (fun z e => hO z (by cases e; rfl))) n a r h hL7 hO
set_option maxRecDepth 20000 in
theorem pX2_lookFor_46 (K : kC w p s m args meth c cX2_lookFor 7 RX2) (hret : meth.sig.returnType = (some .int)) {x2 : Int32} {x3 : Int32} {σ : kS} {x5 : Int32} {x6 : Int32} {r : ((Int32 × Int32) ⊕ ((Int32 × kS) ⊕ (Int32 × kS)))} {o : (Int32 × kS)} (h : gX2_lookFor_46 x2 x3 σ x5 x6 = some r) (hL7 : ∀ z, r = .inr (.inl z) → kG w p l e rmX2_lookFor s m args below meth c (MQ below (kQi w o.1 o.2) args s 0 0 (kA w)) 7 z.2 7 [(0, .ref (kL w 126)), (2, .int x2), (3, .int (z.1))] [] 0 0) (hL46 : ∀ z, r = .inl z → kG w p l e rmX2_lookFor s m args below meth c (MQ below (kQi w o.1 o.2) args s 0 0 (kA w)) 7 σ 46 [(0, .ref (kL w 126)), (2, .int x2), (3, .int x3), (5, .int (z.1)), (6, .int (z.2))] [] 0 0) (hO : ∀ z, r = .inr (.inr z) → z = o) : kG w p l e rmX2_lookFor s m args below meth c (MQ below (kQi w o.1 o.2) args s 0 0 (kA w)) 7 σ 46 [(0, .ref (kL w 126)), (2, .int x2), (3, .int x3), (5, .int x5), (6, .int x6)] [] 0 0 := by
  unfold gX2_lookFor_46 at h
  refine k_iload K dX2_lookFor_46 4 rfl ?_
  refine k_bipush (v := 8) K dX2_lookFor_48 (by decide) ?_
  replace h := k_br h
  rcases h with ⟨b1, h⟩ | ⟨b1, h⟩
  · refine k_icmp_ge K 81 dX2_lookFor_50 (by decide) (fun _ => ?_) (fun q => absurd b1 q)
    refine k_iconst (v := 0) K dX2_lookFor_81 (by decide) ?_
    refine k_istore (lv' := [(6, .int 0), (0, .ref (kL w 126)), (2, .int x2), (3, .int x3), (5, .int x5)]) K dX2_lookFor_82 (by decide) rfl ?_
    refine k_sub [1, 2, 3, 4, 0] rfl ?_
    replace h := k_mp h
    obtain ⟨_, h, rfl⟩ := h
    exact lX2_lookFor_84 K hret h (fun z e => hL7 z (by rw [e])) (fun z e => hO z (by rw [e]))
  · refine k_icmp_ge K 81 dX2_lookFor_50 (by decide) (fun q => absurd q b1) (fun _ => ?_)
    refine k_aload_n K dX2_lookFor_53 0 rfl ?_
    refine k_iload_n K dX2_lookFor_54 2 rfl ?_
    refine k_iload_n K dX2_lookFor_55 1 rfl ?_
    refine k_iload K dX2_lookFor_56 3 rfl ?_
    refine k_aload_n K dX2_lookFor_58 0 rfl ?_
    refine fg_X2_23 K dX2_lookFor_59 ?_
    refine k_bipush (v := 8) K dX2_lookFor_62 (by decide) ?_
    refine k_iload_n K dX2_lookFor_64 2 rfl ?_
    refine k_imul K dX2_lookFor_65 ?_
    refine k_iload K dX2_lookFor_66 4 rfl ?_
    refine k_iadd K dX2_lookFor_68 ?_
    replace h := k_gd h
    obtain ⟨g2, h⟩ := h
    refine k_iald K dX2_lookFor_69 kd_130 g2 ?_
    replace h := k_bd h
    obtain ⟨r3, hr3, h⟩ := h
    refine cl_X2_94 K dX2_lookFor_70 hr3 (by decide) (Nat.le_of_ble_eq_true rfl) (by decide) ?_
    refine k_istore (lv' := [(5, .int r3), (0, .ref (kL w 126)), (2, .int x2), (3, .int x3), (6, .int x6)]) K dX2_lookFor_73 (by decide) rfl ?_
    refine k_iinc (v := 1) (lv' := [(6, .int (x6 + 1)), (5, .int r3), (0, .ref (kL w 126)), (2, .int x2), (3, .int x3)]) K dX2_lookFor_75 4 rfl (by decide) (by decide) rfl ?_
    refine k_goto K 46 dX2_lookFor_78 (by decide) ?_
    refine k_sub [2, 3, 4, 1, 0] rfl ?_
    cases h
    exact hL46 _ rfl
set_option maxRecDepth 20000 in
theorem lX2_lookFor_46 (K : kC w p s m args meth c cX2_lookFor 7 RX2) (hret : meth.sig.returnType = (some .int)) {x2 : Int32} {x3 : Int32} {σ : kS} {n : Nat} {a : Int32 × Int32} {r : ((Int32 × kS) ⊕ (Int32 × kS))} {o : (Int32 × kS)} (h : kit (fX2_lookFor_46 x2 x3 σ) n a = some r) (hL7 : ∀ z, r = .inl z → kG w p l e rmX2_lookFor s m args below meth c (MQ below (kQi w o.1 o.2) args s 0 0 (kA w)) 7 z.2 7 [(0, .ref (kL w 126)), (2, .int x2), (3, .int (z.1))] [] 0 0) (hO : ∀ z, r = .inr z → z = o) : kG w p l e rmX2_lookFor s m args below meth c (MQ below (kQi w o.1 o.2) args s 0 0 (kA w)) 7 σ 46 [(0, .ref (kL w 126)), (2, .int x2), (3, .int x3), (5, .int (a.1)), (6, .int (a.2))] [] 0 0 :=
  kit_ind (body := fX2_lookFor_46 x2 x3 σ) (fun a r => (∀ z, r = .inl z → kG w p l e rmX2_lookFor s m args below meth c (MQ below (kQi w o.1 o.2) args s 0 0 (kA w)) 7 z.2 7 [(0, .ref (kL w 126)), (2, .int x2), (3, .int (z.1))] [] 0 0) → (∀ z, r = .inr z → z = o) → kG w p l e rmX2_lookFor s m args below meth c (MQ below (kQi w o.1 o.2) args s 0 0 (kA w)) 7 σ 46 [(0, .ref (kL w 126)), (2, .int x2), (3, .int x3), (5, .int (a.1)), (6, .int (a.2))] [] 0 0) (fun a a2 r hb ih hL7 hO => pX2_lookFor_46 K hret hb (fun _ e => by cases e) (fun z e => by cases e; exact ih hL7 hO) (fun _ e => by cases e)) (fun a r hb hL7 hO => pX2_lookFor_46 K hret hb (fun z e => hL7 z (by cases e; rfl)) (fun _ e => by cases e) (fun z e => hO z (by cases e; rfl))) n a r h hL7 hO
set_option maxRecDepth 20000 in
theorem pX2_lookFor_7 (K : kC w p s m args meth c cX2_lookFor 7 RX2) (hret : meth.sig.returnType = (some .int)) {x2 : Int32} {x3 : Int32} {σ : kS} {r : ((Int32 × kS) ⊕ (Int32 × kS))} {o : (Int32 × kS)} (h : gX2_lookFor_7 x2 x3 σ = some r) (hL7 : ∀ z, r = .inl z → kG w p l e rmX2_lookFor s m args below meth c (MQ below (kQi w o.1 o.2) args s 0 0 (kA w)) 7 z.2 7 [(0, .ref (kL w 126)), (2, .int x2), (3, .int (z.1))] [] 0 0) (hO : ∀ z, r = .inr z → z = o) : kG w p l e rmX2_lookFor s m args below meth c (MQ below (kQi w o.1 o.2) args s 0 0 (kA w)) 7 σ 7 [(0, .ref (kL w 126)), (2, .int x2), (3, .int x3)] [] 0 0 := by
  unfold gX2_lookFor_7 at h
  refine k_aload_n K dX2_lookFor_7 0 rfl ?_
  refine k_iload_n K dX2_lookFor_8 2 rfl ?_
  replace h := k_bd h
  obtain ⟨r1, hr1, h⟩ := h
  refine cl_X2_91 K dX2_lookFor_9 hr1 (by decide) (Nat.le_of_ble_eq_true rfl) (by decide) ?_
  refine k_istore (lv' := [(4, .int r1), (0, .ref (kL w 126)), (2, .int x2), (3, .int x3)]) K dX2_lookFor_12 (by decide) rfl ?_
  refine k_iload_n K dX2_lookFor_14 2 rfl ?_
  refine k_iload_n K dX2_lookFor_15 3 rfl ?_
  replace h := k_br h
  rcases h with ⟨b2, h⟩ | ⟨b2, h⟩
  · refine k_icmp_ne K 21 dX2_lookFor_16 (by decide) (fun q => absurd b2 q) (fun _ => ?_)
    refine k_iload_n K dX2_lookFor_19 3 rfl ?_
    cases h
    obtain rfl := hO _ rfl
    exact k_iret K hret dX2_lookFor_20 (by decide) (by decide)
  · refine k_icmp_ne K 21 dX2_lookFor_16 (by decide) (fun _ => ?_) (fun q => absurd q b2)
    refine k_iload_n K dX2_lookFor_21 2 rfl ?_
    refine k_iload K dX2_lookFor_22 0 rfl ?_
    replace h := k_br h
    rcases h with ⟨b3, h⟩ | ⟨b3, h⟩
    · refine k_icmp_eq K 37 dX2_lookFor_24 (by decide) (fun _ => ?_) (fun q => absurd b3 q)
      refine k_iload K dX2_lookFor_37 0 rfl ?_
      cases h
      obtain rfl := hO _ rfl
      exact k_iret K hret dX2_lookFor_39 (by decide) (by decide)
    · refine k_icmp_eq K 37 dX2_lookFor_24 (by decide) (fun q => absurd q b3) (fun _ => ?_)
      refine k_iload_n K dX2_lookFor_27 2 rfl ?_
      refine k_iload_n K dX2_lookFor_28 3 rfl ?_
      refine k_iload K dX2_lookFor_29 0 rfl ?_
      replace h := k_bd h
      obtain ⟨r4, hr4, h⟩ := h
      refine cl_X2_84 K dX2_lookFor_31 hr4 (by decide) (Nat.le_of_ble_eq_true rfl) (by decide) ?_
      replace h := k_br h
      rcases h with ⟨b5, h⟩ | ⟨b5, h⟩
      · refine k_if_eq K 40 dX2_lookFor_34 (by decide) (fun _ => ?_) (fun q => absurd b5 q)
        refine k_iconst (v := (-1)) K dX2_lookFor_40 (by decide) ?_
        refine k_istore (lv' := [(5, .int ((-1))), (4, .int r1), (0, .ref (kL w 126)), (2, .int x2), (3, .int x3)]) K dX2_lookFor_41 (by decide) rfl ?_
        refine k_iconst (v := 0) K dX2_lookFor_43 (by decide) ?_
        refine k_istore (lv' := [(6, .int 0), (5, .int ((-1))), (4, .int r1), (0, .ref (kL w 126)), (2, .int x2), (3, .int x3)]) K dX2_lookFor_44 (by decide) rfl ?_
        refine k_sub [3, 4, 5, 1, 0] rfl ?_
        exact lX2_lookFor_46 K hret h hL7 hO
      · refine k_if_eq K 40 dX2_lookFor_34 (by decide) (fun q => absurd q b5) (fun _ => ?_)
        refine k_iload K dX2_lookFor_37 0 rfl ?_
        cases h
        obtain rfl := hO _ rfl
        exact k_iret K hret dX2_lookFor_39 (by decide) (by decide)
set_option maxRecDepth 20000 in
theorem lX2_lookFor_7 (K : kC w p s m args meth c cX2_lookFor 7 RX2) (hret : meth.sig.returnType = (some .int)) {x2 : Int32} {n : Nat} {a : Int32 × kS} {r : (Int32 × kS)} {o : (Int32 × kS)} (h : kit (fX2_lookFor_7 x2) n a = some r) (hO : ∀ z, r = z → z = o) : kG w p l e rmX2_lookFor s m args below meth c (MQ below (kQi w o.1 o.2) args s 0 0 (kA w)) 7 a.2 7 [(0, .ref (kL w 126)), (2, .int x2), (3, .int (a.1))] [] 0 0 :=
  kit_ind (body := fX2_lookFor_7 x2) (fun a r => (∀ z, r = z → z = o) → kG w p l e rmX2_lookFor s m args below meth c (MQ below (kQi w o.1 o.2) args s 0 0 (kA w)) 7 a.2 7 [(0, .ref (kL w 126)), (2, .int x2), (3, .int (a.1))] [] 0 0) (fun a a2 r hb ih hO => pX2_lookFor_7 K hret hb (fun z e => by cases e; exact ih hO) (fun _ e => by cases e)) (fun a r hb hO => pX2_lookFor_7 K hret hb (fun _ e => by cases e) (fun z e => hO z (by cases e; rfl))) n a r h hO
set_option maxRecDepth 20000 in
theorem mX2_lookFor (l : Launch) (w : kW) (σ : kS) (x1 : Int32) (x2 : Int32) {o : (Int32 × kS)} (h : fX2_lookFor σ x1 x2 = some o) : Met l yX2_lookFor (Cond.code yX2_lookFor cX2_lookFor 7 (some .int) :: TB) rmX2_lookFor (va_Pc [.ref (kL w 126), .int x1, .int x2] (kP w σ)) (kQi w o.1 o.2) 0 0 (kA w) := by
  refine k_met (by decide +kernel) [.ref (kL w 126), .int x1, .int x2] (Nat.le_of_ble_eq_true rfl) (by simp [lv_args, Value.category]) ?_
  intro p e s m args below meth c K hret
  have K : kC w p s m args meth c cX2_lookFor 7 RX2 := K
  obtain ⟨r, hro⟩ : ∃ r, r = o := ⟨o, rfl⟩
  rw [← hro] at h
  have hO : ∀ z, r = z → z = o := fun z e => by rw [← e]; exact hro
  unfold fX2_lookFor at h
  refine k_iload_n K dX2_lookFor_0 1 rfl ?_
  refine k_istore_n (lv' := [(3, .int x1), (0, .ref (kL w 126)), (1, .int x1), (2, .int x2)]) K dX2_lookFor_1 (by decide) rfl ?_
  refine k_aload_n K dX2_lookFor_2 1 rfl ?_
  refine k_iconst (v := 0) K dX2_lookFor_3 (by decide) ?_
  refine fp_X2_88 K dX2_lookFor_4 ?_
  refine k_sub [1, 3, 0] rfl ?_
  exact lX2_lookFor_7 K hret h hO
end F_X2_lookFor
section C_X2_lookFor
variable {w : kW} {p : Program} {l : Launch} {e : Env} {R : Room} {s : State} {m : MethodId} {args : Array Value} {below : List Frame} {meth : Method} {c : Code} {Q : State → Prop} {cc : ByteArray} {nL : Nat} {σ : kS} {pc : Nat} {lv : List (Nat × Value)} {st rest : List Value} {cells slots : Nat}
theorem cl_X2_104 (K : kC w p s m args meth c cc nL RX2) {a1 : Int32} {a2 : Int32} {r : (Int32 × kS)} (d : decode cc pc = .ok (.invokevirtual 104, 3)) (h : fX2_lookFor σ a1 a2 = some r) (hR : rmX2_lookFor.frames + 1 ≤ R.frames ∧ 8 + (7 + 11) + rmX2_lookFor.locals ≤ R.locals) (hr : (rest.map fun v => v.category).sum ≤ 8) (hf : cells + 0 ≤ R.cells ∧ slots + 0 ≤ R.slots) (kk : kG w p l e R s m args below meth c Q nL r.2 (pc + 3) lv (.int r.1 :: rest) (cells + 0) (slots + 0)) : kG w p l e R s m args below meth c Q nL σ pc lv (.int a2 :: .int a1 :: .ref (kL w 126) :: rest) cells slots :=
  k_callVi (As := [.int a1, .int a2]) (rest := rest) (n := 2) (C := RX2) (T := TX2) K d kd_126 rfl (kg_V tw_648 tw_650 tw_33 tw_50 tw_651) rfl (by decide +kernel) rfl hR hr rfl hf (mX2_lookFor l w σ a1 a2 h) ⟨rfl, rfl⟩ kk
end C_X2_lookFor
section F_X2_without
variable {w : kW} {p : Program} {l : Launch} {e : Env} {s : State} {m : MethodId} {args : Array Value} {below : List Frame} {meth : Method} {c : Code}
def fX2_without_111 (x1 : Int32) (x3 : Int32) (t0 : Int32) (σ : kS) : Option ((Int32 × Int32) ⊕ Int32) :=
  some (.inl (t0, x3 + 1))
def fX2_without_110 (x1 : Int32) (x3 : Int32) (σ : kS) : Option ((Int32 × Int32) ⊕ Int32) :=
  fX2_without_111 x1 x3 0 σ
def fX2_without_89 (x1 : Int32) (x2 : Int32) (x3 : Int32) (x5 : Int32) (t0 : Int32) (σ : kS) : Option ((Int32 × Int32) ⊕ ((Int32 × Int32) ⊕ Int32)) :=
  some (.inl (t0, x5 + 1))
def fX2_without_88 (x1 : Int32) (x2 : Int32) (x3 : Int32) (x5 : Int32) (σ : kS) : Option ((Int32 × Int32) ⊕ ((Int32 × Int32) ⊕ Int32)) :=
  fX2_without_89 x1 x2 x3 x5 0 σ
def fX2_without_84 (x1 : Int32) (x2 : Int32) (x3 : Int32) (x5 : Int32) (σ : kS) : Option ((Int32 × Int32) ⊕ ((Int32 × Int32) ⊕ Int32)) :=
  fX2_without_89 x1 x2 x3 x5 1 σ
def gX2_without_36 (x1 : Int32) (x2 : Int32) (x3 : Int32) (σ : kS) (x4 : Int32) (x5 : Int32) : Option ((Int32 × Int32) ⊕ ((Int32 × Int32) ⊕ Int32)) :=
  if (σ.1 126 1) ≤ x5 then
    if x2 = 0 then
      (fX2_without_110 x1 x3 σ).map .inr
    else
      if x4 = 0 then
        (fX2_without_110 x1 x3 σ).map .inr
      else
        (fX2_without_111 x1 x3 1 σ).map .inr
  else
    if vpi ((4 * x3) + x5) 1024 then
      if x4 = 0 then
        (fX2_live σ (σ.1 128 ((4 * x3) + x5).toNatClampNeg)).bind fun r6 =>
        if r6 = 0 then
          fX2_without_88 x1 x2 x3 x5 σ
        else
          if (σ.1 128 ((4 * x3) + x5).toNatClampNeg) = x1 then
            fX2_without_88 x1 x2 x3 x5 σ
          else
            if (σ.1 128 ((4 * x3) + x5).toNatClampNeg) = x3 then
              fX2_without_88 x1 x2 x3 x5 σ
            else
              fX2_without_84 x1 x2 x3 x5 σ
      else
        fX2_without_84 x1 x2 x3 x5 σ
    else none
def fX2_without_36 (x1 : Int32) (x2 : Int32) (x3 : Int32) (σ : kS) (a : Int32 × Int32) : Option ((Int32 × Int32) ⊕ ((Int32 × Int32) ⊕ Int32)) := gX2_without_36 x1 x2 x3 σ a.1 a.2
def fX2_without_31 (x1 : Int32) (x2 : Int32) (x3 : Int32) (t0 : Int32) (σ : kS) : Option ((Int32 × Int32) ⊕ Int32) :=
  kit (fX2_without_36 x1 x2 x3 σ) 300 (t0, 0)
def fX2_without_26 (x1 : Int32) (x2 : Int32) (x3 : Int32) (σ : kS) : Option ((Int32 × Int32) ⊕ Int32) :=
  fX2_without_31 x1 x2 x3 1 σ
def gX2_without_4 (x1 : Int32) (σ : kS) (x2 : Int32) (x3 : Int32) : Option ((Int32 × Int32) ⊕ Int32) :=
  if 256 ≤ x3 then
    if vp_nar .boolean x2 = x2 then
      some (.inr (x2))
    else none
  else
    if vpi x3 256 then
      if (σ.1 127 x3.toNatClampNeg) = 1 then
        if x3 = x1 then
          fX2_without_26 x1 x2 x3 σ
        else
          fX2_without_31 x1 x2 x3 0 σ
      else
        fX2_without_26 x1 x2 x3 σ
    else none
def fX2_without_4 (x1 : Int32) (σ : kS) (a : Int32 × Int32) : Option ((Int32 × Int32) ⊕ Int32) := gX2_without_4 x1 σ a.1 a.2
def fX2_without (σ : kS) (x1 : Int32) : Option Int32 :=
  kit (fX2_without_4 x1 σ) 300 (1, 0)
def rmX2_without : Room := { frames := 2, cells := 0, slots := 0, locals := 41 }
set_option maxRecDepth 20000 in
theorem pX2_without_111 (K : kC w p s m args meth c cX2_without 7 RX2) (hret : meth.sig.returnType = (some .boolean)) {x1 : Int32} {x3 : Int32} {t0 : Int32} {σ : kS} {r : ((Int32 × Int32) ⊕ Int32)} {o : Int32} (h : fX2_without_111 x1 x3 t0 σ = some r) (hL4 : ∀ z, r = .inl z → kG w p l e rmX2_without s m args below meth c (MQ below (kQi w o σ) args s 0 0 (kA w)) 7 σ 4 [(0, .ref (kL w 126)), (1, .int x1), (2, .int (z.1)), (3, .int (z.2))] [] 0 0) (hO : ∀ z, r = .inr z → z = o) : kG w p l e rmX2_without s m args below meth c (MQ below (kQi w o σ) args s 0 0 (kA w)) 7 σ 111 [(0, .ref (kL w 126)), (1, .int x1), (3, .int x3)] [.int t0] 0 0 := by
  unfold fX2_without_111 at h
  refine k_istore_n (lv' := [(2, .int t0), (0, .ref (kL w 126)), (1, .int x1), (3, .int x3)]) K dX2_without_111 (by decide) rfl ?_
  refine k_iinc (v := 1) (lv' := [(3, .int (x3 + 1)), (2, .int t0), (0, .ref (kL w 126)), (1, .int x1)]) K dX2_without_112 3 rfl (by decide) (by decide) rfl ?_
  refine k_goto K 4 dX2_without_115 (by decide) ?_
  refine k_sub [2, 3, 1, 0] rfl ?_
  cases h
  exact hL4 _ rfl
set_option maxRecDepth 20000 in
theorem pX2_without_110 (K : kC w p s m args meth c cX2_without 7 RX2) (hret : meth.sig.returnType = (some .boolean)) {x1 : Int32} {x3 : Int32} {σ : kS} {r : ((Int32 × Int32) ⊕ Int32)} {o : Int32} (h : fX2_without_110 x1 x3 σ = some r) (hL4 : ∀ z, r = .inl z → kG w p l e rmX2_without s m args below meth c (MQ below (kQi w o σ) args s 0 0 (kA w)) 7 σ 4 [(0, .ref (kL w 126)), (1, .int x1), (2, .int (z.1)), (3, .int (z.2))] [] 0 0) (hO : ∀ z, r = .inr z → z = o) : kG w p l e rmX2_without s m args below meth c (MQ below (kQi w o σ) args s 0 0 (kA w)) 7 σ 110 [(0, .ref (kL w 126)), (1, .int x1), (3, .int x3)] [] 0 0 := by
  unfold fX2_without_110 at h
  refine k_iconst (v := 0) K dX2_without_110 (by decide) ?_
  exact pX2_without_111 K hret h hL4 hO
set_option maxRecDepth 20000 in
theorem pX2_without_89 (K : kC w p s m args meth c cX2_without 7 RX2) (hret : meth.sig.returnType = (some .boolean)) {x1 : Int32} {x2 : Int32} {x3 : Int32} {x5 : Int32} {t0 : Int32} {σ : kS} {r : ((Int32 × Int32) ⊕ ((Int32 × Int32) ⊕ Int32))} {o : Int32} (h : fX2_without_89 x1 x2 x3 x5 t0 σ = some r) (hL4 : ∀ z, r = .inr (.inl z) → kG w p l e rmX2_without s m args below meth c (MQ below (kQi w o σ) args s 0 0 (kA w)) 7 σ 4 [(0, .ref (kL w 126)), (1, .int x1), (2, .int (z.1)), (3, .int (z.2))] [] 0 0) (hL36 : ∀ z, r = .inl z → kG w p l e rmX2_without s m args below meth c (MQ below (kQi w o σ) args s 0 0 (kA w)) 7 σ 36 [(0, .ref (kL w 126)), (1, .int x1), (2, .int x2), (3, .int x3), (4, .int (z.1)), (5, .int (z.2))] [] 0 0) (hO : ∀ z, r = .inr (.inr z) → z = o) : kG w p l e rmX2_without s m args below meth c (MQ below (kQi w o σ) args s 0 0 (kA w)) 7 σ 89 [(0, .ref (kL w 126)), (1, .int x1), (2, .int x2), (3, .int x3), (5, .int x5)] [.int t0] 0 0 := by
  unfold fX2_without_89 at h
  refine k_istore (lv' := [(4, .int t0), (0, .ref (kL w 126)), (1, .int x1), (2, .int x2), (3, .int x3), (5, .int x5)]) K dX2_without_89 (by decide) rfl ?_
  refine k_iinc (v := 1) (lv' := [(5, .int (x5 + 1)), (4, .int t0), (0, .ref (kL w 126)), (1, .int x1), (2, .int x2), (3, .int x3)]) K dX2_without_91 5 rfl (by decide) (by decide) rfl ?_
  refine k_goto K 36 dX2_without_94 (by decide) ?_
  refine k_sub [2, 3, 4, 5, 1, 0] rfl ?_
  cases h
  exact hL36 _ rfl
set_option maxRecDepth 20000 in
theorem pX2_without_88 (K : kC w p s m args meth c cX2_without 7 RX2) (hret : meth.sig.returnType = (some .boolean)) {x1 : Int32} {x2 : Int32} {x3 : Int32} {x5 : Int32} {σ : kS} {r : ((Int32 × Int32) ⊕ ((Int32 × Int32) ⊕ Int32))} {o : Int32} (h : fX2_without_88 x1 x2 x3 x5 σ = some r) (hL4 : ∀ z, r = .inr (.inl z) → kG w p l e rmX2_without s m args below meth c (MQ below (kQi w o σ) args s 0 0 (kA w)) 7 σ 4 [(0, .ref (kL w 126)), (1, .int x1), (2, .int (z.1)), (3, .int (z.2))] [] 0 0) (hL36 : ∀ z, r = .inl z → kG w p l e rmX2_without s m args below meth c (MQ below (kQi w o σ) args s 0 0 (kA w)) 7 σ 36 [(0, .ref (kL w 126)), (1, .int x1), (2, .int x2), (3, .int x3), (4, .int (z.1)), (5, .int (z.2))] [] 0 0) (hO : ∀ z, r = .inr (.inr z) → z = o) : kG w p l e rmX2_without s m args below meth c (MQ below (kQi w o σ) args s 0 0 (kA w)) 7 σ 88 [(0, .ref (kL w 126)), (1, .int x1), (2, .int x2), (3, .int x3), (5, .int x5)] [] 0 0 := by
  unfold fX2_without_88 at h
  refine k_iconst (v := 0) K dX2_without_88 (by decide) ?_
  exact pX2_without_89 K hret h hL4 hL36 hO
set_option maxRecDepth 20000 in
theorem pX2_without_84 (K : kC w p s m args meth c cX2_without 7 RX2) (hret : meth.sig.returnType = (some .boolean)) {x1 : Int32} {x2 : Int32} {x3 : Int32} {x5 : Int32} {σ : kS} {r : ((Int32 × Int32) ⊕ ((Int32 × Int32) ⊕ Int32))} {o : Int32} (h : fX2_without_84 x1 x2 x3 x5 σ = some r) (hL4 : ∀ z, r = .inr (.inl z) → kG w p l e rmX2_without s m args below meth c (MQ below (kQi w o σ) args s 0 0 (kA w)) 7 σ 4 [(0, .ref (kL w 126)), (1, .int x1), (2, .int (z.1)), (3, .int (z.2))] [] 0 0) (hL36 : ∀ z, r = .inl z → kG w p l e rmX2_without s m args below meth c (MQ below (kQi w o σ) args s 0 0 (kA w)) 7 σ 36 [(0, .ref (kL w 126)), (1, .int x1), (2, .int x2), (3, .int x3), (4, .int (z.1)), (5, .int (z.2))] [] 0 0) (hO : ∀ z, r = .inr (.inr z) → z = o) : kG w p l e rmX2_without s m args below meth c (MQ below (kQi w o σ) args s 0 0 (kA w)) 7 σ 84 [(0, .ref (kL w 126)), (1, .int x1), (2, .int x2), (3, .int x3), (5, .int x5)] [] 0 0 := by
  unfold fX2_without_84 at h
  refine k_iconst (v := 1) K dX2_without_84 (by decide) ?_
  refine k_goto K 89 dX2_without_85 (by decide) ?_
  exact pX2_without_89 K hret h hL4 hL36 hO
set_option maxRecDepth 20000 in
theorem pX2_without_36 (K : kC w p s m args meth c cX2_without 7 RX2) (hret : meth.sig.returnType = (some .boolean)) {x1 : Int32} {x2 : Int32} {x3 : Int32} {σ : kS} {x4 : Int32} {x5 : Int32} {r : ((Int32 × Int32) ⊕ ((Int32 × Int32) ⊕ Int32))} {o : Int32} (h : gX2_without_36 x1 x2 x3 σ x4 x5 = some r) (hL4 : ∀ z, r = .inr (.inl z) → kG w p l e rmX2_without s m args below meth c (MQ below (kQi w o σ) args s 0 0 (kA w)) 7 σ 4 [(0, .ref (kL w 126)), (1, .int x1), (2, .int (z.1)), (3, .int (z.2))] [] 0 0) (hL36 : ∀ z, r = .inl z → kG w p l e rmX2_without s m args below meth c (MQ below (kQi w o σ) args s 0 0 (kA w)) 7 σ 36 [(0, .ref (kL w 126)), (1, .int x1), (2, .int x2), (3, .int x3), (4, .int (z.1)), (5, .int (z.2))] [] 0 0) (hO : ∀ z, r = .inr (.inr z) → z = o) : kG w p l e rmX2_without s m args below meth c (MQ below (kQi w o σ) args s 0 0 (kA w)) 7 σ 36 [(0, .ref (kL w 126)), (1, .int x1), (2, .int x2), (3, .int x3), (4, .int x4), (5, .int x5)] [] 0 0 := by
  unfold gX2_without_36 at h
  refine k_iload K dX2_without_36 5 rfl ?_
  refine k_aload_n K dX2_without_38 0 rfl ?_
  refine fg_X2_7 K dX2_without_39 ?_
  replace h := k_br h
  rcases h with ⟨b1, h⟩ | ⟨b1, h⟩
  · refine k_icmp_ge K 97 dX2_without_42 (by decide) (fun _ => ?_) (fun q => absurd b1 q)
    refine k_iload_n K dX2_without_97 2 rfl ?_
    replace h := k_br h
    rcases h with ⟨b2, h⟩ | ⟨b2, h⟩
    · refine k_if_eq K 110 dX2_without_98 (by decide) (fun _ => ?_) (fun q => absurd b2 q)
      refine k_sub [0, 1, 3] rfl ?_
      replace h := k_mp h
      obtain ⟨_, h, rfl⟩ := h
      exact pX2_without_110 K hret h (fun z e => hL4 z (by rw [e])) (fun z e => hO z (by rw [e]))
    · refine k_if_eq K 110 dX2_without_98 (by decide) (fun q => absurd q b2) (fun _ => ?_)
      refine k_iload K dX2_without_101 4 rfl ?_
      replace h := k_br h
      rcases h with ⟨b3, h⟩ | ⟨b3, h⟩
      · refine k_if_eq K 110 dX2_without_103 (by decide) (fun _ => ?_) (fun q => absurd b3 q)
        refine k_sub [0, 1, 3] rfl ?_
        replace h := k_mp h
        obtain ⟨_, h, rfl⟩ := h
        exact pX2_without_110 K hret h (fun z e => hL4 z (by rw [e])) (fun z e => hO z (by rw [e]))
      · refine k_if_eq K 110 dX2_without_103 (by decide) (fun q => absurd q b3) (fun _ => ?_)
        refine k_iconst (v := 1) K dX2_without_106 (by decide) ?_
        refine k_goto K 111 dX2_without_107 (by decide) ?_
        refine k_sub [0, 1, 3] rfl ?_
        replace h := k_mp h
        obtain ⟨_, h, rfl⟩ := h
        exact pX2_without_111 K hret h (fun z e => hL4 z (by rw [e])) (fun z e => hO z (by rw [e]))
  · refine k_icmp_ge K 97 dX2_without_42 (by decide) (fun q => absurd q b1) (fun _ => ?_)
    refine k_aload_n K dX2_without_45 0 rfl ?_
    refine fg_X2_17 K dX2_without_46 ?_
    refine k_iconst (v := 4) K dX2_without_49 (by decide) ?_
    refine k_iload_n K dX2_without_50 3 rfl ?_
    refine k_imul K dX2_without_51 ?_
    refine k_iload K dX2_without_52 5 rfl ?_
    refine k_iadd K dX2_without_54 ?_
    replace h := k_gd h
    obtain ⟨g4, h⟩ := h
    refine k_iald K dX2_without_55 kd_128 g4 ?_
    refine k_istore (lv' := [(6, .int (σ.1 128 ((4 * x3) + x5).toNatClampNeg)), (0, .ref (kL w 126)), (1, .int x1), (2, .int x2), (3, .int x3), (4, .int x4), (5, .int x5)]) K dX2_without_56 (by decide) rfl ?_
    refine k_iload K dX2_without_58 5 rfl ?_
    replace h := k_br h
    rcases h with ⟨b5, h⟩ | ⟨b5, h⟩
    · refine k_if_ne K 84 dX2_without_60 (by decide) (fun q => absurd b5 q) (fun _ => ?_)
      refine k_aload_n K dX2_without_63 1 rfl ?_
      refine k_iload K dX2_without_64 0 rfl ?_
      replace h := k_bd h
      obtain ⟨r6, hr6, h⟩ := h
      refine cl_X2_58 K dX2_without_66 hr6 (by decide) (Nat.le_of_ble_eq_true rfl) (by decide) ?_
      replace h := k_br h
      rcases h with ⟨b7, h⟩ | ⟨b7, h⟩
      · refine k_if_eq K 88 dX2_without_69 (by decide) (fun _ => ?_) (fun q => absurd b7 q)
        refine k_sub [1, 2, 3, 4, 6] rfl ?_
        exact pX2_without_88 K hret h hL4 hL36 hO
      · refine k_if_eq K 88 dX2_without_69 (by decide) (fun q => absurd q b7) (fun _ => ?_)
        refine k_iload K dX2_without_72 0 rfl ?_
        refine k_iload_n K dX2_without_74 2 rfl ?_
        replace h := k_br h
        rcases h with ⟨b8, h⟩ | ⟨b8, h⟩
        · refine k_icmp_eq K 88 dX2_without_75 (by decide) (fun _ => ?_) (fun q => absurd b8 q)
          refine k_sub [1, 2, 3, 4, 6] rfl ?_
          exact pX2_without_88 K hret h hL4 hL36 hO
        · refine k_icmp_eq K 88 dX2_without_75 (by decide) (fun q => absurd q b8) (fun _ => ?_)
          refine k_iload K dX2_without_78 0 rfl ?_
          refine k_iload_n K dX2_without_80 4 rfl ?_
          replace h := k_br h
          rcases h with ⟨b9, h⟩ | ⟨b9, h⟩
          · refine k_icmp_eq K 88 dX2_without_81 (by decide) (fun _ => ?_) (fun q => absurd b9 q)
            refine k_sub [1, 2, 3, 4, 6] rfl ?_
            exact pX2_without_88 K hret h hL4 hL36 hO
          · refine k_icmp_eq K 88 dX2_without_81 (by decide) (fun q => absurd q b9) (fun _ => ?_)
            refine k_sub [1, 2, 3, 4, 6] rfl ?_
            exact pX2_without_84 K hret h hL4 hL36 hO
    · refine k_if_ne K 84 dX2_without_60 (by decide) (fun _ => ?_) (fun q => absurd q b5)
      refine k_sub [1, 2, 3, 4, 6] rfl ?_
      exact pX2_without_84 K hret h hL4 hL36 hO
set_option maxRecDepth 20000 in
theorem lX2_without_36 (K : kC w p s m args meth c cX2_without 7 RX2) (hret : meth.sig.returnType = (some .boolean)) {x1 : Int32} {x2 : Int32} {x3 : Int32} {σ : kS} {n : Nat} {a : Int32 × Int32} {r : ((Int32 × Int32) ⊕ Int32)} {o : Int32} (h : kit (fX2_without_36 x1 x2 x3 σ) n a = some r) (hL4 : ∀ z, r = .inl z → kG w p l e rmX2_without s m args below meth c (MQ below (kQi w o σ) args s 0 0 (kA w)) 7 σ 4 [(0, .ref (kL w 126)), (1, .int x1), (2, .int (z.1)), (3, .int (z.2))] [] 0 0) (hO : ∀ z, r = .inr z → z = o) : kG w p l e rmX2_without s m args below meth c (MQ below (kQi w o σ) args s 0 0 (kA w)) 7 σ 36 [(0, .ref (kL w 126)), (1, .int x1), (2, .int x2), (3, .int x3), (4, .int (a.1)), (5, .int (a.2))] [] 0 0 :=
  kit_ind (body := fX2_without_36 x1 x2 x3 σ) (fun a r => (∀ z, r = .inl z → kG w p l e rmX2_without s m args below meth c (MQ below (kQi w o σ) args s 0 0 (kA w)) 7 σ 4 [(0, .ref (kL w 126)), (1, .int x1), (2, .int (z.1)), (3, .int (z.2))] [] 0 0) → (∀ z, r = .inr z → z = o) → kG w p l e rmX2_without s m args below meth c (MQ below (kQi w o σ) args s 0 0 (kA w)) 7 σ 36 [(0, .ref (kL w 126)), (1, .int x1), (2, .int x2), (3, .int x3), (4, .int (a.1)), (5, .int (a.2))] [] 0 0) (fun a a2 r hb ih hL4 hO => pX2_without_36 K hret hb (fun _ e => by cases e) (fun z e => by cases e; exact ih hL4 hO) (fun _ e => by cases e)) (fun a r hb hL4 hO => pX2_without_36 K hret hb (fun z e => hL4 z (by cases e; rfl)) (fun _ e => by cases e) (fun z e => hO z (by cases e; rfl))) n a r h hL4 hO
set_option maxRecDepth 20000 in
theorem pX2_without_31 (K : kC w p s m args meth c cX2_without 7 RX2) (hret : meth.sig.returnType = (some .boolean)) {x1 : Int32} {x2 : Int32} {x3 : Int32} {t0 : Int32} {σ : kS} {r : ((Int32 × Int32) ⊕ Int32)} {o : Int32} (h : fX2_without_31 x1 x2 x3 t0 σ = some r) (hL4 : ∀ z, r = .inl z → kG w p l e rmX2_without s m args below meth c (MQ below (kQi w o σ) args s 0 0 (kA w)) 7 σ 4 [(0, .ref (kL w 126)), (1, .int x1), (2, .int (z.1)), (3, .int (z.2))] [] 0 0) (hO : ∀ z, r = .inr z → z = o) : kG w p l e rmX2_without s m args below meth c (MQ below (kQi w o σ) args s 0 0 (kA w)) 7 σ 31 [(0, .ref (kL w 126)), (1, .int x1), (2, .int x2), (3, .int x3)] [.int t0] 0 0 := by
  unfold fX2_without_31 at h
  refine k_istore (lv' := [(4, .int t0), (0, .ref (kL w 126)), (1, .int x1), (2, .int x2), (3, .int x3)]) K dX2_without_31 (by decide) rfl ?_
  refine k_iconst (v := 0) K dX2_without_33 (by decide) ?_
  refine k_istore (lv' := [(5, .int 0), (4, .int t0), (0, .ref (kL w 126)), (1, .int x1), (2, .int x2), (3, .int x3)]) K dX2_without_34 (by decide) rfl ?_
  refine k_sub [2, 3, 4, 5, 1, 0] rfl ?_
  exact lX2_without_36 K hret h hL4 hO
set_option maxRecDepth 20000 in
theorem pX2_without_26 (K : kC w p s m args meth c cX2_without 7 RX2) (hret : meth.sig.returnType = (some .boolean)) {x1 : Int32} {x2 : Int32} {x3 : Int32} {σ : kS} {r : ((Int32 × Int32) ⊕ Int32)} {o : Int32} (h : fX2_without_26 x1 x2 x3 σ = some r) (hL4 : ∀ z, r = .inl z → kG w p l e rmX2_without s m args below meth c (MQ below (kQi w o σ) args s 0 0 (kA w)) 7 σ 4 [(0, .ref (kL w 126)), (1, .int x1), (2, .int (z.1)), (3, .int (z.2))] [] 0 0) (hO : ∀ z, r = .inr z → z = o) : kG w p l e rmX2_without s m args below meth c (MQ below (kQi w o σ) args s 0 0 (kA w)) 7 σ 26 [(0, .ref (kL w 126)), (1, .int x1), (2, .int x2), (3, .int x3)] [] 0 0 := by
  unfold fX2_without_26 at h
  refine k_iconst (v := 1) K dX2_without_26 (by decide) ?_
  refine k_goto K 31 dX2_without_27 (by decide) ?_
  exact pX2_without_31 K hret h hL4 hO
set_option maxRecDepth 20000 in
theorem pX2_without_4 (K : kC w p s m args meth c cX2_without 7 RX2) (hret : meth.sig.returnType = (some .boolean)) {x1 : Int32} {σ : kS} {x2 : Int32} {x3 : Int32} {r : ((Int32 × Int32) ⊕ Int32)} {o : Int32} (h : gX2_without_4 x1 σ x2 x3 = some r) (hL4 : ∀ z, r = .inl z → kG w p l e rmX2_without s m args below meth c (MQ below (kQi w o σ) args s 0 0 (kA w)) 7 σ 4 [(0, .ref (kL w 126)), (1, .int x1), (2, .int (z.1)), (3, .int (z.2))] [] 0 0) (hO : ∀ z, r = .inr z → z = o) : kG w p l e rmX2_without s m args below meth c (MQ below (kQi w o σ) args s 0 0 (kA w)) 7 σ 4 [(0, .ref (kL w 126)), (1, .int x1), (2, .int x2), (3, .int x3)] [] 0 0 := by
  unfold gX2_without_4 at h
  refine k_iload_n K dX2_without_4 3 rfl ?_
  refine k_sipush (v := 256) K dX2_without_5 (by decide) ?_
  replace h := k_br h
  rcases h with ⟨b1, h⟩ | ⟨b1, h⟩
  · refine k_icmp_ge K 118 dX2_without_8 (by decide) (fun _ => ?_) (fun q => absurd b1 q)
    refine k_iload_n K dX2_without_118 2 rfl ?_
    replace h := k_gd h
    obtain ⟨g2, h⟩ := h
    cases h
    obtain rfl := hO _ rfl
    exact k_zret K hret (k_nz g2) dX2_without_119 (by decide) (by decide)
  · refine k_icmp_ge K 118 dX2_without_8 (by decide) (fun q => absurd q b1) (fun _ => ?_)
    refine k_aload_n K dX2_without_11 0 rfl ?_
    refine fg_X2_13 K dX2_without_12 ?_
    refine k_iload_n K dX2_without_15 3 rfl ?_
    replace h := k_gd h
    obtain ⟨g3, h⟩ := h
    refine k_iald K dX2_without_16 kd_127 g3 ?_
    refine k_iconst (v := 1) K dX2_without_17 (by decide) ?_
    replace h := k_br h
    rcases h with ⟨b4, h⟩ | ⟨b4, h⟩
    · refine k_icmp_ne K 26 dX2_without_18 (by decide) (fun q => absurd b4 q) (fun _ => ?_)
      refine k_iload_n K dX2_without_21 3 rfl ?_
      refine k_iload_n K dX2_without_22 1 rfl ?_
      replace h := k_br h
      rcases h with ⟨b5, h⟩ | ⟨b5, h⟩
      · refine k_icmp_ne K 30 dX2_without_23 (by decide) (fun q => absurd b5 q) (fun _ => ?_)
        exact pX2_without_26 K hret h hL4 hO
      · refine k_icmp_ne K 30 dX2_without_23 (by decide) (fun _ => ?_) (fun q => absurd q b5)
        refine k_iconst (v := 0) K dX2_without_30 (by decide) ?_
        exact pX2_without_31 K hret h hL4 hO
    · refine k_icmp_ne K 26 dX2_without_18 (by decide) (fun _ => ?_) (fun q => absurd q b4)
      exact pX2_without_26 K hret h hL4 hO
set_option maxRecDepth 20000 in
theorem lX2_without_4 (K : kC w p s m args meth c cX2_without 7 RX2) (hret : meth.sig.returnType = (some .boolean)) {x1 : Int32} {σ : kS} {n : Nat} {a : Int32 × Int32} {r : Int32} {o : Int32} (h : kit (fX2_without_4 x1 σ) n a = some r) (hO : ∀ z, r = z → z = o) : kG w p l e rmX2_without s m args below meth c (MQ below (kQi w o σ) args s 0 0 (kA w)) 7 σ 4 [(0, .ref (kL w 126)), (1, .int x1), (2, .int (a.1)), (3, .int (a.2))] [] 0 0 :=
  kit_ind (body := fX2_without_4 x1 σ) (fun a r => (∀ z, r = z → z = o) → kG w p l e rmX2_without s m args below meth c (MQ below (kQi w o σ) args s 0 0 (kA w)) 7 σ 4 [(0, .ref (kL w 126)), (1, .int x1), (2, .int (a.1)), (3, .int (a.2))] [] 0 0) (fun a a2 r hb ih hO => pX2_without_4 K hret hb (fun z e => by cases e; exact ih hO) (fun _ e => by cases e)) (fun a r hb hO => pX2_without_4 K hret hb (fun _ e => by cases e) (fun z e => hO z (by cases e; rfl))) n a r h hO
set_option maxRecDepth 20000 in
theorem mX2_without (l : Launch) (w : kW) (σ : kS) (x1 : Int32) {o : Int32} (h : fX2_without σ x1 = some o) : Met l yX2_without (Cond.code yX2_without cX2_without 7 (some .boolean) :: TB) rmX2_without (va_Pc [.ref (kL w 126), .int x1] (kP w σ)) (kQi w o σ) 0 0 (kA w) := by
  refine k_met (by decide +kernel) [.ref (kL w 126), .int x1] (Nat.le_of_ble_eq_true rfl) (by simp [lv_args, Value.category]) ?_
  intro p e s m args below meth c K hret
  have K : kC w p s m args meth c cX2_without 7 RX2 := K
  obtain ⟨r, hro⟩ : ∃ r, r = o := ⟨o, rfl⟩
  rw [← hro] at h
  have hO : ∀ z, r = z → z = o := fun z e => by rw [← e]; exact hro
  unfold fX2_without at h
  refine k_iconst (v := 1) K dX2_without_0 (by decide) ?_
  refine k_istore_n (lv' := [(2, .int 1), (0, .ref (kL w 126)), (1, .int x1)]) K dX2_without_1 (by decide) rfl ?_
  refine k_iconst (v := 0) K dX2_without_2 (by decide) ?_
  refine k_istore_n (lv' := [(3, .int 0), (2, .int 1), (0, .ref (kL w 126)), (1, .int x1)]) K dX2_without_3 (by decide) rfl ?_
  refine k_sub [2, 3, 1, 0] rfl ?_
  exact lX2_without_4 K hret h hO
end F_X2_without
section C_X2_without
variable {w : kW} {p : Program} {l : Launch} {e : Env} {R : Room} {s : State} {m : MethodId} {args : Array Value} {below : List Frame} {meth : Method} {c : Code} {Q : State → Prop} {cc : ByteArray} {nL : Nat} {σ : kS} {pc : Nat} {lv : List (Nat × Value)} {st rest : List Value} {cells slots : Nat}
theorem cl_X2_111 (K : kC w p s m args meth c cc nL RX2) {a1 : Int32} {r : Int32} (d : decode cc pc = .ok (.invokevirtual 111, 3)) (h : fX2_without σ a1 = some r) (hR : rmX2_without.frames + 1 ≤ R.frames ∧ 8 + (7 + 11) + rmX2_without.locals ≤ R.locals) (hr : (rest.map fun v => v.category).sum ≤ 8) (hf : cells + 0 ≤ R.cells ∧ slots + 0 ≤ R.slots) (kk : kG w p l e R s m args below meth c Q nL σ (pc + 3) lv (.int r :: rest) (cells + 0) (slots + 0)) : kG w p l e R s m args below meth c Q nL σ pc lv (.int a1 :: .ref (kL w 126) :: rest) cells slots :=
  k_callVi (As := [.int a1]) (rest := rest) (n := 1) (C := RX2) (T := TX2) K d kd_126 rfl (kg_V tw_674 tw_676 tw_37 tw_50 tw_677) rfl (by decide +kernel) rfl hR hr rfl hf (mX2_without l w σ a1 h) ⟨rfl, rfl⟩ kk
end C_X2_without
section F_X2_fail
variable {w : kW} {p : Program} {l : Launch} {e : Env} {s : State} {m : MethodId} {args : Array Value} {below : List Frame} {meth : Method} {c : Code}
def fX2_fail_38 (x1 : Int32) (t1 : Int32) (t2 : Int32) (σ : kS) : Option (Int32 × kS) :=
  (fX2_goes σ t1 t2 1).bind fun r1 =>
  if r1.1 = 0 then
    some ((0, r1.2))
  else
    if vpi x1 256 then
      (fX2_empty (sI r1.2 127 x1.toNatClampNeg 2) x1).bind fun r4 =>
      (fX2_many r4).bind fun r5 =>
      some ((r5, r4))
    else none
def fX2_fail_37 (x1 : Int32) (t1 : Int32) (σ : kS) : Option (Int32 × kS) :=
  fX2_fail_38 x1 t1 0 σ
def fX2_fail (σ : kS) (x1 : Int32) : Option (Int32 × kS) :=
  (fX2_member σ x1).bind fun r1 =>
  if r1 = 0 then
    fX2_fail_37 x1 r1 σ
  else
    (fX2_many σ).bind fun r3 =>
    if (r3 - 1) ≤ (σ.1 126 1) then
      fX2_fail_37 x1 r1 σ
    else
      (fX2_without σ x1).bind fun r5 =>
      if r5 = 0 then
        fX2_fail_37 x1 r1 σ
      else
        fX2_fail_38 x1 r1 1 σ
def rmX2_fail : Room := { frames := 3, cells := 0, slots := 0, locals := 67 }
set_option maxRecDepth 20000 in
theorem pX2_fail_38 (K : kC w p s m args meth c cX2_fail 3 RX2) (hret : meth.sig.returnType = (some .int)) {x1 : Int32} {t1 : Int32} {t2 : Int32} {σ : kS} {r : (Int32 × kS)} {o : (Int32 × kS)} (h : fX2_fail_38 x1 t1 t2 σ = some r) (hO : ∀ z, r = z → z = o) : kG w p l e rmX2_fail s m args below meth c (MQ below (kQi w o.1 o.2) args s 0 0 (kA w)) 3 σ 38 [(0, .ref (kL w 126)), (1, .int x1)] [.int t2, .int t1, .ref (kL w 126)] 0 0 := by
  unfold fX2_fail_38 at h
  refine k_iconst (v := 1) K dX2_fail_38 (by decide) ?_
  replace h := k_bd h
  obtain ⟨r1, hr1, h⟩ := h
  refine cl_X2_69 K dX2_fail_39 hr1 (by decide) (Nat.le_of_ble_eq_true rfl) (by decide) ?_
  replace h := k_br h
  rcases h with ⟨b2, h⟩ | ⟨b2, h⟩
  · refine k_if_ne K 47 dX2_fail_42 (by decide) (fun q => absurd b2 q) (fun _ => ?_)
    refine k_iconst (v := 0) K dX2_fail_45 (by decide) ?_
    cases h
    obtain rfl := hO _ rfl
    exact k_iret (v := 0) K hret dX2_fail_46 (by decide) (by decide)
  · refine k_if_ne K 47 dX2_fail_42 (by decide) (fun _ => ?_) (fun q => absurd q b2)
    refine k_aload_n K dX2_fail_47 0 rfl ?_
    refine fg_X2_13 K dX2_fail_48 ?_
    refine k_iload_n K dX2_fail_51 1 rfl ?_
    refine k_iconst (v := 2) K dX2_fail_52 (by decide) ?_
    replace h := k_gd h
    obtain ⟨g3, h⟩ := h
    refine k_iast K dX2_fail_53 kd_127 g3 ?_
    refine k_aload_n K dX2_fail_54 0 rfl ?_
    refine k_iload_n K dX2_fail_55 1 rfl ?_
    replace h := k_bd h
    obtain ⟨r4, hr4, h⟩ := h
    refine cl_X2_73 K dX2_fail_56 hr4 (by decide) (Nat.le_of_ble_eq_true rfl) (by decide) ?_
    refine k_aload_n K dX2_fail_59 0 rfl ?_
    replace h := k_bd h
    obtain ⟨r5, hr5, h⟩ := h
    refine cl_X2_65 K dX2_fail_60 hr5 (by decide) (Nat.le_of_ble_eq_true rfl) (by decide) ?_
    cases h
    obtain rfl := hO _ rfl
    exact k_iret K hret dX2_fail_63 (by decide) (by decide)
set_option maxRecDepth 20000 in
theorem pX2_fail_37 (K : kC w p s m args meth c cX2_fail 3 RX2) (hret : meth.sig.returnType = (some .int)) {x1 : Int32} {t1 : Int32} {σ : kS} {r : (Int32 × kS)} {o : (Int32 × kS)} (h : fX2_fail_37 x1 t1 σ = some r) (hO : ∀ z, r = z → z = o) : kG w p l e rmX2_fail s m args below meth c (MQ below (kQi w o.1 o.2) args s 0 0 (kA w)) 3 σ 37 [(0, .ref (kL w 126)), (1, .int x1)] [.int t1, .ref (kL w 126)] 0 0 := by
  unfold fX2_fail_37 at h
  refine k_iconst (v := 0) K dX2_fail_37 (by decide) ?_
  exact pX2_fail_38 K hret h hO
set_option maxRecDepth 20000 in
theorem mX2_fail (l : Launch) (w : kW) (σ : kS) (x1 : Int32) {o : (Int32 × kS)} (h : fX2_fail σ x1 = some o) : Met l yX2_fail (Cond.code yX2_fail cX2_fail 3 (some .int) :: TB) rmX2_fail (va_Pc [.ref (kL w 126), .int x1] (kP w σ)) (kQi w o.1 o.2) 0 0 (kA w) := by
  refine k_met (by decide +kernel) [.ref (kL w 126), .int x1] (Nat.le_of_ble_eq_true rfl) (by simp [lv_args, Value.category]) ?_
  intro p e s m args below meth c K hret
  have K : kC w p s m args meth c cX2_fail 3 RX2 := K
  obtain ⟨r, hro⟩ : ∃ r, r = o := ⟨o, rfl⟩
  rw [← hro] at h
  have hO : ∀ z, r = z → z = o := fun z e => by rw [← e]; exact hro
  unfold fX2_fail at h
  refine k_aload_n K dX2_fail_0 0 rfl ?_
  refine k_iload_n K dX2_fail_1 1 rfl ?_
  replace h := k_bd h
  obtain ⟨r1, hr1, h⟩ := h
  refine cl_X2_101 K dX2_fail_2 hr1 (by decide) (Nat.le_of_ble_eq_true rfl) (by decide) ?_
  refine k_istore_n (lv' := [(2, .int r1), (0, .ref (kL w 126)), (1, .int x1)]) K dX2_fail_5 (by decide) rfl ?_
  refine k_aload_n K dX2_fail_6 1 rfl ?_
  refine k_iload_n K dX2_fail_7 0 rfl ?_
  refine k_iload_n K dX2_fail_8 0 rfl ?_
  replace h := k_br h
  rcases h with ⟨b2, h⟩ | ⟨b2, h⟩
  · refine k_if_eq K 37 dX2_fail_9 (by decide) (fun _ => ?_) (fun q => absurd b2 q)
    refine k_sub [1, 2] rfl ?_
    exact pX2_fail_37 K hret h hO
  · refine k_if_eq K 37 dX2_fail_9 (by decide) (fun q => absurd q b2) (fun _ => ?_)
    refine k_aload_n K dX2_fail_12 1 rfl ?_
    replace h := k_bd h
    obtain ⟨r3, hr3, h⟩ := h
    refine cl_X2_65 K dX2_fail_13 hr3 (by decide) (Nat.le_of_ble_eq_true rfl) (by decide) ?_
    refine k_iconst (v := 1) K dX2_fail_16 (by decide) ?_
    refine k_isub K dX2_fail_17 ?_
    refine k_aload_n K dX2_fail_18 1 rfl ?_
    refine fg_X2_7 K dX2_fail_19 ?_
    replace h := k_br h
    rcases h with ⟨b4, h⟩ | ⟨b4, h⟩
    · refine k_icmp_le K 37 dX2_fail_22 (by decide) (fun _ => ?_) (fun q => absurd b4 q)
      refine k_sub [1, 2] rfl ?_
      exact pX2_fail_37 K hret h hO
    · refine k_icmp_le K 37 dX2_fail_22 (by decide) (fun q => absurd q b4) (fun _ => ?_)
      refine k_aload_n K dX2_fail_25 1 rfl ?_
      refine k_iload_n K dX2_fail_26 2 rfl ?_
      replace h := k_bd h
      obtain ⟨r5, hr5, h⟩ := h
      refine cl_X2_111 K dX2_fail_27 hr5 (by decide) (Nat.le_of_ble_eq_true rfl) (by decide) ?_
      replace h := k_br h
      rcases h with ⟨b6, h⟩ | ⟨b6, h⟩
      · refine k_if_eq K 37 dX2_fail_30 (by decide) (fun _ => ?_) (fun q => absurd b6 q)
        refine k_sub [1, 2] rfl ?_
        exact pX2_fail_37 K hret h hO
      · refine k_if_eq K 37 dX2_fail_30 (by decide) (fun q => absurd q b6) (fun _ => ?_)
        refine k_iconst (v := 1) K dX2_fail_33 (by decide) ?_
        refine k_goto K 38 dX2_fail_34 (by decide) ?_
        refine k_sub [1, 2] rfl ?_
        exact pX2_fail_38 K hret h hO
end F_X2_fail
section F_X2_give
variable {w : kW} {p : Program} {l : Launch} {e : Env} {s : State} {m : MethodId} {args : Array Value} {below : List Frame} {meth : Method} {c : Code}
def fX2_give_82 (x1 : Int32) (x2 : Int32) (x3 : Int32) (x4 : Int32) (σ : kS) : Option ((Int32 × Int32 × kS) ⊕ (Int32 × kS)) :=
  some (.inl (x3, x4 + 1, σ))
def gX2_give_5 (x1 : Int32) (x2 : Int32) (x3 : Int32) (x4 : Int32) (σ : kS) : Option ((Int32 × Int32 × kS) ⊕ (Int32 × kS)) :=
  if (σ.1 126 1) ≤ x4 then
    some (.inr ((x3, σ)))
  else
    if vpi ((4 * x1) + x4) 1024 then
      (fX2_live σ (σ.1 128 ((4 * x1) + x4).toNatClampNeg)).bind fun r3 =>
      if r3 = 0 then
        fX2_give_82 x1 x2 x3 x4 σ
      else
        if (σ.1 128 ((4 * x1) + x4).toNatClampNeg) = x1 then
          fX2_give_82 x1 x2 x3 x4 σ
        else
          (fX2_higher σ ((64 * x1) + x2) ((64 * (σ.1 128 ((4 * x1) + x4).toNatClampNeg)) + x2)).bind fun r6 =>
          if r6 = 0 then
            fX2_give_82 x1 x2 x3 x4 σ
          else
            (fX2_copy σ ((64 * x1) + x2) ((64 * (σ.1 128 ((4 * x1) + x4).toNatClampNeg)) + x2)).bind fun r8 =>
            fX2_give_82 x1 x2 (x3 + 1) x4 r8
    else none
def fX2_give_5 (x1 : Int32) (x2 : Int32) (a : Int32 × Int32 × kS) : Option ((Int32 × Int32 × kS) ⊕ (Int32 × kS)) := gX2_give_5 x1 x2 a.1 a.2.1 a.2.2
def fX2_give (σ : kS) (x1 : Int32) (x2 : Int32) : Option (Int32 × kS) :=
  kit (fX2_give_5 x1 x2) 300 (0, 0, σ)
def rmX2_give : Room := { frames := 2, cells := 0, slots := 0, locals := 41 }
set_option maxRecDepth 20000 in
theorem pX2_give_82 (K : kC w p s m args meth c cX2_give 6 RX2) (hret : meth.sig.returnType = (some .int)) {x1 : Int32} {x2 : Int32} {x3 : Int32} {x4 : Int32} {σ : kS} {r : ((Int32 × Int32 × kS) ⊕ (Int32 × kS))} {o : (Int32 × kS)} (h : fX2_give_82 x1 x2 x3 x4 σ = some r) (hL5 : ∀ z, r = .inl z → kG w p l e rmX2_give s m args below meth c (MQ below (kQi w o.1 o.2) args s 0 0 (kA w)) 6 z.2.2 5 [(0, .ref (kL w 126)), (1, .int x1), (2, .int x2), (3, .int (z.1)), (4, .int (z.2.1))] [] 0 0) (hO : ∀ z, r = .inr z → z = o) : kG w p l e rmX2_give s m args below meth c (MQ below (kQi w o.1 o.2) args s 0 0 (kA w)) 6 σ 82 [(0, .ref (kL w 126)), (1, .int x1), (2, .int x2), (3, .int x3), (4, .int x4)] [] 0 0 := by
  unfold fX2_give_82 at h
  refine k_iinc (v := 1) (lv' := [(4, .int (x4 + 1)), (0, .ref (kL w 126)), (1, .int x1), (2, .int x2), (3, .int x3)]) K dX2_give_82 4 rfl (by decide) (by decide) rfl ?_
  refine k_goto K 5 dX2_give_85 (by decide) ?_
  refine k_sub [1, 2, 3, 4, 0] rfl ?_
  cases h
  exact hL5 _ rfl
set_option maxRecDepth 20000 in
theorem pX2_give_5 (K : kC w p s m args meth c cX2_give 6 RX2) (hret : meth.sig.returnType = (some .int)) {x1 : Int32} {x2 : Int32} {x3 : Int32} {x4 : Int32} {σ : kS} {r : ((Int32 × Int32 × kS) ⊕ (Int32 × kS))} {o : (Int32 × kS)} (h : gX2_give_5 x1 x2 x3 x4 σ = some r) (hL5 : ∀ z, r = .inl z → kG w p l e rmX2_give s m args below meth c (MQ below (kQi w o.1 o.2) args s 0 0 (kA w)) 6 z.2.2 5 [(0, .ref (kL w 126)), (1, .int x1), (2, .int x2), (3, .int (z.1)), (4, .int (z.2.1))] [] 0 0) (hO : ∀ z, r = .inr z → z = o) : kG w p l e rmX2_give s m args below meth c (MQ below (kQi w o.1 o.2) args s 0 0 (kA w)) 6 σ 5 [(0, .ref (kL w 126)), (1, .int x1), (2, .int x2), (3, .int x3), (4, .int x4)] [] 0 0 := by
  unfold gX2_give_5 at h
  refine k_iload K dX2_give_5 4 rfl ?_
  refine k_aload_n K dX2_give_7 0 rfl ?_
  refine fg_X2_7 K dX2_give_8 ?_
  replace h := k_br h
  rcases h with ⟨b1, h⟩ | ⟨b1, h⟩
  · refine k_icmp_ge K 88 dX2_give_11 (by decide) (fun _ => ?_) (fun q => absurd b1 q)
    refine k_iload_n K dX2_give_88 3 rfl ?_
    cases h
    obtain rfl := hO _ rfl
    exact k_iret K hret dX2_give_89 (by decide) (by decide)
  · refine k_icmp_ge K 88 dX2_give_11 (by decide) (fun q => absurd q b1) (fun _ => ?_)
    refine k_aload_n K dX2_give_14 0 rfl ?_
    refine fg_X2_17 K dX2_give_15 ?_
    refine k_iconst (v := 4) K dX2_give_18 (by decide) ?_
    refine k_iload_n K dX2_give_19 1 rfl ?_
    refine k_imul K dX2_give_20 ?_
    refine k_iload K dX2_give_21 4 rfl ?_
    refine k_iadd K dX2_give_23 ?_
    replace h := k_gd h
    obtain ⟨g2, h⟩ := h
    refine k_iald K dX2_give_24 kd_128 g2 ?_
    refine k_istore (lv' := [(5, .int (σ.1 128 ((4 * x1) + x4).toNatClampNeg)), (0, .ref (kL w 126)), (1, .int x1), (2, .int x2), (3, .int x3), (4, .int x4)]) K dX2_give_25 (by decide) rfl ?_
    refine k_aload_n K dX2_give_27 1 rfl ?_
    refine k_iload K dX2_give_28 0 rfl ?_
    replace h := k_bd h
    obtain ⟨r3, hr3, h⟩ := h
    refine cl_X2_58 K dX2_give_30 hr3 (by decide) (Nat.le_of_ble_eq_true rfl) (by decide) ?_
    replace h := k_br h
    rcases h with ⟨b4, h⟩ | ⟨b4, h⟩
    · refine k_if_eq K 82 dX2_give_33 (by decide) (fun _ => ?_) (fun q => absurd b4 q)
      refine k_sub [1, 2, 3, 4, 5] rfl ?_
      exact pX2_give_82 K hret h hL5 hO
    · refine k_if_eq K 82 dX2_give_33 (by decide) (fun q => absurd q b4) (fun _ => ?_)
      refine k_iload K dX2_give_36 0 rfl ?_
      refine k_iload_n K dX2_give_38 2 rfl ?_
      replace h := k_br h
      rcases h with ⟨b5, h⟩ | ⟨b5, h⟩
      · refine k_icmp_eq K 82 dX2_give_39 (by decide) (fun _ => ?_) (fun q => absurd b5 q)
        refine k_sub [1, 2, 3, 4, 5] rfl ?_
        exact pX2_give_82 K hret h hL5 hO
      · refine k_icmp_eq K 82 dX2_give_39 (by decide) (fun q => absurd q b5) (fun _ => ?_)
        refine k_aload_n K dX2_give_42 1 rfl ?_
        refine k_bipush (v := 64) K dX2_give_43 (by decide) ?_
        refine k_iload_n K dX2_give_45 2 rfl ?_
        refine k_imul K dX2_give_46 ?_
        refine k_iload_n K dX2_give_47 3 rfl ?_
        refine k_iadd K dX2_give_48 ?_
        refine k_bipush (v := 64) K dX2_give_49 (by decide) ?_
        refine k_iload K dX2_give_51 0 rfl ?_
        refine k_imul K dX2_give_53 ?_
        refine k_iload_n K dX2_give_54 3 rfl ?_
        refine k_iadd K dX2_give_55 ?_
        replace h := k_bd h
        obtain ⟨r6, hr6, h⟩ := h
        refine cl_X2_127 K dX2_give_56 hr6 (by decide) (Nat.le_of_ble_eq_true rfl) (by decide) ?_
        replace h := k_br h
        rcases h with ⟨b7, h⟩ | ⟨b7, h⟩
        · refine k_if_eq K 82 dX2_give_59 (by decide) (fun _ => ?_) (fun q => absurd b7 q)
          refine k_sub [1, 2, 3, 4, 5] rfl ?_
          exact pX2_give_82 K hret h hL5 hO
        · refine k_if_eq K 82 dX2_give_59 (by decide) (fun q => absurd q b7) (fun _ => ?_)
          refine k_aload_n K dX2_give_62 1 rfl ?_
          refine k_bipush (v := 64) K dX2_give_63 (by decide) ?_
          refine k_iload_n K dX2_give_65 2 rfl ?_
          refine k_imul K dX2_give_66 ?_
          refine k_iload_n K dX2_give_67 3 rfl ?_
          refine k_iadd K dX2_give_68 ?_
          refine k_bipush (v := 64) K dX2_give_69 (by decide) ?_
          refine k_iload K dX2_give_71 0 rfl ?_
          refine k_imul K dX2_give_73 ?_
          refine k_iload_n K dX2_give_74 3 rfl ?_
          refine k_iadd K dX2_give_75 ?_
          replace h := k_bd h
          obtain ⟨r8, hr8, h⟩ := h
          refine cl_X2_130 K dX2_give_76 hr8 (by decide) (Nat.le_of_ble_eq_true rfl) (by decide) ?_
          refine k_iinc (v := 1) (lv' := [(3, .int (x3 + 1)), (5, .int (σ.1 128 ((4 * x1) + x4).toNatClampNeg)), (0, .ref (kL w 126)), (1, .int x1), (2, .int x2), (4, .int x4)]) K dX2_give_79 4 rfl (by decide) (by decide) rfl ?_
          refine k_sub [2, 3, 4, 0, 5] rfl ?_
          exact pX2_give_82 K hret h hL5 hO
set_option maxRecDepth 20000 in
theorem lX2_give_5 (K : kC w p s m args meth c cX2_give 6 RX2) (hret : meth.sig.returnType = (some .int)) {x1 : Int32} {x2 : Int32} {n : Nat} {a : Int32 × Int32 × kS} {r : (Int32 × kS)} {o : (Int32 × kS)} (h : kit (fX2_give_5 x1 x2) n a = some r) (hO : ∀ z, r = z → z = o) : kG w p l e rmX2_give s m args below meth c (MQ below (kQi w o.1 o.2) args s 0 0 (kA w)) 6 a.2.2 5 [(0, .ref (kL w 126)), (1, .int x1), (2, .int x2), (3, .int (a.1)), (4, .int (a.2.1))] [] 0 0 :=
  kit_ind (body := fX2_give_5 x1 x2) (fun a r => (∀ z, r = z → z = o) → kG w p l e rmX2_give s m args below meth c (MQ below (kQi w o.1 o.2) args s 0 0 (kA w)) 6 a.2.2 5 [(0, .ref (kL w 126)), (1, .int x1), (2, .int x2), (3, .int (a.1)), (4, .int (a.2.1))] [] 0 0) (fun a a2 r hb ih hO => pX2_give_5 K hret hb (fun z e => by cases e; exact ih hO) (fun _ e => by cases e)) (fun a r hb hO => pX2_give_5 K hret hb (fun _ e => by cases e) (fun z e => hO z (by cases e; rfl))) n a r h hO
set_option maxRecDepth 20000 in
theorem mX2_give (l : Launch) (w : kW) (σ : kS) (x1 : Int32) (x2 : Int32) {o : (Int32 × kS)} (h : fX2_give σ x1 x2 = some o) : Met l yX2_give (Cond.code yX2_give cX2_give 6 (some .int) :: TB) rmX2_give (va_Pc [.ref (kL w 126), .int x1, .int x2] (kP w σ)) (kQi w o.1 o.2) 0 0 (kA w) := by
  refine k_met (by decide +kernel) [.ref (kL w 126), .int x1, .int x2] (Nat.le_of_ble_eq_true rfl) (by simp [lv_args, Value.category]) ?_
  intro p e s m args below meth c K hret
  have K : kC w p s m args meth c cX2_give 6 RX2 := K
  obtain ⟨r, hro⟩ : ∃ r, r = o := ⟨o, rfl⟩
  rw [← hro] at h
  have hO : ∀ z, r = z → z = o := fun z e => by rw [← e]; exact hro
  unfold fX2_give at h
  refine k_iconst (v := 0) K dX2_give_0 (by decide) ?_
  refine k_istore_n (lv' := [(3, .int 0), (0, .ref (kL w 126)), (1, .int x1), (2, .int x2)]) K dX2_give_1 (by decide) rfl ?_
  refine k_iconst (v := 0) K dX2_give_2 (by decide) ?_
  refine k_istore (lv' := [(4, .int 0), (3, .int 0), (0, .ref (kL w 126)), (1, .int x1), (2, .int x2)]) K dX2_give_3 (by decide) rfl ?_
  refine k_sub [2, 3, 4, 1, 0] rfl ?_
  exact lX2_give_5 K hret h hO
end F_X2_give
section C_X2_give
variable {w : kW} {p : Program} {l : Launch} {e : Env} {R : Room} {s : State} {m : MethodId} {args : Array Value} {below : List Frame} {meth : Method} {c : Code} {Q : State → Prop} {cc : ByteArray} {nL : Nat} {σ : kS} {pc : Nat} {lv : List (Nat × Value)} {st rest : List Value} {cells slots : Nat}
theorem cl_X2_136 (K : kC w p s m args meth c cc nL RX2) {a1 : Int32} {a2 : Int32} {r : (Int32 × kS)} (d : decode cc pc = .ok (.invokevirtual 136, 3)) (h : fX2_give σ a1 a2 = some r) (hR : rmX2_give.frames + 1 ≤ R.frames ∧ 8 + (6 + 11) + rmX2_give.locals ≤ R.locals) (hr : (rest.map fun v => v.category).sum ≤ 8) (hf : cells + 0 ≤ R.cells ∧ slots + 0 ≤ R.slots) (kk : kG w p l e R s m args below meth c Q nL r.2 (pc + 3) lv (.int r.1 :: rest) (cells + 0) (slots + 0)) : kG w p l e R s m args below meth c Q nL σ pc lv (.int a2 :: .int a1 :: .ref (kL w 126) :: rest) cells slots :=
  k_callVi (As := [.int a1, .int a2]) (rest := rest) (n := 2) (C := RX2) (T := TX2) K d kd_126 rfl (kg_V tw_725 tw_727 tw_45 tw_50 tw_728) rfl (by decide +kernel) rfl hR hr rfl hf (mX2_give l w σ a1 a2 h) ⟨rfl, rfl⟩ kk
end C_X2_give
section F_X2_owner
variable {w : kW} {p : Program} {l : Launch} {e : Env} {s : State} {m : MethodId} {args : Array Value} {below : List Frame} {meth : Method} {c : Code}
def fX2_owner (σ : kS) (x1 : Int32) : Option (Int32 × kS) :=
  (fX2_isPoint x1).bind fun r1 =>
  (fX2_goes σ r1 1 1).bind fun r2 =>
  if r2.1 = 0 then
    some ((0, r2.2))
  else
    (fX2_next r2.2 x1).bind fun r4 =>
    some ((r4, r2.2))
def rmX2_owner : Room := { frames := 1, cells := 0, slots := 0, locals := 23 }
set_option maxRecDepth 20000 in
theorem mX2_owner (l : Launch) (w : kW) (σ : kS) (x1 : Int32) {o : (Int32 × kS)} (h : fX2_owner σ x1 = some o) : Met l yX2_owner (Cond.code yX2_owner cX2_owner 2 (some .int) :: TB) rmX2_owner (va_Pc [.ref (kL w 126), .int x1] (kP w σ)) (kQi w o.1 o.2) 0 0 (kA w) := by
  refine k_met (by decide +kernel) [.ref (kL w 126), .int x1] (Nat.le_of_ble_eq_true rfl) (by simp [lv_args, Value.category]) ?_
  intro p e s m args below meth c K hret
  have K : kC w p s m args meth c cX2_owner 2 RX2 := K
  obtain ⟨r, hro⟩ : ∃ r, r = o := ⟨o, rfl⟩
  rw [← hro] at h
  have hO : ∀ z, r = z → z = o := fun z e => by rw [← e]; exact hro
  unfold fX2_owner at h
  refine k_aload_n K dX2_owner_0 0 rfl ?_
  refine k_iload_n K dX2_owner_1 1 rfl ?_
  replace h := k_bd h
  obtain ⟨r1, hr1, h⟩ := h
  refine cl_X2_50 K dX2_owner_2 hr1 (by decide) (Nat.le_of_ble_eq_true rfl) (by decide) ?_
  refine k_iconst (v := 1) K dX2_owner_5 (by decide) ?_
  refine k_iconst (v := 1) K dX2_owner_6 (by decide) ?_
  replace h := k_bd h
  obtain ⟨r2, hr2, h⟩ := h
  refine cl_X2_69 K dX2_owner_7 hr2 (by decide) (Nat.le_of_ble_eq_true rfl) (by decide) ?_
  replace h := k_br h
  rcases h with ⟨b3, h⟩ | ⟨b3, h⟩
  · refine k_if_eq K 21 dX2_owner_10 (by decide) (fun _ => ?_) (fun q => absurd b3 q)
    refine k_iconst (v := 0) K dX2_owner_21 (by decide) ?_
    cases h
    obtain rfl := hO _ rfl
    exact k_iret (v := 0) K hret dX2_owner_22 (by decide) (by decide)
  · refine k_if_eq K 21 dX2_owner_10 (by decide) (fun q => absurd q b3) (fun _ => ?_)
    refine k_aload_n K dX2_owner_13 0 rfl ?_
    refine k_iload_n K dX2_owner_14 1 rfl ?_
    replace h := k_bd h
    obtain ⟨r4, hr4, h⟩ := h
    refine cl_X2_77 K dX2_owner_15 hr4 (by decide) (Nat.le_of_ble_eq_true rfl) (by decide) ?_
    refine k_goto K 22 dX2_owner_18 (by decide) ?_
    cases h
    obtain rfl := hO _ rfl
    exact k_iret K hret dX2_owner_22 (by decide) (by decide)
end F_X2_owner
section F_X2_hop
variable {w : kW} {p : Program} {l : Launch} {e : Env} {s : State} {m : MethodId} {args : Array Value} {below : List Frame} {meth : Method} {c : Code}
def fX2_hop_18 (x1 : Int32) (t1 : Int32) (σ : kS) : Option (Int32 × kS) :=
  (fX2_goes σ t1 1 1).bind fun r1 =>
  if r1.1 = 0 then
    some ((0, r1.2))
  else
    if vpi x1 64 then
      some (((r1.2).1 137 x1.toNatClampNeg, r1.2))
    else none
def fX2_hop_17 (x1 : Int32) (σ : kS) : Option (Int32 × kS) :=
  fX2_hop_18 x1 0 σ
def fX2_hop (σ : kS) (x1 : Int32) : Option (Int32 × kS) :=
  if x1 < 0 then
    fX2_hop_17 x1 σ
  else
    if (σ.1 126 13) ≤ x1 then
      fX2_hop_17 x1 σ
    else
      fX2_hop_18 x1 1 σ
def rmX2_hop : Room := { frames := 1, cells := 0, slots := 0, locals := 23 }
set_option maxRecDepth 20000 in
theorem pX2_hop_18 (K : kC w p s m args meth c cX2_hop 2 RX2) (hret : meth.sig.returnType = (some .int)) {x1 : Int32} {t1 : Int32} {σ : kS} {r : (Int32 × kS)} {o : (Int32 × kS)} (h : fX2_hop_18 x1 t1 σ = some r) (hO : ∀ z, r = z → z = o) : kG w p l e rmX2_hop s m args below meth c (MQ below (kQi w o.1 o.2) args s 0 0 (kA w)) 2 σ 18 [(0, .ref (kL w 126)), (1, .int x1)] [.int t1, .ref (kL w 126)] 0 0 := by
  unfold fX2_hop_18 at h
  refine k_iconst (v := 1) K dX2_hop_18 (by decide) ?_
  refine k_iconst (v := 1) K dX2_hop_19 (by decide) ?_
  replace h := k_bd h
  obtain ⟨r1, hr1, h⟩ := h
  refine cl_X2_69 K dX2_hop_20 hr1 (by decide) (Nat.le_of_ble_eq_true rfl) (by decide) ?_
  replace h := k_br h
  rcases h with ⟨b2, h⟩ | ⟨b2, h⟩
  · refine k_if_eq K 35 dX2_hop_23 (by decide) (fun _ => ?_) (fun q => absurd b2 q)
    refine k_iconst (v := 0) K dX2_hop_35 (by decide) ?_
    cases h
    obtain rfl := hO _ rfl
    exact k_iret (v := 0) K hret dX2_hop_36 (by decide) (by decide)
  · refine k_if_eq K 35 dX2_hop_23 (by decide) (fun q => absurd q b2) (fun _ => ?_)
    refine k_aload_n K dX2_hop_26 0 rfl ?_
    refine fg_X2_44 K dX2_hop_27 ?_
    refine k_iload_n K dX2_hop_30 1 rfl ?_
    replace h := k_gd h
    obtain ⟨g3, h⟩ := h
    refine k_iald K dX2_hop_31 kd_137 g3 ?_
    refine k_goto K 36 dX2_hop_32 (by decide) ?_
    cases h
    obtain rfl := hO _ rfl
    exact k_iret (v := (r1.2).1 137 x1.toNatClampNeg) K hret dX2_hop_36 (by decide) (by decide)
set_option maxRecDepth 20000 in
theorem pX2_hop_17 (K : kC w p s m args meth c cX2_hop 2 RX2) (hret : meth.sig.returnType = (some .int)) {x1 : Int32} {σ : kS} {r : (Int32 × kS)} {o : (Int32 × kS)} (h : fX2_hop_17 x1 σ = some r) (hO : ∀ z, r = z → z = o) : kG w p l e rmX2_hop s m args below meth c (MQ below (kQi w o.1 o.2) args s 0 0 (kA w)) 2 σ 17 [(0, .ref (kL w 126)), (1, .int x1)] [.ref (kL w 126)] 0 0 := by
  unfold fX2_hop_17 at h
  refine k_iconst (v := 0) K dX2_hop_17 (by decide) ?_
  exact pX2_hop_18 K hret h hO
set_option maxRecDepth 20000 in
theorem mX2_hop (l : Launch) (w : kW) (σ : kS) (x1 : Int32) {o : (Int32 × kS)} (h : fX2_hop σ x1 = some o) : Met l yX2_hop (Cond.code yX2_hop cX2_hop 2 (some .int) :: TB) rmX2_hop (va_Pc [.ref (kL w 126), .int x1] (kP w σ)) (kQi w o.1 o.2) 0 0 (kA w) := by
  refine k_met (by decide +kernel) [.ref (kL w 126), .int x1] (Nat.le_of_ble_eq_true rfl) (by simp [lv_args, Value.category]) ?_
  intro p e s m args below meth c K hret
  have K : kC w p s m args meth c cX2_hop 2 RX2 := K
  obtain ⟨r, hro⟩ : ∃ r, r = o := ⟨o, rfl⟩
  rw [← hro] at h
  have hO : ∀ z, r = z → z = o := fun z e => by rw [← e]; exact hro
  unfold fX2_hop at h
  refine k_aload_n K dX2_hop_0 0 rfl ?_
  refine k_iload_n K dX2_hop_1 1 rfl ?_
  replace h := k_br h
  rcases h with ⟨b1, h⟩ | ⟨b1, h⟩
  · refine k_if_lt K 17 dX2_hop_2 (by decide) (fun _ => ?_) (fun q => absurd b1 q)
    exact pX2_hop_17 K hret h hO
  · refine k_if_lt K 17 dX2_hop_2 (by decide) (fun q => absurd q b1) (fun _ => ?_)
    refine k_iload_n K dX2_hop_5 1 rfl ?_
    refine k_aload_n K dX2_hop_6 0 rfl ?_
    refine fg_X2_142 K dX2_hop_7 ?_
    replace h := k_br h
    rcases h with ⟨b2, h⟩ | ⟨b2, h⟩
    · refine k_icmp_ge K 17 dX2_hop_10 (by decide) (fun _ => ?_) (fun q => absurd b2 q)
      exact pX2_hop_17 K hret h hO
    · refine k_icmp_ge K 17 dX2_hop_10 (by decide) (fun q => absurd q b2) (fun _ => ?_)
      refine k_iconst (v := 1) K dX2_hop_13 (by decide) ?_
      refine k_goto K 18 dX2_hop_14 (by decide) ?_
      exact pX2_hop_18 K hret h hO
end F_X2_hop
section F_X2_open
variable {w : kW} {p : Program} {l : Launch} {e : Env} {s : State} {m : MethodId} {args : Array Value} {below : List Frame} {meth : Method} {c : Code}
def fX2_open_123 (x1 : Int32) (σ : kS) : Option ((Int32 × kS) ⊕ (Int32 × kS)) :=
  some (.inl (x1 + 1, σ))
def gX2_open_67 (x1 : Int32) (x2 : Int32) (x3 : Int32) (σ : kS) : Option ((Int32 × Int32 × kS) ⊕ ((Int32 × kS) ⊕ (Int32 × kS))) :=
  if (σ.1 126 1) ≤ x3 then
    (fX2_last σ ((x1 + 255) - (x1 + 255) / 256 * 256)).bind fun r2 =>
    if vpi x1 256 then
      (fX2_open_123 x1 (sI σ 129 x1.toNatClampNeg r2)).map .inr
    else none
  else
    (fX2_next σ ((x2 + 1) - (x2 + 1) / 256 * 256)).bind fun r4 =>
    if vpi ((4 * x1) + x3) 1024 then
      some (.inl (r4, x3 + 1, sI σ 128 ((4 * x1) + x3).toNatClampNeg r4))
    else none
def fX2_open_67 (x1 : Int32) (a : Int32 × Int32 × kS) : Option ((Int32 × Int32 × kS) ⊕ ((Int32 × kS) ⊕ (Int32 × kS))) := gX2_open_67 x1 a.1 a.2.1 a.2.2
def gX2_open_41 (x1 : Int32) (σ : kS) : Option ((Int32 × kS) ⊕ (Int32 × kS)) :=
  if 256 ≤ x1 then
    (fX2_many σ).bind fun r2 =>
    some (.inr ((r2, σ)))
  else
    if vpi x1 256 then
      if (σ.1 127 x1.toNatClampNeg) = 1 then
        (fX2_empty σ x1).bind fun r5 =>
        kit (fX2_open_67 x1) 300 (x1, 0, r5)
      else
        fX2_open_123 x1 σ
    else none
def fX2_open_41 (a : Int32 × kS) : Option ((Int32 × kS) ⊕ (Int32 × kS)) := gX2_open_41 a.1 a.2
def fX2_open_24 (t1 : Int32) (σ : kS) : Option (Int32 × kS) :=
  (fX2_goes σ t1 1 1).bind fun r1 =>
  if r1.1 = 0 then
    some ((0, r1.2))
  else
    kit (fX2_open_41) 300 (0, sI r1.2 126 2 1)
def fX2_open_23 (σ : kS) : Option (Int32 × kS) :=
  fX2_open_24 0 σ
def fX2_open (σ : kS) : Option (Int32 × kS) :=
  if (σ.1 126 2) = 0 then
    (fX2_many σ).bind fun r2 =>
    if r2 ≤ (σ.1 126 1) then
      fX2_open_23 σ
    else
      fX2_open_24 1 σ
  else
    fX2_open_23 σ
def rmX2_open : Room := { frames := 1, cells := 0, slots := 0, locals := 23 }
set_option maxRecDepth 20000 in
theorem pX2_open_123 (K : kC w p s m args meth c cX2_open 4 RX2) (hret : meth.sig.returnType = (some .int)) {x1 : Int32} {σ : kS} {r : ((Int32 × kS) ⊕ (Int32 × kS))} {o : (Int32 × kS)} (h : fX2_open_123 x1 σ = some r) (hL41 : ∀ z, r = .inl z → kG w p l e rmX2_open s m args below meth c (MQ below (kQi w o.1 o.2) args s 0 0 (kA w)) 4 z.2 41 [(0, .ref (kL w 126)), (1, .int (z.1))] [] 0 0) (hO : ∀ z, r = .inr z → z = o) : kG w p l e rmX2_open s m args below meth c (MQ below (kQi w o.1 o.2) args s 0 0 (kA w)) 4 σ 123 [(0, .ref (kL w 126)), (1, .int x1)] [] 0 0 := by
  unfold fX2_open_123 at h
  refine k_iinc (v := 1) (lv' := [(1, .int (x1 + 1)), (0, .ref (kL w 126))]) K dX2_open_123 1 rfl (by decide) (by decide) rfl ?_
  refine k_goto K 41 dX2_open_126 (by decide) ?_
  refine k_sub [1, 0] rfl ?_
  cases h
  exact hL41 _ rfl
set_option maxRecDepth 20000 in
theorem pX2_open_67 (K : kC w p s m args meth c cX2_open 4 RX2) (hret : meth.sig.returnType = (some .int)) {x1 : Int32} {x2 : Int32} {x3 : Int32} {σ : kS} {r : ((Int32 × Int32 × kS) ⊕ ((Int32 × kS) ⊕ (Int32 × kS)))} {o : (Int32 × kS)} (h : gX2_open_67 x1 x2 x3 σ = some r) (hL41 : ∀ z, r = .inr (.inl z) → kG w p l e rmX2_open s m args below meth c (MQ below (kQi w o.1 o.2) args s 0 0 (kA w)) 4 z.2 41 [(0, .ref (kL w 126)), (1, .int (z.1))] [] 0 0) (hL67 : ∀ z, r = .inl z → kG w p l e rmX2_open s m args below meth c (MQ below (kQi w o.1 o.2) args s 0 0 (kA w)) 4 z.2.2 67 [(0, .ref (kL w 126)), (1, .int x1), (2, .int (z.1)), (3, .int (z.2.1))] [] 0 0) (hO : ∀ z, r = .inr (.inr z) → z = o) : kG w p l e rmX2_open s m args below meth c (MQ below (kQi w o.1 o.2) args s 0 0 (kA w)) 4 σ 67 [(0, .ref (kL w 126)), (1, .int x1), (2, .int x2), (3, .int x3)] [] 0 0 := by
  unfold gX2_open_67 at h
  refine k_iload_n K dX2_open_67 3 rfl ?_
  refine k_aload_n K dX2_open_68 0 rfl ?_
  refine fg_X2_7 K dX2_open_69 ?_
  replace h := k_br h
  rcases h with ⟨b1, h⟩ | ⟨b1, h⟩
  · refine k_icmp_ge K 104 dX2_open_72 (by decide) (fun _ => ?_) (fun q => absurd b1 q)
    refine k_aload_n K dX2_open_104 0 rfl ?_
    refine fg_X2_20 K dX2_open_105 ?_
    refine k_iload_n K dX2_open_108 1 rfl ?_
    refine k_aload_n K dX2_open_109 0 rfl ?_
    refine k_iload_n K dX2_open_110 1 rfl ?_
    refine k_sipush (v := 255) K dX2_open_111 (by decide) ?_
    refine k_iadd K dX2_open_114 ?_
    refine k_sipush (v := 256) K dX2_open_115 (by decide) ?_
    refine k_irem K dX2_open_118 (by decide) ?_
    replace h := k_bd h
    obtain ⟨r2, hr2, h⟩ := h
    refine cl_X2_81 K dX2_open_119 hr2 (by decide) (Nat.le_of_ble_eq_true rfl) (by decide) ?_
    replace h := k_gd h
    obtain ⟨g3, h⟩ := h
    refine k_iast K dX2_open_122 kd_129 g3 ?_
    refine k_sub [0, 1] rfl ?_
    replace h := k_mp h
    obtain ⟨_, h, rfl⟩ := h
    exact pX2_open_123 K hret h (fun z e => hL41 z (by rw [e])) (fun z e => hO z (by rw [e]))
  · refine k_icmp_ge K 104 dX2_open_72 (by decide) (fun q => absurd q b1) (fun _ => ?_)
    refine k_aload_n K dX2_open_75 0 rfl ?_
    refine k_iload_n K dX2_open_76 2 rfl ?_
    refine k_iconst (v := 1) K dX2_open_77 (by decide) ?_
    refine k_iadd K dX2_open_78 ?_
    refine k_sipush (v := 256) K dX2_open_79 (by decide) ?_
    refine k_irem K dX2_open_82 (by decide) ?_
    replace h := k_bd h
    obtain ⟨r4, hr4, h⟩ := h
    refine cl_X2_77 K dX2_open_83 hr4 (by decide) (Nat.le_of_ble_eq_true rfl) (by decide) ?_
    refine k_istore_n (lv' := [(2, .int r4), (0, .ref (kL w 126)), (1, .int x1), (3, .int x3)]) K dX2_open_86 (by decide) rfl ?_
    refine k_aload_n K dX2_open_87 1 rfl ?_
    refine fg_X2_17 K dX2_open_88 ?_
    refine k_iconst (v := 4) K dX2_open_91 (by decide) ?_
    refine k_iload_n K dX2_open_92 2 rfl ?_
    refine k_imul K dX2_open_93 ?_
    refine k_iload_n K dX2_open_94 3 rfl ?_
    refine k_iadd K dX2_open_95 ?_
    refine k_iload_n K dX2_open_96 0 rfl ?_
    replace h := k_gd h
    obtain ⟨g5, h⟩ := h
    refine k_iast K dX2_open_97 kd_128 g5 ?_
    refine k_iinc (v := 1) (lv' := [(3, .int (x3 + 1)), (2, .int r4), (0, .ref (kL w 126)), (1, .int x1)]) K dX2_open_98 3 rfl (by decide) (by decide) rfl ?_
    refine k_goto K 67 dX2_open_101 (by decide) ?_
    refine k_sub [2, 3, 1, 0] rfl ?_
    cases h
    exact hL67 _ rfl
set_option maxRecDepth 20000 in
theorem lX2_open_67 (K : kC w p s m args meth c cX2_open 4 RX2) (hret : meth.sig.returnType = (some .int)) {x1 : Int32} {n : Nat} {a : Int32 × Int32 × kS} {r : ((Int32 × kS) ⊕ (Int32 × kS))} {o : (Int32 × kS)} (h : kit (fX2_open_67 x1) n a = some r) (hL41 : ∀ z, r = .inl z → kG w p l e rmX2_open s m args below meth c (MQ below (kQi w o.1 o.2) args s 0 0 (kA w)) 4 z.2 41 [(0, .ref (kL w 126)), (1, .int (z.1))] [] 0 0) (hO : ∀ z, r = .inr z → z = o) : kG w p l e rmX2_open s m args below meth c (MQ below (kQi w o.1 o.2) args s 0 0 (kA w)) 4 a.2.2 67 [(0, .ref (kL w 126)), (1, .int x1), (2, .int (a.1)), (3, .int (a.2.1))] [] 0 0 :=
  kit_ind (body := fX2_open_67 x1) (fun a r => (∀ z, r = .inl z → kG w p l e rmX2_open s m args below meth c (MQ below (kQi w o.1 o.2) args s 0 0 (kA w)) 4 z.2 41 [(0, .ref (kL w 126)), (1, .int (z.1))] [] 0 0) → (∀ z, r = .inr z → z = o) → kG w p l e rmX2_open s m args below meth c (MQ below (kQi w o.1 o.2) args s 0 0 (kA w)) 4 a.2.2 67 [(0, .ref (kL w 126)), (1, .int x1), (2, .int (a.1)), (3, .int (a.2.1))] [] 0 0) (fun a a2 r hb ih hL41 hO => pX2_open_67 K hret hb (fun _ e => by cases e) (fun z e => by cases e; exact ih hL41 hO) (fun _ e => by cases e)) (fun a r hb hL41 hO => pX2_open_67 K hret hb (fun z e => hL41 z (by cases e; rfl)) (fun _ e => by cases e) (fun z e => hO z (by cases e; rfl))) n a r h hL41 hO
set_option maxRecDepth 20000 in
theorem pX2_open_41 (K : kC w p s m args meth c cX2_open 4 RX2) (hret : meth.sig.returnType = (some .int)) {x1 : Int32} {σ : kS} {r : ((Int32 × kS) ⊕ (Int32 × kS))} {o : (Int32 × kS)} (h : gX2_open_41 x1 σ = some r) (hL41 : ∀ z, r = .inl z → kG w p l e rmX2_open s m args below meth c (MQ below (kQi w o.1 o.2) args s 0 0 (kA w)) 4 z.2 41 [(0, .ref (kL w 126)), (1, .int (z.1))] [] 0 0) (hO : ∀ z, r = .inr z → z = o) : kG w p l e rmX2_open s m args below meth c (MQ below (kQi w o.1 o.2) args s 0 0 (kA w)) 4 σ 41 [(0, .ref (kL w 126)), (1, .int x1)] [] 0 0 := by
  unfold gX2_open_41 at h
  refine k_iload_n K dX2_open_41 1 rfl ?_
  refine k_sipush (v := 256) K dX2_open_42 (by decide) ?_
  replace h := k_br h
  rcases h with ⟨b1, h⟩ | ⟨b1, h⟩
  · refine k_icmp_ge K 129 dX2_open_45 (by decide) (fun _ => ?_) (fun q => absurd b1 q)
    refine k_aload_n K dX2_open_129 0 rfl ?_
    replace h := k_bd h
    obtain ⟨r2, hr2, h⟩ := h
    refine cl_X2_65 K dX2_open_130 hr2 (by decide) (Nat.le_of_ble_eq_true rfl) (by decide) ?_
    cases h
    obtain rfl := hO _ rfl
    exact k_iret K hret dX2_open_133 (by decide) (by decide)
  · refine k_icmp_ge K 129 dX2_open_45 (by decide) (fun q => absurd q b1) (fun _ => ?_)
    refine k_aload_n K dX2_open_48 0 rfl ?_
    refine fg_X2_13 K dX2_open_49 ?_
    refine k_iload_n K dX2_open_52 1 rfl ?_
    replace h := k_gd h
    obtain ⟨g3, h⟩ := h
    refine k_iald K dX2_open_53 kd_127 g3 ?_
    refine k_iconst (v := 1) K dX2_open_54 (by decide) ?_
    replace h := k_br h
    rcases h with ⟨b4, h⟩ | ⟨b4, h⟩
    · refine k_icmp_ne K 123 dX2_open_55 (by decide) (fun q => absurd b4 q) (fun _ => ?_)
      refine k_aload_n K dX2_open_58 0 rfl ?_
      refine k_iload_n K dX2_open_59 1 rfl ?_
      replace h := k_bd h
      obtain ⟨r5, hr5, h⟩ := h
      refine cl_X2_73 K dX2_open_60 hr5 (by decide) (Nat.le_of_ble_eq_true rfl) (by decide) ?_
      refine k_iload_n K dX2_open_63 1 rfl ?_
      refine k_istore_n (lv' := [(2, .int x1), (0, .ref (kL w 126)), (1, .int x1)]) K dX2_open_64 (by decide) rfl ?_
      refine k_iconst (v := 0) K dX2_open_65 (by decide) ?_
      refine k_istore_n (lv' := [(3, .int 0), (2, .int x1), (0, .ref (kL w 126)), (1, .int x1)]) K dX2_open_66 (by decide) rfl ?_
      refine k_sub [2, 3, 1, 0] rfl ?_
      exact lX2_open_67 K hret h hL41 hO
    · refine k_icmp_ne K 123 dX2_open_55 (by decide) (fun _ => ?_) (fun q => absurd q b4)
      exact pX2_open_123 K hret h hL41 hO
set_option maxRecDepth 20000 in
theorem lX2_open_41 (K : kC w p s m args meth c cX2_open 4 RX2) (hret : meth.sig.returnType = (some .int)) {n : Nat} {a : Int32 × kS} {r : (Int32 × kS)} {o : (Int32 × kS)} (h : kit (fX2_open_41) n a = some r) (hO : ∀ z, r = z → z = o) : kG w p l e rmX2_open s m args below meth c (MQ below (kQi w o.1 o.2) args s 0 0 (kA w)) 4 a.2 41 [(0, .ref (kL w 126)), (1, .int (a.1))] [] 0 0 :=
  kit_ind (body := fX2_open_41) (fun a r => (∀ z, r = z → z = o) → kG w p l e rmX2_open s m args below meth c (MQ below (kQi w o.1 o.2) args s 0 0 (kA w)) 4 a.2 41 [(0, .ref (kL w 126)), (1, .int (a.1))] [] 0 0) (fun a a2 r hb ih hO => pX2_open_41 K hret hb (fun z e => by cases e; exact ih hO) (fun _ e => by cases e)) (fun a r hb hO => pX2_open_41 K hret hb (fun _ e => by cases e) (fun z e => hO z (by cases e; rfl))) n a r h hO
set_option maxRecDepth 20000 in
theorem pX2_open_24 (K : kC w p s m args meth c cX2_open 4 RX2) (hret : meth.sig.returnType = (some .int)) {t1 : Int32} {σ : kS} {r : (Int32 × kS)} {o : (Int32 × kS)} (h : fX2_open_24 t1 σ = some r) (hO : ∀ z, r = z → z = o) : kG w p l e rmX2_open s m args below meth c (MQ below (kQi w o.1 o.2) args s 0 0 (kA w)) 4 σ 24 [(0, .ref (kL w 126))] [.int t1, .ref (kL w 126)] 0 0 := by
  unfold fX2_open_24 at h
  refine k_iconst (v := 1) K dX2_open_24 (by decide) ?_
  refine k_iconst (v := 1) K dX2_open_25 (by decide) ?_
  replace h := k_bd h
  obtain ⟨r1, hr1, h⟩ := h
  refine cl_X2_69 K dX2_open_26 hr1 (by decide) (Nat.le_of_ble_eq_true rfl) (by decide) ?_
  replace h := k_br h
  rcases h with ⟨b2, h⟩ | ⟨b2, h⟩
  · refine k_if_ne K 34 dX2_open_29 (by decide) (fun q => absurd b2 q) (fun _ => ?_)
    refine k_iconst (v := 0) K dX2_open_32 (by decide) ?_
    cases h
    obtain rfl := hO _ rfl
    exact k_iret (v := 0) K hret dX2_open_33 (by decide) (by decide)
  · refine k_if_ne K 34 dX2_open_29 (by decide) (fun _ => ?_) (fun q => absurd q b2)
    refine k_aload_n K dX2_open_34 0 rfl ?_
    refine k_iconst (v := 1) K dX2_open_35 (by decide) ?_
    refine fp_X2_54 K dX2_open_36 (by decide) (by decide) ?_
    refine k_iconst (v := 0) K dX2_open_39 (by decide) ?_
    refine k_istore_n (lv' := [(1, .int 0), (0, .ref (kL w 126))]) K dX2_open_40 (by decide) rfl ?_
    refine k_sub [1, 0] rfl ?_
    exact lX2_open_41 K hret h hO
set_option maxRecDepth 20000 in
theorem pX2_open_23 (K : kC w p s m args meth c cX2_open 4 RX2) (hret : meth.sig.returnType = (some .int)) {σ : kS} {r : (Int32 × kS)} {o : (Int32 × kS)} (h : fX2_open_23 σ = some r) (hO : ∀ z, r = z → z = o) : kG w p l e rmX2_open s m args below meth c (MQ below (kQi w o.1 o.2) args s 0 0 (kA w)) 4 σ 23 [(0, .ref (kL w 126))] [.ref (kL w 126)] 0 0 := by
  unfold fX2_open_23 at h
  refine k_iconst (v := 0) K dX2_open_23 (by decide) ?_
  exact pX2_open_24 K hret h hO
set_option maxRecDepth 20000 in
theorem mX2_open (l : Launch) (w : kW) (σ : kS) {o : (Int32 × kS)} (h : fX2_open σ = some o) : Met l yX2_open (Cond.code yX2_open cX2_open 4 (some .int) :: TB) rmX2_open (va_Pc [.ref (kL w 126)] (kP w σ)) (kQi w o.1 o.2) 0 0 (kA w) := by
  refine k_met (by decide +kernel) [.ref (kL w 126)] (Nat.le_of_ble_eq_true rfl) (by simp [lv_args, Value.category]) ?_
  intro p e s m args below meth c K hret
  have K : kC w p s m args meth c cX2_open 4 RX2 := K
  obtain ⟨r, hro⟩ : ∃ r, r = o := ⟨o, rfl⟩
  rw [← hro] at h
  have hO : ∀ z, r = z → z = o := fun z e => by rw [← e]; exact hro
  unfold fX2_open at h
  refine k_aload_n K dX2_open_0 0 rfl ?_
  refine k_aload_n K dX2_open_1 0 rfl ?_
  refine fg_X2_54 K dX2_open_2 ?_
  replace h := k_br h
  rcases h with ⟨b1, h⟩ | ⟨b1, h⟩
  · refine k_if_ne K 23 dX2_open_5 (by decide) (fun q => absurd b1 q) (fun _ => ?_)
    refine k_aload_n K dX2_open_8 0 rfl ?_
    replace h := k_bd h
    obtain ⟨r2, hr2, h⟩ := h
    refine cl_X2_65 K dX2_open_9 hr2 (by decide) (Nat.le_of_ble_eq_true rfl) (by decide) ?_
    refine k_aload_n K dX2_open_12 0 rfl ?_
    refine fg_X2_7 K dX2_open_13 ?_
    replace h := k_br h
    rcases h with ⟨b3, h⟩ | ⟨b3, h⟩
    · refine k_icmp_le K 23 dX2_open_16 (by decide) (fun _ => ?_) (fun q => absurd b3 q)
      exact pX2_open_23 K hret h hO
    · refine k_icmp_le K 23 dX2_open_16 (by decide) (fun q => absurd q b3) (fun _ => ?_)
      refine k_iconst (v := 1) K dX2_open_19 (by decide) ?_
      refine k_goto K 24 dX2_open_20 (by decide) ?_
      exact pX2_open_24 K hret h hO
  · refine k_if_ne K 23 dX2_open_5 (by decide) (fun _ => ?_) (fun q => absurd q b1)
    exact pX2_open_23 K hret h hO
end F_X2_open
section F_X2_known
variable {w : kW} {p : Program} {l : Launch} {e : Env} {s : State} {m : MethodId} {args : Array Value} {below : List Frame} {meth : Method} {c : Code}
def fX2_known_39 (x1 : Int32) (x2 : Int32) (t1 : Int32) (σ : kS) : Option (Int32 × kS) :=
  (fX2_goes σ t1 1 1).bind fun r1 =>
  if r1.1 = 0 then
    some ((0, r1.2))
  else
    if x2 = ((-1)) then
      if vpi x1 256 then
        some (((r1.2).1 129 x1.toNatClampNeg, r1.2))
      else none
    else
      if 10 ≤ x2 then
        if vpi (((8 * x1) + x2) - 10) 2048 then
          some (((r1.2).1 130 (((8 * x1) + x2) - 10).toNatClampNeg, r1.2))
        else none
      else
        if vpi ((4 * x1) + x2) 1024 then
          some (((r1.2).1 128 ((4 * x1) + x2).toNatClampNeg, r1.2))
        else none
def fX2_known_38 (x1 : Int32) (x2 : Int32) (σ : kS) : Option (Int32 × kS) :=
  fX2_known_39 x1 x2 0 σ
def fX2_known_34 (x1 : Int32) (x2 : Int32) (σ : kS) : Option (Int32 × kS) :=
  fX2_known_39 x1 x2 1 σ
def fX2_known_22 (x1 : Int32) (x2 : Int32) (σ : kS) : Option (Int32 × kS) :=
  if x2 < 10 then
    fX2_known_38 x1 x2 σ
  else
    if 18 ≤ x2 then
      fX2_known_38 x1 x2 σ
    else
      fX2_known_34 x1 x2 σ
def fX2_known (σ : kS) (x1 : Int32) (x2 : Int32) : Option (Int32 × kS) :=
  (fX2_member σ x1).bind fun r1 =>
  if r1 = 0 then
    fX2_known_38 x1 x2 σ
  else
    if x2 < ((-1)) then
      fX2_known_22 x1 x2 σ
    else
      if x2 < (σ.1 126 1) then
        fX2_known_34 x1 x2 σ
      else
        fX2_known_22 x1 x2 σ
def rmX2_known : Room := { frames := 3, cells := 0, slots := 0, locals := 62 }
set_option maxRecDepth 20000 in
theorem pX2_known_39 (K : kC w p s m args meth c cX2_known 3 RX2) (hret : meth.sig.returnType = (some .int)) {x1 : Int32} {x2 : Int32} {t1 : Int32} {σ : kS} {r : (Int32 × kS)} {o : (Int32 × kS)} (h : fX2_known_39 x1 x2 t1 σ = some r) (hO : ∀ z, r = z → z = o) : kG w p l e rmX2_known s m args below meth c (MQ below (kQi w o.1 o.2) args s 0 0 (kA w)) 3 σ 39 [(0, .ref (kL w 126)), (1, .int x1), (2, .int x2)] [.int t1, .ref (kL w 126)] 0 0 := by
  unfold fX2_known_39 at h
  refine k_iconst (v := 1) K dX2_known_39 (by decide) ?_
  refine k_iconst (v := 1) K dX2_known_40 (by decide) ?_
  replace h := k_bd h
  obtain ⟨r1, hr1, h⟩ := h
  refine cl_X2_69 K dX2_known_41 hr1 (by decide) (Nat.le_of_ble_eq_true rfl) (by decide) ?_
  replace h := k_br h
  rcases h with ⟨b2, h⟩ | ⟨b2, h⟩
  · refine k_if_ne K 49 dX2_known_44 (by decide) (fun q => absurd b2 q) (fun _ => ?_)
    refine k_iconst (v := 0) K dX2_known_47 (by decide) ?_
    cases h
    obtain rfl := hO _ rfl
    exact k_iret (v := 0) K hret dX2_known_48 (by decide) (by decide)
  · refine k_if_ne K 49 dX2_known_44 (by decide) (fun _ => ?_) (fun q => absurd q b2)
    refine k_iload_n K dX2_known_49 2 rfl ?_
    refine k_iconst (v := (-1)) K dX2_known_50 (by decide) ?_
    replace h := k_br h
    rcases h with ⟨b3, h⟩ | ⟨b3, h⟩
    · refine k_icmp_ne K 63 dX2_known_51 (by decide) (fun q => absurd b3 q) (fun _ => ?_)
      refine k_aload_n K dX2_known_54 0 rfl ?_
      refine fg_X2_20 K dX2_known_55 ?_
      refine k_iload_n K dX2_known_58 1 rfl ?_
      replace h := k_gd h
      obtain ⟨g4, h⟩ := h
      refine k_iald K dX2_known_59 kd_129 g4 ?_
      refine k_goto K 96 dX2_known_60 (by decide) ?_
      cases h
      obtain rfl := hO _ rfl
      exact k_iret (v := (r1.2).1 129 x1.toNatClampNeg) K hret dX2_known_96 (by decide) (by decide)
    · refine k_icmp_ne K 63 dX2_known_51 (by decide) (fun _ => ?_) (fun q => absurd q b3)
      refine k_iload_n K dX2_known_63 2 rfl ?_
      refine k_bipush (v := 10) K dX2_known_64 (by decide) ?_
      replace h := k_br h
      rcases h with ⟨b5, h⟩ | ⟨b5, h⟩
      · refine k_icmp_ge K 82 dX2_known_66 (by decide) (fun _ => ?_) (fun q => absurd b5 q)
        refine k_aload_n K dX2_known_82 0 rfl ?_
        refine fg_X2_23 K dX2_known_83 ?_
        refine k_bipush (v := 8) K dX2_known_86 (by decide) ?_
        refine k_iload_n K dX2_known_88 1 rfl ?_
        refine k_imul K dX2_known_89 ?_
        refine k_iload_n K dX2_known_90 2 rfl ?_
        refine k_iadd K dX2_known_91 ?_
        refine k_bipush (v := 10) K dX2_known_92 (by decide) ?_
        refine k_isub K dX2_known_94 ?_
        replace h := k_gd h
        obtain ⟨g6, h⟩ := h
        refine k_iald K dX2_known_95 kd_130 g6 ?_
        cases h
        obtain rfl := hO _ rfl
        exact k_iret (v := (r1.2).1 130 (((8 * x1) + x2) - 10).toNatClampNeg) K hret dX2_known_96 (by decide) (by decide)
      · refine k_icmp_ge K 82 dX2_known_66 (by decide) (fun q => absurd q b5) (fun _ => ?_)
        refine k_aload_n K dX2_known_69 0 rfl ?_
        refine fg_X2_17 K dX2_known_70 ?_
        refine k_iconst (v := 4) K dX2_known_73 (by decide) ?_
        refine k_iload_n K dX2_known_74 1 rfl ?_
        refine k_imul K dX2_known_75 ?_
        refine k_iload_n K dX2_known_76 2 rfl ?_
        refine k_iadd K dX2_known_77 ?_
        replace h := k_gd h
        obtain ⟨g7, h⟩ := h
        refine k_iald K dX2_known_78 kd_128 g7 ?_
        refine k_goto K 96 dX2_known_79 (by decide) ?_
        cases h
        obtain rfl := hO _ rfl
        exact k_iret (v := (r1.2).1 128 ((4 * x1) + x2).toNatClampNeg) K hret dX2_known_96 (by decide) (by decide)
set_option maxRecDepth 20000 in
theorem pX2_known_38 (K : kC w p s m args meth c cX2_known 3 RX2) (hret : meth.sig.returnType = (some .int)) {x1 : Int32} {x2 : Int32} {σ : kS} {r : (Int32 × kS)} {o : (Int32 × kS)} (h : fX2_known_38 x1 x2 σ = some r) (hO : ∀ z, r = z → z = o) : kG w p l e rmX2_known s m args below meth c (MQ below (kQi w o.1 o.2) args s 0 0 (kA w)) 3 σ 38 [(0, .ref (kL w 126)), (1, .int x1), (2, .int x2)] [.ref (kL w 126)] 0 0 := by
  unfold fX2_known_38 at h
  refine k_iconst (v := 0) K dX2_known_38 (by decide) ?_
  exact pX2_known_39 K hret h hO
set_option maxRecDepth 20000 in
theorem pX2_known_34 (K : kC w p s m args meth c cX2_known 3 RX2) (hret : meth.sig.returnType = (some .int)) {x1 : Int32} {x2 : Int32} {σ : kS} {r : (Int32 × kS)} {o : (Int32 × kS)} (h : fX2_known_34 x1 x2 σ = some r) (hO : ∀ z, r = z → z = o) : kG w p l e rmX2_known s m args below meth c (MQ below (kQi w o.1 o.2) args s 0 0 (kA w)) 3 σ 34 [(0, .ref (kL w 126)), (1, .int x1), (2, .int x2)] [.ref (kL w 126)] 0 0 := by
  unfold fX2_known_34 at h
  refine k_iconst (v := 1) K dX2_known_34 (by decide) ?_
  refine k_goto K 39 dX2_known_35 (by decide) ?_
  exact pX2_known_39 K hret h hO
set_option maxRecDepth 20000 in
theorem pX2_known_22 (K : kC w p s m args meth c cX2_known 3 RX2) (hret : meth.sig.returnType = (some .int)) {x1 : Int32} {x2 : Int32} {σ : kS} {r : (Int32 × kS)} {o : (Int32 × kS)} (h : fX2_known_22 x1 x2 σ = some r) (hO : ∀ z, r = z → z = o) : kG w p l e rmX2_known s m args below meth c (MQ below (kQi w o.1 o.2) args s 0 0 (kA w)) 3 σ 22 [(0, .ref (kL w 126)), (1, .int x1), (2, .int x2)] [.ref (kL w 126)] 0 0 := by
  unfold fX2_known_22 at h
  refine k_iload_n K dX2_known_22 2 rfl ?_
  refine k_bipush (v := 10) K dX2_known_23 (by decide) ?_
  replace h := k_br h
  rcases h with ⟨b1, h⟩ | ⟨b1, h⟩
  · refine k_icmp_lt K 38 dX2_known_25 (by decide) (fun _ => ?_) (fun q => absurd b1 q)
    exact pX2_known_38 K hret h hO
  · refine k_icmp_lt K 38 dX2_known_25 (by decide) (fun q => absurd q b1) (fun _ => ?_)
    refine k_iload_n K dX2_known_28 2 rfl ?_
    refine k_bipush (v := 18) K dX2_known_29 (by decide) ?_
    replace h := k_br h
    rcases h with ⟨b2, h⟩ | ⟨b2, h⟩
    · refine k_icmp_ge K 38 dX2_known_31 (by decide) (fun _ => ?_) (fun q => absurd b2 q)
      exact pX2_known_38 K hret h hO
    · refine k_icmp_ge K 38 dX2_known_31 (by decide) (fun q => absurd q b2) (fun _ => ?_)
      exact pX2_known_34 K hret h hO
set_option maxRecDepth 20000 in
theorem mX2_known (l : Launch) (w : kW) (σ : kS) (x1 : Int32) (x2 : Int32) {o : (Int32 × kS)} (h : fX2_known σ x1 x2 = some o) : Met l yX2_known (Cond.code yX2_known cX2_known 3 (some .int) :: TB) rmX2_known (va_Pc [.ref (kL w 126), .int x1, .int x2] (kP w σ)) (kQi w o.1 o.2) 0 0 (kA w) := by
  refine k_met (by decide +kernel) [.ref (kL w 126), .int x1, .int x2] (Nat.le_of_ble_eq_true rfl) (by simp [lv_args, Value.category]) ?_
  intro p e s m args below meth c K hret
  have K : kC w p s m args meth c cX2_known 3 RX2 := K
  obtain ⟨r, hro⟩ : ∃ r, r = o := ⟨o, rfl⟩
  rw [← hro] at h
  have hO : ∀ z, r = z → z = o := fun z e => by rw [← e]; exact hro
  unfold fX2_known at h
  refine k_aload_n K dX2_known_0 0 rfl ?_
  refine k_aload_n K dX2_known_1 0 rfl ?_
  refine k_iload_n K dX2_known_2 1 rfl ?_
  replace h := k_bd h
  obtain ⟨r1, hr1, h⟩ := h
  refine cl_X2_101 K dX2_known_3 hr1 (by decide) (Nat.le_of_ble_eq_true rfl) (by decide) ?_
  replace h := k_br h
  rcases h with ⟨b2, h⟩ | ⟨b2, h⟩
  · refine k_if_eq K 38 dX2_known_6 (by decide) (fun _ => ?_) (fun q => absurd b2 q)
    exact pX2_known_38 K hret h hO
  · refine k_if_eq K 38 dX2_known_6 (by decide) (fun q => absurd q b2) (fun _ => ?_)
    refine k_iload_n K dX2_known_9 2 rfl ?_
    refine k_iconst (v := (-1)) K dX2_known_10 (by decide) ?_
    replace h := k_br h
    rcases h with ⟨b3, h⟩ | ⟨b3, h⟩
    · refine k_icmp_lt K 22 dX2_known_11 (by decide) (fun _ => ?_) (fun q => absurd b3 q)
      exact pX2_known_22 K hret h hO
    · refine k_icmp_lt K 22 dX2_known_11 (by decide) (fun q => absurd q b3) (fun _ => ?_)
      refine k_iload_n K dX2_known_14 2 rfl ?_
      refine k_aload_n K dX2_known_15 0 rfl ?_
      refine fg_X2_7 K dX2_known_16 ?_
      replace h := k_br h
      rcases h with ⟨b4, h⟩ | ⟨b4, h⟩
      · refine k_icmp_lt K 34 dX2_known_19 (by decide) (fun _ => ?_) (fun q => absurd b4 q)
        exact pX2_known_34 K hret h hO
      · refine k_icmp_lt K 34 dX2_known_19 (by decide) (fun q => absurd q b4) (fun _ => ?_)
        exact pX2_known_22 K hret h hO
end F_X2_known
section F_X2_mended
variable {w : kW} {p : Program} {l : Launch} {e : Env} {s : State} {m : MethodId} {args : Array Value} {below : List Frame} {meth : Method} {c : Code}
def fX2_mended (σ : kS) (x1 : Int32) (x2 : Int32) : Option (Int32 × kS) :=
  (fX2_lookFor σ x1 ((x1 + (1 <<< (x2 &&& 31))) - (x1 + (1 <<< (x2 &&& 31))) / 256 * 256)).bind fun r1 =>
  if vpi ((8 * x1) + x2) 2048 then
    some (((sI r1.2 130 ((8 * x1) + x2).toNatClampNeg r1.1).1 130 ((8 * x1) + x2).toNatClampNeg, sI r1.2 130 ((8 * x1) + x2).toNatClampNeg r1.1))
  else none
def rmX2_mended : Room := { frames := 4, cells := 0, slots := 0, locals := 93 }
set_option maxRecDepth 20000 in
theorem mX2_mended (l : Launch) (w : kW) (σ : kS) (x1 : Int32) (x2 : Int32) {o : (Int32 × kS)} (h : fX2_mended σ x1 x2 = some o) : Met l yX2_mended (Cond.code yX2_mended cX2_mended 3 (some .int) :: TB) rmX2_mended (va_Pc [.ref (kL w 126), .int x1, .int x2] (kP w σ)) (kQi w o.1 o.2) 0 0 (kA w) := by
  refine k_met (by decide +kernel) [.ref (kL w 126), .int x1, .int x2] (Nat.le_of_ble_eq_true rfl) (by simp [lv_args, Value.category]) ?_
  intro p e s m args below meth c K hret
  have K : kC w p s m args meth c cX2_mended 3 RX2 := K
  obtain ⟨r, hro⟩ : ∃ r, r = o := ⟨o, rfl⟩
  rw [← hro] at h
  have hO : ∀ z, r = z → z = o := fun z e => by rw [← e]; exact hro
  unfold fX2_mended at h
  refine k_aload_n K dX2_mended_0 0 rfl ?_
  refine fg_X2_23 K dX2_mended_1 ?_
  refine k_bipush (v := 8) K dX2_mended_4 (by decide) ?_
  refine k_iload_n K dX2_mended_6 1 rfl ?_
  refine k_imul K dX2_mended_7 ?_
  refine k_iload_n K dX2_mended_8 2 rfl ?_
  refine k_iadd K dX2_mended_9 ?_
  refine k_aload_n K dX2_mended_10 0 rfl ?_
  refine k_iload_n K dX2_mended_11 1 rfl ?_
  refine k_iload_n K dX2_mended_12 1 rfl ?_
  refine k_iconst (v := 1) K dX2_mended_13 (by decide) ?_
  refine k_iload_n K dX2_mended_14 2 rfl ?_
  refine k_ishl K dX2_mended_15 ?_
  refine k_iadd K dX2_mended_16 ?_
  refine k_sipush (v := 256) K dX2_mended_17 (by decide) ?_
  refine k_irem K dX2_mended_20 (by decide) ?_
  replace h := k_bd h
  obtain ⟨r1, hr1, h⟩ := h
  refine cl_X2_104 K dX2_mended_21 hr1 (by decide) (Nat.le_of_ble_eq_true rfl) (by decide) ?_
  replace h := k_gd h
  obtain ⟨g2, h⟩ := h
  refine k_iast K dX2_mended_24 kd_130 g2 ?_
  refine k_aload_n K dX2_mended_25 0 rfl ?_
  refine fg_X2_23 K dX2_mended_26 ?_
  refine k_bipush (v := 8) K dX2_mended_29 (by decide) ?_
  refine k_iload_n K dX2_mended_31 1 rfl ?_
  refine k_imul K dX2_mended_32 ?_
  refine k_iload_n K dX2_mended_33 2 rfl ?_
  refine k_iadd K dX2_mended_34 ?_
  refine k_iald K dX2_mended_35 kd_130 g2 ?_
  cases h
  obtain rfl := hO _ rfl
  exact k_iret (v := (sI r1.2 130 ((8 * x1) + x2).toNatClampNeg r1.1).1 130 ((8 * x1) + x2).toNatClampNeg) K hret dX2_mended_36 (by decide) (by decide)
end F_X2_mended
section C_X2_mended
variable {w : kW} {p : Program} {l : Launch} {e : Env} {R : Room} {s : State} {m : MethodId} {args : Array Value} {below : List Frame} {meth : Method} {c : Code} {Q : State → Prop} {cc : ByteArray} {nL : Nat} {σ : kS} {pc : Nat} {lv : List (Nat × Value)} {st rest : List Value} {cells slots : Nat}
theorem cl_X2_117 (K : kC w p s m args meth c cc nL RX2) {a1 : Int32} {a2 : Int32} {r : (Int32 × kS)} (d : decode cc pc = .ok (.invokevirtual 117, 3)) (h : fX2_mended σ a1 a2 = some r) (hR : rmX2_mended.frames + 1 ≤ R.frames ∧ 8 + (3 + 11) + rmX2_mended.locals ≤ R.locals) (hr : (rest.map fun v => v.category).sum ≤ 8) (hf : cells + 0 ≤ R.cells ∧ slots + 0 ≤ R.slots) (kk : kG w p l e R s m args below meth c Q nL r.2 (pc + 3) lv (.int r.1 :: rest) (cells + 0) (slots + 0)) : kG w p l e R s m args below meth c Q nL σ pc lv (.int a2 :: .int a1 :: .ref (kL w 126) :: rest) cells slots :=
  k_callVi (As := [.int a1, .int a2]) (rest := rest) (n := 2) (C := RX2) (T := TX2) K d kd_126 rfl (kg_V tw_690 tw_692 tw_39 tw_50 tw_693) rfl (by decide +kernel) rfl hR hr rfl hf (mX2_mended l w σ a1 a2 h) ⟨rfl, rfl⟩ kk
end C_X2_mended
section F_X2_mend
variable {w : kW} {p : Program} {l : Launch} {e : Env} {s : State} {m : MethodId} {args : Array Value} {below : List Frame} {meth : Method} {c : Code}
def fX2_mend_24 (x1 : Int32) (x2 : Int32) (t1 : Int32) (σ : kS) : Option (Int32 × kS) :=
  (fX2_goes σ t1 1 1).bind fun r1 =>
  if r1.1 = 0 then
    some ((0, r1.2))
  else
    (fX2_mended r1.2 x1 x2).bind fun r3 =>
    some ((r3.1, r3.2))
def fX2_mend_23 (x1 : Int32) (x2 : Int32) (σ : kS) : Option (Int32 × kS) :=
  fX2_mend_24 x1 x2 0 σ
def fX2_mend (σ : kS) (x1 : Int32) (x2 : Int32) : Option (Int32 × kS) :=
  (fX2_member σ x1).bind fun r1 =>
  if r1 = 0 then
    fX2_mend_23 x1 x2 σ
  else
    if x2 < 0 then
      fX2_mend_23 x1 x2 σ
    else
      if 8 ≤ x2 then
        fX2_mend_23 x1 x2 σ
      else
        fX2_mend_24 x1 x2 1 σ
def rmX2_mend : Room := { frames := 5, cells := 0, slots := 0, locals := 115 }
set_option maxRecDepth 20000 in
theorem pX2_mend_24 (K : kC w p s m args meth c cX2_mend 3 RX2) (hret : meth.sig.returnType = (some .int)) {x1 : Int32} {x2 : Int32} {t1 : Int32} {σ : kS} {r : (Int32 × kS)} {o : (Int32 × kS)} (h : fX2_mend_24 x1 x2 t1 σ = some r) (hO : ∀ z, r = z → z = o) : kG w p l e rmX2_mend s m args below meth c (MQ below (kQi w o.1 o.2) args s 0 0 (kA w)) 3 σ 24 [(0, .ref (kL w 126)), (1, .int x1), (2, .int x2)] [.int t1, .ref (kL w 126)] 0 0 := by
  unfold fX2_mend_24 at h
  refine k_iconst (v := 1) K dX2_mend_24 (by decide) ?_
  refine k_iconst (v := 1) K dX2_mend_25 (by decide) ?_
  replace h := k_bd h
  obtain ⟨r1, hr1, h⟩ := h
  refine cl_X2_69 K dX2_mend_26 hr1 (by decide) (Nat.le_of_ble_eq_true rfl) (by decide) ?_
  replace h := k_br h
  rcases h with ⟨b2, h⟩ | ⟨b2, h⟩
  · refine k_if_eq K 41 dX2_mend_29 (by decide) (fun _ => ?_) (fun q => absurd b2 q)
    refine k_iconst (v := 0) K dX2_mend_41 (by decide) ?_
    cases h
    obtain rfl := hO _ rfl
    exact k_iret (v := 0) K hret dX2_mend_42 (by decide) (by decide)
  · refine k_if_eq K 41 dX2_mend_29 (by decide) (fun q => absurd q b2) (fun _ => ?_)
    refine k_aload_n K dX2_mend_32 0 rfl ?_
    refine k_iload_n K dX2_mend_33 1 rfl ?_
    refine k_iload_n K dX2_mend_34 2 rfl ?_
    replace h := k_bd h
    obtain ⟨r3, hr3, h⟩ := h
    refine cl_X2_117 K dX2_mend_35 hr3 (by decide) (Nat.le_of_ble_eq_true rfl) (by decide) ?_
    refine k_goto K 42 dX2_mend_38 (by decide) ?_
    cases h
    obtain rfl := hO _ rfl
    exact k_iret (v := r3.1) K hret dX2_mend_42 (by decide) (by decide)
set_option maxRecDepth 20000 in
theorem pX2_mend_23 (K : kC w p s m args meth c cX2_mend 3 RX2) (hret : meth.sig.returnType = (some .int)) {x1 : Int32} {x2 : Int32} {σ : kS} {r : (Int32 × kS)} {o : (Int32 × kS)} (h : fX2_mend_23 x1 x2 σ = some r) (hO : ∀ z, r = z → z = o) : kG w p l e rmX2_mend s m args below meth c (MQ below (kQi w o.1 o.2) args s 0 0 (kA w)) 3 σ 23 [(0, .ref (kL w 126)), (1, .int x1), (2, .int x2)] [.ref (kL w 126)] 0 0 := by
  unfold fX2_mend_23 at h
  refine k_iconst (v := 0) K dX2_mend_23 (by decide) ?_
  exact pX2_mend_24 K hret h hO
set_option maxRecDepth 20000 in
theorem mX2_mend (l : Launch) (w : kW) (σ : kS) (x1 : Int32) (x2 : Int32) {o : (Int32 × kS)} (h : fX2_mend σ x1 x2 = some o) : Met l yX2_mend (Cond.code yX2_mend cX2_mend 3 (some .int) :: TB) rmX2_mend (va_Pc [.ref (kL w 126), .int x1, .int x2] (kP w σ)) (kQi w o.1 o.2) 0 0 (kA w) := by
  refine k_met (by decide +kernel) [.ref (kL w 126), .int x1, .int x2] (Nat.le_of_ble_eq_true rfl) (by simp [lv_args, Value.category]) ?_
  intro p e s m args below meth c K hret
  have K : kC w p s m args meth c cX2_mend 3 RX2 := K
  obtain ⟨r, hro⟩ : ∃ r, r = o := ⟨o, rfl⟩
  rw [← hro] at h
  have hO : ∀ z, r = z → z = o := fun z e => by rw [← e]; exact hro
  unfold fX2_mend at h
  refine k_aload_n K dX2_mend_0 0 rfl ?_
  refine k_aload_n K dX2_mend_1 0 rfl ?_
  refine k_iload_n K dX2_mend_2 1 rfl ?_
  replace h := k_bd h
  obtain ⟨r1, hr1, h⟩ := h
  refine cl_X2_101 K dX2_mend_3 hr1 (by decide) (Nat.le_of_ble_eq_true rfl) (by decide) ?_
  replace h := k_br h
  rcases h with ⟨b2, h⟩ | ⟨b2, h⟩
  · refine k_if_eq K 23 dX2_mend_6 (by decide) (fun _ => ?_) (fun q => absurd b2 q)
    exact pX2_mend_23 K hret h hO
  · refine k_if_eq K 23 dX2_mend_6 (by decide) (fun q => absurd q b2) (fun _ => ?_)
    refine k_iload_n K dX2_mend_9 2 rfl ?_
    replace h := k_br h
    rcases h with ⟨b3, h⟩ | ⟨b3, h⟩
    · refine k_if_lt K 23 dX2_mend_10 (by decide) (fun _ => ?_) (fun q => absurd b3 q)
      exact pX2_mend_23 K hret h hO
    · refine k_if_lt K 23 dX2_mend_10 (by decide) (fun q => absurd q b3) (fun _ => ?_)
      refine k_iload_n K dX2_mend_13 2 rfl ?_
      refine k_bipush (v := 8) K dX2_mend_14 (by decide) ?_
      replace h := k_br h
      rcases h with ⟨b4, h⟩ | ⟨b4, h⟩
      · refine k_icmp_ge K 23 dX2_mend_16 (by decide) (fun _ => ?_) (fun q => absurd b4 q)
        exact pX2_mend_23 K hret h hO
      · refine k_icmp_ge K 23 dX2_mend_16 (by decide) (fun q => absurd q b4) (fun _ => ?_)
        refine k_iconst (v := 1) K dX2_mend_19 (by decide) ?_
        refine k_goto K 24 dX2_mend_20 (by decide) ?_
        exact pX2_mend_24 K hret h hO
end F_X2_mend
section F_X2_isKey
variable {w : kW} {p : Program} {l : Launch} {e : Env} {s : State} {m : MethodId} {args : Array Value} {below : List Frame} {meth : Method} {c : Code}
def fX2_isKey (x0 : Int32) : Option Int32 :=
  if x0 < 0 then
    some (0)
  else
    if 64 ≤ x0 then
      some (0)
    else
      some (1)
def rmX2_isKey : Room := { frames := 0, cells := 0, slots := 0, locals := 0 }
set_option maxRecDepth 20000 in
theorem mX2_isKey (l : Launch) (w : kW) (σ0 : kS) (x0 : Int32) {o : Int32} (h : fX2_isKey x0 = some o) : Met l yX2_isKey (Cond.code yX2_isKey cX2_isKey 1 (some .boolean) :: TB) rmX2_isKey (va_Pc [.int x0] (kP w σ0)) (kQi w o σ0) 0 0 (kA w) := by
  refine k_met (by decide +kernel) [.int x0] (Nat.le_of_ble_eq_true rfl) (by simp [lv_args, Value.category]) ?_
  intro p e s m args below meth c K hret
  have K : kC w p s m args meth c cX2_isKey 1 RX2 := K
  obtain ⟨r, hro⟩ : ∃ r, r = o := ⟨o, rfl⟩
  rw [← hro] at h
  have hO : ∀ z, r = z → z = o := fun z e => by rw [← e]; exact hro
  unfold fX2_isKey at h
  refine k_iload_n K dX2_isKey_0 0 rfl ?_
  replace h := k_br h
  rcases h with ⟨b1, h⟩ | ⟨b1, h⟩
  · refine k_if_lt K 14 dX2_isKey_1 (by decide) (fun _ => ?_) (fun q => absurd b1 q)
    refine k_iconst (v := 0) K dX2_isKey_14 (by decide) ?_
    cases h
    obtain rfl := hO _ rfl
    exact k_zret (v := 0) K hret (by decide) dX2_isKey_15 (by decide) (by decide)
  · refine k_if_lt K 14 dX2_isKey_1 (by decide) (fun q => absurd q b1) (fun _ => ?_)
    refine k_iload_n K dX2_isKey_4 0 rfl ?_
    refine k_bipush (v := 64) K dX2_isKey_5 (by decide) ?_
    replace h := k_br h
    rcases h with ⟨b2, h⟩ | ⟨b2, h⟩
    · refine k_icmp_ge K 14 dX2_isKey_7 (by decide) (fun _ => ?_) (fun q => absurd b2 q)
      refine k_iconst (v := 0) K dX2_isKey_14 (by decide) ?_
      cases h
      obtain rfl := hO _ rfl
      exact k_zret (v := 0) K hret (by decide) dX2_isKey_15 (by decide) (by decide)
    · refine k_icmp_ge K 14 dX2_isKey_7 (by decide) (fun q => absurd q b2) (fun _ => ?_)
      refine k_iconst (v := 1) K dX2_isKey_10 (by decide) ?_
      refine k_goto K 15 dX2_isKey_11 (by decide) ?_
      cases h
      obtain rfl := hO _ rfl
      exact k_zret (v := 1) K hret (by decide) dX2_isKey_15 (by decide) (by decide)
end F_X2_isKey
section C_X2_isKey
variable {w : kW} {p : Program} {l : Launch} {e : Env} {R : Room} {s : State} {m : MethodId} {args : Array Value} {below : List Frame} {meth : Method} {c : Code} {Q : State → Prop} {cc : ByteArray} {nL : Nat} {σ : kS} {pc : Nat} {lv : List (Nat × Value)} {st rest : List Value} {cells slots : Nat}
theorem cl_X2_145 (K : kC w p s m args meth c cc nL RX2) {a1 : Int32} {r : Int32} (d : decode cc pc = .ok (.invokestatic 145, 3)) (h : fX2_isKey a1 = some r) (hR : rmX2_isKey.frames + 1 ≤ R.frames ∧ 8 + (1 + 11) + rmX2_isKey.locals ≤ R.locals) (hr : (rest.map fun v => v.category).sum ≤ 8) (hf : cells + 0 ≤ R.cells ∧ slots + 0 ≤ R.slots) (kk : kG w p l e R s m args below meth c Q nL σ (pc + 3) lv (.int r :: rest) (cells + 0) (slots + 0)) : kG w p l e R s m args below meth c Q nL σ pc lv (.int a1 :: rest) cells slots :=
  k_callSi (As := [.int a1]) (rest := rest) (n := 1) K d (kg_S tw_745 tw_746 tw_50 tw_747) (by decide +kernel) rfl hR hr rfl hf (mX2_isKey l w σ a1 h) ⟨rfl, rfl⟩ kk
end C_X2_isKey
section F_X2_put
variable {w : kW} {p : Program} {l : Launch} {e : Env} {s : State} {m : MethodId} {args : Array Value} {below : List Frame} {meth : Method} {c : Code}
def fX2_put_30 (x1 : Int32) (x2 : Int32) (x3 : Int32) (t1 : Int32) (t2 : Int32) (σ : kS) : Option (Int32 × kS) :=
  (fX2_goes σ t1 t2 1).bind fun r1 =>
  if r1.1 = 0 then
    some ((0, r1.2))
  else
    (fX2_pointOf x2).bind fun r3 =>
    (fX2_lookFor r1.2 x1 r3).bind fun r4 =>
    if vpi ((64 * r4.1) + x2) 16384 then
      (fX2_give (sI (sI (sI r4.2 132 ((64 * r4.1) + x2).toNatClampNeg (((r4.2).1 132 ((64 * r4.1) + x2).toNatClampNeg) + 1)) 133 ((64 * r4.1) + x2).toNatClampNeg r4.1) 134 ((64 * r4.1) + x2).toNatClampNeg x3) r4.1 x2).bind fun r6 =>
      some (((r6.2).1 132 ((64 * r4.1) + x2).toNatClampNeg, r6.2))
    else none
def fX2_put_21 (x1 : Int32) (x2 : Int32) (x3 : Int32) (t1 : Int32) (σ : kS) : Option (Int32 × kS) :=
  if x3 < 0 then
    fX2_put_30 x1 x2 x3 t1 0 σ
  else
    fX2_put_30 x1 x2 x3 t1 1 σ
def fX2_put_20 (x1 : Int32) (x2 : Int32) (x3 : Int32) (σ : kS) : Option (Int32 × kS) :=
  fX2_put_21 x1 x2 x3 0 σ
def fX2_put (σ : kS) (x1 : Int32) (x2 : Int32) (x3 : Int32) : Option (Int32 × kS) :=
  (fX2_member σ x1).bind fun r1 =>
  if r1 = 0 then
    fX2_put_20 x1 x2 x3 σ
  else
    (fX2_isKey x2).bind fun r3 =>
    if r3 = 0 then
      fX2_put_20 x1 x2 x3 σ
    else
      fX2_put_21 x1 x2 x3 1 σ
def rmX2_put : Room := { frames := 4, cells := 0, slots := 0, locals := 93 }
set_option maxRecDepth 20000 in
theorem pX2_put_30 (K : kC w p s m args meth c cX2_put 7 RX2) (hret : meth.sig.returnType = (some .int)) {x1 : Int32} {x2 : Int32} {x3 : Int32} {t1 : Int32} {t2 : Int32} {σ : kS} {r : (Int32 × kS)} {o : (Int32 × kS)} (h : fX2_put_30 x1 x2 x3 t1 t2 σ = some r) (hO : ∀ z, r = z → z = o) : kG w p l e rmX2_put s m args below meth c (MQ below (kQi w o.1 o.2) args s 0 0 (kA w)) 7 σ 30 [(0, .ref (kL w 126)), (1, .int x1), (2, .int x2), (3, .int x3)] [.int t2, .int t1, .ref (kL w 126)] 0 0 := by
  unfold fX2_put_30 at h
  refine k_iconst (v := 1) K dX2_put_30 (by decide) ?_
  replace h := k_bd h
  obtain ⟨r1, hr1, h⟩ := h
  refine cl_X2_69 K dX2_put_31 hr1 (by decide) (Nat.le_of_ble_eq_true rfl) (by decide) ?_
  replace h := k_br h
  rcases h with ⟨b2, h⟩ | ⟨b2, h⟩
  · refine k_if_ne K 39 dX2_put_34 (by decide) (fun q => absurd b2 q) (fun _ => ?_)
    refine k_iconst (v := 0) K dX2_put_37 (by decide) ?_
    cases h
    obtain rfl := hO _ rfl
    exact k_iret (v := 0) K hret dX2_put_38 (by decide) (by decide)
  · refine k_if_ne K 39 dX2_put_34 (by decide) (fun _ => ?_) (fun q => absurd q b2)
    refine k_aload_n K dX2_put_39 0 rfl ?_
    refine k_iload_n K dX2_put_40 1 rfl ?_
    refine k_iload_n K dX2_put_41 2 rfl ?_
    replace h := k_bd h
    obtain ⟨r3, hr3, h⟩ := h
    refine cl_X2_120 K dX2_put_42 hr3 (by decide) (Nat.le_of_ble_eq_true rfl) (by decide) ?_
    replace h := k_bd h
    obtain ⟨r4, hr4, h⟩ := h
    refine cl_X2_104 K dX2_put_45 hr4 (by decide) (Nat.le_of_ble_eq_true rfl) (by decide) ?_
    refine k_istore (lv' := [(4, .int (r4.1)), (0, .ref (kL w 126)), (1, .int x1), (2, .int x2), (3, .int x3)]) K dX2_put_48 (by decide) rfl ?_
    refine k_bipush (v := 64) K dX2_put_50 (by decide) ?_
    refine k_iload K dX2_put_52 0 rfl ?_
    refine k_imul K dX2_put_54 ?_
    refine k_iload_n K dX2_put_55 3 rfl ?_
    refine k_iadd K dX2_put_56 ?_
    refine k_istore (lv' := [(5, .int ((64 * r4.1) + x2)), (4, .int (r4.1)), (0, .ref (kL w 126)), (1, .int x1), (2, .int x2), (3, .int x3)]) K dX2_put_57 (by decide) rfl ?_
    refine k_aload_n K dX2_put_59 2 rfl ?_
    refine fg_X2_29 K dX2_put_60 ?_
    refine k_iload K dX2_put_63 0 rfl ?_
    refine k_dup2 K dX2_put_65 rfl rfl ?_
    replace h := k_gd h
    obtain ⟨g5, h⟩ := h
    refine k_iald K dX2_put_66 kd_132 g5 ?_
    refine k_iconst (v := 1) K dX2_put_67 (by decide) ?_
    refine k_iadd K dX2_put_68 ?_
    refine k_iast K dX2_put_69 kd_132 g5 ?_
    refine k_aload_n K dX2_put_70 2 rfl ?_
    refine fg_X2_32 K dX2_put_71 ?_
    refine k_iload K dX2_put_74 0 rfl ?_
    refine k_iload K dX2_put_76 1 rfl ?_
    refine k_iast K dX2_put_78 kd_133 g5 ?_
    refine k_aload_n K dX2_put_79 2 rfl ?_
    refine fg_X2_35 K dX2_put_80 ?_
    refine k_iload K dX2_put_83 0 rfl ?_
    refine k_iload_n K dX2_put_85 5 rfl ?_
    refine k_iast K dX2_put_86 kd_134 g5 ?_
    refine k_aload_n K dX2_put_87 2 rfl ?_
    refine k_iload K dX2_put_88 1 rfl ?_
    refine k_iload_n K dX2_put_90 4 rfl ?_
    replace h := k_bd h
    obtain ⟨r6, hr6, h⟩ := h
    refine cl_X2_136 K dX2_put_91 hr6 (by decide) (Nat.le_of_ble_eq_true rfl) (by decide) ?_
    refine k_istore (lv' := [(6, .int (r6.1)), (5, .int ((64 * r4.1) + x2)), (4, .int (r4.1)), (0, .ref (kL w 126)), (1, .int x1), (2, .int x2), (3, .int x3)]) K dX2_put_94 (by decide) rfl ?_
    refine k_aload_n K dX2_put_96 3 rfl ?_
    refine fg_X2_29 K dX2_put_97 ?_
    refine k_iload K dX2_put_100 1 rfl ?_
    refine k_iald K dX2_put_102 kd_132 g5 ?_
    cases h
    obtain rfl := hO _ rfl
    exact k_iret (v := (r6.2).1 132 ((64 * r4.1) + x2).toNatClampNeg) K hret dX2_put_103 (by decide) (by decide)
set_option maxRecDepth 20000 in
theorem pX2_put_21 (K : kC w p s m args meth c cX2_put 7 RX2) (hret : meth.sig.returnType = (some .int)) {x1 : Int32} {x2 : Int32} {x3 : Int32} {t1 : Int32} {σ : kS} {r : (Int32 × kS)} {o : (Int32 × kS)} (h : fX2_put_21 x1 x2 x3 t1 σ = some r) (hO : ∀ z, r = z → z = o) : kG w p l e rmX2_put s m args below meth c (MQ below (kQi w o.1 o.2) args s 0 0 (kA w)) 7 σ 21 [(0, .ref (kL w 126)), (1, .int x1), (2, .int x2), (3, .int x3)] [.int t1, .ref (kL w 126)] 0 0 := by
  unfold fX2_put_21 at h
  refine k_iload_n K dX2_put_21 3 rfl ?_
  replace h := k_br h
  rcases h with ⟨b1, h⟩ | ⟨b1, h⟩
  · refine k_if_lt K 29 dX2_put_22 (by decide) (fun _ => ?_) (fun q => absurd b1 q)
    refine k_iconst (v := 0) K dX2_put_29 (by decide) ?_
    exact pX2_put_30 K hret h hO
  · refine k_if_lt K 29 dX2_put_22 (by decide) (fun q => absurd q b1) (fun _ => ?_)
    refine k_iconst (v := 1) K dX2_put_25 (by decide) ?_
    refine k_goto K 30 dX2_put_26 (by decide) ?_
    exact pX2_put_30 K hret h hO
set_option maxRecDepth 20000 in
theorem pX2_put_20 (K : kC w p s m args meth c cX2_put 7 RX2) (hret : meth.sig.returnType = (some .int)) {x1 : Int32} {x2 : Int32} {x3 : Int32} {σ : kS} {r : (Int32 × kS)} {o : (Int32 × kS)} (h : fX2_put_20 x1 x2 x3 σ = some r) (hO : ∀ z, r = z → z = o) : kG w p l e rmX2_put s m args below meth c (MQ below (kQi w o.1 o.2) args s 0 0 (kA w)) 7 σ 20 [(0, .ref (kL w 126)), (1, .int x1), (2, .int x2), (3, .int x3)] [.ref (kL w 126)] 0 0 := by
  unfold fX2_put_20 at h
  refine k_iconst (v := 0) K dX2_put_20 (by decide) ?_
  exact pX2_put_21 K hret h hO
set_option maxRecDepth 20000 in
theorem mX2_put (l : Launch) (w : kW) (σ : kS) (x1 : Int32) (x2 : Int32) (x3 : Int32) {o : (Int32 × kS)} (h : fX2_put σ x1 x2 x3 = some o) : Met l yX2_put (Cond.code yX2_put cX2_put 7 (some .int) :: TB) rmX2_put (va_Pc [.ref (kL w 126), .int x1, .int x2, .int x3] (kP w σ)) (kQi w o.1 o.2) 0 0 (kA w) := by
  refine k_met (by decide +kernel) [.ref (kL w 126), .int x1, .int x2, .int x3] (Nat.le_of_ble_eq_true rfl) (by simp [lv_args, Value.category]) ?_
  intro p e s m args below meth c K hret
  have K : kC w p s m args meth c cX2_put 7 RX2 := K
  obtain ⟨r, hro⟩ : ∃ r, r = o := ⟨o, rfl⟩
  rw [← hro] at h
  have hO : ∀ z, r = z → z = o := fun z e => by rw [← e]; exact hro
  unfold fX2_put at h
  refine k_aload_n K dX2_put_0 0 rfl ?_
  refine k_aload_n K dX2_put_1 0 rfl ?_
  refine k_iload_n K dX2_put_2 1 rfl ?_
  replace h := k_bd h
  obtain ⟨r1, hr1, h⟩ := h
  refine cl_X2_101 K dX2_put_3 hr1 (by decide) (Nat.le_of_ble_eq_true rfl) (by decide) ?_
  replace h := k_br h
  rcases h with ⟨b2, h⟩ | ⟨b2, h⟩
  · refine k_if_eq K 20 dX2_put_6 (by decide) (fun _ => ?_) (fun q => absurd b2 q)
    exact pX2_put_20 K hret h hO
  · refine k_if_eq K 20 dX2_put_6 (by decide) (fun q => absurd q b2) (fun _ => ?_)
    refine k_iload_n K dX2_put_9 2 rfl ?_
    replace h := k_bd h
    obtain ⟨r3, hr3, h⟩ := h
    refine cl_X2_145 K dX2_put_10 hr3 (by decide) (Nat.le_of_ble_eq_true rfl) (by decide) ?_
    replace h := k_br h
    rcases h with ⟨b4, h⟩ | ⟨b4, h⟩
    · refine k_if_eq K 20 dX2_put_13 (by decide) (fun _ => ?_) (fun q => absurd b4 q)
      exact pX2_put_20 K hret h hO
    · refine k_if_eq K 20 dX2_put_13 (by decide) (fun q => absurd q b4) (fun _ => ?_)
      refine k_iconst (v := 1) K dX2_put_16 (by decide) ?_
      refine k_goto K 21 dX2_put_17 (by decide) ?_
      exact pX2_put_21 K hret h hO
end F_X2_put
section F_X2_get
variable {w : kW} {p : Program} {l : Launch} {e : Env} {s : State} {m : MethodId} {args : Array Value} {below : List Frame} {meth : Method} {c : Code}
def fX2_get_141 (x4 : Int32) (σ : kS) : Option (Int32 × kS) :=
  if vpi x4 16384 then
    if (σ.1 132 x4.toNatClampNeg) ≤ 0 then
      some (((-1), σ))
    else
      some ((σ.1 134 x4.toNatClampNeg, σ))
  else none
def fX2_get_133 (x2 : Int32) (x3 : Int32) (x5 : Int32) (x6 : Int32) (t0 : Int32) (σ : kS) : Option ((Int32 × Int32) ⊕ (Int32 × kS)) :=
  some (.inl (t0, x6 + 1))
def fX2_get_131 (x2 : Int32) (x3 : Int32) (x4 : Int32) (x5 : Int32) (x6 : Int32) (σ : kS) : Option ((Int32 × Int32) ⊕ (Int32 × kS)) :=
  fX2_get_133 x2 x3 x5 x6 x4 σ
def gX2_get_69 (x2 : Int32) (x3 : Int32) (x5 : Int32) (σ : kS) (x4 : Int32) (x6 : Int32) : Option ((Int32 × Int32) ⊕ (Int32 × kS)) :=
  if (σ.1 126 1) ≤ x6 then
    (fX2_get_141 x4 σ).map .inr
  else
    if x5 = 0 then
      if vpi ((4 * x3) + x6) 1024 then
        (fX2_live σ (σ.1 128 ((4 * x3) + x6).toNatClampNeg)).bind fun r4 =>
        if r4 = 0 then
          fX2_get_131 x2 x3 x4 x5 x6 σ
        else
          (fX2_higher σ ((64 * (σ.1 128 ((4 * x3) + x6).toNatClampNeg)) + x2) x4).bind fun r6 =>
          if r6 = 0 then
            fX2_get_131 x2 x3 x4 x5 x6 σ
          else
            fX2_get_133 x2 x3 x5 x6 ((64 * (σ.1 128 ((4 * x3) + x6).toNatClampNeg)) + x2) σ
      else none
    else
      (fX2_get_141 x4 σ).map .inr
def fX2_get_69 (x2 : Int32) (x3 : Int32) (x5 : Int32) (σ : kS) (a : Int32 × Int32) : Option ((Int32 × Int32) ⊕ (Int32 × kS)) := gX2_get_69 x2 x3 x5 σ a.1 a.2
def fX2_get_64 (x2 : Int32) (x3 : Int32) (x4 : Int32) (t0 : Int32) (σ : kS) : Option (Int32 × kS) :=
  kit (fX2_get_69 x2 x3 t0 σ) 300 (x4, 0)
def fX2_get_21 (x1 : Int32) (x2 : Int32) (t1 : Int32) (σ : kS) : Option (Int32 × kS) :=
  (fX2_goes σ t1 1 1).bind fun r1 =>
  if r1.1 = 0 then
    some ((0, r1.2))
  else
    (fX2_pointOf x2).bind fun r3 =>
    (fX2_lookFor r1.2 x1 r3).bind fun r4 =>
    if vpi ((64 * r4.1) + x2) 16384 then
      if ((r4.2).1 132 ((64 * r4.1) + x2).toNatClampNeg) ≤ 0 then
        fX2_get_64 x2 r4.1 ((64 * r4.1) + x2) 0 r4.2
      else
        fX2_get_64 x2 r4.1 ((64 * r4.1) + x2) 1 r4.2
    else none
def fX2_get_20 (x1 : Int32) (x2 : Int32) (σ : kS) : Option (Int32 × kS) :=
  fX2_get_21 x1 x2 0 σ
def fX2_get (σ : kS) (x1 : Int32) (x2 : Int32) : Option (Int32 × kS) :=
  (fX2_member σ x1).bind fun r1 =>
  if r1 = 0 then
    fX2_get_20 x1 x2 σ
  else
    (fX2_isKey x2).bind fun r3 =>
    if r3 = 0 then
      fX2_get_20 x1 x2 σ
    else
      fX2_get_21 x1 x2 1 σ
def rmX2_get : Room := { frames := 4, cells := 0, slots := 0, locals := 93 }
set_option maxRecDepth 20000 in
theorem pX2_get_141 (K : kC w p s m args meth c cX2_get 8 RX2) (hret : meth.sig.returnType = (some .int)) {x4 : Int32} {σ : kS} {r : (Int32 × kS)} {o : (Int32 × kS)} (h : fX2_get_141 x4 σ = some r) (hO : ∀ z, r = z → z = o) : kG w p l e rmX2_get s m args below meth c (MQ below (kQi w o.1 o.2) args s 0 0 (kA w)) 8 σ 141 [(0, .ref (kL w 126)), (4, .int x4)] [] 0 0 := by
  unfold fX2_get_141 at h
  refine k_aload_n K dX2_get_141 0 rfl ?_
  refine fg_X2_29 K dX2_get_142 ?_
  refine k_iload K dX2_get_145 1 rfl ?_
  replace h := k_gd h
  obtain ⟨g1, h⟩ := h
  refine k_iald K dX2_get_147 kd_132 g1 ?_
  replace h := k_br h
  rcases h with ⟨b2, h⟩ | ⟨b2, h⟩
  · refine k_if_le K 161 dX2_get_148 (by decide) (fun _ => ?_) (fun q => absurd b2 q)
    refine k_iconst (v := (-1)) K dX2_get_161 (by decide) ?_
    cases h
    obtain rfl := hO _ rfl
    exact k_iret (v := (-1)) K hret dX2_get_162 (by decide) (by decide)
  · refine k_if_le K 161 dX2_get_148 (by decide) (fun q => absurd q b2) (fun _ => ?_)
    refine k_aload_n K dX2_get_151 0 rfl ?_
    refine fg_X2_35 K dX2_get_152 ?_
    refine k_iload K dX2_get_155 1 rfl ?_
    refine k_iald K dX2_get_157 kd_134 g1 ?_
    refine k_goto K 162 dX2_get_158 (by decide) ?_
    cases h
    obtain rfl := hO _ rfl
    exact k_iret (v := σ.1 134 x4.toNatClampNeg) K hret dX2_get_162 (by decide) (by decide)
set_option maxRecDepth 20000 in
theorem pX2_get_133 (K : kC w p s m args meth c cX2_get 8 RX2) (hret : meth.sig.returnType = (some .int)) {x2 : Int32} {x3 : Int32} {x5 : Int32} {x6 : Int32} {t0 : Int32} {σ : kS} {r : ((Int32 × Int32) ⊕ (Int32 × kS))} {o : (Int32 × kS)} (h : fX2_get_133 x2 x3 x5 x6 t0 σ = some r) (hL69 : ∀ z, r = .inl z → kG w p l e rmX2_get s m args below meth c (MQ below (kQi w o.1 o.2) args s 0 0 (kA w)) 8 σ 69 [(0, .ref (kL w 126)), (2, .int x2), (3, .int x3), (4, .int (z.1)), (5, .int x5), (6, .int (z.2))] [] 0 0) (hO : ∀ z, r = .inr z → z = o) : kG w p l e rmX2_get s m args below meth c (MQ below (kQi w o.1 o.2) args s 0 0 (kA w)) 8 σ 133 [(0, .ref (kL w 126)), (2, .int x2), (3, .int x3), (5, .int x5), (6, .int x6)] [.int t0] 0 0 := by
  unfold fX2_get_133 at h
  refine k_istore (lv' := [(4, .int t0), (0, .ref (kL w 126)), (2, .int x2), (3, .int x3), (5, .int x5), (6, .int x6)]) K dX2_get_133 (by decide) rfl ?_
  refine k_iinc (v := 1) (lv' := [(6, .int (x6 + 1)), (4, .int t0), (0, .ref (kL w 126)), (2, .int x2), (3, .int x3), (5, .int x5)]) K dX2_get_135 5 rfl (by decide) (by decide) rfl ?_
  refine k_goto K 69 dX2_get_138 (by decide) ?_
  refine k_sub [2, 3, 4, 1, 5, 0] rfl ?_
  cases h
  exact hL69 _ rfl
set_option maxRecDepth 20000 in
theorem pX2_get_131 (K : kC w p s m args meth c cX2_get 8 RX2) (hret : meth.sig.returnType = (some .int)) {x2 : Int32} {x3 : Int32} {x4 : Int32} {x5 : Int32} {x6 : Int32} {σ : kS} {r : ((Int32 × Int32) ⊕ (Int32 × kS))} {o : (Int32 × kS)} (h : fX2_get_131 x2 x3 x4 x5 x6 σ = some r) (hL69 : ∀ z, r = .inl z → kG w p l e rmX2_get s m args below meth c (MQ below (kQi w o.1 o.2) args s 0 0 (kA w)) 8 σ 69 [(0, .ref (kL w 126)), (2, .int x2), (3, .int x3), (4, .int (z.1)), (5, .int x5), (6, .int (z.2))] [] 0 0) (hO : ∀ z, r = .inr z → z = o) : kG w p l e rmX2_get s m args below meth c (MQ below (kQi w o.1 o.2) args s 0 0 (kA w)) 8 σ 131 [(0, .ref (kL w 126)), (2, .int x2), (3, .int x3), (4, .int x4), (5, .int x5), (6, .int x6)] [] 0 0 := by
  unfold fX2_get_131 at h
  refine k_iload K dX2_get_131 3 rfl ?_
  refine k_sub [0, 1, 2, 4, 5] rfl ?_
  exact pX2_get_133 K hret h hL69 hO
set_option maxRecDepth 20000 in
theorem pX2_get_69 (K : kC w p s m args meth c cX2_get 8 RX2) (hret : meth.sig.returnType = (some .int)) {x2 : Int32} {x3 : Int32} {x5 : Int32} {σ : kS} {x4 : Int32} {x6 : Int32} {r : ((Int32 × Int32) ⊕ (Int32 × kS))} {o : (Int32 × kS)} (h : gX2_get_69 x2 x3 x5 σ x4 x6 = some r) (hL69 : ∀ z, r = .inl z → kG w p l e rmX2_get s m args below meth c (MQ below (kQi w o.1 o.2) args s 0 0 (kA w)) 8 σ 69 [(0, .ref (kL w 126)), (2, .int x2), (3, .int x3), (4, .int (z.1)), (5, .int x5), (6, .int (z.2))] [] 0 0) (hO : ∀ z, r = .inr z → z = o) : kG w p l e rmX2_get s m args below meth c (MQ below (kQi w o.1 o.2) args s 0 0 (kA w)) 8 σ 69 [(0, .ref (kL w 126)), (2, .int x2), (3, .int x3), (4, .int x4), (5, .int x5), (6, .int x6)] [] 0 0 := by
  unfold gX2_get_69 at h
  refine k_iload K dX2_get_69 5 rfl ?_
  refine k_aload_n K dX2_get_71 0 rfl ?_
  refine fg_X2_7 K dX2_get_72 ?_
  replace h := k_br h
  rcases h with ⟨b1, h⟩ | ⟨b1, h⟩
  · refine k_icmp_ge K 141 dX2_get_75 (by decide) (fun _ => ?_) (fun q => absurd b1 q)
    refine k_sub [0, 3] rfl ?_
    replace h := k_mp h
    obtain ⟨_, h, rfl⟩ := h
    exact pX2_get_141 K hret h (fun z e => hO z (by rw [e]))
  · refine k_icmp_ge K 141 dX2_get_75 (by decide) (fun q => absurd q b1) (fun _ => ?_)
    refine k_iload K dX2_get_78 4 rfl ?_
    replace h := k_br h
    rcases h with ⟨b2, h⟩ | ⟨b2, h⟩
    · refine k_if_ne K 141 dX2_get_80 (by decide) (fun q => absurd b2 q) (fun _ => ?_)
      refine k_aload_n K dX2_get_83 0 rfl ?_
      refine fg_X2_17 K dX2_get_84 ?_
      refine k_iconst (v := 4) K dX2_get_87 (by decide) ?_
      refine k_iload_n K dX2_get_88 2 rfl ?_
      refine k_imul K dX2_get_89 ?_
      refine k_iload K dX2_get_90 5 rfl ?_
      refine k_iadd K dX2_get_92 ?_
      replace h := k_gd h
      obtain ⟨g3, h⟩ := h
      refine k_iald K dX2_get_93 kd_128 g3 ?_
      refine k_istore (lv' := [(7, .int (σ.1 128 ((4 * x3) + x6).toNatClampNeg)), (0, .ref (kL w 126)), (2, .int x2), (3, .int x3), (4, .int x4), (5, .int x5), (6, .int x6)]) K dX2_get_94 (by decide) rfl ?_
      refine k_aload_n K dX2_get_96 1 rfl ?_
      refine k_iload K dX2_get_97 0 rfl ?_
      replace h := k_bd h
      obtain ⟨r4, hr4, h⟩ := h
      refine cl_X2_58 K dX2_get_99 hr4 (by decide) (Nat.le_of_ble_eq_true rfl) (by decide) ?_
      replace h := k_br h
      rcases h with ⟨b5, h⟩ | ⟨b5, h⟩
      · refine k_if_eq K 131 dX2_get_102 (by decide) (fun _ => ?_) (fun q => absurd b5 q)
        refine k_sub [1, 2, 3, 4, 5, 6] rfl ?_
        exact pX2_get_131 K hret h hL69 hO
      · refine k_if_eq K 131 dX2_get_102 (by decide) (fun q => absurd q b5) (fun _ => ?_)
        refine k_aload_n K dX2_get_105 1 rfl ?_
        refine k_bipush (v := 64) K dX2_get_106 (by decide) ?_
        refine k_iload K dX2_get_108 0 rfl ?_
        refine k_imul K dX2_get_110 ?_
        refine k_iload_n K dX2_get_111 2 rfl ?_
        refine k_iadd K dX2_get_112 ?_
        refine k_iload K dX2_get_113 4 rfl ?_
        replace h := k_bd h
        obtain ⟨r6, hr6, h⟩ := h
        refine cl_X2_127 K dX2_get_115 hr6 (by decide) (Nat.le_of_ble_eq_true rfl) (by decide) ?_
        replace h := k_br h
        rcases h with ⟨b7, h⟩ | ⟨b7, h⟩
        · refine k_if_eq K 131 dX2_get_118 (by decide) (fun _ => ?_) (fun q => absurd b7 q)
          refine k_sub [1, 2, 3, 4, 5, 6] rfl ?_
          exact pX2_get_131 K hret h hL69 hO
        · refine k_if_eq K 131 dX2_get_118 (by decide) (fun q => absurd q b7) (fun _ => ?_)
          refine k_bipush (v := 64) K dX2_get_121 (by decide) ?_
          refine k_iload K dX2_get_123 0 rfl ?_
          refine k_imul K dX2_get_125 ?_
          refine k_iload_n K dX2_get_126 2 rfl ?_
          refine k_iadd K dX2_get_127 ?_
          refine k_goto K 133 dX2_get_128 (by decide) ?_
          refine k_sub [1, 2, 3, 5, 6] rfl ?_
          exact pX2_get_133 K hret h hL69 hO
    · refine k_if_ne K 141 dX2_get_80 (by decide) (fun _ => ?_) (fun q => absurd q b2)
      refine k_sub [0, 3] rfl ?_
      replace h := k_mp h
      obtain ⟨_, h, rfl⟩ := h
      exact pX2_get_141 K hret h (fun z e => hO z (by rw [e]))
set_option maxRecDepth 20000 in
theorem lX2_get_69 (K : kC w p s m args meth c cX2_get 8 RX2) (hret : meth.sig.returnType = (some .int)) {x2 : Int32} {x3 : Int32} {x5 : Int32} {σ : kS} {n : Nat} {a : Int32 × Int32} {r : (Int32 × kS)} {o : (Int32 × kS)} (h : kit (fX2_get_69 x2 x3 x5 σ) n a = some r) (hO : ∀ z, r = z → z = o) : kG w p l e rmX2_get s m args below meth c (MQ below (kQi w o.1 o.2) args s 0 0 (kA w)) 8 σ 69 [(0, .ref (kL w 126)), (2, .int x2), (3, .int x3), (4, .int (a.1)), (5, .int x5), (6, .int (a.2))] [] 0 0 :=
  kit_ind (body := fX2_get_69 x2 x3 x5 σ) (fun a r => (∀ z, r = z → z = o) → kG w p l e rmX2_get s m args below meth c (MQ below (kQi w o.1 o.2) args s 0 0 (kA w)) 8 σ 69 [(0, .ref (kL w 126)), (2, .int x2), (3, .int x3), (4, .int (a.1)), (5, .int x5), (6, .int (a.2))] [] 0 0) (fun a a2 r hb ih hO => pX2_get_69 K hret hb (fun z e => by cases e; exact ih hO) (fun _ e => by cases e)) (fun a r hb hO => pX2_get_69 K hret hb (fun _ e => by cases e) (fun z e => hO z (by cases e; rfl))) n a r h hO
set_option maxRecDepth 20000 in
theorem pX2_get_64 (K : kC w p s m args meth c cX2_get 8 RX2) (hret : meth.sig.returnType = (some .int)) {x2 : Int32} {x3 : Int32} {x4 : Int32} {t0 : Int32} {σ : kS} {r : (Int32 × kS)} {o : (Int32 × kS)} (h : fX2_get_64 x2 x3 x4 t0 σ = some r) (hO : ∀ z, r = z → z = o) : kG w p l e rmX2_get s m args below meth c (MQ below (kQi w o.1 o.2) args s 0 0 (kA w)) 8 σ 64 [(0, .ref (kL w 126)), (2, .int x2), (3, .int x3), (4, .int x4)] [.int t0] 0 0 := by
  unfold fX2_get_64 at h
  refine k_istore (lv' := [(5, .int t0), (0, .ref (kL w 126)), (2, .int x2), (3, .int x3), (4, .int x4)]) K dX2_get_64 (by decide) rfl ?_
  refine k_iconst (v := 0) K dX2_get_66 (by decide) ?_
  refine k_istore (lv' := [(6, .int 0), (5, .int t0), (0, .ref (kL w 126)), (2, .int x2), (3, .int x3), (4, .int x4)]) K dX2_get_67 (by decide) rfl ?_
  refine k_sub [2, 3, 4, 5, 1, 0] rfl ?_
  exact lX2_get_69 K hret h hO
set_option maxRecDepth 20000 in
theorem pX2_get_21 (K : kC w p s m args meth c cX2_get 8 RX2) (hret : meth.sig.returnType = (some .int)) {x1 : Int32} {x2 : Int32} {t1 : Int32} {σ : kS} {r : (Int32 × kS)} {o : (Int32 × kS)} (h : fX2_get_21 x1 x2 t1 σ = some r) (hO : ∀ z, r = z → z = o) : kG w p l e rmX2_get s m args below meth c (MQ below (kQi w o.1 o.2) args s 0 0 (kA w)) 8 σ 21 [(0, .ref (kL w 126)), (1, .int x1), (2, .int x2)] [.int t1, .ref (kL w 126)] 0 0 := by
  unfold fX2_get_21 at h
  refine k_iconst (v := 1) K dX2_get_21 (by decide) ?_
  refine k_iconst (v := 1) K dX2_get_22 (by decide) ?_
  replace h := k_bd h
  obtain ⟨r1, hr1, h⟩ := h
  refine cl_X2_69 K dX2_get_23 hr1 (by decide) (Nat.le_of_ble_eq_true rfl) (by decide) ?_
  replace h := k_br h
  rcases h with ⟨b2, h⟩ | ⟨b2, h⟩
  · refine k_if_ne K 31 dX2_get_26 (by decide) (fun q => absurd b2 q) (fun _ => ?_)
    refine k_iconst (v := 0) K dX2_get_29 (by decide) ?_
    cases h
    obtain rfl := hO _ rfl
    exact k_iret (v := 0) K hret dX2_get_30 (by decide) (by decide)
  · refine k_if_ne K 31 dX2_get_26 (by decide) (fun _ => ?_) (fun q => absurd q b2)
    refine k_aload_n K dX2_get_31 0 rfl ?_
    refine k_iload_n K dX2_get_32 1 rfl ?_
    refine k_iload_n K dX2_get_33 2 rfl ?_
    replace h := k_bd h
    obtain ⟨r3, hr3, h⟩ := h
    refine cl_X2_120 K dX2_get_34 hr3 (by decide) (Nat.le_of_ble_eq_true rfl) (by decide) ?_
    replace h := k_bd h
    obtain ⟨r4, hr4, h⟩ := h
    refine cl_X2_104 K dX2_get_37 hr4 (by decide) (Nat.le_of_ble_eq_true rfl) (by decide) ?_
    refine k_istore_n (lv' := [(3, .int (r4.1)), (0, .ref (kL w 126)), (1, .int x1), (2, .int x2)]) K dX2_get_40 (by decide) rfl ?_
    refine k_bipush (v := 64) K dX2_get_41 (by decide) ?_
    refine k_iload_n K dX2_get_43 0 rfl ?_
    refine k_imul K dX2_get_44 ?_
    refine k_iload_n K dX2_get_45 3 rfl ?_
    refine k_iadd K dX2_get_46 ?_
    refine k_istore (lv' := [(4, .int ((64 * r4.1) + x2)), (3, .int (r4.1)), (0, .ref (kL w 126)), (1, .int x1), (2, .int x2)]) K dX2_get_47 (by decide) rfl ?_
    refine k_aload_n K dX2_get_49 2 rfl ?_
    refine fg_X2_29 K dX2_get_50 ?_
    refine k_iload K dX2_get_53 0 rfl ?_
    replace h := k_gd h
    obtain ⟨g5, h⟩ := h
    refine k_iald K dX2_get_55 kd_132 g5 ?_
    replace h := k_br h
    rcases h with ⟨b6, h⟩ | ⟨b6, h⟩
    · refine k_if_le K 63 dX2_get_56 (by decide) (fun _ => ?_) (fun q => absurd b6 q)
      refine k_iconst (v := 0) K dX2_get_63 (by decide) ?_
      refine k_sub [2, 4, 1, 0] rfl ?_
      exact pX2_get_64 K hret h hO
    · refine k_if_le K 63 dX2_get_56 (by decide) (fun q => absurd q b6) (fun _ => ?_)
      refine k_iconst (v := 1) K dX2_get_59 (by decide) ?_
      refine k_goto K 64 dX2_get_60 (by decide) ?_
      refine k_sub [2, 4, 1, 0] rfl ?_
      exact pX2_get_64 K hret h hO
set_option maxRecDepth 20000 in
theorem pX2_get_20 (K : kC w p s m args meth c cX2_get 8 RX2) (hret : meth.sig.returnType = (some .int)) {x1 : Int32} {x2 : Int32} {σ : kS} {r : (Int32 × kS)} {o : (Int32 × kS)} (h : fX2_get_20 x1 x2 σ = some r) (hO : ∀ z, r = z → z = o) : kG w p l e rmX2_get s m args below meth c (MQ below (kQi w o.1 o.2) args s 0 0 (kA w)) 8 σ 20 [(0, .ref (kL w 126)), (1, .int x1), (2, .int x2)] [.ref (kL w 126)] 0 0 := by
  unfold fX2_get_20 at h
  refine k_iconst (v := 0) K dX2_get_20 (by decide) ?_
  exact pX2_get_21 K hret h hO
set_option maxRecDepth 20000 in
theorem mX2_get (l : Launch) (w : kW) (σ : kS) (x1 : Int32) (x2 : Int32) {o : (Int32 × kS)} (h : fX2_get σ x1 x2 = some o) : Met l yX2_get (Cond.code yX2_get cX2_get 8 (some .int) :: TB) rmX2_get (va_Pc [.ref (kL w 126), .int x1, .int x2] (kP w σ)) (kQi w o.1 o.2) 0 0 (kA w) := by
  refine k_met (by decide +kernel) [.ref (kL w 126), .int x1, .int x2] (Nat.le_of_ble_eq_true rfl) (by simp [lv_args, Value.category]) ?_
  intro p e s m args below meth c K hret
  have K : kC w p s m args meth c cX2_get 8 RX2 := K
  obtain ⟨r, hro⟩ : ∃ r, r = o := ⟨o, rfl⟩
  rw [← hro] at h
  have hO : ∀ z, r = z → z = o := fun z e => by rw [← e]; exact hro
  unfold fX2_get at h
  refine k_aload_n K dX2_get_0 0 rfl ?_
  refine k_aload_n K dX2_get_1 0 rfl ?_
  refine k_iload_n K dX2_get_2 1 rfl ?_
  replace h := k_bd h
  obtain ⟨r1, hr1, h⟩ := h
  refine cl_X2_101 K dX2_get_3 hr1 (by decide) (Nat.le_of_ble_eq_true rfl) (by decide) ?_
  replace h := k_br h
  rcases h with ⟨b2, h⟩ | ⟨b2, h⟩
  · refine k_if_eq K 20 dX2_get_6 (by decide) (fun _ => ?_) (fun q => absurd b2 q)
    exact pX2_get_20 K hret h hO
  · refine k_if_eq K 20 dX2_get_6 (by decide) (fun q => absurd q b2) (fun _ => ?_)
    refine k_iload_n K dX2_get_9 2 rfl ?_
    replace h := k_bd h
    obtain ⟨r3, hr3, h⟩ := h
    refine cl_X2_145 K dX2_get_10 hr3 (by decide) (Nat.le_of_ble_eq_true rfl) (by decide) ?_
    replace h := k_br h
    rcases h with ⟨b4, h⟩ | ⟨b4, h⟩
    · refine k_if_eq K 20 dX2_get_13 (by decide) (fun _ => ?_) (fun q => absurd b4 q)
      exact pX2_get_20 K hret h hO
    · refine k_if_eq K 20 dX2_get_13 (by decide) (fun q => absurd q b4) (fun _ => ?_)
      refine k_iconst (v := 1) K dX2_get_16 (by decide) ?_
      refine k_goto K 21 dX2_get_17 (by decide) ?_
      exact pX2_get_21 K hret h hO
end F_X2_get
section F_X2_spreadFrom
variable {w : kW} {p : Program} {l : Launch} {e : Env} {s : State} {m : MethodId} {args : Array Value} {below : List Frame} {meth : Method} {c : Code}
def fX2_spreadFrom_58 (x1 : Int32) (x3 : Int32) (t0 : Int32) (σ : kS) : Option ((Int32 × Int32 × kS) ⊕ (Int32 × kS)) :=
  some (.inl (t0, x3 + 1, σ))
def fX2_spreadFrom_57 (x1 : Int32) (x2 : Int32) (x3 : Int32) (σ : kS) : Option ((Int32 × Int32 × kS) ⊕ (Int32 × kS)) :=
  fX2_spreadFrom_58 x1 x3 x2 σ
def gX2_spreadFrom_4 (x1 : Int32) (x2 : Int32) (x3 : Int32) (σ : kS) : Option ((Int32 × Int32 × kS) ⊕ (Int32 × kS)) :=
  if 64 ≤ x3 then
    some (.inr ((x2, σ)))
  else
    if vpi x1 256 then
      (fX2_live σ (σ.1 129 x1.toNatClampNeg)).bind fun r3 =>
      if r3 = 0 then
        some (.inr ((x2, σ)))
      else
        if vpi ((64 * x1) + x3) 16384 then
          if (σ.1 132 ((64 * x1) + x3).toNatClampNeg) ≤ 0 then
            fX2_spreadFrom_57 x1 x2 x3 σ
          else
            (fX2_belongs σ x3 x1).bind fun r7 =>
            if r7 = 0 then
              fX2_spreadFrom_57 x1 x2 x3 σ
            else
              (fX2_give σ x1 x3).bind fun r9 =>
              fX2_spreadFrom_58 x1 x3 (x2 + r9.1) r9.2
        else none
    else none
def fX2_spreadFrom_4 (x1 : Int32) (a : Int32 × Int32 × kS) : Option ((Int32 × Int32 × kS) ⊕ (Int32 × kS)) := gX2_spreadFrom_4 x1 a.1 a.2.1 a.2.2
def fX2_spreadFrom (σ : kS) (x1 : Int32) : Option (Int32 × kS) :=
  kit (fX2_spreadFrom_4 x1) 300 (0, 0, σ)
def rmX2_spreadFrom : Room := { frames := 3, cells := 0, slots := 0, locals := 66 }
set_option maxRecDepth 20000 in
theorem pX2_spreadFrom_58 (K : kC w p s m args meth c cX2_spreadFrom 4 RX2) (hret : meth.sig.returnType = (some .int)) {x1 : Int32} {x3 : Int32} {t0 : Int32} {σ : kS} {r : ((Int32 × Int32 × kS) ⊕ (Int32 × kS))} {o : (Int32 × kS)} (h : fX2_spreadFrom_58 x1 x3 t0 σ = some r) (hL4 : ∀ z, r = .inl z → kG w p l e rmX2_spreadFrom s m args below meth c (MQ below (kQi w o.1 o.2) args s 0 0 (kA w)) 4 z.2.2 4 [(0, .ref (kL w 126)), (1, .int x1), (2, .int (z.1)), (3, .int (z.2.1))] [] 0 0) (hO : ∀ z, r = .inr z → z = o) : kG w p l e rmX2_spreadFrom s m args below meth c (MQ below (kQi w o.1 o.2) args s 0 0 (kA w)) 4 σ 58 [(0, .ref (kL w 126)), (1, .int x1), (3, .int x3)] [.int t0] 0 0 := by
  unfold fX2_spreadFrom_58 at h
  refine k_istore_n (lv' := [(2, .int t0), (0, .ref (kL w 126)), (1, .int x1), (3, .int x3)]) K dX2_spreadFrom_58 (by decide) rfl ?_
  refine k_iinc (v := 1) (lv' := [(3, .int (x3 + 1)), (2, .int t0), (0, .ref (kL w 126)), (1, .int x1)]) K dX2_spreadFrom_59 3 rfl (by decide) (by decide) rfl ?_
  refine k_goto K 4 dX2_spreadFrom_62 (by decide) ?_
  refine k_sub [2, 3, 1, 0] rfl ?_
  cases h
  exact hL4 _ rfl
set_option maxRecDepth 20000 in
theorem pX2_spreadFrom_57 (K : kC w p s m args meth c cX2_spreadFrom 4 RX2) (hret : meth.sig.returnType = (some .int)) {x1 : Int32} {x2 : Int32} {x3 : Int32} {σ : kS} {r : ((Int32 × Int32 × kS) ⊕ (Int32 × kS))} {o : (Int32 × kS)} (h : fX2_spreadFrom_57 x1 x2 x3 σ = some r) (hL4 : ∀ z, r = .inl z → kG w p l e rmX2_spreadFrom s m args below meth c (MQ below (kQi w o.1 o.2) args s 0 0 (kA w)) 4 z.2.2 4 [(0, .ref (kL w 126)), (1, .int x1), (2, .int (z.1)), (3, .int (z.2.1))] [] 0 0) (hO : ∀ z, r = .inr z → z = o) : kG w p l e rmX2_spreadFrom s m args below meth c (MQ below (kQi w o.1 o.2) args s 0 0 (kA w)) 4 σ 57 [(0, .ref (kL w 126)), (1, .int x1), (2, .int x2), (3, .int x3)] [] 0 0 := by
  unfold fX2_spreadFrom_57 at h
  refine k_iload_n K dX2_spreadFrom_57 2 rfl ?_
  refine k_sub [0, 1, 3] rfl ?_
  exact pX2_spreadFrom_58 K hret h hL4 hO
set_option maxRecDepth 20000 in
theorem pX2_spreadFrom_4 (K : kC w p s m args meth c cX2_spreadFrom 4 RX2) (hret : meth.sig.returnType = (some .int)) {x1 : Int32} {x2 : Int32} {x3 : Int32} {σ : kS} {r : ((Int32 × Int32 × kS) ⊕ (Int32 × kS))} {o : (Int32 × kS)} (h : gX2_spreadFrom_4 x1 x2 x3 σ = some r) (hL4 : ∀ z, r = .inl z → kG w p l e rmX2_spreadFrom s m args below meth c (MQ below (kQi w o.1 o.2) args s 0 0 (kA w)) 4 z.2.2 4 [(0, .ref (kL w 126)), (1, .int x1), (2, .int (z.1)), (3, .int (z.2.1))] [] 0 0) (hO : ∀ z, r = .inr z → z = o) : kG w p l e rmX2_spreadFrom s m args below meth c (MQ below (kQi w o.1 o.2) args s 0 0 (kA w)) 4 σ 4 [(0, .ref (kL w 126)), (1, .int x1), (2, .int x2), (3, .int x3)] [] 0 0 := by
  unfold gX2_spreadFrom_4 at h
  refine k_iload_n K dX2_spreadFrom_4 3 rfl ?_
  refine k_bipush (v := 64) K dX2_spreadFrom_5 (by decide) ?_
  replace h := k_br h
  rcases h with ⟨b1, h⟩ | ⟨b1, h⟩
  · refine k_icmp_ge K 65 dX2_spreadFrom_7 (by decide) (fun _ => ?_) (fun q => absurd b1 q)
    refine k_iload_n K dX2_spreadFrom_65 2 rfl ?_
    cases h
    obtain rfl := hO _ rfl
    exact k_iret K hret dX2_spreadFrom_66 (by decide) (by decide)
  · refine k_icmp_ge K 65 dX2_spreadFrom_7 (by decide) (fun q => absurd q b1) (fun _ => ?_)
    refine k_aload_n K dX2_spreadFrom_10 0 rfl ?_
    refine k_aload_n K dX2_spreadFrom_11 0 rfl ?_
    refine fg_X2_20 K dX2_spreadFrom_12 ?_
    refine k_iload_n K dX2_spreadFrom_15 1 rfl ?_
    replace h := k_gd h
    obtain ⟨g2, h⟩ := h
    refine k_iald K dX2_spreadFrom_16 kd_129 g2 ?_
    replace h := k_bd h
    obtain ⟨r3, hr3, h⟩ := h
    refine cl_X2_58 K dX2_spreadFrom_17 hr3 (by decide) (Nat.le_of_ble_eq_true rfl) (by decide) ?_
    replace h := k_br h
    rcases h with ⟨b4, h⟩ | ⟨b4, h⟩
    · refine k_if_eq K 65 dX2_spreadFrom_20 (by decide) (fun _ => ?_) (fun q => absurd b4 q)
      refine k_iload_n K dX2_spreadFrom_65 2 rfl ?_
      cases h
      obtain rfl := hO _ rfl
      exact k_iret K hret dX2_spreadFrom_66 (by decide) (by decide)
    · refine k_if_eq K 65 dX2_spreadFrom_20 (by decide) (fun q => absurd q b4) (fun _ => ?_)
      refine k_aload_n K dX2_spreadFrom_23 0 rfl ?_
      refine fg_X2_29 K dX2_spreadFrom_24 ?_
      refine k_bipush (v := 64) K dX2_spreadFrom_27 (by decide) ?_
      refine k_iload_n K dX2_spreadFrom_29 1 rfl ?_
      refine k_imul K dX2_spreadFrom_30 ?_
      refine k_iload_n K dX2_spreadFrom_31 3 rfl ?_
      refine k_iadd K dX2_spreadFrom_32 ?_
      replace h := k_gd h
      obtain ⟨g5, h⟩ := h
      refine k_iald K dX2_spreadFrom_33 kd_132 g5 ?_
      replace h := k_br h
      rcases h with ⟨b6, h⟩ | ⟨b6, h⟩
      · refine k_if_le K 57 dX2_spreadFrom_34 (by decide) (fun _ => ?_) (fun q => absurd b6 q)
        exact pX2_spreadFrom_57 K hret h hL4 hO
      · refine k_if_le K 57 dX2_spreadFrom_34 (by decide) (fun q => absurd q b6) (fun _ => ?_)
        refine k_aload_n K dX2_spreadFrom_37 0 rfl ?_
        refine k_iload_n K dX2_spreadFrom_38 3 rfl ?_
        refine k_iload_n K dX2_spreadFrom_39 1 rfl ?_
        replace h := k_bd h
        obtain ⟨r7, hr7, h⟩ := h
        refine cl_X2_123 K dX2_spreadFrom_40 hr7 (by decide) (Nat.le_of_ble_eq_true rfl) (by decide) ?_
        replace h := k_br h
        rcases h with ⟨b8, h⟩ | ⟨b8, h⟩
        · refine k_if_eq K 57 dX2_spreadFrom_43 (by decide) (fun _ => ?_) (fun q => absurd b8 q)
          exact pX2_spreadFrom_57 K hret h hL4 hO
        · refine k_if_eq K 57 dX2_spreadFrom_43 (by decide) (fun q => absurd q b8) (fun _ => ?_)
          refine k_iload_n K dX2_spreadFrom_46 2 rfl ?_
          refine k_aload_n K dX2_spreadFrom_47 0 rfl ?_
          refine k_iload_n K dX2_spreadFrom_48 1 rfl ?_
          refine k_iload_n K dX2_spreadFrom_49 3 rfl ?_
          replace h := k_bd h
          obtain ⟨r9, hr9, h⟩ := h
          refine cl_X2_136 K dX2_spreadFrom_50 hr9 (by decide) (Nat.le_of_ble_eq_true rfl) (by decide) ?_
          refine k_iadd K dX2_spreadFrom_53 ?_
          refine k_goto K 58 dX2_spreadFrom_54 (by decide) ?_
          refine k_sub [0, 1, 3] rfl ?_
          exact pX2_spreadFrom_58 K hret h hL4 hO
set_option maxRecDepth 20000 in
theorem lX2_spreadFrom_4 (K : kC w p s m args meth c cX2_spreadFrom 4 RX2) (hret : meth.sig.returnType = (some .int)) {x1 : Int32} {n : Nat} {a : Int32 × Int32 × kS} {r : (Int32 × kS)} {o : (Int32 × kS)} (h : kit (fX2_spreadFrom_4 x1) n a = some r) (hO : ∀ z, r = z → z = o) : kG w p l e rmX2_spreadFrom s m args below meth c (MQ below (kQi w o.1 o.2) args s 0 0 (kA w)) 4 a.2.2 4 [(0, .ref (kL w 126)), (1, .int x1), (2, .int (a.1)), (3, .int (a.2.1))] [] 0 0 :=
  kit_ind (body := fX2_spreadFrom_4 x1) (fun a r => (∀ z, r = z → z = o) → kG w p l e rmX2_spreadFrom s m args below meth c (MQ below (kQi w o.1 o.2) args s 0 0 (kA w)) 4 a.2.2 4 [(0, .ref (kL w 126)), (1, .int x1), (2, .int (a.1)), (3, .int (a.2.1))] [] 0 0) (fun a a2 r hb ih hO => pX2_spreadFrom_4 K hret hb (fun z e => by cases e; exact ih hO) (fun _ e => by cases e)) (fun a r hb hO => pX2_spreadFrom_4 K hret hb (fun _ e => by cases e) (fun z e => hO z (by cases e; rfl))) n a r h hO
set_option maxRecDepth 20000 in
theorem mX2_spreadFrom (l : Launch) (w : kW) (σ : kS) (x1 : Int32) {o : (Int32 × kS)} (h : fX2_spreadFrom σ x1 = some o) : Met l yX2_spreadFrom (Cond.code yX2_spreadFrom cX2_spreadFrom 4 (some .int) :: TB) rmX2_spreadFrom (va_Pc [.ref (kL w 126), .int x1] (kP w σ)) (kQi w o.1 o.2) 0 0 (kA w) := by
  refine k_met (by decide +kernel) [.ref (kL w 126), .int x1] (Nat.le_of_ble_eq_true rfl) (by simp [lv_args, Value.category]) ?_
  intro p e s m args below meth c K hret
  have K : kC w p s m args meth c cX2_spreadFrom 4 RX2 := K
  obtain ⟨r, hro⟩ : ∃ r, r = o := ⟨o, rfl⟩
  rw [← hro] at h
  have hO : ∀ z, r = z → z = o := fun z e => by rw [← e]; exact hro
  unfold fX2_spreadFrom at h
  refine k_iconst (v := 0) K dX2_spreadFrom_0 (by decide) ?_
  refine k_istore_n (lv' := [(2, .int 0), (0, .ref (kL w 126)), (1, .int x1)]) K dX2_spreadFrom_1 (by decide) rfl ?_
  refine k_iconst (v := 0) K dX2_spreadFrom_2 (by decide) ?_
  refine k_istore_n (lv' := [(3, .int 0), (2, .int 0), (0, .ref (kL w 126)), (1, .int x1)]) K dX2_spreadFrom_3 (by decide) rfl ?_
  refine k_sub [2, 3, 1, 0] rfl ?_
  exact lX2_spreadFrom_4 K hret h hO
end F_X2_spreadFrom
section C_X2_spreadFrom
variable {w : kW} {p : Program} {l : Launch} {e : Env} {R : Room} {s : State} {m : MethodId} {args : Array Value} {below : List Frame} {meth : Method} {c : Code} {Q : State → Prop} {cc : ByteArray} {nL : Nat} {σ : kS} {pc : Nat} {lv : List (Nat × Value)} {st rest : List Value} {cells slots : Nat}
theorem cl_X2_139 (K : kC w p s m args meth c cc nL RX2) {a1 : Int32} {r : (Int32 × kS)} (d : decode cc pc = .ok (.invokevirtual 139, 3)) (h : fX2_spreadFrom σ a1 = some r) (hR : rmX2_spreadFrom.frames + 1 ≤ R.frames ∧ 8 + (4 + 11) + rmX2_spreadFrom.locals ≤ R.locals) (hr : (rest.map fun v => v.category).sum ≤ 8) (hf : cells + 0 ≤ R.cells ∧ slots + 0 ≤ R.slots) (kk : kG w p l e R s m args below meth c Q nL r.2 (pc + 3) lv (.int r.1 :: rest) (cells + 0) (slots + 0)) : kG w p l e R s m args below meth c Q nL σ pc lv (.int a1 :: .ref (kL w 126) :: rest) cells slots :=
  k_callVi (As := [.int a1]) (rest := rest) (n := 1) (C := RX2) (T := TX2) K d kd_126 rfl (kg_V tw_721 tw_723 tw_44 tw_50 tw_724) rfl (by decide +kernel) rfl hR hr rfl hf (mX2_spreadFrom l w σ a1 h) ⟨rfl, rfl⟩ kk
end C_X2_spreadFrom
section F_X2_rounds
variable {w : kW} {p : Program} {l : Launch} {e : Env} {s : State} {m : MethodId} {args : Array Value} {below : List Frame} {meth : Method} {c : Code}
def fX2_rounds_120 (x1 : Int32) (x2 : Int32) (x3 : Int32) (x4 : Int32) (σ : kS) : Option ((Int32 × Int32 × kS) ⊕ ((Int32 × Int32 × kS) ⊕ (Int32 × kS))) :=
  some (.inl (x2, x4 + 1, σ))
def gX2_rounds_41 (x1 : Int32) (x3 : Int32) (x2 : Int32) (x4 : Int32) (σ : kS) : Option ((Int32 × Int32 × kS) ⊕ ((Int32 × Int32 × kS) ⊕ (Int32 × kS))) :=
  if 256 ≤ x4 then
    some (.inr (.inl (x2, x3 + 1, σ)))
  else
    if vpi x4 256 then
      if (σ.1 127 x4.toNatClampNeg) = 1 then
        (fX2_stable σ x4).bind fun r4 =>
        (fX2_mended r4.2 x4 ((r4.2).1 131 x4.toNatClampNeg)).bind fun r5 =>
        (fX2_handed (sI r5.2 131 x4.toNatClampNeg ((((r5.2).1 131 x4.toNatClampNeg) + 1) - (((r5.2).1 131 x4.toNatClampNeg) + 1) / 8 * 8)) x4).bind fun r6 =>
        (fX2_spreadFrom r6.2 x4).bind fun r7 =>
        fX2_rounds_120 x1 ((x2 + r6.1) + r7.1) x3 x4 r7.2
      else
        fX2_rounds_120 x1 x2 x3 x4 σ
    else none
def fX2_rounds_41 (x1 : Int32) (x3 : Int32) (a : Int32 × Int32 × kS) : Option ((Int32 × Int32 × kS) ⊕ ((Int32 × Int32 × kS) ⊕ (Int32 × kS))) := gX2_rounds_41 x1 x3 a.1 a.2.1 a.2.2
def gX2_rounds_33 (x1 : Int32) (x2 : Int32) (x3 : Int32) (σ : kS) : Option ((Int32 × Int32 × kS) ⊕ (Int32 × kS)) :=
  if x1 ≤ x3 then
    some (.inr ((x2, σ)))
  else
    kit (fX2_rounds_41 x1 x3) 300 (x2, 0, σ)
def fX2_rounds_33 (x1 : Int32) (a : Int32 × Int32 × kS) : Option ((Int32 × Int32 × kS) ⊕ (Int32 × kS)) := gX2_rounds_33 x1 a.1 a.2.1 a.2.2
def fX2_rounds_16 (x1 : Int32) (t1 : Int32) (σ : kS) : Option (Int32 × kS) :=
  (fX2_goes σ t1 (σ.1 126 2) 1).bind fun r1 =>
  if r1.1 = 0 then
    some ((0, r1.2))
  else
    kit (fX2_rounds_33 x1) 300 (0, 0, r1.2)
def fX2_rounds_15 (x1 : Int32) (σ : kS) : Option (Int32 × kS) :=
  fX2_rounds_16 x1 0 σ
def fX2_rounds (σ : kS) (x1 : Int32) : Option (Int32 × kS) :=
  if x1 < 0 then
    fX2_rounds_15 x1 σ
  else
    if 40 < x1 then
      fX2_rounds_15 x1 σ
    else
      fX2_rounds_16 x1 1 σ
def rmX2_rounds : Room := { frames := 5, cells := 0, slots := 0, locals := 115 }
set_option maxRecDepth 20000 in
theorem pX2_rounds_120 (K : kC w p s m args meth c cX2_rounds 7 RX2) (hret : meth.sig.returnType = (some .int)) {x1 : Int32} {x2 : Int32} {x3 : Int32} {x4 : Int32} {σ : kS} {r : ((Int32 × Int32 × kS) ⊕ ((Int32 × Int32 × kS) ⊕ (Int32 × kS)))} {o : (Int32 × kS)} (h : fX2_rounds_120 x1 x2 x3 x4 σ = some r) (hL33 : ∀ z, r = .inr (.inl z) → kG w p l e rmX2_rounds s m args below meth c (MQ below (kQi w o.1 o.2) args s 0 0 (kA w)) 7 z.2.2 33 [(0, .ref (kL w 126)), (1, .int x1), (2, .int (z.1)), (3, .int (z.2.1))] [] 0 0) (hL41 : ∀ z, r = .inl z → kG w p l e rmX2_rounds s m args below meth c (MQ below (kQi w o.1 o.2) args s 0 0 (kA w)) 7 z.2.2 41 [(0, .ref (kL w 126)), (1, .int x1), (2, .int (z.1)), (3, .int x3), (4, .int (z.2.1))] [] 0 0) (hO : ∀ z, r = .inr (.inr z) → z = o) : kG w p l e rmX2_rounds s m args below meth c (MQ below (kQi w o.1 o.2) args s 0 0 (kA w)) 7 σ 120 [(0, .ref (kL w 126)), (1, .int x1), (2, .int x2), (3, .int x3), (4, .int x4)] [] 0 0 := by
  unfold fX2_rounds_120 at h
  refine k_iinc (v := 1) (lv' := [(4, .int (x4 + 1)), (0, .ref (kL w 126)), (1, .int x1), (2, .int x2), (3, .int x3)]) K dX2_rounds_120 4 rfl (by decide) (by decide) rfl ?_
  refine k_goto K 41 dX2_rounds_123 (by decide) ?_
  refine k_sub [1, 2, 3, 4, 0] rfl ?_
  cases h
  exact hL41 _ rfl
set_option maxRecDepth 20000 in
theorem pX2_rounds_41 (K : kC w p s m args meth c cX2_rounds 7 RX2) (hret : meth.sig.returnType = (some .int)) {x1 : Int32} {x3 : Int32} {x2 : Int32} {x4 : Int32} {σ : kS} {r : ((Int32 × Int32 × kS) ⊕ ((Int32 × Int32 × kS) ⊕ (Int32 × kS)))} {o : (Int32 × kS)} (h : gX2_rounds_41 x1 x3 x2 x4 σ = some r) (hL33 : ∀ z, r = .inr (.inl z) → kG w p l e rmX2_rounds s m args below meth c (MQ below (kQi w o.1 o.2) args s 0 0 (kA w)) 7 z.2.2 33 [(0, .ref (kL w 126)), (1, .int x1), (2, .int (z.1)), (3, .int (z.2.1))] [] 0 0) (hL41 : ∀ z, r = .inl z → kG w p l e rmX2_rounds s m args below meth c (MQ below (kQi w o.1 o.2) args s 0 0 (kA w)) 7 z.2.2 41 [(0, .ref (kL w 126)), (1, .int x1), (2, .int (z.1)), (3, .int x3), (4, .int (z.2.1))] [] 0 0) (hO : ∀ z, r = .inr (.inr z) → z = o) : kG w p l e rmX2_rounds s m args below meth c (MQ below (kQi w o.1 o.2) args s 0 0 (kA w)) 7 σ 41 [(0, .ref (kL w 126)), (1, .int x1), (2, .int x2), (3, .int x3), (4, .int x4)] [] 0 0 := by
  unfold gX2_rounds_41 at h
  refine k_iload K dX2_rounds_41 4 rfl ?_
  refine k_sipush (v := 256) K dX2_rounds_43 (by decide) ?_
  replace h := k_br h
  rcases h with ⟨b1, h⟩ | ⟨b1, h⟩
  · refine k_icmp_ge K 126 dX2_rounds_46 (by decide) (fun _ => ?_) (fun q => absurd b1 q)
    refine k_iinc (v := 1) (lv' := [(3, .int (x3 + 1)), (0, .ref (kL w 126)), (1, .int x1), (2, .int x2), (4, .int x4)]) K dX2_rounds_126 3 rfl (by decide) (by decide) rfl ?_
    refine k_goto K 33 dX2_rounds_129 (by decide) ?_
    refine k_sub [1, 2, 3, 0] rfl ?_
    cases h
    exact hL33 _ rfl
  · refine k_icmp_ge K 126 dX2_rounds_46 (by decide) (fun q => absurd q b1) (fun _ => ?_)
    refine k_aload_n K dX2_rounds_49 0 rfl ?_
    refine fg_X2_13 K dX2_rounds_50 ?_
    refine k_iload K dX2_rounds_53 4 rfl ?_
    replace h := k_gd h
    obtain ⟨g2, h⟩ := h
    refine k_iald K dX2_rounds_55 kd_127 g2 ?_
    refine k_iconst (v := 1) K dX2_rounds_56 (by decide) ?_
    replace h := k_br h
    rcases h with ⟨b3, h⟩ | ⟨b3, h⟩
    · refine k_icmp_ne K 120 dX2_rounds_57 (by decide) (fun q => absurd b3 q) (fun _ => ?_)
      refine k_aload_n K dX2_rounds_60 0 rfl ?_
      refine k_iload K dX2_rounds_61 4 rfl ?_
      replace h := k_bd h
      obtain ⟨r4, hr4, h⟩ := h
      refine cl_X2_114 K dX2_rounds_63 hr4 (by decide) (Nat.le_of_ble_eq_true rfl) (by decide) ?_
      refine k_istore (lv' := [(5, .int (r4.1)), (0, .ref (kL w 126)), (1, .int x1), (2, .int x2), (3, .int x3), (4, .int x4)]) K dX2_rounds_66 (by decide) rfl ?_
      refine k_aload_n K dX2_rounds_68 1 rfl ?_
      refine k_iload K dX2_rounds_69 5 rfl ?_
      refine k_aload_n K dX2_rounds_71 1 rfl ?_
      refine fg_X2_26 K dX2_rounds_72 ?_
      refine k_iload K dX2_rounds_75 5 rfl ?_
      refine k_iald K dX2_rounds_77 kd_131 g2 ?_
      replace h := k_bd h
      obtain ⟨r5, hr5, h⟩ := h
      refine cl_X2_117 K dX2_rounds_78 hr5 (by decide) (Nat.le_of_ble_eq_true rfl) (by decide) ?_
      refine k_istore (lv' := [(6, .int (r5.1)), (5, .int (r4.1)), (0, .ref (kL w 126)), (1, .int x1), (2, .int x2), (3, .int x3), (4, .int x4)]) K dX2_rounds_81 (by decide) rfl ?_
      refine k_aload_n K dX2_rounds_83 2 rfl ?_
      refine fg_X2_26 K dX2_rounds_84 ?_
      refine k_iload K dX2_rounds_87 6 rfl ?_
      refine k_aload_n K dX2_rounds_89 2 rfl ?_
      refine fg_X2_26 K dX2_rounds_90 ?_
      refine k_iload K dX2_rounds_93 6 rfl ?_
      refine k_iald K dX2_rounds_95 kd_131 g2 ?_
      refine k_iconst (v := 1) K dX2_rounds_96 (by decide) ?_
      refine k_iadd K dX2_rounds_97 ?_
      refine k_bipush (v := 8) K dX2_rounds_98 (by decide) ?_
      refine k_irem K dX2_rounds_100 (by decide) ?_
      refine k_iast K dX2_rounds_101 kd_131 g2 ?_
      refine k_iload_n K dX2_rounds_102 4 rfl ?_
      refine k_aload_n K dX2_rounds_103 2 rfl ?_
      refine k_iload K dX2_rounds_104 6 rfl ?_
      replace h := k_bd h
      obtain ⟨r6, hr6, h⟩ := h
      refine cl_X2_133 K dX2_rounds_106 hr6 (by decide) (Nat.le_of_ble_eq_true rfl) (by decide) ?_
      refine k_iadd K dX2_rounds_109 ?_
      refine k_istore_n (lv' := [(2, .int (x2 + r6.1)), (6, .int (r5.1)), (5, .int (r4.1)), (0, .ref (kL w 126)), (1, .int x1), (3, .int x3), (4, .int x4)]) K dX2_rounds_110 (by decide) rfl ?_
      refine k_iload_n K dX2_rounds_111 0 rfl ?_
      refine k_aload_n K dX2_rounds_112 3 rfl ?_
      refine k_iload K dX2_rounds_113 6 rfl ?_
      replace h := k_bd h
      obtain ⟨r7, hr7, h⟩ := h
      refine cl_X2_139 K dX2_rounds_115 hr7 (by decide) (Nat.le_of_ble_eq_true rfl) (by decide) ?_
      refine k_iadd K dX2_rounds_118 ?_
      refine k_istore_n (lv' := [(2, .int ((x2 + r6.1) + r7.1)), (6, .int (r5.1)), (5, .int (r4.1)), (0, .ref (kL w 126)), (1, .int x1), (3, .int x3), (4, .int x4)]) K dX2_rounds_119 (by decide) rfl ?_
      refine k_sub [3, 4, 0, 5, 6] rfl ?_
      exact pX2_rounds_120 K hret h hL33 hL41 hO
    · refine k_icmp_ne K 120 dX2_rounds_57 (by decide) (fun _ => ?_) (fun q => absurd q b3)
      exact pX2_rounds_120 K hret h hL33 hL41 hO
set_option maxRecDepth 20000 in
theorem lX2_rounds_41 (K : kC w p s m args meth c cX2_rounds 7 RX2) (hret : meth.sig.returnType = (some .int)) {x1 : Int32} {x3 : Int32} {n : Nat} {a : Int32 × Int32 × kS} {r : ((Int32 × Int32 × kS) ⊕ (Int32 × kS))} {o : (Int32 × kS)} (h : kit (fX2_rounds_41 x1 x3) n a = some r) (hL33 : ∀ z, r = .inl z → kG w p l e rmX2_rounds s m args below meth c (MQ below (kQi w o.1 o.2) args s 0 0 (kA w)) 7 z.2.2 33 [(0, .ref (kL w 126)), (1, .int x1), (2, .int (z.1)), (3, .int (z.2.1))] [] 0 0) (hO : ∀ z, r = .inr z → z = o) : kG w p l e rmX2_rounds s m args below meth c (MQ below (kQi w o.1 o.2) args s 0 0 (kA w)) 7 a.2.2 41 [(0, .ref (kL w 126)), (1, .int x1), (2, .int (a.1)), (3, .int x3), (4, .int (a.2.1))] [] 0 0 :=
  kit_ind (body := fX2_rounds_41 x1 x3) (fun a r => (∀ z, r = .inl z → kG w p l e rmX2_rounds s m args below meth c (MQ below (kQi w o.1 o.2) args s 0 0 (kA w)) 7 z.2.2 33 [(0, .ref (kL w 126)), (1, .int x1), (2, .int (z.1)), (3, .int (z.2.1))] [] 0 0) → (∀ z, r = .inr z → z = o) → kG w p l e rmX2_rounds s m args below meth c (MQ below (kQi w o.1 o.2) args s 0 0 (kA w)) 7 a.2.2 41 [(0, .ref (kL w 126)), (1, .int x1), (2, .int (a.1)), (3, .int x3), (4, .int (a.2.1))] [] 0 0) (fun a a2 r hb ih hL33 hO => pX2_rounds_41 K hret hb (fun _ e => by cases e) (fun z e => by cases e; exact ih hL33 hO) (fun _ e => by cases e)) (fun a r hb hL33 hO => pX2_rounds_41 K hret hb (fun z e => hL33 z (by cases e; rfl)) (fun _ e => by cases e) (fun z e => hO z (by cases e; rfl))) n a r h hL33 hO
set_option maxRecDepth 20000 in
theorem pX2_rounds_33 (K : kC w p s m args meth c cX2_rounds 7 RX2) (hret : meth.sig.returnType = (some .int)) {x1 : Int32} {x2 : Int32} {x3 : Int32} {σ : kS} {r : ((Int32 × Int32 × kS) ⊕ (Int32 × kS))} {o : (Int32 × kS)} (h : gX2_rounds_33 x1 x2 x3 σ = some r) (hL33 : ∀ z, r = .inl z → kG w p l e rmX2_rounds s m args below meth c (MQ below (kQi w o.1 o.2) args s 0 0 (kA w)) 7 z.2.2 33 [(0, .ref (kL w 126)), (1, .int x1), (2, .int (z.1)), (3, .int (z.2.1))] [] 0 0) (hO : ∀ z, r = .inr z → z = o) : kG w p l e rmX2_rounds s m args below meth c (MQ below (kQi w o.1 o.2) args s 0 0 (kA w)) 7 σ 33 [(0, .ref (kL w 126)), (1, .int x1), (2, .int x2), (3, .int x3)] [] 0 0 := by
  unfold gX2_rounds_33 at h
  refine k_iload_n K dX2_rounds_33 3 rfl ?_
  refine k_iload_n K dX2_rounds_34 1 rfl ?_
  replace h := k_br h
  rcases h with ⟨b1, h⟩ | ⟨b1, h⟩
  · refine k_icmp_ge K 132 dX2_rounds_35 (by decide) (fun _ => ?_) (fun q => absurd b1 q)
    refine k_iload_n K dX2_rounds_132 2 rfl ?_
    cases h
    obtain rfl := hO _ rfl
    exact k_iret K hret dX2_rounds_133 (by decide) (by decide)
  · refine k_icmp_ge K 132 dX2_rounds_35 (by decide) (fun q => absurd q b1) (fun _ => ?_)
    refine k_iconst (v := 0) K dX2_rounds_38 (by decide) ?_
    refine k_istore (lv' := [(4, .int 0), (0, .ref (kL w 126)), (1, .int x1), (2, .int x2), (3, .int x3)]) K dX2_rounds_39 (by decide) rfl ?_
    refine k_sub [1, 2, 3, 4, 0] rfl ?_
    exact lX2_rounds_41 K hret h hL33 hO
set_option maxRecDepth 20000 in
theorem lX2_rounds_33 (K : kC w p s m args meth c cX2_rounds 7 RX2) (hret : meth.sig.returnType = (some .int)) {x1 : Int32} {n : Nat} {a : Int32 × Int32 × kS} {r : (Int32 × kS)} {o : (Int32 × kS)} (h : kit (fX2_rounds_33 x1) n a = some r) (hO : ∀ z, r = z → z = o) : kG w p l e rmX2_rounds s m args below meth c (MQ below (kQi w o.1 o.2) args s 0 0 (kA w)) 7 a.2.2 33 [(0, .ref (kL w 126)), (1, .int x1), (2, .int (a.1)), (3, .int (a.2.1))] [] 0 0 :=
  kit_ind (body := fX2_rounds_33 x1) (fun a r => (∀ z, r = z → z = o) → kG w p l e rmX2_rounds s m args below meth c (MQ below (kQi w o.1 o.2) args s 0 0 (kA w)) 7 a.2.2 33 [(0, .ref (kL w 126)), (1, .int x1), (2, .int (a.1)), (3, .int (a.2.1))] [] 0 0) (fun a a2 r hb ih hO => pX2_rounds_33 K hret hb (fun z e => by cases e; exact ih hO) (fun _ e => by cases e)) (fun a r hb hO => pX2_rounds_33 K hret hb (fun _ e => by cases e) (fun z e => hO z (by cases e; rfl))) n a r h hO
set_option maxRecDepth 20000 in
theorem pX2_rounds_16 (K : kC w p s m args meth c cX2_rounds 7 RX2) (hret : meth.sig.returnType = (some .int)) {x1 : Int32} {t1 : Int32} {σ : kS} {r : (Int32 × kS)} {o : (Int32 × kS)} (h : fX2_rounds_16 x1 t1 σ = some r) (hO : ∀ z, r = z → z = o) : kG w p l e rmX2_rounds s m args below meth c (MQ below (kQi w o.1 o.2) args s 0 0 (kA w)) 7 σ 16 [(0, .ref (kL w 126)), (1, .int x1)] [.int t1, .ref (kL w 126)] 0 0 := by
  unfold fX2_rounds_16 at h
  refine k_aload_n K dX2_rounds_16 0 rfl ?_
  refine fg_X2_54 K dX2_rounds_17 ?_
  refine k_iconst (v := 1) K dX2_rounds_20 (by decide) ?_
  replace h := k_bd h
  obtain ⟨r1, hr1, h⟩ := h
  refine cl_X2_69 K dX2_rounds_21 hr1 (by decide) (Nat.le_of_ble_eq_true rfl) (by decide) ?_
  replace h := k_br h
  rcases h with ⟨b2, h⟩ | ⟨b2, h⟩
  · refine k_if_ne K 29 dX2_rounds_24 (by decide) (fun q => absurd b2 q) (fun _ => ?_)
    refine k_iconst (v := 0) K dX2_rounds_27 (by decide) ?_
    cases h
    obtain rfl := hO _ rfl
    exact k_iret (v := 0) K hret dX2_rounds_28 (by decide) (by decide)
  · refine k_if_ne K 29 dX2_rounds_24 (by decide) (fun _ => ?_) (fun q => absurd q b2)
    refine k_iconst (v := 0) K dX2_rounds_29 (by decide) ?_
    refine k_istore_n (lv' := [(2, .int 0), (0, .ref (kL w 126)), (1, .int x1)]) K dX2_rounds_30 (by decide) rfl ?_
    refine k_iconst (v := 0) K dX2_rounds_31 (by decide) ?_
    refine k_istore_n (lv' := [(3, .int 0), (2, .int 0), (0, .ref (kL w 126)), (1, .int x1)]) K dX2_rounds_32 (by decide) rfl ?_
    refine k_sub [2, 3, 1, 0] rfl ?_
    exact lX2_rounds_33 K hret h hO
set_option maxRecDepth 20000 in
theorem pX2_rounds_15 (K : kC w p s m args meth c cX2_rounds 7 RX2) (hret : meth.sig.returnType = (some .int)) {x1 : Int32} {σ : kS} {r : (Int32 × kS)} {o : (Int32 × kS)} (h : fX2_rounds_15 x1 σ = some r) (hO : ∀ z, r = z → z = o) : kG w p l e rmX2_rounds s m args below meth c (MQ below (kQi w o.1 o.2) args s 0 0 (kA w)) 7 σ 15 [(0, .ref (kL w 126)), (1, .int x1)] [.ref (kL w 126)] 0 0 := by
  unfold fX2_rounds_15 at h
  refine k_iconst (v := 0) K dX2_rounds_15 (by decide) ?_
  exact pX2_rounds_16 K hret h hO
set_option maxRecDepth 20000 in
theorem mX2_rounds (l : Launch) (w : kW) (σ : kS) (x1 : Int32) {o : (Int32 × kS)} (h : fX2_rounds σ x1 = some o) : Met l yX2_rounds (Cond.code yX2_rounds cX2_rounds 7 (some .int) :: TB) rmX2_rounds (va_Pc [.ref (kL w 126), .int x1] (kP w σ)) (kQi w o.1 o.2) 0 0 (kA w) := by
  refine k_met (by decide +kernel) [.ref (kL w 126), .int x1] (Nat.le_of_ble_eq_true rfl) (by simp [lv_args, Value.category]) ?_
  intro p e s m args below meth c K hret
  have K : kC w p s m args meth c cX2_rounds 7 RX2 := K
  obtain ⟨r, hro⟩ : ∃ r, r = o := ⟨o, rfl⟩
  rw [← hro] at h
  have hO : ∀ z, r = z → z = o := fun z e => by rw [← e]; exact hro
  unfold fX2_rounds at h
  refine k_aload_n K dX2_rounds_0 0 rfl ?_
  refine k_iload_n K dX2_rounds_1 1 rfl ?_
  replace h := k_br h
  rcases h with ⟨b1, h⟩ | ⟨b1, h⟩
  · refine k_if_lt K 15 dX2_rounds_2 (by decide) (fun _ => ?_) (fun q => absurd b1 q)
    exact pX2_rounds_15 K hret h hO
  · refine k_if_lt K 15 dX2_rounds_2 (by decide) (fun q => absurd q b1) (fun _ => ?_)
    refine k_iload_n K dX2_rounds_5 1 rfl ?_
    refine k_bipush (v := 40) K dX2_rounds_6 (by decide) ?_
    replace h := k_br h
    rcases h with ⟨b2, h⟩ | ⟨b2, h⟩
    · refine k_icmp_gt K 15 dX2_rounds_8 (by decide) (fun _ => ?_) (fun q => absurd b2 q)
      exact pX2_rounds_15 K hret h hO
    · refine k_icmp_gt K 15 dX2_rounds_8 (by decide) (fun q => absurd q b2) (fun _ => ?_)
      refine k_iconst (v := 1) K dX2_rounds_11 (by decide) ?_
      refine k_goto K 16 dX2_rounds_12 (by decide) ?_
      exact pX2_rounds_16 K hret h hO
end F_X2_rounds
section F_X2_thrown
variable {w : kW} {p : Program} {l : Launch} {e : Env} {s : State} {m : MethodId} {args : Array Value} {below : List Frame} {meth : Method} {c : Code}
def fX2_thrown (σ : kS) : Option Int32 :=
  some (σ.1 126 0)
def rmX2_thrown : Room := { frames := 0, cells := 0, slots := 0, locals := 0 }
set_option maxRecDepth 20000 in
theorem mX2_thrown (l : Launch) (w : kW) (σ : kS) {o : Int32} (h : fX2_thrown σ = some o) : Met l yX2_thrown (Cond.code yX2_thrown cX2_thrown 1 (some .int) :: TB) rmX2_thrown (va_Pc [.ref (kL w 126)] (kP w σ)) (kQi w o σ) 0 0 (kA w) := by
  refine k_met (by decide +kernel) [.ref (kL w 126)] (Nat.le_of_ble_eq_true rfl) (by simp [lv_args, Value.category]) ?_
  intro p e s m args below meth c K hret
  have K : kC w p s m args meth c cX2_thrown 1 RX2 := K
  obtain ⟨r, hro⟩ : ∃ r, r = o := ⟨o, rfl⟩
  rw [← hro] at h
  have hO : ∀ z, r = z → z = o := fun z e => by rw [← e]; exact hro
  unfold fX2_thrown at h
  refine k_aload_n K dX2_thrown_0 0 rfl ?_
  refine fg_X2_47 K dX2_thrown_1 ?_
  cases h
  obtain rfl := hO _ rfl
  exact k_iret (v := σ.1 126 0) K hret dX2_thrown_4 (by decide) (by decide)
end F_X2_thrown
section F_X2_look
variable {w : kW} {p : Program} {l : Launch} {e : Env} {s : State} {m : MethodId} {args : Array Value} {below : List Frame} {meth : Method} {c : Code}
def gX2_look_37 (x3 : Int32) (x4 : Int32) (σ : kS) : Option ((Int32 × kS) ⊕ (Int32 × kS)) :=
  if (σ.1 126 12) ≤ x4 then
    some (.inr ((x3, σ)))
  else
    if vpi x4 64 then
      some (.inl (x4 + 1, sI σ 137 x4.toNatClampNeg (σ.1 136 x4.toNatClampNeg)))
    else none
def fX2_look_37 (x3 : Int32) (a : Int32 × kS) : Option ((Int32 × kS) ⊕ (Int32 × kS)) := gX2_look_37 x3 a.1 a.2
def fX2_look (σ : kS) (x1 : Int32) (x2 : Int32) : Option (Int32 × kS) :=
  (fX2_member σ x1).bind fun r1 =>
  (fX2_isPoint x2).bind fun r2 =>
  (fX2_goes σ r1 r2 1).bind fun r3 =>
  if r3.1 = 0 then
    some ((0, r3.2))
  else
    (fX2_lookFor r3.2 x1 x2).bind fun r5 =>
    kit (fX2_look_37 r5.1) 300 (0, sI r5.2 126 13 ((r5.2).1 126 12))
def rmX2_look : Room := { frames := 4, cells := 0, slots := 0, locals := 93 }
set_option maxRecDepth 20000 in
theorem pX2_look_37 (K : kC w p s m args meth c cX2_look 5 RX2) (hret : meth.sig.returnType = (some .int)) {x3 : Int32} {x4 : Int32} {σ : kS} {r : ((Int32 × kS) ⊕ (Int32 × kS))} {o : (Int32 × kS)} (h : gX2_look_37 x3 x4 σ = some r) (hL37 : ∀ z, r = .inl z → kG w p l e rmX2_look s m args below meth c (MQ below (kQi w o.1 o.2) args s 0 0 (kA w)) 5 z.2 37 [(0, .ref (kL w 126)), (3, .int x3), (4, .int (z.1))] [] 0 0) (hO : ∀ z, r = .inr z → z = o) : kG w p l e rmX2_look s m args below meth c (MQ below (kQi w o.1 o.2) args s 0 0 (kA w)) 5 σ 37 [(0, .ref (kL w 126)), (3, .int x3), (4, .int x4)] [] 0 0 := by
  unfold gX2_look_37 at h
  refine k_iload K dX2_look_37 2 rfl ?_
  refine k_aload_n K dX2_look_39 0 rfl ?_
  refine fg_X2_88 K dX2_look_40 ?_
  replace h := k_br h
  rcases h with ⟨b1, h⟩ | ⟨b1, h⟩
  · refine k_icmp_ge K 66 dX2_look_43 (by decide) (fun _ => ?_) (fun q => absurd b1 q)
    refine k_iload_n K dX2_look_66 1 rfl ?_
    cases h
    obtain rfl := hO _ rfl
    exact k_iret K hret dX2_look_67 (by decide) (by decide)
  · refine k_icmp_ge K 66 dX2_look_43 (by decide) (fun q => absurd q b1) (fun _ => ?_)
    refine k_aload_n K dX2_look_46 0 rfl ?_
    refine fg_X2_44 K dX2_look_47 ?_
    refine k_iload K dX2_look_50 2 rfl ?_
    refine k_aload_n K dX2_look_52 0 rfl ?_
    refine fg_X2_41 K dX2_look_53 ?_
    refine k_iload K dX2_look_56 2 rfl ?_
    replace h := k_gd h
    obtain ⟨g2, h⟩ := h
    refine k_iald K dX2_look_58 kd_136 g2 ?_
    refine k_iast K dX2_look_59 kd_137 g2 ?_
    refine k_iinc (v := 1) (lv' := [(4, .int (x4 + 1)), (0, .ref (kL w 126)), (3, .int x3)]) K dX2_look_60 2 rfl (by decide) (by decide) rfl ?_
    refine k_goto K 37 dX2_look_63 (by decide) ?_
    refine k_sub [1, 2, 0] rfl ?_
    cases h
    exact hL37 _ rfl
set_option maxRecDepth 20000 in
theorem lX2_look_37 (K : kC w p s m args meth c cX2_look 5 RX2) (hret : meth.sig.returnType = (some .int)) {x3 : Int32} {n : Nat} {a : Int32 × kS} {r : (Int32 × kS)} {o : (Int32 × kS)} (h : kit (fX2_look_37 x3) n a = some r) (hO : ∀ z, r = z → z = o) : kG w p l e rmX2_look s m args below meth c (MQ below (kQi w o.1 o.2) args s 0 0 (kA w)) 5 a.2 37 [(0, .ref (kL w 126)), (3, .int x3), (4, .int (a.1))] [] 0 0 :=
  kit_ind (body := fX2_look_37 x3) (fun a r => (∀ z, r = z → z = o) → kG w p l e rmX2_look s m args below meth c (MQ below (kQi w o.1 o.2) args s 0 0 (kA w)) 5 a.2 37 [(0, .ref (kL w 126)), (3, .int x3), (4, .int (a.1))] [] 0 0) (fun a a2 r hb ih hO => pX2_look_37 K hret hb (fun z e => by cases e; exact ih hO) (fun _ e => by cases e)) (fun a r hb hO => pX2_look_37 K hret hb (fun _ e => by cases e) (fun z e => hO z (by cases e; rfl))) n a r h hO
set_option maxRecDepth 20000 in
theorem mX2_look (l : Launch) (w : kW) (σ : kS) (x1 : Int32) (x2 : Int32) {o : (Int32 × kS)} (h : fX2_look σ x1 x2 = some o) : Met l yX2_look (Cond.code yX2_look cX2_look 5 (some .int) :: TB) rmX2_look (va_Pc [.ref (kL w 126), .int x1, .int x2] (kP w σ)) (kQi w o.1 o.2) 0 0 (kA w) := by
  refine k_met (by decide +kernel) [.ref (kL w 126), .int x1, .int x2] (Nat.le_of_ble_eq_true rfl) (by simp [lv_args, Value.category]) ?_
  intro p e s m args below meth c K hret
  have K : kC w p s m args meth c cX2_look 5 RX2 := K
  obtain ⟨r, hro⟩ : ∃ r, r = o := ⟨o, rfl⟩
  rw [← hro] at h
  have hO : ∀ z, r = z → z = o := fun z e => by rw [← e]; exact hro
  unfold fX2_look at h
  refine k_aload_n K dX2_look_0 0 rfl ?_
  refine k_aload_n K dX2_look_1 0 rfl ?_
  refine k_iload_n K dX2_look_2 1 rfl ?_
  replace h := k_bd h
  obtain ⟨r1, hr1, h⟩ := h
  refine cl_X2_101 K dX2_look_3 hr1 (by decide) (Nat.le_of_ble_eq_true rfl) (by decide) ?_
  refine k_iload_n K dX2_look_6 2 rfl ?_
  replace h := k_bd h
  obtain ⟨r2, hr2, h⟩ := h
  refine cl_X2_50 K dX2_look_7 hr2 (by decide) (Nat.le_of_ble_eq_true rfl) (by decide) ?_
  refine k_iconst (v := 1) K dX2_look_10 (by decide) ?_
  replace h := k_bd h
  obtain ⟨r3, hr3, h⟩ := h
  refine cl_X2_69 K dX2_look_11 hr3 (by decide) (Nat.le_of_ble_eq_true rfl) (by decide) ?_
  replace h := k_br h
  rcases h with ⟨b4, h⟩ | ⟨b4, h⟩
  · refine k_if_ne K 19 dX2_look_14 (by decide) (fun q => absurd b4 q) (fun _ => ?_)
    refine k_iconst (v := 0) K dX2_look_17 (by decide) ?_
    cases h
    obtain rfl := hO _ rfl
    exact k_iret (v := 0) K hret dX2_look_18 (by decide) (by decide)
  · refine k_if_ne K 19 dX2_look_14 (by decide) (fun _ => ?_) (fun q => absurd q b4)
    refine k_aload_n K dX2_look_19 0 rfl ?_
    refine k_iload_n K dX2_look_20 1 rfl ?_
    refine k_iload_n K dX2_look_21 2 rfl ?_
    replace h := k_bd h
    obtain ⟨r5, hr5, h⟩ := h
    refine cl_X2_104 K dX2_look_22 hr5 (by decide) (Nat.le_of_ble_eq_true rfl) (by decide) ?_
    refine k_istore_n (lv' := [(3, .int (r5.1)), (0, .ref (kL w 126)), (1, .int x1), (2, .int x2)]) K dX2_look_25 (by decide) rfl ?_
    refine k_aload_n K dX2_look_26 1 rfl ?_
    refine k_aload_n K dX2_look_27 1 rfl ?_
    refine fg_X2_88 K dX2_look_28 ?_
    refine fp_X2_142 K dX2_look_31 ?_
    refine k_iconst (v := 0) K dX2_look_34 (by decide) ?_
    refine k_istore (lv' := [(4, .int 0), (3, .int (r5.1)), (0, .ref (kL w 126)), (1, .int x1), (2, .int x2)]) K dX2_look_35 (by decide) rfl ?_
    refine k_sub [2, 1, 0] rfl ?_
    exact lX2_look_37 K hret h hO
end F_X2_look
section F_X2_join
variable {w : kW} {p : Program} {l : Launch} {e : Env} {s : State} {m : MethodId} {args : Array Value} {below : List Frame} {meth : Method} {c : Code}
def fX2_join_40 (x1 : Int32) (x2 : Int32) (t1 : Int32) (t2 : Int32) (t3 : Int32) (σ : kS) : Option (Int32 × kS) :=
  (fX2_goes σ t1 t2 t3).bind fun r1 =>
  if r1.1 = 0 then
    some ((0, r1.2))
  else
    (fX2_lookFor r1.2 x2 x1).bind fun r3 =>
    if vpi x1 256 then
      (fX2_empty (sI r3.2 127 x1.toNatClampNeg 1) x1).bind fun r5 =>
      (fX2_takeOver r5 x1 r3.1).bind fun r6 =>
      some ((r3.1, r6))
    else none
def fX2_join_39 (x1 : Int32) (x2 : Int32) (t1 : Int32) (t2 : Int32) (σ : kS) : Option (Int32 × kS) :=
  fX2_join_40 x1 x2 t1 t2 0 σ
def fX2_join (σ : kS) (x1 : Int32) (x2 : Int32) : Option (Int32 × kS) :=
  (fX2_member σ x2).bind fun r1 =>
  (fX2_isPoint x1).bind fun r2 =>
  (fX2_isPoint x1).bind fun r3 =>
  if r3 = 0 then
    fX2_join_39 x1 x2 r1 r2 σ
  else
    if vpi x1 256 then
      if (σ.1 127 x1.toNatClampNeg) = 0 then
        (fX2_many σ).bind fun r7 =>
        if 20 ≤ r7 then
          fX2_join_39 x1 x2 r1 r2 σ
        else
          fX2_join_40 x1 x2 r1 r2 1 σ
      else
        fX2_join_39 x1 x2 r1 r2 σ
    else none
def rmX2_join : Room := { frames := 4, cells := 0, slots := 0, locals := 93 }
set_option maxRecDepth 20000 in
theorem pX2_join_40 (K : kC w p s m args meth c cX2_join 4 RX2) (hret : meth.sig.returnType = (some .int)) {x1 : Int32} {x2 : Int32} {t1 : Int32} {t2 : Int32} {t3 : Int32} {σ : kS} {r : (Int32 × kS)} {o : (Int32 × kS)} (h : fX2_join_40 x1 x2 t1 t2 t3 σ = some r) (hO : ∀ z, r = z → z = o) : kG w p l e rmX2_join s m args below meth c (MQ below (kQi w o.1 o.2) args s 0 0 (kA w)) 4 σ 40 [(0, .ref (kL w 126)), (1, .int x1), (2, .int x2)] [.int t3, .int t2, .int t1, .ref (kL w 126)] 0 0 := by
  unfold fX2_join_40 at h
  replace h := k_bd h
  obtain ⟨r1, hr1, h⟩ := h
  refine cl_X2_69 K dX2_join_40 hr1 (by decide) (Nat.le_of_ble_eq_true rfl) (by decide) ?_
  replace h := k_br h
  rcases h with ⟨b2, h⟩ | ⟨b2, h⟩
  · refine k_if_ne K 48 dX2_join_43 (by decide) (fun q => absurd b2 q) (fun _ => ?_)
    refine k_iconst (v := 0) K dX2_join_46 (by decide) ?_
    cases h
    obtain rfl := hO _ rfl
    exact k_iret (v := 0) K hret dX2_join_47 (by decide) (by decide)
  · refine k_if_ne K 48 dX2_join_43 (by decide) (fun _ => ?_) (fun q => absurd q b2)
    refine k_aload_n K dX2_join_48 0 rfl ?_
    refine k_iload_n K dX2_join_49 2 rfl ?_
    refine k_iload_n K dX2_join_50 1 rfl ?_
    replace h := k_bd h
    obtain ⟨r3, hr3, h⟩ := h
    refine cl_X2_104 K dX2_join_51 hr3 (by decide) (Nat.le_of_ble_eq_true rfl) (by decide) ?_
    refine k_istore_n (lv' := [(3, .int (r3.1)), (0, .ref (kL w 126)), (1, .int x1), (2, .int x2)]) K dX2_join_54 (by decide) rfl ?_
    refine k_aload_n K dX2_join_55 1 rfl ?_
    refine fg_X2_13 K dX2_join_56 ?_
    refine k_iload_n K dX2_join_59 2 rfl ?_
    refine k_iconst (v := 1) K dX2_join_60 (by decide) ?_
    replace h := k_gd h
    obtain ⟨g4, h⟩ := h
    refine k_iast K dX2_join_61 kd_127 g4 ?_
    refine k_aload_n K dX2_join_62 1 rfl ?_
    refine k_iload_n K dX2_join_63 2 rfl ?_
    replace h := k_bd h
    obtain ⟨r5, hr5, h⟩ := h
    refine cl_X2_73 K dX2_join_64 hr5 (by decide) (Nat.le_of_ble_eq_true rfl) (by decide) ?_
    refine k_aload_n K dX2_join_67 1 rfl ?_
    refine k_iload_n K dX2_join_68 2 rfl ?_
    refine k_iload_n K dX2_join_69 0 rfl ?_
    replace h := k_bd h
    obtain ⟨r6, hr6, h⟩ := h
    refine cl_X2_107 K dX2_join_70 hr6 (by decide) (Nat.le_of_ble_eq_true rfl) (by decide) ?_
    refine k_iload_n K dX2_join_73 0 rfl ?_
    cases h
    obtain rfl := hO _ rfl
    exact k_iret (v := r3.1) K hret dX2_join_74 (by decide) (by decide)
set_option maxRecDepth 20000 in
theorem pX2_join_39 (K : kC w p s m args meth c cX2_join 4 RX2) (hret : meth.sig.returnType = (some .int)) {x1 : Int32} {x2 : Int32} {t1 : Int32} {t2 : Int32} {σ : kS} {r : (Int32 × kS)} {o : (Int32 × kS)} (h : fX2_join_39 x1 x2 t1 t2 σ = some r) (hO : ∀ z, r = z → z = o) : kG w p l e rmX2_join s m args below meth c (MQ below (kQi w o.1 o.2) args s 0 0 (kA w)) 4 σ 39 [(0, .ref (kL w 126)), (1, .int x1), (2, .int x2)] [.int t2, .int t1, .ref (kL w 126)] 0 0 := by
  unfold fX2_join_39 at h
  refine k_iconst (v := 0) K dX2_join_39 (by decide) ?_
  exact pX2_join_40 K hret h hO
set_option maxRecDepth 20000 in
theorem mX2_join (l : Launch) (w : kW) (σ : kS) (x1 : Int32) (x2 : Int32) {o : (Int32 × kS)} (h : fX2_join σ x1 x2 = some o) : Met l yX2_join (Cond.code yX2_join cX2_join 4 (some .int) :: TB) rmX2_join (va_Pc [.ref (kL w 126), .int x1, .int x2] (kP w σ)) (kQi w o.1 o.2) 0 0 (kA w) := by
  refine k_met (by decide +kernel) [.ref (kL w 126), .int x1, .int x2] (Nat.le_of_ble_eq_true rfl) (by simp [lv_args, Value.category]) ?_
  intro p e s m args below meth c K hret
  have K : kC w p s m args meth c cX2_join 4 RX2 := K
  obtain ⟨r, hro⟩ : ∃ r, r = o := ⟨o, rfl⟩
  rw [← hro] at h
  have hO : ∀ z, r = z → z = o := fun z e => by rw [← e]; exact hro
  unfold fX2_join at h
  refine k_aload_n K dX2_join_0 0 rfl ?_
  refine k_aload_n K dX2_join_1 0 rfl ?_
  refine k_iload_n K dX2_join_2 2 rfl ?_
  replace h := k_bd h
  obtain ⟨r1, hr1, h⟩ := h
  refine cl_X2_101 K dX2_join_3 hr1 (by decide) (Nat.le_of_ble_eq_true rfl) (by decide) ?_
  refine k_iload_n K dX2_join_6 1 rfl ?_
  replace h := k_bd h
  obtain ⟨r2, hr2, h⟩ := h
  refine cl_X2_50 K dX2_join_7 hr2 (by decide) (Nat.le_of_ble_eq_true rfl) (by decide) ?_
  refine k_iload_n K dX2_join_10 1 rfl ?_
  replace h := k_bd h
  obtain ⟨r3, hr3, h⟩ := h
  refine cl_X2_50 K dX2_join_11 hr3 (by decide) (Nat.le_of_ble_eq_true rfl) (by decide) ?_
  replace h := k_br h
  rcases h with ⟨b4, h⟩ | ⟨b4, h⟩
  · refine k_if_eq K 39 dX2_join_14 (by decide) (fun _ => ?_) (fun q => absurd b4 q)
    exact pX2_join_39 K hret h hO
  · refine k_if_eq K 39 dX2_join_14 (by decide) (fun q => absurd q b4) (fun _ => ?_)
    refine k_aload_n K dX2_join_17 0 rfl ?_
    refine fg_X2_13 K dX2_join_18 ?_
    refine k_iload_n K dX2_join_21 1 rfl ?_
    replace h := k_gd h
    obtain ⟨g5, h⟩ := h
    refine k_iald K dX2_join_22 kd_127 g5 ?_
    replace h := k_br h
    rcases h with ⟨b6, h⟩ | ⟨b6, h⟩
    · refine k_if_ne K 39 dX2_join_23 (by decide) (fun q => absurd b6 q) (fun _ => ?_)
      refine k_aload_n K dX2_join_26 0 rfl ?_
      replace h := k_bd h
      obtain ⟨r7, hr7, h⟩ := h
      refine cl_X2_65 K dX2_join_27 hr7 (by decide) (Nat.le_of_ble_eq_true rfl) (by decide) ?_
      refine k_bipush (v := 20) K dX2_join_30 (by decide) ?_
      replace h := k_br h
      rcases h with ⟨b8, h⟩ | ⟨b8, h⟩
      · refine k_icmp_ge K 39 dX2_join_32 (by decide) (fun _ => ?_) (fun q => absurd b8 q)
        exact pX2_join_39 K hret h hO
      · refine k_icmp_ge K 39 dX2_join_32 (by decide) (fun q => absurd q b8) (fun _ => ?_)
        refine k_iconst (v := 1) K dX2_join_35 (by decide) ?_
        refine k_goto K 40 dX2_join_36 (by decide) ?_
        exact pX2_join_40 K hret h hO
    · refine k_if_ne K 39 dX2_join_23 (by decide) (fun _ => ?_) (fun q => absurd q b6)
      exact pX2_join_39 K hret h hO
end F_X2_join
section F_X2_ideal
variable {w : kW} {p : Program} {l : Launch} {e : Env} {s : State} {m : MethodId} {args : Array Value} {below : List Frame} {meth : Method} {c : Code}
def fX2_ideal_134 (x2 : Int32) (t0 : Int32) (σ : kS) : Option ((Int32 × Int32) ⊕ (Int32 × kS)) :=
  some (.inl (t0, x2 + 1))
def fX2_ideal_133 (x2 : Int32) (σ : kS) : Option ((Int32 × Int32) ⊕ (Int32 × kS)) :=
  fX2_ideal_134 x2 0 σ
def fX2_ideal_129 (x2 : Int32) (σ : kS) : Option ((Int32 × Int32) ⊕ (Int32 × kS)) :=
  fX2_ideal_134 x2 1 σ
def fX2_ideal_93 (x1 : Int32) (x2 : Int32) (σ : kS) : Option ((Int32 × Int32) ⊕ (Int32 × kS)) :=
  if x1 = 0 then
    fX2_ideal_133 x2 σ
  else
    if vpi x2 256 then
      if (σ.1 127 x2.toNatClampNeg) = 1 then
        (fX2_last σ ((x2 + 255) - (x2 + 255) / 256 * 256)).bind fun r4 =>
        if (σ.1 129 x2.toNatClampNeg) = r4 then
          fX2_ideal_129 x2 σ
        else
          fX2_ideal_133 x2 σ
      else
        fX2_ideal_129 x2 σ
    else none
def fX2_ideal_86 (x2 : Int32) (x3 : Int32) (x4 : Int32) (t0 : Int32) (σ : kS) : Option ((Int32 × Int32 × Int32) ⊕ ((Int32 × Int32) ⊕ (Int32 × kS))) :=
  some (.inl (t0, x3, x4 + 1))
def fX2_ideal_85 (x2 : Int32) (x3 : Int32) (x4 : Int32) (σ : kS) : Option ((Int32 × Int32 × Int32) ⊕ ((Int32 × Int32) ⊕ (Int32 × kS))) :=
  fX2_ideal_86 x2 x3 x4 0 σ
def gX2_ideal_31 (x2 : Int32) (σ : kS) (x1 : Int32) (x3 : Int32) (x4 : Int32) : Option ((Int32 × Int32 × Int32) ⊕ ((Int32 × Int32) ⊕ (Int32 × kS))) :=
  if (σ.1 126 1) ≤ x4 then
    (fX2_ideal_93 x1 x2 σ).map .inr
  else
    if vpi x2 256 then
      if (σ.1 127 x2.toNatClampNeg) = 1 then
        (fX2_next σ ((x3 + 1) - (x3 + 1) / 256 * 256)).bind fun r4 =>
        if x1 = 0 then
          fX2_ideal_85 x2 r4 x4 σ
        else
          if vpi ((4 * x2) + x4) 1024 then
            if (σ.1 128 ((4 * x2) + x4).toNatClampNeg) = r4 then
              fX2_ideal_86 x2 r4 x4 1 σ
            else
              fX2_ideal_85 x2 r4 x4 σ
          else none
      else
        (fX2_ideal_93 x1 x2 σ).map .inr
    else none
def fX2_ideal_31 (x2 : Int32) (σ : kS) (a : Int32 × Int32 × Int32) : Option ((Int32 × Int32 × Int32) ⊕ ((Int32 × Int32) ⊕ (Int32 × kS))) := gX2_ideal_31 x2 σ a.1 a.2.1 a.2.2
def gX2_ideal_12 (σ : kS) (x1 : Int32) (x2 : Int32) : Option ((Int32 × Int32) ⊕ (Int32 × kS)) :=
  if 256 ≤ x2 then
    if vp_nar .boolean x1 = x1 then
      some (.inr ((x1, σ)))
    else none
  else
    if (σ.1 126 2) = 0 then
      if vp_nar .boolean x1 = x1 then
        some (.inr ((x1, σ)))
      else none
    else
      kit (fX2_ideal_31 x2 σ) 300 (x1, x2, 0)
def fX2_ideal_12 (σ : kS) (a : Int32 × Int32) : Option ((Int32 × Int32) ⊕ (Int32 × kS)) := gX2_ideal_12 σ a.1 a.2
def fX2_ideal (σ : kS) : Option (Int32 × kS) :=
  kit (fX2_ideal_12 (sI σ 126 0 0)) 300 ((sI σ 126 0 0).1 126 2, 0)
def rmX2_ideal : Room := { frames := 1, cells := 0, slots := 0, locals := 22 }
set_option maxRecDepth 20000 in
theorem pX2_ideal_134 (K : kC w p s m args meth c cX2_ideal 5 RX2) (hret : meth.sig.returnType = (some .boolean)) {x2 : Int32} {t0 : Int32} {σ : kS} {r : ((Int32 × Int32) ⊕ (Int32 × kS))} {o : (Int32 × kS)} (h : fX2_ideal_134 x2 t0 σ = some r) (hL12 : ∀ z, r = .inl z → kG w p l e rmX2_ideal s m args below meth c (MQ below (kQi w o.1 o.2) args s 0 0 (kA w)) 5 σ 12 [(0, .ref (kL w 126)), (1, .int (z.1)), (2, .int (z.2))] [] 0 0) (hO : ∀ z, r = .inr z → z = o) : kG w p l e rmX2_ideal s m args below meth c (MQ below (kQi w o.1 o.2) args s 0 0 (kA w)) 5 σ 134 [(0, .ref (kL w 126)), (2, .int x2)] [.int t0] 0 0 := by
  unfold fX2_ideal_134 at h
  refine k_istore_n (lv' := [(1, .int t0), (0, .ref (kL w 126)), (2, .int x2)]) K dX2_ideal_134 (by decide) rfl ?_
  refine k_iinc (v := 1) (lv' := [(2, .int (x2 + 1)), (1, .int t0), (0, .ref (kL w 126))]) K dX2_ideal_135 2 rfl (by decide) (by decide) rfl ?_
  refine k_goto K 12 dX2_ideal_138 (by decide) ?_
  refine k_sub [2, 1, 0] rfl ?_
  cases h
  exact hL12 _ rfl
set_option maxRecDepth 20000 in
theorem pX2_ideal_133 (K : kC w p s m args meth c cX2_ideal 5 RX2) (hret : meth.sig.returnType = (some .boolean)) {x2 : Int32} {σ : kS} {r : ((Int32 × Int32) ⊕ (Int32 × kS))} {o : (Int32 × kS)} (h : fX2_ideal_133 x2 σ = some r) (hL12 : ∀ z, r = .inl z → kG w p l e rmX2_ideal s m args below meth c (MQ below (kQi w o.1 o.2) args s 0 0 (kA w)) 5 σ 12 [(0, .ref (kL w 126)), (1, .int (z.1)), (2, .int (z.2))] [] 0 0) (hO : ∀ z, r = .inr z → z = o) : kG w p l e rmX2_ideal s m args below meth c (MQ below (kQi w o.1 o.2) args s 0 0 (kA w)) 5 σ 133 [(0, .ref (kL w 126)), (2, .int x2)] [] 0 0 := by
  unfold fX2_ideal_133 at h
  refine k_iconst (v := 0) K dX2_ideal_133 (by decide) ?_
  exact pX2_ideal_134 K hret h hL12 hO
set_option maxRecDepth 20000 in
theorem pX2_ideal_129 (K : kC w p s m args meth c cX2_ideal 5 RX2) (hret : meth.sig.returnType = (some .boolean)) {x2 : Int32} {σ : kS} {r : ((Int32 × Int32) ⊕ (Int32 × kS))} {o : (Int32 × kS)} (h : fX2_ideal_129 x2 σ = some r) (hL12 : ∀ z, r = .inl z → kG w p l e rmX2_ideal s m args below meth c (MQ below (kQi w o.1 o.2) args s 0 0 (kA w)) 5 σ 12 [(0, .ref (kL w 126)), (1, .int (z.1)), (2, .int (z.2))] [] 0 0) (hO : ∀ z, r = .inr z → z = o) : kG w p l e rmX2_ideal s m args below meth c (MQ below (kQi w o.1 o.2) args s 0 0 (kA w)) 5 σ 129 [(0, .ref (kL w 126)), (2, .int x2)] [] 0 0 := by
  unfold fX2_ideal_129 at h
  refine k_iconst (v := 1) K dX2_ideal_129 (by decide) ?_
  refine k_goto K 134 dX2_ideal_130 (by decide) ?_
  exact pX2_ideal_134 K hret h hL12 hO
set_option maxRecDepth 20000 in
theorem pX2_ideal_93 (K : kC w p s m args meth c cX2_ideal 5 RX2) (hret : meth.sig.returnType = (some .boolean)) {x1 : Int32} {x2 : Int32} {σ : kS} {r : ((Int32 × Int32) ⊕ (Int32 × kS))} {o : (Int32 × kS)} (h : fX2_ideal_93 x1 x2 σ = some r) (hL12 : ∀ z, r = .inl z → kG w p l e rmX2_ideal s m args below meth c (MQ below (kQi w o.1 o.2) args s 0 0 (kA w)) 5 σ 12 [(0, .ref (kL w 126)), (1, .int (z.1)), (2, .int (z.2))] [] 0 0) (hO : ∀ z, r = .inr z → z = o) : kG w p l e rmX2_ideal s m args below meth c (MQ below (kQi w o.1 o.2) args s 0 0 (kA w)) 5 σ 93 [(0, .ref (kL w 126)), (1, .int x1), (2, .int x2)] [] 0 0 := by
  unfold fX2_ideal_93 at h
  refine k_iload_n K dX2_ideal_93 1 rfl ?_
  replace h := k_br h
  rcases h with ⟨b1, h⟩ | ⟨b1, h⟩
  · refine k_if_eq K 133 dX2_ideal_94 (by decide) (fun _ => ?_) (fun q => absurd b1 q)
    refine k_sub [0, 2] rfl ?_
    exact pX2_ideal_133 K hret h hL12 hO
  · refine k_if_eq K 133 dX2_ideal_94 (by decide) (fun q => absurd q b1) (fun _ => ?_)
    refine k_aload_n K dX2_ideal_97 0 rfl ?_
    refine fg_X2_13 K dX2_ideal_98 ?_
    refine k_iload_n K dX2_ideal_101 2 rfl ?_
    replace h := k_gd h
    obtain ⟨g2, h⟩ := h
    refine k_iald K dX2_ideal_102 kd_127 g2 ?_
    refine k_iconst (v := 1) K dX2_ideal_103 (by decide) ?_
    replace h := k_br h
    rcases h with ⟨b3, h⟩ | ⟨b3, h⟩
    · refine k_icmp_ne K 129 dX2_ideal_104 (by decide) (fun q => absurd b3 q) (fun _ => ?_)
      refine k_aload_n K dX2_ideal_107 0 rfl ?_
      refine fg_X2_20 K dX2_ideal_108 ?_
      refine k_iload_n K dX2_ideal_111 2 rfl ?_
      refine k_iald K dX2_ideal_112 kd_129 g2 ?_
      refine k_aload_n K dX2_ideal_113 0 rfl ?_
      refine k_iload_n K dX2_ideal_114 2 rfl ?_
      refine k_sipush (v := 255) K dX2_ideal_115 (by decide) ?_
      refine k_iadd K dX2_ideal_118 ?_
      refine k_sipush (v := 256) K dX2_ideal_119 (by decide) ?_
      refine k_irem K dX2_ideal_122 (by decide) ?_
      replace h := k_bd h
      obtain ⟨r4, hr4, h⟩ := h
      refine cl_X2_81 K dX2_ideal_123 hr4 (by decide) (Nat.le_of_ble_eq_true rfl) (by decide) ?_
      replace h := k_br h
      rcases h with ⟨b5, h⟩ | ⟨b5, h⟩
      · refine k_icmp_ne K 133 dX2_ideal_126 (by decide) (fun q => absurd b5 q) (fun _ => ?_)
        refine k_sub [0, 2] rfl ?_
        exact pX2_ideal_129 K hret h hL12 hO
      · refine k_icmp_ne K 133 dX2_ideal_126 (by decide) (fun _ => ?_) (fun q => absurd q b5)
        refine k_sub [0, 2] rfl ?_
        exact pX2_ideal_133 K hret h hL12 hO
    · refine k_icmp_ne K 129 dX2_ideal_104 (by decide) (fun _ => ?_) (fun q => absurd q b3)
      refine k_sub [0, 2] rfl ?_
      exact pX2_ideal_129 K hret h hL12 hO
set_option maxRecDepth 20000 in
theorem pX2_ideal_86 (K : kC w p s m args meth c cX2_ideal 5 RX2) (hret : meth.sig.returnType = (some .boolean)) {x2 : Int32} {x3 : Int32} {x4 : Int32} {t0 : Int32} {σ : kS} {r : ((Int32 × Int32 × Int32) ⊕ ((Int32 × Int32) ⊕ (Int32 × kS)))} {o : (Int32 × kS)} (h : fX2_ideal_86 x2 x3 x4 t0 σ = some r) (hL12 : ∀ z, r = .inr (.inl z) → kG w p l e rmX2_ideal s m args below meth c (MQ below (kQi w o.1 o.2) args s 0 0 (kA w)) 5 σ 12 [(0, .ref (kL w 126)), (1, .int (z.1)), (2, .int (z.2))] [] 0 0) (hL31 : ∀ z, r = .inl z → kG w p l e rmX2_ideal s m args below meth c (MQ below (kQi w o.1 o.2) args s 0 0 (kA w)) 5 σ 31 [(0, .ref (kL w 126)), (1, .int (z.1)), (2, .int x2), (3, .int (z.2.1)), (4, .int (z.2.2))] [] 0 0) (hO : ∀ z, r = .inr (.inr z) → z = o) : kG w p l e rmX2_ideal s m args below meth c (MQ below (kQi w o.1 o.2) args s 0 0 (kA w)) 5 σ 86 [(0, .ref (kL w 126)), (2, .int x2), (3, .int x3), (4, .int x4)] [.int t0] 0 0 := by
  unfold fX2_ideal_86 at h
  refine k_istore_n (lv' := [(1, .int t0), (0, .ref (kL w 126)), (2, .int x2), (3, .int x3), (4, .int x4)]) K dX2_ideal_86 (by decide) rfl ?_
  refine k_iinc (v := 1) (lv' := [(4, .int (x4 + 1)), (1, .int t0), (0, .ref (kL w 126)), (2, .int x2), (3, .int x3)]) K dX2_ideal_87 4 rfl (by decide) (by decide) rfl ?_
  refine k_goto K 31 dX2_ideal_90 (by decide) ?_
  refine k_sub [2, 1, 3, 4, 0] rfl ?_
  cases h
  exact hL31 _ rfl
set_option maxRecDepth 20000 in
theorem pX2_ideal_85 (K : kC w p s m args meth c cX2_ideal 5 RX2) (hret : meth.sig.returnType = (some .boolean)) {x2 : Int32} {x3 : Int32} {x4 : Int32} {σ : kS} {r : ((Int32 × Int32 × Int32) ⊕ ((Int32 × Int32) ⊕ (Int32 × kS)))} {o : (Int32 × kS)} (h : fX2_ideal_85 x2 x3 x4 σ = some r) (hL12 : ∀ z, r = .inr (.inl z) → kG w p l e rmX2_ideal s m args below meth c (MQ below (kQi w o.1 o.2) args s 0 0 (kA w)) 5 σ 12 [(0, .ref (kL w 126)), (1, .int (z.1)), (2, .int (z.2))] [] 0 0) (hL31 : ∀ z, r = .inl z → kG w p l e rmX2_ideal s m args below meth c (MQ below (kQi w o.1 o.2) args s 0 0 (kA w)) 5 σ 31 [(0, .ref (kL w 126)), (1, .int (z.1)), (2, .int x2), (3, .int (z.2.1)), (4, .int (z.2.2))] [] 0 0) (hO : ∀ z, r = .inr (.inr z) → z = o) : kG w p l e rmX2_ideal s m args below meth c (MQ below (kQi w o.1 o.2) args s 0 0 (kA w)) 5 σ 85 [(0, .ref (kL w 126)), (2, .int x2), (3, .int x3), (4, .int x4)] [] 0 0 := by
  unfold fX2_ideal_85 at h
  refine k_iconst (v := 0) K dX2_ideal_85 (by decide) ?_
  exact pX2_ideal_86 K hret h hL12 hL31 hO
set_option maxRecDepth 20000 in
theorem pX2_ideal_31 (K : kC w p s m args meth c cX2_ideal 5 RX2) (hret : meth.sig.returnType = (some .boolean)) {x2 : Int32} {σ : kS} {x1 : Int32} {x3 : Int32} {x4 : Int32} {r : ((Int32 × Int32 × Int32) ⊕ ((Int32 × Int32) ⊕ (Int32 × kS)))} {o : (Int32 × kS)} (h : gX2_ideal_31 x2 σ x1 x3 x4 = some r) (hL12 : ∀ z, r = .inr (.inl z) → kG w p l e rmX2_ideal s m args below meth c (MQ below (kQi w o.1 o.2) args s 0 0 (kA w)) 5 σ 12 [(0, .ref (kL w 126)), (1, .int (z.1)), (2, .int (z.2))] [] 0 0) (hL31 : ∀ z, r = .inl z → kG w p l e rmX2_ideal s m args below meth c (MQ below (kQi w o.1 o.2) args s 0 0 (kA w)) 5 σ 31 [(0, .ref (kL w 126)), (1, .int (z.1)), (2, .int x2), (3, .int (z.2.1)), (4, .int (z.2.2))] [] 0 0) (hO : ∀ z, r = .inr (.inr z) → z = o) : kG w p l e rmX2_ideal s m args below meth c (MQ below (kQi w o.1 o.2) args s 0 0 (kA w)) 5 σ 31 [(0, .ref (kL w 126)), (1, .int x1), (2, .int x2), (3, .int x3), (4, .int x4)] [] 0 0 := by
  unfold gX2_ideal_31 at h
  refine k_iload K dX2_ideal_31 4 rfl ?_
  refine k_aload_n K dX2_ideal_33 0 rfl ?_
  refine fg_X2_7 K dX2_ideal_34 ?_
  replace h := k_br h
  rcases h with ⟨b1, h⟩ | ⟨b1, h⟩
  · refine k_icmp_ge K 93 dX2_ideal_37 (by decide) (fun _ => ?_) (fun q => absurd b1 q)
    refine k_sub [0, 1, 2] rfl ?_
    replace h := k_mp h
    obtain ⟨_, h, rfl⟩ := h
    exact pX2_ideal_93 K hret h (fun z e => hL12 z (by rw [e])) (fun z e => hO z (by rw [e]))
  · refine k_icmp_ge K 93 dX2_ideal_37 (by decide) (fun q => absurd q b1) (fun _ => ?_)
    refine k_aload_n K dX2_ideal_40 0 rfl ?_
    refine fg_X2_13 K dX2_ideal_41 ?_
    refine k_iload_n K dX2_ideal_44 2 rfl ?_
    replace h := k_gd h
    obtain ⟨g2, h⟩ := h
    refine k_iald K dX2_ideal_45 kd_127 g2 ?_
    refine k_iconst (v := 1) K dX2_ideal_46 (by decide) ?_
    replace h := k_br h
    rcases h with ⟨b3, h⟩ | ⟨b3, h⟩
    · refine k_icmp_ne K 93 dX2_ideal_47 (by decide) (fun q => absurd b3 q) (fun _ => ?_)
      refine k_aload_n K dX2_ideal_50 0 rfl ?_
      refine k_iload_n K dX2_ideal_51 3 rfl ?_
      refine k_iconst (v := 1) K dX2_ideal_52 (by decide) ?_
      refine k_iadd K dX2_ideal_53 ?_
      refine k_sipush (v := 256) K dX2_ideal_54 (by decide) ?_
      refine k_irem K dX2_ideal_57 (by decide) ?_
      replace h := k_bd h
      obtain ⟨r4, hr4, h⟩ := h
      refine cl_X2_77 K dX2_ideal_58 hr4 (by decide) (Nat.le_of_ble_eq_true rfl) (by decide) ?_
      refine k_istore_n (lv' := [(3, .int r4), (0, .ref (kL w 126)), (1, .int x1), (2, .int x2), (4, .int x4)]) K dX2_ideal_61 (by decide) rfl ?_
      refine k_iload_n K dX2_ideal_62 2 rfl ?_
      replace h := k_br h
      rcases h with ⟨b5, h⟩ | ⟨b5, h⟩
      · refine k_if_eq K 85 dX2_ideal_63 (by decide) (fun _ => ?_) (fun q => absurd b5 q)
        refine k_sub [1, 3, 0, 4] rfl ?_
        exact pX2_ideal_85 K hret h hL12 hL31 hO
      · refine k_if_eq K 85 dX2_ideal_63 (by decide) (fun q => absurd q b5) (fun _ => ?_)
        refine k_aload_n K dX2_ideal_66 1 rfl ?_
        refine fg_X2_17 K dX2_ideal_67 ?_
        refine k_iconst (v := 4) K dX2_ideal_70 (by decide) ?_
        refine k_iload_n K dX2_ideal_71 3 rfl ?_
        refine k_imul K dX2_ideal_72 ?_
        refine k_iload K dX2_ideal_73 4 rfl ?_
        refine k_iadd K dX2_ideal_75 ?_
        replace h := k_gd h
        obtain ⟨g6, h⟩ := h
        refine k_iald K dX2_ideal_76 kd_128 g6 ?_
        refine k_iload_n K dX2_ideal_77 0 rfl ?_
        replace h := k_br h
        rcases h with ⟨b7, h⟩ | ⟨b7, h⟩
        · refine k_icmp_ne K 85 dX2_ideal_78 (by decide) (fun q => absurd b7 q) (fun _ => ?_)
          refine k_iconst (v := 1) K dX2_ideal_81 (by decide) ?_
          refine k_goto K 86 dX2_ideal_82 (by decide) ?_
          refine k_sub [1, 3, 0, 4] rfl ?_
          exact pX2_ideal_86 K hret h hL12 hL31 hO
        · refine k_icmp_ne K 85 dX2_ideal_78 (by decide) (fun _ => ?_) (fun q => absurd q b7)
          refine k_sub [1, 3, 0, 4] rfl ?_
          exact pX2_ideal_85 K hret h hL12 hL31 hO
    · refine k_icmp_ne K 93 dX2_ideal_47 (by decide) (fun _ => ?_) (fun q => absurd q b3)
      refine k_sub [0, 1, 2] rfl ?_
      replace h := k_mp h
      obtain ⟨_, h, rfl⟩ := h
      exact pX2_ideal_93 K hret h (fun z e => hL12 z (by rw [e])) (fun z e => hO z (by rw [e]))
set_option maxRecDepth 20000 in
theorem lX2_ideal_31 (K : kC w p s m args meth c cX2_ideal 5 RX2) (hret : meth.sig.returnType = (some .boolean)) {x2 : Int32} {σ : kS} {n : Nat} {a : Int32 × Int32 × Int32} {r : ((Int32 × Int32) ⊕ (Int32 × kS))} {o : (Int32 × kS)} (h : kit (fX2_ideal_31 x2 σ) n a = some r) (hL12 : ∀ z, r = .inl z → kG w p l e rmX2_ideal s m args below meth c (MQ below (kQi w o.1 o.2) args s 0 0 (kA w)) 5 σ 12 [(0, .ref (kL w 126)), (1, .int (z.1)), (2, .int (z.2))] [] 0 0) (hO : ∀ z, r = .inr z → z = o) : kG w p l e rmX2_ideal s m args below meth c (MQ below (kQi w o.1 o.2) args s 0 0 (kA w)) 5 σ 31 [(0, .ref (kL w 126)), (1, .int (a.1)), (2, .int x2), (3, .int (a.2.1)), (4, .int (a.2.2))] [] 0 0 :=
  kit_ind (body := fX2_ideal_31 x2 σ) (fun a r => (∀ z, r = .inl z → kG w p l e rmX2_ideal s m args below meth c (MQ below (kQi w o.1 o.2) args s 0 0 (kA w)) 5 σ 12 [(0, .ref (kL w 126)), (1, .int (z.1)), (2, .int (z.2))] [] 0 0) → (∀ z, r = .inr z → z = o) → kG w p l e rmX2_ideal s m args below meth c (MQ below (kQi w o.1 o.2) args s 0 0 (kA w)) 5 σ 31 [(0, .ref (kL w 126)), (1, .int (a.1)), (2, .int x2), (3, .int (a.2.1)), (4, .int (a.2.2))] [] 0 0) (fun a a2 r hb ih hL12 hO => pX2_ideal_31 K hret hb (fun _ e => by cases e) (fun z e => by cases e; exact ih hL12 hO) (fun _ e => by cases e)) (fun a r hb hL12 hO => pX2_ideal_31 K hret hb (fun z e => hL12 z (by cases e; rfl)) (fun _ e => by cases e) (fun z e => hO z (by cases e; rfl))) n a r h hL12 hO
set_option maxRecDepth 20000 in
theorem pX2_ideal_12 (K : kC w p s m args meth c cX2_ideal 5 RX2) (hret : meth.sig.returnType = (some .boolean)) {σ : kS} {x1 : Int32} {x2 : Int32} {r : ((Int32 × Int32) ⊕ (Int32 × kS))} {o : (Int32 × kS)} (h : gX2_ideal_12 σ x1 x2 = some r) (hL12 : ∀ z, r = .inl z → kG w p l e rmX2_ideal s m args below meth c (MQ below (kQi w o.1 o.2) args s 0 0 (kA w)) 5 σ 12 [(0, .ref (kL w 126)), (1, .int (z.1)), (2, .int (z.2))] [] 0 0) (hO : ∀ z, r = .inr z → z = o) : kG w p l e rmX2_ideal s m args below meth c (MQ below (kQi w o.1 o.2) args s 0 0 (kA w)) 5 σ 12 [(0, .ref (kL w 126)), (1, .int x1), (2, .int x2)] [] 0 0 := by
  unfold gX2_ideal_12 at h
  refine k_iload_n K dX2_ideal_12 2 rfl ?_
  refine k_sipush (v := 256) K dX2_ideal_13 (by decide) ?_
  replace h := k_br h
  rcases h with ⟨b1, h⟩ | ⟨b1, h⟩
  · refine k_icmp_ge K 141 dX2_ideal_16 (by decide) (fun _ => ?_) (fun q => absurd b1 q)
    refine k_iload_n K dX2_ideal_141 1 rfl ?_
    replace h := k_gd h
    obtain ⟨g2, h⟩ := h
    cases h
    obtain rfl := hO _ rfl
    exact k_zret K hret (k_nz g2) dX2_ideal_142 (by decide) (by decide)
  · refine k_icmp_ge K 141 dX2_ideal_16 (by decide) (fun q => absurd q b1) (fun _ => ?_)
    refine k_aload_n K dX2_ideal_19 0 rfl ?_
    refine fg_X2_54 K dX2_ideal_20 ?_
    replace h := k_br h
    rcases h with ⟨b3, h⟩ | ⟨b3, h⟩
    · refine k_if_eq K 141 dX2_ideal_23 (by decide) (fun _ => ?_) (fun q => absurd b3 q)
      refine k_iload_n K dX2_ideal_141 1 rfl ?_
      replace h := k_gd h
      obtain ⟨g4, h⟩ := h
      cases h
      obtain rfl := hO _ rfl
      exact k_zret K hret (k_nz g4) dX2_ideal_142 (by decide) (by decide)
    · refine k_if_eq K 141 dX2_ideal_23 (by decide) (fun q => absurd q b3) (fun _ => ?_)
      refine k_iload_n K dX2_ideal_26 2 rfl ?_
      refine k_istore_n (lv' := [(3, .int x2), (0, .ref (kL w 126)), (1, .int x1), (2, .int x2)]) K dX2_ideal_27 (by decide) rfl ?_
      refine k_iconst (v := 0) K dX2_ideal_28 (by decide) ?_
      refine k_istore (lv' := [(4, .int 0), (3, .int x2), (0, .ref (kL w 126)), (1, .int x1), (2, .int x2)]) K dX2_ideal_29 (by decide) rfl ?_
      refine k_sub [2, 3, 4, 1, 0] rfl ?_
      exact lX2_ideal_31 K hret h hL12 hO
set_option maxRecDepth 20000 in
theorem lX2_ideal_12 (K : kC w p s m args meth c cX2_ideal 5 RX2) (hret : meth.sig.returnType = (some .boolean)) {σ : kS} {n : Nat} {a : Int32 × Int32} {r : (Int32 × kS)} {o : (Int32 × kS)} (h : kit (fX2_ideal_12 σ) n a = some r) (hO : ∀ z, r = z → z = o) : kG w p l e rmX2_ideal s m args below meth c (MQ below (kQi w o.1 o.2) args s 0 0 (kA w)) 5 σ 12 [(0, .ref (kL w 126)), (1, .int (a.1)), (2, .int (a.2))] [] 0 0 :=
  kit_ind (body := fX2_ideal_12 σ) (fun a r => (∀ z, r = z → z = o) → kG w p l e rmX2_ideal s m args below meth c (MQ below (kQi w o.1 o.2) args s 0 0 (kA w)) 5 σ 12 [(0, .ref (kL w 126)), (1, .int (a.1)), (2, .int (a.2))] [] 0 0) (fun a a2 r hb ih hO => pX2_ideal_12 K hret hb (fun z e => by cases e; exact ih hO) (fun _ e => by cases e)) (fun a r hb hO => pX2_ideal_12 K hret hb (fun _ e => by cases e) (fun z e => hO z (by cases e; rfl))) n a r h hO
set_option maxRecDepth 20000 in
theorem mX2_ideal (l : Launch) (w : kW) (σ : kS) {o : (Int32 × kS)} (h : fX2_ideal σ = some o) : Met l yX2_ideal (Cond.code yX2_ideal cX2_ideal 5 (some .boolean) :: TB) rmX2_ideal (va_Pc [.ref (kL w 126)] (kP w σ)) (kQi w o.1 o.2) 0 0 (kA w) := by
  refine k_met (by decide +kernel) [.ref (kL w 126)] (Nat.le_of_ble_eq_true rfl) (by simp [lv_args, Value.category]) ?_
  intro p e s m args below meth c K hret
  have K : kC w p s m args meth c cX2_ideal 5 RX2 := K
  obtain ⟨r, hro⟩ : ∃ r, r = o := ⟨o, rfl⟩
  rw [← hro] at h
  have hO : ∀ z, r = z → z = o := fun z e => by rw [← e]; exact hro
  unfold fX2_ideal at h
  refine k_aload_n K dX2_ideal_0 0 rfl ?_
  refine k_iconst (v := 0) K dX2_ideal_1 (by decide) ?_
  refine fp_X2_47 K dX2_ideal_2 ?_
  refine k_aload_n K dX2_ideal_5 0 rfl ?_
  refine fg_X2_54 K dX2_ideal_6 ?_
  refine k_istore_n (lv' := [(1, .int ((sI σ 126 0 0).1 126 2)), (0, .ref (kL w 126))]) K dX2_ideal_9 (by decide) rfl ?_
  refine k_iconst (v := 0) K dX2_ideal_10 (by decide) ?_
  refine k_istore_n (lv' := [(2, .int 0), (1, .int ((sI σ 126 0 0).1 126 2)), (0, .ref (kL w 126))]) K dX2_ideal_11 (by decide) rfl ?_
  refine k_sub [2, 1, 0] rfl ?_
  exact lX2_ideal_12 K hret h hO
end F_X2_ideal
section F_X2_found
variable {w : kW} {p : Program} {l : Launch} {e : Env} {s : State} {m : MethodId} {args : Array Value} {below : List Frame} {meth : Method} {c : Code}
def fX2_found_42 (x1 : Int32) (t1 : Int32) (t2 : Int32) (σ : kS) : Option (Int32 × kS) :=
  (fX2_goes σ t1 t2 1).bind fun r1 =>
  if r1.1 = 0 then
    some ((0, r1.2))
  else
    if vpi x1 256 then
      (fX2_many (sI r1.2 127 x1.toNatClampNeg 1)).bind fun r4 =>
      some ((r4, sI r1.2 127 x1.toNatClampNeg 1))
    else none
def fX2_found_41 (x1 : Int32) (t1 : Int32) (σ : kS) : Option (Int32 × kS) :=
  fX2_found_42 x1 t1 0 σ
def fX2_found (σ : kS) (x1 : Int32) : Option (Int32 × kS) :=
  (fX2_isPoint x1).bind fun r1 =>
  if (σ.1 126 2) = 0 then
    (fX2_isPoint x1).bind fun r3 =>
    if r3 = 0 then
      fX2_found_41 x1 r1 σ
    else
      if vpi x1 256 then
        if (σ.1 127 x1.toNatClampNeg) = 0 then
          (fX2_many σ).bind fun r7 =>
          if 20 ≤ r7 then
            fX2_found_41 x1 r1 σ
          else
            fX2_found_42 x1 r1 1 σ
        else
          fX2_found_41 x1 r1 σ
      else none
  else
    fX2_found_41 x1 r1 σ
def rmX2_found : Room := { frames := 1, cells := 0, slots := 0, locals := 23 }
set_option maxRecDepth 20000 in
theorem pX2_found_42 (K : kC w p s m args meth c cX2_found 2 RX2) (hret : meth.sig.returnType = (some .int)) {x1 : Int32} {t1 : Int32} {t2 : Int32} {σ : kS} {r : (Int32 × kS)} {o : (Int32 × kS)} (h : fX2_found_42 x1 t1 t2 σ = some r) (hO : ∀ z, r = z → z = o) : kG w p l e rmX2_found s m args below meth c (MQ below (kQi w o.1 o.2) args s 0 0 (kA w)) 2 σ 42 [(0, .ref (kL w 126)), (1, .int x1)] [.int t2, .int t1, .ref (kL w 126)] 0 0 := by
  unfold fX2_found_42 at h
  refine k_iconst (v := 1) K dX2_found_42 (by decide) ?_
  replace h := k_bd h
  obtain ⟨r1, hr1, h⟩ := h
  refine cl_X2_69 K dX2_found_43 hr1 (by decide) (Nat.le_of_ble_eq_true rfl) (by decide) ?_
  replace h := k_br h
  rcases h with ⟨b2, h⟩ | ⟨b2, h⟩
  · refine k_if_ne K 51 dX2_found_46 (by decide) (fun q => absurd b2 q) (fun _ => ?_)
    refine k_iconst (v := 0) K dX2_found_49 (by decide) ?_
    cases h
    obtain rfl := hO _ rfl
    exact k_iret (v := 0) K hret dX2_found_50 (by decide) (by decide)
  · refine k_if_ne K 51 dX2_found_46 (by decide) (fun _ => ?_) (fun q => absurd q b2)
    refine k_aload_n K dX2_found_51 0 rfl ?_
    refine fg_X2_13 K dX2_found_52 ?_
    refine k_iload_n K dX2_found_55 1 rfl ?_
    refine k_iconst (v := 1) K dX2_found_56 (by decide) ?_
    replace h := k_gd h
    obtain ⟨g3, h⟩ := h
    refine k_iast K dX2_found_57 kd_127 g3 ?_
    refine k_aload_n K dX2_found_58 0 rfl ?_
    replace h := k_bd h
    obtain ⟨r4, hr4, h⟩ := h
    refine cl_X2_65 K dX2_found_59 hr4 (by decide) (Nat.le_of_ble_eq_true rfl) (by decide) ?_
    cases h
    obtain rfl := hO _ rfl
    exact k_iret K hret dX2_found_62 (by decide) (by decide)
set_option maxRecDepth 20000 in
theorem pX2_found_41 (K : kC w p s m args meth c cX2_found 2 RX2) (hret : meth.sig.returnType = (some .int)) {x1 : Int32} {t1 : Int32} {σ : kS} {r : (Int32 × kS)} {o : (Int32 × kS)} (h : fX2_found_41 x1 t1 σ = some r) (hO : ∀ z, r = z → z = o) : kG w p l e rmX2_found s m args below meth c (MQ below (kQi w o.1 o.2) args s 0 0 (kA w)) 2 σ 41 [(0, .ref (kL w 126)), (1, .int x1)] [.int t1, .ref (kL w 126)] 0 0 := by
  unfold fX2_found_41 at h
  refine k_iconst (v := 0) K dX2_found_41 (by decide) ?_
  exact pX2_found_42 K hret h hO
set_option maxRecDepth 20000 in
theorem mX2_found (l : Launch) (w : kW) (σ : kS) (x1 : Int32) {o : (Int32 × kS)} (h : fX2_found σ x1 = some o) : Met l yX2_found (Cond.code yX2_found cX2_found 2 (some .int) :: TB) rmX2_found (va_Pc [.ref (kL w 126), .int x1] (kP w σ)) (kQi w o.1 o.2) 0 0 (kA w) := by
  refine k_met (by decide +kernel) [.ref (kL w 126), .int x1] (Nat.le_of_ble_eq_true rfl) (by simp [lv_args, Value.category]) ?_
  intro p e s m args below meth c K hret
  have K : kC w p s m args meth c cX2_found 2 RX2 := K
  obtain ⟨r, hro⟩ : ∃ r, r = o := ⟨o, rfl⟩
  rw [← hro] at h
  have hO : ∀ z, r = z → z = o := fun z e => by rw [← e]; exact hro
  unfold fX2_found at h
  refine k_aload_n K dX2_found_0 0 rfl ?_
  refine k_iload_n K dX2_found_1 1 rfl ?_
  replace h := k_bd h
  obtain ⟨r1, hr1, h⟩ := h
  refine cl_X2_50 K dX2_found_2 hr1 (by decide) (Nat.le_of_ble_eq_true rfl) (by decide) ?_
  refine k_aload_n K dX2_found_5 0 rfl ?_
  refine fg_X2_54 K dX2_found_6 ?_
  replace h := k_br h
  rcases h with ⟨b2, h⟩ | ⟨b2, h⟩
  · refine k_if_ne K 41 dX2_found_9 (by decide) (fun q => absurd b2 q) (fun _ => ?_)
    refine k_iload_n K dX2_found_12 1 rfl ?_
    replace h := k_bd h
    obtain ⟨r3, hr3, h⟩ := h
    refine cl_X2_50 K dX2_found_13 hr3 (by decide) (Nat.le_of_ble_eq_true rfl) (by decide) ?_
    replace h := k_br h
    rcases h with ⟨b4, h⟩ | ⟨b4, h⟩
    · refine k_if_eq K 41 dX2_found_16 (by decide) (fun _ => ?_) (fun q => absurd b4 q)
      exact pX2_found_41 K hret h hO
    · refine k_if_eq K 41 dX2_found_16 (by decide) (fun q => absurd q b4) (fun _ => ?_)
      refine k_aload_n K dX2_found_19 0 rfl ?_
      refine fg_X2_13 K dX2_found_20 ?_
      refine k_iload_n K dX2_found_23 1 rfl ?_
      replace h := k_gd h
      obtain ⟨g5, h⟩ := h
      refine k_iald K dX2_found_24 kd_127 g5 ?_
      replace h := k_br h
      rcases h with ⟨b6, h⟩ | ⟨b6, h⟩
      · refine k_if_ne K 41 dX2_found_25 (by decide) (fun q => absurd b6 q) (fun _ => ?_)
        refine k_aload_n K dX2_found_28 0 rfl ?_
        replace h := k_bd h
        obtain ⟨r7, hr7, h⟩ := h
        refine cl_X2_65 K dX2_found_29 hr7 (by decide) (Nat.le_of_ble_eq_true rfl) (by decide) ?_
        refine k_bipush (v := 20) K dX2_found_32 (by decide) ?_
        replace h := k_br h
        rcases h with ⟨b8, h⟩ | ⟨b8, h⟩
        · refine k_icmp_ge K 41 dX2_found_34 (by decide) (fun _ => ?_) (fun q => absurd b8 q)
          exact pX2_found_41 K hret h hO
        · refine k_icmp_ge K 41 dX2_found_34 (by decide) (fun q => absurd q b8) (fun _ => ?_)
          refine k_iconst (v := 1) K dX2_found_37 (by decide) ?_
          refine k_goto K 42 dX2_found_38 (by decide) ?_
          exact pX2_found_42 K hret h hO
      · refine k_if_ne K 41 dX2_found_25 (by decide) (fun _ => ?_) (fun q => absurd q b6)
        exact pX2_found_41 K hret h hO
  · refine k_if_ne K 41 dX2_found_9 (by decide) (fun _ => ?_) (fun q => absurd q b2)
    exact pX2_found_41 K hret h hO
end F_X2_found
section F_X2_spread
variable {w : kW} {p : Program} {l : Launch} {e : Env} {s : State} {m : MethodId} {args : Array Value} {below : List Frame} {meth : Method} {c : Code}
def fX2_spread (σ : kS) (x1 : Int32) : Option (Int32 × kS) :=
  (fX2_member σ x1).bind fun r1 =>
  (fX2_goes σ r1 1 1).bind fun r2 =>
  if r2.1 = 0 then
    some ((0, r2.2))
  else
    (fX2_spreadFrom r2.2 x1).bind fun r4 =>
    some ((r4.1, r4.2))
def rmX2_spread : Room := { frames := 4, cells := 0, slots := 0, locals := 89 }
set_option maxRecDepth 20000 in
theorem mX2_spread (l : Launch) (w : kW) (σ : kS) (x1 : Int32) {o : (Int32 × kS)} (h : fX2_spread σ x1 = some o) : Met l yX2_spread (Cond.code yX2_spread cX2_spread 2 (some .int) :: TB) rmX2_spread (va_Pc [.ref (kL w 126), .int x1] (kP w σ)) (kQi w o.1 o.2) 0 0 (kA w) := by
  refine k_met (by decide +kernel) [.ref (kL w 126), .int x1] (Nat.le_of_ble_eq_true rfl) (by simp [lv_args, Value.category]) ?_
  intro p e s m args below meth c K hret
  have K : kC w p s m args meth c cX2_spread 2 RX2 := K
  obtain ⟨r, hro⟩ : ∃ r, r = o := ⟨o, rfl⟩
  rw [← hro] at h
  have hO : ∀ z, r = z → z = o := fun z e => by rw [← e]; exact hro
  unfold fX2_spread at h
  refine k_aload_n K dX2_spread_0 0 rfl ?_
  refine k_aload_n K dX2_spread_1 0 rfl ?_
  refine k_iload_n K dX2_spread_2 1 rfl ?_
  replace h := k_bd h
  obtain ⟨r1, hr1, h⟩ := h
  refine cl_X2_101 K dX2_spread_3 hr1 (by decide) (Nat.le_of_ble_eq_true rfl) (by decide) ?_
  refine k_iconst (v := 1) K dX2_spread_6 (by decide) ?_
  refine k_iconst (v := 1) K dX2_spread_7 (by decide) ?_
  replace h := k_bd h
  obtain ⟨r2, hr2, h⟩ := h
  refine cl_X2_69 K dX2_spread_8 hr2 (by decide) (Nat.le_of_ble_eq_true rfl) (by decide) ?_
  replace h := k_br h
  rcases h with ⟨b3, h⟩ | ⟨b3, h⟩
  · refine k_if_eq K 22 dX2_spread_11 (by decide) (fun _ => ?_) (fun q => absurd b3 q)
    refine k_iconst (v := 0) K dX2_spread_22 (by decide) ?_
    cases h
    obtain rfl := hO _ rfl
    exact k_iret (v := 0) K hret dX2_spread_23 (by decide) (by decide)
  · refine k_if_eq K 22 dX2_spread_11 (by decide) (fun q => absurd q b3) (fun _ => ?_)
    refine k_aload_n K dX2_spread_14 0 rfl ?_
    refine k_iload_n K dX2_spread_15 1 rfl ?_
    replace h := k_bd h
    obtain ⟨r4, hr4, h⟩ := h
    refine cl_X2_139 K dX2_spread_16 hr4 (by decide) (Nat.le_of_ble_eq_true rfl) (by decide) ?_
    refine k_goto K 23 dX2_spread_19 (by decide) ?_
    cases h
    obtain rfl := hO _ rfl
    exact k_iret (v := r4.1) K hret dX2_spread_23 (by decide) (by decide)
end F_X2_spread
section F_X2_held
variable {w : kW} {p : Program} {l : Launch} {e : Env} {s : State} {m : MethodId} {args : Array Value} {below : List Frame} {meth : Method} {c : Code}
def fX2_held_35 (x1 : Int32) (x2 : Int32) (x3 : Int32) (t1 : Int32) (t2 : Int32) (σ : kS) : Option (Int32 × kS) :=
  (fX2_goes σ t1 t2 1).bind fun r1 =>
  if r1.1 = 0 then
    some ((0, r1.2))
  else
    if x3 = 0 then
      if vpi ((64 * x1) + x2) 16384 then
        some (((r1.2).1 132 ((64 * x1) + x2).toNatClampNeg, r1.2))
      else none
    else
      if vpi ((64 * x1) + x2) 16384 then
        if ((r1.2).1 132 ((64 * x1) + x2).toNatClampNeg) = 0 then
          some (((-1), r1.2))
        else
          if x3 = 1 then
            some (((r1.2).1 133 ((64 * x1) + x2).toNatClampNeg, r1.2))
          else
            some (((r1.2).1 134 ((64 * x1) + x2).toNatClampNeg, r1.2))
      else none
def fX2_held_34 (x1 : Int32) (x2 : Int32) (x3 : Int32) (t1 : Int32) (σ : kS) : Option (Int32 × kS) :=
  fX2_held_35 x1 x2 x3 t1 0 σ
def fX2_held_21 (x1 : Int32) (x2 : Int32) (x3 : Int32) (t1 : Int32) (σ : kS) : Option (Int32 × kS) :=
  if x3 < 0 then
    fX2_held_34 x1 x2 x3 t1 σ
  else
    if 2 < x3 then
      fX2_held_34 x1 x2 x3 t1 σ
    else
      fX2_held_35 x1 x2 x3 t1 1 σ
def fX2_held_20 (x1 : Int32) (x2 : Int32) (x3 : Int32) (σ : kS) : Option (Int32 × kS) :=
  fX2_held_21 x1 x2 x3 0 σ
def fX2_held (σ : kS) (x1 : Int32) (x2 : Int32) (x3 : Int32) : Option (Int32 × kS) :=
  (fX2_member σ x1).bind fun r1 =>
  if r1 = 0 then
    fX2_held_20 x1 x2 x3 σ
  else
    (fX2_isKey x2).bind fun r3 =>
    if r3 = 0 then
      fX2_held_20 x1 x2 x3 σ
    else
      fX2_held_21 x1 x2 x3 1 σ
def rmX2_held : Room := { frames := 3, cells := 0, slots := 0, locals := 62 }
set_option maxRecDepth 20000 in
theorem pX2_held_35 (K : kC w p s m args meth c cX2_held 5 RX2) (hret : meth.sig.returnType = (some .int)) {x1 : Int32} {x2 : Int32} {x3 : Int32} {t1 : Int32} {t2 : Int32} {σ : kS} {r : (Int32 × kS)} {o : (Int32 × kS)} (h : fX2_held_35 x1 x2 x3 t1 t2 σ = some r) (hO : ∀ z, r = z → z = o) : kG w p l e rmX2_held s m args below meth c (MQ below (kQi w o.1 o.2) args s 0 0 (kA w)) 5 σ 35 [(0, .ref (kL w 126)), (1, .int x1), (2, .int x2), (3, .int x3)] [.int t2, .int t1, .ref (kL w 126)] 0 0 := by
  unfold fX2_held_35 at h
  refine k_iconst (v := 1) K dX2_held_35 (by decide) ?_
  replace h := k_bd h
  obtain ⟨r1, hr1, h⟩ := h
  refine cl_X2_69 K dX2_held_36 hr1 (by decide) (Nat.le_of_ble_eq_true rfl) (by decide) ?_
  replace h := k_br h
  rcases h with ⟨b2, h⟩ | ⟨b2, h⟩
  · refine k_if_ne K 44 dX2_held_39 (by decide) (fun q => absurd b2 q) (fun _ => ?_)
    refine k_iconst (v := 0) K dX2_held_42 (by decide) ?_
    cases h
    obtain rfl := hO _ rfl
    exact k_iret (v := 0) K hret dX2_held_43 (by decide) (by decide)
  · refine k_if_ne K 44 dX2_held_39 (by decide) (fun _ => ?_) (fun q => absurd q b2)
    refine k_bipush (v := 64) K dX2_held_44 (by decide) ?_
    refine k_iload_n K dX2_held_46 1 rfl ?_
    refine k_imul K dX2_held_47 ?_
    refine k_iload_n K dX2_held_48 2 rfl ?_
    refine k_iadd K dX2_held_49 ?_
    refine k_istore (lv' := [(4, .int ((64 * x1) + x2)), (0, .ref (kL w 126)), (1, .int x1), (2, .int x2), (3, .int x3)]) K dX2_held_50 (by decide) rfl ?_
    refine k_iload_n K dX2_held_52 4 rfl ?_
    replace h := k_br h
    rcases h with ⟨b3, h⟩ | ⟨b3, h⟩
    · refine k_if_ne K 66 dX2_held_53 (by decide) (fun q => absurd b3 q) (fun _ => ?_)
      refine k_aload_n K dX2_held_56 1 rfl ?_
      refine fg_X2_29 K dX2_held_57 ?_
      refine k_iload K dX2_held_60 0 rfl ?_
      replace h := k_gd h
      obtain ⟨g4, h⟩ := h
      refine k_iald K dX2_held_62 kd_132 g4 ?_
      refine k_goto K 102 dX2_held_63 (by decide) ?_
      cases h
      obtain rfl := hO _ rfl
      exact k_iret (v := (r1.2).1 132 ((64 * x1) + x2).toNatClampNeg) K hret dX2_held_102 (by decide) (by decide)
    · refine k_if_ne K 66 dX2_held_53 (by decide) (fun _ => ?_) (fun q => absurd q b3)
      refine k_aload_n K dX2_held_66 1 rfl ?_
      refine fg_X2_29 K dX2_held_67 ?_
      refine k_iload K dX2_held_70 0 rfl ?_
      replace h := k_gd h
      obtain ⟨g5, h⟩ := h
      refine k_iald K dX2_held_72 kd_132 g5 ?_
      replace h := k_br h
      rcases h with ⟨b6, h⟩ | ⟨b6, h⟩
      · refine k_if_ne K 80 dX2_held_73 (by decide) (fun q => absurd b6 q) (fun _ => ?_)
        refine k_iconst (v := (-1)) K dX2_held_76 (by decide) ?_
        refine k_goto K 102 dX2_held_77 (by decide) ?_
        cases h
        obtain rfl := hO _ rfl
        exact k_iret (v := (-1)) K hret dX2_held_102 (by decide) (by decide)
      · refine k_if_ne K 80 dX2_held_73 (by decide) (fun _ => ?_) (fun q => absurd q b6)
        refine k_iload_n K dX2_held_80 4 rfl ?_
        refine k_iconst (v := 1) K dX2_held_81 (by decide) ?_
        replace h := k_br h
        rcases h with ⟨b7, h⟩ | ⟨b7, h⟩
        · refine k_icmp_ne K 95 dX2_held_82 (by decide) (fun q => absurd b7 q) (fun _ => ?_)
          refine k_aload_n K dX2_held_85 1 rfl ?_
          refine fg_X2_32 K dX2_held_86 ?_
          refine k_iload K dX2_held_89 0 rfl ?_
          refine k_iald K dX2_held_91 kd_133 g5 ?_
          refine k_goto K 102 dX2_held_92 (by decide) ?_
          cases h
          obtain rfl := hO _ rfl
          exact k_iret (v := (r1.2).1 133 ((64 * x1) + x2).toNatClampNeg) K hret dX2_held_102 (by decide) (by decide)
        · refine k_icmp_ne K 95 dX2_held_82 (by decide) (fun _ => ?_) (fun q => absurd q b7)
          refine k_aload_n K dX2_held_95 1 rfl ?_
          refine fg_X2_35 K dX2_held_96 ?_
          refine k_iload K dX2_held_99 0 rfl ?_
          refine k_iald K dX2_held_101 kd_134 g5 ?_
          cases h
          obtain rfl := hO _ rfl
          exact k_iret (v := (r1.2).1 134 ((64 * x1) + x2).toNatClampNeg) K hret dX2_held_102 (by decide) (by decide)
set_option maxRecDepth 20000 in
theorem pX2_held_34 (K : kC w p s m args meth c cX2_held 5 RX2) (hret : meth.sig.returnType = (some .int)) {x1 : Int32} {x2 : Int32} {x3 : Int32} {t1 : Int32} {σ : kS} {r : (Int32 × kS)} {o : (Int32 × kS)} (h : fX2_held_34 x1 x2 x3 t1 σ = some r) (hO : ∀ z, r = z → z = o) : kG w p l e rmX2_held s m args below meth c (MQ below (kQi w o.1 o.2) args s 0 0 (kA w)) 5 σ 34 [(0, .ref (kL w 126)), (1, .int x1), (2, .int x2), (3, .int x3)] [.int t1, .ref (kL w 126)] 0 0 := by
  unfold fX2_held_34 at h
  refine k_iconst (v := 0) K dX2_held_34 (by decide) ?_
  exact pX2_held_35 K hret h hO
set_option maxRecDepth 20000 in
theorem pX2_held_21 (K : kC w p s m args meth c cX2_held 5 RX2) (hret : meth.sig.returnType = (some .int)) {x1 : Int32} {x2 : Int32} {x3 : Int32} {t1 : Int32} {σ : kS} {r : (Int32 × kS)} {o : (Int32 × kS)} (h : fX2_held_21 x1 x2 x3 t1 σ = some r) (hO : ∀ z, r = z → z = o) : kG w p l e rmX2_held s m args below meth c (MQ below (kQi w o.1 o.2) args s 0 0 (kA w)) 5 σ 21 [(0, .ref (kL w 126)), (1, .int x1), (2, .int x2), (3, .int x3)] [.int t1, .ref (kL w 126)] 0 0 := by
  unfold fX2_held_21 at h
  refine k_iload_n K dX2_held_21 3 rfl ?_
  replace h := k_br h
  rcases h with ⟨b1, h⟩ | ⟨b1, h⟩
  · refine k_if_lt K 34 dX2_held_22 (by decide) (fun _ => ?_) (fun q => absurd b1 q)
    exact pX2_held_34 K hret h hO
  · refine k_if_lt K 34 dX2_held_22 (by decide) (fun q => absurd q b1) (fun _ => ?_)
    refine k_iload_n K dX2_held_25 3 rfl ?_
    refine k_iconst (v := 2) K dX2_held_26 (by decide) ?_
    replace h := k_br h
    rcases h with ⟨b2, h⟩ | ⟨b2, h⟩
    · refine k_icmp_gt K 34 dX2_held_27 (by decide) (fun _ => ?_) (fun q => absurd b2 q)
      exact pX2_held_34 K hret h hO
    · refine k_icmp_gt K 34 dX2_held_27 (by decide) (fun q => absurd q b2) (fun _ => ?_)
      refine k_iconst (v := 1) K dX2_held_30 (by decide) ?_
      refine k_goto K 35 dX2_held_31 (by decide) ?_
      exact pX2_held_35 K hret h hO
set_option maxRecDepth 20000 in
theorem pX2_held_20 (K : kC w p s m args meth c cX2_held 5 RX2) (hret : meth.sig.returnType = (some .int)) {x1 : Int32} {x2 : Int32} {x3 : Int32} {σ : kS} {r : (Int32 × kS)} {o : (Int32 × kS)} (h : fX2_held_20 x1 x2 x3 σ = some r) (hO : ∀ z, r = z → z = o) : kG w p l e rmX2_held s m args below meth c (MQ below (kQi w o.1 o.2) args s 0 0 (kA w)) 5 σ 20 [(0, .ref (kL w 126)), (1, .int x1), (2, .int x2), (3, .int x3)] [.ref (kL w 126)] 0 0 := by
  unfold fX2_held_20 at h
  refine k_iconst (v := 0) K dX2_held_20 (by decide) ?_
  exact pX2_held_21 K hret h hO
set_option maxRecDepth 20000 in
theorem mX2_held (l : Launch) (w : kW) (σ : kS) (x1 : Int32) (x2 : Int32) (x3 : Int32) {o : (Int32 × kS)} (h : fX2_held σ x1 x2 x3 = some o) : Met l yX2_held (Cond.code yX2_held cX2_held 5 (some .int) :: TB) rmX2_held (va_Pc [.ref (kL w 126), .int x1, .int x2, .int x3] (kP w σ)) (kQi w o.1 o.2) 0 0 (kA w) := by
  refine k_met (by decide +kernel) [.ref (kL w 126), .int x1, .int x2, .int x3] (Nat.le_of_ble_eq_true rfl) (by simp [lv_args, Value.category]) ?_
  intro p e s m args below meth c K hret
  have K : kC w p s m args meth c cX2_held 5 RX2 := K
  obtain ⟨r, hro⟩ : ∃ r, r = o := ⟨o, rfl⟩
  rw [← hro] at h
  have hO : ∀ z, r = z → z = o := fun z e => by rw [← e]; exact hro
  unfold fX2_held at h
  refine k_aload_n K dX2_held_0 0 rfl ?_
  refine k_aload_n K dX2_held_1 0 rfl ?_
  refine k_iload_n K dX2_held_2 1 rfl ?_
  replace h := k_bd h
  obtain ⟨r1, hr1, h⟩ := h
  refine cl_X2_101 K dX2_held_3 hr1 (by decide) (Nat.le_of_ble_eq_true rfl) (by decide) ?_
  replace h := k_br h
  rcases h with ⟨b2, h⟩ | ⟨b2, h⟩
  · refine k_if_eq K 20 dX2_held_6 (by decide) (fun _ => ?_) (fun q => absurd b2 q)
    exact pX2_held_20 K hret h hO
  · refine k_if_eq K 20 dX2_held_6 (by decide) (fun q => absurd q b2) (fun _ => ?_)
    refine k_iload_n K dX2_held_9 2 rfl ?_
    replace h := k_bd h
    obtain ⟨r3, hr3, h⟩ := h
    refine cl_X2_145 K dX2_held_10 hr3 (by decide) (Nat.le_of_ble_eq_true rfl) (by decide) ?_
    replace h := k_br h
    rcases h with ⟨b4, h⟩ | ⟨b4, h⟩
    · refine k_if_eq K 20 dX2_held_13 (by decide) (fun _ => ?_) (fun q => absurd b4 q)
      exact pX2_held_20 K hret h hO
    · refine k_if_eq K 20 dX2_held_13 (by decide) (fun q => absurd q b4) (fun _ => ?_)
      refine k_iconst (v := 1) K dX2_held_16 (by decide) ?_
      refine k_goto K 21 dX2_held_17 (by decide) ?_
      exact pX2_held_21 K hret h hO
end F_X2_held
section F_X2_depth
variable {w : kW} {p : Program} {l : Launch} {e : Env} {s : State} {m : MethodId} {args : Array Value} {below : List Frame} {meth : Method} {c : Code}
def fX2_depth_35 (x1 : Int32) (t1 : Int32) (t2 : Int32) (σ : kS) : Option (Int32 × kS) :=
  (fX2_goes σ t1 t2 1).bind fun r1 =>
  if r1.1 = 0 then
    some ((0, r1.2))
  else
    some (((r1.2).1 126 1, sI r1.2 126 1 x1))
def fX2_depth_34 (x1 : Int32) (t1 : Int32) (σ : kS) : Option (Int32 × kS) :=
  fX2_depth_35 x1 t1 0 σ
def fX2_depth_16 (x1 : Int32) (t1 : Int32) (σ : kS) : Option (Int32 × kS) :=
  if (σ.1 126 2) = 0 then
    (fX2_many σ).bind fun r2 =>
    if r2 = 0 then
      fX2_depth_35 x1 t1 1 σ
    else
      fX2_depth_34 x1 t1 σ
  else
    fX2_depth_34 x1 t1 σ
def fX2_depth_15 (x1 : Int32) (σ : kS) : Option (Int32 × kS) :=
  fX2_depth_16 x1 0 σ
def fX2_depth (σ : kS) (x1 : Int32) : Option (Int32 × kS) :=
  if x1 < 2 then
    fX2_depth_15 x1 σ
  else
    if 4 < x1 then
      fX2_depth_15 x1 σ
    else
      fX2_depth_16 x1 1 σ
def rmX2_depth : Room := { frames := 1, cells := 0, slots := 0, locals := 23 }
set_option maxRecDepth 20000 in
theorem pX2_depth_35 (K : kC w p s m args meth c cX2_depth 3 RX2) (hret : meth.sig.returnType = (some .int)) {x1 : Int32} {t1 : Int32} {t2 : Int32} {σ : kS} {r : (Int32 × kS)} {o : (Int32 × kS)} (h : fX2_depth_35 x1 t1 t2 σ = some r) (hO : ∀ z, r = z → z = o) : kG w p l e rmX2_depth s m args below meth c (MQ below (kQi w o.1 o.2) args s 0 0 (kA w)) 3 σ 35 [(0, .ref (kL w 126)), (1, .int x1)] [.int t2, .int t1, .ref (kL w 126)] 0 0 := by
  unfold fX2_depth_35 at h
  refine k_iconst (v := 1) K dX2_depth_35 (by decide) ?_
  replace h := k_bd h
  obtain ⟨r1, hr1, h⟩ := h
  refine cl_X2_69 K dX2_depth_36 hr1 (by decide) (Nat.le_of_ble_eq_true rfl) (by decide) ?_
  replace h := k_br h
  rcases h with ⟨b2, h⟩ | ⟨b2, h⟩
  · refine k_if_ne K 44 dX2_depth_39 (by decide) (fun q => absurd b2 q) (fun _ => ?_)
    refine k_iconst (v := 0) K dX2_depth_42 (by decide) ?_
    cases h
    obtain rfl := hO _ rfl
    exact k_iret (v := 0) K hret dX2_depth_43 (by decide) (by decide)
  · refine k_if_ne K 44 dX2_depth_39 (by decide) (fun _ => ?_) (fun q => absurd q b2)
    refine k_aload_n K dX2_depth_44 0 rfl ?_
    refine fg_X2_7 K dX2_depth_45 ?_
    refine k_istore_n (lv' := [(2, .int ((r1.2).1 126 1)), (0, .ref (kL w 126)), (1, .int x1)]) K dX2_depth_48 (by decide) rfl ?_
    refine k_aload_n K dX2_depth_49 1 rfl ?_
    refine k_iload_n K dX2_depth_50 2 rfl ?_
    refine fp_X2_7 K dX2_depth_51 ?_
    refine k_iload_n K dX2_depth_54 0 rfl ?_
    cases h
    obtain rfl := hO _ rfl
    exact k_iret (v := (r1.2).1 126 1) K hret dX2_depth_55 (by decide) (by decide)
set_option maxRecDepth 20000 in
theorem pX2_depth_34 (K : kC w p s m args meth c cX2_depth 3 RX2) (hret : meth.sig.returnType = (some .int)) {x1 : Int32} {t1 : Int32} {σ : kS} {r : (Int32 × kS)} {o : (Int32 × kS)} (h : fX2_depth_34 x1 t1 σ = some r) (hO : ∀ z, r = z → z = o) : kG w p l e rmX2_depth s m args below meth c (MQ below (kQi w o.1 o.2) args s 0 0 (kA w)) 3 σ 34 [(0, .ref (kL w 126)), (1, .int x1)] [.int t1, .ref (kL w 126)] 0 0 := by
  unfold fX2_depth_34 at h
  refine k_iconst (v := 0) K dX2_depth_34 (by decide) ?_
  exact pX2_depth_35 K hret h hO
set_option maxRecDepth 20000 in
theorem pX2_depth_16 (K : kC w p s m args meth c cX2_depth 3 RX2) (hret : meth.sig.returnType = (some .int)) {x1 : Int32} {t1 : Int32} {σ : kS} {r : (Int32 × kS)} {o : (Int32 × kS)} (h : fX2_depth_16 x1 t1 σ = some r) (hO : ∀ z, r = z → z = o) : kG w p l e rmX2_depth s m args below meth c (MQ below (kQi w o.1 o.2) args s 0 0 (kA w)) 3 σ 16 [(0, .ref (kL w 126)), (1, .int x1)] [.int t1, .ref (kL w 126)] 0 0 := by
  unfold fX2_depth_16 at h
  refine k_aload_n K dX2_depth_16 0 rfl ?_
  refine fg_X2_54 K dX2_depth_17 ?_
  replace h := k_br h
  rcases h with ⟨b1, h⟩ | ⟨b1, h⟩
  · refine k_if_ne K 34 dX2_depth_20 (by decide) (fun q => absurd b1 q) (fun _ => ?_)
    refine k_aload_n K dX2_depth_23 0 rfl ?_
    replace h := k_bd h
    obtain ⟨r2, hr2, h⟩ := h
    refine cl_X2_65 K dX2_depth_24 hr2 (by decide) (Nat.le_of_ble_eq_true rfl) (by decide) ?_
    replace h := k_br h
    rcases h with ⟨b3, h⟩ | ⟨b3, h⟩
    · refine k_if_ne K 34 dX2_depth_27 (by decide) (fun q => absurd b3 q) (fun _ => ?_)
      refine k_iconst (v := 1) K dX2_depth_30 (by decide) ?_
      refine k_goto K 35 dX2_depth_31 (by decide) ?_
      exact pX2_depth_35 K hret h hO
    · refine k_if_ne K 34 dX2_depth_27 (by decide) (fun _ => ?_) (fun q => absurd q b3)
      exact pX2_depth_34 K hret h hO
  · refine k_if_ne K 34 dX2_depth_20 (by decide) (fun _ => ?_) (fun q => absurd q b1)
    exact pX2_depth_34 K hret h hO
set_option maxRecDepth 20000 in
theorem pX2_depth_15 (K : kC w p s m args meth c cX2_depth 3 RX2) (hret : meth.sig.returnType = (some .int)) {x1 : Int32} {σ : kS} {r : (Int32 × kS)} {o : (Int32 × kS)} (h : fX2_depth_15 x1 σ = some r) (hO : ∀ z, r = z → z = o) : kG w p l e rmX2_depth s m args below meth c (MQ below (kQi w o.1 o.2) args s 0 0 (kA w)) 3 σ 15 [(0, .ref (kL w 126)), (1, .int x1)] [.ref (kL w 126)] 0 0 := by
  unfold fX2_depth_15 at h
  refine k_iconst (v := 0) K dX2_depth_15 (by decide) ?_
  exact pX2_depth_16 K hret h hO
set_option maxRecDepth 20000 in
theorem mX2_depth (l : Launch) (w : kW) (σ : kS) (x1 : Int32) {o : (Int32 × kS)} (h : fX2_depth σ x1 = some o) : Met l yX2_depth (Cond.code yX2_depth cX2_depth 3 (some .int) :: TB) rmX2_depth (va_Pc [.ref (kL w 126), .int x1] (kP w σ)) (kQi w o.1 o.2) 0 0 (kA w) := by
  refine k_met (by decide +kernel) [.ref (kL w 126), .int x1] (Nat.le_of_ble_eq_true rfl) (by simp [lv_args, Value.category]) ?_
  intro p e s m args below meth c K hret
  have K : kC w p s m args meth c cX2_depth 3 RX2 := K
  obtain ⟨r, hro⟩ : ∃ r, r = o := ⟨o, rfl⟩
  rw [← hro] at h
  have hO : ∀ z, r = z → z = o := fun z e => by rw [← e]; exact hro
  unfold fX2_depth at h
  refine k_aload_n K dX2_depth_0 0 rfl ?_
  refine k_iload_n K dX2_depth_1 1 rfl ?_
  refine k_iconst (v := 2) K dX2_depth_2 (by decide) ?_
  replace h := k_br h
  rcases h with ⟨b1, h⟩ | ⟨b1, h⟩
  · refine k_icmp_lt K 15 dX2_depth_3 (by decide) (fun _ => ?_) (fun q => absurd b1 q)
    exact pX2_depth_15 K hret h hO
  · refine k_icmp_lt K 15 dX2_depth_3 (by decide) (fun q => absurd q b1) (fun _ => ?_)
    refine k_iload_n K dX2_depth_6 1 rfl ?_
    refine k_iconst (v := 4) K dX2_depth_7 (by decide) ?_
    replace h := k_br h
    rcases h with ⟨b2, h⟩ | ⟨b2, h⟩
    · refine k_icmp_gt K 15 dX2_depth_8 (by decide) (fun _ => ?_) (fun q => absurd b2 q)
      exact pX2_depth_15 K hret h hO
    · refine k_icmp_gt K 15 dX2_depth_8 (by decide) (fun q => absurd q b2) (fun _ => ?_)
      refine k_iconst (v := 1) K dX2_depth_11 (by decide) ?_
      refine k_goto K 16 dX2_depth_12 (by decide) ?_
      exact pX2_depth_16 K hret h hO
end F_X2_depth
