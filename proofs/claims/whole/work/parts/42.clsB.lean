section F_X1_depth
variable {w : kW} {p : Program} {l : Launch} {e : Env} {s : State} {m : MethodId} {args : Array Value} {below : List Frame} {meth : Method} {c : Code}
def fX1_depth_10 (σ : kS) : Option ((String ⊕ Int32) × kS) :=
  some ((.inl "java/lang/IllegalArgumentException", σ))
def fX1_depth (σ : kS) (x1 : Int32) : Option ((String ⊕ Int32) × kS) :=
  if x1 < 2 then
    fX1_depth_10 σ
  else
    if x1 ≤ 4 then
      if (σ.1 0 9) ≤ 0 then
        some ((.inr (σ.1 0 7), sI σ 0 7 x1))
      else
        some ((.inl "java/lang/IllegalStateException", σ))
    else
      fX1_depth_10 σ
def rmX1_depth : Room := { frames := 6, cells := 1, slots := 6, locals := 90 }
set_option maxRecDepth 20000 in
theorem pX1_depth_10 (K : kC w p s m args meth c cX1_depth 3 RX1) (KX : kX w l s) (hret : meth.sig.returnType = (some .int)) (hex : ∀ x ∈ c.exceptionTable.toList, False) {σ : kS} {r : ((String ⊕ Int32) × kS)} {o : ((String ⊕ Int32) × kS)} (h : fX1_depth_10 σ = some r) (hO : ∀ z, r = z → z = o) : kG w p l e rmX1_depth s m args below meth c (vx_MQ below (kXi w o.1 o.2) (kXX w o.1 o.2) args s 1 6 (kA w)) 3 σ 10 [] [] 0 0 := by
  unfold fX1_depth_10 at h
  cases h
  obtain rfl := hO _ rfl
  exact th_X1_34_36 K KX dX1_depth_10 dX1_depth_13 dX1_depth_14 dX1_depth_16 dX1_depth_19 hex (by decide) (by decide) (by decide) (by decide) (by decide) (by decide)
set_option maxRecDepth 20000 in
theorem mX1_depth (l : Launch) (w : kW) (σ : kS) (x1 : Int32) {o : ((String ⊕ Int32) × kS)} (h : fX1_depth σ x1 = some o) : vx_Met l yX1_depth (Cond.code yX1_depth cX1_depth 3 (some .int) :: TB) rmX1_depth (va_Pc [.ref (kL w 0), .int x1] (kPX w l σ)) (kXi w o.1 o.2) (kXX w o.1 o.2) 1 6 (kA w) := by
  refine k_metX (by decide) [.ref (kL w 0), .int x1] (Nat.le_of_ble_eq_true rfl) (by simp [lv_args, Value.category]) ?_
  intro p e s m args below meth c K KX hret hex
  have K : kC w p s m args meth c cX1_depth 3 RX1 := K
  obtain ⟨r, hro⟩ : ∃ r, r = o := ⟨o, rfl⟩
  rw [← hro] at h
  have hO : ∀ z, r = z → z = o := fun z e => by rw [← e]; exact hro
  unfold fX1_depth at h
  refine k_iload_n K dX1_depth_0 1 rfl ?_
  refine k_iconst (v := 2) K dX1_depth_1 (by decide) ?_
  replace h := k_br h
  rcases h with ⟨b1, h⟩ | ⟨b1, h⟩
  · refine k_icmp_lt K 10 dX1_depth_2 (by decide) (fun _ => ?_) (fun q => absurd b1 q)
    refine k_sub [] rfl ?_
    exact pX1_depth_10 K KX hret hex h hO
  · refine k_icmp_lt K 10 dX1_depth_2 (by decide) (fun q => absurd q b1) (fun _ => ?_)
    refine k_iload_n K dX1_depth_5 1 rfl ?_
    refine k_iconst (v := 4) K dX1_depth_6 (by decide) ?_
    replace h := k_br h
    rcases h with ⟨b2, h⟩ | ⟨b2, h⟩
    · refine k_icmp_le K 20 dX1_depth_7 (by decide) (fun _ => ?_) (fun q => absurd b2 q)
      refine k_aload_n K dX1_depth_20 0 rfl ?_
      refine fg_X1_41 K dX1_depth_21 ?_
      replace h := k_br h
      rcases h with ⟨b3, h⟩ | ⟨b3, h⟩
      · refine k_if_le K 37 dX1_depth_24 (by decide) (fun _ => ?_) (fun q => absurd b3 q)
        refine k_aload_n K dX1_depth_37 0 rfl ?_
        refine fg_X1_30 K dX1_depth_38 ?_
        refine k_istore_n (lv' := [(2, .int (σ.1 0 7)), (0, .ref (kL w 0)), (1, .int x1)]) K dX1_depth_41 (by decide) rfl ?_
        refine k_aload_n K dX1_depth_42 1 rfl ?_
        refine k_iload_n K dX1_depth_43 2 rfl ?_
        refine fp_X1_30 K dX1_depth_44 ?_
        refine k_iload_n K dX1_depth_47 0 rfl ?_
        cases h
        obtain rfl := hO _ rfl
        exact k_iretX (v := σ.1 0 7) K hret dX1_depth_48 (by decide) (by decide)
      · refine k_if_le K 37 dX1_depth_24 (by decide) (fun q => absurd q b3) (fun _ => ?_)
        cases h
        obtain rfl := hO _ rfl
        exact th_X1_44_46 K KX dX1_depth_27 dX1_depth_30 dX1_depth_31 dX1_depth_33 dX1_depth_36 hex (by decide) (by decide) (by decide) (by decide) (by decide) (by decide)
    · refine k_icmp_le K 20 dX1_depth_7 (by decide) (fun q => absurd q b2) (fun _ => ?_)
      refine k_sub [] rfl ?_
      exact pX1_depth_10 K KX hret hex h hO
end F_X1_depth
section F_X1_requirePoint
variable {w : kW} {p : Program} {l : Launch} {e : Env} {s : State} {m : MethodId} {args : Array Value} {below : List Frame} {meth : Method} {c : Code}
def fX1_requirePoint (x0 : Int32) : Option (String ⊕ Unit) :=
  (fX1_isPoint x0).bind fun r1 =>
  if r1 = 0 then
    some (.inl "java/lang/IllegalArgumentException")
  else
    some (.inr ())
def rmX1_requirePoint : Room := { frames := 6, cells := 1, slots := 6, locals := 90 }
set_option maxRecDepth 20000 in
theorem mX1_requirePoint (l : Launch) (w : kW) (σ0 : kS) (x0 : Int32) {o : (String ⊕ Unit)} (h : fX1_requirePoint x0 = some o) : vx_Met l yX1_requirePoint (Cond.code yX1_requirePoint cX1_requirePoint 1 none :: TB) rmX1_requirePoint (va_Pc [.int x0] (kPX w l σ0)) (kXv w o σ0) (kXX w o σ0) 1 6 (kA w) := by
  refine k_metX (by decide) [.int x0] (Nat.le_of_ble_eq_true rfl) (by simp [lv_args, Value.category]) ?_
  intro p e s m args below meth c K KX hret hex
  have K : kC w p s m args meth c cX1_requirePoint 1 RX1 := K
  obtain ⟨r, hro⟩ : ∃ r, r = o := ⟨o, rfl⟩
  rw [← hro] at h
  have hO : ∀ z, r = z → z = o := fun z e => by rw [← e]; exact hro
  unfold fX1_requirePoint at h
  refine k_iload_n K dX1_requirePoint_0 0 rfl ?_
  replace h := k_bd h
  obtain ⟨r1, hr1, h⟩ := h
  refine cl_X1_211 K dX1_requirePoint_1 hr1 (by decide) (Nat.le_of_ble_eq_true rfl) (by decide) ?_
  replace h := k_br h
  rcases h with ⟨b2, h⟩ | ⟨b2, h⟩
  · refine k_if_ne K 17 dX1_requirePoint_4 (by decide) (fun q => absurd b2 q) (fun _ => ?_)
    cases h
    obtain rfl := hO _ rfl
    exact th_X1_34_214 K KX dX1_requirePoint_7 dX1_requirePoint_10 dX1_requirePoint_11 dX1_requirePoint_13 dX1_requirePoint_16 hex (by decide) (by decide) (by decide) (by decide) (by decide) (by decide)
  · refine k_if_ne K 17 dX1_requirePoint_4 (by decide) (fun _ => ?_) (fun q => absurd q b2)
    cases h
    obtain rfl := hO _ rfl
    exact k_vretX K hret dX1_requirePoint_17 (by decide) (by decide)
end F_X1_requirePoint
section C_X1_requirePoint
variable {w : kW} {p : Program} {l : Launch} {e : Env} {R : Room} {s : State} {m : MethodId} {args : Array Value} {below : List Frame} {meth : Method} {c : Code} {Q : State → Prop} {cc : ByteArray} {nL : Nat} {σ : kS} {pc : Nat} {lv : List (Nat × Value)} {st rest : List Value} {cells slots : Nat}
theorem clX_X1_49 (K : kC w p s m args meth c cc nL RX1) (KX : kX w l s) (hex : ∀ x ∈ c.exceptionTable.toList, False) {a1 : Int32} {r : (String ⊕ Unit)} {v : Unit} (d : decode cc pc = .ok (.invokestatic 49, 3)) (h : fX1_requirePoint a1 = some r) (he : r = .inr v) (hR : rmX1_requirePoint.frames + 1 ≤ R.frames ∧ 8 + (1 + 11) + rmX1_requirePoint.locals ≤ R.locals) (hr : (rest.map fun v => v.category).sum ≤ 8) (hf : cells + 1 ≤ R.cells ∧ slots + 6 ≤ R.slots) (kk : kG w p l e R s m args below meth c Q nL σ (pc + 3) lv (rest) (cells + 1) (slots + 6)) : kG w p l e R s m args below meth c Q nL σ pc lv (.int a1 :: rest) cells slots :=
  k_callSvX (As := [.int a1]) (rest := rest) (n := 1) K KX d (kg_S tw_262 tw_263 tw_48 tw_264) (by decide +kernel) rfl hR hr rfl hf (mX1_requirePoint l w σ a1 h) ⟨rfl, rfl⟩ (fun E ho => absurd (ho.symm.trans he) (by simp)) (fun v2 ho => by have e9 := Sum.inr.inj (ho.symm.trans he); subst e9; exact kk)
theorem clE_X1_49 {ρ : Type} {Qc : Array Value → State → Outcome → State → Prop} {mc ms : Nat} (K : kC w p s m args meth c cc nL RX1) (KX : kX w l s) (hex : ∀ x ∈ c.exceptionTable.toList, False) {a1 : Int32} {r : (String ⊕ Unit)} {E : String} (d : decode cc pc = .ok (.invokestatic 49, 3)) (h : fX1_requirePoint a1 = some r) (he : r = .inl E) (hR : rmX1_requirePoint.frames + 1 ≤ R.frames ∧ 8 + (1 + 11) + rmX1_requirePoint.locals ≤ R.locals) (hr : (rest.map fun v => v.category).sum ≤ 8) (hf : cells + 1 ≤ R.cells ∧ slots + 6 ≤ R.slots) (hc : cells + 1 ≤ mc) (hs : slots + 6 ≤ ms) : kG w p l e R s m args below meth c (vx_MQ below Qc (kXX w (.inl E : String ⊕ ρ) σ) args s mc ms (kA w)) nL σ pc lv (.int a1 :: rest) cells slots :=
  k_callSvX (As := [.int a1]) (rest := rest) (n := 1) K KX d (kg_S tw_262 tw_263 tw_48 tw_264) (by decide +kernel) rfl hR hr rfl hf (mX1_requirePoint l w σ a1 h) ⟨rfl, rfl⟩ (fun E2 ho => by have e9 := Sum.inl.inj (ho.symm.trans he); subst e9; exact k_outX K hex hc hs) (fun v2 ho => absurd (ho.symm.trans he) (by simp))
end C_X1_requirePoint
section F_X1_requireRoomAt
variable {w : kW} {p : Program} {l : Launch} {e : Env} {s : State} {m : MethodId} {args : Array Value} {below : List Frame} {meth : Method} {c : Code}
def fX1_requireRoomAt (σ : kS) (x1 : Int32) : Option (String ⊕ Unit) :=
  if vpi x1 256 then
    if (σ.1 123 x1.toNatClampNeg) = 0 then
      if (σ.1 0 9) < 20 then
        some (.inr ())
      else
        some (.inl "java/lang/IllegalStateException")
    else
      some (.inl "java/lang/IllegalStateException")
  else none
def rmX1_requireRoomAt : Room := { frames := 6, cells := 1, slots := 6, locals := 90 }
set_option maxRecDepth 20000 in
theorem mX1_requireRoomAt (l : Launch) (w : kW) (σ : kS) (x1 : Int32) {o : (String ⊕ Unit)} (h : fX1_requireRoomAt σ x1 = some o) : vx_Met l yX1_requireRoomAt (Cond.code yX1_requireRoomAt cX1_requireRoomAt 2 none :: TB) rmX1_requireRoomAt (va_Pc [.ref (kL w 0), .int x1] (kPX w l σ)) (kXv w o σ) (kXX w o σ) 1 6 (kA w) := by
  refine k_metX (by decide) [.ref (kL w 0), .int x1] (Nat.le_of_ble_eq_true rfl) (by simp [lv_args, Value.category]) ?_
  intro p e s m args below meth c K KX hret hex
  have K : kC w p s m args meth c cX1_requireRoomAt 2 RX1 := K
  obtain ⟨r, hro⟩ : ∃ r, r = o := ⟨o, rfl⟩
  rw [← hro] at h
  have hO : ∀ z, r = z → z = o := fun z e => by rw [← e]; exact hro
  unfold fX1_requireRoomAt at h
  refine k_aload_n K dX1_requireRoomAt_0 0 rfl ?_
  refine fg_X1_19 K dX1_requireRoomAt_1 ?_
  refine k_iload_n K dX1_requireRoomAt_4 1 rfl ?_
  replace h := k_gd h
  obtain ⟨g1, h⟩ := h
  refine k_zald K dX1_requireRoomAt_5 kd_123 g1 ?_
  replace h := k_br h
  rcases h with ⟨b2, h⟩ | ⟨b2, h⟩
  · refine k_if_eq K 19 dX1_requireRoomAt_6 (by decide) (fun _ => ?_) (fun q => absurd b2 q)
    refine k_aload_n K dX1_requireRoomAt_19 0 rfl ?_
    refine fg_X1_41 K dX1_requireRoomAt_20 ?_
    refine k_bipush (v := 20) K dX1_requireRoomAt_23 (by decide) ?_
    replace h := k_br h
    rcases h with ⟨b3, h⟩ | ⟨b3, h⟩
    · refine k_icmp_lt K 38 dX1_requireRoomAt_25 (by decide) (fun _ => ?_) (fun q => absurd b3 q)
      cases h
      obtain rfl := hO _ rfl
      exact k_vretX K hret dX1_requireRoomAt_38 (by decide) (by decide)
    · refine k_icmp_lt K 38 dX1_requireRoomAt_25 (by decide) (fun q => absurd q b3) (fun _ => ?_)
      cases h
      obtain rfl := hO _ rfl
      exact th_X1_44_218 K KX dX1_requireRoomAt_28 dX1_requireRoomAt_31 dX1_requireRoomAt_32 dX1_requireRoomAt_34 dX1_requireRoomAt_37 hex (by decide) (by decide) (by decide) (by decide) (by decide) (by decide)
  · refine k_if_eq K 19 dX1_requireRoomAt_6 (by decide) (fun q => absurd q b2) (fun _ => ?_)
    cases h
    obtain rfl := hO _ rfl
    exact th_X1_44_216 K KX dX1_requireRoomAt_9 dX1_requireRoomAt_12 dX1_requireRoomAt_13 dX1_requireRoomAt_15 dX1_requireRoomAt_18 hex (by decide) (by decide) (by decide) (by decide) (by decide) (by decide)
end F_X1_requireRoomAt
section C_X1_requireRoomAt
variable {w : kW} {p : Program} {l : Launch} {e : Env} {R : Room} {s : State} {m : MethodId} {args : Array Value} {below : List Frame} {meth : Method} {c : Code} {Q : State → Prop} {cc : ByteArray} {nL : Nat} {σ : kS} {pc : Nat} {lv : List (Nat × Value)} {st rest : List Value} {cells slots : Nat}
theorem clX_X1_59 (K : kC w p s m args meth c cc nL RX1) (KX : kX w l s) (hex : ∀ x ∈ c.exceptionTable.toList, False) {a1 : Int32} {r : (String ⊕ Unit)} {v : Unit} (d : decode cc pc = .ok (.invokevirtual 59, 3)) (h : fX1_requireRoomAt σ a1 = some r) (he : r = .inr v) (hR : rmX1_requireRoomAt.frames + 1 ≤ R.frames ∧ 8 + (2 + 11) + rmX1_requireRoomAt.locals ≤ R.locals) (hr : (rest.map fun v => v.category).sum ≤ 8) (hf : cells + 1 ≤ R.cells ∧ slots + 6 ≤ R.slots) (kk : kG w p l e R s m args below meth c Q nL σ (pc + 3) lv (rest) (cells + 1) (slots + 6)) : kG w p l e R s m args below meth c Q nL σ pc lv (.int a1 :: .ref (kL w 0) :: rest) cells slots :=
  k_callVvX (As := [.int a1]) (rest := rest) (n := 1) (C := RX1) (T := TX1) K KX d kd_0 rfl (kg_V tw_270 tw_272 tw_3 tw_48 tw_273) rfl (by decide +kernel) rfl hR hr rfl hf (mX1_requireRoomAt l w σ a1 h) ⟨rfl, rfl⟩ (fun E ho => absurd (ho.symm.trans he) (by simp)) (fun v2 ho => by have e9 := Sum.inr.inj (ho.symm.trans he); subst e9; exact kk)
theorem clE_X1_59 {ρ : Type} {Qc : Array Value → State → Outcome → State → Prop} {mc ms : Nat} (K : kC w p s m args meth c cc nL RX1) (KX : kX w l s) (hex : ∀ x ∈ c.exceptionTable.toList, False) {a1 : Int32} {r : (String ⊕ Unit)} {E : String} (d : decode cc pc = .ok (.invokevirtual 59, 3)) (h : fX1_requireRoomAt σ a1 = some r) (he : r = .inl E) (hR : rmX1_requireRoomAt.frames + 1 ≤ R.frames ∧ 8 + (2 + 11) + rmX1_requireRoomAt.locals ≤ R.locals) (hr : (rest.map fun v => v.category).sum ≤ 8) (hf : cells + 1 ≤ R.cells ∧ slots + 6 ≤ R.slots) (hc : cells + 1 ≤ mc) (hs : slots + 6 ≤ ms) : kG w p l e R s m args below meth c (vx_MQ below Qc (kXX w (.inl E : String ⊕ ρ) σ) args s mc ms (kA w)) nL σ pc lv (.int a1 :: .ref (kL w 0) :: rest) cells slots :=
  k_callVvX (As := [.int a1]) (rest := rest) (n := 1) (C := RX1) (T := TX1) K KX d kd_0 rfl (kg_V tw_270 tw_272 tw_3 tw_48 tw_273) rfl (by decide +kernel) rfl hR hr rfl hf (mX1_requireRoomAt l w σ a1 h) ⟨rfl, rfl⟩ (fun E2 ho => by have e9 := Sum.inl.inj (ho.symm.trans he); subst e9; exact k_outX K hex hc hs) (fun v2 ho => absurd (ho.symm.trans he) (by simp))
end C_X1_requireRoomAt
section F_X1_found
variable {w : kW} {p : Program} {l : Launch} {e : Env} {s : State} {m : MethodId} {args : Array Value} {below : List Frame} {meth : Method} {c : Code}
def fX1_found (σ : kS) (x1 : Int32) : Option ((String ⊕ Int32) × kS) :=
  (fX1_requirePoint x1).bind fun r1 =>
  ksm r1 (fun e3 => some ((.inl e3, σ))) fun v2 =>
  if (σ.1 0 8) = 0 then
    (fX1_requireRoomAt σ x1).bind fun r6 =>
    ksm r6 (fun e8 => some ((.inl e8, σ))) fun v7 =>
    (fX1_addMember σ x1).bind fun r10 =>
    some ((.inr ((r10.2).1 0 9), r10.2))
  else
    some ((.inl "java/lang/IllegalStateException", σ))
def rmX1_found : Room := { frames := 7, cells := 3, slots := 18, locals := 111 }
set_option maxRecDepth 20000 in
theorem mX1_found (l : Launch) (w : kW) (σ : kS) (x1 : Int32) {o : ((String ⊕ Int32) × kS)} (h : fX1_found σ x1 = some o) : vx_Met l yX1_found (Cond.code yX1_found cX1_found 2 (some .int) :: TB) rmX1_found (va_Pc [.ref (kL w 0), .int x1] (kPX w l σ)) (kXi w o.1 o.2) (kXX w o.1 o.2) 3 18 (kA w) := by
  refine k_metX (by decide) [.ref (kL w 0), .int x1] (Nat.le_of_ble_eq_true rfl) (by simp [lv_args, Value.category]) ?_
  intro p e s m args below meth c K KX hret hex
  have K : kC w p s m args meth c cX1_found 2 RX1 := K
  obtain ⟨r, hro⟩ : ∃ r, r = o := ⟨o, rfl⟩
  rw [← hro] at h
  have hO : ∀ z, r = z → z = o := fun z e => by rw [← e]; exact hro
  unfold fX1_found at h
  refine k_iload_n K dX1_found_0 1 rfl ?_
  replace h := k_bd h
  obtain ⟨r1, hr1, h⟩ := h
  replace h := k_sm h
  rcases h with ⟨e3, z4, h⟩ | ⟨v2, z4, h⟩
  · cases h
    obtain rfl := hO _ rfl
    exact clE_X1_49 K KX hex dX1_found_1 hr1 z4 (by decide) (Nat.le_of_ble_eq_true rfl) (by decide) (by decide) (by decide)
  · refine clX_X1_49 K KX hex dX1_found_1 hr1 z4 (by decide) (Nat.le_of_ble_eq_true rfl) (by decide) ?_
    refine k_aload_n K dX1_found_4 0 rfl ?_
    refine fg_X1_53 K dX1_found_5 ?_
    replace h := k_br h
    rcases h with ⟨b5, h⟩ | ⟨b5, h⟩
    · refine k_if_eq K 21 dX1_found_8 (by decide) (fun _ => ?_) (fun q => absurd b5 q)
      refine k_aload_n K dX1_found_21 0 rfl ?_
      refine k_iload_n K dX1_found_22 1 rfl ?_
      replace h := k_bd h
      obtain ⟨r6, hr6, h⟩ := h
      replace h := k_sm h
      rcases h with ⟨e8, z9, h⟩ | ⟨v7, z9, h⟩
      · cases h
        obtain rfl := hO _ rfl
        exact clE_X1_59 K KX hex dX1_found_23 hr6 z9 (by decide) (Nat.le_of_ble_eq_true rfl) (by decide) (by decide) (by decide)
      · refine clX_X1_59 K KX hex dX1_found_23 hr6 z9 (by decide) (Nat.le_of_ble_eq_true rfl) (by decide) ?_
        refine k_aload_n K dX1_found_26 0 rfl ?_
        refine k_iload_n K dX1_found_27 1 rfl ?_
        replace h := k_bd h
        obtain ⟨r10, hr10, h⟩ := h
        refine cl_X1_62 K dX1_found_28 hr10 (by decide) (Nat.le_of_ble_eq_true rfl) (by decide) ?_
        refine k_pop K dX1_found_31 rfl ?_
        refine k_aload_n K dX1_found_32 0 rfl ?_
        refine fg_X1_41 K dX1_found_33 ?_
        cases h
        obtain rfl := hO _ rfl
        exact k_iretX (v := (r10.2).1 0 9) K hret dX1_found_36 (by decide) (by decide)
    · refine k_if_eq K 21 dX1_found_8 (by decide) (fun q => absurd q b5) (fun _ => ?_)
      cases h
      obtain rfl := hO _ rfl
      exact th_X1_44_57 K KX dX1_found_11 dX1_found_14 dX1_found_15 dX1_found_17 dX1_found_20 hex (by decide) (by decide) (by decide) (by decide) (by decide) (by decide)
end F_X1_found
section F_X1_open
variable {w : kW} {p : Program} {l : Launch} {e : Env} {s : State} {m : MethodId} {args : Array Value} {below : List Frame} {meth : Method} {c : Code}
def gX1_open_57 (x1 : Int32) (n2 : Option Nat) (x3 : Int32) (σ : kS) : Option ((Int32 × kS) ⊕ ((Int32 × kS) ⊕ ((String ⊕ Int32) × kS))) :=
  if (σ.1 0 7) ≤ x3 then
    (fX1_livePointInTurn σ (x1 - 1)).bind fun r2 =>
    (n2).bind fun q3 =>
    if kd q3 = (0, 0, 8) then
      some (.inr (.inl (x1 + 1, sI σ q3 6 r2)))
    else none
  else
    (n2).bind fun q5 =>
    if kd q5 = (0, 0, 8) then
      (fX1_livePointInTurn σ ((x1 + 1) + x3)).bind fun r7 =>
      if vpi x3 4 then
        some (.inl (x3 + 1, sI σ (q5 + 1 + 0) x3.toNatClampNeg r7))
      else none
    else none
def fX1_open_57 (x1 : Int32) (n2 : Option Nat) (a : Int32 × kS) : Option ((Int32 × kS) ⊕ ((Int32 × kS) ⊕ ((String ⊕ Int32) × kS))) := gX1_open_57 x1 n2 a.1 a.2
def gX1_open_40 (x1 : Int32) (σ : kS) : Option ((Int32 × kS) ⊕ ((String ⊕ Int32) × kS)) :=
  if (σ.1 0 9) ≤ x1 then
    some (.inr ((.inr ((sI σ 0 8 1).1 0 9), sI σ 0 8 1)))
  else
    if vpi x1 20 then
      kit (fX1_open_57 x1 (σ.2.1 1 x1.toNatClampNeg)) 300 (0, σ)
    else none
def fX1_open_40 (a : Int32 × kS) : Option ((Int32 × kS) ⊕ ((String ⊕ Int32) × kS)) := gX1_open_40 a.1 a.2
def fX1_open (σ : kS) : Option ((String ⊕ Int32) × kS) :=
  if (σ.1 0 8) = 0 then
    if (σ.1 0 7) < (σ.1 0 9) then
      kit (fX1_open_40) 300 (0, σ)
    else
      some ((.inl "java/lang/IllegalStateException", σ))
  else
    some ((.inl "java/lang/IllegalStateException", σ))
def rmX1_open : Room := { frames := 6, cells := 1, slots := 6, locals := 90 }
set_option maxRecDepth 20000 in
theorem pX1_open_57 (K : kC w p s m args meth c cX1_open 4 RX1) (KX : kX w l s) (hret : meth.sig.returnType = (some .int)) (hex : ∀ x ∈ c.exceptionTable.toList, False) {x1 : Int32} {n2 : Option Nat} {x3 : Int32} {σ : kS} {r : ((Int32 × kS) ⊕ ((Int32 × kS) ⊕ ((String ⊕ Int32) × kS)))} {o : ((String ⊕ Int32) × kS)} (h : gX1_open_57 x1 n2 x3 σ = some r) (hL40 : ∀ z, r = .inr (.inl z) → kG w p l e rmX1_open s m args below meth c (vx_MQ below (kXi w o.1 o.2) (kXX w o.1 o.2) args s 1 6 (kA w)) 4 z.2 40 [(0, .ref (kL w 0)), (1, .int (z.1))] [] 0 0) (hL57 : ∀ z, r = .inl z → kG w p l e rmX1_open s m args below meth c (vx_MQ below (kXi w o.1 o.2) (kXX w o.1 o.2) args s 1 6 (kA w)) 4 z.2 57 [(0, .ref (kL w 0)), (1, .int x1), (2, va_rf ((n2).map (kL w))), (3, .int (z.1))] [] 0 0) (hO : ∀ z, r = .inr (.inr z) → z = o) : kG w p l e rmX1_open s m args below meth c (vx_MQ below (kXi w o.1 o.2) (kXX w o.1 o.2) args s 1 6 (kA w)) 4 σ 57 [(0, .ref (kL w 0)), (1, .int x1), (2, va_rf ((n2).map (kL w))), (3, .int x3)] [] 0 0 := by
  unfold gX1_open_57 at h
  refine k_iload_n K dX1_open_57 3 rfl ?_
  refine k_aload_n K dX1_open_58 0 rfl ?_
  refine fg_X1_30 K dX1_open_59 ?_
  replace h := k_br h
  rcases h with ⟨b1, h⟩ | ⟨b1, h⟩
  · refine k_icmp_ge K 86 dX1_open_62 (by decide) (fun _ => ?_) (fun q => absurd b1 q)
    refine k_aload_nQ K dX1_open_86 2 rfl ?_
    refine k_aload_n K dX1_open_87 0 rfl ?_
    refine k_iload_n K dX1_open_88 1 rfl ?_
    refine k_iconst (v := 1) K dX1_open_89 (by decide) ?_
    refine k_isub K dX1_open_90 ?_
    replace h := k_bd h
    obtain ⟨r2, hr2, h⟩ := h
    refine cl_X1_71 K dX1_open_91 hr2 (by decide) (by simp [va_rf_cat]) (by decide) ?_
    replace h := k_bd h
    obtain ⟨q3, hq3, h⟩ := h
    subst hq3
    replace h := k_gd h
    obtain ⟨g4, h⟩ := h
    refine fp_X1_75 K dX1_open_94 g4 ?_
    refine k_iinc (v := 1) (lv' := [(1, .int (x1 + 1)), (0, .ref (kL w 0)), (2, .ref (kL w q3)), (3, .int x3)]) K dX1_open_97 1 rfl (by decide) (by decide) rfl ?_
    refine k_goto K 40 dX1_open_100 (by decide) ?_
    refine k_sub [1, 0] rfl ?_
    cases h
    exact hL40 _ rfl
  · refine k_icmp_ge K 86 dX1_open_62 (by decide) (fun q => absurd q b1) (fun _ => ?_)
    refine k_aload_nQ K dX1_open_65 2 rfl ?_
    replace h := k_bd h
    obtain ⟨q5, hq5, h⟩ := h
    subst hq5
    replace h := k_gd h
    obtain ⟨g6, h⟩ := h
    refine fg_X1_68 K dX1_open_66 g6 ?_
    refine k_iload_n K dX1_open_69 3 rfl ?_
    refine k_aload_n K dX1_open_70 0 rfl ?_
    refine k_iload_n K dX1_open_71 1 rfl ?_
    refine k_iconst (v := 1) K dX1_open_72 (by decide) ?_
    refine k_iadd K dX1_open_73 ?_
    refine k_iload_n K dX1_open_74 3 rfl ?_
    refine k_iadd K dX1_open_75 ?_
    replace h := k_bd h
    obtain ⟨r7, hr7, h⟩ := h
    refine cl_X1_71 K dX1_open_76 hr7 (by decide) (Nat.le_of_ble_eq_true rfl) (by decide) ?_
    replace h := k_gd h
    obtain ⟨g8, h⟩ := h
    refine k_iast K dX1_open_79 (kd_m0 g6).1 g8 ?_
    refine k_iinc (v := 1) (lv' := [(3, .int (x3 + 1)), (0, .ref (kL w 0)), (1, .int x1), (2, .ref (kL w q5))]) K dX1_open_80 3 rfl (by decide) (by decide) rfl ?_
    refine k_goto K 57 dX1_open_83 (by decide) ?_
    refine k_sub [1, 2, 3, 0] rfl ?_
    cases h
    exact hL57 _ rfl
set_option maxRecDepth 20000 in
theorem lX1_open_57 (K : kC w p s m args meth c cX1_open 4 RX1) (KX : kX w l s) (hret : meth.sig.returnType = (some .int)) (hex : ∀ x ∈ c.exceptionTable.toList, False) {x1 : Int32} {n2 : Option Nat} {n : Nat} {a : Int32 × kS} {r : ((Int32 × kS) ⊕ ((String ⊕ Int32) × kS))} {o : ((String ⊕ Int32) × kS)} (h : kit (fX1_open_57 x1 n2) n a = some r) (hL40 : ∀ z, r = .inl z → kG w p l e rmX1_open s m args below meth c (vx_MQ below (kXi w o.1 o.2) (kXX w o.1 o.2) args s 1 6 (kA w)) 4 z.2 40 [(0, .ref (kL w 0)), (1, .int (z.1))] [] 0 0) (hO : ∀ z, r = .inr z → z = o) : kG w p l e rmX1_open s m args below meth c (vx_MQ below (kXi w o.1 o.2) (kXX w o.1 o.2) args s 1 6 (kA w)) 4 a.2 57 [(0, .ref (kL w 0)), (1, .int x1), (2, va_rf ((n2).map (kL w))), (3, .int (a.1))] [] 0 0 :=
  kit_ind (body := fX1_open_57 x1 n2) (fun a r => (∀ z, r = .inl z → kG w p l e rmX1_open s m args below meth c (vx_MQ below (kXi w o.1 o.2) (kXX w o.1 o.2) args s 1 6 (kA w)) 4 z.2 40 [(0, .ref (kL w 0)), (1, .int (z.1))] [] 0 0) → (∀ z, r = .inr z → z = o) → kG w p l e rmX1_open s m args below meth c (vx_MQ below (kXi w o.1 o.2) (kXX w o.1 o.2) args s 1 6 (kA w)) 4 a.2 57 [(0, .ref (kL w 0)), (1, .int x1), (2, va_rf ((n2).map (kL w))), (3, .int (a.1))] [] 0 0) (fun a a2 r hb ih hL40 hO => pX1_open_57 K KX hret hex hb (fun _ e => by cases e) (fun z e => by cases e; exact ih hL40 hO) (fun _ e => by cases e)) (fun a r hb hL40 hO => pX1_open_57 K KX hret hex hb (fun z e => hL40 z (by cases e; rfl)) (fun _ e => by cases e) (fun z e => hO z (by cases e; rfl))) n a r h hL40 hO
set_option maxRecDepth 20000 in
theorem pX1_open_40 (K : kC w p s m args meth c cX1_open 4 RX1) (KX : kX w l s) (hret : meth.sig.returnType = (some .int)) (hex : ∀ x ∈ c.exceptionTable.toList, False) {x1 : Int32} {σ : kS} {r : ((Int32 × kS) ⊕ ((String ⊕ Int32) × kS))} {o : ((String ⊕ Int32) × kS)} (h : gX1_open_40 x1 σ = some r) (hL40 : ∀ z, r = .inl z → kG w p l e rmX1_open s m args below meth c (vx_MQ below (kXi w o.1 o.2) (kXX w o.1 o.2) args s 1 6 (kA w)) 4 z.2 40 [(0, .ref (kL w 0)), (1, .int (z.1))] [] 0 0) (hO : ∀ z, r = .inr z → z = o) : kG w p l e rmX1_open s m args below meth c (vx_MQ below (kXi w o.1 o.2) (kXX w o.1 o.2) args s 1 6 (kA w)) 4 σ 40 [(0, .ref (kL w 0)), (1, .int x1)] [] 0 0 := by
  unfold gX1_open_40 at h
  refine k_iload_n K dX1_open_40 1 rfl ?_
  refine k_aload_n K dX1_open_41 0 rfl ?_
  refine fg_X1_41 K dX1_open_42 ?_
  replace h := k_br h
  rcases h with ⟨b1, h⟩ | ⟨b1, h⟩
  · refine k_icmp_ge K 103 dX1_open_45 (by decide) (fun _ => ?_) (fun q => absurd b1 q)
    refine k_aload_n K dX1_open_103 0 rfl ?_
    refine k_iconst (v := 1) K dX1_open_104 (by decide) ?_
    refine fp_X1_53 K dX1_open_105 (by decide) (by decide) ?_
    refine k_aload_n K dX1_open_108 0 rfl ?_
    refine fg_X1_41 K dX1_open_109 ?_
    cases h
    obtain rfl := hO _ rfl
    exact k_iretX (v := (sI σ 0 8 1).1 0 9) K hret dX1_open_112 (by decide) (by decide)
  · refine k_icmp_ge K 103 dX1_open_45 (by decide) (fun q => absurd q b1) (fun _ => ?_)
    refine k_aload_n K dX1_open_48 0 rfl ?_
    refine fg_X1_11 K dX1_open_49 ?_
    refine k_iload_n K dX1_open_52 1 rfl ?_
    replace h := k_gd h
    obtain ⟨g2, h⟩ := h
    refine k_aald K dX1_open_53 kd_1 g2 ?_
    refine k_astore_nQ (lv' := [(2, va_rf ((σ.2.1 1 x1.toNatClampNeg).map (kL w))), (0, .ref (kL w 0)), (1, .int x1)]) K dX1_open_54 (by decide) rfl ?_
    refine k_iconst (v := 0) K dX1_open_55 (by decide) ?_
    refine k_istore_n (lv' := [(3, .int 0), (2, va_rf ((σ.2.1 1 x1.toNatClampNeg).map (kL w))), (0, .ref (kL w 0)), (1, .int x1)]) K dX1_open_56 (by decide) rfl ?_
    refine k_sub [2, 3, 1, 0] rfl ?_
    exact lX1_open_57 K KX hret hex h hL40 hO
set_option maxRecDepth 20000 in
theorem lX1_open_40 (K : kC w p s m args meth c cX1_open 4 RX1) (KX : kX w l s) (hret : meth.sig.returnType = (some .int)) (hex : ∀ x ∈ c.exceptionTable.toList, False) {n : Nat} {a : Int32 × kS} {r : ((String ⊕ Int32) × kS)} {o : ((String ⊕ Int32) × kS)} (h : kit (fX1_open_40) n a = some r) (hO : ∀ z, r = z → z = o) : kG w p l e rmX1_open s m args below meth c (vx_MQ below (kXi w o.1 o.2) (kXX w o.1 o.2) args s 1 6 (kA w)) 4 a.2 40 [(0, .ref (kL w 0)), (1, .int (a.1))] [] 0 0 :=
  kit_ind (body := fX1_open_40) (fun a r => (∀ z, r = z → z = o) → kG w p l e rmX1_open s m args below meth c (vx_MQ below (kXi w o.1 o.2) (kXX w o.1 o.2) args s 1 6 (kA w)) 4 a.2 40 [(0, .ref (kL w 0)), (1, .int (a.1))] [] 0 0) (fun a a2 r hb ih hO => pX1_open_40 K KX hret hex hb (fun z e => by cases e; exact ih hO) (fun _ e => by cases e)) (fun a r hb hO => pX1_open_40 K KX hret hex hb (fun _ e => by cases e) (fun z e => hO z (by cases e; rfl))) n a r h hO
set_option maxRecDepth 20000 in
theorem mX1_open (l : Launch) (w : kW) (σ : kS) {o : ((String ⊕ Int32) × kS)} (h : fX1_open σ = some o) : vx_Met l yX1_open (Cond.code yX1_open cX1_open 4 (some .int) :: TB) rmX1_open (va_Pc [.ref (kL w 0)] (kPX w l σ)) (kXi w o.1 o.2) (kXX w o.1 o.2) 1 6 (kA w) := by
  refine k_metX (by decide) [.ref (kL w 0)] (Nat.le_of_ble_eq_true rfl) (by simp [lv_args, Value.category]) ?_
  intro p e s m args below meth c K KX hret hex
  have K : kC w p s m args meth c cX1_open 4 RX1 := K
  obtain ⟨r, hro⟩ : ∃ r, r = o := ⟨o, rfl⟩
  rw [← hro] at h
  have hO : ∀ z, r = z → z = o := fun z e => by rw [← e]; exact hro
  unfold fX1_open at h
  refine k_aload_n K dX1_open_0 0 rfl ?_
  refine fg_X1_53 K dX1_open_1 ?_
  replace h := k_br h
  rcases h with ⟨b1, h⟩ | ⟨b1, h⟩
  · refine k_if_eq K 17 dX1_open_4 (by decide) (fun _ => ?_) (fun q => absurd b1 q)
    refine k_aload_n K dX1_open_17 0 rfl ?_
    refine fg_X1_41 K dX1_open_18 ?_
    refine k_aload_n K dX1_open_21 0 rfl ?_
    refine fg_X1_30 K dX1_open_22 ?_
    replace h := k_br h
    rcases h with ⟨b2, h⟩ | ⟨b2, h⟩
    · refine k_icmp_gt K 38 dX1_open_25 (by decide) (fun _ => ?_) (fun q => absurd b2 q)
      refine k_iconst (v := 0) K dX1_open_38 (by decide) ?_
      refine k_istore_n (lv' := [(1, .int 0), (0, .ref (kL w 0))]) K dX1_open_39 (by decide) rfl ?_
      refine k_sub [1, 0] rfl ?_
      exact lX1_open_40 K KX hret hex h hO
    · refine k_icmp_gt K 38 dX1_open_25 (by decide) (fun q => absurd q b2) (fun _ => ?_)
      cases h
      obtain rfl := hO _ rfl
      exact th_X1_44_66 K KX dX1_open_28 dX1_open_31 dX1_open_32 dX1_open_34 dX1_open_37 hex (by decide) (by decide) (by decide) (by decide) (by decide) (by decide)
  · refine k_if_eq K 17 dX1_open_4 (by decide) (fun q => absurd q b1) (fun _ => ?_)
    cases h
    obtain rfl := hO _ rfl
    exact th_X1_44_57 K KX dX1_open_7 dX1_open_10 dX1_open_11 dX1_open_13 dX1_open_16 hex (by decide) (by decide) (by decide) (by decide) (by decide) (by decide)
end F_X1_open
section F_X1_find
variable {w : kW} {p : Program} {l : Launch} {e : Env} {s : State} {m : MethodId} {args : Array Value} {below : List Frame} {meth : Method} {c : Code}
def fX1_find_16 (t0 : Option Nat) (σ : kS) : Option (String ⊕ Nat) :=
  kmn (t0) (
    some (.inl "java/util/NoSuchElementException")
  ) fun q1 =>
    some (.inr q1)
def fX1_find (σ : kS) (x1 : Int32) : Option (String ⊕ Nat) :=
  if (σ.1 0 8) = 0 then
    fX1_find_16 none σ
  else
    (fX1_liveAt σ x1).bind fun r2 =>
    fX1_find_16 r2 σ
def rmX1_find : Room := { frames := 6, cells := 1, slots := 6, locals := 90 }
set_option maxRecDepth 20000 in
theorem pX1_find_16 (K : kC w p s m args meth c cX1_find 3 RX1) (KX : kX w l s) (hret : meth.sig.returnType = (some (.object "KeyRing$Member"))) (hex : ∀ x ∈ c.exceptionTable.toList, False) {t0 : Option Nat} {σ : kS} {r : (String ⊕ Nat)} {o : (String ⊕ Nat)} (h : fX1_find_16 t0 σ = some r) (hO : ∀ z, r = z → z = o) : kG w p l e rmX1_find s m args below meth c (vx_MQ below (kXq w o σ) (kXX w o σ) args s 1 6 (kA w)) 3 σ 16 [] [va_rf ((t0).map (kL w))] 0 0 := by
  unfold fX1_find_16 at h
  refine k_astore_nQ (lv' := [(2, va_rf ((t0).map (kL w)))]) K dX1_find_16 (by decide) rfl ?_
  refine k_aload_nQ K dX1_find_17 0 rfl ?_
  replace h := k_mn h
  rcases h with ⟨hq1, h⟩ | ⟨q1, hq1, h⟩
  · subst hq1
    refine k_ifnonnullN K dX1_find_18 ?_
    cases h
    obtain rfl := hO _ rfl
    exact th_X1_111_207 K KX dX1_find_21 dX1_find_24 dX1_find_25 dX1_find_27 dX1_find_30 hex (by decide) (by decide) (by decide) (by decide) (by decide) (by decide)
  · subst hq1
    refine k_ifnonnull K 31 dX1_find_18 (by decide) ?_
    refine k_aload_n K dX1_find_31 0 rfl ?_
    cases h
    obtain rfl := hO _ rfl
    exact k_aretX (v := q1) K hret dX1_find_32 (by decide) (by decide)
set_option maxRecDepth 20000 in
theorem mX1_find (l : Launch) (w : kW) (σ : kS) (x1 : Int32) {o : (String ⊕ Nat)} (h : fX1_find σ x1 = some o) : vx_Met l yX1_find (Cond.code yX1_find cX1_find 3 (some (.object "KeyRing$Member")) :: TB) rmX1_find (va_Pc [.ref (kL w 0), .int x1] (kPX w l σ)) (kXq w o σ) (kXX w o σ) 1 6 (kA w) := by
  refine k_metX (by decide) [.ref (kL w 0), .int x1] (Nat.le_of_ble_eq_true rfl) (by simp [lv_args, Value.category]) ?_
  intro p e s m args below meth c K KX hret hex
  have K : kC w p s m args meth c cX1_find 3 RX1 := K
  obtain ⟨r, hro⟩ : ∃ r, r = o := ⟨o, rfl⟩
  rw [← hro] at h
  have hO : ∀ z, r = z → z = o := fun z e => by rw [← e]; exact hro
  unfold fX1_find at h
  refine k_aload_n K dX1_find_0 0 rfl ?_
  refine fg_X1_53 K dX1_find_1 ?_
  replace h := k_br h
  rcases h with ⟨b1, h⟩ | ⟨b1, h⟩
  · refine k_if_eq K 15 dX1_find_4 (by decide) (fun _ => ?_) (fun q => absurd b1 q)
    refine k_null K dX1_find_15 ?_
    refine k_sub [] rfl ?_
    exact pX1_find_16 K KX hret hex h hO
  · refine k_if_eq K 15 dX1_find_4 (by decide) (fun q => absurd q b1) (fun _ => ?_)
    refine k_aload_n K dX1_find_7 0 rfl ?_
    refine k_iload_n K dX1_find_8 1 rfl ?_
    replace h := k_bd h
    obtain ⟨r2, hr2, h⟩ := h
    refine cl_X1_204 K dX1_find_9 hr2 (by decide) (Nat.le_of_ble_eq_true rfl) (by decide) ?_
    refine k_goto K 16 dX1_find_12 (by decide) ?_
    refine k_sub [] rfl ?_
    exact pX1_find_16 K KX hret hex h hO
end F_X1_find
section C_X1_find
variable {w : kW} {p : Program} {l : Launch} {e : Env} {R : Room} {s : State} {m : MethodId} {args : Array Value} {below : List Frame} {meth : Method} {c : Code} {Q : State → Prop} {cc : ByteArray} {nL : Nat} {σ : kS} {pc : Nat} {lv : List (Nat × Value)} {st rest : List Value} {cells slots : Nat}
theorem clX_X1_78 (K : kC w p s m args meth c cc nL RX1) (KX : kX w l s) (hex : ∀ x ∈ c.exceptionTable.toList, False) {a1 : Int32} {r : (String ⊕ Nat)} {v : Nat} (d : decode cc pc = .ok (.invokevirtual 78, 3)) (h : fX1_find σ a1 = some r) (he : r = .inr v) (hR : rmX1_find.frames + 1 ≤ R.frames ∧ 8 + (3 + 11) + rmX1_find.locals ≤ R.locals) (hr : (rest.map fun v => v.category).sum ≤ 8) (hf : cells + 1 ≤ R.cells ∧ slots + 6 ≤ R.slots) (kk : kG w p l e R s m args below meth c Q nL σ (pc + 3) lv (.ref (kL w v) :: rest) (cells + 1) (slots + 6)) : kG w p l e R s m args below meth c Q nL σ pc lv (.int a1 :: .ref (kL w 0) :: rest) cells slots :=
  k_callVqX (As := [.int a1]) (rest := rest) (n := 1) (C := RX1) (T := TX1) K KX d kd_0 rfl (kg_V tw_303 tw_305 tw_5 tw_48 tw_306) rfl (by decide +kernel) rfl hR hr rfl hf (mX1_find l w σ a1 h) ⟨rfl, rfl⟩ (fun E ho => absurd (ho.symm.trans he) (by simp)) (fun v2 ho => by have e9 := Sum.inr.inj (ho.symm.trans he); subst e9; exact kk)
theorem clE_X1_78 {ρ : Type} {Qc : Array Value → State → Outcome → State → Prop} {mc ms : Nat} (K : kC w p s m args meth c cc nL RX1) (KX : kX w l s) (hex : ∀ x ∈ c.exceptionTable.toList, False) {a1 : Int32} {r : (String ⊕ Nat)} {E : String} (d : decode cc pc = .ok (.invokevirtual 78, 3)) (h : fX1_find σ a1 = some r) (he : r = .inl E) (hR : rmX1_find.frames + 1 ≤ R.frames ∧ 8 + (3 + 11) + rmX1_find.locals ≤ R.locals) (hr : (rest.map fun v => v.category).sum ≤ 8) (hf : cells + 1 ≤ R.cells ∧ slots + 6 ≤ R.slots) (hc : cells + 1 ≤ mc) (hs : slots + 6 ≤ ms) : kG w p l e R s m args below meth c (vx_MQ below Qc (kXX w (.inl E : String ⊕ ρ) σ) args s mc ms (kA w)) nL σ pc lv (.int a1 :: .ref (kL w 0) :: rest) cells slots :=
  k_callVqX (As := [.int a1]) (rest := rest) (n := 1) (C := RX1) (T := TX1) K KX d kd_0 rfl (kg_V tw_303 tw_305 tw_5 tw_48 tw_306) rfl (by decide +kernel) rfl hR hr rfl hf (mX1_find l w σ a1 h) ⟨rfl, rfl⟩ (fun E2 ho => by have e9 := Sum.inl.inj (ho.symm.trans he); subst e9; exact k_outX K hex hc hs) (fun v2 ho => absurd (ho.symm.trans he) (by simp))
end C_X1_find
section F_X1_join
variable {w : kW} {p : Program} {l : Launch} {e : Env} {s : State} {m : MethodId} {args : Array Value} {below : List Frame} {meth : Method} {c : Code}
def fX1_join (σ : kS) (x1 : Int32) (x2 : Int32) : Option ((String ⊕ Int32) × kS) :=
  (fX1_find σ x2).bind fun r1 =>
  ksm r1 (fun e3 => some ((.inl e3, σ))) fun v2 =>
  (fX1_requirePoint x1).bind fun r5 =>
  ksm r5 (fun e7 => some ((.inl e7, σ))) fun v6 =>
  (fX1_requireRoomAt σ x1).bind fun r9 =>
  ksm r9 (fun e11 => some ((.inl e11, σ))) fun v10 =>
  (fX1_lookFor σ v2 x1).bind fun r13 =>
  (fX1_addMember r13.2 x1).bind fun r14 =>
  (fX1_takeOver r14.2 r14.1 r13.1).bind fun r15 =>
  if kd r13.1 = (0, 0, 8) then
    some ((.inr (r15.1 r13.1 5), r15))
  else none
def rmX1_join : Room := { frames := 7, cells := 3, slots := 18, locals := 112 }
set_option maxRecDepth 20000 in
theorem mX1_join (l : Launch) (w : kW) (σ : kS) (x1 : Int32) (x2 : Int32) {o : ((String ⊕ Int32) × kS)} (h : fX1_join σ x1 x2 = some o) : vx_Met l yX1_join (Cond.code yX1_join cX1_join 5 (some .int) :: TB) rmX1_join (va_Pc [.ref (kL w 0), .int x1, .int x2] (kPX w l σ)) (kXi w o.1 o.2) (kXX w o.1 o.2) 3 18 (kA w) := by
  refine k_metX (by decide) [.ref (kL w 0), .int x1, .int x2] (Nat.le_of_ble_eq_true rfl) (by simp [lv_args, Value.category]) ?_
  intro p e s m args below meth c K KX hret hex
  have K : kC w p s m args meth c cX1_join 5 RX1 := K
  obtain ⟨r, hro⟩ : ∃ r, r = o := ⟨o, rfl⟩
  rw [← hro] at h
  have hO : ∀ z, r = z → z = o := fun z e => by rw [← e]; exact hro
  unfold fX1_join at h
  refine k_aload_n K dX1_join_0 0 rfl ?_
  refine k_iload_n K dX1_join_1 2 rfl ?_
  replace h := k_bd h
  obtain ⟨r1, hr1, h⟩ := h
  replace h := k_sm h
  rcases h with ⟨e3, z4, h⟩ | ⟨v2, z4, h⟩
  · cases h
    obtain rfl := hO _ rfl
    exact clE_X1_78 K KX hex dX1_join_2 hr1 z4 (by decide) (Nat.le_of_ble_eq_true rfl) (by decide) (by decide) (by decide)
  · refine clX_X1_78 K KX hex dX1_join_2 hr1 z4 (by decide) (Nat.le_of_ble_eq_true rfl) (by decide) ?_
    refine k_astore_n (lv' := [(3, .ref (kL w v2)), (0, .ref (kL w 0)), (1, .int x1), (2, .int x2)]) K dX1_join_5 (by decide) rfl ?_
    refine k_iload_n K dX1_join_6 2 rfl ?_
    replace h := k_bd h
    obtain ⟨r5, hr5, h⟩ := h
    replace h := k_sm h
    rcases h with ⟨e7, z8, h⟩ | ⟨v6, z8, h⟩
    · cases h
      obtain rfl := hO _ rfl
      exact clE_X1_49 K KX hex dX1_join_7 hr5 z8 (by decide) (Nat.le_of_ble_eq_true rfl) (by decide) (by decide) (by decide)
    · refine clX_X1_49 K KX hex dX1_join_7 hr5 z8 (by decide) (Nat.le_of_ble_eq_true rfl) (by decide) ?_
      refine k_aload_n K dX1_join_10 1 rfl ?_
      refine k_iload_n K dX1_join_11 2 rfl ?_
      replace h := k_bd h
      obtain ⟨r9, hr9, h⟩ := h
      replace h := k_sm h
      rcases h with ⟨e11, z12, h⟩ | ⟨v10, z12, h⟩
      · cases h
        obtain rfl := hO _ rfl
        exact clE_X1_59 K KX hex dX1_join_12 hr9 z12 (by decide) (Nat.le_of_ble_eq_true rfl) (by decide) (by decide) (by decide)
      · refine clX_X1_59 K KX hex dX1_join_12 hr9 z12 (by decide) (Nat.le_of_ble_eq_true rfl) (by decide) ?_
        refine k_aload_n K dX1_join_15 1 rfl ?_
        refine k_aload_n K dX1_join_16 0 rfl ?_
        refine k_iload_n K dX1_join_17 2 rfl ?_
        replace h := k_bd h
        obtain ⟨r13, hr13, h⟩ := h
        refine cl_X1_81 K dX1_join_18 hr13 (by decide) (Nat.le_of_ble_eq_true rfl) (by decide) ?_
        refine k_astore (lv' := [(4, .ref (kL w (r13.1))), (3, .ref (kL w v2)), (0, .ref (kL w 0)), (1, .int x1), (2, .int x2)]) K dX1_join_21 (by decide) rfl ?_
        refine k_aload_n K dX1_join_23 2 rfl ?_
        refine k_aload_n K dX1_join_24 2 rfl ?_
        refine k_iload_n K dX1_join_25 3 rfl ?_
        replace h := k_bd h
        obtain ⟨r14, hr14, h⟩ := h
        refine cl_X1_62 K dX1_join_26 hr14 (by decide) (Nat.le_of_ble_eq_true rfl) (by decide) ?_
        refine k_aload K dX1_join_29 0 rfl ?_
        replace h := k_bd h
        obtain ⟨r15, hr15, h⟩ := h
        refine cl_X1_85 K dX1_join_31 hr15 (by decide) (Nat.le_of_ble_eq_true rfl) (by decide) ?_
        refine k_aload K dX1_join_34 0 rfl ?_
        replace h := k_gd h
        obtain ⟨g16, h⟩ := h
        refine fg_X1_89 K dX1_join_36 g16 ?_
        cases h
        obtain rfl := hO _ rfl
        exact k_iretX (v := r15.1 r13.1 5) K hret dX1_join_39 (by decide) (by decide)
end F_X1_join
section F_X1_fail
variable {w : kW} {p : Program} {l : Launch} {e : Env} {s : State} {m : MethodId} {args : Array Value} {below : List Frame} {meth : Method} {c : Code}
def fX1_fail_73 (c2 : Nat) (x3 : Int32) (σ : kS) : Option ((Int32) ⊕ ((String ⊕ Int32) × kS)) :=
  some (.inl (x3 + 1))
def gX1_fail_31 (c2 : Nat) (σ : kS) (x3 : Int32) : Option ((Int32) ⊕ ((String ⊕ Int32) × kS)) :=
  if (σ.1 0 9) ≤ x3 then
    (fX1_removeMember σ c2).bind fun r2 =>
    some (.inr ((.inr (r2.1 0 9), r2)))
  else
    if vpi x3 20 then
      if okq (σ.2.1 1 x3.toNatClampNeg) = true ∧ okq (some c2) = true then
        if σ.2.1 1 x3.toNatClampNeg = some c2 then
          fX1_fail_73 c2 x3 σ
        else
          (σ.2.1 1 x3.toNatClampNeg).bind fun q6 =>
          (fX1_knowsLiveOneBeside σ q6 c2).bind fun r7 =>
          if r7 = 0 then
            some (.inr ((.inl "java/lang/IllegalStateException", σ)))
          else
            fX1_fail_73 c2 x3 σ
      else none
    else none
def fX1_fail_31 (c2 : Nat) (σ : kS) (a : Int32) : Option ((Int32) ⊕ ((String ⊕ Int32) × kS)) := gX1_fail_31 c2 σ a
def fX1_fail (σ : kS) (x1 : Int32) : Option ((String ⊕ Int32) × kS) :=
  (fX1_find σ x1).bind fun r1 =>
  ksm r1 (fun e3 => some ((.inl e3, σ))) fun v2 =>
  if (σ.1 0 7) < ((σ.1 0 9) - 1) then
    kit (fX1_fail_31 v2 σ) 300 (0)
  else
    some ((.inl "java/lang/IllegalStateException", σ))
def rmX1_fail : Room := { frames := 7, cells := 2, slots := 12, locals := 112 }
set_option maxRecDepth 20000 in
theorem pX1_fail_73 (K : kC w p s m args meth c cX1_fail 4 RX1) (KX : kX w l s) (hret : meth.sig.returnType = (some .int)) (hex : ∀ x ∈ c.exceptionTable.toList, False) {c2 : Nat} {x3 : Int32} {σ : kS} {r : ((Int32) ⊕ ((String ⊕ Int32) × kS))} {o : ((String ⊕ Int32) × kS)} (h : fX1_fail_73 c2 x3 σ = some r) (hL31 : ∀ z, r = .inl z → kG w p l e rmX1_fail s m args below meth c (vx_MQ below (kXi w o.1 o.2) (kXX w o.1 o.2) args s 2 12 (kA w)) 4 σ 31 [(0, .ref (kL w 0)), (2, .ref (kL w c2)), (3, .int z)] [] 1 6) (hO : ∀ z, r = .inr z → z = o) : kG w p l e rmX1_fail s m args below meth c (vx_MQ below (kXi w o.1 o.2) (kXX w o.1 o.2) args s 2 12 (kA w)) 4 σ 73 [(0, .ref (kL w 0)), (2, .ref (kL w c2)), (3, .int x3)] [] 1 6 := by
  unfold fX1_fail_73 at h
  refine k_iinc (v := 1) (lv' := [(3, .int (x3 + 1)), (0, .ref (kL w 0)), (2, .ref (kL w c2))]) K dX1_fail_73 2 rfl (by decide) (by decide) rfl ?_
  refine k_goto K 31 dX1_fail_76 (by decide) ?_
  refine k_sub [1, 2, 0] rfl ?_
  cases h
  exact hL31 _ rfl
set_option maxRecDepth 20000 in
theorem pX1_fail_31 (K : kC w p s m args meth c cX1_fail 4 RX1) (KX : kX w l s) (hret : meth.sig.returnType = (some .int)) (hex : ∀ x ∈ c.exceptionTable.toList, False) {c2 : Nat} {σ : kS} {x3 : Int32} {r : ((Int32) ⊕ ((String ⊕ Int32) × kS))} {o : ((String ⊕ Int32) × kS)} (h : gX1_fail_31 c2 σ x3 = some r) (hL31 : ∀ z, r = .inl z → kG w p l e rmX1_fail s m args below meth c (vx_MQ below (kXi w o.1 o.2) (kXX w o.1 o.2) args s 2 12 (kA w)) 4 σ 31 [(0, .ref (kL w 0)), (2, .ref (kL w c2)), (3, .int z)] [] 1 6) (hO : ∀ z, r = .inr z → z = o) : kG w p l e rmX1_fail s m args below meth c (vx_MQ below (kXi w o.1 o.2) (kXX w o.1 o.2) args s 2 12 (kA w)) 4 σ 31 [(0, .ref (kL w 0)), (2, .ref (kL w c2)), (3, .int x3)] [] 1 6 := by
  unfold gX1_fail_31 at h
  refine k_iload_n K dX1_fail_31 2 rfl ?_
  refine k_aload_n K dX1_fail_32 0 rfl ?_
  refine fg_X1_41 K dX1_fail_33 ?_
  replace h := k_br h
  rcases h with ⟨b1, h⟩ | ⟨b1, h⟩
  · refine k_icmp_ge K 79 dX1_fail_36 (by decide) (fun _ => ?_) (fun q => absurd b1 q)
    refine k_aload_n K dX1_fail_79 0 rfl ?_
    refine k_aload_n K dX1_fail_80 1 rfl ?_
    replace h := k_bd h
    obtain ⟨r2, hr2, h⟩ := h
    refine cl_X1_100 K dX1_fail_81 hr2 (by decide) (Nat.le_of_ble_eq_true rfl) (by decide) ?_
    refine k_aload_n K dX1_fail_84 0 rfl ?_
    refine fg_X1_41 K dX1_fail_85 ?_
    cases h
    obtain rfl := hO _ rfl
    exact k_iretX (v := r2.1 0 9) K hret dX1_fail_88 (by decide) (by decide)
  · refine k_icmp_ge K 79 dX1_fail_36 (by decide) (fun q => absurd q b1) (fun _ => ?_)
    refine k_aload_n K dX1_fail_39 0 rfl ?_
    refine fg_X1_11 K dX1_fail_40 ?_
    refine k_iload_n K dX1_fail_43 2 rfl ?_
    replace h := k_gd h
    obtain ⟨g3, h⟩ := h
    refine k_aald K dX1_fail_44 kd_1 g3 ?_
    refine k_aload_n K dX1_fail_45 1 rfl ?_
    replace h := k_gd h
    obtain ⟨g5, h⟩ := h
    replace h := k_br h
    rcases h with ⟨b4, h⟩ | ⟨b4, h⟩
    · refine k_acmp_eq (x := σ.2.1 1 x3.toNatClampNeg) (y := some c2) K 73 dX1_fail_46 (by decide) (okq_s g5.1) (okq_s g5.2) (fun _ => ?_) (fun q => absurd b4 q)
      exact pX1_fail_73 K KX hret hex h hL31 hO
    · refine k_acmp_eq (x := σ.2.1 1 x3.toNatClampNeg) (y := some c2) K 73 dX1_fail_46 (by decide) (okq_s g5.1) (okq_s g5.2) (fun q => absurd q b4) (fun _ => ?_)
      refine k_aload_n K dX1_fail_49 0 rfl ?_
      refine k_aload_n K dX1_fail_50 0 rfl ?_
      refine fg_X1_11 K dX1_fail_51 ?_
      refine k_iload_n K dX1_fail_54 2 rfl ?_
      refine k_aald K dX1_fail_55 kd_1 g3 ?_
      refine k_aload_n K dX1_fail_56 1 rfl ?_
      replace h := k_bd h
      obtain ⟨q6, hq6, h⟩ := h
      rw [hq6]
      replace h := k_bd h
      obtain ⟨r7, hr7, h⟩ := h
      refine cl_X1_94 K dX1_fail_57 hr7 (by decide) (Nat.le_of_ble_eq_true rfl) (by decide) ?_
      replace h := k_br h
      rcases h with ⟨b8, h⟩ | ⟨b8, h⟩
      · refine k_if_ne K 73 dX1_fail_60 (by decide) (fun q => absurd b8 q) (fun _ => ?_)
        cases h
        obtain rfl := hO _ rfl
        exact th_X1_44_98 K KX dX1_fail_63 dX1_fail_66 dX1_fail_67 dX1_fail_69 dX1_fail_72 hex (by decide) (by decide) (by decide) (by decide) (by decide) (by decide)
      · refine k_if_ne K 73 dX1_fail_60 (by decide) (fun _ => ?_) (fun q => absurd q b8)
        exact pX1_fail_73 K KX hret hex h hL31 hO
set_option maxRecDepth 20000 in
theorem lX1_fail_31 (K : kC w p s m args meth c cX1_fail 4 RX1) (KX : kX w l s) (hret : meth.sig.returnType = (some .int)) (hex : ∀ x ∈ c.exceptionTable.toList, False) {c2 : Nat} {σ : kS} {n : Nat} {a : Int32} {r : ((String ⊕ Int32) × kS)} {o : ((String ⊕ Int32) × kS)} (h : kit (fX1_fail_31 c2 σ) n a = some r) (hO : ∀ z, r = z → z = o) : kG w p l e rmX1_fail s m args below meth c (vx_MQ below (kXi w o.1 o.2) (kXX w o.1 o.2) args s 2 12 (kA w)) 4 σ 31 [(0, .ref (kL w 0)), (2, .ref (kL w c2)), (3, .int a)] [] 1 6 :=
  kit_ind (body := fX1_fail_31 c2 σ) (fun a r => (∀ z, r = z → z = o) → kG w p l e rmX1_fail s m args below meth c (vx_MQ below (kXi w o.1 o.2) (kXX w o.1 o.2) args s 2 12 (kA w)) 4 σ 31 [(0, .ref (kL w 0)), (2, .ref (kL w c2)), (3, .int a)] [] 1 6) (fun a a2 r hb ih hO => pX1_fail_31 K KX hret hex hb (fun z e => by cases e; exact ih hO) (fun _ e => by cases e)) (fun a r hb hO => pX1_fail_31 K KX hret hex hb (fun _ e => by cases e) (fun z e => hO z (by cases e; rfl))) n a r h hO
set_option maxRecDepth 20000 in
theorem mX1_fail (l : Launch) (w : kW) (σ : kS) (x1 : Int32) {o : ((String ⊕ Int32) × kS)} (h : fX1_fail σ x1 = some o) : vx_Met l yX1_fail (Cond.code yX1_fail cX1_fail 4 (some .int) :: TB) rmX1_fail (va_Pc [.ref (kL w 0), .int x1] (kPX w l σ)) (kXi w o.1 o.2) (kXX w o.1 o.2) 2 12 (kA w) := by
  refine k_metX (by decide) [.ref (kL w 0), .int x1] (Nat.le_of_ble_eq_true rfl) (by simp [lv_args, Value.category]) ?_
  intro p e s m args below meth c K KX hret hex
  have K : kC w p s m args meth c cX1_fail 4 RX1 := K
  obtain ⟨r, hro⟩ : ∃ r, r = o := ⟨o, rfl⟩
  rw [← hro] at h
  have hO : ∀ z, r = z → z = o := fun z e => by rw [← e]; exact hro
  unfold fX1_fail at h
  refine k_aload_n K dX1_fail_0 0 rfl ?_
  refine k_iload_n K dX1_fail_1 1 rfl ?_
  replace h := k_bd h
  obtain ⟨r1, hr1, h⟩ := h
  replace h := k_sm h
  rcases h with ⟨e3, z4, h⟩ | ⟨v2, z4, h⟩
  · cases h
    obtain rfl := hO _ rfl
    exact clE_X1_78 K KX hex dX1_fail_2 hr1 z4 (by decide) (Nat.le_of_ble_eq_true rfl) (by decide) (by decide) (by decide)
  · refine clX_X1_78 K KX hex dX1_fail_2 hr1 z4 (by decide) (Nat.le_of_ble_eq_true rfl) (by decide) ?_
    refine k_astore_n (lv' := [(2, .ref (kL w v2)), (0, .ref (kL w 0)), (1, .int x1)]) K dX1_fail_5 (by decide) rfl ?_
    refine k_aload_n K dX1_fail_6 1 rfl ?_
    refine fg_X1_41 K dX1_fail_7 ?_
    refine k_iconst (v := 1) K dX1_fail_10 (by decide) ?_
    refine k_isub K dX1_fail_11 ?_
    refine k_aload_n K dX1_fail_12 1 rfl ?_
    refine fg_X1_30 K dX1_fail_13 ?_
    replace h := k_br h
    rcases h with ⟨b5, h⟩ | ⟨b5, h⟩
    · refine k_icmp_gt K 29 dX1_fail_16 (by decide) (fun _ => ?_) (fun q => absurd b5 q)
      refine k_iconst (v := 0) K dX1_fail_29 (by decide) ?_
      refine k_istore_n (lv' := [(3, .int 0), (2, .ref (kL w v2)), (0, .ref (kL w 0)), (1, .int x1)]) K dX1_fail_30 (by decide) rfl ?_
      refine k_sub [2, 1, 0] rfl ?_
      exact lX1_fail_31 K KX hret hex h hO
    · refine k_icmp_gt K 29 dX1_fail_16 (by decide) (fun q => absurd q b5) (fun _ => ?_)
      cases h
      obtain rfl := hO _ rfl
      exact th_X1_44_92 K KX dX1_fail_19 dX1_fail_22 dX1_fail_23 dX1_fail_25 dX1_fail_28 hex (by decide) (by decide) (by decide) (by decide) (by decide) (by decide)
end F_X1_fail
section F_X1_stabilise
variable {w : kW} {p : Program} {l : Launch} {e : Env} {s : State} {m : MethodId} {args : Array Value} {below : List Frame} {meth : Method} {c : Code}
def fX1_stabilise (σ : kS) (x1 : Int32) : Option ((String ⊕ Int32) × kS) :=
  (fX1_find σ x1).bind fun r1 =>
  ksm r1 (fun e3 => some ((.inl e3, σ))) fun v2 =>
  (fX1_stabiliseMember σ v2).bind fun r5 =>
  (fX1_successor r5 v2).bind fun r6 =>
  kmn (r6) (
    some ((.inr ((-1)), r5))
  ) fun q7 =>
    if kd q7 = (0, 0, 8) then
      some ((.inr (r5.1 q7 5), r5))
    else none
def rmX1_stabilise : Room := { frames := 7, cells := 1, slots := 6, locals := 112 }
set_option maxRecDepth 20000 in
theorem mX1_stabilise (l : Launch) (w : kW) (σ : kS) (x1 : Int32) {o : ((String ⊕ Int32) × kS)} (h : fX1_stabilise σ x1 = some o) : vx_Met l yX1_stabilise (Cond.code yX1_stabilise cX1_stabilise 4 (some .int) :: TB) rmX1_stabilise (va_Pc [.ref (kL w 0), .int x1] (kPX w l σ)) (kXi w o.1 o.2) (kXX w o.1 o.2) 1 6 (kA w) := by
  refine k_metX (by decide) [.ref (kL w 0), .int x1] (Nat.le_of_ble_eq_true rfl) (by simp [lv_args, Value.category]) ?_
  intro p e s m args below meth c K KX hret hex
  have K : kC w p s m args meth c cX1_stabilise 4 RX1 := K
  obtain ⟨r, hro⟩ : ∃ r, r = o := ⟨o, rfl⟩
  rw [← hro] at h
  have hO : ∀ z, r = z → z = o := fun z e => by rw [← e]; exact hro
  unfold fX1_stabilise at h
  refine k_aload_n K dX1_stabilise_0 0 rfl ?_
  refine k_iload_n K dX1_stabilise_1 1 rfl ?_
  replace h := k_bd h
  obtain ⟨r1, hr1, h⟩ := h
  replace h := k_sm h
  rcases h with ⟨e3, z4, h⟩ | ⟨v2, z4, h⟩
  · cases h
    obtain rfl := hO _ rfl
    exact clE_X1_78 K KX hex dX1_stabilise_2 hr1 z4 (by decide) (Nat.le_of_ble_eq_true rfl) (by decide) (by decide) (by decide)
  · refine clX_X1_78 K KX hex dX1_stabilise_2 hr1 z4 (by decide) (Nat.le_of_ble_eq_true rfl) (by decide) ?_
    refine k_astore_n (lv' := [(2, .ref (kL w v2)), (0, .ref (kL w 0)), (1, .int x1)]) K dX1_stabilise_5 (by decide) rfl ?_
    refine k_aload_n K dX1_stabilise_6 1 rfl ?_
    refine k_aload_n K dX1_stabilise_7 0 rfl ?_
    replace h := k_bd h
    obtain ⟨r5, hr5, h⟩ := h
    refine cl_X1_104 K dX1_stabilise_8 hr5 (by decide) (Nat.le_of_ble_eq_true rfl) (by decide) ?_
    refine k_aload_n K dX1_stabilise_11 1 rfl ?_
    refine k_aload_n K dX1_stabilise_12 0 rfl ?_
    replace h := k_bd h
    obtain ⟨r6, hr6, h⟩ := h
    refine cl_X1_107 K dX1_stabilise_13 hr6 (by decide) (Nat.le_of_ble_eq_true rfl) (by decide) ?_
    refine k_astore_nQ (lv' := [(3, va_rf ((r6).map (kL w))), (2, .ref (kL w v2)), (0, .ref (kL w 0)), (1, .int x1)]) K dX1_stabilise_16 (by decide) rfl ?_
    refine k_aload_nQ K dX1_stabilise_17 0 rfl ?_
    replace h := k_mn h
    rcases h with ⟨hq7, h⟩ | ⟨q7, hq7, h⟩
    · subst hq7
      refine k_ifnonnullN K dX1_stabilise_18 ?_
      refine k_iconst (v := (-1)) K dX1_stabilise_21 (by decide) ?_
      refine k_goto K 29 dX1_stabilise_22 (by decide) ?_
      cases h
      obtain rfl := hO _ rfl
      exact k_iretX (v := (-1)) K hret dX1_stabilise_29 (by decide) (by decide)
    · subst hq7
      refine k_ifnonnull K 25 dX1_stabilise_18 (by decide) ?_
      refine k_aload_n K dX1_stabilise_25 0 rfl ?_
      replace h := k_gd h
      obtain ⟨g8, h⟩ := h
      refine fg_X1_89 K dX1_stabilise_26 g8 ?_
      cases h
      obtain rfl := hO _ rfl
      exact k_iretX (v := r5.1 q7 5) K hret dX1_stabilise_29 (by decide) (by decide)
end F_X1_stabilise
section F_X1_mend
variable {w : kW} {p : Program} {l : Launch} {e : Env} {s : State} {m : MethodId} {args : Array Value} {below : List Frame} {meth : Method} {c : Code}
def fX1_mend_16 (σ : kS) : Option ((String ⊕ Int32) × kS) :=
  some ((.inl "java/util/NoSuchElementException", σ))
def fX1_mend (σ : kS) (x1 : Int32) (x2 : Int32) : Option ((String ⊕ Int32) × kS) :=
  (fX1_find σ x1).bind fun r1 =>
  ksm r1 (fun e3 => some ((.inl e3, σ))) fun v2 =>
  if x2 < 0 then
    fX1_mend_16 σ
  else
    if x2 < 8 then
      (fX1_mendFinger σ v2 x2).bind fun r7 =>
      if kd v2 = (0, 0, 8) then
        if vpi x2 8 then
          some ((.inr (r7.1 (v2 + 1 + 1) x2.toNatClampNeg), r7))
        else none
      else none
    else
      fX1_mend_16 σ
def rmX1_mend : Room := { frames := 7, cells := 2, slots := 12, locals := 134 }
set_option maxRecDepth 20000 in
theorem pX1_mend_16 (K : kC w p s m args meth c cX1_mend 4 RX1) (KX : kX w l s) (hret : meth.sig.returnType = (some .int)) (hex : ∀ x ∈ c.exceptionTable.toList, False) {σ : kS} {r : ((String ⊕ Int32) × kS)} {o : ((String ⊕ Int32) × kS)} (h : fX1_mend_16 σ = some r) (hO : ∀ z, r = z → z = o) : kG w p l e rmX1_mend s m args below meth c (vx_MQ below (kXi w o.1 o.2) (kXX w o.1 o.2) args s 2 12 (kA w)) 4 σ 16 [] [] 1 6 := by
  unfold fX1_mend_16 at h
  cases h
  obtain rfl := hO _ rfl
  exact th_X1_111_113 K KX dX1_mend_16 dX1_mend_19 dX1_mend_20 dX1_mend_22 dX1_mend_25 hex (by decide) (by decide) (by decide) (by decide) (by decide) (by decide)
set_option maxRecDepth 20000 in
theorem mX1_mend (l : Launch) (w : kW) (σ : kS) (x1 : Int32) (x2 : Int32) {o : ((String ⊕ Int32) × kS)} (h : fX1_mend σ x1 x2 = some o) : vx_Met l yX1_mend (Cond.code yX1_mend cX1_mend 4 (some .int) :: TB) rmX1_mend (va_Pc [.ref (kL w 0), .int x1, .int x2] (kPX w l σ)) (kXi w o.1 o.2) (kXX w o.1 o.2) 2 12 (kA w) := by
  refine k_metX (by decide) [.ref (kL w 0), .int x1, .int x2] (Nat.le_of_ble_eq_true rfl) (by simp [lv_args, Value.category]) ?_
  intro p e s m args below meth c K KX hret hex
  have K : kC w p s m args meth c cX1_mend 4 RX1 := K
  obtain ⟨r, hro⟩ : ∃ r, r = o := ⟨o, rfl⟩
  rw [← hro] at h
  have hO : ∀ z, r = z → z = o := fun z e => by rw [← e]; exact hro
  unfold fX1_mend at h
  refine k_aload_n K dX1_mend_0 0 rfl ?_
  refine k_iload_n K dX1_mend_1 1 rfl ?_
  replace h := k_bd h
  obtain ⟨r1, hr1, h⟩ := h
  replace h := k_sm h
  rcases h with ⟨e3, z4, h⟩ | ⟨v2, z4, h⟩
  · cases h
    obtain rfl := hO _ rfl
    exact clE_X1_78 K KX hex dX1_mend_2 hr1 z4 (by decide) (Nat.le_of_ble_eq_true rfl) (by decide) (by decide) (by decide)
  · refine clX_X1_78 K KX hex dX1_mend_2 hr1 z4 (by decide) (Nat.le_of_ble_eq_true rfl) (by decide) ?_
    refine k_astore_n (lv' := [(3, .ref (kL w v2)), (0, .ref (kL w 0)), (1, .int x1), (2, .int x2)]) K dX1_mend_5 (by decide) rfl ?_
    refine k_iload_n K dX1_mend_6 3 rfl ?_
    replace h := k_br h
    rcases h with ⟨b5, h⟩ | ⟨b5, h⟩
    · refine k_if_lt K 16 dX1_mend_7 (by decide) (fun _ => ?_) (fun q => absurd b5 q)
      refine k_sub [] rfl ?_
      exact pX1_mend_16 K KX hret hex h hO
    · refine k_if_lt K 16 dX1_mend_7 (by decide) (fun q => absurd q b5) (fun _ => ?_)
      refine k_iload_n K dX1_mend_10 3 rfl ?_
      refine k_bipush (v := 8) K dX1_mend_11 (by decide) ?_
      replace h := k_br h
      rcases h with ⟨b6, h⟩ | ⟨b6, h⟩
      · refine k_icmp_lt K 26 dX1_mend_13 (by decide) (fun _ => ?_) (fun q => absurd b6 q)
        refine k_aload_n K dX1_mend_26 1 rfl ?_
        refine k_aload_n K dX1_mend_27 0 rfl ?_
        refine k_iload_n K dX1_mend_28 3 rfl ?_
        replace h := k_bd h
        obtain ⟨r7, hr7, h⟩ := h
        refine cl_X1_116 K dX1_mend_29 hr7 (by decide) (Nat.le_of_ble_eq_true rfl) (by decide) ?_
        refine k_aload_n K dX1_mend_32 0 rfl ?_
        replace h := k_gd h
        obtain ⟨g8, h⟩ := h
        refine fg_X1_120 K dX1_mend_33 g8 ?_
        refine k_iload_n K dX1_mend_36 3 rfl ?_
        replace h := k_gd h
        obtain ⟨g9, h⟩ := h
        refine k_iald K dX1_mend_37 (kd_m0 g8).2.1 g9 ?_
        cases h
        obtain rfl := hO _ rfl
        exact k_iretX (v := r7.1 (v2 + 1 + 1) x2.toNatClampNeg) K hret dX1_mend_38 (by decide) (by decide)
      · refine k_icmp_lt K 26 dX1_mend_13 (by decide) (fun q => absurd q b6) (fun _ => ?_)
        refine k_sub [] rfl ?_
        exact pX1_mend_16 K KX hret hex h hO
end F_X1_mend
section F_X1_handOver
variable {w : kW} {p : Program} {l : Launch} {e : Env} {s : State} {m : MethodId} {args : Array Value} {below : List Frame} {meth : Method} {c : Code}
def fX1_handOver (σ : kS) (x1 : Int32) : Option ((String ⊕ Int32) × kS) :=
  (fX1_find σ x1).bind fun r1 =>
  ksm r1 (fun e3 => some ((.inl e3, σ))) fun v2 =>
  (fX1_takeFromSuccessor σ v2).bind fun r5 =>
  some ((.inr r5.1, r5.2))
def rmX1_handOver : Room := { frames := 7, cells := 1, slots := 6, locals := 112 }
set_option maxRecDepth 20000 in
theorem mX1_handOver (l : Launch) (w : kW) (σ : kS) (x1 : Int32) {o : ((String ⊕ Int32) × kS)} (h : fX1_handOver σ x1 = some o) : vx_Met l yX1_handOver (Cond.code yX1_handOver cX1_handOver 2 (some .int) :: TB) rmX1_handOver (va_Pc [.ref (kL w 0), .int x1] (kPX w l σ)) (kXi w o.1 o.2) (kXX w o.1 o.2) 1 6 (kA w) := by
  refine k_metX (by decide) [.ref (kL w 0), .int x1] (Nat.le_of_ble_eq_true rfl) (by simp [lv_args, Value.category]) ?_
  intro p e s m args below meth c K KX hret hex
  have K : kC w p s m args meth c cX1_handOver 2 RX1 := K
  obtain ⟨r, hro⟩ : ∃ r, r = o := ⟨o, rfl⟩
  rw [← hro] at h
  have hO : ∀ z, r = z → z = o := fun z e => by rw [← e]; exact hro
  unfold fX1_handOver at h
  refine k_aload_n K dX1_handOver_0 0 rfl ?_
  refine k_aload_n K dX1_handOver_1 0 rfl ?_
  refine k_iload_n K dX1_handOver_2 1 rfl ?_
  replace h := k_bd h
  obtain ⟨r1, hr1, h⟩ := h
  replace h := k_sm h
  rcases h with ⟨e3, z4, h⟩ | ⟨v2, z4, h⟩
  · cases h
    obtain rfl := hO _ rfl
    exact clE_X1_78 K KX hex dX1_handOver_3 hr1 z4 (by decide) (Nat.le_of_ble_eq_true rfl) (by decide) (by decide) (by decide)
  · refine clX_X1_78 K KX hex dX1_handOver_3 hr1 z4 (by decide) (Nat.le_of_ble_eq_true rfl) (by decide) ?_
    replace h := k_bd h
    obtain ⟨r5, hr5, h⟩ := h
    refine cl_X1_123 K dX1_handOver_6 hr5 (by decide) (Nat.le_of_ble_eq_true rfl) (by decide) ?_
    cases h
    obtain rfl := hO _ rfl
    exact k_iretX (v := r5.1) K hret dX1_handOver_9 (by decide) (by decide)
end F_X1_handOver
section F_X1_spread
variable {w : kW} {p : Program} {l : Launch} {e : Env} {s : State} {m : MethodId} {args : Array Value} {below : List Frame} {meth : Method} {c : Code}
def fX1_spread (σ : kS) (x1 : Int32) : Option ((String ⊕ Int32) × kS) :=
  (fX1_find σ x1).bind fun r1 =>
  ksm r1 (fun e3 => some ((.inl e3, σ))) fun v2 =>
  (fX1_spreadFrom σ v2).bind fun r5 =>
  some ((.inr r5.1, r5.2))
def rmX1_spread : Room := { frames := 7, cells := 1, slots := 6, locals := 112 }
set_option maxRecDepth 20000 in
theorem mX1_spread (l : Launch) (w : kW) (σ : kS) (x1 : Int32) {o : ((String ⊕ Int32) × kS)} (h : fX1_spread σ x1 = some o) : vx_Met l yX1_spread (Cond.code yX1_spread cX1_spread 2 (some .int) :: TB) rmX1_spread (va_Pc [.ref (kL w 0), .int x1] (kPX w l σ)) (kXi w o.1 o.2) (kXX w o.1 o.2) 1 6 (kA w) := by
  refine k_metX (by decide) [.ref (kL w 0), .int x1] (Nat.le_of_ble_eq_true rfl) (by simp [lv_args, Value.category]) ?_
  intro p e s m args below meth c K KX hret hex
  have K : kC w p s m args meth c cX1_spread 2 RX1 := K
  obtain ⟨r, hro⟩ : ∃ r, r = o := ⟨o, rfl⟩
  rw [← hro] at h
  have hO : ∀ z, r = z → z = o := fun z e => by rw [← e]; exact hro
  unfold fX1_spread at h
  refine k_aload_n K dX1_spread_0 0 rfl ?_
  refine k_aload_n K dX1_spread_1 0 rfl ?_
  refine k_iload_n K dX1_spread_2 1 rfl ?_
  replace h := k_bd h
  obtain ⟨r1, hr1, h⟩ := h
  replace h := k_sm h
  rcases h with ⟨e3, z4, h⟩ | ⟨v2, z4, h⟩
  · cases h
    obtain rfl := hO _ rfl
    exact clE_X1_78 K KX hex dX1_spread_3 hr1 z4 (by decide) (Nat.le_of_ble_eq_true rfl) (by decide) (by decide) (by decide)
  · refine clX_X1_78 K KX hex dX1_spread_3 hr1 z4 (by decide) (Nat.le_of_ble_eq_true rfl) (by decide) ?_
    replace h := k_bd h
    obtain ⟨r5, hr5, h⟩ := h
    refine cl_X1_127 K dX1_spread_6 hr5 (by decide) (Nat.le_of_ble_eq_true rfl) (by decide) ?_
    cases h
    obtain rfl := hO _ rfl
    exact k_iretX (v := r5.1) K hret dX1_spread_9 (by decide) (by decide)
end F_X1_spread
section F_X1_rounds
variable {w : kW} {p : Program} {l : Launch} {e : Env} {s : State} {m : MethodId} {args : Array Value} {below : List Frame} {meth : Method} {c : Code}
def gX1_rounds_49 (x1 : Int32) (x3 : Int32) (x2 : Int32) (x4 : Int32) (σ : kS) : Option ((Int32 × Int32 × kS) ⊕ ((Int32 × Int32 × kS) ⊕ ((String ⊕ Int32) × kS))) :=
  if (σ.1 0 9) ≤ x4 then
    some (.inr (.inl (x2, x3 + 1, σ)))
  else
    if vpi x4 20 then
      (σ.2.1 1 x4.toNatClampNeg).bind fun q3 =>
      (fX1_takeTurn σ q3).bind fun r4 =>
      some (.inl (x2 + r4.1, x4 + 1, r4.2))
    else none
def fX1_rounds_49 (x1 : Int32) (x3 : Int32) (a : Int32 × Int32 × kS) : Option ((Int32 × Int32 × kS) ⊕ ((Int32 × Int32 × kS) ⊕ ((String ⊕ Int32) × kS))) := gX1_rounds_49 x1 x3 a.1 a.2.1 a.2.2
def gX1_rounds_41 (x1 : Int32) (x2 : Int32) (x3 : Int32) (σ : kS) : Option ((Int32 × Int32 × kS) ⊕ ((String ⊕ Int32) × kS)) :=
  if x1 ≤ x3 then
    some (.inr ((.inr x2, σ)))
  else
    kit (fX1_rounds_49 x1 x3) 300 (x2, 0, σ)
def fX1_rounds_41 (x1 : Int32) (a : Int32 × Int32 × kS) : Option ((Int32 × Int32 × kS) ⊕ ((String ⊕ Int32) × kS)) := gX1_rounds_41 x1 a.1 a.2.1 a.2.2
def fX1_rounds_10 (σ : kS) : Option ((String ⊕ Int32) × kS) :=
  some ((.inl "java/lang/IllegalArgumentException", σ))
def fX1_rounds (σ : kS) (x1 : Int32) : Option ((String ⊕ Int32) × kS) :=
  if x1 < 0 then
    fX1_rounds_10 σ
  else
    if x1 ≤ 40 then
      if (σ.1 0 8) = 0 then
        some ((.inl "java/lang/IllegalStateException", σ))
      else
        kit (fX1_rounds_41 x1) 300 (0, 0, σ)
    else
      fX1_rounds_10 σ
def rmX1_rounds : Room := { frames := 7, cells := 1, slots := 6, locals := 155 }
set_option maxRecDepth 20000 in
theorem pX1_rounds_49 (K : kC w p s m args meth c cX1_rounds 5 RX1) (KX : kX w l s) (hret : meth.sig.returnType = (some .int)) (hex : ∀ x ∈ c.exceptionTable.toList, False) {x1 : Int32} {x3 : Int32} {x2 : Int32} {x4 : Int32} {σ : kS} {r : ((Int32 × Int32 × kS) ⊕ ((Int32 × Int32 × kS) ⊕ ((String ⊕ Int32) × kS)))} {o : ((String ⊕ Int32) × kS)} (h : gX1_rounds_49 x1 x3 x2 x4 σ = some r) (hL41 : ∀ z, r = .inr (.inl z) → kG w p l e rmX1_rounds s m args below meth c (vx_MQ below (kXi w o.1 o.2) (kXX w o.1 o.2) args s 1 6 (kA w)) 5 z.2.2 41 [(0, .ref (kL w 0)), (1, .int x1), (2, .int (z.1)), (3, .int (z.2.1))] [] 0 0) (hL49 : ∀ z, r = .inl z → kG w p l e rmX1_rounds s m args below meth c (vx_MQ below (kXi w o.1 o.2) (kXX w o.1 o.2) args s 1 6 (kA w)) 5 z.2.2 49 [(0, .ref (kL w 0)), (1, .int x1), (2, .int (z.1)), (3, .int x3), (4, .int (z.2.1))] [] 0 0) (hO : ∀ z, r = .inr (.inr z) → z = o) : kG w p l e rmX1_rounds s m args below meth c (vx_MQ below (kXi w o.1 o.2) (kXX w o.1 o.2) args s 1 6 (kA w)) 5 σ 49 [(0, .ref (kL w 0)), (1, .int x1), (2, .int x2), (3, .int x3), (4, .int x4)] [] 0 0 := by
  unfold gX1_rounds_49 at h
  refine k_iload K dX1_rounds_49 4 rfl ?_
  refine k_aload_n K dX1_rounds_51 0 rfl ?_
  refine fg_X1_41 K dX1_rounds_52 ?_
  replace h := k_br h
  rcases h with ⟨b1, h⟩ | ⟨b1, h⟩
  · refine k_icmp_ge K 78 dX1_rounds_55 (by decide) (fun _ => ?_) (fun q => absurd b1 q)
    refine k_iinc (v := 1) (lv' := [(3, .int (x3 + 1)), (0, .ref (kL w 0)), (1, .int x1), (2, .int x2), (4, .int x4)]) K dX1_rounds_78 3 rfl (by decide) (by decide) rfl ?_
    refine k_goto K 41 dX1_rounds_81 (by decide) ?_
    refine k_sub [1, 2, 3, 0] rfl ?_
    cases h
    exact hL41 _ rfl
  · refine k_icmp_ge K 78 dX1_rounds_55 (by decide) (fun q => absurd q b1) (fun _ => ?_)
    refine k_iload_n K dX1_rounds_58 2 rfl ?_
    refine k_aload_n K dX1_rounds_59 0 rfl ?_
    refine k_aload_n K dX1_rounds_60 0 rfl ?_
    refine fg_X1_11 K dX1_rounds_61 ?_
    refine k_iload K dX1_rounds_64 4 rfl ?_
    replace h := k_gd h
    obtain ⟨g2, h⟩ := h
    refine k_aald K dX1_rounds_66 kd_1 g2 ?_
    replace h := k_bd h
    obtain ⟨q3, hq3, h⟩ := h
    rw [hq3]
    replace h := k_bd h
    obtain ⟨r4, hr4, h⟩ := h
    refine cl_X1_134 K dX1_rounds_67 hr4 (by decide) (Nat.le_of_ble_eq_true rfl) (by decide) ?_
    refine k_iadd K dX1_rounds_70 ?_
    refine k_istore_n (lv' := [(2, .int (x2 + r4.1)), (0, .ref (kL w 0)), (1, .int x1), (3, .int x3), (4, .int x4)]) K dX1_rounds_71 (by decide) rfl ?_
    refine k_iinc (v := 1) (lv' := [(4, .int (x4 + 1)), (2, .int (x2 + r4.1)), (0, .ref (kL w 0)), (1, .int x1), (3, .int x3)]) K dX1_rounds_72 4 rfl (by decide) (by decide) rfl ?_
    refine k_goto K 49 dX1_rounds_75 (by decide) ?_
    refine k_sub [2, 3, 1, 4, 0] rfl ?_
    cases h
    exact hL49 _ rfl
set_option maxRecDepth 20000 in
theorem lX1_rounds_49 (K : kC w p s m args meth c cX1_rounds 5 RX1) (KX : kX w l s) (hret : meth.sig.returnType = (some .int)) (hex : ∀ x ∈ c.exceptionTable.toList, False) {x1 : Int32} {x3 : Int32} {n : Nat} {a : Int32 × Int32 × kS} {r : ((Int32 × Int32 × kS) ⊕ ((String ⊕ Int32) × kS))} {o : ((String ⊕ Int32) × kS)} (h : kit (fX1_rounds_49 x1 x3) n a = some r) (hL41 : ∀ z, r = .inl z → kG w p l e rmX1_rounds s m args below meth c (vx_MQ below (kXi w o.1 o.2) (kXX w o.1 o.2) args s 1 6 (kA w)) 5 z.2.2 41 [(0, .ref (kL w 0)), (1, .int x1), (2, .int (z.1)), (3, .int (z.2.1))] [] 0 0) (hO : ∀ z, r = .inr z → z = o) : kG w p l e rmX1_rounds s m args below meth c (vx_MQ below (kXi w o.1 o.2) (kXX w o.1 o.2) args s 1 6 (kA w)) 5 a.2.2 49 [(0, .ref (kL w 0)), (1, .int x1), (2, .int (a.1)), (3, .int x3), (4, .int (a.2.1))] [] 0 0 :=
  kit_ind (body := fX1_rounds_49 x1 x3) (fun a r => (∀ z, r = .inl z → kG w p l e rmX1_rounds s m args below meth c (vx_MQ below (kXi w o.1 o.2) (kXX w o.1 o.2) args s 1 6 (kA w)) 5 z.2.2 41 [(0, .ref (kL w 0)), (1, .int x1), (2, .int (z.1)), (3, .int (z.2.1))] [] 0 0) → (∀ z, r = .inr z → z = o) → kG w p l e rmX1_rounds s m args below meth c (vx_MQ below (kXi w o.1 o.2) (kXX w o.1 o.2) args s 1 6 (kA w)) 5 a.2.2 49 [(0, .ref (kL w 0)), (1, .int x1), (2, .int (a.1)), (3, .int x3), (4, .int (a.2.1))] [] 0 0) (fun a a2 r hb ih hL41 hO => pX1_rounds_49 K KX hret hex hb (fun _ e => by cases e) (fun z e => by cases e; exact ih hL41 hO) (fun _ e => by cases e)) (fun a r hb hL41 hO => pX1_rounds_49 K KX hret hex hb (fun z e => hL41 z (by cases e; rfl)) (fun _ e => by cases e) (fun z e => hO z (by cases e; rfl))) n a r h hL41 hO
set_option maxRecDepth 20000 in
theorem pX1_rounds_41 (K : kC w p s m args meth c cX1_rounds 5 RX1) (KX : kX w l s) (hret : meth.sig.returnType = (some .int)) (hex : ∀ x ∈ c.exceptionTable.toList, False) {x1 : Int32} {x2 : Int32} {x3 : Int32} {σ : kS} {r : ((Int32 × Int32 × kS) ⊕ ((String ⊕ Int32) × kS))} {o : ((String ⊕ Int32) × kS)} (h : gX1_rounds_41 x1 x2 x3 σ = some r) (hL41 : ∀ z, r = .inl z → kG w p l e rmX1_rounds s m args below meth c (vx_MQ below (kXi w o.1 o.2) (kXX w o.1 o.2) args s 1 6 (kA w)) 5 z.2.2 41 [(0, .ref (kL w 0)), (1, .int x1), (2, .int (z.1)), (3, .int (z.2.1))] [] 0 0) (hO : ∀ z, r = .inr z → z = o) : kG w p l e rmX1_rounds s m args below meth c (vx_MQ below (kXi w o.1 o.2) (kXX w o.1 o.2) args s 1 6 (kA w)) 5 σ 41 [(0, .ref (kL w 0)), (1, .int x1), (2, .int x2), (3, .int x3)] [] 0 0 := by
  unfold gX1_rounds_41 at h
  refine k_iload_n K dX1_rounds_41 3 rfl ?_
  refine k_iload_n K dX1_rounds_42 1 rfl ?_
  replace h := k_br h
  rcases h with ⟨b1, h⟩ | ⟨b1, h⟩
  · refine k_icmp_ge K 84 dX1_rounds_43 (by decide) (fun _ => ?_) (fun q => absurd b1 q)
    refine k_iload_n K dX1_rounds_84 2 rfl ?_
    cases h
    obtain rfl := hO _ rfl
    exact k_iretX K hret dX1_rounds_85 (by decide) (by decide)
  · refine k_icmp_ge K 84 dX1_rounds_43 (by decide) (fun q => absurd q b1) (fun _ => ?_)
    refine k_iconst (v := 0) K dX1_rounds_46 (by decide) ?_
    refine k_istore (lv' := [(4, .int 0), (0, .ref (kL w 0)), (1, .int x1), (2, .int x2), (3, .int x3)]) K dX1_rounds_47 (by decide) rfl ?_
    refine k_sub [1, 2, 3, 4, 0] rfl ?_
    exact lX1_rounds_49 K KX hret hex h hL41 hO
set_option maxRecDepth 20000 in
theorem lX1_rounds_41 (K : kC w p s m args meth c cX1_rounds 5 RX1) (KX : kX w l s) (hret : meth.sig.returnType = (some .int)) (hex : ∀ x ∈ c.exceptionTable.toList, False) {x1 : Int32} {n : Nat} {a : Int32 × Int32 × kS} {r : ((String ⊕ Int32) × kS)} {o : ((String ⊕ Int32) × kS)} (h : kit (fX1_rounds_41 x1) n a = some r) (hO : ∀ z, r = z → z = o) : kG w p l e rmX1_rounds s m args below meth c (vx_MQ below (kXi w o.1 o.2) (kXX w o.1 o.2) args s 1 6 (kA w)) 5 a.2.2 41 [(0, .ref (kL w 0)), (1, .int x1), (2, .int (a.1)), (3, .int (a.2.1))] [] 0 0 :=
  kit_ind (body := fX1_rounds_41 x1) (fun a r => (∀ z, r = z → z = o) → kG w p l e rmX1_rounds s m args below meth c (vx_MQ below (kXi w o.1 o.2) (kXX w o.1 o.2) args s 1 6 (kA w)) 5 a.2.2 41 [(0, .ref (kL w 0)), (1, .int x1), (2, .int (a.1)), (3, .int (a.2.1))] [] 0 0) (fun a a2 r hb ih hO => pX1_rounds_41 K KX hret hex hb (fun z e => by cases e; exact ih hO) (fun _ e => by cases e)) (fun a r hb hO => pX1_rounds_41 K KX hret hex hb (fun _ e => by cases e) (fun z e => hO z (by cases e; rfl))) n a r h hO
set_option maxRecDepth 20000 in
theorem pX1_rounds_10 (K : kC w p s m args meth c cX1_rounds 5 RX1) (KX : kX w l s) (hret : meth.sig.returnType = (some .int)) (hex : ∀ x ∈ c.exceptionTable.toList, False) {σ : kS} {r : ((String ⊕ Int32) × kS)} {o : ((String ⊕ Int32) × kS)} (h : fX1_rounds_10 σ = some r) (hO : ∀ z, r = z → z = o) : kG w p l e rmX1_rounds s m args below meth c (vx_MQ below (kXi w o.1 o.2) (kXX w o.1 o.2) args s 1 6 (kA w)) 5 σ 10 [] [] 0 0 := by
  unfold fX1_rounds_10 at h
  cases h
  obtain rfl := hO _ rfl
  exact th_X1_34_130 K KX dX1_rounds_10 dX1_rounds_13 dX1_rounds_14 dX1_rounds_16 dX1_rounds_19 hex (by decide) (by decide) (by decide) (by decide) (by decide) (by decide)
set_option maxRecDepth 20000 in
theorem mX1_rounds (l : Launch) (w : kW) (σ : kS) (x1 : Int32) {o : ((String ⊕ Int32) × kS)} (h : fX1_rounds σ x1 = some o) : vx_Met l yX1_rounds (Cond.code yX1_rounds cX1_rounds 5 (some .int) :: TB) rmX1_rounds (va_Pc [.ref (kL w 0), .int x1] (kPX w l σ)) (kXi w o.1 o.2) (kXX w o.1 o.2) 1 6 (kA w) := by
  refine k_metX (by decide) [.ref (kL w 0), .int x1] (Nat.le_of_ble_eq_true rfl) (by simp [lv_args, Value.category]) ?_
  intro p e s m args below meth c K KX hret hex
  have K : kC w p s m args meth c cX1_rounds 5 RX1 := K
  obtain ⟨r, hro⟩ : ∃ r, r = o := ⟨o, rfl⟩
  rw [← hro] at h
  have hO : ∀ z, r = z → z = o := fun z e => by rw [← e]; exact hro
  unfold fX1_rounds at h
  refine k_iload_n K dX1_rounds_0 1 rfl ?_
  replace h := k_br h
  rcases h with ⟨b1, h⟩ | ⟨b1, h⟩
  · refine k_if_lt K 10 dX1_rounds_1 (by decide) (fun _ => ?_) (fun q => absurd b1 q)
    refine k_sub [] rfl ?_
    exact pX1_rounds_10 K KX hret hex h hO
  · refine k_if_lt K 10 dX1_rounds_1 (by decide) (fun q => absurd q b1) (fun _ => ?_)
    refine k_iload_n K dX1_rounds_4 1 rfl ?_
    refine k_bipush (v := 40) K dX1_rounds_5 (by decide) ?_
    replace h := k_br h
    rcases h with ⟨b2, h⟩ | ⟨b2, h⟩
    · refine k_icmp_le K 20 dX1_rounds_7 (by decide) (fun _ => ?_) (fun q => absurd b2 q)
      refine k_aload_n K dX1_rounds_20 0 rfl ?_
      refine fg_X1_53 K dX1_rounds_21 ?_
      replace h := k_br h
      rcases h with ⟨b3, h⟩ | ⟨b3, h⟩
      · refine k_if_ne K 37 dX1_rounds_24 (by decide) (fun q => absurd b3 q) (fun _ => ?_)
        cases h
        obtain rfl := hO _ rfl
        exact th_X1_44_132 K KX dX1_rounds_27 dX1_rounds_30 dX1_rounds_31 dX1_rounds_33 dX1_rounds_36 hex (by decide) (by decide) (by decide) (by decide) (by decide) (by decide)
      · refine k_if_ne K 37 dX1_rounds_24 (by decide) (fun _ => ?_) (fun q => absurd q b3)
        refine k_iconst (v := 0) K dX1_rounds_37 (by decide) ?_
        refine k_istore_n (lv' := [(2, .int 0), (0, .ref (kL w 0)), (1, .int x1)]) K dX1_rounds_38 (by decide) rfl ?_
        refine k_iconst (v := 0) K dX1_rounds_39 (by decide) ?_
        refine k_istore_n (lv' := [(3, .int 0), (2, .int 0), (0, .ref (kL w 0)), (1, .int x1)]) K dX1_rounds_40 (by decide) rfl ?_
        refine k_sub [2, 3, 1, 0] rfl ?_
        exact lX1_rounds_41 K KX hret hex h hO
    · refine k_icmp_le K 20 dX1_rounds_7 (by decide) (fun q => absurd q b2) (fun _ => ?_)
      refine k_sub [] rfl ?_
      exact pX1_rounds_10 K KX hret hex h hO
end F_X1_rounds
section F_X1_look
variable {w : kW} {p : Program} {l : Launch} {e : Env} {s : State} {m : MethodId} {args : Array Value} {below : List Frame} {meth : Method} {c : Code}
def fX1_look (σ : kS) (x1 : Int32) (x2 : Int32) : Option ((String ⊕ Int32) × kS) :=
  (fX1_find σ x1).bind fun r1 =>
  ksm r1 (fun e3 => some ((.inl e3, σ))) fun v2 =>
  (fX1_requirePoint x2).bind fun r5 =>
  ksm r5 (fun e7 => some ((.inl e7, σ))) fun v6 =>
  (fX1_lookFor σ v2 x2).bind fun r9 =>
  if kd r9.1 = (0, 0, 8) then
    some ((.inr ((sI (sC r9.2 124 125 20) 0 6 ((sC r9.2 124 125 20).1 0 4)).1 r9.1 5), sI (sC r9.2 124 125 20) 0 6 ((sC r9.2 124 125 20).1 0 4)))
  else none
def rmX1_look : Room := { frames := 7, cells := 2, slots := 12, locals := 112 }
set_option maxRecDepth 20000 in
theorem mX1_look (l : Launch) (w : kW) (σ : kS) (x1 : Int32) (x2 : Int32) {o : ((String ⊕ Int32) × kS)} (h : fX1_look σ x1 x2 = some o) : vx_Met l yX1_look (Cond.code yX1_look cX1_look 5 (some .int) :: TB) rmX1_look (va_Pc [.ref (kL w 0), .int x1, .int x2] (kPX w l σ)) (kXi w o.1 o.2) (kXX w o.1 o.2) 2 12 (kA w) := by
  refine k_metX (by decide) [.ref (kL w 0), .int x1, .int x2] (Nat.le_of_ble_eq_true rfl) (by simp [lv_args, Value.category]) ?_
  intro p e s m args below meth c K KX hret hex
  have K : kC w p s m args meth c cX1_look 5 RX1 := K
  obtain ⟨r, hro⟩ : ∃ r, r = o := ⟨o, rfl⟩
  rw [← hro] at h
  have hO : ∀ z, r = z → z = o := fun z e => by rw [← e]; exact hro
  unfold fX1_look at h
  refine k_aload_n K dX1_look_0 0 rfl ?_
  refine k_iload_n K dX1_look_1 1 rfl ?_
  replace h := k_bd h
  obtain ⟨r1, hr1, h⟩ := h
  replace h := k_sm h
  rcases h with ⟨e3, z4, h⟩ | ⟨v2, z4, h⟩
  · cases h
    obtain rfl := hO _ rfl
    exact clE_X1_78 K KX hex dX1_look_2 hr1 z4 (by decide) (Nat.le_of_ble_eq_true rfl) (by decide) (by decide) (by decide)
  · refine clX_X1_78 K KX hex dX1_look_2 hr1 z4 (by decide) (Nat.le_of_ble_eq_true rfl) (by decide) ?_
    refine k_astore_n (lv' := [(3, .ref (kL w v2)), (0, .ref (kL w 0)), (1, .int x1), (2, .int x2)]) K dX1_look_5 (by decide) rfl ?_
    refine k_iload_n K dX1_look_6 3 rfl ?_
    replace h := k_bd h
    obtain ⟨r5, hr5, h⟩ := h
    replace h := k_sm h
    rcases h with ⟨e7, z8, h⟩ | ⟨v6, z8, h⟩
    · cases h
      obtain rfl := hO _ rfl
      exact clE_X1_49 K KX hex dX1_look_7 hr5 z8 (by decide) (Nat.le_of_ble_eq_true rfl) (by decide) (by decide) (by decide)
    · refine clX_X1_49 K KX hex dX1_look_7 hr5 z8 (by decide) (Nat.le_of_ble_eq_true rfl) (by decide) ?_
      refine k_aload_n K dX1_look_10 1 rfl ?_
      refine k_aload_n K dX1_look_11 0 rfl ?_
      refine k_iload_n K dX1_look_12 3 rfl ?_
      replace h := k_bd h
      obtain ⟨r9, hr9, h⟩ := h
      refine cl_X1_81 K dX1_look_13 hr9 (by decide) (Nat.le_of_ble_eq_true rfl) (by decide) ?_
      refine k_astore (lv' := [(4, .ref (kL w (r9.1))), (3, .ref (kL w v2)), (0, .ref (kL w 0)), (1, .int x1), (2, .int x2)]) K dX1_look_16 (by decide) rfl ?_
      refine k_aload_n K dX1_look_18 2 rfl ?_
      refine fg_X1_23 K dX1_look_19 ?_
      refine k_iconst (v := 0) K dX1_look_22 (by decide) ?_
      refine k_aload_n K dX1_look_23 2 rfl ?_
      refine fg_X1_27 K dX1_look_24 ?_
      refine k_iconst (v := 0) K dX1_look_27 (by decide) ?_
      refine k_bipush (v := 20) K dX1_look_28 (by decide) ?_
      refine k_acopy (a := 124) (b := 125) (N := 20) K dX1_look_30 tw_ac1 tw_ac2 tw_ac3 tw_ac4 kd_124 kd_125 (by decide) (by decide) (by decide) (by decide) (by decide) (by decide) ?_
      refine k_aload_n K dX1_look_33 2 rfl ?_
      refine k_aload_n K dX1_look_34 2 rfl ?_
      refine fg_X1_143 K dX1_look_35 ?_
      refine fp_X1_146 K dX1_look_38 ?_
      refine k_aload K dX1_look_41 0 rfl ?_
      replace h := k_gd h
      obtain ⟨g10, h⟩ := h
      refine fg_X1_89 K dX1_look_43 g10 ?_
      cases h
      obtain rfl := hO _ rfl
      exact k_iretX (v := (sI (sC r9.2 124 125 20) 0 6 ((sC r9.2 124 125 20).1 0 4)).1 r9.1 5) K hret dX1_look_46 (by decide) (by decide)
end F_X1_look
section F_X1_hop
variable {w : kW} {p : Program} {l : Launch} {e : Env} {s : State} {m : MethodId} {args : Array Value} {below : List Frame} {meth : Method} {c : Code}
def fX1_hop_12 (σ : kS) : Option (String ⊕ Int32) :=
  some (.inl "java/util/NoSuchElementException")
def fX1_hop (σ : kS) (x1 : Int32) : Option (String ⊕ Int32) :=
  if x1 < 0 then
    fX1_hop_12 σ
  else
    if x1 < (σ.1 0 6) then
      if vpi x1 20 then
        some (.inr (σ.1 125 x1.toNatClampNeg))
      else none
    else
      fX1_hop_12 σ
def rmX1_hop : Room := { frames := 6, cells := 1, slots := 6, locals := 90 }
set_option maxRecDepth 20000 in
theorem pX1_hop_12 (K : kC w p s m args meth c cX1_hop 2 RX1) (KX : kX w l s) (hret : meth.sig.returnType = (some .int)) (hex : ∀ x ∈ c.exceptionTable.toList, False) {σ : kS} {r : (String ⊕ Int32)} {o : (String ⊕ Int32)} (h : fX1_hop_12 σ = some r) (hO : ∀ z, r = z → z = o) : kG w p l e rmX1_hop s m args below meth c (vx_MQ below (kXi w o σ) (kXX w o σ) args s 1 6 (kA w)) 2 σ 12 [] [] 0 0 := by
  unfold fX1_hop_12 at h
  cases h
  obtain rfl := hO _ rfl
  exact th_X1_111_149 K KX dX1_hop_12 dX1_hop_15 dX1_hop_16 dX1_hop_18 dX1_hop_21 hex (by decide) (by decide) (by decide) (by decide) (by decide) (by decide)
set_option maxRecDepth 20000 in
theorem mX1_hop (l : Launch) (w : kW) (σ : kS) (x1 : Int32) {o : (String ⊕ Int32)} (h : fX1_hop σ x1 = some o) : vx_Met l yX1_hop (Cond.code yX1_hop cX1_hop 2 (some .int) :: TB) rmX1_hop (va_Pc [.ref (kL w 0), .int x1] (kPX w l σ)) (kXi w o σ) (kXX w o σ) 1 6 (kA w) := by
  refine k_metX (by decide) [.ref (kL w 0), .int x1] (Nat.le_of_ble_eq_true rfl) (by simp [lv_args, Value.category]) ?_
  intro p e s m args below meth c K KX hret hex
  have K : kC w p s m args meth c cX1_hop 2 RX1 := K
  obtain ⟨r, hro⟩ : ∃ r, r = o := ⟨o, rfl⟩
  rw [← hro] at h
  have hO : ∀ z, r = z → z = o := fun z e => by rw [← e]; exact hro
  unfold fX1_hop at h
  refine k_iload_n K dX1_hop_0 1 rfl ?_
  replace h := k_br h
  rcases h with ⟨b1, h⟩ | ⟨b1, h⟩
  · refine k_if_lt K 12 dX1_hop_1 (by decide) (fun _ => ?_) (fun q => absurd b1 q)
    refine k_sub [] rfl ?_
    exact pX1_hop_12 K KX hret hex h hO
  · refine k_if_lt K 12 dX1_hop_1 (by decide) (fun q => absurd q b1) (fun _ => ?_)
    refine k_iload_n K dX1_hop_4 1 rfl ?_
    refine k_aload_n K dX1_hop_5 0 rfl ?_
    refine fg_X1_146 K dX1_hop_6 ?_
    replace h := k_br h
    rcases h with ⟨b2, h⟩ | ⟨b2, h⟩
    · refine k_icmp_lt K 22 dX1_hop_9 (by decide) (fun _ => ?_) (fun q => absurd b2 q)
      refine k_aload_n K dX1_hop_22 0 rfl ?_
      refine fg_X1_27 K dX1_hop_23 ?_
      refine k_iload_n K dX1_hop_26 1 rfl ?_
      replace h := k_gd h
      obtain ⟨g3, h⟩ := h
      refine k_iald K dX1_hop_27 kd_125 g3 ?_
      cases h
      obtain rfl := hO _ rfl
      exact k_iretX (v := σ.1 125 x1.toNatClampNeg) K hret dX1_hop_28 (by decide) (by decide)
    · refine k_icmp_lt K 22 dX1_hop_9 (by decide) (fun q => absurd q b2) (fun _ => ?_)
      refine k_sub [] rfl ?_
      exact pX1_hop_12 K KX hret hex h hO
end F_X1_hop
section F_X1_requireKey
variable {w : kW} {p : Program} {l : Launch} {e : Env} {s : State} {m : MethodId} {args : Array Value} {below : List Frame} {meth : Method} {c : Code}
def fX1_requireKey_10 : Option (String ⊕ Unit) :=
  some (.inl "java/util/NoSuchElementException")
def fX1_requireKey (x0 : Int32) : Option (String ⊕ Unit) :=
  if x0 < 0 then
    fX1_requireKey_10 
  else
    if x0 < 64 then
      some (.inr ())
    else
      fX1_requireKey_10 
def rmX1_requireKey : Room := { frames := 6, cells := 1, slots := 6, locals := 90 }
set_option maxRecDepth 20000 in
theorem pX1_requireKey_10 {σ0 : kS} (K : kC w p s m args meth c cX1_requireKey 1 RX1) (KX : kX w l s) (hret : meth.sig.returnType = none) (hex : ∀ x ∈ c.exceptionTable.toList, False) {r : (String ⊕ Unit)} {o : (String ⊕ Unit)} (h : fX1_requireKey_10 = some r) (hO : ∀ z, r = z → z = o) : kG w p l e rmX1_requireKey s m args below meth c (vx_MQ below (kXv w o σ0) (kXX w o σ0) args s 1 6 (kA w)) 1 σ0 10 [] [] 0 0 := by
  unfold fX1_requireKey_10 at h
  cases h
  obtain rfl := hO _ rfl
  exact th_X1_111_209 K KX dX1_requireKey_10 dX1_requireKey_13 dX1_requireKey_14 dX1_requireKey_16 dX1_requireKey_19 hex (by decide) (by decide) (by decide) (by decide) (by decide) (by decide)
set_option maxRecDepth 20000 in
theorem mX1_requireKey (l : Launch) (w : kW) (σ0 : kS) (x0 : Int32) {o : (String ⊕ Unit)} (h : fX1_requireKey x0 = some o) : vx_Met l yX1_requireKey (Cond.code yX1_requireKey cX1_requireKey 1 none :: TB) rmX1_requireKey (va_Pc [.int x0] (kPX w l σ0)) (kXv w o σ0) (kXX w o σ0) 1 6 (kA w) := by
  refine k_metX (by decide) [.int x0] (Nat.le_of_ble_eq_true rfl) (by simp [lv_args, Value.category]) ?_
  intro p e s m args below meth c K KX hret hex
  have K : kC w p s m args meth c cX1_requireKey 1 RX1 := K
  obtain ⟨r, hro⟩ : ∃ r, r = o := ⟨o, rfl⟩
  rw [← hro] at h
  have hO : ∀ z, r = z → z = o := fun z e => by rw [← e]; exact hro
  unfold fX1_requireKey at h
  refine k_iload_n K dX1_requireKey_0 0 rfl ?_
  replace h := k_br h
  rcases h with ⟨b1, h⟩ | ⟨b1, h⟩
  · refine k_if_lt K 10 dX1_requireKey_1 (by decide) (fun _ => ?_) (fun q => absurd b1 q)
    refine k_sub [] rfl ?_
    exact pX1_requireKey_10 K KX hret hex h hO
  · refine k_if_lt K 10 dX1_requireKey_1 (by decide) (fun q => absurd q b1) (fun _ => ?_)
    refine k_iload_n K dX1_requireKey_4 0 rfl ?_
    refine k_bipush (v := 64) K dX1_requireKey_5 (by decide) ?_
    replace h := k_br h
    rcases h with ⟨b2, h⟩ | ⟨b2, h⟩
    · refine k_icmp_lt K 20 dX1_requireKey_7 (by decide) (fun _ => ?_) (fun q => absurd b2 q)
      cases h
      obtain rfl := hO _ rfl
      exact k_vretX K hret dX1_requireKey_20 (by decide) (by decide)
    · refine k_icmp_lt K 20 dX1_requireKey_7 (by decide) (fun q => absurd q b2) (fun _ => ?_)
      refine k_sub [] rfl ?_
      exact pX1_requireKey_10 K KX hret hex h hO
end F_X1_requireKey
section C_X1_requireKey
variable {w : kW} {p : Program} {l : Launch} {e : Env} {R : Room} {s : State} {m : MethodId} {args : Array Value} {below : List Frame} {meth : Method} {c : Code} {Q : State → Prop} {cc : ByteArray} {nL : Nat} {σ : kS} {pc : Nat} {lv : List (Nat × Value)} {st rest : List Value} {cells slots : Nat}
theorem clX_X1_151 (K : kC w p s m args meth c cc nL RX1) (KX : kX w l s) (hex : ∀ x ∈ c.exceptionTable.toList, False) {a1 : Int32} {r : (String ⊕ Unit)} {v : Unit} (d : decode cc pc = .ok (.invokestatic 151, 3)) (h : fX1_requireKey a1 = some r) (he : r = .inr v) (hR : rmX1_requireKey.frames + 1 ≤ R.frames ∧ 8 + (1 + 11) + rmX1_requireKey.locals ≤ R.locals) (hr : (rest.map fun v => v.category).sum ≤ 8) (hf : cells + 1 ≤ R.cells ∧ slots + 6 ≤ R.slots) (kk : kG w p l e R s m args below meth c Q nL σ (pc + 3) lv (rest) (cells + 1) (slots + 6)) : kG w p l e R s m args below meth c Q nL σ pc lv (.int a1 :: rest) cells slots :=
  k_callSvX (As := [.int a1]) (rest := rest) (n := 1) K KX d (kg_S tw_476 tw_477 tw_48 tw_478) (by decide +kernel) rfl hR hr rfl hf (mX1_requireKey l w σ a1 h) ⟨rfl, rfl⟩ (fun E ho => absurd (ho.symm.trans he) (by simp)) (fun v2 ho => by have e9 := Sum.inr.inj (ho.symm.trans he); subst e9; exact kk)
theorem clE_X1_151 {ρ : Type} {Qc : Array Value → State → Outcome → State → Prop} {mc ms : Nat} (K : kC w p s m args meth c cc nL RX1) (KX : kX w l s) (hex : ∀ x ∈ c.exceptionTable.toList, False) {a1 : Int32} {r : (String ⊕ Unit)} {E : String} (d : decode cc pc = .ok (.invokestatic 151, 3)) (h : fX1_requireKey a1 = some r) (he : r = .inl E) (hR : rmX1_requireKey.frames + 1 ≤ R.frames ∧ 8 + (1 + 11) + rmX1_requireKey.locals ≤ R.locals) (hr : (rest.map fun v => v.category).sum ≤ 8) (hf : cells + 1 ≤ R.cells ∧ slots + 6 ≤ R.slots) (hc : cells + 1 ≤ mc) (hs : slots + 6 ≤ ms) : kG w p l e R s m args below meth c (vx_MQ below Qc (kXX w (.inl E : String ⊕ ρ) σ) args s mc ms (kA w)) nL σ pc lv (.int a1 :: rest) cells slots :=
  k_callSvX (As := [.int a1]) (rest := rest) (n := 1) K KX d (kg_S tw_476 tw_477 tw_48 tw_478) (by decide +kernel) rfl hR hr rfl hf (mX1_requireKey l w σ a1 h) ⟨rfl, rfl⟩ (fun E2 ho => by have e9 := Sum.inl.inj (ho.symm.trans he); subst e9; exact k_outX K hex hc hs) (fun v2 ho => absurd (ho.symm.trans he) (by simp))
end C_X1_requireKey
section F_X1_put
variable {w : kW} {p : Program} {l : Launch} {e : Env} {s : State} {m : MethodId} {args : Array Value} {below : List Frame} {meth : Method} {c : Code}
def fX1_put (σ : kS) (x1 : Int32) (x2 : Int32) (x3 : Int32) : Option ((String ⊕ Int32) × kS) :=
  (fX1_find σ x1).bind fun r1 =>
  ksm r1 (fun e3 => some ((.inl e3, σ))) fun v2 =>
  (fX1_requireKey x2).bind fun r5 =>
  ksm r5 (fun e7 => some ((.inl e7, σ))) fun v6 =>
  if 0 ≤ x3 then
    (fX1_pointOfKey x2).bind fun r10 =>
    (fX1_lookFor σ v2 r10).bind fun r11 =>
    if kd r11.1 = (0, 0, 8) then
      if vpi x2 64 then
        (fX1_copyToList (sI (sI (sI r11.2 (r11.1 + 1 + 2) x2.toNatClampNeg (((r11.2).1 (r11.1 + 1 + 2) x2.toNatClampNeg) + 1)) (r11.1 + 1 + 3) x2.toNatClampNeg ((sI r11.2 (r11.1 + 1 + 2) x2.toNatClampNeg (((r11.2).1 (r11.1 + 1 + 2) x2.toNatClampNeg) + 1)).1 r11.1 5)) (r11.1 + 1 + 4) x2.toNatClampNeg x3) r11.1 x2).bind fun r14 =>
        some ((.inr ((r14.2).1 (r11.1 + 1 + 2) x2.toNatClampNeg), r14.2))
      else none
    else none
  else
    some ((.inl "java/lang/IllegalArgumentException", σ))
def rmX1_put : Room := { frames := 7, cells := 3, slots := 18, locals := 112 }
set_option maxRecDepth 20000 in
theorem mX1_put (l : Launch) (w : kW) (σ : kS) (x1 : Int32) (x2 : Int32) (x3 : Int32) {o : ((String ⊕ Int32) × kS)} (h : fX1_put σ x1 x2 x3 = some o) : vx_Met l yX1_put (Cond.code yX1_put cX1_put 6 (some .int) :: TB) rmX1_put (va_Pc [.ref (kL w 0), .int x1, .int x2, .int x3] (kPX w l σ)) (kXi w o.1 o.2) (kXX w o.1 o.2) 3 18 (kA w) := by
  refine k_metX (by decide) [.ref (kL w 0), .int x1, .int x2, .int x3] (Nat.le_of_ble_eq_true rfl) (by simp [lv_args, Value.category]) ?_
  intro p e s m args below meth c K KX hret hex
  have K : kC w p s m args meth c cX1_put 6 RX1 := K
  obtain ⟨r, hro⟩ : ∃ r, r = o := ⟨o, rfl⟩
  rw [← hro] at h
  have hO : ∀ z, r = z → z = o := fun z e => by rw [← e]; exact hro
  unfold fX1_put at h
  refine k_aload_n K dX1_put_0 0 rfl ?_
  refine k_iload_n K dX1_put_1 1 rfl ?_
  replace h := k_bd h
  obtain ⟨r1, hr1, h⟩ := h
  replace h := k_sm h
  rcases h with ⟨e3, z4, h⟩ | ⟨v2, z4, h⟩
  · cases h
    obtain rfl := hO _ rfl
    exact clE_X1_78 K KX hex dX1_put_2 hr1 z4 (by decide) (Nat.le_of_ble_eq_true rfl) (by decide) (by decide) (by decide)
  · refine clX_X1_78 K KX hex dX1_put_2 hr1 z4 (by decide) (Nat.le_of_ble_eq_true rfl) (by decide) ?_
    refine k_astore (lv' := [(4, .ref (kL w v2)), (0, .ref (kL w 0)), (1, .int x1), (2, .int x2), (3, .int x3)]) K dX1_put_5 (by decide) rfl ?_
    refine k_iload_n K dX1_put_7 3 rfl ?_
    replace h := k_bd h
    obtain ⟨r5, hr5, h⟩ := h
    replace h := k_sm h
    rcases h with ⟨e7, z8, h⟩ | ⟨v6, z8, h⟩
    · cases h
      obtain rfl := hO _ rfl
      exact clE_X1_151 K KX hex dX1_put_8 hr5 z8 (by decide) (Nat.le_of_ble_eq_true rfl) (by decide) (by decide) (by decide)
    · refine clX_X1_151 K KX hex dX1_put_8 hr5 z8 (by decide) (Nat.le_of_ble_eq_true rfl) (by decide) ?_
      refine k_iload_n K dX1_put_11 4 rfl ?_
      replace h := k_br h
      rcases h with ⟨b9, h⟩ | ⟨b9, h⟩
      · refine k_if_ge K 25 dX1_put_12 (by decide) (fun _ => ?_) (fun q => absurd b9 q)
        refine k_aload_n K dX1_put_25 1 rfl ?_
        refine k_aload K dX1_put_26 0 rfl ?_
        refine k_iload_n K dX1_put_28 3 rfl ?_
        replace h := k_bd h
        obtain ⟨r10, hr10, h⟩ := h
        refine cl_X1_156 K dX1_put_29 hr10 (by decide) (Nat.le_of_ble_eq_true rfl) (by decide) ?_
        replace h := k_bd h
        obtain ⟨r11, hr11, h⟩ := h
        refine cl_X1_81 K dX1_put_32 hr11 (by decide) (Nat.le_of_ble_eq_true rfl) (by decide) ?_
        refine k_astore (lv' := [(5, .ref (kL w (r11.1))), (4, .ref (kL w v2)), (0, .ref (kL w 0)), (1, .int x1), (2, .int x2), (3, .int x3)]) K dX1_put_35 (by decide) rfl ?_
        refine k_aload K dX1_put_37 0 rfl ?_
        replace h := k_gd h
        obtain ⟨g12, h⟩ := h
        refine fg_X1_159 K dX1_put_39 g12 ?_
        refine k_iload_n K dX1_put_42 4 rfl ?_
        refine k_dup2 K dX1_put_43 rfl rfl ?_
        replace h := k_gd h
        obtain ⟨g13, h⟩ := h
        refine k_iald K dX1_put_44 (kd_m0 g12).2.2.1 g13 ?_
        refine k_iconst (v := 1) K dX1_put_45 (by decide) ?_
        refine k_iadd K dX1_put_46 ?_
        refine k_iast K dX1_put_47 (kd_m0 g12).2.2.1 g13 ?_
        refine k_aload K dX1_put_48 0 rfl ?_
        refine fg_X1_162 K dX1_put_50 g12 ?_
        refine k_iload_n K dX1_put_53 4 rfl ?_
        refine k_aload K dX1_put_54 0 rfl ?_
        refine fg_X1_89 K dX1_put_56 g12 ?_
        refine k_iast K dX1_put_59 (kd_m0 g12).2.2.2.1 g13 ?_
        refine k_aload K dX1_put_60 0 rfl ?_
        refine fg_X1_165 K dX1_put_62 g12 ?_
        refine k_iload_n K dX1_put_65 4 rfl ?_
        refine k_iload_n K dX1_put_66 5 rfl ?_
        refine k_iast K dX1_put_67 (kd_m0 g12).2.2.2.2 g13 ?_
        refine k_aload_n K dX1_put_68 2 rfl ?_
        refine k_aload K dX1_put_69 0 rfl ?_
        refine k_iload_n K dX1_put_71 4 rfl ?_
        replace h := k_bd h
        obtain ⟨r14, hr14, h⟩ := h
        refine cl_X1_168 K dX1_put_72 hr14 (by decide) (Nat.le_of_ble_eq_true rfl) (by decide) ?_
        refine k_pop K dX1_put_75 rfl ?_
        refine k_aload K dX1_put_76 0 rfl ?_
        refine fg_X1_159 K dX1_put_78 g12 ?_
        refine k_iload_n K dX1_put_81 4 rfl ?_
        refine k_iald K dX1_put_82 (kd_m0 g12).2.2.1 g13 ?_
        cases h
        obtain rfl := hO _ rfl
        exact k_iretX (v := (r14.2).1 (r11.1 + 1 + 2) x2.toNatClampNeg) K hret dX1_put_83 (by decide) (by decide)
      · refine k_if_ge K 25 dX1_put_12 (by decide) (fun q => absurd q b9) (fun _ => ?_)
        cases h
        obtain rfl := hO _ rfl
        exact th_X1_34_154 K KX dX1_put_15 dX1_put_18 dX1_put_19 dX1_put_21 dX1_put_24 hex (by decide) (by decide) (by decide) (by decide) (by decide) (by decide)
end F_X1_put
section F_X1_get
variable {w : kW} {p : Program} {l : Launch} {e : Env} {s : State} {m : MethodId} {args : Array Value} {below : List Frame} {meth : Method} {c : Code}
def fX1_get_43 (x2 : Int32) (t0 : Nat) (σ : kS) : Option ((String ⊕ Int32) × kS) :=
  if kd t0 = (0, 0, 8) then
    if vpi x2 64 then
      some ((.inr (σ.1 (t0 + 1 + 4) x2.toNatClampNeg), σ))
    else none
  else none
def fX1_get (σ : kS) (x1 : Int32) (x2 : Int32) : Option ((String ⊕ Int32) × kS) :=
  (fX1_find σ x1).bind fun r1 =>
  ksm r1 (fun e3 => some ((.inl e3, σ))) fun v2 =>
  (fX1_requireKey x2).bind fun r5 =>
  ksm r5 (fun e7 => some ((.inl e7, σ))) fun v6 =>
  (fX1_pointOfKey x2).bind fun r9 =>
  (fX1_lookFor σ v2 r9).bind fun r10 =>
  if kd r10.1 = (0, 0, 8) then
    if vpi x2 64 then
      if ((r10.2).1 (r10.1 + 1 + 2) x2.toNatClampNeg) ≤ 0 then
        (fX1_highestInList r10.2 r10.1 x2).bind fun r14 =>
        fX1_get_43 x2 r14 r10.2
      else
        fX1_get_43 x2 r10.1 r10.2
    else none
  else none
def rmX1_get : Room := { frames := 7, cells := 2, slots := 12, locals := 112 }
set_option maxRecDepth 20000 in
theorem pX1_get_43 (K : kC w p s m args meth c cX1_get 6 RX1) (KX : kX w l s) (hret : meth.sig.returnType = (some .int)) (hex : ∀ x ∈ c.exceptionTable.toList, False) {x2 : Int32} {t0 : Nat} {σ : kS} {r : ((String ⊕ Int32) × kS)} {o : ((String ⊕ Int32) × kS)} (h : fX1_get_43 x2 t0 σ = some r) (hO : ∀ z, r = z → z = o) : kG w p l e rmX1_get s m args below meth c (vx_MQ below (kXi w o.1 o.2) (kXX w o.1 o.2) args s 2 12 (kA w)) 6 σ 43 [(2, .int x2)] [.ref (kL w t0)] 2 12 := by
  unfold fX1_get_43 at h
  refine k_astore (lv' := [(5, .ref (kL w t0)), (2, .int x2)]) K dX1_get_43 (by decide) rfl ?_
  refine k_aload K dX1_get_45 0 rfl ?_
  replace h := k_gd h
  obtain ⟨g1, h⟩ := h
  refine fg_X1_165 K dX1_get_47 g1 ?_
  refine k_iload_n K dX1_get_50 1 rfl ?_
  replace h := k_gd h
  obtain ⟨g2, h⟩ := h
  refine k_iald K dX1_get_51 (kd_m0 g1).2.2.2.2 g2 ?_
  cases h
  obtain rfl := hO _ rfl
  exact k_iretX (v := σ.1 (t0 + 1 + 4) x2.toNatClampNeg) K hret dX1_get_52 (by decide) (by decide)
set_option maxRecDepth 20000 in
theorem mX1_get (l : Launch) (w : kW) (σ : kS) (x1 : Int32) (x2 : Int32) {o : ((String ⊕ Int32) × kS)} (h : fX1_get σ x1 x2 = some o) : vx_Met l yX1_get (Cond.code yX1_get cX1_get 6 (some .int) :: TB) rmX1_get (va_Pc [.ref (kL w 0), .int x1, .int x2] (kPX w l σ)) (kXi w o.1 o.2) (kXX w o.1 o.2) 2 12 (kA w) := by
  refine k_metX (by decide) [.ref (kL w 0), .int x1, .int x2] (Nat.le_of_ble_eq_true rfl) (by simp [lv_args, Value.category]) ?_
  intro p e s m args below meth c K KX hret hex
  have K : kC w p s m args meth c cX1_get 6 RX1 := K
  obtain ⟨r, hro⟩ : ∃ r, r = o := ⟨o, rfl⟩
  rw [← hro] at h
  have hO : ∀ z, r = z → z = o := fun z e => by rw [← e]; exact hro
  unfold fX1_get at h
  refine k_aload_n K dX1_get_0 0 rfl ?_
  refine k_iload_n K dX1_get_1 1 rfl ?_
  replace h := k_bd h
  obtain ⟨r1, hr1, h⟩ := h
  replace h := k_sm h
  rcases h with ⟨e3, z4, h⟩ | ⟨v2, z4, h⟩
  · cases h
    obtain rfl := hO _ rfl
    exact clE_X1_78 K KX hex dX1_get_2 hr1 z4 (by decide) (Nat.le_of_ble_eq_true rfl) (by decide) (by decide) (by decide)
  · refine clX_X1_78 K KX hex dX1_get_2 hr1 z4 (by decide) (Nat.le_of_ble_eq_true rfl) (by decide) ?_
    refine k_astore_n (lv' := [(3, .ref (kL w v2)), (0, .ref (kL w 0)), (1, .int x1), (2, .int x2)]) K dX1_get_5 (by decide) rfl ?_
    refine k_iload_n K dX1_get_6 3 rfl ?_
    replace h := k_bd h
    obtain ⟨r5, hr5, h⟩ := h
    replace h := k_sm h
    rcases h with ⟨e7, z8, h⟩ | ⟨v6, z8, h⟩
    · cases h
      obtain rfl := hO _ rfl
      exact clE_X1_151 K KX hex dX1_get_7 hr5 z8 (by decide) (Nat.le_of_ble_eq_true rfl) (by decide) (by decide) (by decide)
    · refine clX_X1_151 K KX hex dX1_get_7 hr5 z8 (by decide) (Nat.le_of_ble_eq_true rfl) (by decide) ?_
      refine k_aload_n K dX1_get_10 1 rfl ?_
      refine k_aload_n K dX1_get_11 0 rfl ?_
      refine k_iload_n K dX1_get_12 3 rfl ?_
      replace h := k_bd h
      obtain ⟨r9, hr9, h⟩ := h
      refine cl_X1_156 K dX1_get_13 hr9 (by decide) (Nat.le_of_ble_eq_true rfl) (by decide) ?_
      replace h := k_bd h
      obtain ⟨r10, hr10, h⟩ := h
      refine cl_X1_81 K dX1_get_16 hr10 (by decide) (Nat.le_of_ble_eq_true rfl) (by decide) ?_
      refine k_astore (lv' := [(4, .ref (kL w (r10.1))), (3, .ref (kL w v2)), (0, .ref (kL w 0)), (1, .int x1), (2, .int x2)]) K dX1_get_19 (by decide) rfl ?_
      refine k_aload K dX1_get_21 0 rfl ?_
      replace h := k_gd h
      obtain ⟨g11, h⟩ := h
      refine fg_X1_159 K dX1_get_23 g11 ?_
      refine k_iload_n K dX1_get_26 4 rfl ?_
      replace h := k_gd h
      obtain ⟨g12, h⟩ := h
      refine k_iald K dX1_get_27 (kd_m0 g11).2.2.1 g12 ?_
      replace h := k_br h
      rcases h with ⟨b13, h⟩ | ⟨b13, h⟩
      · refine k_if_le K 36 dX1_get_28 (by decide) (fun _ => ?_) (fun q => absurd b13 q)
        refine k_aload_n K dX1_get_36 2 rfl ?_
        refine k_aload K dX1_get_37 0 rfl ?_
        refine k_iload_n K dX1_get_39 4 rfl ?_
        replace h := k_bd h
        obtain ⟨r14, hr14, h⟩ := h
        refine cl_X1_172 K dX1_get_40 hr14 (by decide) (Nat.le_of_ble_eq_true rfl) (by decide) ?_
        refine k_sub [4] rfl ?_
        exact pX1_get_43 K KX hret hex h hO
      · refine k_if_le K 36 dX1_get_28 (by decide) (fun q => absurd q b13) (fun _ => ?_)
        refine k_aload K dX1_get_31 0 rfl ?_
        refine k_goto K 43 dX1_get_33 (by decide) ?_
        refine k_sub [4] rfl ?_
        exact pX1_get_43 K KX hret hex h hO
end F_X1_get
section F_X1_held
variable {w : kW} {p : Program} {l : Launch} {e : Env} {s : State} {m : MethodId} {args : Array Value} {below : List Frame} {meth : Method} {c : Code}
def fX1_held (σ : kS) (x1 : Int32) (x2 : Int32) (x3 : Int32) : Option (String ⊕ Int32) :=
  (fX1_find σ x1).bind fun r1 =>
  ksm r1 (fun e3 => some (.inl e3)) fun v2 =>
  (fX1_requireKey x2).bind fun r5 =>
  ksm r5 (fun e7 => some (.inl e7)) fun v6 =>
  if x3 = 0 then
    if kd v2 = (0, 0, 8) then
      if vpi x2 64 then
        some (.inr (σ.1 (v2 + 1 + 2) x2.toNatClampNeg))
      else none
    else none
  else
  if x3 = 1 then
    if kd v2 = (0, 0, 8) then
      if vpi x2 64 then
        some (.inr (σ.1 (v2 + 1 + 3) x2.toNatClampNeg))
      else none
    else none
  else
  if x3 = 2 then
    if kd v2 = (0, 0, 8) then
      if vpi x2 64 then
        some (.inr (σ.1 (v2 + 1 + 4) x2.toNatClampNeg))
      else none
    else none
  else
  some (.inl "java/lang/IllegalArgumentException")
def rmX1_held : Room := { frames := 7, cells := 3, slots := 18, locals := 112 }
set_option maxRecDepth 20000 in
theorem mX1_held (l : Launch) (w : kW) (σ : kS) (x1 : Int32) (x2 : Int32) (x3 : Int32) {o : (String ⊕ Int32)} (h : fX1_held σ x1 x2 x3 = some o) : vx_Met l yX1_held (Cond.code yX1_held cX1_held 5 (some .int) :: TB) rmX1_held (va_Pc [.ref (kL w 0), .int x1, .int x2, .int x3] (kPX w l σ)) (kXi w o σ) (kXX w o σ) 3 18 (kA w) := by
  refine k_metX (by decide) [.ref (kL w 0), .int x1, .int x2, .int x3] (Nat.le_of_ble_eq_true rfl) (by simp [lv_args, Value.category]) ?_
  intro p e s m args below meth c K KX hret hex
  have K : kC w p s m args meth c cX1_held 5 RX1 := K
  obtain ⟨r, hro⟩ : ∃ r, r = o := ⟨o, rfl⟩
  rw [← hro] at h
  have hO : ∀ z, r = z → z = o := fun z e => by rw [← e]; exact hro
  unfold fX1_held at h
  refine k_aload_n K dX1_held_0 0 rfl ?_
  refine k_iload_n K dX1_held_1 1 rfl ?_
  replace h := k_bd h
  obtain ⟨r1, hr1, h⟩ := h
  replace h := k_sm h
  rcases h with ⟨e3, z4, h⟩ | ⟨v2, z4, h⟩
  · cases h
    obtain rfl := hO _ rfl
    exact clE_X1_78 K KX hex dX1_held_2 hr1 z4 (by decide) (Nat.le_of_ble_eq_true rfl) (by decide) (by decide) (by decide)
  · refine clX_X1_78 K KX hex dX1_held_2 hr1 z4 (by decide) (Nat.le_of_ble_eq_true rfl) (by decide) ?_
    refine k_astore (lv' := [(4, .ref (kL w v2)), (0, .ref (kL w 0)), (1, .int x1), (2, .int x2), (3, .int x3)]) K dX1_held_5 (by decide) rfl ?_
    refine k_iload_n K dX1_held_7 3 rfl ?_
    replace h := k_bd h
    obtain ⟨r5, hr5, h⟩ := h
    replace h := k_sm h
    rcases h with ⟨e7, z8, h⟩ | ⟨v6, z8, h⟩
    · cases h
      obtain rfl := hO _ rfl
      exact clE_X1_151 K KX hex dX1_held_8 hr5 z8 (by decide) (Nat.le_of_ble_eq_true rfl) (by decide) (by decide) (by decide)
    · refine clX_X1_151 K KX hex dX1_held_8 hr5 z8 (by decide) (Nat.le_of_ble_eq_true rfl) (by decide) ?_
      refine k_iload_n K dX1_held_11 4 rfl ?_
      replace h := k_br h
      rcases h with ⟨b9_0, h⟩ | ⟨b9_0, h⟩
      · refine k_tableIn (off := 28) K 40 dX1_held_12 (by rw [b9_0]; decide) (by rw [b9_0]; decide) (by rw [b9_0]; decide) (by decide) ?_
        refine k_aload K dX1_held_40 0 rfl ?_
        replace h := k_gd h
        obtain ⟨g10, h⟩ := h
        refine fg_X1_159 K dX1_held_42 g10 ?_
        refine k_iload_n K dX1_held_45 3 rfl ?_
        replace h := k_gd h
        obtain ⟨g11, h⟩ := h
        refine k_iald K dX1_held_46 (kd_m0 g10).2.2.1 g11 ?_
        cases h
        obtain rfl := hO _ rfl
        exact k_iretX (v := σ.1 (v2 + 1 + 2) x2.toNatClampNeg) K hret dX1_held_47 (by decide) (by decide)
      replace h := k_br h
      rcases h with ⟨b9_1, h⟩ | ⟨b9_1, h⟩
      · refine k_tableIn (off := 36) K 48 dX1_held_12 (by rw [b9_1]; decide) (by rw [b9_1]; decide) (by rw [b9_1]; decide) (by decide) ?_
        refine k_aload K dX1_held_48 0 rfl ?_
        replace h := k_gd h
        obtain ⟨g12, h⟩ := h
        refine fg_X1_162 K dX1_held_50 g12 ?_
        refine k_iload_n K dX1_held_53 3 rfl ?_
        replace h := k_gd h
        obtain ⟨g13, h⟩ := h
        refine k_iald K dX1_held_54 (kd_m0 g12).2.2.2.1 g13 ?_
        cases h
        obtain rfl := hO _ rfl
        exact k_iretX (v := σ.1 (v2 + 1 + 3) x2.toNatClampNeg) K hret dX1_held_55 (by decide) (by decide)
      replace h := k_br h
      rcases h with ⟨b9_2, h⟩ | ⟨b9_2, h⟩
      · refine k_tableIn (off := 44) K 56 dX1_held_12 (by rw [b9_2]; decide) (by rw [b9_2]; decide) (by rw [b9_2]; decide) (by decide) ?_
        refine k_aload K dX1_held_56 0 rfl ?_
        replace h := k_gd h
        obtain ⟨g14, h⟩ := h
        refine fg_X1_165 K dX1_held_58 g14 ?_
        refine k_iload_n K dX1_held_61 3 rfl ?_
        replace h := k_gd h
        obtain ⟨g15, h⟩ := h
        refine k_iald K dX1_held_62 (kd_m0 g14).2.2.2.2 g15 ?_
        cases h
        obtain rfl := hO _ rfl
        exact k_iretX (v := σ.1 (v2 + 1 + 4) x2.toNatClampNeg) K hret dX1_held_63 (by decide) (by decide)
      refine k_tableOut K 64 dX1_held_12 (by decide) (k_out3 b9_0 b9_1 b9_2) ?_
      cases h
      obtain rfl := hO _ rfl
      exact th_X1_34_175 K KX dX1_held_64 dX1_held_67 dX1_held_68 dX1_held_70 dX1_held_73 hex (by decide) (by decide) (by decide) (by decide) (by decide) (by decide)
end F_X1_held
section F_X1_known
variable {w : kW} {p : Program} {l : Launch} {e : Env} {s : State} {m : MethodId} {args : Array Value} {below : List Frame} {meth : Method} {c : Code}
def fX1_known_57 (σ : kS) : Option (String ⊕ Int32) :=
  some (.inl "java/util/NoSuchElementException")
def fX1_known_35 (x2 : Int32) (c3 : Nat) (σ : kS) : Option (String ⊕ Int32) :=
  if x2 < 10 then
    fX1_known_57 σ
  else
    if 18 ≤ x2 then
      fX1_known_57 σ
    else
      if kd c3 = (0, 0, 8) then
        if vpi (x2 - 10) 8 then
          some (.inr (σ.1 (c3 + 1 + 1) (x2 - 10).toNatClampNeg))
        else none
      else none
def fX1_known (σ : kS) (x1 : Int32) (x2 : Int32) : Option (String ⊕ Int32) :=
  (fX1_find σ x1).bind fun r1 =>
  ksm r1 (fun e3 => some (.inl e3)) fun v2 =>
  if x2 = ((-1)) then
    if kd v2 = (0, 0, 8) then
      some (.inr (σ.1 v2 6))
    else none
  else
    if x2 < 0 then
      fX1_known_35 x2 v2 σ
    else
      if (σ.1 0 7) ≤ x2 then
        fX1_known_35 x2 v2 σ
      else
        if kd v2 = (0, 0, 8) then
          if vpi x2 4 then
            some (.inr (σ.1 (v2 + 1 + 0) x2.toNatClampNeg))
          else none
        else none
def rmX1_known : Room := { frames := 7, cells := 2, slots := 12, locals := 112 }
set_option maxRecDepth 20000 in
theorem pX1_known_57 (K : kC w p s m args meth c cX1_known 4 RX1) (KX : kX w l s) (hret : meth.sig.returnType = (some .int)) (hex : ∀ x ∈ c.exceptionTable.toList, False) {σ : kS} {r : (String ⊕ Int32)} {o : (String ⊕ Int32)} (h : fX1_known_57 σ = some r) (hO : ∀ z, r = z → z = o) : kG w p l e rmX1_known s m args below meth c (vx_MQ below (kXi w o σ) (kXX w o σ) args s 2 12 (kA w)) 4 σ 57 [] [] 1 6 := by
  unfold fX1_known_57 at h
  cases h
  obtain rfl := hO _ rfl
  exact th_X1_111_177 K KX dX1_known_57 dX1_known_60 dX1_known_61 dX1_known_63 dX1_known_66 hex (by decide) (by decide) (by decide) (by decide) (by decide) (by decide)
set_option maxRecDepth 20000 in
theorem pX1_known_35 (K : kC w p s m args meth c cX1_known 4 RX1) (KX : kX w l s) (hret : meth.sig.returnType = (some .int)) (hex : ∀ x ∈ c.exceptionTable.toList, False) {x2 : Int32} {c3 : Nat} {σ : kS} {r : (String ⊕ Int32)} {o : (String ⊕ Int32)} (h : fX1_known_35 x2 c3 σ = some r) (hO : ∀ z, r = z → z = o) : kG w p l e rmX1_known s m args below meth c (vx_MQ below (kXi w o σ) (kXX w o σ) args s 2 12 (kA w)) 4 σ 35 [(2, .int x2), (3, .ref (kL w c3))] [] 1 6 := by
  unfold fX1_known_35 at h
  refine k_iload_n K dX1_known_35 0 rfl ?_
  refine k_bipush (v := 10) K dX1_known_36 (by decide) ?_
  replace h := k_br h
  rcases h with ⟨b1, h⟩ | ⟨b1, h⟩
  · refine k_icmp_lt K 57 dX1_known_38 (by decide) (fun _ => ?_) (fun q => absurd b1 q)
    refine k_sub [] rfl ?_
    exact pX1_known_57 K KX hret hex h hO
  · refine k_icmp_lt K 57 dX1_known_38 (by decide) (fun q => absurd q b1) (fun _ => ?_)
    refine k_iload_n K dX1_known_41 0 rfl ?_
    refine k_bipush (v := 18) K dX1_known_42 (by decide) ?_
    replace h := k_br h
    rcases h with ⟨b2, h⟩ | ⟨b2, h⟩
    · refine k_icmp_ge K 57 dX1_known_44 (by decide) (fun _ => ?_) (fun q => absurd b2 q)
      refine k_sub [] rfl ?_
      exact pX1_known_57 K KX hret hex h hO
    · refine k_icmp_ge K 57 dX1_known_44 (by decide) (fun q => absurd q b2) (fun _ => ?_)
      refine k_aload_n K dX1_known_47 1 rfl ?_
      replace h := k_gd h
      obtain ⟨g3, h⟩ := h
      refine fg_X1_120 K dX1_known_48 g3 ?_
      refine k_iload_n K dX1_known_51 0 rfl ?_
      refine k_bipush (v := 10) K dX1_known_52 (by decide) ?_
      refine k_isub K dX1_known_54 ?_
      replace h := k_gd h
      obtain ⟨g4, h⟩ := h
      refine k_iald K dX1_known_55 (kd_m0 g3).2.1 g4 ?_
      cases h
      obtain rfl := hO _ rfl
      exact k_iretX (v := σ.1 (c3 + 1 + 1) (x2 - 10).toNatClampNeg) K hret dX1_known_56 (by decide) (by decide)
set_option maxRecDepth 20000 in
theorem mX1_known (l : Launch) (w : kW) (σ : kS) (x1 : Int32) (x2 : Int32) {o : (String ⊕ Int32)} (h : fX1_known σ x1 x2 = some o) : vx_Met l yX1_known (Cond.code yX1_known cX1_known 4 (some .int) :: TB) rmX1_known (va_Pc [.ref (kL w 0), .int x1, .int x2] (kPX w l σ)) (kXi w o σ) (kXX w o σ) 2 12 (kA w) := by
  refine k_metX (by decide) [.ref (kL w 0), .int x1, .int x2] (Nat.le_of_ble_eq_true rfl) (by simp [lv_args, Value.category]) ?_
  intro p e s m args below meth c K KX hret hex
  have K : kC w p s m args meth c cX1_known 4 RX1 := K
  obtain ⟨r, hro⟩ : ∃ r, r = o := ⟨o, rfl⟩
  rw [← hro] at h
  have hO : ∀ z, r = z → z = o := fun z e => by rw [← e]; exact hro
  unfold fX1_known at h
  refine k_aload_n K dX1_known_0 0 rfl ?_
  refine k_iload_n K dX1_known_1 1 rfl ?_
  replace h := k_bd h
  obtain ⟨r1, hr1, h⟩ := h
  replace h := k_sm h
  rcases h with ⟨e3, z4, h⟩ | ⟨v2, z4, h⟩
  · cases h
    obtain rfl := hO _ rfl
    exact clE_X1_78 K KX hex dX1_known_2 hr1 z4 (by decide) (Nat.le_of_ble_eq_true rfl) (by decide) (by decide) (by decide)
  · refine clX_X1_78 K KX hex dX1_known_2 hr1 z4 (by decide) (Nat.le_of_ble_eq_true rfl) (by decide) ?_
    refine k_astore_n (lv' := [(3, .ref (kL w v2)), (0, .ref (kL w 0)), (1, .int x1), (2, .int x2)]) K dX1_known_5 (by decide) rfl ?_
    refine k_iload_n K dX1_known_6 3 rfl ?_
    refine k_iconst (v := (-1)) K dX1_known_7 (by decide) ?_
    replace h := k_br h
    rcases h with ⟨b5, h⟩ | ⟨b5, h⟩
    · refine k_icmp_ne K 16 dX1_known_8 (by decide) (fun q => absurd b5 q) (fun _ => ?_)
      refine k_aload_n K dX1_known_11 0 rfl ?_
      replace h := k_gd h
      obtain ⟨g6, h⟩ := h
      refine fg_X1_75 K dX1_known_12 g6 ?_
      cases h
      obtain rfl := hO _ rfl
      exact k_iretX (v := σ.1 v2 6) K hret dX1_known_15 (by decide) (by decide)
    · refine k_icmp_ne K 16 dX1_known_8 (by decide) (fun _ => ?_) (fun q => absurd q b5)
      refine k_iload_n K dX1_known_16 3 rfl ?_
      replace h := k_br h
      rcases h with ⟨b7, h⟩ | ⟨b7, h⟩
      · refine k_if_lt K 35 dX1_known_17 (by decide) (fun _ => ?_) (fun q => absurd b7 q)
        refine k_sub [3, 0] rfl ?_
        exact pX1_known_35 K KX hret hex h hO
      · refine k_if_lt K 35 dX1_known_17 (by decide) (fun q => absurd q b7) (fun _ => ?_)
        refine k_iload_n K dX1_known_20 3 rfl ?_
        refine k_aload_n K dX1_known_21 1 rfl ?_
        refine fg_X1_30 K dX1_known_22 ?_
        replace h := k_br h
        rcases h with ⟨b8, h⟩ | ⟨b8, h⟩
        · refine k_icmp_ge K 35 dX1_known_25 (by decide) (fun _ => ?_) (fun q => absurd b8 q)
          refine k_sub [3, 0] rfl ?_
          exact pX1_known_35 K KX hret hex h hO
        · refine k_icmp_ge K 35 dX1_known_25 (by decide) (fun q => absurd q b8) (fun _ => ?_)
          refine k_aload_n K dX1_known_28 0 rfl ?_
          replace h := k_gd h
          obtain ⟨g9, h⟩ := h
          refine fg_X1_68 K dX1_known_29 g9 ?_
          refine k_iload_n K dX1_known_32 3 rfl ?_
          replace h := k_gd h
          obtain ⟨g10, h⟩ := h
          refine k_iald K dX1_known_33 (kd_m0 g9).1 g10 ?_
          cases h
          obtain rfl := hO _ rfl
          exact k_iretX (v := σ.1 (v2 + 1 + 0) x2.toNatClampNeg) K hret dX1_known_34 (by decide) (by decide)
end F_X1_known
section F_X1_owner
variable {w : kW} {p : Program} {l : Launch} {e : Env} {s : State} {m : MethodId} {args : Array Value} {below : List Frame} {meth : Method} {c : Code}
def fX1_owner (σ : kS) (x1 : Int32) : Option (String ⊕ Int32) :=
  (fX1_requirePoint x1).bind fun r1 =>
  ksm r1 (fun e3 => some (.inl e3)) fun v2 =>
  (fX1_trueOwner σ x1).bind fun r5 =>
  some (.inr r5)
def rmX1_owner : Room := { frames := 7, cells := 1, slots := 6, locals := 110 }
set_option maxRecDepth 20000 in
theorem mX1_owner (l : Launch) (w : kW) (σ : kS) (x1 : Int32) {o : (String ⊕ Int32)} (h : fX1_owner σ x1 = some o) : vx_Met l yX1_owner (Cond.code yX1_owner cX1_owner 2 (some .int) :: TB) rmX1_owner (va_Pc [.ref (kL w 0), .int x1] (kPX w l σ)) (kXi w o σ) (kXX w o σ) 1 6 (kA w) := by
  refine k_metX (by decide) [.ref (kL w 0), .int x1] (Nat.le_of_ble_eq_true rfl) (by simp [lv_args, Value.category]) ?_
  intro p e s m args below meth c K KX hret hex
  have K : kC w p s m args meth c cX1_owner 2 RX1 := K
  obtain ⟨r, hro⟩ : ∃ r, r = o := ⟨o, rfl⟩
  rw [← hro] at h
  have hO : ∀ z, r = z → z = o := fun z e => by rw [← e]; exact hro
  unfold fX1_owner at h
  refine k_iload_n K dX1_owner_0 1 rfl ?_
  replace h := k_bd h
  obtain ⟨r1, hr1, h⟩ := h
  replace h := k_sm h
  rcases h with ⟨e3, z4, h⟩ | ⟨v2, z4, h⟩
  · cases h
    obtain rfl := hO _ rfl
    exact clE_X1_49 K KX hex dX1_owner_1 hr1 z4 (by decide) (Nat.le_of_ble_eq_true rfl) (by decide) (by decide) (by decide)
  · refine clX_X1_49 K KX hex dX1_owner_1 hr1 z4 (by decide) (Nat.le_of_ble_eq_true rfl) (by decide) ?_
    refine k_aload_n K dX1_owner_4 0 rfl ?_
    refine k_iload_n K dX1_owner_5 1 rfl ?_
    replace h := k_bd h
    obtain ⟨r5, hr5, h⟩ := h
    refine cl_X1_179 K dX1_owner_6 hr5 (by decide) (Nat.le_of_ble_eq_true rfl) (by decide) ?_
    cases h
    obtain rfl := hO _ rfl
    exact k_iretX K hret dX1_owner_9 (by decide) (by decide)
end F_X1_owner
section F_X1_count
variable {w : kW} {p : Program} {l : Launch} {e : Env} {s : State} {m : MethodId} {args : Array Value} {below : List Frame} {meth : Method} {c : Code}
def fX1_count (σ : kS) (x1 : Int32) : Option (String ⊕ Int32) :=
  if x1 = 0 then
    some (.inr (σ.1 0 9))
  else
  if x1 = 1 then
    some (.inr (σ.1 0 10))
  else
  if x1 = 2 then
    (fX1_countPairs σ).bind fun r2 =>
    some (.inr r2)
  else
  if x1 = 3 then
    (fX1_countTrueFingers σ).bind fun r3 =>
    some (.inr r3)
  else
  if x1 = 4 then
    (fX1_countTrueSuccessors σ).bind fun r4 =>
    some (.inr r4)
  else
  if x1 = 5 then
    if (σ.1 0 8) = 0 then
      some (.inr 0)
    else
      some (.inr 1)
  else
  if x1 = 6 then
    some (.inr (σ.1 0 6))
  else
  if x1 = 7 then
    some (.inr (σ.1 0 11))
  else
  some (.inl "java/lang/IllegalArgumentException")
def rmX1_count : Room := { frames := 6, cells := 1, slots := 6, locals := 90 }
set_option maxRecDepth 20000 in
theorem mX1_count (l : Launch) (w : kW) (σ : kS) (x1 : Int32) {o : (String ⊕ Int32)} (h : fX1_count σ x1 = some o) : vx_Met l yX1_count (Cond.code yX1_count cX1_count 2 (some .int) :: TB) rmX1_count (va_Pc [.ref (kL w 0), .int x1] (kPX w l σ)) (kXi w o σ) (kXX w o σ) 1 6 (kA w) := by
  refine k_metX (by decide) [.ref (kL w 0), .int x1] (Nat.le_of_ble_eq_true rfl) (by simp [lv_args, Value.category]) ?_
  intro p e s m args below meth c K KX hret hex
  have K : kC w p s m args meth c cX1_count 2 RX1 := K
  obtain ⟨r, hro⟩ : ∃ r, r = o := ⟨o, rfl⟩
  rw [← hro] at h
  have hO : ∀ z, r = z → z = o := fun z e => by rw [← e]; exact hro
  unfold fX1_count at h
  refine k_iload_n K dX1_count_0 1 rfl ?_
  replace h := k_br h
  rcases h with ⟨b1_0, h⟩ | ⟨b1_0, h⟩
  · refine k_tableIn (off := 47) K 48 dX1_count_1 (by rw [b1_0]; decide) (by rw [b1_0]; decide) (by rw [b1_0]; decide) (by decide) ?_
    refine k_aload_n K dX1_count_48 0 rfl ?_
    refine fg_X1_41 K dX1_count_49 ?_
    cases h
    obtain rfl := hO _ rfl
    exact k_iretX (v := σ.1 0 9) K hret dX1_count_52 (by decide) (by decide)
  replace h := k_br h
  rcases h with ⟨b1_1, h⟩ | ⟨b1_1, h⟩
  · refine k_tableIn (off := 52) K 53 dX1_count_1 (by rw [b1_1]; decide) (by rw [b1_1]; decide) (by rw [b1_1]; decide) (by decide) ?_
    refine k_aload_n K dX1_count_53 0 rfl ?_
    refine fg_X1_186 K dX1_count_54 ?_
    cases h
    obtain rfl := hO _ rfl
    exact k_iretX (v := σ.1 0 10) K hret dX1_count_57 (by decide) (by decide)
  replace h := k_br h
  rcases h with ⟨b1_2, h⟩ | ⟨b1_2, h⟩
  · refine k_tableIn (off := 57) K 58 dX1_count_1 (by rw [b1_2]; decide) (by rw [b1_2]; decide) (by rw [b1_2]; decide) (by decide) ?_
    refine k_aload_n K dX1_count_58 0 rfl ?_
    replace h := k_bd h
    obtain ⟨r2, hr2, h⟩ := h
    refine cl_X1_189 K dX1_count_59 hr2 (by decide) (Nat.le_of_ble_eq_true rfl) (by decide) ?_
    cases h
    obtain rfl := hO _ rfl
    exact k_iretX K hret dX1_count_62 (by decide) (by decide)
  replace h := k_br h
  rcases h with ⟨b1_3, h⟩ | ⟨b1_3, h⟩
  · refine k_tableIn (off := 62) K 63 dX1_count_1 (by rw [b1_3]; decide) (by rw [b1_3]; decide) (by rw [b1_3]; decide) (by decide) ?_
    refine k_aload_n K dX1_count_63 0 rfl ?_
    replace h := k_bd h
    obtain ⟨r3, hr3, h⟩ := h
    refine cl_X1_193 K dX1_count_64 hr3 (by decide) (Nat.le_of_ble_eq_true rfl) (by decide) ?_
    cases h
    obtain rfl := hO _ rfl
    exact k_iretX K hret dX1_count_67 (by decide) (by decide)
  replace h := k_br h
  rcases h with ⟨b1_4, h⟩ | ⟨b1_4, h⟩
  · refine k_tableIn (off := 67) K 68 dX1_count_1 (by rw [b1_4]; decide) (by rw [b1_4]; decide) (by rw [b1_4]; decide) (by decide) ?_
    refine k_aload_n K dX1_count_68 0 rfl ?_
    replace h := k_bd h
    obtain ⟨r4, hr4, h⟩ := h
    refine cl_X1_196 K dX1_count_69 hr4 (by decide) (Nat.le_of_ble_eq_true rfl) (by decide) ?_
    cases h
    obtain rfl := hO _ rfl
    exact k_iretX K hret dX1_count_72 (by decide) (by decide)
  replace h := k_br h
  rcases h with ⟨b1_5, h⟩ | ⟨b1_5, h⟩
  · refine k_tableIn (off := 72) K 73 dX1_count_1 (by rw [b1_5]; decide) (by rw [b1_5]; decide) (by rw [b1_5]; decide) (by decide) ?_
    refine k_aload_n K dX1_count_73 0 rfl ?_
    refine fg_X1_53 K dX1_count_74 ?_
    replace h := k_br h
    rcases h with ⟨b5, h⟩ | ⟨b5, h⟩
    · refine k_if_eq K 84 dX1_count_77 (by decide) (fun _ => ?_) (fun q => absurd b5 q)
      refine k_iconst (v := 0) K dX1_count_84 (by decide) ?_
      cases h
      obtain rfl := hO _ rfl
      exact k_iretX (v := 0) K hret dX1_count_85 (by decide) (by decide)
    · refine k_if_eq K 84 dX1_count_77 (by decide) (fun q => absurd q b5) (fun _ => ?_)
      refine k_iconst (v := 1) K dX1_count_80 (by decide) ?_
      refine k_goto K 85 dX1_count_81 (by decide) ?_
      cases h
      obtain rfl := hO _ rfl
      exact k_iretX (v := 1) K hret dX1_count_85 (by decide) (by decide)
  replace h := k_br h
  rcases h with ⟨b1_6, h⟩ | ⟨b1_6, h⟩
  · refine k_tableIn (off := 85) K 86 dX1_count_1 (by rw [b1_6]; decide) (by rw [b1_6]; decide) (by rw [b1_6]; decide) (by decide) ?_
    refine k_aload_n K dX1_count_86 0 rfl ?_
    refine fg_X1_146 K dX1_count_87 ?_
    cases h
    obtain rfl := hO _ rfl
    exact k_iretX (v := σ.1 0 6) K hret dX1_count_90 (by decide) (by decide)
  replace h := k_br h
  rcases h with ⟨b1_7, h⟩ | ⟨b1_7, h⟩
  · refine k_tableIn (off := 90) K 91 dX1_count_1 (by rw [b1_7]; decide) (by rw [b1_7]; decide) (by rw [b1_7]; decide) (by decide) ?_
    refine k_aload_n K dX1_count_91 0 rfl ?_
    refine fg_X1_199 K dX1_count_92 ?_
    cases h
    obtain rfl := hO _ rfl
    exact k_iretX (v := σ.1 0 11) K hret dX1_count_95 (by decide) (by decide)
  refine k_tableOut K 96 dX1_count_1 (by decide) (k_out8 b1_0 b1_1 b1_2 b1_3 b1_4 b1_5 b1_6 b1_7) ?_
  cases h
  obtain rfl := hO _ rfl
  exact th_X1_34_202 K KX dX1_count_96 dX1_count_99 dX1_count_100 dX1_count_102 dX1_count_105 hex (by decide) (by decide) (by decide) (by decide) (by decide) (by decide)
end F_X1_count
