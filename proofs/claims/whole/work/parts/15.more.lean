/-! ===== what the printed functions need beside ===== -/
abbrev vpi (i : Int32) (n : Nat) : Prop := ¬ (i < 0 ∨ n ≤ i.toNatClampNeg)
def okq (x : Option Nat) : Bool := match x with
  | none => true
  | some a => decide (a < kN)
theorem okq_s {x : Option Nat} (h : okq x = true) : ∀ a, x = some a → a < kN := by
  intro a e
  subst e
  simpa [okq] using h
theorem k_nz {v : Int32} (h : vp_nar .boolean v = v) : narrow .boolean (.int v) = .int v := by
  have e : narrow .boolean (.int v) = .int (vp_nar .boolean v) := rfl
  rw [e, h]
def ksm {α β γ : Type} (x : α ⊕ β) (A : α → γ) (B : β → γ) : γ := match x with
  | .inl a => A a
  | .inr b => B b
theorem k_sm {α β γ : Type} {x : α ⊕ β} {A : α → Option γ} {B : β → Option γ} {r : γ} (h : ksm x A B = some r) : (∃ a, x = .inl a ∧ A a = some r) ∨ ∃ b, x = .inr b ∧ B b = some r := by
  cases x with
  | inl a => exact Or.inl ⟨a, rfl, h⟩
  | inr b => exact Or.inr ⟨b, rfl, h⟩
theorem k_out3 {x : Int32} (h0 : ¬ x = 0) (h1 : ¬ x = 1) (h2 : ¬ x = 2) : x.toInt < 0 ∨ 2 < x.toInt := by
  have e0 : x.toInt ≠ 0 := fun q => h0 (Int32.toInt_inj.mp q)
  have e1 : x.toInt ≠ 1 := fun q => h1 (Int32.toInt_inj.mp q)
  have e2 : x.toInt ≠ 2 := fun q => h2 (Int32.toInt_inj.mp q)
  omega
theorem k_out8 {x : Int32} (h0 : ¬ x = 0) (h1 : ¬ x = 1) (h2 : ¬ x = 2) (h3 : ¬ x = 3) (h4 : ¬ x = 4) (h5 : ¬ x = 5) (h6 : ¬ x = 6) (h7 : ¬ x = 7) : x.toInt < 0 ∨ 7 < x.toInt := by
  have e0 : x.toInt ≠ 0 := fun q => h0 (Int32.toInt_inj.mp q)
  have e1 : x.toInt ≠ 1 := fun q => h1 (Int32.toInt_inj.mp q)
  have e2 : x.toInt ≠ 2 := fun q => h2 (Int32.toInt_inj.mp q)
  have e3 : x.toInt ≠ 3 := fun q => h3 (Int32.toInt_inj.mp q)
  have e4 : x.toInt ≠ 4 := fun q => h4 (Int32.toInt_inj.mp q)
  have e5 : x.toInt ≠ 5 := fun q => h5 (Int32.toInt_inj.mp q)
  have e6 : x.toInt ≠ 6 := fun q => h6 (Int32.toInt_inj.mp q)
  have e7 : x.toInt ≠ 7 := fun q => h7 (Int32.toInt_inj.mp q)
  omega
section KM
variable {w : kW} {p : Program} {l : Launch} {e : Env} {R : Room} {s : State} {m : MethodId} {args : Array Value} {below : List Frame} {meth : Method} {c : Code} {Q : State → Prop}
variable {cc : ByteArray} {nL : Nat} {own : String} {σ : kS} {pc : Nat} {lv : List (Nat × Value)} {st : List Value} {cells slots : Nat}
theorem k_tableOut (K : kC w p s m args meth c cc nL own) {dflt lo hi : Int} {offs : Array Int} {len : Nat} {x : Int32} (tgt : Nat) (d : decode cc pc = .ok (.tableswitch dflt lo hi offs, len)) (ht : (pc : Int) + dflt = (tgt : Int)) (h : x.toInt < lo ∨ hi < x.toInt) (k : kG w p l e R s m args below meth c Q nL σ tgt lv st cells slots) : kG w p l e R s m args below meth c Q nL σ pc lv (.int x :: st) cells slots :=
  fun H locs ls hH hS hl => lv_tableOut K.1 K.2.1 d h ht (k H locs ls hH hS hl)
theorem k_tableIn (K : kC w p s m args meth c cc nL own) {dflt lo hi : Int} {offs : Array Int} {len : Nat} {x : Int32} {off : Int} (tgt : Nat) (d : decode cc pc = .ok (.tableswitch dflt lo hi offs, len)) (h1 : ¬ x.toInt < lo) (h2 : ¬ hi < x.toInt) (ho : offs[(x.toInt - lo).toNat]? = some off) (ht : (pc : Int) + off = (tgt : Int)) (k : kG w p l e R s m args below meth c Q nL σ tgt lv st cells slots) : kG w p l e R s m args below meth c Q nL σ pc lv (.int x :: st) cells slots :=
  fun H locs ls hH hS hl => lv_tableIn K.1 K.2.1 d h1 h2 ho ht (k H locs ls hH hS hl)
end KM
/-! Arrays.fill -/
def fJ7_fill_53178 (σ : kS) (a : Nat) (v : Int32) : Option kS := if (kd a).1 = 1 ∧ (kd a).2.2 < 2 ^ 31 then some (fun c j => if c = a ∧ j < (kd a).2.2 then v else σ.1 c j, σ.2) else none
def rmJ7_fill_53178 : Room := { frames := 0, cells := 0, slots := 0, locals := 0 }
/-- i places are filled -/
def kfl (σ : kS) (a : Nat) (v : Int32) (i : Nat) : kS := (fun c j => if c = a ∧ j < i then v else σ.1 c j, σ.2)
theorem kfl_0 (σ : kS) (a : Nat) (v : Int32) : kfl σ a v 0 = σ := by
  simp only [kfl, Nat.not_lt_zero, and_false, if_false]
theorem kfl_s (σ : kS) (a : Nat) (v : Int32) (i : Nat) : sI (kfl σ a v i) a i v = kfl σ a v (i + 1) := by
  simp only [kfl, sI]
  congr 1
  funext c j
  by_cases h : c = a
  · subst h
    rcases Nat.lt_trichotomy j i with g | g | g
    · rw [if_neg (by omega), if_pos ⟨rfl, g⟩, if_pos ⟨rfl, by omega⟩]
    · subst g
      rw [if_pos ⟨rfl, rfl⟩, if_pos ⟨rfl, by omega⟩]
    · rw [if_neg (by omega), if_neg (by omega), if_neg (by omega)]
  · rw [if_neg (fun q => h q.1), if_neg (fun q => h q.1), if_neg (fun q => h q.1)]
section KFill
variable {w : kW} {p : Program} {l : Launch} {e : Env} {s : State} {m : MethodId} {args : Array Value} {below : List Frame} {meth : Method} {c : Code}
theorem lJ7_fill (K : kC w p s m args meth c cJ7_fill_53178 4 RJ7) (hret : meth.sig.returnType = none) {σ : kS} {a n x : Nat} {v : Int32} (hd : kd a = (1, x, n)) (hn : n < 2 ^ 31) : ∀ (k i : Nat), i + k = n → kG w p l e rmJ7_fill_53178 s m args below meth c (MQ below (kQv w (kfl σ a v n)) args s 0 0 (kA w)) 4 (kfl σ a v i) 5 [(3, .int (nI n)), (2, .int (nI i)), (0, .ref (kL w a)), (1, .int v)] [] 0 0 := by
  intro k
  induction k with
  | zero =>
    intro i hi
    have hi : i = n := by omega
    subst hi
    refine k_iload_n K dJ7_fill_53178_5 1 rfl ?_
    refine k_iload_n K dJ7_fill_53178_6 0 rfl ?_
    refine k_icmp_ge K 20 dJ7_fill_53178_7 (by decide) (fun _ => ?_) (fun q => absurd (nI_le (Nat.le_refl _) hn) q)
    exact k_vret K hret dJ7_fill_53178_20 (by decide) (by decide)
  | succ k ih =>
    intro i hi
    have hin : i < n := by omega
    refine k_iload_n K dJ7_fill_53178_5 1 rfl ?_
    refine k_iload_n K dJ7_fill_53178_6 0 rfl ?_
    refine k_icmp_ge K 20 dJ7_fill_53178_7 (by decide) (fun q => absurd q (nI_ge hin hn)) (fun _ => ?_)
    refine k_aload_n K dJ7_fill_53178_10 2 rfl ?_
    refine k_iload_n K dJ7_fill_53178_11 1 rfl ?_
    refine k_iload_n K dJ7_fill_53178_12 3 rfl ?_
    refine k_iast K dJ7_fill_53178_13 hd (vp_in_nI hin hn) ?_
    rw [nI_clamp (by omega), kfl_s]
    refine k_iinc (v := 1) (lv' := [(2, .int (nI i + 1)), (3, .int (nI n)), (0, .ref (kL w a)), (1, .int v)]) K dJ7_fill_53178_14 1 rfl (by decide) (by decide) rfl ?_
    refine k_goto K 5 dJ7_fill_53178_17 (by decide) ?_
    refine k_sub [1, 0, 2, 3] rfl ?_
    rw [nI_1]
    exact ih (i + 1) (by omega)
end KFill
theorem mJ7_fill_53178 (l : Launch) (w : kW) (σ : kS) (a : Nat) (v : Int32) {o : kS} (h : fJ7_fill_53178 σ a v = some o) : Met l yJ7_fill_53178 (Cond.code yJ7_fill_53178 cJ7_fill_53178 4 none :: TB) rmJ7_fill_53178 (va_Pc [.ref (kL w a), .int v] (kP w σ)) (kQv w o) 0 0 (kA w) := by
  unfold fJ7_fill_53178 at h
  obtain ⟨⟨h1, h2⟩, h⟩ := k_gd h
  cases h
  obtain ⟨t, x, n, hk⟩ : ∃ t x n, kd a = (t, x, n) := ⟨_, _, _, rfl⟩
  rw [hk] at h1 h2 ⊢
  have h1 : t = 1 := h1
  subst h1
  have h2 : n < 2 ^ 31 := h2
  refine k_met (by decide) [.ref (kL w a), .int v] (Nat.le_of_ble_eq_true rfl) (by simp [lv_args, Value.category]) ?_
  intro p e s m args below meth c K hret
  refine k_iconst (v := 0) K dJ7_fill_53178_0 (by decide) ?_
  refine k_istore_n (lv' := [(2, .int 0), (0, .ref (kL w a)), (1, .int v)]) K dJ7_fill_53178_1 (by decide) rfl ?_
  refine k_aload_n K dJ7_fill_53178_2 1 rfl ?_
  refine k_alen (v := nI n) K dJ7_fill_53178_3 hk rfl ?_
  refine k_istore_n (lv' := [(3, .int (nI n)), (2, .int 0), (0, .ref (kL w a)), (1, .int v)]) K dJ7_fill_53178_4 (by decide) rfl ?_
  have := lJ7_fill (l := l) (e := e) (below := below) (σ := σ) (v := v) K hret hk h2 n 0 (by omega)
  rw [kfl_0, nI_0] at this
  exact this
/-! System.arraycopy of whole numbers, from the first place on -/
def sC (σ : kS) (a b N : Nat) : kS := (fun c j => if c = b ∧ j < N then σ.1 a j else σ.1 c j, σ.2)
section C_fill
variable {w : kW} {p : Program} {l : Launch} {e : Env} {R : Room} {s : State} {m : MethodId} {args : Array Value} {below : List Frame} {meth : Method} {c : Code} {Q : State → Prop} {cc : ByteArray} {nL : Nat} {σ : kS} {pc : Nat} {lv : List (Nat × Value)} {st rest : List Value} {cells slots : Nat}
theorem cl_X0_37 (K : kC w p s m args meth c cc nL RX0) {a1 : Nat} {a2 : Int32} {r : kS} (d : decode cc pc = .ok (.invokestatic 37, 3)) (h : fJ7_fill_53178 σ a1 a2 = some r) (hR : rmJ7_fill_53178.frames + 1 ≤ R.frames ∧ 8 + (4 + 11) + rmJ7_fill_53178.locals ≤ R.locals) (hr : (rest.map fun v => v.category).sum ≤ 8) (hf : cells + 0 ≤ R.cells ∧ slots + 0 ≤ R.slots) (kk : kG w p l e R s m args below meth c Q nL r (pc + 3) lv (rest) (cells + 0) (slots + 0)) : kG w p l e R s m args below meth c Q nL σ pc lv (.int a2 :: .ref (kL w a1) :: rest) cells slots :=
  k_callSv (As := [.ref (kL w a1), .int a2]) (rest := rest) (n := 2) K d (kg_S tw_284 tw_285 tw_56 tw_286) (by decide +kernel) rfl hR hr rfl hf (mJ7_fill_53178 l w σ a1 a2 h) ⟨rfl, rfl⟩ kk
end C_fill
