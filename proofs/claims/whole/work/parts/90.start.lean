theorem tw_60 : (.classLink RL 8 RX1 : Cond) ∈ TB := tb_in (i := 60) (by decide +kernel) (by decide +kernel)
theorem tw_61 : (.instantiable RX1 12 : Cond) ∈ TB := tb_in (i := 61) (by decide +kernel) (by decide +kernel)
theorem tw_62 : (.methodLink RL 73 yX1_init : Cond) ∈ TB := tb_in (i := 62) (by decide +kernel) (by decide +kernel)
theorem tw_63 : (.instanceMethod yX1_init : Cond) ∈ TB := tb_in (i := 63) (by decide +kernel) (by decide +kernel)
theorem tw_64 : (.code yX1_init cX1_init 2 none : Cond) ∈ TB := tb_in (i := 64) (by decide +kernel) (by decide +kernel)
theorem tw_539 : (.classLink RL 74 RX2 : Cond) ∈ TB := tb_in (i := 539) (by decide +kernel) (by decide +kernel)
theorem tw_540 : (.instantiable RX2 17 : Cond) ∈ TB := tb_in (i := 540) (by decide +kernel) (by decide +kernel)
theorem tw_541 : (.methodLink RL 76 yX2_init : Cond) ∈ TB := tb_in (i := 541) (by decide +kernel) (by decide +kernel)
theorem tw_542 : (.instanceMethod yX2_init : Cond) ∈ TB := tb_in (i := 542) (by decide +kernel) (by decide +kernel)
theorem tw_543 : (.code yX2_init cX2_init 1 none : Cond) ∈ TB := tb_in (i := 543) (by decide +kernel) (by decide +kernel)
/-! ===== the law from its entry ===== -/
def kInit : kS := dI cI
def R_law : String := "KeyRingLaw"
def lw_P (b : Addr) (xs : List Int32) (args : Array Value) (s : State) : Prop := args = #[.ref b] ∧ s.IntsAt b xs ∧ xs.length ≤ 2048 ∧ (Jvm.Cond.and given_1 narrow_1).before args s = true
def lw_Q (_ : Array Value) (s : State) (o : Outcome) (t : State) : Prop := o = .returned (some (.int 1)) ∧ Framed s o t [] 601024 7293034
def lw_Z (below : List Frame) (a : Array Value) (s : State) : State → Prop := fun t => ∃ o, t.status = .running ∧ Ended t below o ∧ lw_Q a s o t
theorem lw_ret {p : Program} {l : Launch} {e : Env} {s : State} {m : MethodId} {below : List Frame} {meth : Method} {c : Code} {b : Nat} (hx : p.tables.exec = Jvm.exec) (hb : c.code = code) (hr : meth.sig.returnType = ret) (hlocks : meth.locks = false) {pc : Nat} {H : Heap} {ls : Array Slot} (hdg : decode code pc = .ok (.ireturn, 1)) : W p l e room_1 s m #[Value.ref b] below meth c H [] 601024 7293034 (lw_Z below #[Value.ref b] s) (F0 m pc ls [.int 1]) := by
  intro T hT X
  obtain ⟨fs, hret, hrun, hended, hW, hframe⟩ := X.leave (v := some (.int 1)) (hlocks := hlocks) (fun h => by rw [hr] at h; cases h)
  have hmeth' : T.vm.method? m = some meth := X.method'
  refine ⟨T.setFrames fs, ?_, .returned (some (.int 1)), hrun, hended, rfl, ⟨_, rfl⟩, hW, hframe⟩
  jvm_step X.here [X.here.top, hx, hb, hdg, hmeth', hr, ret, narrow_b1]
  (try refine ⟨rfl, ?_⟩); (try refine ⟨rfl, ?_⟩)
  first | (intro acts; rw [hret _ acts rfl rfl rfl]) | rw [hret _ _ rfl rfl rfl]
  exact Steps.refl _
def lw_At (p : Program) (s : State) (m : MethodId) (meth : Method) (c : Code) (b L : Nat) (xs : Nat → Int32) : Prop :=
  p.tables.exec = Jvm.exec ∧ c.code = code ∧ meth.sig.returnType = ret ∧ c.maxLocals = 7 ∧ s.vm.findClass R_law = some m.cls ∧ (∀ w ∈ lw_tbl, w.before #[Value.ref b] s = true) ∧ va_X b L xs s s.heap ∧ b < s.heap.size ∧ meth.locks = false ∧ (Jvm.Cond.and given_1 narrow_1).before #[Value.ref b] s = true
theorem st_sb1 : ∀ q ∈ SB, Cond.stringRef RX1 q.1 q.2 ∈ lw_tbl := by decide +kernel
theorem st_sb2 : ∀ q ∈ SB, Cond.exactly (.string RX1 q.1) "java/lang/String" ∈ flatC (Jvm.Cond.and given_1 narrow_1) := by decide +kernel
theorem st_n1 : Cond.not (.castable "java/lang/IllegalStateException" "java/lang/IllegalArgumentException") ∈ flatC (Jvm.Cond.and given_1 narrow_1) := by decide +kernel
theorem st_n2 : Cond.not (.castable "java/lang/IllegalStateException" "java/util/NoSuchElementException") ∈ flatC (Jvm.Cond.and given_1 narrow_1) := by decide +kernel
theorem st_n3 : Cond.not (.castable "java/lang/IllegalArgumentException" "java/util/NoSuchElementException") ∈ flatC (Jvm.Cond.and given_1 narrow_1) := by decide +kernel
theorem st_u : Cond.isRef (.static Bundle.tN "UNASSIGNED_STACK" Bundle.steD) ∈ flatC (Jvm.Cond.and given_1 narrow_1) := by decide +kernel
theorem st_v : Cond.isRef (.static Bundle.tN "SUPPRESSED_SENTINEL" Bundle.listD) ∈ flatC (Jvm.Cond.and given_1 narrow_1) := by decide +kernel
theorem st_w1 : Cond.laysStatic Bundle.tN "UNASSIGNED_STACK" Bundle.steD ∈ lw_tbl := by decide +kernel
theorem st_w2 : Cond.laysStatic Bundle.tN "SUPPRESSED_SENTINEL" Bundle.listD ∈ lw_tbl := by decide +kernel
theorem st_w3 : Cond.initialized Bundle.tN ∈ lw_tbl := by decide +kernel
theorem st_ao : Cond.arrayOver (.object RX0) ∈ lw_tbl := by decide +kernel
theorem st_ne : yNest ∈ lw_tbl := by decide +kernel
theorem st_ai : Cond.arrayClass .int ∈ lw_tbl := by decide +kernel
theorem st_az : Cond.arrayClass .boolean ∈ lw_tbl := by decide +kernel
theorem st_aj : Cond.arrayClass .long ∈ lw_tbl := by decide +kernel
theorem st_i0 : Cond.instantiable RX0 8 ∈ lw_tbl := by decide +kernel
theorem st_i1 : Cond.instantiable RX1 12 ∈ lw_tbl := by decide +kernel
theorem st_i2 : Cond.instantiable RX2 17 ∈ lw_tbl := by decide +kernel
theorem tb_sub : ∀ x ∈ TB, x ∈ lw_tbl := fun x hx => (List.mem_filter.mp hx).1
/-- the classes, the kinds of arrays: a world that begins where the heap ends -/
theorem st_world {s : State} {a : Array Value} (hts : ∀ x ∈ lw_tbl, x.before a s = true) : ∃ w : kW, w.2.2.2.1 = kN ∧ w.2.2.2.2 = s.heap.size ∧ (∀ c, kL w c = s.heap.size + c) ∧ va_K w.1 vwCl (kt w) s := by
  obtain ⟨c0, i0, h0⟩ := u_known (C := RX0) (T := TX0) (N := 8) (n := 8) hts (fun x hx => tb_sub x (inX0 x hx)) (hts _ st_i0)
  obtain ⟨c1, i1, h1⟩ := u_known (C := RX1) (T := TX1) (N := 12) (n := 12) hts (fun x hx => tb_sub x (inX1 x hx)) (hts _ st_i1)
  obtain ⟨c2, i2, h2⟩ := u_known (C := RX2) (T := TX2) (N := 17) (n := 17) hts (fun x hx => tb_sub x (inX2 x hx)) (hts _ st_i2)
  obtain ⟨aI, kI, mI9, f1, f2, f3⟩ := Cond.arrayClass_spec (hts _ st_ai)
  obtain ⟨aZ, kZ9, mZ, g1, g2, g3⟩ := Cond.arrayClass_spec (hts _ st_az)
  obtain ⟨aJ, kJ, mJ, j1, j2, j3⟩ := Cond.arrayClass_spec (hts _ st_aj)
  obtain ⟨mR, aR, kR, r1, -, r3, r4, r5⟩ := Cond.arrayOver_spec (hts _ st_ao)
  refine ⟨((fun k => if k = 0 then c0 else if k = 1 then c1 else c2, fun k => if k = 0 then i0 else if k = 1 then i1 else i2), (fun k => if k = 0 then aI else if k = 1 then aZ else if k = 2 then aR else aJ), (fun c => s.heap.size + c), kN, s.heap.size), rfl, rfl, fun c => rfl, ?_, ?_⟩
  · intro k q hq
    match k, hq with
    | 0, hq => cases hq; exact h0
    | 1, hq => cases hq; exact h1
    | 2, hq => cases hq; exact h2
    | k + 3, hq => simp [vwCl] at hq
  · intro k q hq
    match k, hq with
    | 0, hq => cases hq; exact ⟨fun N z => ⟨(fun k h => by cases h), kI, f2, mI9, f3⟩, f1⟩
    | 1, hq => cases hq; exact ⟨fun N z => ⟨(fun k h => by cases h), kZ9, g2, mZ, g3⟩, g1⟩
    | 2, hq => cases hq; exact ⟨fun N z => ⟨(fun k h => by cases h), kR, r3, mR, r4⟩, kR, mR, r3, r4, r1, r5⟩
    | 3, hq => cases hq; exact ⟨fun N z => ⟨(fun k h => by cases h), kJ, j2, mJ, j3⟩, j1⟩
    | k + 4, hq => simp [kt] at hq
theorem st_fin : ∀ c : Fin 139, ∀ k : Fin 17, (kd c.val).1 = 0 → kr (kd c.val).2.1 k.val = true → kInit.2.1 c.val k.val = some (kfin c.val (kd c.val).2.1 k.val) := by decide +kernel
theorem st_len : ∀ c : Fin 139, (kd c.val).1 = 0 → (kd c.val).2.2 ≤ 17 := by decide +kernel
/-- the constructors have set every final reference -/
theorem st_kF (w : kW) {c : Nat} (hc : c < 139) : kE w (kF kInit) c = kE w kInit c := by
  obtain ⟨t, ci, n, h⟩ : ∃ t ci n, kd c = (t, ci, n) := ⟨_, _, _, rfl⟩
  by_cases h0 : t = 0
  · subst h0
    rw [kE_o w _ h, kE_o w _ h]
    congr 2
    apply List.map_congr_left
    intro k hk
    have hk : k < n := List.mem_range.mp hk
    have hn : n ≤ 17 := by have := st_len ⟨c, hc⟩ (by rw [h]); rw [h] at this; exact this
    cases hr : kr ci k with
    | false => rfl
    | true =>
      have := st_fin ⟨c, hc⟩ ⟨k, by omega⟩ (by rw [h]) (by rw [h]; exact hr)
      have e : (kF kInit).2.1 c k = kInit.2.1 c k := by
        rw [this]
        simp only [kF]
        rw [if_pos (by rw [h]; exact ⟨rfl, hr⟩)]
      rw [e]
      rfl
  · have e : (kF kInit).2.1 c = kInit.2.1 c := by
      funext k
      simp only [kF]
      rw [if_neg (by rw [h]; exact fun q => h0 q.1)]
    simp only [kE, e]
    rfl
theorem st_kH {w : kW} (hn : w.2.2.2.1 = kN) {H : Heap} (h : kHc w 139 kInit H) : kH w (kF kInit) H := by
  have e : kws w (kF kInit) = kws (wn w 139) kInit := by
    show (List.range w.2.2.2.1).map _ = (List.range 139).map _
    rw [hn]
    apply List.map_congr_left
    intro c hc
    have hc : c < 139 := List.mem_range.mp hc
    rw [st_kF w hc]
    rfl
  unfold kH
  rw [e]
  exact h.1
theorem st_X {w : kW} {l : Launch} {s : State} {b : Nat} (hts : ∀ x ∈ lw_tbl, x.before #[Value.ref b] s = true) (hgv : (Jvm.Cond.and given_1 narrow_1).before #[Value.ref b] s = true) (hst : l.stackTraces = false) (hw : w.2.2.2.2 = s.heap.size) : kX w l s ∧ kNo s := by
  have hf := flat_of_before _ hgv
  have hA : ∀ a : Nat, a < s.heap.size → ¬ kA w a := fun a h q => by
    have q : w.2.2.2.2 ≤ a := q
    omega
  refine ⟨⟨hst, vx_Zqof (hts _ st_w1) (hts _ st_w3) (hf _ st_u) hA, vx_Zqof (hts _ st_w2) (hts _ st_w3) (hf _ st_v) hA, fun x hx => va_Nw.of (nb_tabs hx) (hts x (List.mem_filter.mp hx).1), fun q hq => ?_⟩, va_Nc.of (hf _ st_n1), va_Nc.of (hf _ st_n2), va_Nc.of (hf _ st_n3)⟩
  obtain ⟨a, c, cell, k, h1, -⟩ := Cond.exactly_spec (hf _ (st_sb2 q hq))
  exact ⟨a, vk_R.of (hts _ (st_sb1 q hq)) h1⟩
theorem kZ_cI (b : Nat) (h : 127 ≤ b) : kZ cI b := kZ_sI (kZ_sR (kZ_sR (kZ_sR (kZ_sR (kZ_rI 20 b (by omega)) (by omega)) (by omega)) (by omega)) (by omega)) (by omega)
theorem kZ_cI' (b : Nat) (h : 126 ≤ b) : kZ cI b := kZ_sI (kZ_sR (kZ_sR (kZ_sR (kZ_sR (kZ_rI 20 b (by omega)) (by omega)) (by omega)) (by omega)) (by omega)) (by omega)
theorem kZ_dI {σ : kS} {b : Nat} (h : kZ σ b) (hne : b ≠ 126) : kZ (dI σ) b := kZ_sR (kZ_sR (kZ_sR (kZ_sR (kZ_sR (kZ_sR (kZ_sR (kZ_sR (kZ_sR (kZ_sR (kZ_sR (kZ_sI h hne) hne) hne) hne) hne) hne) hne) hne) hne) hne) hne) hne
theorem st_H0 {w : kW} {H : Heap} (h1 : w.2.2.2.2 = H.size) (h2 : ∀ c, kL w c = w.2.2.2.2 + c) : kHc w 0 k0 H := by
  refine ⟨⟨?_, ?_⟩, by rw [h1]; rfl, h2⟩
  · show va_P w.1 vwCl [] H
    intro k q h
    simp at h
  · show va_D (kA w) []
    exact ⟨fun i j p q h => by simp at h, fun k q h => by simp at h⟩
set_option maxHeartbeats 4000000 in
set_option maxRecDepth 100000 in
/-- THE LAW, from its entry, where the functions of the calls answer on every script -/
theorem whole_start {p : Program} {e : Env} {s : State} {m : MethodId} {below : List Frame} {meth : Method} {c : Code} (l : Launch) (hst : l.stackTraces = false) (hmain : ∀ (xs : Nat → Int32) (n : Nat), n ≤ 512 → ∃ τ, frun xs n 0 kInit = some τ) {b L : Nat} {xs : Nat → Int32} (hL : L ≤ 2048) (C0 : lw_At p s m meth c b L xs) : W p l e room_1 s m #[Value.ref b] below meth c s.heap [] 0 0 (lw_Z below #[Value.ref b] s) (entryFrame m ([Value.ref b] : List Value).toArray 7) := by
  obtain ⟨hx, hb, hr, hml, hown, hts, hX, hbl, hlocks, hgv⟩ := id C0
  obtain ⟨w, hw1, hw2, hw3, hK⟩ := st_world hts
  obtain ⟨KX, KN⟩ := st_X (l := l) hts hgv hst hw2
  have hAO : va_AO RX0 s := va_AO.of (hts _ st_ao)
  have hNw : va_Nw yNest s := va_Nw.of rfl (hts _ st_ne)
  have htb : ∀ x ∈ TB, x.before #[Value.ref b] s = true := fun x hx => hts x (tb_sub x hx)
  have K : kCc w p s m #[Value.ref b] meth c cL_law 7 RL := ⟨hx, hb, hml, hown, htb, hK, hlocks, by rw [hw2]; exact Nat.le_refl _⟩
  have KK : kC w p s m #[Value.ref b] meth c cL_law 7 RL := ⟨hx, hb, hml, hown, htb, hK, hlocks, by rw [hw2]; exact Nat.le_refl _, hw1⟩
  have hS : kScr w s b L xs := ⟨hX, hbl, fun q => by
    have q : w.2.2.2.2 ≤ b := q
    omega, hL⟩
  obtain ⟨τ, hrun⟩ := hmain xs (L / 4) (by omega)
  have hl := lv_entry ([.ref b]) (n := 7) (Nat.le_of_ble_eq_true rfl)
  rw [lg_entry_eq]
  have key : kGc w p l e room_1 s m #[Value.ref b] below meth c (lw_Z below #[Value.ref b] s) 7 0 k0 0 [(0, .ref b)] [] 0 0 := by
    refine c_newO (ci := 1) (N := 12) (C := RX1) (T := TX1) (ty := tyX1) K dL_law_0 tw_60 tw_61 tw_48 rfl inX1 tyX1_ok (by decide) kd_0 (kZ_k0 0) (by decide) (by decide) ?_
    refine c_dup K dL_law_3 rfl ?_
    refine c_callI (rest := [.ref (kL w 0)]) K hAO hNw dL_law_4 tw_64 tw_48 tw_62 tw_63 rfl (by decide +kernel) (by decide) (Nat.le_of_ble_eq_true rfl) (by decide) (mX1_init l w) ⟨rfl, rfl⟩ ?_
    refine c_astore_n (lv' := [(1, .ref (kL w 0)), (0, .ref b)]) K dL_law_7 (by decide) rfl ?_
    refine c_newO (n := 126) (ci := 2) (N := 17) (C := RX2) (T := TX2) (ty := tyX2) K dL_law_8 tw_539 tw_540 tw_50 rfl inX2 tyX2_ok (by decide) kd_126 (kZ_cI' 126 (by decide)) (by decide) (by decide) ?_
    refine c_dup K dL_law_11 rfl ?_
    refine c_callI (rest := [.ref (kL w 126)]) K hAO hNw dL_law_12 tw_543 tw_50 tw_541 tw_542 rfl (by decide +kernel) (by decide) (Nat.le_of_ble_eq_true rfl) (by decide) (mX2_init l w cI kZ_cI) ⟨rfl, rfl⟩ ?_
    refine c_astore_n (lv' := [(2, .ref (kL w 126)), (1, .ref (kL w 0)), (0, .ref b)]) K dL_law_15 (by decide) rfl ?_
    refine c_iconst (v := 1) K dL_law_16 (by decide) ?_
    refine c_newJ (n := 138) (N := 1) K dL_law_17 tw_776 (by decide) (by decide) kd_138 (kZ_dI (kZ_cI 138 (by decide)) (by decide)) (by decide) (by decide) ?_
    refine c_astore_n (lv' := [(3, .ref (kL w 138)), (2, .ref (kL w 126)), (1, .ref (kL w 0)), (0, .ref b)]) K dL_law_19 (by decide) rfl ?_
    refine c_iconst (v := 0) K dL_law_20 (by decide) ?_
    refine c_istore (lv' := [(4, .int 0), (3, .ref (kL w 138)), (2, .ref (kL w 126)), (1, .ref (kL w 0)), (0, .ref b)]) K dL_law_21 (by decide) rfl ?_
    refine c_sub [4, 3, 2, 1, 0] rfl ?_
    intro H locs ls hH hS1 hlv
    refine l_loop (Q := lw_Z below #[Value.ref b] s) KK KX KN hS (fun σ i k n hk hn => ?_) (L / 4) 0 kInit τ _ _ (by omega) (by omega) ?_ ?_ hrun H locs ls (st_kH hw1 hH) hS1 hlv
    · refine k_iconst (v := 1) KK dL_law_1251 (by decide) ?_
      intro H locs ls hH hS1 hlv
      refine va_forget (fun q hq => by have := hS1.2.2 q hq; have this : w.2.2.2.2 ≤ q.base := this; omega) ?_
      refine W.widen (k := 601024) (n := 7293034) hk hn ?_
      exact lw_ret hx hb hr hlocks dL_law_1252
    · show 139 + 3 * (L / 4) ≤ 601024
      omega
    · show 57966 + 18 * (L / 4) ≤ 7293034
      omega
  refine key s.heap [] _ (st_H0 hw2 (fun c => by rw [hw3 c, hw2])) va_S.rf ⟨hl, fun q hq => ?_⟩
  have hq : q ∈ [((0 : Nat), Value.ref b)] := hq
  simp only [List.mem_cons, List.not_mem_nil, or_false] at hq
  subst hq
  rfl
