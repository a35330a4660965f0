section CC1
variable {w : kW} {p : Program} {l : Launch} {e : Env} {R : Room} {s : State} {m : MethodId} {args : Array Value} {below : List Frame} {meth : Method} {c : Code} {Q : State → Prop}
variable {cc : ByteArray} {nL n : Nat} {own : String} {σ : kS} {pc : Nat} {lv lv' : List (Nat × Value)} {st : List Value} {cells slots : Nat}
/-- a field is written: an int, or (a final one, in its constructor) a reference -/
theorem c_put (K : kCc w p s m args meth c cc nL own) {a ci N idx k : Nat} {C : String} {T : u_T} {ty : Nat → FieldType} {v : Value} {τ : kS} (d : decode cc pc = .ok (.putfield idx, 3)) (ha : a < n) (hk : kd a = (0, ci, N)) (hc : vwCl[ci]? = some (C, T, N)) (hin : ∀ x ∈ u_ws C T N, x ∈ TB) (hty : ∀ k, k < N → parseFieldDescriptor (T k).2.2.1 = some (ty k)) (hnm : ∀ a, a < N → ∀ b, b < N → a ≠ b → (T a).2.1 ≠ (T b).2.1) (hkN : k < N) (hl : Cond.fieldLink own idx (T k).1 (T k).2.1 (T k).2.2.1 ∈ TB) (hfn : (T k).2.2.2 = false ∨ ((T k).2.2.2 = true ∧ meth.name = "<init>" ∧ (T k).1 = own)) (hw : narrow (ty k) v = v) (hft : fits (ty k) v = true)
    (hv : (bif kr ci k then va_rf ((τ.2.1 a k).map w.2.2.1) else .int (τ.1 a k)) = v) (ho : ∀ j, j ≠ k → τ.1 a j = σ.1 a j ∧ τ.2.1 a j = σ.2.1 a j) (hn : ∀ b, b ≠ a → kE w τ b = kE w σ b)
    (kk : kGc w p l e R s m args below meth c Q nL n τ (pc + 3) lv st cells slots) : kGc w p l e R s m args below meth c Q nL n σ pc lv (v :: .ref (kL w a) :: st) cells slots := by
  intro H locs ls hH hS hlv
  have hP : va_P w.1 vwCl (kws (wn w n) σ) H := hH.1.1
  have hD : va_D (kA w) (kws (wn w n) σ) := hH.1.2
  have he : (kws (wn w n) σ)[a]? = some (kL w a, .inr (ci, (List.range N).map fun k => bif kr ci k then va_rf ((σ.2.1 a k).map w.2.2.1) else .int (σ.1 a k))) := by rw [wn_at σ ha, kE_o w σ hk]
  have hap := va_apart (own := own) K.ts hin ty hty hnm K.kk hc
  obtain ⟨r, g1, cell, q1, q2, q3, q4⟩ := hP a _ he
  have hr : r = (C, T, N) := Option.some.inj (g1.symm.trans hc)
  subst hr
  obtain ⟨hSl, hfc, kC, hkC, hkind⟩ := K.kk.1 ci _ hc
  obtain ⟨cf, kf, fi, f, hi, hsl⟩ := hSl k hkN
  have hlay := K.ts _ (hin _ (u_in_lay hkN))
  have hst := (u_facts hfc hkC (u_lays K.ts hin hkN) hi).1
  have fin : ∀ H' : Heap, H'[kL w a]? = some (cell.setSlot f.slot v) → H'.size = H.size → (∀ q, q ≠ kL w a → H'[q]? = H[q]?) → W p l e R s m args below meth c H' (locs ++ [⟨kL w a, f.slot⟩]) cells slots Q (F0 m (pc + 3) ls st) := by
    intro H' e1 e2 e3
    rw [hsl] at e1 ⊢
    have hl9 : k < ((List.range N).map fun k => bif kr ci k then va_rf ((σ.2.1 a k).map w.2.2.1) else .int (σ.1 a k)).length := by simpa using hkN
    have hP1 := hP.set (e := .inr (ci, ((List.range N).map fun k => bif kr ci k then va_rf ((σ.2.1 a k).map w.2.2.1) else .int (σ.1 a k)).set k v)) hD he ⟨_, hc, t_OB.to (V := updV (vp_V _) k v) ⟨_, e1, q2, q3, t_set q4 hap hkN v⟩ (fun j _ => vp_updV_set hl9 v j)⟩ e3
    exact kk H' _ ls (kHc_put hH e2 hn (kE_fld σ τ hk hkN hv ho) hP1 (hD.set he)) (hS.put e2 e3 (hD.2 a _ he)) hlv
  rcases hfn with hf0 | ⟨hf1, hin2, hdecl⟩
  · unfold u_lay at hlay
    rw [if_neg (by rw [hf0]; decide)] at hlay
    have h6 := u_store hfc hkC hkind hlay hi (hty k hkN) hw hft
    exact W.putK K.ex K.by (f := f) ⟨K.ow, K.ts _ hl, ⟨_, _, _, hi⟩, hst⟩ (by rw [q2]; exact h6) q1 q3 (by rw [hsl]; exact k2_hasslot (q4 k hkN)) rfl rfl d fin
  · unfold u_lay at hlay
    rw [if_pos hf1] at hlay
    have hcf : m.cls = cf := by
      obtain ⟨_, _, c', _, _, _, -, -, hf', -, -, -, hown2, -⟩ := Cond.laysFinal_spec hlay
      have e1 : c' = cf := by have := hi.symm.trans hf'; simp at this; exact this.1.symm
      rw [hdecl] at hown2
      rw [← e1]; exact Option.some.inj (K.ow.symm.trans hown2)
    have h6 := u_fits hfc hkC hkind (Or.inr hlay) hi (hty k hkN) hw hft
    exact W.putFinK K.ex K.by K.ow (K.ts _ hl) hi hst hcf hin2 (by rw [q2]; exact h6) q1 q3 (by rw [hsl]; exact k2_hasslot (q4 k hkN)) rfl rfl d fin
theorem c_putI (K : kCc w p s m args meth c cc nL own) {a ci N idx k : Nat} {C : String} {T : u_T} {ty : Nat → FieldType} {v : Int32} (d : decode cc pc = .ok (.putfield idx, 3)) (ha : a < n) (hk : kd a = (0, ci, N)) (hc : vwCl[ci]? = some (C, T, N)) (hin : ∀ x ∈ u_ws C T N, x ∈ TB) (hty : ∀ k, k < N → parseFieldDescriptor (T k).2.2.1 = some (ty k)) (hnm : ∀ a, a < N → ∀ b, b < N → a ≠ b → (T a).2.1 ≠ (T b).2.1) (hkN : k < N) (hr : kr ci k = false) (hl : Cond.fieldLink own idx (T k).1 (T k).2.1 (T k).2.2.1 ∈ TB) (hf : (T k).2.2.2 = false) (hw : narrow (ty k) (.int v) = .int v) (hft : fits (ty k) (.int v) = true)
    (kk : kGc w p l e R s m args below meth c Q nL n (sI σ a k v) (pc + 3) lv st cells slots) : kGc w p l e R s m args below meth c Q nL n σ pc lv (.int v :: .ref (kL w a) :: st) cells slots :=
  c_put (τ := sI σ a k v) K d ha hk hc hin hty hnm hkN hl (Or.inl hf) hw hft (by simp [hr, sI]) (fun j hj => ⟨by simp [sI, hj], rfl⟩) (fun b hb => kE_sI w σ a k v b hb) kk
theorem c_putR (K : kCc w p s m args meth c cc nL own) {a ci N idx k b : Nat} {C : String} {T : u_T} {ty : Nat → FieldType} (d : decode cc pc = .ok (.putfield idx, 3)) (ha : a < n) (hk : kd a = (0, ci, N)) (hc : vwCl[ci]? = some (C, T, N)) (hin : ∀ x ∈ u_ws C T N, x ∈ TB) (hty : ∀ k, k < N → parseFieldDescriptor (T k).2.2.1 = some (ty k)) (hnm : ∀ a, a < N → ∀ b, b < N → a ≠ b → (T a).2.1 ≠ (T b).2.1) (hkN : k < N) (hr : kr ci k = true) (hl : Cond.fieldLink own idx (T k).1 (T k).2.1 (T k).2.2.1 ∈ TB) (hf : (T k).2.2.2 = true) (hm : meth.name = "<init>") (hd : (T k).1 = own) (hw : narrow (ty k) (.ref (kL w b)) = .ref (kL w b)) (hft : fits (ty k) (.ref (kL w b)) = true)
    (kk : kGc w p l e R s m args below meth c Q nL n (sR σ a k (some b)) (pc + 3) lv st cells slots) : kGc w p l e R s m args below meth c Q nL n σ pc lv (.ref (kL w b) :: .ref (kL w a) :: st) cells slots :=
  c_put (τ := sR σ a k (some b)) K d ha hk hc hin hty hnm hkN hl (Or.inr ⟨hf, hm, hd⟩) hw hft (by simp [hr, sR, va_rf]) (fun j hj => ⟨rfl, by simp [sR, hj]⟩) (fun q hq => kE_sR w σ a k _ q hq) kk
/-- a final reference is read -/
theorem c_getR (K : kCc w p s m args meth c cc nL own) {a ci N idx k b : Nat} {C : String} {T : u_T} (d : decode cc pc = .ok (.getfield idx, 3)) (ha : a < n) (hk : kd a = (0, ci, N)) (hc : vwCl[ci]? = some (C, T, N)) (hin : ∀ x ∈ u_ws C T N, x ∈ TB) (hkN : k < N) (hr : kr ci k = true) (hb : σ.2.1 a k = some b) (hl : Cond.fieldLink own idx (T k).1 (T k).2.1 (T k).2.2.1 ∈ TB)
    (kk : kGc w p l e R s m args below meth c Q nL n σ (pc + 3) lv (.ref (kL w b) :: st) cells slots) : kGc w p l e R s m args below meth c Q nL n σ pc lv (.ref (kL w a) :: st) cells slots := by
  intro H locs ls hH hS hv
  refine va_get (v := .ref (kL w b)) K.ex K.by K.ts hin K.ow K.kk hH.1.1 a (by rw [wn_at σ ha, kE_o w σ hk]) hc k hkN (K.ts _ hl) (fun _ h => h) ?_ d (kk H locs ls hH hS hv)
  rw [List.getElem?_map, List.getElem?_range hkN]
  simp only [Option.map_some, hr, cond_true, hb]
  rfl
/-- a member goes into the array of rows -/
theorem c_aast (K : kCc w p s m args meth c cc nL own) {a b x N : Nat} {i : Int32} {j : Nat} (d : decode cc pc = .ok (.aastore, 1)) (ha : a < n) (hb : b < n) (hk : kd a = (3, x, N)) (hkb : kd b = (0, 0, 8)) (hi : i = nI j) (hj : j < N) (hN : N ≤ 16384) (kk : kGc w p l e R s m args below meth c Q nL n (sR σ a j (some b)) (pc + 1) lv st cells slots) : kGc w p l e R s m args below meth c Q nL n σ pc lv (.ref (kL w b) :: .int i :: .ref (kL w a) :: st) cells slots := by
  intro H locs ls hH hS hv
  subst hi
  have hcl : (nI j).toNatClampNeg = j := nI_clamp (by omega)
  have hP : va_P w.1 vwCl (kws (wn w n) σ) H := hH.1.1
  have hD : va_D (kA w) (kws (wn w n) σ) := hH.1.2
  have ea : (kws (wn w n) σ)[a]? = some (kL w a, .inl (w.2.1 2, N, .inr (.inr (.inr (.inr fun j => (σ.2.1 a j).map w.2.2.1))))) := by rw [wn_at σ ha, kE_r w σ hk]
  have hz : ∀ (H1 : Heap) (locs1 : List Loc), va_P w.1 vwCl ((kws (wn w n) σ).set a (kL w a, .inl (w.2.1 2, N, .inr (.inr (.inr (.inr (va_up (fun j => (σ.2.1 a j).map w.2.2.1) (nI j).toNatClampNeg (some (kL w b))))))))) H1 → va_D (kA w) ((kws (wn w n) σ).set a (kL w a, .inl (w.2.1 2, N, .inr (.inr (.inr (.inr (va_up (fun j => (σ.2.1 a j).map w.2.2.1) (nI j).toNatClampNeg (some (kL w b))))))))) → va_S (kA w) s.heap H1 locs1 → H1.size = H.size → W p l e R s m args below meth c H1 locs1 cells slots Q (F0 m (pc + 1) ls st) := by
    intro H1 locs1 hP1 hD1 hS1 z1
    refine kk H1 locs1 ls (kHc_put hH z1 (fun q hq => kE_sR w σ a j _ q hq) ?_ hP1 hD1) hS1 hv
    rw [kE_r w _ hk, hcl]
    congr 7
    funext q
    by_cases e : q = j
    · simp [sR, va_up, e]
    · simp [sR, va_up, e]
  have eb : (kws (wn w n) σ)[b]? = some (kL w b, .inr (0, (List.range 8).map fun k => bif kr 0 k then va_rf ((σ.2.1 b k).map w.2.2.1) else .int (σ.1 b k))) := by rw [wn_at σ hb, kE_o w σ hkb]
  obtain ⟨r', hr', cellV, g1, g2, g3, -⟩ := hP b _ eb
  have hcls := (K.kk.1 0 (RX0, TX0, 8) rfl).2
  obtain ⟨kA, comp, k1, k2, k3, -⟩ := (K.kk.2 2 _ (kt2 w)).2
  have hcomp : comp = w.1.1 0 := Option.some.inj (k3.symm.trans hcls.1)
  subst hcomp
  obtain ⟨kC, hkC, -⟩ := hcls.2
  have hj31 : j < 2 ^ 31 := by omega
  refine W.aast K.ex K.by (hP a _ ea) (fun q h => by cases h) (fun h => by cases h) k1 k2 rfl hkC ⟨nI_pos hj31, by show _ < (arrV _ _ _).slots.size; rw [arrV_size, hcl]; exact hj⟩ g1 (fun q h => by rw [g3] at h; cases h) (by rw [g2]; exact hkC) (by rw [g2]; exact va_assign hcls) rfl rfl d (fun H1 e9 z1 oq => ?_)
  refine hz H1 _ (hP.set hD ea ?_ oq) (hD.set ea) (hS.put z1 oq (hD.2 a _ ea)) z1
  show H1[kL w a]? = some (vp_cell _ _)
  rw [e9, vp_cell_q, vp_cell_q, arrV_store]
  congr 2
  funext q
  by_cases hq : q = (nI j).toNatClampNeg
  · subst hq
    simp [updV, va_up, va_rf]
  · simp [updV, va_up, hq]
end CC1
