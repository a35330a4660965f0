theorem q_ar1 {p l q x : Nat} (hp : p < 256) (hl : l < 256) (hq : q < 256) (hx : x < 256) (h : up p l < up p x) : btw l q x = decide (up p l < up p q ∧ up p q < up p x) := by
  simp only [btw, up] at *
  congr 1
  apply propext
  constructor
  · rintro ⟨h1, h2⟩
    omega
  · rintro ⟨h1, h2⟩
    omega
theorem q_ar2 {p q x : Nat} (hp : p < 256) (hq : q < 256) (hx : x < 256) (h0 : 0 < up p q) (h : up p q < up p x) : up q x < up p x := by
  simp only [up] at *
  omega
theorem q_ar3 {p q x : Nat} (hp : p < 256) (hq : q < 256) (hx : x < 256) (h : up p q = up p x) : q = x := by
  simp only [up] at *
  omega
theorem q_cnt {l : List Nat} {f g : Nat → Bool} (hfg : ∀ x, f x = true → g x = true) {a : Nat} (ha : a ∈ l) (hg : g a = true) (hf : f a = false) : l.countP f + 1 ≤ l.countP g := by
  induction l with
  | nil => cases ha
  | cons y t ih =>
    have hle : t.countP f ≤ t.countP g := List.countP_mono_left (fun x _ => hfg x)
    rw [List.countP_cons, List.countP_cons]
    rcases List.mem_cons.mp ha with e | e
    · subst e
      simp only [hg, hf, if_true]
      simp
      omega
    · have := ih e
      by_cases h1 : f y = true
      · simp only [h1, hfg y h1, if_true]; omega
      · simp only [h1]
        split <;> simp at * <;> omega
section
variable {N rr : Nat} {σ τ : kS}
def Vd (τ : kS) (p x m : Nat) : Prop := m < 256 ∧ τ.1 127 m = 1 ∧ 0 < up p m ∧ up p m < up p x
def Bst (τ : kS) (p x : Nat) (S : Nat → Prop) (b : Int32) : Prop := (b = -1 ∧ ∀ m, Vd τ p x m → ¬ S m) ∨ ∃ l, b = nI l ∧ Vd τ p x l ∧ S l ∧ ∀ m, Vd τ p x m → S m → up p m ≤ up p l
def Cst (σ τ : kS) (p x : Nat) (S : Nat → Prop) (c : Nat) : Prop := ∃ l, Mc σ l c ∧ (l = p ∨ (Vd τ p x l ∧ S l)) ∧ ∀ m, Vd τ p x m → S m → up p m ≤ up p l
theorem q_later (B : Bas rr σ τ) {p x : Nat} (hp : p < 256) (hx : x < 256) (hpx : p ≠ x) {S : Nat → Prop} {b : Int32} (h : Bst τ p x S b) (o : Int32) : ∃ b', fX2_later τ (nI p) (nI x) b o = some b' ∧ Bst τ p x (fun m => S m ∨ o = nI m) b' := by
  simp only [fX2_later]
  have u0 : ¬ up p x = 0 := fun e => hpx ((up_eq0 hp hx).mp e)
  rcases q_live B o with ⟨-, h2, h3⟩ | ⟨q, z, e, hm, h3, -, h5⟩
  · simp only [h2, Option.bind_some, ↓reduceIte]
    refine ⟨b, rfl, ?_⟩
    rcases h with ⟨rfl, h⟩ | ⟨l, rfl, g1, g2, g3⟩
    · exact Or.inl ⟨rfl, fun m hm hs => hs.elim (h m hm) (fun e => h3 m hm.1 e hm.2.1)⟩
    · exact Or.inr ⟨l, rfl, g1, Or.inl g2, fun m hm hs => hs.elim (g3 m hm) (fun e => absurd hm.2.1 (h3 m hm.1 e))⟩
  · subst e
    have hq := hm.1
    have hb := q_btw2 (a := p) (x := q) (b := x) hp hq hx
    simp only [h5, Option.bind_some, ↓reduceIte, q_10, hb]
    have hv : btw p q x = true ↔ Vd τ p x q := by
      simp only [btw, Vd, decide_eq_true_eq]
      constructor
      · rintro ⟨a1, a2⟩; exact ⟨hq, h3, by omega, by omega⟩
      · rintro ⟨-, -, a1, a2⟩; exact ⟨by omega, Or.inr a2⟩
    cases hbt : btw p q x
    · have hnv : ¬ Vd τ p x q := fun g => by rw [hv.mpr g] at hbt; cases hbt
      simp only [bI_F, ↓reduceIte]
      refine ⟨b, rfl, ?_⟩
      have hh : ∀ m, Vd τ p x m → nI q = nI m → False := fun m hm e => by
        have := hm.1
        have e := q_inj (by omega) (by omega) e
        subst e; exact hnv hm
      rcases h with ⟨rfl, h⟩ | ⟨l, rfl, g1, g2, g3⟩
      · exact Or.inl ⟨rfl, fun m hm hs => hs.elim (h m hm) (fun e => hh m hm e)⟩
      · exact Or.inr ⟨l, rfl, g1, Or.inl g2, fun m hm hs => hs.elim (g3 m hm) (fun e => (hh m hm e).elim)⟩
    · have hvd := hv.mp hbt
      simp only [bI_T, q_10, ↓reduceIte, fX2_later_40]
      rcases h with ⟨rfl, h⟩ | ⟨l, rfl, g1, g2, g3⟩
      · simp only [↓reduceIte]
        refine ⟨_, rfl, Or.inr ⟨q, rfl, hvd, Or.inr rfl, fun m hm hs => hs.elim (fun g => absurd g (h m hm)) (fun e => ?_)⟩⟩
        have := hm.1
        rw [q_inj (by omega) (by omega) e]; exact Nat.le_refl _
      · have hl := g1.1
        have u1 := up_lt p q
        have u2 := up_lt p l
        rw [if_neg (q_nm1 (by omega)), q_up2 hp hq, q_up2 hp hl]
        simp only [Option.bind_some]
        by_cases hc : up p q ≤ up p l
        · rw [if_pos (q_leT hc (by omega))]
          refine ⟨_, rfl, Or.inr ⟨l, rfl, g1, Or.inl g2, fun m hm hs => hs.elim (g3 m hm) (fun e => ?_)⟩⟩
          have := hm.1
          rw [← q_inj (by omega) (by omega) e]; exact hc
        · rw [if_neg (q_leF (by omega) (by omega))]
          refine ⟨_, rfl, Or.inr ⟨q, rfl, hvd, Or.inr rfl, fun m hm hs => hs.elim (fun g => ?_) (fun e => ?_)⟩⟩
          · have := g3 m hm g; omega
          · have := hm.1
            rw [q_inj (by omega) (by omega) e]; exact Nat.le_refl _
theorem q_ahead (B : Bas rr σ τ) {p x c : Nat} (hp : p < 256) (hx : x < 256) (hpx : p ≠ x) {S : Nat → Prop} {c3 : Nat} {i : Int32} (h : Cst σ τ p x S c3) (o : Int32) : ∃ c', fX1_lastKnownAheadOf_49 c (nI x) c3 i o σ = some (.inl (c', i + 1)) ∧ Cst σ τ p x (fun m => S m ∨ o = nI m) c' := by
  simp only [fX1_lastKnownAheadOf_49, fX1_lastKnownAheadOf_78]
  have u0 : ¬ up p x = 0 := fun e => hpx ((up_eq0 hp hx).mp e)
  obtain ⟨l, g1, g2, g3⟩ := h
  have hl := g1.1
  rcases q_live B o with ⟨h2, -, h3⟩ | ⟨q, z, e, hm, h3, h5, -⟩
  · simp only [h2, Option.bind_some, kmn_n]
    exact ⟨c3, rfl, l, g1, g2.imp_right (fun g => ⟨g.1, Or.inl g.2⟩), fun m hm hs => hs.elim (g3 m hm) (fun e => absurd hm.2.1 (h3 m hm.1 e))⟩
  · subst e
    have hq := hm.1
    have ul : up p l < up p x := by
      rcases g2 with e | g
      · subst e
        have := (up_eq0 hp hp).mpr rfl
        omega
      · exact g.1.2.2.2
    have hb := q_btw1 (a := l) (x := q) (b := x) hl hq hx
    simp only [h5, Option.bind_some, kmn_s, q_mcK B g1, q_mcK B hm, q_mcP B g1, q_mcP B hm, ↓reduceIte, hb, q_ar1 hp hl hq hx ul]
    by_cases hc : up p l < up p q ∧ up p q < up p x
    · simp only [hc, and_self, decide_true, bI_T, q_10, ↓reduceIte]
      refine ⟨z, rfl, q, hm, Or.inr ⟨⟨hq, h3, by omega, hc.2⟩, Or.inr rfl⟩, fun m hm hs => hs.elim (fun g => ?_) (fun e => ?_)⟩
      · have := g3 m hm g; omega
      · have := hm.1
        rw [q_inj (by omega) (by omega) e]; exact Nat.le_refl _
    · rw [show decide (up p l < up p q ∧ up p q < up p x) = false from decide_eq_false hc]
      simp only [bI_F, ↓reduceIte]
      refine ⟨c3, rfl, l, g1, g2.imp_right (fun g => ⟨g.1, Or.inl g.2⟩), fun m hm hs => hs.elim (g3 m hm) (fun e => ?_)⟩
      have h1 := hm.1
      have e := q_inj (by omega) (by omega) e
      subst e
      have := hm.2.2.2
      omega
theorem q_last (B : Ro N rr σ τ) {p x c : Nat} (h : Mc σ p c) (hx : x < 256) (hpx : p ≠ x) : ∃ c', fX1_lastKnownAheadOf σ c (nI x) = some c' ∧ Cst σ τ p x (fun m => (∃ k, k < rr ∧ τ.1 128 (4 * p + k) = nI m) ∨ ∃ k, k < 8 ∧ τ.1 130 (8 * p + k) = nI m) c' := by
  have hp := h.1
  have hk := q_mcK B.1 h
  have hr := q_rr B
  have r3 := B.1.1.2.2.1
  obtain ⟨-, -, d3, d4, -⟩ := B.2.2.2 p c h
  refine q_inv (body := fX1_lastKnownAheadOf_5 c (nI x) σ) (a := (c, 0)) (fun i a => a.2 = nI i ∧ Cst σ τ p x (fun m => ∃ j, j < i ∧ ((j < rr ∧ τ.1 128 (4 * p + j) = nI m) ∨ (rr ≤ j ∧ τ.1 130 (8 * p + (j - rr)) = nI m))) a.1) _ (rr + 8) (by omega) ?_ ?_ ?_
  · exact ⟨rfl, p, h, Or.inl rfl, fun m _ hs => by obtain ⟨j, hj, -⟩ := hs; omega⟩
  · rintro i ⟨c3, y⟩ hi ⟨e1, e2⟩
    dsimp only at e1 e2
    subst e1
    left
    have wk : ∀ (o : Int32) (c' : Nat), ((i < rr ∧ τ.1 128 (4 * p + i) = o) ∨ (rr ≤ i ∧ τ.1 130 (8 * p + (i - rr)) = o)) → Cst σ τ p x (fun m => (∃ j, j < i ∧ ((j < rr ∧ τ.1 128 (4 * p + j) = nI m) ∨ (rr ≤ j ∧ τ.1 130 (8 * p + (j - rr)) = nI m))) ∨ o = nI m) c' → Cst σ τ p x (fun m => ∃ j, j < i + 1 ∧ ((j < rr ∧ τ.1 128 (4 * p + j) = nI m) ∨ (rr ≤ j ∧ τ.1 130 (8 * p + (j - rr)) = nI m))) c' := by
      rintro o c' ho ⟨l, f1, f2, f3⟩
      refine ⟨l, f1, f2.imp_right (fun g => ⟨g.1, ?_⟩), fun m hm hs => f3 m hm ?_⟩
      · rcases g.2 with ⟨j, j1, j2⟩ | e
        · exact ⟨j, by omega, j2⟩
        · refine ⟨i, by omega, ?_⟩
          rcases ho with ⟨a1, a2⟩ | ⟨a1, a2⟩
          · exact Or.inl ⟨a1, a2.trans e⟩
          · exact Or.inr ⟨a1, a2.trans e⟩
      · obtain ⟨j, j1, j2⟩ := hs
        by_cases e : j = i
        · subst e
          right
          rcases ho with ⟨a1, a2⟩ | ⟨a1, a2⟩
          · rcases j2 with ⟨b1, b2⟩ | ⟨b1, b2⟩
            · exact a2.symm.trans b2
            · omega
          · rcases j2 with ⟨b1, b2⟩ | ⟨b1, b2⟩
            · omega
            · exact a2.symm.trans b2
        · exact Or.inl ⟨j, by omega, j2⟩
    by_cases hc : i < rr
    · simp (disch := omega) only [fX1_lastKnownAheadOf_5, gX1_lastKnownAheadOf_5, r3, hk, q_l2, q_l3, q_l4, q_l7, q_l8, q_l10, q_l17, q_l18, q_l20, q_l31, q_l40, q_l61, q_l64, q_l255, q_l256, q_leT, q_leF, q_ltT, q_ltF, q_ne, q_n0, q_0le, q_ne0, q_le0F, q_lt0T, q_nm1, q_ltm1, q_cl, q_cl0, q_vpE, q_add, q_s1, q_mul, q_nle, q_nlt, false_or, or_false, not_false_eq_true, if_true, if_false, ↓reduceIte, Option.bind_some, Option.map_some]
      rw [d3 i hc]
      obtain ⟨c', f1, f2⟩ := q_ahead (c := c) (i := nI i) B.1 hp hx hpx e2 (τ.1 128 (4 * p + i))
      rw [f1]
      exact ⟨_, rfl, q_s1 i, wk _ _ (Or.inl ⟨hc, rfl⟩) f2⟩
    · simp (disch := omega) only [fX1_lastKnownAheadOf_5, gX1_lastKnownAheadOf_5, r3, hk, q_sub, q_l2, q_l3, q_l4, q_l7, q_l8, q_l10, q_l17, q_l18, q_l20, q_l31, q_l40, q_l61, q_l64, q_l255, q_l256, q_leT, q_leF, q_ltT, q_ltF, q_ne, q_n0, q_0le, q_ne0, q_le0F, q_lt0T, q_nm1, q_ltm1, q_cl, q_cl0, q_vpE, q_add, q_s1, q_mul, q_nle, q_nlt, false_or, or_false, not_false_eq_true, if_true, if_false, ↓reduceIte, Option.bind_some, Option.map_some]
      rw [d4 (i - rr) (by omega)]
      obtain ⟨c', f1, f2⟩ := q_ahead (c := c) (i := nI i) B.1 hp hx hpx e2 (τ.1 130 (8 * p + (i - rr)))
      rw [f1]
      exact ⟨_, rfl, q_s1 i, wk _ _ (Or.inr ⟨by omega, rfl⟩) f2⟩
  · rintro ⟨c3, y⟩ ⟨e1, e2⟩
    dsimp only at e1 e2
    subst e1
    simp (disch := omega) only [fX1_lastKnownAheadOf_5, gX1_lastKnownAheadOf_5, r3, hk, q_l2, q_l3, q_l4, q_l7, q_l8, q_l10, q_l17, q_l18, q_l20, q_l31, q_l40, q_l61, q_l64, q_l255, q_l256, q_leT, q_leF, q_ltT, q_ltF, q_ne, q_n0, q_0le, q_ne0, q_le0F, q_lt0T, q_nm1, q_ltm1, q_cl, q_cl0, q_vpE, q_add, q_s1, q_mul, q_nle, q_nlt, false_or, or_false, not_false_eq_true, if_true, if_false, ↓reduceIte, Option.bind_some, Option.map_some]
    obtain ⟨l, f1, f2, f3⟩ := e2
    refine ⟨c3, rfl, l, f1, f2.imp_right (fun g => ⟨g.1, ?_⟩), fun m hm hs => f3 m hm ?_⟩
    · obtain ⟨j, j1, j2⟩ := g.2
      rcases j2 with ⟨b1, b2⟩ | ⟨b1, b2⟩
      · exact Or.inl ⟨j, b1, b2⟩
      · exact Or.inr ⟨j - rr, by omega, b2⟩
    · rcases hs with ⟨j, b1, b2⟩ | ⟨j, b1, b2⟩
      · exact ⟨j, by omega, Or.inl ⟨b1, b2⟩⟩
      · exact ⟨j + rr, by omega, Or.inr ⟨by omega, by rw [Nat.add_sub_cancel]; exact b2⟩⟩
def hopR (τ : kS) (h : Nat) (v : Int32) : kS := sI (sI (sI τ 136 h v) 126 12 (nI (h + 1))) 126 14 (τ.1 126 14 + 1)
theorem q_best (B : Ro N rr σ τ) {p x : Nat} (hp : p < 256) (hx : x < 256) (hpx : p ≠ x) {h : Nat} (hh : h < 64) (h12 : τ.1 126 12 = nI h) : ∃ b, kit (fX2_lookFor_46 (nI x) (nI p) τ) 300 (-1, 0) = some (.inl (b, hopR τ h b)) ∧ Bst τ p x (fun m => (∃ k, k < rr ∧ τ.1 128 (4 * p + k) = nI m) ∨ ∃ k, k < 8 ∧ τ.1 130 (8 * p + k) = nI m) b := by
  have hr := q_rr B
  have r4 := B.1.1.2.2.2
  have key := q_inv (body := fX2_lookFor_46 (nI x) (nI p) τ) (a := (-1, 0)) (fun i a => a.2 = nI i ∧ Bst τ p x (fun m => ∃ j, j < i ∧ τ.1 130 (8 * p + j) = nI m) a.1)
    (fun y => ∃ b, y = .inl (b, hopR τ h b) ∧ Bst τ p x (fun m => (∃ k, k < rr ∧ τ.1 128 (4 * p + k) = nI m) ∨ ∃ k, k < 8 ∧ τ.1 130 (8 * p + k) = nI m) b) 8 (by omega) ?_ ?_ ?_
  · obtain ⟨b, g1, b', rfl, g2⟩ := key
    exact ⟨b', g1, g2⟩
  · exact ⟨rfl, Or.inl ⟨rfl, fun m _ hs => by obtain ⟨j, hj, -⟩ := hs; omega⟩⟩
  · rintro i ⟨b, y⟩ hi ⟨e1, e2⟩
    dsimp only at e1 e2
    subst e1
    left
    simp (disch := omega) only [fX2_lookFor_46, gX2_lookFor_46, q_l2, q_l3, q_l4, q_l7, q_l8, q_l10, q_l17, q_l18, q_l20, q_l31, q_l40, q_l61, q_l64, q_l255, q_l256, q_leT, q_leF, q_ltT, q_ltF, q_ne, q_n0, q_0le, q_ne0, q_le0F, q_lt0T, q_nm1, q_ltm1, q_cl, q_cl0, q_vpE, q_add, q_s1, q_mul, q_nle, q_nlt, false_or, or_false, not_false_eq_true, if_true, if_false, ↓reduceIte, Option.bind_some, Option.map_some]
    obtain ⟨b', f1, f2⟩ := q_later B.1 hp hx hpx e2 (τ.1 130 (8 * p + i))
    rw [f1]
    refine ⟨_, rfl, rfl, ?_⟩
    rcases f2 with ⟨g1, g2⟩ | ⟨l, g1, g2, g3, g4⟩
    · refine Or.inl ⟨g1, fun m hm hs => g2 m hm ?_⟩
      obtain ⟨j, j1, j2⟩ := hs
      by_cases e : j = i
      · subst e; exact Or.inr j2
      · exact Or.inl ⟨j, by omega, j2⟩
    · refine Or.inr ⟨l, g1, g2, ?_, fun m hm hs => g4 m hm ?_⟩
      · rcases g3 with ⟨j, j1, j2⟩ | e
        · exact ⟨j, by omega, j2⟩
        · exact ⟨i, by omega, e⟩
      · obtain ⟨j, j1, j2⟩ := hs
        by_cases e : j = i
        · subst e; exact Or.inr j2
        · exact Or.inl ⟨j, by omega, j2⟩
  · rintro ⟨b0, y⟩ ⟨e1, e2⟩
    dsimp only at e1 e2
    subst e1
    simp (disch := omega) only [fX2_lookFor_46, gX2_lookFor_46, q_l2, q_l3, q_l4, q_l7, q_l8, q_l10, q_l17, q_l18, q_l20, q_l31, q_l40, q_l61, q_l64, q_l255, q_l256, q_leT, q_leF, q_ltT, q_ltF, q_ne, q_n0, q_0le, q_ne0, q_le0F, q_lt0T, q_nm1, q_ltm1, q_cl, q_cl0, q_vpE, q_add, q_s1, q_mul, q_nle, q_nlt, false_or, or_false, not_false_eq_true, if_true, if_false, ↓reduceIte, Option.bind_some, Option.map_some]
    have key := q_inv (body := fX2_lookFor_84 (nI x) (nI p) τ) (a := (b0, 0)) (fun i a => a.2 = nI i ∧ Bst τ p x (fun m => (∃ j, j < i ∧ τ.1 128 (4 * p + j) = nI m) ∨ ∃ j, j < 8 ∧ τ.1 130 (8 * p + j) = nI m) a.1)
      (fun y => ∃ b, y = .inl (b, hopR τ h b) ∧ Bst τ p x (fun m => (∃ k, k < rr ∧ τ.1 128 (4 * p + k) = nI m) ∨ ∃ k, k < 8 ∧ τ.1 130 (8 * p + k) = nI m) b) rr (by omega) ?_ ?_ ?_
    · obtain ⟨b, g1, g2⟩ := key
      rw [g1]
      exact ⟨_, rfl, g2⟩
    · refine ⟨rfl, ?_⟩
      rcases e2 with ⟨g1, g2⟩ | ⟨l, g1, g2, g3, g4⟩
      · exact Or.inl ⟨g1, fun m hm hs => hs.elim (fun g => by obtain ⟨j, hj, -⟩ := g; omega) (g2 m hm)⟩
      · exact Or.inr ⟨l, g1, g2, Or.inr g3, fun m hm hs => hs.elim (fun g => by obtain ⟨j, hj, -⟩ := g; omega) (g4 m hm)⟩
    · rintro i ⟨b, y⟩ hi ⟨e1, e2⟩
      dsimp only at e1 e2
      subst e1
      left
      simp (disch := omega) only [fX2_lookFor_84, gX2_lookFor_84, r4, q_l2, q_l3, q_l4, q_l7, q_l8, q_l10, q_l17, q_l18, q_l20, q_l31, q_l40, q_l61, q_l64, q_l255, q_l256, q_leT, q_leF, q_ltT, q_ltF, q_ne, q_n0, q_0le, q_ne0, q_le0F, q_lt0T, q_nm1, q_ltm1, q_cl, q_cl0, q_vpE, q_add, q_s1, q_mul, q_nle, q_nlt, false_or, or_false, not_false_eq_true, if_true, if_false, ↓reduceIte, Option.bind_some, Option.map_some]
      obtain ⟨b', f1, f2⟩ := q_later B.1 hp hx hpx e2 (τ.1 128 (4 * p + i))
      rw [f1]
      refine ⟨_, rfl, rfl, ?_⟩
      rcases f2 with ⟨g1, g2⟩ | ⟨l, g1, g2, g3, g4⟩
      · refine Or.inl ⟨g1, fun m hm hs => g2 m hm ?_⟩
        rcases hs with ⟨j, j1, j2⟩ | hs
        · by_cases e : j = i
          · subst e; exact Or.inr j2
          · exact Or.inl (Or.inl ⟨j, by omega, j2⟩)
        · exact Or.inl (Or.inr hs)
      · refine Or.inr ⟨l, g1, g2, ?_, fun m hm hs => g4 m hm ?_⟩
        · rcases g3 with (⟨j, j1, j2⟩ | g3) | e
          · exact Or.inl ⟨j, by omega, j2⟩
          · exact Or.inr g3
          · exact Or.inl ⟨i, by omega, e⟩
        · rcases hs with ⟨j, j1, j2⟩ | hs
          · by_cases e : j = i
            · subst e; exact Or.inr j2
            · exact Or.inl (Or.inl ⟨j, by omega, j2⟩)
          · exact Or.inl (Or.inr hs)
    · rintro ⟨b, y⟩ ⟨e1, e2⟩
      dsimp only at e1 e2
      subst e1
      simp (disch := omega) only [fX2_lookFor_84, gX2_lookFor_84, r4, h12, sI_n, sI_e, q_l2, q_l3, q_l4, q_l7, q_l8, q_l10, q_l17, q_l18, q_l20, q_l31, q_l40, q_l61, q_l64, q_l255, q_l256, q_leT, q_leF, q_ltT, q_ltF, q_ne, q_n0, q_0le, q_ne0, q_le0F, q_lt0T, q_nm1, q_ltm1, q_cl, q_cl0, q_vpE, q_add, q_s1, q_mul, q_nle, q_nlt, false_or, or_false, not_false_eq_true, if_true, if_false, ↓reduceIte, Option.bind_some, Option.map_some]
      exact ⟨_, rfl, b, rfl, e2⟩
end
