section
variable {N rr : Nat} {σ τ : kS}
theorem q_empty {p : Nat} (hp : p < 256) : ∃ τ', fX2_empty τ (nI p) = some τ' ∧ τ'.2 = τ.2 ∧ τ'.1 129 p = -1 ∧ τ'.1 131 p = 0 ∧ (∀ k, k < 8 → τ'.1 130 (8 * p + k) = -1) ∧ (∀ k, k < 64 → τ'.1 132 (64 * p + k) = 0) ∧ ∀ a j, (a = 129 → j ≠ p) → (a = 131 → j ≠ p) → (a = 130 → j < 8 * p ∨ 8 * p + 8 ≤ j) → (a = 132 → j < 64 * p ∨ 64 * p + 64 ≤ j) → τ'.1 a j = τ.1 a j := by
  simp (disch := omega) only [fX2_empty, q_l2, q_l3, q_l4, q_l7, q_l8, q_l10, q_l17, q_l18, q_l20, q_l31, q_l40, q_l61, q_l64, q_l255, q_l256, q_leT, q_leF, q_ltT, q_ltF, q_n0, q_0le, q_cl, q_cl0, q_vpE, q_add, q_s1, q_mul, q_nle, q_nlt, false_or, or_false, not_false_eq_true, if_true, if_false, ↓reduceIte, Option.bind_some, Option.map_some]
  have n0 : ∀ a j, (a = 129 → j ≠ p) → (a = 131 → j ≠ p) → (sI (sI τ 129 p (-1)) 131 p 0).1 a j = τ.1 a j := fun a j h1 h2 => by
    rw [sI_n (by by_cases e : a = 131; exact Or.inr (h2 e); exact Or.inl e), sI_n (by by_cases e : a = 129; exact Or.inr (h1 e); exact Or.inl e)]
  refine q_inv (body := fX2_empty_16 (nI p)) (a := (0, sI (sI τ 129 p (-1)) 131 p 0)) (fun i a => a.1 = nI i ∧ a.2.2 = τ.2 ∧ (∀ k, k < i → a.2.1 130 (8 * p + k) = -1) ∧ ∀ a' j, (a' = 130 → j < 8 * p ∨ 8 * p + i ≤ j) → a.2.1 a' j = (sI (sI τ 129 p (-1)) 131 p 0).1 a' j) _ 8 (by omega) ?_ ?_ ?_
  · exact ⟨rfl, rfl, fun k hk => absurd hk (Nat.not_lt_zero k), fun _ _ _ => rfl⟩
  · rintro i ⟨u, s⟩ hi ⟨e1, e2, e3, e4⟩
    dsimp only at e1 e2 e3 e4
    subst e1
    left
    simp (disch := omega) only [fX2_empty_16, gX2_empty_16, q_l2, q_l3, q_l4, q_l7, q_l8, q_l10, q_l17, q_l18, q_l20, q_l31, q_l40, q_l61, q_l64, q_l255, q_l256, q_leT, q_leF, q_ltT, q_ltF, q_n0, q_0le, q_cl, q_cl0, q_vpE, q_add, q_s1, q_mul, q_nle, q_nlt, false_or, or_false, not_false_eq_true, if_true, if_false, ↓reduceIte, Option.bind_some, Option.map_some]
    refine ⟨_, rfl, ?_⟩
    refine ⟨rfl, e2, fun k hk => ?_, fun a' j h => ?_⟩
    · show (sI s 130 _ _).1 130 _ = _
      by_cases e : k = i
      · subst e; rw [sI_e]
      · rw [sI_n (by omega)]; exact e3 k (by omega)
    · show (sI s 130 _ _).1 a' j = _
      rw [sI_n (by omega)]; exact e4 a' j (by omega)
  · rintro ⟨u, s⟩ ⟨e1, e2, e3, e4⟩
    dsimp only at e1 e2 e3 e4
    subst e1
    simp (disch := omega) only [fX2_empty_16, gX2_empty_16, q_l2, q_l3, q_l4, q_l7, q_l8, q_l10, q_l17, q_l18, q_l20, q_l31, q_l40, q_l61, q_l64, q_l255, q_l256, q_leT, q_leF, q_ltT, q_ltF, q_n0, q_0le, q_cl, q_cl0, q_vpE, q_add, q_s1, q_mul, q_nle, q_nlt, false_or, or_false, not_false_eq_true, if_true, if_false, ↓reduceIte, Option.bind_some, Option.map_some]
    have key := q_inv (body := fX2_empty_42 (nI p)) (a := (0, s)) (fun i a => a.1 = nI i ∧ a.2.2 = τ.2 ∧ (∀ k, k < i → a.2.1 132 (64 * p + k) = 0) ∧ ∀ a' j, (a' = 132 → j < 64 * p ∨ 64 * p + i ≤ j) → a.2.1 a' j = s.1 a' j)
      (fun τ' => τ'.2 = τ.2 ∧ (∀ k, k < 64 → τ'.1 132 (64 * p + k) = 0) ∧ ∀ a' j, (a' = 132 → j < 64 * p ∨ 64 * p + 64 ≤ j) → τ'.1 a' j = s.1 a' j) 64 (by omega) ?_ ?_ ?_
    · obtain ⟨τ', k1, k2, k3, k4⟩ := key
      rw [k1]
      refine ⟨τ', rfl, k2, ?_, ?_, fun k hk => ?_, k3, fun a j h1 h2 h3 h4 => ?_⟩
      · rw [k4 _ _ (by omega), e4 _ _ (by omega), sI_n (by omega), sI_e]
      · rw [k4 _ _ (by omega), e4 _ _ (by omega), sI_e]
      · rw [k4 _ _ (by omega)]; exact e3 k hk
      · rw [k4 a j h4, e4 a j h3]; exact n0 a j h1 h2
    · exact ⟨rfl, e2, fun k hk => absurd hk (Nat.not_lt_zero k), fun _ _ _ => rfl⟩
    · rintro i ⟨u, s'⟩ hi ⟨f1, f2, f3, f4⟩
      dsimp only at f1 f2 f3 f4
      subst f1
      left
      simp (disch := omega) only [fX2_empty_42, gX2_empty_42, q_l2, q_l3, q_l4, q_l7, q_l8, q_l10, q_l17, q_l18, q_l20, q_l31, q_l40, q_l61, q_l64, q_l255, q_l256, q_leT, q_leF, q_ltT, q_ltF, q_n0, q_0le, q_cl, q_cl0, q_vpE, q_add, q_s1, q_mul, q_nle, q_nlt, false_or, or_false, not_false_eq_true, if_true, if_false, ↓reduceIte, Option.bind_some, Option.map_some]
      refine ⟨_, rfl, ?_⟩
      refine ⟨rfl, f2, fun k hk => ?_, fun a' j h => ?_⟩
      · show (sI s' 132 _ _).1 132 _ = _
        by_cases e : k = i
        · subst e; rw [sI_e]
        · rw [sI_n (by omega)]; exact f3 k (by omega)
      · show (sI s' 132 _ _).1 a' j = _
        rw [sI_n (by omega)]; exact f4 a' j (by omega)
    · rintro ⟨u, s'⟩ ⟨f1, f2, f3, f4⟩
      dsimp only at f1 f2 f3 f4
      subst f1
      simp (disch := omega) only [fX2_empty_42, gX2_empty_42, q_l2, q_l3, q_l4, q_l7, q_l8, q_l10, q_l17, q_l18, q_l20, q_l31, q_l40, q_l61, q_l64, q_l255, q_l256, q_leT, q_leF, q_ltT, q_ltF, q_n0, q_0le, q_cl, q_cl0, q_vpE, q_add, q_s1, q_mul, q_nle, q_nlt, false_or, or_false, not_false_eq_true, if_true, if_false, ↓reduceIte, Option.bind_some, Option.map_some]
      exact ⟨_, rfl, f2, f3, f4⟩
theorem cnb_m {x y : Nat} (h : x ≤ y) : cnb τ x ≤ cnb τ y := by
  obtain ⟨k, rfl⟩ : ∃ k, y = x + k := ⟨y - x, by omega⟩
  induction k with
  | zero => exact Nat.le_refl _
  | succ k ih =>
    have := ih (by omega)
    have e := cnb_S τ (x + k)
    rw [← Nat.add_assoc]
    omega
theorem cnb_lt {i x : Nat} (hi : i < (lvl τ).length) : pt τ i < x ↔ i < cnb τ x := by
  have e := cnb_pt hi
  have hl := pt_lv hi
  constructor
  · intro h
    have h1 := cnb_m (τ := τ) (show pt τ i + 1 ≤ x from h)
    rw [cnb_S, e, if_pos hl.2] at h1
    exact h1
  · intro h
    rcases Nat.lt_or_ge (pt τ i) x with g | g
    · exact g
    · have := cnb_m (τ := τ) g
      omega
theorem q_cfu {f g : Nat → Bool} {p : Nat} (hg : ∀ q, q ≠ p → g q = f q) (hf : f p = false) (hp : g p = true) : ∀ n, ((List.range n).filter g).length = ((List.range n).filter f).length + (if p < n then 1 else 0) := by
  intro n
  induction n with
  | zero => rfl
  | succ n ih =>
    rw [List.range_succ, List.filter_append, List.filter_append, List.length_append, List.length_append, ih]
    by_cases e : p = n
    · subst e
      simp [hf, hp]
    · have e1 : [n].filter g = [n].filter f := by simp [List.filter_cons, hg n (fun h => e h.symm)]
      rw [e1]
      by_cases h : p < n
      · rw [if_pos h, if_pos (by omega)]; omega
      · rw [if_neg h, if_neg (by omega)]; omega
theorem q_up {τ τ' : kS} {x : Nat} (h0 : ¬ τ.1 127 x = 1) (h1 : τ'.1 127 x = 1) (h2 : ∀ p, p ≠ x → τ'.1 127 p = τ.1 127 p) (n : Nat) : cnb τ' n = cnb τ n + (if x < n then 1 else 0) :=
  q_cfu (f := fun p => decide (τ.1 127 p = 1)) (g := fun p => decide (τ'.1 127 p = 1)) (fun q hq => by simp only [h2 q hq]) (decide_eq_false h0) (decide_eq_true h1) n
theorem q_up2' {τ τ' : kS} {x : Nat} (h0 : ¬ τ.1 127 x = 2) (h1 : ¬ τ'.1 127 x = 2) (h2 : ∀ p, p ≠ x → τ'.1 127 p = τ.1 127 p) : fll τ' = fll τ := by
  simp only [fll]
  congr 1
  funext p
  by_cases e : p = x
  · subst e; simp [h0, h1]
  · rw [h2 p e]
theorem q_b6 {ρ : Nat → Nat} (h : ∀ q, q < 256 → τ.1 127 q = 1 → σ.2.1 122 q = some (ρ (cnb τ q))) : ∀ i p, (lvl τ)[i]? = some p → σ.2.1 122 p = some (ρ i) := by
  intro i p hi
  obtain ⟨hl, -⟩ := List.getElem?_eq_some_iff.mp hi
  have hp : pt τ i = p := by simp only [pt, hi, Option.getD_some]
  have := pt_lv hl
  rw [hp] at this
  rw [h p this.1 this.2, ← hp, cnb_pt hl]
theorem sR_2 (σ : kS) (c i : Nat) (v : Option Nat) (a j : Nat) : (sR σ c i v).2.1 a j = if a = c ∧ j = i then v else σ.2.1 a j := rfl
theorem sR_e (σ : kS) (c i : Nat) (v : Option Nat) : (sR σ c i v).2.1 c i = v := by simp [sR]
theorem sR_n {σ : kS} {c i a j : Nat} {v : Option Nat} (h : a ≠ c ∨ j ≠ i) : (sR σ c i v).2.1 a j = σ.2.1 a j := by
  rw [sR_2, if_neg (by rintro ⟨rfl, rfl⟩; rcases h with h | h <;> exact h rfl)]
def fl (σ : kS) (a n : Nat) (v : Int32) : kS := (fun c j => if c = a ∧ j < n then v else σ.1 c j, σ.2)
theorem fl_e {σ : kS} {a n j : Nat} {v : Int32} (h : j < n) : (fl σ a n v).1 a j = v := by simp [fl, h]
theorem fl_n {σ : kS} {a n b j : Nat} {v : Int32} (h : b ≠ a) : (fl σ a n v).1 b j = σ.1 b j := by simp [fl, h]
theorem q_begin {c : Nat} (hc : kd c = (0, 0, 8)) (x : Int32) : ∃ σ', fX0_begin σ c x = some σ' ∧ σ'.2 = σ.2 ∧ σ'.1 c 5 = x ∧ Emp σ' c ∧ σ'.1 c 6 = -1 ∧ ∀ a j, a < c ∨ c + 6 ≤ a → σ'.1 a j = σ.1 a j := by
  obtain ⟨k0, k1, k2, k3, k4⟩ := kd_m0 hc
  refine ⟨fl (fl (fl (fl (fl (sI (sI (sI σ c 5 x) c 6 (-1)) c 7 0) (c + 1 + 0) 4 (-1)) (c + 1 + 1) 8 (-1)) (c + 1 + 2) 64 0) (c + 1 + 3) 64 (-1)) (c + 1 + 4) 64 (-1), ?_, rfl, ?_, ⟨?_, ?_, ?_, ?_⟩, ?_, ?_⟩
  · simp only [fX0_begin, hc, fJ7_fill_53178, k0, k1, k2, k3, k4, ↓reduceIte, Option.bind_some, true_and, show (4 : Nat) < 2 ^ 31 from by decide, show (8 : Nat) < 2 ^ 31 from by decide, show (64 : Nat) < 2 ^ 31 from by decide]
    rfl
  · rw [fl_n (by omega), fl_n (by omega), fl_n (by omega), fl_n (by omega), fl_n (by omega), sI_n (by omega), sI_n (by omega), sI_e]
  · intro k hk
    rw [fl_n (by omega), fl_n (by omega), fl_n (by omega), fl_n (by omega), fl_e hk]
  · intro k hk
    rw [fl_n (by omega), fl_n (by omega), fl_n (by omega), fl_e hk]
  · intro k hk
    refine ⟨?_, ?_, ?_⟩
    · rw [fl_n (by omega), fl_n (by omega), fl_e hk]
    · rw [fl_n (by omega), fl_e hk]
    · rw [fl_e hk]
  · rw [fl_n (by omega), fl_n (by omega), fl_n (by omega), fl_n (by omega), fl_n (by omega), sI_e]
  · rw [fl_n (by omega), fl_n (by omega), fl_n (by omega), fl_n (by omega), fl_n (by omega), sI_n (by omega), sI_e]
  · intro a j h
    rw [fl_n (by omega), fl_n (by omega), fl_n (by omega), fl_n (by omega), fl_n (by omega), sI_n (by omega), sI_n (by omega), sI_n (by omega)]
theorem q_addM (B : Bas rr σ τ) {x : Nat} (hx : x < 256) (h0 : τ.1 127 x = 0) (hn : (lvl τ).length < 20) : ∃ c σ', fX1_addMember σ (nI x) = some (c, σ') ∧ (∀ a, 126 ≤ a → σ'.1 a = σ.1 a) ∧ kd c = (0, 0, 8) ∧ (∀ p d, Mc σ p d → d ≠ c) ∧ (∀ p d, Mc σ' p d ↔ (p = x ∧ d = c) ∨ Mc σ p d) ∧ Emp σ' c ∧ σ'.1 c 6 = -1 ∧ (∀ a j, (a < c ∨ c + 6 ≤ a) → (a = 0 → j ≠ 9) → a ≠ 123 → σ'.1 a j = σ.1 a j) ∧ σ'.1 0 9 = nI ((lvl τ).length + 1) ∧
    ∀ τ', τ'.1 127 x = 1 → (∀ p, p ≠ x → τ'.1 127 p = τ.1 127 p) → τ'.1 137 = τ.1 137 → (∀ j, 1 ≤ j → j ≠ 12 → τ'.1 126 j = τ.1 126 j) → Bas rr σ' τ' := by
  obtain ⟨⟨r1, r2, r3, r4⟩, b2, ⟨n1, n2, n3⟩, b4, b5, ⟨ρ, p1, p2, p3⟩, ⟨h, g1, g2, g3, g4⟩, b8⟩ := id B
  have hρ : ∀ q, q < 256 → τ.1 127 q = 1 → σ.2.1 122 q = some (ρ (cnb τ q)) := fun q hq hl => p3 _ _ (q_at hq hl)
  have hnl : ¬ τ.1 127 x = 1 := by rw [h0]; decide
  have hkn := (p1 (lvl τ).length hn).2
  have hnb := q_cb hkn
  have hcx := cnb_le τ (p := x) (by omega)
  have key := q_inv (body := fX1_addMember_15 (nI x) (some (ρ (lvl τ).length))) (a := (nI (lvl τ).length, σ))
    (fun j a => a.1 = nI ((lvl τ).length - j) ∧ a.2.1 = σ.1 ∧ a.2.2.2 = σ.2.2 ∧ (∀ b i, b ≠ 1 → a.2.2.1 b i = σ.2.1 b i) ∧ (∀ i, i < 20 → a.2.2.1 1 i = some (if (lvl τ).length - j < i ∧ i ≤ (lvl τ).length then ρ (i - 1) else ρ i)) ∧ ∀ i, (lvl τ).length - j ≤ i → i < (lvl τ).length → x < pt τ i)
    (fun b => ∃ s : kS, s.1 = σ.1 ∧ s.2.2 = σ.2.2 ∧ (∀ b i, b ≠ 1 → s.2.1 b i = σ.2.1 b i) ∧ (∀ i, i < 20 → s.2.1 1 i = some (if cnb τ x < i ∧ i ≤ (lvl τ).length then ρ (i - 1) else ρ i)) ∧ fX1_addMember_54 (nI x) (some (ρ (lvl τ).length)) (nI (cnb τ x)) s = some b) (lvl τ).length (by omega) ?_ ?_ ?_
  · obtain ⟨b, k1, s, s1, s2, s3, s4, k2⟩ := key
    obtain ⟨σ4, f1, f2, f3, f4, f6, f5⟩ := q_begin (σ := sR s 1 (cnb τ x) (some (ρ (lvl τ).length))) hkn (nI x)
    have s1' : ∀ a j, (a < ρ (lvl τ).length ∨ ρ (lvl τ).length + 6 ≤ a) → σ4.1 a j = σ.1 a j := fun a j ha => by
      rw [f5 a j ha]; show s.1 a j = _; rw [s1]
    simp (disch := omega) only [fX1_addMember_54, Option.bind_some, hkn, f1, q_l2, q_l3, q_l4, q_l7, q_l8, q_l10, q_l17, q_l18, q_l20, q_l31, q_l40, q_l61, q_l64, q_l255, q_l256, q_leT, q_leF, q_ltT, q_ltF, q_n0, q_0le, q_cl, q_cl0, q_vpE, q_add, q_s1, q_mul, q_nle, q_nlt, false_or, or_false, not_false_eq_true, if_true, if_false, ↓reduceIte, Option.bind_some, Option.map_some] at k2
    cases k2
    generalize hc : ρ (lvl τ).length = c at *
    have w9 : (sI (sR σ4 122 x (some c)) 123 x 1).1 0 9 = nI (lvl τ).length := by
      rw [sI_n (by omega)]
      show σ4.1 0 9 = _
      rw [s1' 0 9 (by omega)]; exact n2
    refine ⟨c, sI (sI (sR σ4 122 x (some c)) 123 x 1) 0 9 ((sI (sR σ4 122 x (some c)) 123 x 1).1 0 9 + 1), ?_, ?_, hkn, ?_, ?_, ?_, ?_, ?_, ?_, ?_⟩
    · simp (disch := omega) only [fX1_addMember, n2, (p1 _ hn).1, hc, q_vpE, q_cl, ↓reduceIte]
      exact k1
    · intro a ha
      funext j
      rw [sI_n (by omega), sI_n (by omega)]
      exact s1' a j (by omega)
    · intro p d hm e
      subst e
      have hp := q_mcLv B hm
      have e1 := hρ p hm.1 hp
      rw [hm.2] at e1
      have e2 := Option.some.inj e1
      have e3 := (pt_cnb hm.1 hp).1
      have := p2 _ _ hn (by omega) (hc.trans e2)
      omega
    · intro p d
      have e1 : ∀ q, (sI (sI (sR σ4 122 x (some c)) 123 x 1) 0 9 ((sI (sR σ4 122 x (some c)) 123 x 1).1 0 9 + 1)).2.1 122 q = if q = x then some c else σ.2.1 122 q := fun q => by
        show (sR σ4 122 x (some c)).2.1 122 q = _
        by_cases e : q = x
        · subst e; rw [sR_e, if_pos rfl]
        · rw [sR_n (Or.inr e), if_neg e, f2, sR_n (by omega)]
          exact s3 122 q (by omega)
      simp only [Mc]
      rw [e1]
      by_cases e : p = x
      · subst e
        rw [if_pos rfl]
        have hno : ¬ ∃ c, σ.2.1 122 p = some c := fun hh => hnl ((b4 p hx).2.2.mpr hh)
        constructor
        · rintro ⟨-, h⟩
          exact Or.inl ⟨rfl, (Option.some.inj h).symm⟩
        · rintro (⟨-, rfl⟩ | ⟨-, h⟩)
          · exact ⟨hx, rfl⟩
          · exact absurd ⟨d, h⟩ hno
      · rw [if_neg e]
        constructor
        · intro h; exact Or.inr h
        · rintro (⟨h, -⟩ | h)
          · exact absurd h e
          · exact h
    · obtain ⟨e1, e2, e3, e4⟩ := f4
      have nn : ∀ a j, c ≤ a → a < c + 6 → (sI (sI (sR σ4 122 x (some c)) 123 x 1) 0 9 ((sI (sR σ4 122 x (some c)) 123 x 1).1 0 9 + 1)).1 a j = σ4.1 a j := fun a j h1 h2 => by
        rw [sI_n (by omega), sI_n (by omega)]; rfl
      refine ⟨fun k hk => ?_, fun k hk => ?_, fun k hk => ?_, ?_⟩
      · rw [nn _ _ (by omega) (by omega)]; exact e1 k hk
      · rw [nn _ _ (by omega) (by omega)]; exact e2 k hk
      · rw [nn _ _ (by omega) (by omega), nn _ _ (by omega) (by omega), nn _ _ (by omega) (by omega)]; exact e3 k hk
      · rw [nn _ _ (by omega) (by omega)]; exact e4
    · rw [sI_n (by omega), sI_n (by omega)]; exact f6
    · intro a j h1 h2 h3
      rw [sI_n (by by_cases e : a = 0; exact Or.inr (h2 e); exact Or.inl e), sI_n (by omega)]
      exact s1' a j h1
    · rw [sI_e, w9, q_s1]
    · intro τ' t1 t2 t3 t4
      have hnn : ∀ a j, (a < c ∨ c + 6 ≤ a) → (a = 0 → j ≠ 9) → a ≠ 123 → (sI (sI (sR σ4 122 x (some c)) 123 x 1) 0 9 ((sI (sR σ4 122 x (some c)) 123 x 1).1 0 9 + 1)).1 a j = σ.1 a j := by
        intro a j h1 h2 h3
        rw [sI_n (by by_cases e : a = 0; exact Or.inr (h2 e); exact Or.inl e), sI_n (by omega)]
        exact s1' a j h1
      have hby : ∀ q, (sI (sI (sR σ4 122 x (some c)) 123 x 1) 0 9 ((sI (sR σ4 122 x (some c)) 123 x 1).1 0 9 + 1)).2.1 122 q = if q = x then some c else σ.2.1 122 q := fun q => by
        show (sR σ4 122 x (some c)).2.1 122 q = _
        by_cases e : q = x
        · subst e; rw [sR_e, if_pos rfl]
        · rw [sR_n (Or.inr e), if_neg e, f2, sR_n (by omega)]
          exact s3 122 q (by omega)
      have hrw : ∀ i, i < 20 → (sI (sI (sR σ4 122 x (some c)) 123 x 1) 0 9 ((sI (sR σ4 122 x (some c)) 123 x 1).1 0 9 + 1)).2.1 1 i = some (if i = cnb τ x then c else if cnb τ x < i ∧ i ≤ (lvl τ).length then ρ (i - 1) else ρ i) := fun i hi => by
        show (sR σ4 122 x (some c)).2.1 1 i = _
        rw [sR_n (by omega), f2]
        by_cases e : i = cnb τ x
        · subst e; rw [sR_e, if_pos rfl]
        · rw [sR_n (Or.inr e), if_neg e]
          exact s4 i hi
      have hcu := q_up hnl t1 t2
      have hlen : (lvl τ').length = (lvl τ).length + 1 := by
        have := hcu 256
        rw [cnb_256, cnb_256, if_pos hx] at this
        exact this
      have h123 : ∀ q, (sI (sI (sR σ4 122 x (some c)) 123 x 1) 0 9 ((sI (sR σ4 122 x (some c)) 123 x 1).1 0 9 + 1)).1 123 q = if q = x then 1 else σ.1 123 q := fun q => by
        rw [sI_n (by omega)]
        by_cases e : q = x
        · subst e; rw [sI_e, if_pos rfl]
        · rw [sI_n (by omega), if_neg e]
          exact s1' 123 q (by omega)
      have hc5 : (sI (sI (sR σ4 122 x (some c)) 123 x 1) 0 9 ((sI (sR σ4 122 x (some c)) 123 x 1).1 0 9 + 1)).1 c 5 = nI x := by
        rw [sI_n (by omega), sI_n (by omega)]; exact f3
      refine ⟨⟨r1, r2, ?_, ?_⟩, ?_, ⟨?_, ?_, ?_⟩, ?_, ?_, ⟨fun i => if i = cnb τ x then c else if cnb τ x < i ∧ i ≤ (lvl τ).length then ρ (i - 1) else ρ i, ?_, ?_, ?_⟩, ⟨h, g1, ?_, ?_, ?_⟩, ?_⟩
      · rw [hnn _ _ (by omega) (by omega) (by omega)]; exact r3
      · rw [t4 _ (by omega) (by omega)]; exact r4
      · simp only [B2]; rw [hnn _ _ (by omega) (by omega) (by omega), t4 _ (by omega) (by omega)]; exact b2
      · omega
      · rw [sI_e, w9, q_s1, hlen]
      · rw [hnn _ _ (by omega) (by omega) (by omega), q_up2' (by rw [h0]; decide) (by rw [t1]; decide) t2]; exact n3
      · intro q hq
        rw [h123, hby]
        by_cases e : q = x
        · subst e
          rw [t1, if_pos rfl, if_pos rfl]
          exact ⟨Or.inr (Or.inl rfl), by decide, fun _ => ⟨c, rfl⟩, fun _ => rfl⟩
        · rw [t2 q e, if_neg e, if_neg e]
          exact b4 q hq
      · intro q d hm
        have hm2 := hm.2
        rw [hby] at hm2
        by_cases e : q = x
        · subst e
          rw [if_pos rfl] at hm2
          have := Option.some.inj hm2
          subst this
          exact ⟨hkn, hc5⟩
        · rw [if_neg e] at hm2
          have hmo : Mc σ q d := ⟨hm.1, hm2⟩
          obtain ⟨u1, u2⟩ := b5 q d hmo
          have hdc : d ≠ c := by
            intro e'
            subst e'
            have hp := q_mcLv B hmo
            have e1 := hρ q hm.1 hp
            rw [hm2] at e1
            have e2 := Option.some.inj e1
            have e3 := (pt_cnb hm.1 hp).1
            have := p2 _ _ hn (by omega) (hc.trans e2)
            omega
          have hap := q_ap u1 hkn hdc
          have hdb := q_cb u1
          exact ⟨u1, by rw [hnn _ _ (by omega) (by omega) (by omega)]; exact u2⟩
      · intro i hi
        refine ⟨hrw i hi, ?_⟩
        dsimp only
        by_cases e : i = cnb τ x
        · rw [if_pos e]; exact hkn
        · rw [if_neg e]
          by_cases e2 : cnb τ x < i ∧ i ≤ (lvl τ).length
          · rw [if_pos e2]; exact (p1 _ (by omega)).2
          · rw [if_neg e2]; exact (p1 _ hi).2
      · intro i j hi hj e
        dsimp only at e
        rw [← hc] at e
        have q1 := fun a b ha hb => p2 a b ha hb
        by_cases a1 : i = cnb τ x
        · rw [if_pos a1] at e
          by_cases b1 : j = cnb τ x
          · omega
          · rw [if_neg b1] at e
            by_cases b2 : cnb τ x < j ∧ j ≤ (lvl τ).length
            · rw [if_pos b2] at e
              have := q1 _ _ hn (by omega) e; omega
            · rw [if_neg b2] at e
              have := q1 _ _ hn hj e; omega
        · rw [if_neg a1] at e
          by_cases a2 : cnb τ x < i ∧ i ≤ (lvl τ).length
          · rw [if_pos a2] at e
            by_cases b1 : j = cnb τ x
            · rw [if_pos b1] at e
              have := q1 _ _ (by omega) hn e; omega
            · rw [if_neg b1] at e
              by_cases b2 : cnb τ x < j ∧ j ≤ (lvl τ).length
              · rw [if_pos b2] at e
                have := q1 _ _ (by omega) (by omega) e; omega
              · rw [if_neg b2] at e
                have := q1 _ _ (by omega) hj e; omega
          · rw [if_neg a2] at e
            by_cases b1 : j = cnb τ x
            · rw [if_pos b1] at e
              have := q1 _ _ hi hn e; omega
            · rw [if_neg b1] at e
              by_cases b2 : cnb τ x < j ∧ j ≤ (lvl τ).length
              · rw [if_pos b2] at e
                have := q1 _ _ hi (by omega) e; omega
              · rw [if_neg b2] at e
                have := q1 _ _ hi hj e; omega
      · refine q_b6 (fun q hq hl => ?_)
        rw [hby, hcu q]
        by_cases e : q = x
        · subst e
          rw [if_pos rfl, if_neg (Nat.lt_irrefl _), Nat.add_zero, if_pos rfl]
        · rw [if_neg e]
          rw [t2 q e] at hl
          have e1 := hρ q hq hl
          have e2 := pt_cnb hq hl
          have e3 := cnb_lt (τ := τ) (i := cnb τ q) (x := x) e2.1
          rw [e2.2] at e3
          rw [e1]
          by_cases e4 : x < q
          · rw [if_pos e4]
            have : ¬ cnb τ q < cnb τ x := fun g => by have := e3.mpr g; omega
            rw [if_neg (by omega), if_pos ⟨by omega, by omega⟩, Nat.add_sub_cancel]
          · rw [if_neg e4, Nat.add_zero]
            have := e3.mp (by omega)
            rw [if_neg (by omega), if_neg (by omega)]
      · rw [hnn _ _ (by omega) (by omega) (by omega)]; exact g2
      · rw [t4 _ (by omega) (by omega)]; exact g3
      · intro k hk; rw [hnn _ _ (by omega) (by omega) (by omega), t3]; exact g4 k hk
      · simp only [B8]; rw [hnn _ _ (by omega) (by omega) (by omega), t4 _ (by omega) (by omega)]; exact b8
  · refine ⟨rfl, rfl, rfl, fun _ _ _ => rfl, fun i hi => ?_, fun i h1 h2 => by omega⟩
    rw [if_neg (by omega)]; exact (p1 i hi).1
  · rintro j ⟨u, s⟩ hj ⟨e1, e2, e3, e4, e5, e6⟩
    dsimp only at e1 e2 e3 e4 e5 e6
    subst e1
    have hi : (lvl τ).length - j - 1 < (lvl τ).length := by omega
    obtain ⟨c', m1, m2⟩ := q_rowi B hi
    have hml := m1.1
    have hrow : s.2.1 1 ((lvl τ).length - j - 1) = some c' := by
      rw [e5 _ (by omega), if_neg (by omega), ← (p1 _ (by omega)).1, m2]
    have hP := q_mcP B m1
    simp (disch := omega) only [fX1_addMember_15, gX1_addMember_15, q_p1, q_d1, hrow, q_mcK B m1, e2, hP, q_l2, q_l3, q_l4, q_l7, q_l8, q_l10, q_l17, q_l18, q_l20, q_l31, q_l40, q_l61, q_l64, q_l255, q_l256, q_leT, q_leF, q_ltT, q_ltF, q_ne, q_n0, q_0le, q_ne0, q_le0F, q_lt0T, q_nm1, q_ltm1, q_cl, q_cl0, q_vpE, q_add, q_s1, q_mul, q_nle, q_nlt, false_or, or_false, not_false_eq_true, if_true, if_false, ↓reduceIte, Option.bind_some, Option.map_some]
    by_cases hc : pt τ ((lvl τ).length - j - 1) ≤ x
    · right
      rw [if_pos (q_leT hc (by omega))]
      have hne : pt τ ((lvl τ).length - j - 1) ≠ x := fun e => hnl (by rw [← e]; exact (pt_lv hi).2)
      have hq : (lvl τ).length - j = cnb τ x := by
        have a1 := (cnb_lt (τ := τ) (x := x) hi).mp (by omega)
        rcases Nat.lt_or_ge ((lvl τ).length - j) (cnb τ x) with g | g
        · have a2 := (cnb_lt (τ := τ) (x := x) (show (lvl τ).length - j < (lvl τ).length by omega)).mpr g
          have a3 := e6 _ (Nat.le_refl _) (by omega)
          omega
        · omega
      rw [hq] at e5 ⊢
      obtain ⟨σ4, f1, -⟩ := q_begin (σ := sR s 1 (cnb τ x) (some (ρ (lvl τ).length))) hkn (nI x)
      have k3 : ∃ b, fX1_addMember_54 (nI x) (some (ρ (lvl τ).length)) (nI (cnb τ x)) s = some b := by
        simp (disch := omega) only [fX1_addMember_54, Option.bind_some, hkn, f1, q_l2, q_l3, q_l4, q_l7, q_l8, q_l10, q_l17, q_l18, q_l20, q_l31, q_l40, q_l61, q_l64, q_l255, q_l256, q_leT, q_leF, q_ltT, q_ltF, q_n0, q_0le, q_cl, q_cl0, q_vpE, q_add, q_s1, q_mul, q_nle, q_nlt, false_or, or_false, not_false_eq_true, if_true, if_false, ↓reduceIte, Option.bind_some, Option.map_some]
        exact ⟨_, rfl⟩
      obtain ⟨b, k3⟩ := k3
      rw [k3]
      exact ⟨b, rfl, s, e2, e3, e4, e5, k3⟩
    · left
      rw [if_neg (q_leF (by omega) (by omega))]
      refine ⟨_, rfl, ?_⟩
      refine ⟨by show nI _ = nI _; congr 1, e2, e3, fun b i hb => ?_, fun i hi' => ?_, fun i h1 h2 => ?_⟩
      · show (sR s 1 _ _).2.1 b i = _
        rw [sR_n (by omega)]; exact e4 b i hb
      · show (sR s 1 _ _).2.1 1 i = _
        by_cases e : i = (lvl τ).length - j
        · subst e
          rw [sR_e, if_pos (by omega), ← (p1 _ (by omega)).1, m2]
        · rw [sR_n (Or.inr e), e5 i hi']
          by_cases e7 : (lvl τ).length - j < i ∧ i ≤ (lvl τ).length
          · rw [if_pos e7, if_pos (by omega)]
          · rw [if_neg e7, if_neg (by omega)]
      · by_cases e : i = (lvl τ).length - j - 1
        · subst e; omega
        · exact e6 i (by omega) h2
  · rintro ⟨u, s⟩ ⟨e1, e2, e3, e4, e5, e6⟩
    dsimp only at e1 e2 e3 e4 e5 e6
    rw [Nat.sub_self] at e1 e5 e6
    have e7 : u = 0 := e1
    subst e7
    have hq : cnb τ x = 0 := by
      rcases Nat.eq_zero_or_pos (cnb τ x) with g | g
      · exact g
      · have a2 := (cnb_lt (τ := τ) (x := x) (i := 0) (by omega)).mpr g
        have a3 := e6 0 (Nat.le_refl _) (by omega)
        omega
    simp only [fX1_addMember_15, gX1_addMember_15, show ((0 : Int32) ≤ 0) = True from eq_true (by decide), ↓reduceIte]
    obtain ⟨σ4, f1, -⟩ := q_begin (σ := sR s 1 0 (some (ρ (lvl τ).length))) hkn (nI x)
    have k3 : ∃ b, fX1_addMember_54 (nI x) (some (ρ (lvl τ).length)) 0 s = some b := by
      simp (disch := omega) only [show (0 : Int32) = nI 0 from rfl, fX1_addMember_54, Option.bind_some, hkn, f1, q_l2, q_l3, q_l4, q_l7, q_l8, q_l10, q_l17, q_l18, q_l20, q_l31, q_l40, q_l61, q_l64, q_l255, q_l256, q_leT, q_leF, q_ltT, q_ltF, q_n0, q_0le, q_cl, q_cl0, q_vpE, q_add, q_s1, q_mul, q_nle, q_nlt, false_or, or_false, not_false_eq_true, if_true, if_false, ↓reduceIte, Option.bind_some, Option.map_some]
      exact ⟨_, rfl⟩
    obtain ⟨b, k3⟩ := k3
    rw [k3]
    rw [← hq] at e5
    exact ⟨b, rfl, s, e2, e3, e4, e5, by rw [hq]; exact k3⟩
end
