section
variable {N rr : Nat} {σ τ : kS}
theorem q_sumG (B : Bas rr σ τ) {b1 b2 : Int32 × Int32 → Option ((Int32 × Int32) ⊕ Int32)}
    (h1 : ∀ p c, Mc σ p c → σ.2.1 1 (cnb τ p) = some c → cnb τ p < (lvl τ).length → ∀ s : Int32, ∃ s', b1 (s, nI (cnb τ p)) = some (.inl (s', nI (cnb τ p + 1))) ∧ b2 (s, nI p) = some (.inl (s', nI (p + 1))))
    (h2 : ∀ p, p < 256 → ¬ τ.1 127 p = 1 → ∀ s : Int32, b2 (s, nI p) = some (.inl (s, nI (p + 1))))
    (h3 : ∀ s : Int32, b1 (s, nI (lvl τ).length) = some (.inr s)) (h4 : ∀ s : Int32, b2 (s, nI 256) = some (.inr s)) : ∃ s, kit b1 300 (0, 0) = some s ∧ kit b2 300 (0, 0) = some s := by
  have n1 := B.2.2.1.1
  obtain ⟨b, k1, k2⟩ := q_inv (body := b2) (a := (0, 0)) (fun p a => a.2 = nI p ∧ kit b1 300 (0, 0) = kit b1 (300 - cnb τ p) (a.1, nI (cnb τ p))) (fun b => kit b1 300 (0, 0) = some b) 256 (by omega) ⟨rfl, rfl⟩ (by
    rintro p ⟨s, y⟩ hp ⟨e1, e2⟩
    dsimp only at e1 e2
    subst e1
    left
    have hS := cnb_S τ p
    have hle := cnb_le τ (p := p) (by omega)
    by_cases hl : τ.1 127 p = 1
    · rw [if_pos hl] at hS
      obtain ⟨c, m1, m2, m3⟩ := q_row B hp hl
      obtain ⟨s', f1, f2⟩ := h1 p c m1 m2 m3 s
      refine ⟨_, f2, rfl, ?_⟩
      rw [e2, hS, show 300 - cnb τ p = (300 - (cnb τ p + 1)) + 1 by omega]
      exact q_kit f1
    · rw [if_neg hl, Nat.add_zero] at hS
      exact ⟨_, h2 p hp hl s, rfl, by rw [hS]; exact e2⟩) (by
    rintro ⟨s, y⟩ ⟨e1, e2⟩
    dsimp only at e1 e2
    subst e1
    refine ⟨_, h4 s, ?_⟩
    rw [e2, cnb_256, show 300 - (lvl τ).length = (299 - (lvl τ).length) + 1 by omega]
    exact q_kitE (h3 s))
  exact ⟨b, k2, k1⟩
theorem s_186 {w s x3 x4 : Int32} (h : ¬ w = 4 ∨ x4 = 0) : fX2_sum_186 w s x3 x4 τ = some (.inl (s, x3 + 1)) := by
  simp only [fX2_sum_186, fX2_sum_221, fX2_sum_222]
  rcases h with h | h
  · simp only [h, ↓reduceIte]
  · simp only [h, ↓reduceIte, ite_self]
theorem s_107 {w s x3 x4 : Int32} {y : (Int32 × Int32) ⊕ Int32} (h : ¬ w = 3 ∨ x4 = 0) (g : fX2_sum_186 w s x3 x4 τ = some y) : fX2_sum_107 w s x3 x4 τ = some y := by
  refine q_kitE (n := 299) ?_
  simp only [fX2_sum_110, gX2_sum_110, g, Option.map_some, show ((8 : Int32) ≤ 0) = False from eq_false (by decide), ↓reduceIte]
  rcases h with h | h
  · simp only [h, ↓reduceIte]
  · simp only [h, ↓reduceIte, ite_self]
theorem s_56 {w s x3 x4 : Int32} {y : (Int32 × Int32) ⊕ Int32} (h : ¬ w = 2 ∨ x4 = 0) (g : fX2_sum_107 w s x3 x4 τ = some y) : fX2_sum_56 w s x3 x4 τ = some y := by
  refine q_kitE (n := 299) ?_
  simp only [fX2_sum_61, gX2_sum_61, g, Option.map_some, show ((64 : Int32) ≤ 0) = False from eq_false (by decide), ↓reduceIte]
  rcases h with h | h
  · simp only [h, ↓reduceIte]
  · simp only [h, ↓reduceIte, ite_self]
theorem s_0 {w s x3 : Int32} : fX2_sum_56 w s x3 0 τ = some (.inl (s, x3 + 1)) := s_56 (Or.inr rfl) (s_107 (Or.inr rfl) (s_186 (Or.inr rfl)))
theorem s_4n {w s : Int32} {p : Nat} (hw : ¬ w = 1) (hp : p < 256) (h : ¬ τ.1 127 p = 1 ∨ τ.1 126 2 = 0) : fX2_sum_4 w τ (s, nI p) = some (.inl (s, nI (p + 1))) := by
  simp (disch := omega) only [fX2_sum_4, gX2_sum_4, fX2_sum_32, fX2_sum_33, fX2_sum_55, hw, s_0, q_l2, q_l3, q_l4, q_l7, q_l8, q_l10, q_l17, q_l18, q_l20, q_l31, q_l40, q_l61, q_l64, q_l255, q_l256, q_leT, q_leF, q_ltT, q_ltF, q_n0, q_0le, q_cl, q_cl0, q_vpE, q_add, q_s1, q_mul, q_nle, q_nlt, false_or, or_false, not_false_eq_true, if_true, if_false, ↓reduceIte, Option.bind_some, Option.map_some]
  rcases h with h | h
  · simp only [h, ↓reduceIte]
  · simp only [h, ↓reduceIte, ite_self]
theorem s_4y {w s : Int32} {p : Nat} (hw : ¬ w = 1) (hp : p < 256) (h1 : τ.1 127 p = 1) (h2 : τ.1 126 2 = 1) : fX2_sum_4 w τ (s, nI p) = fX2_sum_56 w s (nI p) 1 τ := by
  simp (disch := omega) only [fX2_sum_4, gX2_sum_4, fX2_sum_32, fX2_sum_33, hw, h1, h2, q_10, q_l2, q_l3, q_l4, q_l7, q_l8, q_l10, q_l17, q_l18, q_l20, q_l31, q_l40, q_l61, q_l64, q_l255, q_l256, q_leT, q_leF, q_ltT, q_ltF, q_n0, q_0le, q_cl, q_cl0, q_vpE, q_add, q_s1, q_mul, q_nle, q_nlt, false_or, or_false, not_false_eq_true, if_true, if_false, ↓reduceIte, Option.bind_some, Option.map_some]
theorem s_4e {w s : Int32} : fX2_sum_4 w τ (s, nI 256) = some (.inr s) := by
  simp (disch := omega) only [fX2_sum_4, gX2_sum_4, q_l2, q_l3, q_l4, q_l7, q_l8, q_l10, q_l17, q_l18, q_l20, q_l31, q_l40, q_l61, q_l64, q_l255, q_l256, q_leT, q_leF, q_ltT, q_ltF, q_n0, q_0le, q_cl, q_cl0, q_vpE, q_add, q_s1, q_mul, q_nle, q_nlt, false_or, or_false, not_false_eq_true, if_true, if_false, ↓reduceIte, Option.bind_some, Option.map_some]
theorem q_sum1 : ∃ b, fX2_sum τ 1 = some b ∧ b = nI (fll τ).length := by
  refine q_inv (body := fX2_sum_4 1 τ) (a := (0, 0)) (fun p a => a.1 = nI ((List.range p).filter (fun q => decide (τ.1 127 q = 2))).length ∧ a.2 = nI p) (fun b => b = nI (fll τ).length) 256 (by omega) ⟨rfl, rfl⟩ (by
    rintro p ⟨x, y⟩ hp ⟨e1, e2⟩
    dsimp only at e1 e2
    subst e1 e2
    left
    have hz : ∀ (s t : Int32), fX2_sum_56 1 s (nI p) t τ = some (.inl (s, nI p + 1)) := fun s t => s_56 (Or.inl (by decide)) (s_107 (Or.inl (by decide)) (s_186 (Or.inl (by decide))))
    have hS : ((List.range (p + 1)).filter (fun q => decide (τ.1 127 q = 2))).length = ((List.range p).filter (fun q => decide (τ.1 127 q = 2))).length + (if τ.1 127 p = 2 then 1 else 0) := by
      simp only [List.range_succ, List.filter_append, List.length_append]
      congr 1
      by_cases h : τ.1 127 p = 2
      · simp [h]
      · simp [h]
    rw [hS]
    by_cases hl : τ.1 127 p = 2
    · rw [if_pos hl]
      have hn : ¬ τ.1 127 p = 1 := by rw [hl]; decide
      simp (disch := omega) only [fX2_sum_4, gX2_sum_4, fX2_sum_32, fX2_sum_33, fX2_sum_55, hz, q_vpE, q_cl, ↓reduceIte, q_l256, q_leF, hl, hn, q_s1]
      refine ⟨_, rfl, ?_, rfl⟩
      rfl
    · rw [if_neg hl]
      simp (disch := omega) only [fX2_sum_4, gX2_sum_4, fX2_sum_32, fX2_sum_33, fX2_sum_55, hz, q_vpE, q_cl, ↓reduceIte, q_l256, q_leF, hl, q_s1, ite_self]
      exact ⟨_, rfl, rfl, rfl⟩) (by
    rintro ⟨x, y⟩ ⟨e1, e2⟩
    dsimp only at e1 e2
    subst e1 e2
    exact ⟨_, s_4e, rfl⟩)
theorem q_sum2 (R : Ro N rr σ τ ∨ Rc rr σ τ) (hN : N < 2147483648) : ∃ s, fX1_countPairs σ = some s ∧ fX2_sum τ 2 = some s := by
  have b : Bas rr σ τ := R.elim (fun B => B.1) (fun B => B.1)
  have n1 := b.2.2.1.1
  have n2 := b.2.2.1.2.1
  refine q_sumG b (b1 := fX1_countPairs_4 σ) (b2 := fX2_sum_4 2 τ) ?_ ?_ ?_ (fun s => s_4e)
  · intro p c hm hrow hlt s
    have hp := hm.1
    have hk := q_mcK b hm
    have hl := q_mcLv b hm
    simp (disch := omega) only [fX1_countPairs_4, gX1_countPairs_4, n2, q_l2, q_l3, q_l4, q_l7, q_l8, q_l10, q_l17, q_l18, q_l20, q_l31, q_l40, q_l61, q_l64, q_l255, q_l256, q_leT, q_leF, q_ltT, q_ltF, q_n0, q_0le, q_cl, q_cl0, q_vpE, q_add, q_s1, q_mul, q_nle, q_nlt, false_or, or_false, not_false_eq_true, if_true, if_false, ↓reduceIte, Option.bind_some, Option.map_some]
    rcases R with B | B
    · rw [s_4y (by decide) hp hl B.2.1]
      have key := q_two (b1 := fX1_countPairs_14 (nI (cnb τ p)) σ) (b2 := fX2_sum_61 2 (nI p) 1 τ) (a := (s, 0)) (c := (s, 0)) (fun k a b => a.1 = b.1 ∧ a.2 = nI k ∧ b.2 = nI k)
        (fun a b => ∃ s', a = .inl (s', nI (cnb τ p + 1)) ∧ b = .inl (s', nI (p + 1))) 64 (by omega) ⟨rfl, rfl, rfl⟩ ?_ ?_
      · obtain ⟨x, y, g1, g2, s', rfl, rfl⟩ := key
        exact ⟨s', g1, g2⟩
      · rintro k ⟨x, y⟩ ⟨x', y'⟩ hk64 ⟨e1, e2, e3⟩
        dsimp only at e1 e2 e3
        subst e1 e2 e3
        left
        obtain ⟨v, v1, v2, v3, -, -⟩ := (B.2.2.2 p c hm).2.2.2.2.1 k hk64
        simp (disch := omega) only [fX1_countPairs_14, gX1_countPairs_14, fX1_countPairs_37, fX2_sum_61, gX2_sum_61, fX2_sum_100, hrow, hk, v2, v3, q_10, q_l2, q_l3, q_l4, q_l7, q_l8, q_l10, q_l17, q_l18, q_l20, q_l31, q_l40, q_l61, q_l64, q_l255, q_l256, q_leT, q_leF, q_ltT, q_ltF, q_n0, q_0le, q_cl, q_cl0, q_vpE, q_add, q_s1, q_mul, q_nle, q_nlt, false_or, or_false, not_false_eq_true, if_true, if_false, ↓reduceIte, Option.bind_some, Option.map_some]
        by_cases hv : v = 0
        · subst hv
          rw [if_pos (show nI 0 ≤ (0 : Int32) by decide)]
          exact ⟨_, _, rfl, rfl, rfl, rfl, rfl⟩
        · rw [if_neg (q_le0F (by omega) (by omega))]
          exact ⟨_, _, rfl, rfl, rfl, rfl, rfl⟩
      · rintro ⟨x, y⟩ ⟨x', y'⟩ ⟨e1, e2, e3⟩
        dsimp only at e1 e2 e3
        subst e1 e2 e3
        simp (disch := omega) only [fX1_countPairs_14, gX1_countPairs_14, fX2_sum_61, gX2_sum_61, q_leT, q_l64, q_s1, ↓reduceIte]
        rw [s_107 (Or.inl (by decide)) (s_186 (Or.inl (by decide)))]
        exact ⟨_, _, rfl, rfl, _, rfl, by rw [q_s1]⟩
    · rw [s_4n (by decide) hp (Or.inr B.2.1)]
      obtain ⟨x, g1, g2⟩ := q_inv (body := fX1_countPairs_14 (nI (cnb τ p)) σ) (a := (s, 0)) (fun k a => a.1 = s ∧ a.2 = nI k) (fun a => a = .inl (s, nI (cnb τ p + 1))) 64 (by omega) ⟨rfl, rfl⟩ (by
        rintro k ⟨x, y⟩ hk64 ⟨e1, e2⟩
        dsimp only at e1 e2
        subst e1 e2
        left
        have e3 := ((B.2.2 p c hm).2.2.1 k hk64).1
        simp (disch := omega) only [fX1_countPairs_14, gX1_countPairs_14, fX1_countPairs_37, hrow, hk, e3, q_l2, q_l3, q_l4, q_l7, q_l8, q_l10, q_l17, q_l18, q_l20, q_l31, q_l40, q_l61, q_l64, q_l255, q_l256, q_leT, q_leF, q_ltT, q_ltF, q_n0, q_0le, q_cl, q_cl0, q_vpE, q_add, q_s1, q_mul, q_nle, q_nlt, false_or, or_false, not_false_eq_true, if_true, if_false, ↓reduceIte, Option.bind_some, Option.map_some]
        rw [if_pos (show (0 : Int32) ≤ 0 by decide)]
        exact ⟨_, rfl, rfl, rfl⟩) (by
        rintro ⟨x, y⟩ ⟨e1, e2⟩
        dsimp only at e1 e2
        subst e1 e2
        simp (disch := omega) only [fX1_countPairs_14, gX1_countPairs_14, q_l2, q_l3, q_l4, q_l7, q_l8, q_l10, q_l17, q_l18, q_l20, q_l31, q_l40, q_l61, q_l64, q_l255, q_l256, q_leT, q_leF, q_ltT, q_ltF, q_n0, q_0le, q_cl, q_cl0, q_vpE, q_add, q_s1, q_mul, q_nle, q_nlt, false_or, or_false, not_false_eq_true, if_true, if_false, ↓reduceIte, Option.bind_some, Option.map_some]
        exact ⟨_, rfl, rfl⟩)
      exact ⟨s, by rw [g1, g2], rfl⟩
  · intro p hp hl s; exact s_4n (by decide) hp (Or.inl hl)
  · intro s
    simp (disch := omega) only [fX1_countPairs_4, gX1_countPairs_4, n2, q_l2, q_l3, q_l4, q_l7, q_l8, q_l10, q_l17, q_l18, q_l20, q_l31, q_l40, q_l61, q_l64, q_l255, q_l256, q_leT, q_leF, q_ltT, q_ltF, q_n0, q_0le, q_cl, q_cl0, q_vpE, q_add, q_s1, q_mul, q_nle, q_nlt, false_or, or_false, not_false_eq_true, if_true, if_false, ↓reduceIte, Option.bind_some, Option.map_some]
theorem q_sum3 (R : Ro N rr σ τ ∨ Rc rr σ τ) : ∃ s, fX1_countTrueFingers σ = some s ∧ fX2_sum τ 3 = some s := by
  have b : Bas rr σ τ := R.elim (fun B => B.1) (fun B => B.1)
  have n1 := b.2.2.1.1
  have n2 := b.2.2.1.2.1
  refine q_sumG b (b1 := fX1_countTrueFingers_4 σ) (b2 := fX2_sum_4 3 τ) ?_ ?_ ?_ (fun s => s_4e)
  · intro p c hm hrow hlt s
    have hp := hm.1
    have hk := q_mcK b hm
    have hP := q_mcP b hm
    have hl := q_mcLv b hm
    simp (disch := omega) only [fX1_countTrueFingers_4, gX1_countTrueFingers_4, n2, hrow, q_l2, q_l3, q_l4, q_l7, q_l8, q_l10, q_l17, q_l18, q_l20, q_l31, q_l40, q_l61, q_l64, q_l255, q_l256, q_leT, q_leF, q_ltT, q_ltF, q_n0, q_0le, q_cl, q_cl0, q_vpE, q_add, q_s1, q_mul, q_nle, q_nlt, false_or, or_false, not_false_eq_true, if_true, if_false, ↓reduceIte, Option.bind_some, Option.map_some]
    have hown : ∀ k, k < 8 → ∃ y, y < 256 ∧ fX1_trueOwner σ (nI ((p + 2 ^ k) % 256)) = some (nI y) ∧ fX2_next τ (nI ((p + 2 ^ k) % 256)) = some (nI y) := fun k hk => by
      have hx : (p + 2 ^ k) % 256 < 256 := Nat.mod_lt _ (by omega)
      rw [q_town b hx]
      rcases q_next (τ := τ) hx with ⟨y, g1, g2⟩ | ⟨-, g2⟩
      · exact ⟨y, g2.1, g1, g1⟩
      · exact absurd hl (g2 p hp)
    rcases R with B | B
    · rw [s_4y (by decide) hp hl B.2.1]
      have key := q_two (b1 := fX1_countTrueFingers_22 (nI (cnb τ p)) (some c) σ) (b2 := fX2_sum_110 3 (nI p) 1 τ) (a := (s, 0)) (c := (s, 0)) (fun k a b => a.1 = b.1 ∧ a.2 = nI k ∧ b.2 = nI k)
        (fun a b => ∃ s', a = .inl (s', nI (cnb τ p + 1)) ∧ b = .inl (s', nI (p + 1))) 8 (by omega) ⟨rfl, rfl, rfl⟩ ?_ ?_
      · obtain ⟨x, y, g1, g2, s', rfl, rfl⟩ := key
        exact ⟨s', g1, s_56 (Or.inl (by decide)) g2⟩
      · rintro k ⟨x, y⟩ ⟨x', y'⟩ hk8 ⟨e1, e2, e3⟩
        dsimp only at e1 e2 e3
        subst e1 e2 e3
        left
        have hpw := q_pow hk8
        obtain ⟨o, ho, o1, o2⟩ := hown k hk8
        have d4 := (B.2.2.2 p c hm).2.2.2.1 k hk8
        simp (disch := omega) only [fX1_countTrueFingers_22, gX1_countTrueFingers_22, fX1_countTrueFingers_57, fX2_sum_110, gX2_sum_110, fX2_sum_178, fX2_sum_179, hk, hP, d4, q_10, q_l31, q_shl, q_pu1, q_rem, o1, o2, q_l2, q_l3, q_l4, q_l7, q_l8, q_l10, q_l17, q_l18, q_l20, q_l31, q_l40, q_l61, q_l64, q_l255, q_l256, q_leT, q_leF, q_ltT, q_ltF, q_n0, q_0le, q_cl, q_cl0, q_vpE, q_add, q_s1, q_mul, q_nle, q_nlt, false_or, or_false, not_false_eq_true, if_true, if_false, ↓reduceIte, Option.bind_some, Option.map_some]
        by_cases hf : τ.1 130 (8 * p + k) = -1
        · rw [if_pos hf, hf, if_neg (fun e => q_nm1 (a := o) (by omega) e.symm)]
          exact ⟨_, _, rfl, rfl, rfl, rfl, rfl⟩
        · rw [if_neg hf]
          by_cases hg : τ.1 130 (8 * p + k) = nI o
          · rw [if_pos hg]
            exact ⟨_, _, rfl, rfl, rfl, rfl, rfl⟩
          · rw [if_neg hg]
            exact ⟨_, _, rfl, rfl, rfl, rfl, rfl⟩
      · rintro ⟨x, y⟩ ⟨x', y'⟩ ⟨e1, e2, e3⟩
        dsimp only at e1 e2 e3
        subst e1 e2 e3
        simp (disch := omega) only [fX1_countTrueFingers_22, gX1_countTrueFingers_22, fX2_sum_110, gX2_sum_110, q_leT, q_l8, q_s1, ↓reduceIte]
        rw [s_186 (Or.inl (by decide))]
        exact ⟨_, _, rfl, rfl, _, rfl, by rw [q_s1]⟩
    · rw [s_4n (by decide) hp (Or.inr B.2.1)]
      obtain ⟨x, g1, g2⟩ := q_inv (body := fX1_countTrueFingers_22 (nI (cnb τ p)) (some c) σ) (a := (s, 0)) (fun k a => a.1 = s ∧ a.2 = nI k) (fun a => a = .inl (s, nI (cnb τ p + 1))) 8 (by omega) ⟨rfl, rfl⟩ (by
        rintro k ⟨x, y⟩ hk8 ⟨e1, e2⟩
        dsimp only at e1 e2
        subst e1 e2
        left
        have hpw := q_pow hk8
        obtain ⟨o, ho, o1, -⟩ := hown k hk8
        have e3 := (B.2.2 p c hm).2.1 k hk8
        simp (disch := omega) only [fX1_countTrueFingers_22, gX1_countTrueFingers_22, fX1_countTrueFingers_57, hk, hP, e3, q_l31, q_shl, q_pu1, o1, q_l2, q_l3, q_l4, q_l7, q_l8, q_l10, q_l17, q_l18, q_l20, q_l31, q_l40, q_l61, q_l64, q_l255, q_l256, q_leT, q_leF, q_ltT, q_ltF, q_n0, q_0le, q_cl, q_cl0, q_vpE, q_add, q_s1, q_mul, q_nle, q_nlt, false_or, or_false, not_false_eq_true, if_true, if_false, ↓reduceIte, Option.bind_some, Option.map_some]
        rw [if_neg (fun e => q_nm1 (a := o) (by omega) e.symm)]
        exact ⟨_, rfl, rfl, rfl⟩) (by
        rintro ⟨x, y⟩ ⟨e1, e2⟩
        dsimp only at e1 e2
        subst e1 e2
        simp (disch := omega) only [fX1_countTrueFingers_22, gX1_countTrueFingers_22, q_l2, q_l3, q_l4, q_l7, q_l8, q_l10, q_l17, q_l18, q_l20, q_l31, q_l40, q_l61, q_l64, q_l255, q_l256, q_leT, q_leF, q_ltT, q_ltF, q_n0, q_0le, q_cl, q_cl0, q_vpE, q_add, q_s1, q_mul, q_nle, q_nlt, false_or, or_false, not_false_eq_true, if_true, if_false, ↓reduceIte, Option.bind_some, Option.map_some]
        exact ⟨_, rfl, rfl⟩)
      exact ⟨s, by rw [g1, g2], rfl⟩
  · intro p hp hl s; exact s_4n (by decide) hp (Or.inl hl)
  · intro s
    simp (disch := omega) only [fX1_countTrueFingers_4, gX1_countTrueFingers_4, n2, q_l2, q_l3, q_l4, q_l7, q_l8, q_l10, q_l17, q_l18, q_l20, q_l31, q_l40, q_l61, q_l64, q_l255, q_l256, q_leT, q_leF, q_ltT, q_ltF, q_n0, q_0le, q_cl, q_cl0, q_vpE, q_add, q_s1, q_mul, q_nle, q_nlt, false_or, or_false, not_false_eq_true, if_true, if_false, ↓reduceIte, Option.bind_some, Option.map_some]
theorem q_succ0 (B : Rc rr σ τ) {p c : Nat} (h : Mc σ p c) : fX1_successor σ c = some none := by
  obtain ⟨r1, r2, r3, -⟩ := B.1.1
  have hk := q_mcK B.1 h
  obtain ⟨b, g1, g2⟩ := q_inv (body := fX1_successor_2 c σ) (a := 0) (fun k a => a = nI k) (fun b => b = none) rr (by omega) rfl (by
    rintro k a hkr rfl
    left
    have e1 := (B.2.2 p c h).1 k (by omega)
    simp (disch := omega) only [fX1_successor_2, gX1_successor_2, r3, hk, e1, q_l2, q_l3, q_l4, q_l7, q_l8, q_l10, q_l17, q_l18, q_l20, q_l31, q_l40, q_l61, q_l64, q_l255, q_l256, q_leT, q_leF, q_ltT, q_ltF, q_n0, q_0le, q_cl, q_cl0, q_vpE, q_add, q_s1, q_mul, q_nle, q_nlt, false_or, or_false, not_false_eq_true, if_true, if_false, ↓reduceIte, Option.bind_some, Option.map_some]
    rw [q_la0 (Or.inl (by decide))]
    exact ⟨_, rfl, rfl⟩) (by
    rintro a rfl
    simp (disch := omega) only [fX1_successor_2, gX1_successor_2, r3, q_l2, q_l3, q_l4, q_l7, q_l8, q_l10, q_l17, q_l18, q_l20, q_l31, q_l40, q_l61, q_l64, q_l255, q_l256, q_leT, q_leF, q_ltT, q_ltF, q_n0, q_0le, q_cl, q_cl0, q_vpE, q_add, q_s1, q_mul, q_nle, q_nlt, false_or, or_false, not_false_eq_true, if_true, if_false, ↓reduceIte, Option.bind_some, Option.map_some]
    exact ⟨_, rfl, rfl⟩)
  rw [g2] at g1
  exact g1
theorem q_sum4 (R : Ro N rr σ τ ∨ Rc rr σ τ) : ∃ s, fX1_countTrueSuccessors σ = some s ∧ fX2_sum τ 4 = some s := by
  have b : Bas rr σ τ := R.elim (fun B => B.1) (fun B => B.1)
  have n1 := b.2.2.1.1
  have n2 := b.2.2.1.2.1
  refine q_sumG b (b1 := fX1_countTrueSuccessors_4 σ) (b2 := fX2_sum_4 4 τ) ?_ ?_ ?_ (fun s => s_4e)
  · intro p c hm hrow hlt s
    have hp := hm.1
    have hk := q_mcK b hm
    have hl := q_mcLv b hm
    rcases R with B | B
    · obtain ⟨q, d, k, -, -, hq, f1, f2⟩ := q_succ B hm
      have hql := hq.1
      have hn := q_nx (τ := τ) hlt
      rw [(pt_cnb hp hl).2] at hn
      have ht := q_turnp b (a := cnb τ p + 1) (by omega) (by omega)
      have h186 : fX2_sum_186 4 s (nI p) 1 τ = some (.inl (if q = pt τ ((cnb τ p + 1) % (lvl τ).length) then s + 1 else s, nI (p + 1))) := by
        simp (disch := omega) only [fX2_sum_186, fX2_sum_221, fX2_sum_222, f2, q_10, q_s1, q_l256, q_rem, hn, Option.bind_some, ↓reduceIte]
        by_cases e : q = pt τ ((cnb τ p + 1) % (lvl τ).length)
        · rw [← e]; simp only [↓reduceIte]
        · have hm2 : (cnb τ p + 1) % (lvl τ).length < (lvl τ).length := Nat.mod_lt _ (by omega)
          have := (pt_lv hm2).1
          rw [if_neg (q_ne e (by omega) (by omega)), if_neg e]
      rw [s_4y (by decide) hp hl B.2.1, s_56 (Or.inl (by decide)) (s_107 (Or.inl (by decide)) h186)]
      refine ⟨_, ?_, rfl⟩
      simp (disch := omega) only [fX1_countTrueSuccessors_4, gX1_countTrueSuccessors_4, fX1_countTrueSuccessors_44, n2, hrow, f1, kmn_s, q_mcK b hq, q_mcP b hq, ht, q_l2, q_l3, q_l4, q_l7, q_l8, q_l10, q_l17, q_l18, q_l20, q_l31, q_l40, q_l61, q_l64, q_l255, q_l256, q_leT, q_leF, q_ltT, q_ltF, q_n0, q_0le, q_cl, q_cl0, q_vpE, q_add, q_s1, q_mul, q_nle, q_nlt, false_or, or_false, not_false_eq_true, if_true, if_false, ↓reduceIte, Option.bind_some, Option.map_some]
      by_cases e : q = pt τ ((cnb τ p + 1) % (lvl τ).length)
      · rw [← e]; simp only [↓reduceIte]
      · have hm2 : (cnb τ p + 1) % (lvl τ).length < (lvl τ).length := Nat.mod_lt _ (by omega)
        have := (pt_lv hm2).1
        rw [if_neg (q_ne e (by omega) (by omega)), if_neg e]
    · rw [s_4n (by decide) hp (Or.inr B.2.1)]
      refine ⟨s, ?_, rfl⟩
      simp (disch := omega) only [fX1_countTrueSuccessors_4, gX1_countTrueSuccessors_4, fX1_countTrueSuccessors_44, n2, hrow, q_succ0 B hm, kmn_n, q_l2, q_l3, q_l4, q_l7, q_l8, q_l10, q_l17, q_l18, q_l20, q_l31, q_l40, q_l61, q_l64, q_l255, q_l256, q_leT, q_leF, q_ltT, q_ltF, q_n0, q_0le, q_cl, q_cl0, q_vpE, q_add, q_s1, q_mul, q_nle, q_nlt, false_or, or_false, not_false_eq_true, if_true, if_false, ↓reduceIte, Option.bind_some, Option.map_some]
  · intro p hp hl s; exact s_4n (by decide) hp (Or.inl hl)
  · intro s
    simp (disch := omega) only [fX1_countTrueSuccessors_4, gX1_countTrueSuccessors_4, n2, q_l2, q_l3, q_l4, q_l7, q_l8, q_l10, q_l17, q_l18, q_l20, q_l31, q_l40, q_l61, q_l64, q_l255, q_l256, q_leT, q_leF, q_ltT, q_ltF, q_n0, q_0le, q_cl, q_cl0, q_vpE, q_add, q_s1, q_mul, q_nle, q_nlt, false_or, or_false, not_false_eq_true, if_true, if_false, ↓reduceIte, Option.bind_some, Option.map_some]
theorem S_count (hN : N < 2147483648) (x : Int32) : Sm N N cA (fun σ => (fX1_count σ x).map fun r => (r, σ)) (fun τ => fX2_count τ x) := by
  intro σ τ R
  obtain ⟨r0, R0⟩ := q_go R 0
  have b : Bas r0 σ (sI τ 126 0 0) := R0.elim (fun B => B.1) (fun B => B.1)
  obtain ⟨n1, n2, n3⟩ := b.2.2.1
  have fin : ∀ w, ∃ res σ' v τ', (some (Sum.inr w : String ⊕ Int32)).map (fun r => (r, σ)) = some (res, σ') ∧ some (w, sI τ 126 0 0) = some (v, τ') ∧ Rel N σ' τ' ∧ FC σ σ' ∧ FR τ τ' ∧ ((∃ E, res = .inl E ∧ cA E (τ'.1 126 0)) ∨ (res = .inr v ∧ τ'.1 126 0 = 0)) :=
    fun w => ⟨_, _, _, _, rfl, rfl, q_go R 0, FC.r σ, FR_go τ 0, Or.inr ⟨rfl, sI_e _ _ _ _⟩⟩
  have bad : ∃ res σ' v τ', (some (Sum.inl "java/lang/IllegalArgumentException" : String ⊕ Int32)).map (fun r => (r, σ)) = some (res, σ') ∧ some ((0 : Int32), sI τ 126 0 1) = some (v, τ') ∧ Rel N σ' τ' ∧ FC σ σ' ∧ FR τ τ' ∧ ((∃ E, res = .inl E ∧ cA E (τ'.1 126 0)) ∨ (res = .inr v ∧ τ'.1 126 0 = 0)) :=
    ⟨_, _, _, _, rfl, rfl, q_go R 1, FC.r σ, FR_go τ 1, Or.inl ⟨_, rfl, rfl, sI_e _ _ _ _⟩⟩
  simp only [fX1_count, fX2_count, fX2_count_15, fX2_count_16, go_1, go_0, Option.bind_some, q_10, ↓reduceIte]
  rcases pk_ix x (n := 8) (by decide) with g | g | ⟨j, hj, rfl⟩
  · have hne : ∀ j, j < 8 → ¬ x = nI j := fun j hj e => by subst e; exact q_n0 (by omega) g
    have e0 : ¬ x = 0 := hne 0 (by omega)
    have e1 : ¬ x = 1 := hne 1 (by omega)
    have e2 : ¬ x = 2 := hne 2 (by omega)
    have e3 : ¬ x = 3 := hne 3 (by omega)
    have e4 : ¬ x = 4 := hne 4 (by omega)
    have e5 : ¬ x = 5 := hne 5 (by omega)
    have e6 : ¬ x = 6 := hne 6 (by omega)
    have e7 : ¬ x = 7 := hne 7 (by omega)
    rw [if_pos g, if_neg e0, if_neg e1, if_neg e2, if_neg e3, if_neg e4, if_neg e5, if_neg e6, if_neg e7]
    exact bad
  · have a := Int32.le_iff_toInt_le.mp g
    rw [nI_toInt (by decide)] at a
    have hne : ∀ j, j < 8 → ¬ x = nI j := fun j hj e => by
      subst e
      exact q_leF hj (by omega) g
    have e0 : ¬ x = 0 := hne 0 (by omega)
    have e1 : ¬ x = 1 := hne 1 (by omega)
    have e2 : ¬ x = 2 := hne 2 (by omega)
    have e3 : ¬ x = 3 := hne 3 (by omega)
    have e4 : ¬ x = 4 := hne 4 (by omega)
    have e5 : ¬ x = 5 := hne 5 (by omega)
    have e6 : ¬ x = 6 := hne 6 (by omega)
    have e7 : ¬ x = 7 := hne 7 (by omega)
    have g1 : ¬ x < 0 := fun h => absurd (Int32.lt_iff_toInt_lt.mp h) (by rw [show (0 : Int32).toInt = 0 from rfl]; omega)
    have g2 : 7 < x := Int32.lt_iff_toInt_lt.mpr (by rw [show (7 : Int32).toInt = 7 from rfl]; omega)
    rw [if_neg g1, if_pos g2, if_neg e0, if_neg e1, if_neg e2, if_neg e3, if_neg e4, if_neg e5, if_neg e6, if_neg e7]
    exact bad
  · have g1 : ¬ nI j < 0 := q_n0 (by omega)
    have g2 : ¬ 7 < nI j := fun h => q_ltF (a := 7) (b := j) (by omega) (by omega) h
    rw [if_neg g1, if_neg g2]
    have hj : j = 0 ∨ j = 1 ∨ j = 2 ∨ j = 3 ∨ j = 4 ∨ j = 5 ∨ j = 6 ∨ j = 7 := by omega
    rcases hj with rfl | rfl | rfl | rfl | rfl | rfl | rfl | rfl
    · rw [if_pos (show nI 0 = 0 from rfl), if_pos (show nI 0 = 0 from rfl), q_many n1, n2]
      exact fin _
    · rw [if_neg (show ¬ nI 1 = 0 by decide), if_neg (show ¬ nI 1 = 0 by decide), if_pos (show nI 1 = 1 from rfl), if_pos (show nI 1 = 1 from rfl), n3]
      obtain ⟨s, h1, h2⟩ := q_sum1 (τ := sI τ 126 0 0)
      rw [show nI 1 = (1 : Int32) from rfl, h1, h2]
      exact fin _
    · rw [if_neg (show ¬ nI 2 = 0 by decide), if_neg (show ¬ nI 2 = 0 by decide), if_neg (show ¬ nI 2 = 1 by decide), if_neg (show ¬ nI 2 = 1 by decide), if_pos (show nI 2 = 2 from rfl), if_pos (show nI 2 = 2 from rfl)]
      obtain ⟨s, h1, h2⟩ := q_sum2 R0 hN
      rw [show nI 2 = (2 : Int32) from rfl, h1, h2]
      exact fin _
    · rw [if_neg (show ¬ nI 3 = 0 by decide), if_neg (show ¬ nI 3 = 0 by decide), if_neg (show ¬ nI 3 = 1 by decide), if_neg (show ¬ nI 3 = 1 by decide), if_neg (show ¬ nI 3 = 2 by decide), if_neg (show ¬ nI 3 = 2 by decide), if_pos (show nI 3 = 3 from rfl), if_pos (show nI 3 = 3 from rfl)]
      obtain ⟨s, h1, h2⟩ := q_sum3 R0
      rw [show nI 3 = (3 : Int32) from rfl, h1, h2]
      exact fin _
    · rw [if_neg (show ¬ nI 4 = 0 by decide), if_neg (show ¬ nI 4 = 0 by decide), if_neg (show ¬ nI 4 = 1 by decide), if_neg (show ¬ nI 4 = 1 by decide), if_neg (show ¬ nI 4 = 2 by decide), if_neg (show ¬ nI 4 = 2 by decide), if_neg (show ¬ nI 4 = 3 by decide), if_neg (show ¬ nI 4 = 3 by decide), if_pos (show nI 4 = 4 from rfl), if_pos (show nI 4 = 4 from rfl)]
      obtain ⟨s, h1, h2⟩ := q_sum4 R0
      rw [show nI 4 = (4 : Int32) from rfl, h1, h2]
      exact fin _
    · rw [if_neg (show ¬ nI 5 = 0 by decide), if_neg (show ¬ nI 5 = 0 by decide), if_neg (show ¬ nI 5 = 1 by decide), if_neg (show ¬ nI 5 = 1 by decide), if_neg (show ¬ nI 5 = 2 by decide), if_neg (show ¬ nI 5 = 2 by decide), if_neg (show ¬ nI 5 = 3 by decide), if_neg (show ¬ nI 5 = 3 by decide), if_neg (show ¬ nI 5 = 4 by decide), if_neg (show ¬ nI 5 = 4 by decide), if_pos (show nI 5 = 5 from rfl), if_pos (show nI 5 = 5 from rfl)]
      have e := b.2.1
      simp only [B2] at e
      rw [e]
      rcases R0 with B | B
      · rw [B.2.1, if_neg (by decide), if_neg (by decide)]; exact fin _
      · rw [B.2.1, if_pos rfl, if_pos rfl]; exact fin _
    · rw [if_neg (show ¬ nI 6 = 0 by decide), if_neg (show ¬ nI 6 = 0 by decide), if_neg (show ¬ nI 6 = 1 by decide), if_neg (show ¬ nI 6 = 1 by decide), if_neg (show ¬ nI 6 = 2 by decide), if_neg (show ¬ nI 6 = 2 by decide), if_neg (show ¬ nI 6 = 3 by decide), if_neg (show ¬ nI 6 = 3 by decide), if_neg (show ¬ nI 6 = 4 by decide), if_neg (show ¬ nI 6 = 4 by decide), if_neg (show ¬ nI 6 = 5 by decide), if_neg (show ¬ nI 6 = 5 by decide), if_pos (show nI 6 = 6 from rfl), if_pos (show nI 6 = 6 from rfl)]
      obtain ⟨h, -, g2, g3, -⟩ := b.2.2.2.2.2.2.1
      rw [g2, g3]
      exact fin _
    · rw [if_neg (show ¬ nI 7 = 0 by decide), if_neg (show ¬ nI 7 = 0 by decide), if_neg (show ¬ nI 7 = 1 by decide), if_neg (show ¬ nI 7 = 1 by decide), if_neg (show ¬ nI 7 = 2 by decide), if_neg (show ¬ nI 7 = 2 by decide), if_neg (show ¬ nI 7 = 3 by decide), if_neg (show ¬ nI 7 = 3 by decide), if_neg (show ¬ nI 7 = 4 by decide), if_neg (show ¬ nI 7 = 4 by decide), if_neg (show ¬ nI 7 = 5 by decide), if_neg (show ¬ nI 7 = 5 by decide), if_neg (show ¬ nI 7 = 6 by decide), if_neg (show ¬ nI 7 = 6 by decide), if_pos (show nI 7 = 7 from rfl), if_pos (show nI 7 = 7 from rfl)]
      have e := b.2.2.2.2.2.2.2
      simp only [B8] at e
      rw [e]
      exact fin _
end
