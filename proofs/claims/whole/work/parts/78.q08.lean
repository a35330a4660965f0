section
variable {N rr : Nat} {σ τ : kS}
theorem q_give (B : Ro N rr σ τ) (hN : N < 2147483648) {p c i : Nat} (h : Mc σ p c) (hi : i < 64) : ∃ n σ' τ', fX1_copyToList σ c (nI i) = some (n, σ') ∧ fX2_give τ (nI p) (nI i) = some (n, τ') ∧ Ro N rr σ' τ' ∧ KC σ σ' ∧ KR τ τ' ∧ τ'.1 129 = τ.1 129 ∧ τ'.1 132 (64 * p + i) = τ.1 132 (64 * p + i) ∧ (τ.1 132 (64 * p + i) = 0 → n = 0 ∧ τ' = τ) := by
  have hp := h.1
  have hk := q_mcK B.1 h
  have hr := q_rr B
  have key := q_two (b1 := fX1_copyToList_5 c (nI i)) (b2 := fX2_give_5 (nI p) (nI i)) (a := (0, 0, σ)) (c := (0, 0, τ))
    (fun k a b => a.1 = b.1 ∧ a.2.1 = nI k ∧ b.2.1 = nI k ∧ Ro N rr a.2.2 b.2.2 ∧ KC σ a.2.2 ∧ KR τ b.2.2 ∧ b.2.2.1 129 = τ.1 129 ∧ b.2.2.1 132 (64 * p + i) = τ.1 132 (64 * p + i) ∧ (τ.1 132 (64 * p + i) = 0 → b.1 = 0 ∧ b.2.2 = τ))
    (fun a b => a.1 = b.1 ∧ Ro N rr a.2 b.2 ∧ KC σ a.2 ∧ KR τ b.2 ∧ b.2.1 129 = τ.1 129 ∧ b.2.1 132 (64 * p + i) = τ.1 132 (64 * p + i) ∧ (τ.1 132 (64 * p + i) = 0 → b.1 = 0 ∧ b.2 = τ)) rr (by omega) ?_ ?_ ?_
  · obtain ⟨⟨n, σ'⟩, ⟨n', τ'⟩, g1, g2, g3, g4⟩ := key
    dsimp only at g3 g4
    subst g3
    exact ⟨n, σ', τ', g1, g2, g4⟩
  · exact ⟨rfl, rfl, rfl, B, KC.r σ, KR.r τ, rfl, rfl, fun _ => ⟨rfl, rfl⟩⟩
  · rintro k ⟨n, x, σ'⟩ ⟨n', y, τ'⟩ hkr ⟨e1, e2, e3, B', C', R', g1, g2, g3⟩
    dsimp only at e1 e2 e3 B' C' R' g1 g2 g3
    subst e1 e2 e3
    left
    have h' := C'.mc.mpr h
    have r3 := B'.1.1.2.2.1
    have r4 := B'.1.1.2.2.2
    have d3 := (B'.2.2.2 p c h').2.2.1
    simp (disch := omega) only [fX1_copyToList_5, gX1_copyToList_5, fX1_copyToList_45, fX2_give_5, gX2_give_5, fX2_give_82, r3, r4, hk, q_l2, q_l3, q_l4, q_l7, q_l8, q_l10, q_l17, q_l18, q_l20, q_l31, q_l40, q_l61, q_l64, q_l255, q_l256, q_leT, q_leF, q_ltT, q_ltF, q_n0, q_0le, q_cl, q_cl0, q_vpE, q_add, q_s1, q_mul, q_nle, q_nlt, false_or, or_false, not_false_eq_true, if_true, if_false, ↓reduceIte, Option.bind_some, Option.map_some]
    rw [d3 k hkr]
    rcases q_live B'.1 (τ'.1 128 (4 * p + k)) with ⟨h1, h2, -⟩ | ⟨q, d, h1, h2, h3, h4, h5⟩
    · simp only [h1, h2, Option.bind_some, kmn_n, ↓reduceIte]
      exact ⟨_, _, rfl, rfl, rfl, rfl, rfl, B', C', R', g1, g2, g3⟩
    · have hq := h2.1
      simp only [h4, h5, Option.bind_some, kmn_s, q_10, ↓reduceIte]
      rw [h1]
      obtain ⟨b, σ2, τ2, f1, f2, f3, f4, f5, f6, f7, f8, f9, f10, f11, f12⟩ := q_cp B' hN h' h2 hi
      simp only [q_mul, q_add, f1, f2, Option.bind_some]
      by_cases e : q = p
      · subst e
        have hb : b = false := f5 (q_mcU h' h2)
        subst hb
        obtain ⟨s1, s2⟩ := f3 rfl
        subst s1 s2
        simp only [bI_F, ↓reduceIte]
        exact ⟨_, _, rfl, rfl, rfl, rfl, rfl, B', C', R', g1, g2, g3⟩
      · rw [if_neg (q_ne e (by omega) (by omega))]
        cases b
        · obtain ⟨s1, s2⟩ := f3 rfl
          subst s1 s2
          simp only [bI_F, ↓reduceIte]
          exact ⟨_, _, rfl, rfl, rfl, rfl, rfl, B', C', R', g1, g2, g3⟩
        · simp only [bI_T, q_10, ↓reduceIte, f4 rfl, Option.bind_some]
          refine ⟨_, _, rfl, rfl, rfl, rfl, rfl, f7, C'.t f8, R'.t f9, (f11 129 (by omega) (by omega) (by omega)).trans g1, (f12 132 _ (by omega)).trans g2, fun z => ?_⟩
          have := f6 (g2.trans z)
          cases this
  · rintro ⟨n, x, σ'⟩ ⟨n', y, τ'⟩ ⟨e1, e2, e3, B', C', R', g1, g2, g3⟩
    dsimp only at e1 e2 e3 B' C' R' g1 g2 g3
    subst e1 e2 e3
    have r3 := B'.1.1.2.2.1
    have r4 := B'.1.1.2.2.2
    simp (disch := omega) only [fX1_copyToList_5, gX1_copyToList_5, fX2_give_5, gX2_give_5, r3, r4, q_l2, q_l3, q_l4, q_l7, q_l8, q_l10, q_l17, q_l18, q_l20, q_l31, q_l40, q_l61, q_l64, q_l255, q_l256, q_leT, q_leF, q_ltT, q_ltF, q_n0, q_0le, q_cl, q_cl0, q_vpE, q_add, q_s1, q_mul, q_nle, q_nlt, false_or, or_false, not_false_eq_true, if_true, if_false, ↓reduceIte, Option.bind_some, Option.map_some]
    exact ⟨_, _, rfl, rfl, rfl, B', C', R', g1, g2, g3⟩
theorem q_care (B : Ro N rr σ τ) {p c y z i : Nat} (h : Mc σ p c) (g : Mc σ y z) (e : τ.1 129 p = nI y) (hi : i < 64) : ∃ b : Bool, fX1_isInCare σ c z (nI i) = some (bI b) ∧ fX2_belongs τ (nI i) (nI p) = some (bI b) := by
  have hp := h.1
  have hy := g.1
  have hq := kpt_lt i
  simp (disch := omega) only [fX1_isInCare, fX1_isInCare_28, fX2_belongs, fX2_belongs_25, q_kp1, q_kp2, q_mcK B.1 h, q_mcK B.1 g, q_mcP B.1 h, q_mcP B.1 g, e, q_l2, q_l3, q_l4, q_l7, q_l8, q_l10, q_l17, q_l18, q_l20, q_l31, q_l40, q_l61, q_l64, q_l255, q_l256, q_leT, q_leF, q_ltT, q_ltF, q_n0, q_0le, q_cl, q_cl0, q_vpE, q_add, q_s1, q_mul, q_nle, q_nlt, false_or, or_false, not_false_eq_true, if_true, if_false, ↓reduceIte, Option.bind_some, Option.map_some]
  by_cases e1 : kpt i = p
  · rw [e1]; simp only [↓reduceIte]; exact ⟨true, rfl, rfl⟩
  · rw [if_neg (q_ne e1 (by omega) (by omega)), if_neg (q_ne e1 (by omega) (by omega)), q_btw1 hy hq hp, q_btw2 hy hq hp]
    cases hb : btw y (kpt i) p
    · exact ⟨false, rfl, rfl⟩
    · exact ⟨true, rfl, rfl⟩
theorem q_handed (B : Ro N rr σ τ) (hN : N < 2147483648) {p c : Nat} (h : Mc σ p c) : ∃ n σ' τ', fX1_takeFromSuccessor σ c = some (n, σ') ∧ fX2_handed τ (nI p) = some (n, τ') ∧ Ro N rr σ' τ' ∧ KC σ σ' ∧ KR τ τ' := by
  have hp := h.1
  have hk := q_mcK B.1 h
  obtain ⟨s, d, j, j1, j2, hs, f1, f2⟩ := q_succ B h
  have hsl := hs.1
  have hD := (B.2.2.2 p c h).1
  simp only [D1] at hD
  simp only [fX1_takeFromSuccessor, fX2_handed, f1, f2, hk, ↓reduceIte, Option.bind_some, hD]
  rcases q_live B.1 (τ.1 129 p) with ⟨h1, h2, -⟩ | ⟨y, z, h1, h2, h3, h4, h5⟩
  · simp only [h1, Option.bind_some, kmn_n]
    refine ⟨0, σ, τ, rfl, ?_, B, KC.r σ, KR.r τ⟩
    refine q_kitE (n := 299) ?_
    simp (disch := omega) only [fX2_handed_11, gX2_handed_11, h2, q_l2, q_l3, q_l4, q_l7, q_l8, q_l10, q_l17, q_l18, q_l20, q_l31, q_l40, q_l61, q_l64, q_l255, q_l256, q_leT, q_leF, q_ltT, q_ltF, q_n0, q_0le, q_cl, q_cl0, q_vpE, q_add, q_s1, q_mul, q_nle, q_nlt, false_or, or_false, not_false_eq_true, if_true, if_false, ↓reduceIte, Option.bind_some, Option.map_some]
    rw [if_neg (by decide)]
  · simp only [h4, Option.bind_some, kmn_s, q_okq (q_mcK B.1 hs), q_okq hk, and_self, ↓reduceIte, Option.some.injEq]
    by_cases e : s = p
    · subst e
      have := q_mcU h hs
      subst this
      simp only [↓reduceIte]
      refine ⟨0, σ, τ, rfl, ?_, B, KC.r σ, KR.r τ⟩
      refine q_kitE (n := 299) ?_
      simp (disch := omega) only [fX2_handed_11, gX2_handed_11, h5, q_10, q_l2, q_l3, q_l4, q_l7, q_l8, q_l10, q_l17, q_l18, q_l20, q_l31, q_l40, q_l61, q_l64, q_l255, q_l256, q_leT, q_leF, q_ltT, q_ltF, q_n0, q_0le, q_cl, q_cl0, q_vpE, q_add, q_s1, q_mul, q_nle, q_nlt, false_or, or_false, not_false_eq_true, if_true, if_false, ↓reduceIte, Option.bind_some, Option.map_some]
      rw [if_neg (by decide)]
    · have hn : ¬ d = c := fun e' => e (by subst e'; exact q_mcI B.1 hs h)
      simp only [hn, ↓reduceIte]
      have key := q_two (b1 := fX1_takeFromSuccessor_36 c z d) (b2 := fX2_handed_11 (nI p) (nI s)) (a := (0, 0, σ)) (c := (0, 0, τ))
        (fun k a b => a.1 = b.1 ∧ a.2.1 = nI k ∧ b.2.1 = nI k ∧ Ro N rr a.2.2 b.2.2 ∧ KC σ a.2.2 ∧ KR τ b.2.2 ∧ b.2.2.1 129 = τ.1 129)
        (fun a b => a.1 = b.1 ∧ Ro N rr a.2 b.2 ∧ KC σ a.2 ∧ KR τ b.2) 64 (by omega) ?_ ?_ ?_
      · obtain ⟨⟨n, σ'⟩, ⟨n', τ'⟩, g1, g2, g3, g4⟩ := key
        dsimp only at g3 g4
        subst g3
        exact ⟨n, σ', τ', g1, g2, g4⟩
      · exact ⟨rfl, rfl, rfl, B, KC.r σ, KR.r τ, rfl⟩
      · rintro k ⟨n, x, σ'⟩ ⟨n', x', τ'⟩ hkr ⟨e1, e2, e3, B', C', R', g1⟩
        dsimp only at e1 e2 e3 B' C' R' g1
        subst e1 e2 e3
        left
        have h' := C'.mc.mpr h
        have hs' := C'.mc.mpr hs
        have hz' := C'.mc.mpr h2
        have hy := h2.1
        have l5 : fX2_live τ' (nI y) = some 1 := by
          rw [q_lb hy, R'.2.2.1, if_pos h3]
        obtain ⟨b, c1, c2⟩ := q_care B' h' hz' (by rw [g1]; exact h1) hkr
        simp (disch := omega) only [fX1_takeFromSuccessor_36, gX1_takeFromSuccessor_36, fX1_takeFromSuccessor_66, fX2_handed_11, gX2_handed_11, fX2_handed_88, g1, h1, l5, q_10, c1, c2, q_l2, q_l3, q_l4, q_l7, q_l8, q_l10, q_l17, q_l18, q_l20, q_l31, q_l40, q_l61, q_l64, q_l255, q_l256, q_leT, q_leF, q_ltT, q_ltF, q_n0, q_0le, q_cl, q_cl0, q_vpE, q_add, q_s1, q_mul, q_nle, q_nlt, false_or, or_false, not_false_eq_true, if_true, if_false, ↓reduceIte, Option.bind_some, Option.map_some]
        rw [if_neg (q_ne e (by omega) (by omega))]
        cases b
        · simp only [bI_F, ↓reduceIte]
          exact ⟨_, _, rfl, rfl, rfl, rfl, rfl, B', C', R', g1⟩
        · obtain ⟨b, σ2, τ2, f1, f2, f3, f4, f5, f6, f7, f8, f9, f10, f11, f12⟩ := q_cp B' hN hs' h' hkr
          simp only [bI_T, q_10, ↓reduceIte, f1, f2, Option.bind_some]
          cases b
          · obtain ⟨s1, s2⟩ := f3 rfl
            subst s1 s2
            simp only [bI_F, ↓reduceIte]
            exact ⟨_, _, rfl, rfl, rfl, rfl, rfl, B', C', R', g1⟩
          · simp only [bI_T, q_10, ↓reduceIte, f4 rfl, Option.bind_some]
            exact ⟨_, _, rfl, rfl, rfl, rfl, rfl, f7, C'.t f8, R'.t f9, (f11 129 (by omega) (by omega) (by omega)).trans g1⟩
      · rintro ⟨n, x, σ'⟩ ⟨n', x', τ'⟩ ⟨e1, e2, e3, B', C', R', g1⟩
        dsimp only at e1 e2 e3 B' C' R' g1
        subst e1 e2 e3
        simp (disch := omega) only [fX1_takeFromSuccessor_36, gX1_takeFromSuccessor_36, fX2_handed_11, gX2_handed_11, q_l2, q_l3, q_l4, q_l7, q_l8, q_l10, q_l17, q_l18, q_l20, q_l31, q_l40, q_l61, q_l64, q_l255, q_l256, q_leT, q_leF, q_ltT, q_ltF, q_n0, q_0le, q_cl, q_cl0, q_vpE, q_add, q_s1, q_mul, q_nle, q_nlt, false_or, or_false, not_false_eq_true, if_true, if_false, ↓reduceIte, Option.bind_some, Option.map_some]
        exact ⟨_, _, rfl, rfl, rfl, B', C', R'⟩
theorem q_spread (B : Ro N rr σ τ) (hN : N < 2147483648) {p c : Nat} (h : Mc σ p c) : ∃ n σ' τ', fX1_spreadFrom σ c = some (n, σ') ∧ fX2_spreadFrom τ (nI p) = some (n, τ') ∧ Ro N rr σ' τ' ∧ KC σ σ' ∧ KR τ τ' := by
  have hp := h.1
  have hk := q_mcK B.1 h
  have hD := (B.2.2.2 p c h).1
  simp only [D1] at hD
  simp only [fX1_spreadFrom, fX2_spreadFrom, hk, ↓reduceIte, Option.bind_some, hD]
  rcases q_live B.1 (τ.1 129 p) with ⟨h1, h2, -⟩ | ⟨y, z, h1, h2, h3, h4, h5⟩
  · simp only [h1, Option.bind_some, kmn_n]
    refine ⟨0, σ, τ, rfl, ?_, B, KC.r σ, KR.r τ⟩
    refine q_kitE (n := 299) ?_
    simp (disch := omega) only [fX2_spreadFrom_4, gX2_spreadFrom_4, h2, q_l2, q_l3, q_l4, q_l7, q_l8, q_l10, q_l17, q_l18, q_l20, q_l31, q_l40, q_l61, q_l64, q_l255, q_l256, q_leT, q_leF, q_ltT, q_ltF, q_n0, q_0le, q_cl, q_cl0, q_vpE, q_add, q_s1, q_mul, q_nle, q_nlt, false_or, or_false, not_false_eq_true, if_true, if_false, ↓reduceIte, Option.bind_some, Option.map_some]
    rw [if_neg (by decide)]
  · simp only [h4, Option.bind_some, kmn_s]
    have key := q_two (b1 := fX1_spreadFrom_20 c z) (b2 := fX2_spreadFrom_4 (nI p)) (a := (0, 0, σ)) (c := (0, 0, τ))
      (fun k a b => a.1 = b.1 ∧ a.2.1 = nI k ∧ b.2.1 = nI k ∧ Ro N rr a.2.2 b.2.2 ∧ KC σ a.2.2 ∧ KR τ b.2.2 ∧ b.2.2.1 129 = τ.1 129)
      (fun a b => a.1 = b.1 ∧ Ro N rr a.2 b.2 ∧ KC σ a.2 ∧ KR τ b.2) 64 (by omega) ?_ ?_ ?_
    · obtain ⟨⟨n, σ'⟩, ⟨n', τ'⟩, g1, g2, g3, g4⟩ := key
      dsimp only at g3 g4
      subst g3
      exact ⟨n, σ', τ', g1, g2, g4⟩
    · exact ⟨rfl, rfl, rfl, B, KC.r σ, KR.r τ, rfl⟩
    · rintro k ⟨n, x, σ'⟩ ⟨n', x', τ'⟩ hkr ⟨e1, e2, e3, B', C', R', g1⟩
      dsimp only at e1 e2 e3 B' C' R' g1
      subst e1 e2 e3
      left
      have h' := C'.mc.mpr h
      have hz' := C'.mc.mpr h2
      have hy := h2.1
      have l5 : fX2_live τ' (nI y) = some 1 := by
        rw [q_lb hy, R'.2.2.1, if_pos h3]
      obtain ⟨b, c1, c2⟩ := q_care B' h' hz' (by rw [g1]; exact h1) hkr
      obtain ⟨m, σ2, τ2, f1, f2, f3, f4, f5, f6, f7, f8⟩ := q_give B' hN h' hkr
      obtain ⟨v, v1, v2, v3, -⟩ := (B'.2.2.2 p c h').2.2.2.2.1 k hkr
      simp (disch := omega) only [fX1_spreadFrom_20, gX1_spreadFrom_20, fX1_spreadFrom_47, fX2_spreadFrom_4, gX2_spreadFrom_4, fX2_spreadFrom_57, fX2_spreadFrom_58, g1, h1, l5, q_10, c1, c2, f1, f2, v3, q_l2, q_l3, q_l4, q_l7, q_l8, q_l10, q_l17, q_l18, q_l20, q_l31, q_l40, q_l61, q_l64, q_l255, q_l256, q_leT, q_leF, q_ltT, q_ltF, q_n0, q_0le, q_cl, q_cl0, q_vpE, q_add, q_s1, q_mul, q_nle, q_nlt, false_or, or_false, not_false_eq_true, if_true, if_false, ↓reduceIte, Option.bind_some, Option.map_some]
      by_cases hv : v = 0
      · subst hv
        obtain ⟨s1, s2⟩ := f8 v3
        subst s1 s2
        rw [if_pos (show nI 0 ≤ (0 : Int32) by decide)]
        cases b
        · simp only [bI_F, ↓reduceIte]
          exact ⟨_, _, rfl, rfl, rfl, rfl, rfl, B', C', R', g1⟩
        · simp only [bI_T, q_10, ↓reduceIte]
          exact ⟨_, _, rfl, rfl, Int32.add_zero _, rfl, rfl, f3, C'.t f4, R', g1⟩
      · rw [if_neg (q_le0F (by omega) (by omega))]
        cases b
        · simp only [bI_F, ↓reduceIte]
          exact ⟨_, _, rfl, rfl, rfl, rfl, rfl, B', C', R', g1⟩
        · simp only [bI_T, q_10, ↓reduceIte]
          exact ⟨_, _, rfl, rfl, rfl, rfl, rfl, f3, C'.t f4, R'.t f5, f6.trans g1⟩
    · rintro ⟨n, x, σ'⟩ ⟨n', x', τ'⟩ ⟨e1, e2, e3, B', C', R', g1⟩
      dsimp only at e1 e2 e3 B' C' R' g1
      subst e1 e2 e3
      simp (disch := omega) only [fX1_spreadFrom_20, gX1_spreadFrom_20, fX2_spreadFrom_4, gX2_spreadFrom_4, q_l2, q_l3, q_l4, q_l7, q_l8, q_l10, q_l17, q_l18, q_l20, q_l31, q_l40, q_l61, q_l64, q_l255, q_l256, q_leT, q_leF, q_ltT, q_ltF, q_n0, q_0le, q_cl, q_cl0, q_vpE, q_add, q_s1, q_mul, q_nle, q_nlt, false_or, or_false, not_false_eq_true, if_true, if_false, ↓reduceIte, Option.bind_some, Option.map_some]
      exact ⟨_, _, rfl, rfl, rfl, B', C', R'⟩
theorem q_turn (B : Ro N rr σ τ) (hN : N < 2147483648) {p c : Nat} (h : Mc σ p c) : ∃ r4 r5 r6 r7 σ', fX2_stable τ (nI p) = some r4 ∧ fX2_mended r4.2 (nI p) (r4.2.1 131 p) = some r5 ∧ fX2_handed (sI r5.2 131 p (((r5.2.1 131 p) + 1) - ((r5.2.1 131 p) + 1) / 8 * 8)) (nI p) = some r6 ∧ fX2_spreadFrom r6.2 (nI p) = some r7 ∧ fX1_takeTurn σ c = some (r6.1 + r7.1, σ') ∧ Ro N rr σ' r7.2 ∧ KC σ σ' ∧ KR τ r7.2 := by
  have hk := q_mcK B.1 h
  obtain ⟨σ1, τ1, t, d, a1, a2, B1', C1, R1, -, -⟩ := q_stable B h
  obtain ⟨i, i1, i2, i3⟩ := (B1'.2.2.2 p c (C1.mc.mpr h)).2.1
  obtain ⟨σ2, τ2, q, b1, b2, B2', C2, R2, -, b4, b5⟩ := q_mend B1' (C1.mc.mpr h) i1
  obtain ⟨B3', C3, R3⟩ := q_wd B2' (C2.mc.mpr (C1.mc.mpr h)) (i := (i + 1) % 8) (Nat.mod_lt _ (by omega))
  obtain ⟨n, σ4, τ4, c1, c2, B4', C4, R4⟩ := q_handed B3' hN (C3.mc.mpr (C2.mc.mpr (C1.mc.mpr h)))
  obtain ⟨m, σ5, τ5, d1, d2, B5', C5, R5⟩ := q_spread B4' hN (C4.mc.mpr (C3.mc.mpr (C2.mc.mpr (C1.mc.mpr h))))
  have e1 : nI i + 1 - (nI i + 1) / 8 * 8 = nI ((i + 1) % 8) := by
    rw [q_s1, q_l8, q_rem (by omega) (by omega) (by omega)]
  refine ⟨_, _, (n, τ4), (m, τ5), σ5, a2, by rw [i3]; exact b2, ?_, d2, ?_, B5', (((C1.t C2).t C3).t C4).t C5, (((R1.t R2).t R3).t R4).t R5⟩
  · dsimp only
    rw [b5, i3, e1]; exact c2
  · simp only [fX1_takeTurn, a1, Option.bind_some, hk, ↓reduceIte, i2, b1, b4, e1, c1, d1]
def cnb (τ : kS) (p : Nat) : Nat := ((List.range p).filter (fun p => decide (τ.1 127 p = 1))).length
theorem cnb_0 (τ : kS) : cnb τ 0 = 0 := rfl
theorem cnb_S (τ : kS) (p : Nat) : cnb τ (p + 1) = cnb τ p + (if τ.1 127 p = 1 then 1 else 0) := by
  simp only [cnb, List.range_succ, List.filter_append, List.length_append]
  congr 1
  by_cases h : τ.1 127 p = 1
  · simp [h]
  · simp [h]
theorem cnb_256 (τ : kS) : cnb τ 256 = (lvl τ).length := rfl
theorem q_fr {f : Nat → Bool} {p : Nat} (hf : f p = true) : ∀ n, p < n → ((List.range n).filter f)[((List.range p).filter f).length]? = some p := by
  intro n
  induction n with
  | zero => intro h; omega
  | succ n ih =>
    intro h
    rw [List.range_succ, List.filter_append]
    by_cases e : p = n
    · subst e
      rw [List.getElem?_append_right (Nat.le_refl _), Nat.sub_self]
      simp [hf]
    · have := ih (by omega)
      obtain ⟨hl, -⟩ := List.getElem?_eq_some_iff.mp this
      rw [List.getElem?_append_left hl]
      exact this
theorem q_at {τ : kS} {p : Nat} (hp : p < 256) (h : τ.1 127 p = 1) : (lvl τ)[cnb τ p]? = some p := q_fr (f := fun p => decide (τ.1 127 p = 1)) (decide_eq_true h) 256 hp
theorem q_row (B : Bas rr σ τ) {p : Nat} (hp : p < 256) (h : τ.1 127 p = 1) : ∃ c, Mc σ p c ∧ σ.2.1 1 (cnb τ p) = some c ∧ cnb τ p < (lvl τ).length := by
  obtain ⟨-, -, ⟨n1, -⟩, -, -, ⟨ρ, p1, -, p3⟩, -⟩ := B
  have e := q_at hp h
  obtain ⟨hl, -⟩ := List.getElem?_eq_some_iff.mp e
  exact ⟨ρ (cnb τ p), ⟨hp, p3 _ _ e⟩, (p1 _ (by omega)).1, hl⟩
theorem cnb_le (τ : kS) {p : Nat} (hp : p ≤ 256) : cnb τ p ≤ (lvl τ).length := by
  have key : ∀ k q, q + k = 256 → cnb τ q ≤ (lvl τ).length := by
    intro k
    induction k with
    | zero => intro q h; rw [← cnb_256, show q = 256 by omega]; exact Nat.le_refl _
    | succ k ih => intro q h; have := ih (q + 1) (by omega); rw [cnb_S] at this; omega
  exact key (256 - p) p (by omega)
theorem cnb_C {τ τ' : kS} (h : τ'.1 127 = τ.1 127) (p : Nat) : cnb τ' p = cnb τ p := by simp only [cnb, h]
theorem q_round (B : Ro N rr σ τ) (hN : N < 2147483648) (x1 x2 x3 : Int32) : ∃ s σ' τ', kit (fX1_rounds_49 x1 x3) 300 (x2, 0, σ) = some (.inl (s, x3 + 1, σ')) ∧ kit (fX2_rounds_41 x1 x3) 300 (x2, 0, τ) = some (.inl (s, x3 + 1, τ')) ∧ Ro N rr σ' τ' ∧ KC σ σ' ∧ KR τ τ' := by
  have n1 := B.1.2.2.1.1
  have key := q_inv (body := fX2_rounds_41 x1 x3) (a := (x2, 0, τ))
    (fun p a => a.2.1 = nI p ∧ ∃ σ', kit (fX1_rounds_49 x1 x3) 300 (x2, 0, σ) = kit (fX1_rounds_49 x1 x3) (300 - cnb τ p) (a.1, nI (cnb τ p), σ') ∧ Ro N rr σ' a.2.2 ∧ KC σ σ' ∧ KR τ a.2.2)
    (fun b => ∃ s σ' τ', b = .inl (s, x3 + 1, τ') ∧ kit (fX1_rounds_49 x1 x3) 300 (x2, 0, σ) = some (.inl (s, x3 + 1, σ')) ∧ Ro N rr σ' τ' ∧ KC σ σ' ∧ KR τ τ') 256 (by omega) ?_ ?_ ?_
  · obtain ⟨b, g1, s, σ', τ', rfl, g2⟩ := key
    exact ⟨s, σ', τ', g2.1, g1, g2.2⟩
  · exact ⟨rfl, σ, rfl, B, KC.r σ, KR.r τ⟩
  · rintro p ⟨s, y, τ'⟩ hp ⟨e1, σ', e2, B', C', R'⟩
    dsimp only at e1 e2 B' R'
    subst e1
    left
    have hle := cnb_le τ (p := p) (by omega)
    have hS := cnb_S τ p
    have e127 := R'.2.2.1
    simp (disch := omega) only [fX2_rounds_41, gX2_rounds_41, fX2_rounds_120, q_l2, q_l3, q_l4, q_l7, q_l8, q_l10, q_l17, q_l18, q_l20, q_l31, q_l40, q_l61, q_l64, q_l255, q_l256, q_leT, q_leF, q_ltT, q_ltF, q_n0, q_0le, q_cl, q_cl0, q_vpE, q_add, q_s1, q_mul, q_nle, q_nlt, false_or, or_false, not_false_eq_true, if_true, if_false, ↓reduceIte, Option.bind_some, Option.map_some]
    by_cases hl : τ'.1 127 p = 1
    · have hl0 : τ.1 127 p = 1 := by rw [← e127]; exact hl
      rw [if_pos hl]
      obtain ⟨c, hm, hrow, hlt⟩ := q_row B'.1 hp hl
      rw [cnb_C e127] at hrow hlt
      rw [q_lvlC e127] at hlt
      obtain ⟨r4, r5, r6, r7, σ2, a1, a2, a3, a4, a5, B2', C2, R2⟩ := q_turn B' hN hm
      have n9 := B'.1.2.2.1.2.1
      rw [q_lvlC e127] at n9
      rw [if_pos hl0] at hS
      simp only [a1, Option.bind_some, a2]
      simp only [q_l8] at a3 ⊢
      simp only [a3, a4, Option.bind_some]
      refine ⟨_, rfl, rfl, σ2, ?_, B2', C'.t C2, R'.t R2⟩
      rw [e2, hS, show 300 - cnb τ p = (300 - (cnb τ p + 1)) + 1 by omega]
      apply q_kit
      simp (disch := omega) only [fX1_rounds_49, gX1_rounds_49, n9, hrow, a5, Int32.add_assoc, q_l2, q_l3, q_l4, q_l7, q_l8, q_l10, q_l17, q_l18, q_l20, q_l31, q_l40, q_l61, q_l64, q_l255, q_l256, q_leT, q_leF, q_ltT, q_ltF, q_n0, q_0le, q_cl, q_cl0, q_vpE, q_add, q_s1, q_mul, q_nle, q_nlt, false_or, or_false, not_false_eq_true, if_true, if_false, ↓reduceIte, Option.bind_some, Option.map_some]
    · have hl0 : ¬ τ.1 127 p = 1 := by rw [← e127]; exact hl
      rw [if_neg hl]
      rw [if_neg hl0, Nat.add_zero] at hS
      exact ⟨_, rfl, rfl, σ', by rw [hS]; exact e2, B', C', R'⟩
  · rintro ⟨s, y, τ'⟩ ⟨e1, σ', e2, B', C', R'⟩
    dsimp only at e1 e2 B' R'
    subst e1
    have n9 := B'.1.2.2.1.2.1
    rw [q_lvlC R'.2.2.1] at n9
    simp (disch := omega) only [fX2_rounds_41, gX2_rounds_41, q_l2, q_l3, q_l4, q_l7, q_l8, q_l10, q_l17, q_l18, q_l20, q_l31, q_l40, q_l61, q_l64, q_l255, q_l256, q_leT, q_leF, q_ltT, q_ltF, q_n0, q_0le, q_cl, q_cl0, q_vpE, q_add, q_s1, q_mul, q_nle, q_nlt, false_or, or_false, not_false_eq_true, if_true, if_false, ↓reduceIte, Option.bind_some, Option.map_some]
    refine ⟨_, rfl, s, σ', τ', rfl, ?_, B', C', R'⟩
    rw [e2, cnb_256, show 300 - (lvl τ).length = (299 - (lvl τ).length) + 1 by omega]
    apply q_kitE
    simp (disch := omega) only [fX1_rounds_49, gX1_rounds_49, n9, q_l2, q_l3, q_l4, q_l7, q_l8, q_l10, q_l17, q_l18, q_l20, q_l31, q_l40, q_l61, q_l64, q_l255, q_l256, q_leT, q_leF, q_ltT, q_ltF, q_n0, q_0le, q_cl, q_cl0, q_vpE, q_add, q_s1, q_mul, q_nle, q_nlt, false_or, or_false, not_false_eq_true, if_true, if_false, ↓reduceIte, Option.bind_some, Option.map_some]
end
