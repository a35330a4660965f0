section
variable {N rr : Nat} {σ τ : kS}
theorem S_get (hN : N < 2147483648) (x y : Int32) : Sm N N cN (fun σ => fX1_get σ x y) (fun τ => fX2_get τ x y) := by
  intro σ τ R
  simp only [fX1_get, fX2_get, fX2_get_20, fX2_get_21]
  have bad1 : ∃ res σ' v τ', some ((Sum.inl "java/util/NoSuchElementException" : String ⊕ Int32), σ) = some (res, σ') ∧ some ((0 : Int32), sI τ 126 0 1) = some (v, τ') ∧ Rel N σ' τ' ∧ FC σ σ' ∧ FR τ τ' ∧ ((∃ E, res = .inl E ∧ cN E (τ'.1 126 0)) ∨ (res = .inr v ∧ τ'.1 126 0 = 0)) :=
    ⟨_, _, _, _, rfl, rfl, q_go R 1, FC.r σ, FR_go τ 1, Or.inl ⟨_, rfl, rfl, sI_e _ _ _ _⟩⟩
  rcases q_find R x with ⟨h1, h2⟩ | ⟨r0, p, c, rfl, B, hm, h1, h2⟩
  · simp only [h1, h2, Option.bind_some, ksm_l, go_1, ↓reduceIte]
    exact bad1
  · simp only [h1, h2, Option.bind_some, ksm_r, go_1, q_10, ↓reduceIte]
    rcases q_key y with ⟨g1, g2⟩ | ⟨i, hi, rfl, g1, g2⟩
    · simp only [g1, g2, Option.bind_some, ksm_l, ↓reduceIte]
      exact bad1
    · simp only [g1, g2, Option.bind_some, ksm_r, q_10, ↓reduceIte, go_0, q_kp1 hi, q_kp2 hi]
      obtain ⟨o, d, σ1, τ1, t, a1, a2, hm', B', hT, hU, -, -⟩ := q_look (q_goO B 0) hm (kpt_lt i)
      have hd := q_mcK B.1 hm'
      have ho := hm'.1
      have hm1 := hT.k.mc.mpr hm'
      have hr := q_rr B'
      have r3 := B'.1.1.2.2.1
      have r4 := B'.1.1.2.2.2
      obtain ⟨v, v1, v2, v3, v4, v5⟩ := (B'.2.2.2 o d hm1).2.2.2.2.1 i hi
      simp (disch := omega) only [a1, a2, Option.bind_some, hd, v2, v3, q_l2, q_l3, q_l4, q_l7, q_l8, q_l10, q_l17, q_l18, q_l20, q_l31, q_l40, q_l61, q_l64, q_l255, q_l256, q_leT, q_leF, q_ltT, q_ltF, q_n0, q_0le, q_cl, q_cl0, q_vpE, q_add, q_s1, q_mul, q_nle, q_nlt, false_or, or_false, not_false_eq_true, if_true, if_false, ↓reduceIte, Option.bind_some, Option.map_some]
      have fin : ∀ w, w = w → ∃ res σ' v τ', some ((Sum.inr w : String ⊕ Int32), σ1) = some (res, σ') ∧ some (w, τ1) = some (v, τ') ∧ Rel N σ' τ' ∧ FC σ σ' ∧ FR τ τ' ∧ ((∃ E, res = .inl E ∧ cN E (τ'.1 126 0)) ∨ (res = .inr v ∧ τ'.1 126 0 = 0)) :=
        fun w _ => ⟨_, _, _, _, rfl, rfl, ⟨r0, Or.inl B'⟩, hT.k.f, (FR_go τ 0).t hU.k.f, Or.inr ⟨rfl, q_th hU.k⟩⟩
      by_cases hv : v = 0
      · subst hv
        rw [if_pos (show nI 0 ≤ (0 : Int32) by decide), if_pos (show nI 0 ≤ (0 : Int32) by decide)]
        have key := q_two (b1 := fX1_highestInList_5 d (nI i) σ1) (b2 := fX2_get_69 (nI i) (nI o) 0 τ1) (a := (d, 0)) (c := (nI (64 * o + i), 0))
          (fun k a b => a.2 = nI k ∧ b.2 = nI k ∧ ∃ q, Mc σ1 q a.1 ∧ b.1 = nI (64 * q + i))
          (fun a b => ∃ q, Mc σ1 q a ∧ fX2_get_141 (nI (64 * q + i)) τ1 = some b) r0 (by omega) ?_ ?_ ?_
        · obtain ⟨e, ⟨w, τ2⟩, k1, k2, q, hq, k3⟩ := key
          have hql := hq.1
          obtain ⟨u, u1, u2, u3, u4, u5⟩ := (B'.2.2.2 q e hq).2.2.2.2.1 i hi
          have k4 : kit (fX2_get_69 (nI i) (nI o) 0 τ1) 300 (nI (64 * o + i), 0) = some (σ1.1 (e + 1 + 4) i, τ1) := by
            rw [k2, ← k3]
            simp (disch := omega) only [fX2_get_141, u3, q_l2, q_l3, q_l4, q_l7, q_l8, q_l10, q_l17, q_l18, q_l20, q_l31, q_l40, q_l61, q_l64, q_l255, q_l256, q_leT, q_leF, q_ltT, q_ltF, q_n0, q_0le, q_cl, q_cl0, q_vpE, q_add, q_s1, q_mul, q_nle, q_nlt, false_or, or_false, not_false_eq_true, if_true, if_false, ↓reduceIte, Option.bind_some, Option.map_some]
            by_cases hu : u = 0
            · subst hu
              rw [if_pos (show nI 0 ≤ (0 : Int32) by decide), (u4 rfl).2]
            · rw [if_neg (q_le0F (by omega) (by omega)), (u5 (by omega)).2]
          simp only [fX1_highestInList, k1, Option.bind_some, fX2_get_64, k4]
          simp (disch := omega) only [fX1_get_43, q_mcK B'.1 hq, q_l2, q_l3, q_l4, q_l7, q_l8, q_l10, q_l17, q_l18, q_l20, q_l31, q_l40, q_l61, q_l64, q_l255, q_l256, q_leT, q_leF, q_ltT, q_ltF, q_n0, q_0le, q_cl, q_cl0, q_vpE, q_add, q_s1, q_mul, q_nle, q_nlt, false_or, or_false, not_false_eq_true, if_true, if_false, ↓reduceIte, Option.bind_some, Option.map_some]
          exact fin _ rfl
        · exact ⟨rfl, rfl, o, hm1, rfl⟩
        · rintro k ⟨c3, y1⟩ ⟨z, y2⟩ hk ⟨e1, e2, q, hq, e3⟩
          dsimp only at e1 e2 hq e3
          subst e1 e2 e3
          have hql := hq.1
          left
          simp (disch := omega) only [fX1_highestInList_5, gX1_highestInList_5, fX1_highestInList_45, fX2_get_69, gX2_get_69, fX2_get_131, fX2_get_133, r3, r4, hd, q_00, q_l2, q_l3, q_l4, q_l7, q_l8, q_l10, q_l17, q_l18, q_l20, q_l31, q_l40, q_l61, q_l64, q_l255, q_l256, q_leT, q_leF, q_ltT, q_ltF, q_n0, q_0le, q_cl, q_cl0, q_vpE, q_add, q_s1, q_mul, q_nle, q_nlt, false_or, or_false, not_false_eq_true, if_true, if_false, ↓reduceIte, Option.bind_some, Option.map_some]
          rw [(B'.2.2.2 o d hm1).2.2.1 k hk]
          rcases q_live B'.1 (τ1.1 128 (4 * o + k)) with ⟨l1, l2, -⟩ | ⟨m, e, l1, l2, l3, l4, l5⟩
          · simp only [l1, l2, Option.bind_some, kmn_n, ↓reduceIte]
            exact ⟨_, _, rfl, rfl, rfl, rfl, q, hq, rfl⟩
          · have hml := l2.1
            obtain ⟨b, f1, f2, -, -⟩ := q_hi B' hN l2 hq hi
            simp only [l4, l5, Option.bind_some, kmn_s, q_10, ↓reduceIte, f1]
            rw [l1]
            simp only [q_mul, q_add, f2, Option.bind_some]
            cases b
            · simp only [bI_F, ↓reduceIte]
              exact ⟨_, _, rfl, rfl, rfl, rfl, q, hq, rfl⟩
            · simp only [bI_T, q_10, ↓reduceIte]
              exact ⟨_, _, rfl, rfl, rfl, rfl, m, l2, rfl⟩
        · rintro ⟨c3, y1⟩ ⟨z, y2⟩ ⟨e1, e2, q, hq, e3⟩
          dsimp only at e1 e2 hq e3
          subst e1 e2 e3
          have hql := hq.1
          simp (disch := omega) only [fX1_highestInList_5, gX1_highestInList_5, fX2_get_69, gX2_get_69, r3, r4, q_l2, q_l3, q_l4, q_l7, q_l8, q_l10, q_l17, q_l18, q_l20, q_l31, q_l40, q_l61, q_l64, q_l255, q_l256, q_leT, q_leF, q_ltT, q_ltF, q_n0, q_0le, q_cl, q_cl0, q_vpE, q_add, q_s1, q_mul, q_nle, q_nlt, false_or, or_false, not_false_eq_true, if_true, if_false, ↓reduceIte, Option.bind_some, Option.map_some]
          have k3 : ∃ b, fX2_get_141 (nI (64 * q + i)) τ1 = some b := by
            simp (disch := omega) only [fX2_get_141, q_l2, q_l3, q_l4, q_l7, q_l8, q_l10, q_l17, q_l18, q_l20, q_l31, q_l40, q_l61, q_l64, q_l255, q_l256, q_leT, q_leF, q_ltT, q_ltF, q_n0, q_0le, q_cl, q_cl0, q_vpE, q_add, q_s1, q_mul, q_nle, q_nlt, false_or, or_false, not_false_eq_true, if_true, if_false, ↓reduceIte, Option.bind_some, Option.map_some]
            split <;> exact ⟨_, rfl⟩
          obtain ⟨b, k3⟩ := k3
          rw [k3]
          exact ⟨_, _, rfl, rfl, q, hq, k3⟩
      · rw [if_neg (q_le0F (by omega) (by omega)), if_neg (q_le0F (by omega) (by omega))]
        have k4 : fX2_get_64 (nI i) (nI o) (nI (64 * o + i)) 1 τ1 = some (σ1.1 (d + 1 + 4) i, τ1) := by
          refine q_kitE (n := 299) ?_
          simp (disch := omega) only [fX2_get_69, gX2_get_69, fX2_get_141, r4, v3, q_10, q_l2, q_l3, q_l4, q_l7, q_l8, q_l10, q_l17, q_l18, q_l20, q_l31, q_l40, q_l61, q_l64, q_l255, q_l256, q_leT, q_leF, q_ltT, q_ltF, q_n0, q_0le, q_cl, q_cl0, q_vpE, q_add, q_s1, q_mul, q_nle, q_nlt, false_or, or_false, not_false_eq_true, if_true, if_false, ↓reduceIte, Option.bind_some, Option.map_some]
          rw [if_neg (fun g => absurd (Int32.le_iff_toInt_le.mp g) (by rw [nI_toInt (by omega), show (0 : Int32).toInt = 0 from rfl]; omega)), if_neg (q_le0F (by omega) (by omega)), (v5 (by omega)).2]
          rfl
        rw [k4]
        simp (disch := omega) only [fX1_get_43, hd, q_l2, q_l3, q_l4, q_l7, q_l8, q_l10, q_l17, q_l18, q_l20, q_l31, q_l40, q_l61, q_l64, q_l255, q_l256, q_leT, q_leF, q_ltT, q_ltF, q_n0, q_0le, q_cl, q_cl0, q_vpE, q_add, q_s1, q_mul, q_nle, q_nlt, false_or, or_false, not_false_eq_true, if_true, if_false, ↓reduceIte, Option.bind_some, Option.map_some]
        exact fin _ rfl
theorem S_held (hN : N < 2147483648) (x y z : Int32) : Sm N N cNA (fun σ => (fX1_held σ x y z).map fun r => (r, σ)) (fun τ => fX2_held τ x y z) := by
  intro σ τ R
  simp only [fX1_held, fX2_held, fX2_held_20, fX2_held_21, fX2_held_34, fX2_held_35]
  have bad1 : ∃ res σ' v τ', (some (Sum.inl "java/util/NoSuchElementException" : String ⊕ Int32)).map (fun r => (r, σ)) = some (res, σ') ∧ some ((0 : Int32), sI τ 126 0 1) = some (v, τ') ∧ Rel N σ' τ' ∧ FC σ σ' ∧ FR τ τ' ∧ ((∃ E, res = .inl E ∧ cNA E (τ'.1 126 0)) ∨ (res = .inr v ∧ τ'.1 126 0 = 0)) :=
    ⟨_, _, _, _, rfl, rfl, q_go R 1, FC.r σ, FR_go τ 1, Or.inl ⟨_, rfl, Or.inl ⟨rfl, sI_e _ _ _ _⟩⟩⟩
  rcases q_find R x with ⟨h1, h2⟩ | ⟨r0, p, c, rfl, B, hm, h1, h2⟩
  · simp only [h1, h2, Option.bind_some, ksm_l, go_1, ↓reduceIte, ite_self]
    exact bad1
  · simp only [h1, h2, Option.bind_some, ksm_r, go_1, q_10, ↓reduceIte, ite_self]
    rcases q_key y with ⟨g1, g2⟩ | ⟨i, hi, rfl, g1, g2⟩
    · simp only [g1, g2, Option.bind_some, ksm_l, ↓reduceIte]
      exact bad1
    · simp only [g1, g2, Option.bind_some, ksm_r, q_10, ↓reduceIte]
      have hp := hm.1
      have hd := q_mcK B.1 hm
      have B' := q_goO B 0
      obtain ⟨v, v1, v2, v3, v4, v5⟩ := (B'.2.2.2 p c hm).2.2.2.2.1 i hi
      have bad2 : ∃ res σ' v τ', (some (Sum.inl "java/lang/IllegalArgumentException" : String ⊕ Int32)).map (fun r => (r, σ)) = some (res, σ') ∧ some ((0 : Int32), sI τ 126 0 2) = some (v, τ') ∧ Rel N σ' τ' ∧ FC σ σ' ∧ FR τ τ' ∧ ((∃ E, res = .inl E ∧ cNA E (τ'.1 126 0)) ∨ (res = .inr v ∧ τ'.1 126 0 = 0)) :=
        ⟨_, _, _, _, rfl, rfl, q_go R 2, FC.r σ, FR_go τ 2, Or.inl ⟨_, rfl, Or.inr ⟨rfl, sI_e _ _ _ _⟩⟩⟩
      have fin : ∀ w w', w = w' → ∃ res σ' v τ', (some (Sum.inr w : String ⊕ Int32)).map (fun r => (r, σ)) = some (res, σ') ∧ some (w', sI τ 126 0 0) = some (v, τ') ∧ Rel N σ' τ' ∧ FC σ σ' ∧ FR τ τ' ∧ ((∃ E, res = .inl E ∧ cNA E (τ'.1 126 0)) ∨ (res = .inr v ∧ τ'.1 126 0 = 0)) :=
        fun w w' e => ⟨_, _, _, _, rfl, rfl, q_go R 0, FC.r σ, FR_go τ 0, Or.inr ⟨by rw [e], sI_e _ _ _ _⟩⟩
      by_cases z0 : z = 0
      · subst z0
        simp (disch := omega) only [show ((0 : Int32) < 0) = False from eq_false (by decide), show ((2 : Int32) < 0) = False from eq_false (by decide), q_00, ↓reduceIte, go_0, Option.bind_some, q_10, hd, q_mul, q_add, q_vpE, q_cl, q_l64]
        exact fin _ _ (v2.trans v3.symm)
      · by_cases z1 : z = 1
        · subst z1
          simp (disch := omega) only [show ((1 : Int32) < 0) = False from eq_false (by decide), show ((2 : Int32) < 1) = False from eq_false (by decide), q_00, ↓reduceIte, go_0, Option.bind_some, q_10, hd, q_mul, q_add, q_vpE, q_cl, q_l64]
          rw [v3]
          by_cases hv : v = 0
          · subst hv
            rw [if_pos (show nI 0 = (0 : Int32) from rfl)]
            exact fin _ _ (v4 rfl).1
          · rw [if_neg (q_ne0 (by omega) (by omega))]
            exact fin _ _ (v5 (by omega)).1
        · by_cases z2 : z = 2
          · subst z2
            simp (disch := omega) only [show ((2 : Int32) < 0) = False from eq_false (by decide), show ((2 : Int32) < 2) = False from eq_false (by decide), show ((2 : Int32) = 1) = False from eq_false (by decide), show ((2 : Int32) = 0) = False from eq_false (by decide), q_00, ↓reduceIte, go_0, Option.bind_some, q_10, hd, q_mul, q_add, q_vpE, q_cl, q_l64]
            rw [v3]
            by_cases hv : v = 0
            · subst hv
              rw [if_pos (show nI 0 = (0 : Int32) from rfl)]
              exact fin _ _ (v4 rfl).2
            · rw [if_neg (q_ne0 (by omega) (by omega))]
              exact fin _ _ (v5 (by omega)).2
          · simp only [z0, z1, z2, ↓reduceIte]
            by_cases h0 : z < 0
            · simp only [h0, ↓reduceIte, go_2, Option.bind_some]; exact bad2
            · have : 2 < z := by
                rcases pk_ix z (n := 3) (by decide) with g | g | ⟨j, hj, rfl⟩
                · exact absurd g h0
                · have e1 := Int32.le_iff_toInt_le.mp g
                  rw [nI_toInt (by decide)] at e1
                  exact Int32.lt_iff_toInt_lt.mpr (by rw [show (2 : Int32).toInt = 2 from rfl]; omega)
                · have : j = 0 ∨ j = 1 ∨ j = 2 := by omega
                  rcases this with rfl | rfl | rfl
                  · exact absurd rfl z0
                  · exact absurd rfl z1
                  · exact absurd rfl z2
              simp only [h0, this, ↓reduceIte, go_2, Option.bind_some]; exact bad2
theorem S_known (x y : Int32) : Sm N N cN (fun σ => (fX1_known σ x y).map fun r => (r, σ)) (fun τ => fX2_known τ x y) := by
  intro σ τ R
  simp only [fX1_known, fX1_known_35, fX1_known_57, fX2_known, fX2_known_22, fX2_known_34, fX2_known_38, fX2_known_39]
  have bad1 : ∃ res σ' v τ', (some (Sum.inl "java/util/NoSuchElementException" : String ⊕ Int32)).map (fun r => (r, σ)) = some (res, σ') ∧ some ((0 : Int32), sI τ 126 0 1) = some (v, τ') ∧ Rel N σ' τ' ∧ FC σ σ' ∧ FR τ τ' ∧ ((∃ E, res = .inl E ∧ cN E (τ'.1 126 0)) ∨ (res = .inr v ∧ τ'.1 126 0 = 0)) :=
    ⟨_, _, _, _, rfl, rfl, q_go R 1, FC.r σ, FR_go τ 1, Or.inl ⟨_, rfl, rfl, sI_e _ _ _ _⟩⟩
  have fin : ∀ w w', w = w' → ∃ res σ' v τ', (some (Sum.inr w : String ⊕ Int32)).map (fun r => (r, σ)) = some (res, σ') ∧ some (w', sI τ 126 0 0) = some (v, τ') ∧ Rel N σ' τ' ∧ FC σ σ' ∧ FR τ τ' ∧ ((∃ E, res = .inl E ∧ cN E (τ'.1 126 0)) ∨ (res = .inr v ∧ τ'.1 126 0 = 0)) :=
    fun w w' e => ⟨_, _, _, _, rfl, rfl, q_go R 0, FC.r σ, FR_go τ 0, Or.inr ⟨by rw [e], sI_e _ _ _ _⟩⟩
  rcases q_find R x with ⟨h1, h2⟩ | ⟨r0, p, c, rfl, B, hm, h1, h2⟩
  · simp only [h1, h2, Option.bind_some, ksm_l, go_1, ↓reduceIte, ite_self]
    exact bad1
  · simp only [h1, h2, Option.bind_some, ksm_r, go_1, go_0, q_10, ↓reduceIte, ite_self]
    have hp := hm.1
    have hd := q_mcK B.1 hm
    have hr := q_rr B
    have r3 := B.1.1.2.2.1
    have r4 := B.1.1.2.2.2
    obtain ⟨d1, -, d3, d4, -⟩ := B.2.2.2 p c hm
    by_cases ym : y = -1
    · subst ym
      have e1 : (-1 : Int32) < nI r0 := Int32.lt_iff_toInt_lt.mpr (by rw [nI_toInt (by omega), show (-1 : Int32).toInt = -1 from rfl]; omega)
      simp (disch := omega) only [↓reduceIte, hd, show ((-1 : Int32) < -1) = False from eq_false (by decide), r4, e1, q_vpE, q_cl]
      refine fin _ _ ?_
      rw [sI_n (by omega)]; exact d1
    · simp only [ym, ↓reduceIte]
      rcases pk_ix y (n := 18) (by decide) with g | g | ⟨j, hj, rfl⟩
      · have e2 : y < -1 := by
          refine Int32.lt_iff_toInt_lt.mpr ?_
          have a := Int32.lt_iff_toInt_lt.mp g
          have b : y.toInt ≠ -1 := fun e => ym (Int32.toInt_inj.mp e)
          rw [show (0 : Int32).toInt = 0 from rfl] at a
          rw [show (-1 : Int32).toInt = -1 from rfl]
          omega
        have e3 : y < 10 := Int32.lt_iff_toInt_lt.mpr (by
          have a := Int32.lt_iff_toInt_lt.mp g
          rw [show (0 : Int32).toInt = 0 from rfl] at a
          rw [show (10 : Int32).toInt = 10 from rfl]; omega)
        simp only [g, e2, e3, ↓reduceIte]
        exact bad1
      · have a := Int32.le_iff_toInt_le.mp g
        rw [nI_toInt (by decide)] at a
        have e1 : ¬ y < 0 := fun h => absurd (Int32.lt_iff_toInt_lt.mp h) (by rw [show (0 : Int32).toInt = 0 from rfl]; omega)
        have e2 : ¬ y < -1 := fun h => absurd (Int32.lt_iff_toInt_lt.mp h) (by rw [show (-1 : Int32).toInt = -1 from rfl]; omega)
        have e3 : ¬ y < nI r0 := fun h => absurd (Int32.lt_iff_toInt_lt.mp h) (by rw [nI_toInt (by omega)]; omega)
        have e4 : nI r0 ≤ y := Int32.not_lt.mp e3
        have e5 : ¬ y < 10 := fun h => absurd (Int32.lt_iff_toInt_lt.mp h) (by rw [show (10 : Int32).toInt = 10 from rfl]; omega)
        simp only [e1, e2, e3, e4, e5, r3, r4, q_l18, g, ↓reduceIte]
        exact bad1
      · have e2 : ¬ nI j < -1 := q_ltm1 (by omega)
        simp only [e2, r3, r4, ↓reduceIte]
        by_cases j1 : j < r0
        · simp (disch := omega) only [hd, q_l2, q_l3, q_l4, q_l7, q_l8, q_l10, q_l17, q_l18, q_l20, q_l31, q_l40, q_l61, q_l64, q_l255, q_l256, q_leT, q_leF, q_ltT, q_ltF, q_n0, q_0le, q_cl, q_cl0, q_vpE, q_add, q_s1, q_mul, q_nle, q_nlt, false_or, or_false, not_false_eq_true, if_true, if_false, ↓reduceIte, Option.bind_some, Option.map_some]
          refine fin _ _ ?_
          rw [sI_n (by omega)]; exact d3 j j1
        · by_cases j2 : j < 10
          · simp (disch := omega) only [hd, q_l2, q_l3, q_l4, q_l7, q_l8, q_l10, q_l17, q_l18, q_l20, q_l31, q_l40, q_l61, q_l64, q_l255, q_l256, q_leT, q_leF, q_ltT, q_ltF, q_n0, q_0le, q_cl, q_cl0, q_vpE, q_add, q_s1, q_mul, q_nle, q_nlt, false_or, or_false, not_false_eq_true, if_true, if_false, ↓reduceIte, Option.bind_some, Option.map_some]
            exact bad1
          · simp (disch := omega) only [hd, q_sub, q_l2, q_l3, q_l4, q_l7, q_l8, q_l10, q_l17, q_l18, q_l20, q_l31, q_l40, q_l61, q_l64, q_l255, q_l256, q_leT, q_leF, q_ltT, q_ltF, q_n0, q_0le, q_cl, q_cl0, q_vpE, q_add, q_s1, q_mul, q_nle, q_nlt, false_or, or_false, not_false_eq_true, if_true, if_false, ↓reduceIte, Option.bind_some, Option.map_some]
            refine fin _ _ ?_
            rw [sI_n (by omega), d4 (j - 10) (by omega), show 8 * p + j - 10 = 8 * p + (j - 10) by omega]
theorem S_depth (x : Int32) : Sm N N cAS (fun σ => fX1_depth σ x) (fun τ => fX2_depth τ x) := by
  intro σ τ R
  have hb : ∃ r0, Bas r0 σ τ := by
    obtain ⟨r0, B | B⟩ := R
    · exact ⟨r0, B.1⟩
    · exact ⟨r0, B.1⟩
  obtain ⟨r0, B⟩ := hb
  have hmany := q_many B.2.2.1.1
  have n1 := B.2.2.1.1
  simp only [fX1_depth, fX1_depth_10, fX2_depth, fX2_depth_15, fX2_depth_16, fX2_depth_34, fX2_depth_35, hmany, Option.bind_some, go_1, ↓reduceIte, ite_self]
  have bad1 : ∃ res σ' v τ', some ((Sum.inl "java/lang/IllegalArgumentException" : String ⊕ Int32), σ) = some (res, σ') ∧ some ((0 : Int32), sI τ 126 0 1) = some (v, τ') ∧ Rel N σ' τ' ∧ FC σ σ' ∧ FR τ τ' ∧ ((∃ E, res = .inl E ∧ cAS E (τ'.1 126 0)) ∨ (res = .inr v ∧ τ'.1 126 0 = 0)) :=
    ⟨_, _, _, _, rfl, rfl, q_go R 1, FC.r σ, FR_go τ 1, Or.inl ⟨_, rfl, Or.inl ⟨rfl, sI_e _ _ _ _⟩⟩⟩
  have bad2 : ∃ res σ' v τ', some ((Sum.inl "java/lang/IllegalStateException" : String ⊕ Int32), σ) = some (res, σ') ∧ some ((0 : Int32), sI τ 126 0 2) = some (v, τ') ∧ Rel N σ' τ' ∧ FC σ σ' ∧ FR τ τ' ∧ ((∃ E, res = .inl E ∧ cAS E (τ'.1 126 0)) ∨ (res = .inr v ∧ τ'.1 126 0 = 0)) :=
    ⟨_, _, _, _, rfl, rfl, q_go R 2, FC.r σ, FR_go τ 2, Or.inl ⟨_, rfl, Or.inr ⟨rfl, sI_e _ _ _ _⟩⟩⟩
  by_cases h0 : x < 2
  · simp only [h0, ↓reduceIte]; exact bad1
  · simp only [h0, ↓reduceIte]
    by_cases h4 : 4 < x
    · have : ¬ x ≤ 4 := fun g => absurd (Int32.lt_iff_toInt_lt.mp h4) (by have := Int32.le_iff_toInt_le.mp g; omega)
      simp only [h4, this, ↓reduceIte]; exact bad1
    · have h5 : x ≤ 4 := Int32.not_lt.mp h4
      simp only [h4, h5, ↓reduceIte, go_2, go_0, q_10, Option.bind_some]
      have hx : ∃ r', 2 ≤ r' ∧ r' ≤ 4 ∧ x = nI r' := by
        rcases pk_ix x (n := 5) (by decide) with g | g | ⟨j, hj, rfl⟩
        · exact absurd (Int32.lt_iff_toInt_lt.mpr (by have := Int32.lt_iff_toInt_lt.mp g; rw [show (0 : Int32).toInt = 0 from rfl] at this; rw [show (2 : Int32).toInt = 2 from rfl]; omega)) h0
        · have e1 := Int32.le_iff_toInt_le.mp g
          have e2 := Int32.le_iff_toInt_le.mp h5
          rw [nI_toInt (by decide)] at e1
          rw [show (4 : Int32).toInt = 4 from rfl] at e2
          omega
        · refine ⟨j, ?_, by omega, rfl⟩
          rcases Nat.lt_or_ge j 2 with g | g
          · exact absurd (nI_lt (b := 2) g (by decide)) h0
          · exact g
      obtain ⟨r', x1, x2, rfl⟩ := hx
      obtain ⟨r1, B1' | B1'⟩ := R
      · have o := B1'.2.1
        have nn := B1'.2.2.1
        have n9 := B.2.2.1.2.1
        simp (disch := omega) only [o, q_10, ↓reduceIte, n9, q_le0F]
        exact bad2
      · have o := B1'.2.1
        simp only [o, q_00, ↓reduceIte]
        have n9 := B.2.2.1.2.1
        rw [n9]
        by_cases hz : (lvl τ).length = 0
        · rw [hz]
          simp only [show (nI 0 ≤ (0 : Int32)) = True from eq_true (by decide), show (nI 0 = 0) = True from eq_true rfl, ↓reduceIte]
          refine ⟨_, _, _, _, rfl, rfl, ⟨r', Or.inr ?_⟩, fun a ha => funext fun j => sI_n (by omega), ⟨fun a ha => funext fun j => ?_, rfl⟩, Or.inr ⟨?_, ?_⟩⟩
          · obtain ⟨⟨⟨-, -, r3, r4⟩, b2, ⟨z1, z2, z3⟩, b4, b5, ⟨ρ, p1, p2, p3⟩, ⟨h, g1, g2, g3, g4⟩, b8⟩, oo, E⟩ := B1'
            have n2 : ∀ a j, (a ≠ 126 ∨ (j ≠ 0 ∧ j ≠ 1)) → (sI (sI τ 126 0 0) 126 1 (nI r')).1 a j = τ.1 a j := fun a j g => by rw [sI_n (by omega), sI_n (by omega)]
            have e127 : (sI (sI τ 126 0 0) 126 1 (nI r')).1 127 = τ.1 127 := funext fun j => n2 _ _ (by omega)
            refine ⟨⟨⟨x1, x2, sI_e _ _ _ _, sI_e _ _ _ _⟩, ?_, ⟨?_, ?_, ?_⟩, ?_, ?_, ⟨ρ, p1, p2, ?_⟩, ⟨h, g1, ?_, ?_, fun k hk => ?_⟩, ?_⟩, ?_, ?_⟩
            · simp only [B2]; rw [sI_n (by omega), n2 _ _ (by omega)]; exact b2
            · rw [q_lvlC e127]; exact z1
            · rw [q_lvlC e127, sI_n (by omega)]; exact z2
            · rw [q_fllC e127, sI_n (by omega)]; exact z3
            · intro p' hp'
              rw [e127, sI_n (by omega)]; exact b4 p' hp'
            · intro p' c' hm2
              obtain ⟨u1, u2⟩ := b5 p' c' hm2
              have := q_cb u1
              exact ⟨u1, by rw [sI_n (by omega)]; exact u2⟩
            · intro i p'; rw [q_lvlC e127]; exact p3 i p'
            · rw [sI_n (by omega)]; exact g2
            · rw [n2 _ _ (by omega)]; exact g3
            · rw [sI_n (by omega), n2 _ _ (by omega)]; exact g4 k hk
            · simp only [B8]; rw [sI_n (by omega), n2 _ _ (by omega)]; exact b8
            · rw [n2 _ _ (by omega)]; exact oo
            · intro p' c' hm2
              have : τ.1 127 p' = 1 := (b4 p' hm2.1).2.2.mpr ⟨c', hm2.2⟩
              have := q_lvl.mpr ⟨hm2.1, this⟩
              rw [List.eq_nil_of_length_eq_zero hz] at this
              cases this
          · rw [sI_n (by omega), sI_n (by omega)]
          · rw [sI_n (by omega), B.1.2.2.1, B.1.2.2.2]
          · rw [sI_n (by omega), sI_e]
        · simp (disch := omega) only [q_le0F, q_ne0, ↓reduceIte]
          exact bad2
end
