section
variable {N rr : Nat} {σ τ : kS}
theorem S_rounds (hN : N < 2147483648) (x : Int32) : Sm N N cAS (fun σ => fX1_rounds σ x) (fun τ => fX2_rounds τ x) := by
  intro σ τ R
  simp only [fX1_rounds, fX1_rounds_10, fX2_rounds, fX2_rounds_15, fX2_rounds_16]
  have bad : ∃ res σ' v τ', some ((Sum.inl "java/lang/IllegalArgumentException" : String ⊕ Int32), σ) = some (res, σ') ∧ some ((0 : Int32), sI τ 126 0 1) = some (v, τ') ∧ Rel N σ' τ' ∧ FC σ σ' ∧ FR τ τ' ∧ ((∃ E, res = .inl E ∧ cAS E (τ'.1 126 0)) ∨ (res = .inr v ∧ τ'.1 126 0 = 0)) :=
    ⟨_, _, _, _, rfl, rfl, q_go R 1, FC.r σ, FR_go τ 1, Or.inl ⟨_, rfl, Or.inl ⟨rfl, sI_e _ _ _ _⟩⟩⟩
  by_cases h0 : x < 0
  · simp only [h0, ↓reduceIte, go_1, Option.bind_some]; exact bad
  · simp only [h0, ↓reduceIte]
    rcases pk_ix x (n := 41) (by decide) with g | g | ⟨n, hn, rfl⟩
    · exact absurd g h0
    · have e1 := Int32.le_iff_toInt_le.mp g
      rw [nI_toInt (by decide)] at e1
      have e2 : (nI 40).toInt = 40 := nI_toInt (by decide)
      have g1 : ¬ x ≤ nI 40 := fun g' => absurd (Int32.le_iff_toInt_le.mp g') (by omega)
      have g2 : nI 40 < x := Int32.lt_iff_toInt_lt.mpr (by omega)
      simp only [q_l40, g1, g2, ↓reduceIte, go_1, Option.bind_some]; exact bad
    · simp (disch := omega) only [q_l2, q_l3, q_l4, q_l7, q_l8, q_l10, q_l17, q_l18, q_l20, q_l31, q_l40, q_l61, q_l64, q_l255, q_l256, q_leT, q_leF, q_ltT, q_ltF, q_n0, q_0le, q_cl, q_cl0, q_vpE, q_add, q_s1, q_mul, q_nle, q_nlt, false_or, or_false, not_false_eq_true, if_true, if_false, ↓reduceIte, Option.bind_some, Option.map_some]
      obtain ⟨r0, B | B⟩ := R
      · have o := B.2.1
        have o1 : σ.1 0 8 = 1 := B.1.2.1.trans o
        simp only [o, o1, q_10, ↓reduceIte, go_0, Option.bind_some]
        have key := q_two (b1 := fX1_rounds_41 (nI n)) (b2 := fX2_rounds_33 (nI n)) (a := (0, 0, σ)) (c := (0, 0, sI τ 126 0 0))
          (fun k a b => a.1 = b.1 ∧ a.2.1 = nI k ∧ b.2.1 = nI k ∧ Ro N r0 a.2.2 b.2.2 ∧ KC σ a.2.2 ∧ KR (sI τ 126 0 0) b.2.2)
          (fun a b => a.1 = .inr b.1 ∧ Ro N r0 a.2 b.2 ∧ KC σ a.2 ∧ KR (sI τ 126 0 0) b.2) n (by omega) ?_ ?_ ?_
        · obtain ⟨⟨s, σ'⟩, ⟨v, τ'⟩, g1, g2, g3, B', C, K⟩ := key
          dsimp only at g3 B' C K
          subst g3
          exact ⟨_, _, _, _, g1, g2, ⟨r0, Or.inl B'⟩, C.f, (FR_go τ 0).t K.f, Or.inr ⟨rfl, q_th K⟩⟩
        · exact ⟨rfl, rfl, rfl, q_goO B 0, KC.r σ, KR.r _⟩
        · rintro k ⟨s, y, σ'⟩ ⟨s', y', τ'⟩ hk ⟨e1, e2, e3, B', C, K⟩
          dsimp only at e1 e2 e3 B' C K
          subst e1 e2 e3
          left
          obtain ⟨s', σ2, τ2, a1, a2, B2', C2, K2⟩ := q_round B' hN (nI n) s (nI k)
          simp (disch := omega) only [fX1_rounds_41, gX1_rounds_41, fX2_rounds_33, gX2_rounds_33, q_l2, q_l3, q_l4, q_l7, q_l8, q_l10, q_l17, q_l18, q_l20, q_l31, q_l40, q_l61, q_l64, q_l255, q_l256, q_leT, q_leF, q_ltT, q_ltF, q_n0, q_0le, q_cl, q_cl0, q_vpE, q_add, q_s1, q_mul, q_nle, q_nlt, false_or, or_false, not_false_eq_true, if_true, if_false, ↓reduceIte, Option.bind_some, Option.map_some]
          rw [a1, a2]
          exact ⟨_, _, rfl, rfl, rfl, q_s1 k, q_s1 k, B2', C.t C2, K.t K2⟩
        · rintro ⟨s, y, σ'⟩ ⟨s', y', τ'⟩ ⟨e1, e2, e3, B', C, K⟩
          dsimp only at e1 e2 e3 B' C K
          subst e1 e2 e3
          simp (disch := omega) only [fX1_rounds_41, gX1_rounds_41, fX2_rounds_33, gX2_rounds_33, q_l2, q_l3, q_l4, q_l7, q_l8, q_l10, q_l17, q_l18, q_l20, q_l31, q_l40, q_l61, q_l64, q_l255, q_l256, q_leT, q_leF, q_ltT, q_ltF, q_n0, q_0le, q_cl, q_cl0, q_vpE, q_add, q_s1, q_mul, q_nle, q_nlt, false_or, or_false, not_false_eq_true, if_true, if_false, ↓reduceIte, Option.bind_some, Option.map_some]
          exact ⟨_, _, rfl, rfl, rfl, B', C, K⟩
      · have o := B.2.1
        have o1 : σ.1 0 8 = 0 := B.1.2.1.trans o
        simp only [o, o1, ↓reduceIte, go_2, Option.bind_some]
        exact ⟨_, _, _, _, rfl, rfl, q_go ⟨r0, Or.inr B⟩ 2, FC.r σ, FR_go τ 2, Or.inl ⟨_, rfl, Or.inr ⟨rfl, sI_e _ _ _ _⟩⟩⟩
theorem S_look (x y : Int32) : Sm N N cNA (fun σ => fX1_look σ x y) (fun τ => fX2_look τ x y) := by
  intro σ τ R
  simp only [fX1_look, fX2_look]
  rcases q_find R x with ⟨h1, h2⟩ | ⟨r0, p, c, rfl, B, hm, h1, h2⟩
  · obtain ⟨z, hz⟩ : ∃ z, fX2_isPoint y = some z := by
      rcases q_point y with ⟨-, h, -⟩ | ⟨p, -, -, -, h, -⟩
      · exact ⟨_, h⟩
      · exact ⟨_, h⟩
    simp only [h1, h2, hz, Option.bind_some, ksm_l, go_1, ↓reduceIte]
    exact ⟨_, _, _, _, rfl, rfl, q_go R 1, FC.r σ, FR_go τ 1, Or.inl ⟨_, rfl, Or.inl ⟨rfl, sI_e _ _ _ _⟩⟩⟩
  · rcases q_point y with ⟨-, g1, g2⟩ | ⟨q, hq, rfl, -, g1, g2⟩
    · simp only [h1, h2, g1, g2, Option.bind_some, ksm_l, ksm_r, go_2, ↓reduceIte]
      exact ⟨_, _, _, _, rfl, rfl, q_go R 2, FC.r σ, FR_go τ 2, Or.inl ⟨_, rfl, Or.inr ⟨rfl, sI_e _ _ _ _⟩⟩⟩
    · simp only [h1, h2, g1, g2, Option.bind_some, ksm_r, go_0, q_10, ↓reduceIte]
      obtain ⟨o, d, σ1, τ1, t, a1, a2, hm', B', hT, hU, ht, l1, l2, l3, l4⟩ := q_look (q_goO B 0) hm hq
      have hd := q_mcK B.1 hm'
      have hdb := q_cb hd
      simp only [a1, a2, Option.bind_some, hd, ↓reduceIte]
      have n1 : ∀ a j, a ≠ 125 → (a ≠ 0 ∨ j ≠ 6) → (sI (sC σ1 124 125 20) 0 6 ((sC σ1 124 125 20).1 0 4)).1 a j = σ1.1 a j := fun a j g1 g2 => by
        rw [sI_n (by omega)]; simp only [sC]; rw [if_neg (by omega)]
      have m1 : (sI (sC σ1 124 125 20) 0 6 ((sC σ1 124 125 20).1 0 4)).1 0 6 = nI t := by
        rw [sI_e]; simp only [sC]; rw [if_neg (by omega)]; exact l1
      have m2 : ∀ k, k < t → (sI (sC σ1 124 125 20) 0 6 ((sC σ1 124 125 20).1 0 4)).1 125 k = σ1.1 124 k := fun k hk => by
        rw [sI_n (by omega)]; simp only [sC]; rw [if_pos ⟨trivial, by omega⟩]
      have e13 : (sI τ1 126 13 (τ1.1 126 12)).1 126 12 = nI t := by rw [sI_n (by omega)]; exact l2
      obtain ⟨⟨v, τ2⟩, k1, k2, k3, k4⟩ := q_inv (body := fX2_look_37 (nI o)) (a := (0, sI τ1 126 13 (τ1.1 126 12)))
        (fun k a => a.1 = nI k ∧ a.2.2 = τ1.2 ∧ (∀ a' j, a' ≠ 137 → a.2.1 a' j = (sI τ1 126 13 (τ1.1 126 12)).1 a' j) ∧ ∀ j, j < k → a.2.1 137 j = τ1.1 136 j)
        (fun b => b.1 = nI o ∧ b.2.2 = τ1.2 ∧ (∀ a' j, a' ≠ 137 → b.2.1 a' j = (sI τ1 126 13 (τ1.1 126 12)).1 a' j) ∧ ∀ j, j < t → b.2.1 137 j = τ1.1 136 j) t (by omega)
        ⟨rfl, rfl, fun _ _ _ => rfl, fun j hj => absurd hj (Nat.not_lt_zero j)⟩ (by
          rintro k ⟨u, s⟩ hk ⟨e1, e2, e3, e4⟩
          dsimp only at e1 e2 e3 e4
          subst e1
          left
          simp (disch := omega) only [fX2_look_37, gX2_look_37, e3 126 12 (by omega), e13, q_l2, q_l3, q_l4, q_l7, q_l8, q_l10, q_l17, q_l18, q_l20, q_l31, q_l40, q_l61, q_l64, q_l255, q_l256, q_leT, q_leF, q_ltT, q_ltF, q_n0, q_0le, q_cl, q_cl0, q_vpE, q_add, q_s1, q_mul, q_nle, q_nlt, false_or, or_false, not_false_eq_true, if_true, if_false, ↓reduceIte, Option.bind_some, Option.map_some]
          refine ⟨_, rfl, ?_⟩
          refine ⟨rfl, e2, fun a' j h => ?_, fun j hj => ?_⟩
          · show (sI s 137 _ _).1 a' j = _
            rw [sI_n (by omega)]; exact e3 a' j h
          · show (sI s 137 _ _).1 137 j = _
            by_cases e : j = k
            · subst e; rw [sI_e, e3 136 _ (by omega), sI_n (by omega)]
            · rw [sI_n (by omega)]; exact e4 j (by omega)) (by
          rintro ⟨u, s⟩ ⟨e1, e2, e3, e4⟩
          dsimp only at e1 e2 e3 e4
          subst e1
          simp (disch := omega) only [fX2_look_37, gX2_look_37, e3 126 12 (by omega), e13, q_l2, q_l3, q_l4, q_l7, q_l8, q_l10, q_l17, q_l18, q_l20, q_l31, q_l40, q_l61, q_l64, q_l255, q_l256, q_leT, q_leF, q_ltT, q_ltF, q_n0, q_0le, q_cl, q_cl0, q_vpE, q_add, q_s1, q_mul, q_nle, q_nlt, false_or, or_false, not_false_eq_true, if_true, if_false, ↓reduceIte, Option.bind_some, Option.map_some]
          exact ⟨_, rfl, rfl, e2, e3, e4⟩)
      dsimp only at k2 k3 k4
      subst k2
      rw [k1, n1 d 5 (by omega) (by omega), q_mcP B'.1 (hT.k.mc.mpr hm')]
      have t1 : ∀ a j, a ≠ 137 → (a ≠ 126 ∨ j ≠ 13) → τ2.1 a j = τ1.1 a j := fun a j g1 g2 => by rw [k4.1 a j g1, sI_n (by omega)]
      have t2 : τ2.1 126 13 = nI t := by rw [k4.1 126 13 (by omega), sI_e]; exact l2
      refine ⟨_, _, _, _, rfl, rfl, ⟨r0, Or.inl ?_⟩, ?_, ?_, Or.inr ⟨rfl, ?_⟩⟩
      · obtain ⟨⟨⟨r1, r2, r3, r4⟩, b2, ⟨z1, z2, z3⟩, b4, b5, ⟨ρ, p1, p2, p3⟩, -, b8⟩, oo, nn, D⟩ := B'
        have e127 : τ2.1 127 = τ1.1 127 := funext fun j => t1 _ j (by omega) (by omega)
        refine ⟨⟨⟨r1, r2, ?_, ?_⟩, ?_, ⟨?_, ?_, ?_⟩, ?_, ?_, ⟨ρ, p1, p2, ?_⟩, ⟨t, ht, m1, t2, fun k hk => ?_⟩, ?_⟩, ?_, ?_, ?_⟩
        · rw [n1 _ _ (by omega) (by omega)]; exact r3
        · rw [t1 _ _ (by omega) (by omega)]; exact r4
        · simp only [B2]; rw [n1 _ _ (by omega) (by omega), t1 _ _ (by omega) (by omega)]; exact b2
        · rw [q_lvlC e127]; exact z1
        · rw [q_lvlC e127, n1 _ _ (by omega) (by omega)]; exact z2
        · rw [q_fllC e127, n1 _ _ (by omega) (by omega)]; exact z3
        · intro p' hp'
          rw [e127, n1 _ _ (by omega) (by omega)]; exact b4 p' hp'
        · intro p' c' hm2
          obtain ⟨u1, u2⟩ := b5 p' c' hm2
          have := q_cb u1
          exact ⟨u1, by rw [n1 _ _ (by omega) (by omega)]; exact u2⟩
        · intro i p'; rw [q_lvlC e127]; exact p3 i p'
        · rw [m2 k hk, k4.2 k hk]; exact l4 k hk
        · simp only [B8]; rw [n1 _ _ (by omega) (by omega), t1 _ _ (by omega) (by omega)]; exact b8
        · rw [t1 _ _ (by omega) (by omega)]; exact oo
        · rw [q_lvlC e127]; exact nn
        · intro p' c' hm2
          have hb := q_cb (b5 p' c' hm2).1
          refine q_dat (D p' c' hm2) r2 (Nat.le_refl _) ?_ ?_ ?_ ?_ ?_ ?_ ?_ ?_ ?_ ?_ e127
          · exact n1 _ _ (by omega) (by omega)
          · exact n1 _ _ (by omega) (by omega)
          · intro k _; exact n1 _ _ (by omega) (by omega)
          · intro k _; exact n1 _ _ (by omega) (by omega)
          · intro k _; exact ⟨n1 _ _ (by omega) (by omega), n1 _ _ (by omega) (by omega), n1 _ _ (by omega) (by omega)⟩
          · exact t1 _ _ (by omega) (by omega)
          · exact t1 _ _ (by omega) (by omega)
          · intro k _; exact t1 _ _ (by omega) (by omega)
          · intro k _; exact t1 _ _ (by omega) (by omega)
          · intro k _; exact ⟨t1 _ _ (by omega) (by omega), t1 _ _ (by omega) (by omega), t1 _ _ (by omega) (by omega)⟩
      · intro a ha
        exact funext fun j => by rw [n1 _ _ (by omega) (by omega), hT.k.2.1 a ha]
      · refine ⟨fun a ha => funext fun j => ?_, ?_⟩
        · rw [t1 _ _ (by omega) (by omega), hU.k.2.1 a ha, sI_n (by omega)]
        · rw [k3, hU.1]; rfl
      · rw [t1 _ _ (by omega) (by omega)]; exact q_th hU.k
theorem S_hop (x : Int32) : Sm N N cN (fun σ => (fX1_hop σ x).map fun r => (r, σ)) (fun τ => fX2_hop τ x) := by
  intro σ τ R
  have h7 : ∃ h, h ≤ 19 ∧ σ.1 0 6 = nI h ∧ τ.1 126 13 = nI h ∧ ∀ k, k < h → σ.1 125 k = τ.1 137 k := by
    obtain ⟨r0, B | B⟩ := R
    · exact B.1.2.2.2.2.2.2.1
    · exact B.1.2.2.2.2.2.2.1
  obtain ⟨h, a1, a2, a3, a4⟩ := h7
  simp only [fX1_hop, fX1_hop_12, fX2_hop, fX2_hop_17, fX2_hop_18, go_0, go_1, Option.bind_some, ↓reduceIte, q_10, a2, a3]
  have bad : ∃ res σ' v τ', (some (Sum.inl "java/util/NoSuchElementException" : String ⊕ Int32)).map (fun r => (r, σ)) = some (res, σ') ∧ some ((0 : Int32), sI τ 126 0 1) = some (v, τ') ∧ Rel N σ' τ' ∧ FC σ σ' ∧ FR τ τ' ∧ ((∃ E, res = .inl E ∧ cN E (τ'.1 126 0)) ∨ (res = .inr v ∧ τ'.1 126 0 = 0)) :=
    ⟨_, _, _, _, rfl, rfl, q_go R 1, FC.r σ, FR_go τ 1, Or.inl ⟨_, rfl, rfl, sI_e _ _ _ _⟩⟩
  by_cases h0 : x < 0
  · simp only [h0, ↓reduceIte]; exact bad
  · simp only [h0, ↓reduceIte]
    rcases pk_ix x (n := h) (by omega) with g | g | ⟨i, hi, rfl⟩
    · exact absurd g h0
    · have : ¬ x < nI h := fun g' => absurd (Int32.lt_iff_toInt_lt.mp g') (by have := Int32.le_iff_toInt_le.mp g; omega)
      simp only [this, g, ↓reduceIte]; exact bad
    · simp (disch := omega) only [q_l2, q_l3, q_l4, q_l7, q_l8, q_l10, q_l17, q_l18, q_l20, q_l31, q_l40, q_l61, q_l64, q_l255, q_l256, q_leT, q_leF, q_ltT, q_ltF, q_n0, q_0le, q_cl, q_cl0, q_vpE, q_add, q_s1, q_mul, q_nle, q_nlt, false_or, or_false, not_false_eq_true, if_true, if_false, ↓reduceIte, Option.bind_some, Option.map_some]
      refine ⟨_, _, _, _, rfl, rfl, q_go R 0, FC.r σ, FR_go τ 0, Or.inr ⟨?_, sI_e _ _ _ _⟩⟩
      rw [sI_n (by omega), a4 i hi]
theorem S_owner (x : Int32) : Sm N N cA (fun σ => (fX1_owner σ x).map fun r => (r, σ)) (fun τ => fX2_owner τ x) := by
  intro σ τ R
  simp only [fX1_owner, fX2_owner]
  rcases q_point x with ⟨-, g1, g2⟩ | ⟨p, hp, rfl, -, g1, g2⟩
  · simp only [g1, g2, Option.bind_some, ksm_l, go_1, ↓reduceIte]
    exact ⟨_, _, _, _, rfl, rfl, q_go R 1, FC.r σ, FR_go τ 1, Or.inl ⟨_, rfl, rfl, sI_e _ _ _ _⟩⟩
  · simp only [g1, g2, Option.bind_some, ksm_r, go_0, q_10, ↓reduceIte]
    have hb : ∃ r0, Bas r0 σ (sI τ 126 0 0) := by
      obtain ⟨r0, B | B⟩ := q_go R 0
      · exact ⟨r0, B.1⟩
      · exact ⟨r0, B.1⟩
    obtain ⟨r0, B⟩ := hb
    rw [q_town B hp]
    rcases q_next (τ := sI τ 126 0 0) hp with ⟨y, h1, -⟩ | ⟨h1, -⟩
    · rw [h1]
      exact ⟨_, _, _, _, rfl, rfl, q_go R 0, FC.r σ, FR_go τ 0, Or.inr ⟨rfl, sI_e _ _ _ _⟩⟩
    · rw [h1]
      exact ⟨_, _, _, _, rfl, rfl, q_go R 0, FC.r σ, FR_go τ 0, Or.inr ⟨rfl, sI_e _ _ _ _⟩⟩
theorem q_rel_hN {N' : Nat} (R : Rel N σ τ) (h : N ≤ N') : Rel N' σ τ := by
  obtain ⟨r0, B | B⟩ := R
  · obtain ⟨b, o, n, D⟩ := B
    exact ⟨r0, Or.inl ⟨b, o, n, fun p c hm => q_dat (D p c hm) b.1.2.1 h rfl rfl (fun _ _ => rfl) (fun _ _ => rfl) (fun _ _ => ⟨rfl, rfl, rfl⟩) rfl rfl (fun _ _ => rfl) (fun _ _ => rfl) (fun _ _ => ⟨rfl, rfl, rfl⟩) rfl⟩⟩
  · exact ⟨r0, Or.inr B⟩
theorem S_put (hN : N + 1 < 2147483648) (x y z : Int32) : Sm N (N + 1) cNA (fun σ => fX1_put σ x y z) (fun τ => fX2_put τ x y z) := by
  intro σ τ R
  have R' := q_rel_hN R (Nat.le_succ N)
  simp only [fX1_put, fX2_put, fX2_put_20, fX2_put_21, fX2_put_30]
  have bad1 : ∃ res σ' v τ', some ((Sum.inl "java/util/NoSuchElementException" : String ⊕ Int32), σ) = some (res, σ') ∧ some ((0 : Int32), sI τ 126 0 1) = some (v, τ') ∧ Rel (N + 1) σ' τ' ∧ FC σ σ' ∧ FR τ τ' ∧ ((∃ E, res = .inl E ∧ cNA E (τ'.1 126 0)) ∨ (res = .inr v ∧ τ'.1 126 0 = 0)) :=
    ⟨_, _, _, _, rfl, rfl, q_go R' 1, FC.r σ, FR_go τ 1, Or.inl ⟨_, rfl, Or.inl ⟨rfl, sI_e _ _ _ _⟩⟩⟩
  rcases q_find R x with ⟨h1, h2⟩ | ⟨r0, p, c, rfl, B, hm, h1, h2⟩
  · simp only [h1, h2, Option.bind_some, ksm_l, go_1, ↓reduceIte, ite_self]
    exact bad1
  · simp only [h1, h2, Option.bind_some, ksm_r, go_1, q_10, ↓reduceIte, ite_self]
    rcases q_key y with ⟨g1, g2⟩ | ⟨i, hi, rfl, g1, g2⟩
    · simp only [g1, g2, Option.bind_some, ksm_l, ↓reduceIte]
      exact bad1
    · simp only [g1, g2, Option.bind_some, ksm_r, q_10, ↓reduceIte]
      by_cases hz : z < 0
      · have : ¬ 0 ≤ z := fun g' => absurd (Int32.lt_iff_toInt_lt.mp hz) (by have := Int32.le_iff_toInt_le.mp g'; omega)
        simp only [hz, this, ↓reduceIte, go_2, Option.bind_some]
        exact ⟨_, _, _, _, rfl, rfl, q_go R' 2, FC.r σ, FR_go τ 2, Or.inl ⟨_, rfl, Or.inr ⟨rfl, sI_e _ _ _ _⟩⟩⟩
      · have : 0 ≤ z := Int32.not_lt.mp hz
        simp only [hz, this, ↓reduceIte, go_0, q_10, Option.bind_some, q_kp1 hi, q_kp2 hi]
        obtain ⟨o, d, σ1, τ1, t, a1, a2, hm', B', hT, hU, -, -⟩ := q_look (q_goO B 0) hm (kpt_lt i)
        have hd := q_mcK B.1 hm'
        have ho := hm'.1
        have hm1 := hT.k.mc.mpr hm'
        obtain ⟨v, v1, v2, v3, -, -⟩ := (B'.2.2.2 o d hm1).2.2.2.2.1 i hi
        simp (disch := omega) only [a1, a2, Option.bind_some, hd, v2, v3, q_l2, q_l3, q_l4, q_l7, q_l8, q_l10, q_l17, q_l18, q_l20, q_l31, q_l40, q_l61, q_l64, q_l255, q_l256, q_leT, q_leF, q_ltT, q_ltF, q_n0, q_0le, q_cl, q_cl0, q_vpE, q_add, q_s1, q_mul, q_nle, q_nlt, false_or, or_false, not_false_eq_true, if_true, if_false, ↓reduceIte, Option.bind_some, Option.map_some]
        rw [sI_n (by omega), q_mcP B'.1 hm1]
        obtain ⟨W1, W2, W3⟩ := q_wv (N' := N + 1) B' hm1 hi (Nat.le_succ N) (v := nI (v + 1)) (o := nI o) (w := z) (v' := nI (v + 1)) (o' := nI o) (w' := z) ⟨v + 1, by omega, rfl, rfl, fun h => absurd h (by omega), fun _ => ⟨rfl, rfl⟩⟩
        have hm2 := W2.mc.mpr hm1
        obtain ⟨n, σ3, τ3, f1, f2, B3, C3, K3, -, -, -⟩ := q_give W1 hN hm2 hi
        simp only [wC] at f1
        simp only [wR] at f2
        rw [f1, f2]
        obtain ⟨u, u1, u2, u3, -, -⟩ := (B3.2.2.2 o d (C3.mc.mpr hm2)).2.2.2.2.1 i hi
        simp only [Option.bind_some, u2, u3]
        have KK := (hU.k.t W3).t K3
        exact ⟨_, _, _, _, rfl, rfl, ⟨r0, Or.inl B3⟩, ((hT.k.t W2).t C3).f, (FR_go τ 0).t KK.f, Or.inr ⟨rfl, q_th KK⟩⟩
end
