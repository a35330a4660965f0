section
variable {N rr : Nat} {σ τ : kS}
theorem q_room (B : Bas rr σ τ) {x : Nat} (hx : x < 256) : (fX1_requireRoomAt σ (nI x) = some (.inr ()) ∧ τ.1 127 x = 0 ∧ (lvl τ).length < 20) ∨ (fX1_requireRoomAt σ (nI x) = some (.inl "java/lang/IllegalStateException") ∧ (¬ τ.1 127 x = 0 ∨ (τ.1 127 x = 0 ∧ (lvl τ).length = 20))) := by
  obtain ⟨n1, n2, -⟩ := B.2.2.1
  obtain ⟨-, h2, -⟩ := B.2.2.2.1 x hx
  simp (disch := omega) only [fX1_requireRoomAt, n2, q_l2, q_l3, q_l4, q_l7, q_l8, q_l10, q_l17, q_l18, q_l20, q_l31, q_l40, q_l61, q_l64, q_l255, q_l256, q_leT, q_leF, q_ltT, q_ltF, q_n0, q_0le, q_cl, q_cl0, q_vpE, q_add, q_s1, q_mul, q_nle, q_nlt, false_or, or_false, not_false_eq_true, if_true, if_false, ↓reduceIte, Option.bind_some, Option.map_some]
  by_cases e : τ.1 127 x = 0
  · rw [if_pos (h2.mpr e)]
    by_cases e2 : (lvl τ).length < 20
    · rw [if_pos (q_ltT e2 (by omega))]; exact Or.inl ⟨rfl, e, e2⟩
    · rw [if_neg (q_ltF (by omega) (by omega))]; exact Or.inr ⟨rfl, Or.inr ⟨e, by omega⟩⟩
  · rw [if_neg (fun g => e (h2.mp g))]; exact Or.inr ⟨rfl, Or.inl e⟩
theorem S_found (x : Int32) : Sm N N cAS (fun σ => fX1_found σ x) (fun τ => fX2_found τ x) := by
  intro σ τ R
  simp only [fX1_found, fX2_found, fX2_found_41, fX2_found_42]
  have bad2 : ∃ res σ' v τ', some ((Sum.inl "java/lang/IllegalStateException" : String ⊕ Int32), σ) = some (res, σ') ∧ some ((0 : Int32), sI τ 126 0 2) = some (v, τ') ∧ Rel N σ' τ' ∧ FC σ σ' ∧ FR τ τ' ∧ ((∃ E, res = .inl E ∧ cAS E (τ'.1 126 0)) ∨ (res = .inr v ∧ τ'.1 126 0 = 0)) :=
    ⟨_, _, _, _, rfl, rfl, q_go R 2, FC.r σ, FR_go τ 2, Or.inl ⟨_, rfl, Or.inr ⟨rfl, sI_e _ _ _ _⟩⟩⟩
  rcases q_point x with ⟨-, g1, g2⟩ | ⟨p, hp, rfl, -, g1, g2⟩
  · simp only [g1, g2, Option.bind_some, ksm_l, go_1, ↓reduceIte, ite_self]
    exact ⟨_, _, _, _, rfl, rfl, q_go R 1, FC.r σ, FR_go τ 1, Or.inl ⟨_, rfl, Or.inl ⟨rfl, sI_e _ _ _ _⟩⟩⟩
  · simp only [g1, g2, Option.bind_some, ksm_r, q_10, ↓reduceIte]
    obtain ⟨r0, B | B⟩ := id R
    · have o := B.2.1
      have o1 : σ.1 0 8 = 1 := B.1.2.1.trans o
      simp only [o, o1, q_10, ↓reduceIte, go_2, Option.bind_some]
      exact bad2
    · have o := B.2.1
      have o1 : σ.1 0 8 = 0 := B.1.2.1.trans o
      have n1 := B.1.2.2.1.1
      have hmany := q_many n1
      simp (disch := omega) only [o, o1, q_00, ↓reduceIte, go_2, go_0, q_10, Option.bind_some, hmany, q_vpE, q_cl]
      rcases q_room B.1 hp with ⟨h1, h2, h3⟩ | ⟨h1, h2⟩
      · obtain ⟨c, σ', a1, a2, a3, a4, a5, a6, -, a7, a8, a9⟩ := q_addM B.1 hp h2 h3
        simp only [h1, h2, Option.bind_some, ksm_r, ↓reduceIte, a1, a8]
        rw [if_neg (show ¬ (20 : Int32) ≤ nI (lvl τ).length from q_leF (a := 20) h3 (by omega))]
        have hnl : ¬ τ.1 127 p = 1 := by rw [h2]; decide
        have t1 : (sI (sI τ 126 0 0) 127 p 1).1 127 p = 1 := sI_e _ _ _ _
        have t2 : ∀ q, q ≠ p → (sI (sI τ 126 0 0) 127 p 1).1 127 q = τ.1 127 q := fun q hq => by rw [sI_n (by omega), sI_n (by omega)]
        have hcu := q_up hnl t1 t2
        have hlen : (lvl (sI (sI τ 126 0 0) 127 p 1)).length = (lvl τ).length + 1 := by
          have := hcu 256
          rw [cnb_256, cnb_256, if_pos hp] at this
          exact this
        have B' := a9 (sI (sI τ 126 0 0) 127 p 1) t1 t2 (funext fun j => by rw [sI_n (by omega), sI_n (by omega)]) (fun j h1 _ => by rw [sI_n (by omega), sI_n (by omega)])
        rw [q_many (by omega), hlen]
        refine ⟨_, _, _, _, rfl, rfl, ⟨r0, Or.inr ⟨B', ?_, ?_⟩⟩, a2, ⟨fun a ha => funext fun j => by rw [sI_n (by omega), sI_n (by omega)], rfl⟩, Or.inr ⟨rfl, ?_⟩⟩
        · rw [sI_n (by omega), sI_n (by omega)]; exact o
        · intro q d hm
          rcases (a5 q d).mp hm with ⟨rfl, rfl⟩ | hm'
          · exact a6
          · obtain ⟨e1, e2, e3, e4⟩ := B.2.2 q d hm'
            have hk := q_mcK B.1 hm'
            have hap := q_ap hk a3 (a4 q d hm')
            have hb := q_cb hk
            refine ⟨fun k hk => ?_, fun k hk => ?_, fun k hk => ?_, ?_⟩
            · rw [a7 _ _ (by omega) (by omega) (by omega)]; exact e1 k hk
            · rw [a7 _ _ (by omega) (by omega) (by omega)]; exact e2 k hk
            · rw [a7 _ _ (by omega) (by omega) (by omega), a7 _ _ (by omega) (by omega) (by omega), a7 _ _ (by omega) (by omega) (by omega)]; exact e3 k hk
            · rw [a7 _ _ (by omega) (by omega) (by omega)]; exact e4
        · rw [sI_n (by omega), sI_e]
      · simp only [h1, Option.bind_some, ksm_l]
        rcases h2 with h2 | ⟨h2, h3⟩
        · simp only [h2, ↓reduceIte]; exact bad2
        · simp only [h2, ↓reduceIte, h3]
          rw [if_pos (show (20 : Int32) ≤ nI 20 by decide)]; exact bad2
theorem q_dat6 {N' : Nat} {σ' τ' : kS} {p c : Nat} (D : Dat rr N σ τ p c) (hN : N ≤ N') (h6 : σ'.1 c 6 = σ.1 c 6) (h7 : σ'.1 c 7 = σ.1 c 7)
    (hl : ∀ k, k < rr → σ'.1 (c + 1 + 0) k = σ.1 (c + 1 + 0) k) (hf : ∀ k, k < 8 → σ'.1 (c + 1 + 1) k = σ.1 (c + 1 + 1) k)
    (hv : ∀ k, k < 64 → σ'.1 (c + 1 + 2) k = σ.1 (c + 1 + 2) k ∧ σ'.1 (c + 1 + 3) k = σ.1 (c + 1 + 3) k ∧ σ'.1 (c + 1 + 4) k = σ.1 (c + 1 + 4) k)
    (g6 : τ'.1 129 p = τ.1 129 p) (g7 : τ'.1 131 p = τ.1 131 p) (gl : ∀ k, k < rr → τ'.1 128 (4 * p + k) = τ.1 128 (4 * p + k)) (gf : ∀ k, k < 8 → τ'.1 130 (8 * p + k) = τ.1 130 (8 * p + k))
    (gv : ∀ k, k < 64 → τ'.1 132 (64 * p + k) = τ.1 132 (64 * p + k) ∧ τ'.1 133 (64 * p + k) = τ.1 133 (64 * p + k) ∧ τ'.1 134 (64 * p + k) = τ.1 134 (64 * p + k))
    (gp : D6 rr τ' p) : Dat rr N' σ' τ' p c := by
  obtain ⟨d1, ⟨d, d2, d3, d4⟩, d5, d6, d7, -⟩ := D
  refine ⟨?_, ⟨d, d2, h7.trans d3, g7.trans d4⟩, fun k hk => (hl k hk).trans ((d5 k hk).trans (gl k hk).symm), fun k hk => (hf k hk).trans ((d6 k hk).trans (gf k hk).symm), fun k hk => ?_, gp⟩
  · exact h6.trans (d1.trans g6.symm)
  · obtain ⟨a1, a2, a3⟩ := hv k hk
    obtain ⟨a4, a5, a6⟩ := gv k hk
    rw [a1, a2, a3, a4, a5, a6]
    exact (d7 k hk).m hN
theorem S_join (x y : Int32) : Sm N N cNAS (fun σ => fX1_join σ x y) (fun τ => fX2_join τ x y) := by
  intro σ τ R
  have hb : ∃ r0, Bas r0 σ τ := by
    obtain ⟨r0, B | B⟩ := R
    · exact ⟨r0, B.1⟩
    · exact ⟨r0, B.1⟩
  obtain ⟨r1, B1'⟩ := hb
  have n1 := B1'.2.2.1.1
  have hmany := q_many n1
  simp only [fX1_join, fX2_join, fX2_join_39, fX2_join_40, hmany, Option.bind_some]
  rcases q_find R y with ⟨h1, h2⟩ | ⟨r0, p, c, rfl, B, hm, h1, h2⟩
  · have fin : ∃ res σ' v τ', some ((Sum.inl "java/util/NoSuchElementException" : String ⊕ Int32), σ) = some (res, σ') ∧ some ((0 : Int32), sI τ 126 0 1) = some (v, τ') ∧ Rel N σ' τ' ∧ FC σ σ' ∧ FR τ τ' ∧ ((∃ E, res = .inl E ∧ cNAS E (τ'.1 126 0)) ∨ (res = .inr v ∧ τ'.1 126 0 = 0)) :=
      ⟨_, _, _, _, rfl, rfl, q_go R 1, FC.r σ, FR_go τ 1, Or.inl ⟨_, rfl, Or.inl ⟨rfl, sI_e _ _ _ _⟩⟩⟩
    simp only [h1, h2, Option.bind_some, ksm_l, go_1, ↓reduceIte]
    rcases q_point x with ⟨-, g1, -⟩ | ⟨q, hq, rfl, -, g1, -⟩
    · simp only [g1, Option.bind_some, ↓reduceIte]; exact fin
    · simp (disch := omega) only [g1, Option.bind_some, q_10, ↓reduceIte, q_vpE, q_cl, ite_self]
      exact fin
  · simp only [h1, h2, Option.bind_some, ksm_r]
    rcases q_point x with ⟨-, g1, g2⟩ | ⟨q, hq, rfl, -, g1, g2⟩
    · simp only [g1, g2, Option.bind_some, ksm_l, ↓reduceIte, go_2]
      exact ⟨_, _, _, _, rfl, rfl, q_go R 2, FC.r σ, FR_go τ 2, Or.inl ⟨_, rfl, Or.inr (Or.inl ⟨rfl, sI_e _ _ _ _⟩)⟩⟩
    · simp (disch := omega) only [g1, g2, Option.bind_some, ksm_r, q_10, ↓reduceIte, q_vpE, q_cl, go_3, go_0]
      have fin : ∃ res σ' v τ', some ((Sum.inl "java/lang/IllegalStateException" : String ⊕ Int32), σ) = some (res, σ') ∧ some ((0 : Int32), sI τ 126 0 3) = some (v, τ') ∧ Rel N σ' τ' ∧ FC σ σ' ∧ FR τ τ' ∧ ((∃ E, res = .inl E ∧ cNAS E (τ'.1 126 0)) ∨ (res = .inr v ∧ τ'.1 126 0 = 0)) :=
        ⟨_, _, _, _, rfl, rfl, q_go R 3, FC.r σ, FR_go τ 3, Or.inl ⟨_, rfl, Or.inr (Or.inr ⟨rfl, sI_e _ _ _ _⟩)⟩⟩
      rcases q_room B.1 hq with ⟨k1, k2, k3⟩ | ⟨k1, k2⟩
      · rw [k1, if_pos k2, if_neg (show ¬ (20 : Int32) ≤ nI (lvl τ).length from q_leF (a := 20) k3 (by omega))]
        simp only [Option.bind_some, ksm_r]
        obtain ⟨o, d, σ1, τ1, t, a1, a2, hm', B', hT, hU, -, -⟩ := q_look (q_goO B 0) hm hq
        have e127 : τ1.1 127 = τ.1 127 := funext fun j => by rw [hU.2 127 j (by omega) (by omega), sI_n (by omega)]
        have hm1 := hT.k.mc.mpr hm'
        have ho := hm'.1
        have hr := q_rr B'
        obtain ⟨c2, σ2, b1, b2, b3, b4, b5, b6, b10, b7, b8, b9⟩ := q_addM B'.1 hq (by rw [e127]; exact k2) (by rw [q_lvlC e127]; exact k3)
        have hdk := q_mcK B'.1 hm1
        have hdc := b4 o d hm1
        have hap := q_ap hdk b3 hdc
        have hdb := q_cb hdk
        have hcb := q_cb b3
        obtain ⟨σ3, s1, s2, s3, s4, s5⟩ := q_to1 (σ := σ2) hr (by rw [b7 0 7 (by omega) (by omega) (by omega)]; exact B'.1.1.2.2.1) b3 hdk
        obtain ⟨τ3, t1, t2, t3, t4, t5, t6, t7⟩ := q_empty (τ := sI τ1 127 q 1) hq
        obtain ⟨τ4, u1, u2, u3, u4, u5⟩ := q_to2 (τ := τ3) hr (by rw [t7 _ _ (by omega) (by omega) (by omega) (by omega), sI_n (by omega)]; exact B'.1.1.2.2.2) hq ho
        simp only [a1, a2, Option.bind_some, b1, s1, hdk, ↓reduceIte, t1, u1]
        have d5 : σ3.1 d 5 = nI o := by
          rw [s3 _ _ (by omega), b7 _ _ (by omega) (by omega) (by omega)]; exact q_mcP B'.1 hm1
        rw [d5]
        have hmc : ∀ p' c', Mc σ3 p' c' ↔ (p' = q ∧ c' = c2) ∨ Mc σ1 p' c' := fun p' c' => by
          rw [← b5 p' c']; simp only [Mc, s2]
        have T : ∀ a j, a ≠ 135 → (a ≠ 128 ∨ j < 4 * q ∨ 4 * q + r0 ≤ j) → (a = 127 → j ≠ q) → (a = 129 → j ≠ q) → (a = 131 → j ≠ q) → (a = 130 → j < 8 * q ∨ 8 * q + 8 ≤ j) → (a = 132 → j < 64 * q ∨ 64 * q + 64 ≤ j) → τ4.1 a j = τ1.1 a j := by
          intro a j h1 h2 h3 h4 h5 h6 h7
          rw [u3 a j h1 h2, t7 a j h4 h5 h6 h7, sI_n (by by_cases e : a = 127; exact Or.inr (h3 e); exact Or.inl e)]
        have T127 : τ4.1 127 q = 1 := by rw [u3 _ _ (by omega) (by omega), t7 _ _ (by omega) (by omega) (by omega) (by omega), sI_e]
        have hB2 : Bas r0 σ2 τ4 := b9 τ4 T127 (fun p' hp' => T _ _ (by omega) (by omega) (by omega) (by omega) (by omega) (by omega) (by omega)) (funext fun j => T _ _ (by omega) (by omega) (by omega) (by omega) (by omega) (by omega) (by omega)) (fun j _ _ => T _ _ (by omega) (by omega) (by omega) (by omega) (by omega) (by omega) (by omega))
        have hKC : KC σ2 σ3 := by
          refine ⟨s2, fun a ha => funext fun i => s3 a i (by omega), funext fun i => s3 _ i (by omega), funext fun i => s3 _ i (by omega), fun i _ _ => s3 _ i (by omega), fun a ha => s3 a 5 ?_⟩
          refine Or.inl fun e => ?_
          subst e
          exact q_kdn (i := 0) b3 (by omega) ha
        have hB3 : Bas r0 σ3 τ4 := q_bas hB2 hKC (KR.r τ4) (by rw [s3 _ _ (by omega)]; exact hB2.2.2.2.2.2.2.2)
        have hU0 : τ1.1 126 0 = 0 := q_th hU.k
        refine ⟨_, _, _, _, rfl, rfl, ⟨r0, Or.inl ⟨hB3, ?_, ?_, ?_⟩⟩, ?_, ?_, Or.inr ⟨rfl, ?_⟩⟩
        · rw [T _ _ (by omega) (by omega) (by omega) (by omega) (by omega) (by omega) (by omega)]; exact B'.2.1
        · exact List.length_pos_of_mem (q_lvl.mpr ⟨hq, T127⟩)
        · intro p' c' hm2
          rcases (hmc p' c').mp hm2 with ⟨rfl, rfl⟩ | hm3
          · obtain ⟨e1, e2, e3, e4⟩ := b6
            obtain ⟨-, -, f5, -⟩ := B'.2.2.2 o d hm1
            refine ⟨?_, ⟨0, by omega, ?_, ?_⟩, fun k hk => ?_, fun k hk => ?_, fun k hk => ?_, ?_⟩
            · simp only [D1]
              rw [u3 _ _ (by omega) (by omega), t3, s3 _ _ (by omega)]
              exact b10
            · rw [s3 _ _ (by omega)]; exact e4
            · rw [u3 _ _ (by omega) (by omega)]; exact t4
            · cases k with
              | zero => rw [show c' + 1 + 0 = c' + 1 from rfl, s4, Nat.add_zero, u4, b7 _ _ (by omega) (by omega) (by omega)]; exact q_mcP B'.1 hm1
              | succ k =>
                have hop : o ≠ p' := by
                  intro e
                  subst e
                  have := q_mcLv B'.1 hm1
                  rw [e127, k2] at this
                  exact absurd this (by decide)
                rw [show c' + 1 + 0 = c' + 1 from rfl, s5 k hk, u5 k hk, b7 _ _ (by omega) (by omega) (by omega), t7 _ _ (by omega) (by omega) (by omega) (by omega), sI_n (by omega)]
                exact f5 k (by omega)
            · rw [s3 _ _ (by omega), u3 _ _ (by omega) (by omega), t5 k hk]; exact e2 k hk
            · obtain ⟨x1, x2, x3⟩ := e3 k hk
              rw [s3 _ _ (by omega), s3 _ _ (by omega), s3 _ _ (by omega), u3 132 _ (by omega) (by omega), t6 k hk, x1, x2, x3]
              exact ⟨0, Nat.zero_le _, rfl, rfl, fun _ => ⟨rfl, rfl⟩, fun h => absurd h (by omega)⟩
            · refine ⟨0, by omega, o, ho, by rw [Nat.add_zero]; exact u4, ?_⟩
              by_cases e : o = p'
              · rw [e]; exact T127
              · rw [T _ _ (by omega) (by omega) (by omega) (by omega) (by omega) (by omega) (by omega)]; exact q_mcLv B'.1 hm1
          · have hk' := q_mcK B'.1 hm3
            have hp' := hm3.1
            have hne := b4 p' c' hm3
            have hap' := q_ap hk' b3 hne
            have hb' := q_cb hk'
            have hpq : p' ≠ q := by
              intro e
              subst e
              have := q_mcLv B'.1 hm3
              rw [e127, k2] at this
              exact absurd this (by decide)
            have S : ∀ a j, c' ≤ a → a < c' + 6 → σ3.1 a j = σ1.1 a j := fun a j h1 h2 => by
              rw [s3 _ _ (by omega), b7 _ _ (by omega) (by omega) (by omega)]
            have D := B'.2.2.2 p' c' hm3
            refine q_dat6 D (Nat.le_refl _) ?_ ?_ ?_ ?_ ?_ ?_ ?_ ?_ ?_ ?_ ?_
            · exact S _ _ (by omega) (by omega)
            · exact S _ _ (by omega) (by omega)
            · intro k _; exact S _ _ (by omega) (by omega)
            · intro k _; exact S _ _ (by omega) (by omega)
            · intro k _; exact ⟨S _ _ (by omega) (by omega), S _ _ (by omega) (by omega), S _ _ (by omega) (by omega)⟩
            · exact T _ _ (by omega) (by omega) (by omega) (by omega) (by omega) (by omega) (by omega)
            · exact T _ _ (by omega) (by omega) (by omega) (by omega) (by omega) (by omega) (by omega)
            · intro k _; exact T _ _ (by omega) (by omega) (by omega) (by omega) (by omega) (by omega) (by omega)
            · intro k _; exact T _ _ (by omega) (by omega) (by omega) (by omega) (by omega) (by omega) (by omega)
            · intro k _; exact ⟨T _ _ (by omega) (by omega) (by omega) (by omega) (by omega) (by omega) (by omega), T _ _ (by omega) (by omega) (by omega) (by omega) (by omega) (by omega) (by omega), T _ _ (by omega) (by omega) (by omega) (by omega) (by omega) (by omega) (by omega)⟩
            · obtain ⟨k, f1, m, f2, f3, f4⟩ := D.2.2.2.2.2
              refine ⟨k, f1, m, f2, ?_, ?_⟩
              · rw [T _ _ (by omega) (by omega) (by omega) (by omega) (by omega) (by omega) (by omega)]; exact f3
              · by_cases e : m = q
                · rw [e]; exact T127
                · rw [T _ _ (by omega) (by omega) (by omega) (by omega) (by omega) (by omega) (by omega)]; exact f4
        · intro a ha
          exact funext fun j => by rw [s3 _ _ (by omega), b2 a ha, hT.k.2.1 a ha]
        · refine ⟨fun a ha => funext fun j => ?_, ?_⟩
          · rw [T _ _ (by omega) (by omega) (by omega) (by omega) (by omega) (by omega) (by omega), hU.k.2.1 a ha, sI_n (by omega)]
          · rw [u2, t2]; exact hU.1
        · rw [T _ _ (by omega) (by omega) (by omega) (by omega) (by omega) (by omega) (by omega)]; exact hU0
      · rw [k1]
        simp only [Option.bind_some, ksm_l]
        rcases k2 with k2 | ⟨k2, k3⟩
        · simp only [k2, ↓reduceIte]; exact fin
        · simp only [k2, ↓reduceIte, k3]
          rw [if_pos (show (20 : Int32) ≤ nI 20 by decide)]; exact fin
end
