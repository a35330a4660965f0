section
variable {N rr : Nat} {σ τ : kS}
theorem KC_sI (σ : kS) {a j : Nat} (v : Int32) (h : a < 126) (h1 : a ≠ 123) (h2 : a ≠ 125) (h3 : a = 0 → j = 4 ∨ j = 11) (h4 : kd a = (0, 0, 8) → j ≠ 5) : KC σ (sI σ a j v) := by
  refine ⟨rfl, fun x hx => funext fun i => sI_n (by omega), funext fun i => sI_n (by omega), funext fun i => sI_n (by omega), fun i g1 g2 => sI_n ?_, fun c hc => sI_n ?_⟩
  · by_cases e : a = 0
    · rcases h3 e with g | g <;> omega
    · omega
  · by_cases e : c = a
    · subst e; exact Or.inr (fun g => h4 hc g.symm)
    · exact Or.inl e
theorem KR_sI (τ : kS) {a j : Nat} (v : Int32) (h : 126 ≤ a) (h1 : a ≠ 127) (h2 : a ≠ 137) (h3 : a = 126 → j = 12 ∨ j = 14) : KR τ (sI τ a j v) := by
  refine ⟨rfl, fun x hx => funext fun i => sI_n (by omega), funext fun i => sI_n (by omega), funext fun i => sI_n (by omega), fun i g1 g2 => sI_n ?_⟩
  by_cases e : a = 126
  · rcases h3 e with g | g <;> omega
  · omega
theorem q_kdn {c i : Nat} (h : kd c = (0, 0, 8)) (hi : i < 5) : ¬ kd (c + 1 + i) = (0, 0, 8) := by
  intro g
  obtain ⟨m, hm, rfl⟩ := q_kd h
  obtain ⟨m', hm', e⟩ := q_kd g
  omega
theorem q_cb {c : Nat} (h : kd c = (0, 0, 8)) : 2 ≤ c ∧ c + 6 ≤ 122 := by
  obtain ⟨m, hm, rfl⟩ := q_kd h
  omega
theorem q_ap {c c' : Nat} (h : kd c = (0, 0, 8)) (h' : kd c' = (0, 0, 8)) (hn : c ≠ c') : c + 6 ≤ c' ∨ c' + 6 ≤ c := by
  obtain ⟨m, hm, rfl⟩ := q_kd h
  obtain ⟨m', hm', rfl⟩ := q_kd h'
  omega
theorem q_h8 (B : Ro N rr σ τ) : σ.1 0 11 = τ.1 126 14 := B.1.2.2.2.2.2.2.2
theorem q_rr (B : Ro N rr σ τ) : 2 ≤ rr ∧ rr ≤ 4 := ⟨B.1.1.1, B.1.1.2.1⟩
theorem q_wp (B : Ro N rr σ τ) {q d : Nat} (h : Mc σ q d) (v : Int32) : Ro N rr (sI σ d 6 v) (sI τ 129 q v) ∧ KC σ (sI σ d 6 v) ∧ KR τ (sI τ 129 q v) := by
  have hk := q_mcK B.1 h
  have hb := q_cb hk
  have h1 : KC σ (sI σ d 6 v) := KC_sI σ v (by omega) (by omega) (by omega) (by omega) (fun _ => by omega)
  have h2 : KR τ (sI τ 129 q v) := KR_sI τ v (by omega) (by omega) (by omega) (by omega)
  refine ⟨q_ro B h1 h2 ?_ ?_, h1, h2⟩
  · rw [sI_n (by omega), sI_n (by omega)]; exact q_h8 B
  · intro p c hm
    have hk' := q_mcK B.1 hm
    have hr := q_rr B
    have D := B.2.2.2 p c hm
    by_cases e : p = q
    · subst e
      have := q_mcU h hm
      subst this
      obtain ⟨d1, ⟨x, d2, d3, d4⟩, d5, d6, d7, d8⟩ := D
      refine ⟨?_, ⟨x, d2, ?_, ?_⟩, fun k hk => ?_, fun k hk => ?_, fun k hk => ?_, ?_⟩
      · simp only [D1, sI_e]
      · rw [sI_n (by omega)]; exact d3
      · rw [sI_n (by omega)]; exact d4
      · rw [sI_n (by omega), sI_n (by omega)]; exact d5 k hk
      · rw [sI_n (by omega), sI_n (by omega)]; exact d6 k hk
      · rw [sI_n (by omega), sI_n (by omega), sI_n (by omega), sI_n (by omega), sI_n (by omega), sI_n (by omega)]; exact d7 k hk
      · obtain ⟨k, g1, q', g2, g3, g4⟩ := d8
        exact ⟨k, g1, q', g2, by rw [sI_n (by omega)]; exact g3, by rw [sI_n (by omega)]; exact g4⟩
    · have hn : d ≠ c := fun e' => e (by subst e'; exact q_mcI B.1 hm h)
      have ha := q_ap hk hk' hn
      refine q_dat D hr.2 (Nat.le_refl _) ?_ ?_ ?_ ?_ ?_ ?_ ?_ ?_ ?_ ?_ ?_
      · exact sI_n (by omega)
      · exact sI_n (by omega)
      · intro k _; exact sI_n (by omega)
      · intro k _; exact sI_n (by omega)
      · intro k _; exact ⟨sI_n (by omega), sI_n (by omega), sI_n (by omega)⟩
      · exact sI_n (by omega)
      · exact sI_n (by omega)
      · intro k _; exact sI_n (by omega)
      · intro k _; exact sI_n (by omega)
      · intro k _; exact ⟨sI_n (by omega), sI_n (by omega), sI_n (by omega)⟩
      · exact funext fun i => sI_n (by omega)
theorem q_to (B : Ro N rr σ τ) {p c q d : Nat} (h : Mc σ p c) (g : Mc σ q d) : ∃ σ' τ', fX1_takeOver σ c d = some σ' ∧ fX2_takeOver τ (nI p) (nI q) = some τ' ∧ Ro N rr σ' τ' ∧ KC σ σ' ∧ KR τ τ' := by
  have hk := q_mcK B.1 h
  have hk2 := q_mcK B.1 g
  have hb := q_cb hk
  have hr := q_rr B
  have hp := h.1
  have hq := g.1
  obtain ⟨σ', s1, s2, s3, s4, s5⟩ := q_to1 hr B.1.1.2.2.1 hk hk2
  obtain ⟨τ', t1, t2, t3, t4, t5⟩ := q_to2 hr B.1.1.2.2.2 hp hq
  have h1 : KC σ σ' := by
    refine ⟨s2, fun x hx => funext fun i => s3 x i (by omega), funext fun i => s3 _ i (by omega), funext fun i => s3 _ i (by omega), fun i _ _ => s3 _ i (by omega), fun x hx => s3 x 5 ?_⟩
    refine Or.inl fun e => ?_
    subst e
    exact q_kdn (i := 0) hk (by omega) hx
  have h2 : KR τ τ' := ⟨t2, fun x hx => funext fun i => t3 x i (by omega) (by omega), funext fun i => t3 _ i (by omega) (by omega), funext fun i => t3 _ i (by omega) (by omega), fun i _ _ => t3 _ i (by omega) (by omega)⟩
  have h3 : σ'.1 0 11 = τ'.1 126 14 := by rw [s3 _ _ (by omega), t3 _ _ (by omega) (by omega)]; exact q_h8 B
  refine ⟨σ', τ', s1, t1, q_ro B h1 h2 h3 ?_, h1, h2⟩
  intro p' c' hm
  have hk' := q_mcK B.1 hm
  have D := B.2.2.2 p' c' hm
  have hp' := hm.1
  by_cases e : p' = p
  · subst e
    have := q_mcU h hm
    subst this
    obtain ⟨d1, ⟨x, d2, d3, d4⟩, d5, d6, d7, d8⟩ := D
    obtain ⟨-, -, f5, -⟩ := B.2.2.2 q d g
    refine ⟨?_, ⟨x, d2, ?_, ?_⟩, fun k hk => ?_, fun k hk => ?_, fun k hk => ?_, ?_⟩
    · simp only [D1]; rw [s3 _ _ (by omega), t3 _ _ (by omega) (by omega)]; exact d1
    · rw [s3 _ _ (by omega)]; exact d3
    · rw [t3 _ _ (by omega) (by omega)]; exact d4
    · cases k with
      | zero => rw [show c + 1 + 0 = c + 1 from rfl, s4, Nat.add_zero, t4]; exact q_mcP B.1 g
      | succ k =>
        rw [show c + 1 + 0 = c + 1 from rfl, s5 k hk, t5 k hk]; exact f5 k (by omega)
    · rw [s3 _ _ (by omega), t3 _ _ (by omega) (by omega)]; exact d6 k hk
    · rw [s3 _ _ (by omega), s3 _ _ (by omega), s3 _ _ (by omega), t3 _ _ (by omega) (by omega), t3 _ _ (by omega) (by omega), t3 _ _ (by omega) (by omega)]; exact d7 k hk
    · exact ⟨0, by omega, q, hq, by rw [Nat.add_zero]; exact t4, by rw [t3 _ _ (by omega) (by omega)]; exact q_mcLv B.1 g⟩
  · have hn : c ≠ c' := fun e' => e (by subst e'; exact q_mcI B.1 hm h)
    have ha := q_ap hk hk' hn
    refine q_dat D hr.2 (Nat.le_refl _) ?_ ?_ ?_ ?_ ?_ ?_ ?_ ?_ ?_ ?_ ?_
    · exact s3 _ _ (by omega)
    · exact s3 _ _ (by omega)
    · intro k _; exact s3 _ _ (by omega)
    · intro k _; exact s3 _ _ (by omega)
    · intro k _; exact ⟨s3 _ _ (by omega), s3 _ _ (by omega), s3 _ _ (by omega)⟩
    · exact t3 _ _ (by omega) (by omega)
    · exact t3 _ _ (by omega) (by omega)
    · intro k _; exact t3 _ _ (by omega) (by omega)
    · intro k _; exact t3 _ _ (by omega) (by omega)
    · intro k _; exact ⟨t3 _ _ (by omega) (by omega), t3 _ _ (by omega) (by omega), t3 _ _ (by omega) (by omega)⟩
    · exact h2.2.2.1
theorem q_sc2 {τ τ' : kS} (h1 : τ'.1 126 1 = τ.1 126 1) (h2 : τ'.1 127 = τ.1 127) (h3 : τ'.1 128 = τ.1 128) (x : Int32) : fX2_successor τ' x = fX2_successor τ x := by
  have e : fX2_successor_2 x τ' = fX2_successor_2 x τ := funext fun a => by
    simp only [fX2_successor_2, gX2_successor_2, fX2_live, h1, h2, h3]
  simp only [fX2_successor, e]
theorem q_tell (B : Ro N rr σ τ) {p c : Nat} (h : Mc σ p c) : ∃ σ' τ' t d, fX1_stabiliseMember_54 c σ = some σ' ∧ fX2_stable_42 (nI p) τ = some (nI t, τ') ∧ Ro N rr σ' τ' ∧ KC σ σ' ∧ KR τ τ' ∧ Mc σ t d ∧ fX1_successor σ' c = some (some d) := by
  obtain ⟨t, d, k, k1, k2, hm, e1, e2⟩ := q_succ B h
  have hk := q_mcK B.1 h
  have hk2 := q_mcK B.1 hm
  have hp := h.1
  have ht := hm.1
  have P1 := q_mcP B.1 h
  have P2 := q_mcP B.1 hm
  have wr : fX1_tell_41 d c σ = some (sI σ d 6 (nI p)) := by simp only [fX1_tell_41, hk, hk2, ↓reduceIte, P1]
  have w2 : fX2_stable_85 (nI p) (nI t) τ = some (nI t, sI τ 129 t (nI p)) := by simp (disch := omega) only [fX2_stable_85, q_l2, q_l3, q_l4, q_l7, q_l8, q_l10, q_l17, q_l18, q_l20, q_l31, q_l40, q_l61, q_l64, q_l255, q_l256, q_leT, q_leF, q_ltT, q_ltF, q_ne, q_n0, q_0le, q_ne0, q_le0F, q_lt0T, q_nm1, q_ltm1, q_cl, q_cl0, q_vpE, q_add, q_s1, q_mul, q_nle, q_nlt, false_or, or_false, not_false_eq_true, if_true, if_false, ↓reduceIte, Option.bind_some, Option.map_some]
  have fin : ∃ σ' τ' t' d', some (sI σ d 6 (nI p)) = some σ' ∧ some (nI t, sI τ 129 t (nI p)) = some (nI t', τ') ∧ Ro N rr σ' τ' ∧ KC σ σ' ∧ KR τ τ' ∧ Mc σ t' d' ∧ fX1_successor σ' c = some (some d') := by
    obtain ⟨W1, W2, W3⟩ := q_wp B hm (nI p)
    obtain ⟨t', d', k', k1', k2', hm', e1', e2'⟩ := q_succ W1 (W2.mc.mpr h)
    have e3 : fX2_successor (sI τ 129 t (nI p)) (nI p) = fX2_successor τ (nI p) := q_sc2 (sI_n (by omega)) (funext fun i => sI_n (by omega)) (funext fun i => sI_n (by omega)) _
    rw [e3, e2] at e2'
    have := hm'.1
    have e4 := q_inj (by omega) (by omega) (Option.some.inj e2')
    subst e4
    exact ⟨_, _, t, d', rfl, rfl, W1, W2, W3, W2.mc.mp hm', e1'⟩
  simp only [fX1_stabiliseMember_54, fX2_stable_42, e1, e2, Option.bind_some, fX1_tell, kmn_s, q_okq hk, q_okq hk2, and_self, ↓reduceIte, Option.some.injEq, hk, hk2]
  by_cases e : p = t
  · subst e
    have := q_mcU h hm
    subst this
    simp only [↓reduceIte, Option.bind_some]
    exact ⟨σ, τ, p, c, rfl, rfl, B, KC.r σ, KR.r τ, hm, e1⟩
  · have hn : ¬ d = c := fun e' => e (by subst e'; exact q_mcI B.1 h hm)
    simp (disch := omega) only [hn, q_l2, q_l3, q_l4, q_l7, q_l8, q_l10, q_l17, q_l18, q_l20, q_l31, q_l40, q_l61, q_l64, q_l255, q_l256, q_leT, q_leF, q_ltT, q_ltF, q_ne, q_n0, q_0le, q_ne0, q_le0F, q_lt0T, q_nm1, q_ltm1, q_cl, q_cl0, q_vpE, q_add, q_s1, q_mul, q_nle, q_nlt, false_or, or_false, not_false_eq_true, if_true, if_false, ↓reduceIte, Option.bind_some, Option.map_some]
    have hD := (B.2.2.2 t d hm).1
    simp only [D1] at hD
    rw [hD]
    rcases q_live B.1 (τ.1 129 t) with ⟨h1, h2, -⟩ | ⟨y, z, h1, h2, h3, h4, h5⟩
    · simp only [h1, h2, Option.bind_some, kmn_n, ↓reduceIte, wr, w2]
      exact fin
    · have hy := h2.1
      simp only [h4, h5, Option.bind_some, kmn_s, ↓reduceIte, q_10, q_mcK B.1 h2, q_mcP B.1 h2, P1, P2]
      rw [h1, q_btw1 hy hp ht, q_btw2 hy hp ht]
      cases hbt : btw y p t
      · simp only [Option.bind_some, bI_F, ↓reduceIte]
        exact ⟨σ, τ, t, d, rfl, rfl, B, KC.r σ, KR.r τ, hm, e1⟩
      · simp only [Option.bind_some, bI_T, q_10, ↓reduceIte, wr, w2]
        exact fin
theorem q_stable (B : Ro N rr σ τ) {p c : Nat} (h : Mc σ p c) : ∃ σ' τ' t d, fX1_stabiliseMember σ c = some σ' ∧ fX2_stable τ (nI p) = some (nI t, τ') ∧ Ro N rr σ' τ' ∧ KC σ σ' ∧ KR τ τ' ∧ Mc σ t d ∧ fX1_successor σ' c = some (some d) := by
  obtain ⟨q, d, k, k1, k2, hm, e1, e2⟩ := q_succ B h
  obtain ⟨σ1, τ1, f1, f2, B1', C1, R1⟩ := q_to B h hm
  have h' := C1.mc.mpr h
  have hm' := C1.mc.mpr hm
  have hk := q_mcK B.1 h
  have hk2 := q_mcK B.1 hm
  have hp := h.1
  have hq := hm.1
  simp (disch := omega) only [fX1_stabiliseMember, fX2_stable, e1, e2, f1, f2, kmn_s, hk, hk2, q_l2, q_l3, q_l4, q_l7, q_l8, q_l10, q_l17, q_l18, q_l20, q_l31, q_l40, q_l61, q_l64, q_l255, q_l256, q_leT, q_leF, q_ltT, q_ltF, q_ne, q_n0, q_0le, q_ne0, q_le0F, q_lt0T, q_nm1, q_ltm1, q_cl, q_cl0, q_vpE, q_add, q_s1, q_mul, q_nle, q_nlt, false_or, or_false, not_false_eq_true, if_true, if_false, ↓reduceIte, Option.bind_some, Option.map_some]
  have hD := (B1'.2.2.2 q d hm').1
  simp only [D1] at hD
  rw [hD]
  rcases q_live B1'.1 (τ1.1 129 q) with ⟨h1, h2, -⟩ | ⟨y, z, h1, h2, h3, h4, h5⟩
  · simp only [h1, h2, Option.bind_some, kmn_n, ↓reduceIte]
    obtain ⟨σ2, τ2, t, d', g1, g2, g3, g4, g5, g6, g7⟩ := q_tell B1' h'
    exact ⟨σ2, τ2, t, d', g1, g2, g3, C1.t g4, R1.t g5, C1.mc.mp g6, g7⟩
  · have hy := h2.1
    simp only [h4, h5, Option.bind_some, kmn_s, ↓reduceIte, q_10, q_mcK B1'.1 h2, q_mcP B1'.1 h2, q_mcP B1'.1 h', q_mcP B1'.1 hm']
    rw [h1, q_btw1 hp hy hq, q_btw2 hp hy hq]
    cases hbt : btw p y q
    · simp only [Option.bind_some, bI_F, ↓reduceIte]
      obtain ⟨σ2, τ2, t, d', g1, g2, g3, g4, g5, g6, g7⟩ := q_tell B1' h'
      exact ⟨σ2, τ2, t, d', g1, g2, g3, C1.t g4, R1.t g5, C1.mc.mp g6, g7⟩
    · simp only [Option.bind_some, bI_T, q_10, ↓reduceIte]
      obtain ⟨σ3, τ3, f3, f4, B3', C3, R3⟩ := q_to B1' h' h2
      simp only [f3, f4, Option.bind_some]
      obtain ⟨σ2, τ2, t, d', g1, g2, g3, g4, g5, g6, g7⟩ := q_tell B3' (C3.mc.mpr h')
      exact ⟨σ2, τ2, t, d', g1, g2, g3, (C1.t C3).t g4, (R1.t R3).t g5, C1.mc.mp (C3.mc.mp g6), g7⟩
end
