section
variable {N rr : Nat} {σ τ : kS}
theorem q_wf (B : Ro N rr σ τ) {q d i : Nat} (h : Mc σ q d) (hi : i < 8) (v : Int32) : Ro N rr (sI σ (d + 1 + 1) i v) (sI τ 130 (8 * q + i) v) ∧ KC σ (sI σ (d + 1 + 1) i v) ∧ KR τ (sI τ 130 (8 * q + i) v) := by
  have hk := q_mcK B.1 h
  have hb := q_cb hk
  have h1 : KC σ (sI σ (d + 1 + 1) i v) := KC_sI σ v (by omega) (by omega) (by omega) (by omega) (fun g => absurd g (q_kdn hk (by omega)))
  have h2 : KR τ (sI τ 130 (8 * q + i) v) := KR_sI τ v (by omega) (by omega) (by omega) (by omega)
  refine ⟨q_ro B h1 h2 ?_ ?_, h1, h2⟩
  · rw [sI_n (by omega), sI_n (by omega)]; exact q_h8 B
  · intro p c hm
    have hk' := q_mcK B.1 hm
    have hr := q_rr B
    have D := B.2.2.2 p c hm
    by_cases e : p = q
    · subst e
      have := q_mcU h hm
      subst this
      obtain ⟨d1, ⟨x, d2, d3, d4⟩, d5, d6, d7, d8⟩ := D
      refine ⟨?_, ⟨x, d2, ?_, ?_⟩, fun k hk => ?_, fun k hk => ?_, fun k hk => ?_, ?_⟩
      · simp only [D1]; rw [sI_n (by omega), sI_n (by omega)]; exact d1
      · rw [sI_n (by omega)]; exact d3
      · rw [sI_n (by omega)]; exact d4
      · rw [sI_n (by omega), sI_n (by omega)]; exact d5 k hk
      · by_cases e : k = i
        · subst e; rw [sI_e, sI_e]
        · rw [sI_n (by omega), sI_n (by omega)]; exact d6 k hk
      · rw [sI_n (by omega), sI_n (by omega), sI_n (by omega), sI_n (by omega), sI_n (by omega), sI_n (by omega)]; exact d7 k hk
      · obtain ⟨k, g1, q', g2, g3, g4⟩ := d8
        exact ⟨k, g1, q', g2, by rw [sI_n (by omega)]; exact g3, by rw [sI_n (by omega)]; exact g4⟩
    · have hn : d ≠ c := fun e' => e (by subst e'; exact q_mcI B.1 hm h)
      have ha := q_ap hk hk' hn
      refine q_dat D hr.2 (Nat.le_refl _) ?_ ?_ ?_ ?_ ?_ ?_ ?_ ?_ ?_ ?_ ?_
      · exact sI_n (by omega)
      · exact sI_n (by omega)
      · intro k _; exact sI_n (by omega)
      · intro k _; exact sI_n (by omega)
      · intro k _; exact ⟨sI_n (by omega), sI_n (by omega), sI_n (by omega)⟩
      · exact sI_n (by omega)
      · exact sI_n (by omega)
      · intro k _; exact sI_n (by omega)
      · intro k _; exact sI_n (by omega)
      · intro k _; exact ⟨sI_n (by omega), sI_n (by omega), sI_n (by omega)⟩
      · exact funext fun i => sI_n (by omega)
theorem q_wd (B : Ro N rr σ τ) {q d i : Nat} (h : Mc σ q d) (hi : i < 8) : Ro N rr (sI σ d 7 (nI i)) (sI τ 131 q (nI i)) ∧ KC σ (sI σ d 7 (nI i)) ∧ KR τ (sI τ 131 q (nI i)) := by
  have hk := q_mcK B.1 h
  have hb := q_cb hk
  have h1 : KC σ (sI σ d 7 (nI i)) := KC_sI σ _ (by omega) (by omega) (by omega) (by omega) (fun _ => by omega)
  have h2 : KR τ (sI τ 131 q (nI i)) := KR_sI τ _ (by omega) (by omega) (by omega) (by omega)
  refine ⟨q_ro B h1 h2 ?_ ?_, h1, h2⟩
  · rw [sI_n (by omega), sI_n (by omega)]; exact q_h8 B
  · intro p c hm
    have hk' := q_mcK B.1 hm
    have hr := q_rr B
    have D := B.2.2.2 p c hm
    by_cases e : p = q
    · subst e
      have := q_mcU h hm
      subst this
      obtain ⟨d1, ⟨x, d2, d3, d4⟩, d5, d6, d7, d8⟩ := D
      refine ⟨?_, ⟨i, hi, ?_, ?_⟩, fun k hk => ?_, fun k hk => ?_, fun k hk => ?_, ?_⟩
      · simp only [D1]; rw [sI_n (by omega), sI_n (by omega)]; exact d1
      · rw [sI_e]
      · rw [sI_e]
      · rw [sI_n (by omega), sI_n (by omega)]; exact d5 k hk
      · rw [sI_n (by omega), sI_n (by omega)]; exact d6 k hk
      · rw [sI_n (by omega), sI_n (by omega), sI_n (by omega), sI_n (by omega), sI_n (by omega), sI_n (by omega)]; exact d7 k hk
      · obtain ⟨k, g1, q', g2, g3, g4⟩ := d8
        exact ⟨k, g1, q', g2, by rw [sI_n (by omega)]; exact g3, by rw [sI_n (by omega)]; exact g4⟩
    · have hn : d ≠ c := fun e' => e (by subst e'; exact q_mcI B.1 hm h)
      have ha := q_ap hk hk' hn
      refine q_dat D hr.2 (Nat.le_refl _) ?_ ?_ ?_ ?_ ?_ ?_ ?_ ?_ ?_ ?_ ?_
      · exact sI_n (by omega)
      · exact sI_n (by omega)
      · intro k _; exact sI_n (by omega)
      · intro k _; exact sI_n (by omega)
      · intro k _; exact ⟨sI_n (by omega), sI_n (by omega), sI_n (by omega)⟩
      · exact sI_n (by omega)
      · exact sI_n (by omega)
      · intro k _; exact sI_n (by omega)
      · intro k _; exact sI_n (by omega)
      · intro k _; exact ⟨sI_n (by omega), sI_n (by omega), sI_n (by omega)⟩
      · exact funext fun i => sI_n (by omega)
def wC (σ : kS) (d k : Nat) (v o w : Int32) : kS := sI (sI (sI σ (d + 1 + 2) k v) (d + 1 + 3) k o) (d + 1 + 4) k w
def wR (τ : kS) (i : Nat) (v o w : Int32) : kS := sI (sI (sI τ 132 i v) 133 i o) 134 i w
theorem q_wv {N' : Nat} (B : Ro N rr σ τ) {q d i : Nat} (h : Mc σ q d) (hi : i < 64) (hN : N ≤ N') {v o w v' o' w' : Int32} (hP : Pr N' v o w v' o' w') : Ro N' rr (wC σ d i v o w) (wR τ (64 * q + i) v' o' w') ∧ KC σ (wC σ d i v o w) ∧ KR τ (wR τ (64 * q + i) v' o' w') := by
  have hk := q_mcK B.1 h
  have hb := q_cb hk
  have h1 : KC σ (wC σ d i v o w) := ((KC_sI σ v (by omega) (by omega) (by omega) (by omega) (fun g => absurd g (q_kdn hk (by omega)))).t (KC_sI _ o (by omega) (by omega) (by omega) (by omega) (fun g => absurd g (q_kdn hk (by omega))))).t (KC_sI _ w (by omega) (by omega) (by omega) (by omega) (fun g => absurd g (q_kdn hk (by omega))))
  have h2 : KR τ (wR τ (64 * q + i) v' o' w') := ((KR_sI τ v' (by omega) (by omega) (by omega) (by omega)).t (KR_sI _ o' (by omega) (by omega) (by omega) (by omega))).t (KR_sI _ w' (by omega) (by omega) (by omega) (by omega))
  have n1 : ∀ a j, (a ≠ d + 1 + 2 ∧ a ≠ d + 1 + 3 ∧ a ≠ d + 1 + 4 ∨ j ≠ i) → (wC σ d i v o w).1 a j = σ.1 a j := fun a j g => by
    simp only [wC]; rw [sI_n (by omega), sI_n (by omega), sI_n (by omega)]
  have n2 : ∀ a j, (a ≠ 132 ∧ a ≠ 133 ∧ a ≠ 134 ∨ j ≠ 64 * q + i) → (wR τ (64 * q + i) v' o' w').1 a j = τ.1 a j := fun a j g => by
    simp only [wR]; rw [sI_n (by omega), sI_n (by omega), sI_n (by omega)]
  refine ⟨q_ro B h1 h2 ?_ ?_, h1, h2⟩
  · rw [n1 _ _ (by omega), n2 _ _ (by omega)]; exact q_h8 B
  · intro p c hm
    have hk' := q_mcK B.1 hm
    have hr := q_rr B
    have D := B.2.2.2 p c hm
    by_cases e : p = q
    · subst e
      have := q_mcU h hm
      subst this
      obtain ⟨d1, ⟨x, d2, d3, d4⟩, d5, d6, d7, d8⟩ := D
      refine ⟨?_, ⟨x, d2, ?_, ?_⟩, fun k hk => ?_, fun k hk => ?_, fun k hk => ?_, ?_⟩
      · simp only [D1]; rw [n1 _ _ (by omega), n2 _ _ (by omega)]; exact d1
      · rw [n1 _ _ (by omega)]; exact d3
      · rw [n2 _ _ (by omega)]; exact d4
      · rw [n1 _ _ (by omega), n2 _ _ (by omega)]; exact d5 k hk
      · rw [n1 _ _ (by omega), n2 _ _ (by omega)]; exact d6 k hk
      · by_cases e : k = i
        · subst e
          have a1 : (wC σ d k v o w).1 (d + 1 + 2) k = v := by simp only [wC]; rw [sI_n (by omega), sI_n (by omega), sI_e]
          have a2 : (wC σ d k v o w).1 (d + 1 + 3) k = o := by simp only [wC]; rw [sI_n (by omega), sI_e]
          have a3 : (wC σ d k v o w).1 (d + 1 + 4) k = w := by simp only [wC]; rw [sI_e]
          have a4 : (wR τ (64 * p + k) v' o' w').1 132 (64 * p + k) = v' := by simp only [wR]; rw [sI_n (by omega), sI_n (by omega), sI_e]
          have a5 : (wR τ (64 * p + k) v' o' w').1 133 (64 * p + k) = o' := by simp only [wR]; rw [sI_n (by omega), sI_e]
          have a6 : (wR τ (64 * p + k) v' o' w').1 134 (64 * p + k) = w' := by simp only [wR]; rw [sI_e]
          rw [a1, a2, a3, a4, a5, a6]
          exact hP
        · rw [n1 _ _ (by omega), n1 _ _ (by omega), n1 _ _ (by omega), n2 _ _ (by omega), n2 _ _ (by omega), n2 _ _ (by omega)]; exact (d7 k hk).m hN
      · obtain ⟨k, g1, q', g2, g3, g4⟩ := d8
        exact ⟨k, g1, q', g2, by rw [n2 _ _ (by omega)]; exact g3, by rw [n2 _ _ (by omega)]; exact g4⟩
    · have hn : d ≠ c := fun e' => e (by subst e'; exact q_mcI B.1 hm h)
      have ha := q_ap hk hk' hn
      refine q_dat D hr.2 hN ?_ ?_ ?_ ?_ ?_ ?_ ?_ ?_ ?_ ?_ ?_
      · exact n1 _ _ (by omega)
      · exact n1 _ _ (by omega)
      · intro k _; exact n1 _ _ (by omega)
      · intro k _; exact n1 _ _ (by omega)
      · intro k _; exact ⟨n1 _ _ (by omega), n1 _ _ (by omega), n1 _ _ (by omega)⟩
      · exact n2 _ _ (by omega)
      · exact n2 _ _ (by omega)
      · intro k _; exact n2 _ _ (by omega)
      · intro k _; exact n2 _ _ (by omega)
      · intro k _; exact ⟨n2 _ _ (by omega), n2 _ _ (by omega), n2 _ _ (by omega)⟩
      · exact h2.2.2.1
theorem q_mend (B : Ro N rr σ τ) {p c i : Nat} (h : Mc σ p c) (hi : i < 8) : ∃ σ' τ' q, fX1_mendFinger σ c (nI i) = some σ' ∧ fX2_mended τ (nI p) (nI i) = some (nI q, τ') ∧ Ro N rr σ' τ' ∧ KC σ σ' ∧ KR τ τ' ∧ σ'.1 (c + 1 + 1) i = nI q ∧ σ'.1 c 7 = σ.1 c 7 ∧ τ'.1 131 p = τ.1 131 p := by
  have hp := h.1
  have hk := q_mcK B.1 h
  have hb := q_cb hk
  have hpw := q_pow hi
  obtain ⟨q, d, σ1, τ1, t, f1, f2, hm, B', hT, hU, -, -⟩ := q_look B h (x := (p + 2 ^ i) % 256) (Nat.mod_lt _ (by omega))
  have hm' := hT.k.mc.mpr hm
  have hq := hm.1
  obtain ⟨W1, W2, W3⟩ := q_wf B' (hT.k.mc.mpr h) hi (nI q)
  refine ⟨sI σ1 (c + 1 + 1) i (nI q), sI τ1 130 (8 * p + i) (nI q), q, ?_, ?_, W1, hT.k.t W2, hU.k.t W3, sI_e _ _ _ _, ?_, ?_⟩
  · simp (disch := omega) only [fX1_mendFinger, hk, q_mcP B.1 h, q_l31, q_shl, q_pu1, Option.bind_some, f1, q_mcK B'.1 hm', q_mcP B'.1 hm', q_l2, q_l3, q_l4, q_l7, q_l8, q_l10, q_l17, q_l18, q_l20, q_l31, q_l40, q_l61, q_l64, q_l255, q_l256, q_leT, q_leF, q_ltT, q_ltF, q_n0, q_0le, q_cl, q_cl0, q_vpE, q_add, q_s1, q_mul, q_nle, q_nlt, false_or, or_false, not_false_eq_true, if_true, if_false, ↓reduceIte, Option.bind_some, Option.map_some]
  · simp (disch := omega) only [fX2_mended, q_shl, q_rem, f2, sI_e, q_l2, q_l3, q_l4, q_l7, q_l8, q_l10, q_l17, q_l18, q_l20, q_l31, q_l40, q_l61, q_l64, q_l255, q_l256, q_leT, q_leF, q_ltT, q_ltF, q_ne, q_n0, q_0le, q_ne0, q_le0F, q_lt0T, q_nm1, q_ltm1, q_cl, q_cl0, q_vpE, q_add, q_s1, q_mul, q_nle, q_nlt, false_or, or_false, not_false_eq_true, if_true, if_false, ↓reduceIte, Option.bind_some, Option.map_some]
  · rw [sI_n (by omega)]; exact hT.2 _ _ (by omega) (by omega)
  · rw [sI_n (by omega)]; exact hU.2 _ _ (by omega) (by omega)
def hgh (v o v' o' : Int32) : Prop := v' < v ∨ (v = v' ∧ o' < o)
theorem q_hi (B : Ro N rr σ τ) (hN : N < 2147483648) {p c q d i : Nat} (h : Mc σ p c) (g : Mc σ q d) (hi : i < 64) : ∃ b : Bool, fX1_isHigher σ c d (nI i) = some (bI b) ∧ fX2_higher τ (nI (64 * p + i)) (nI (64 * q + i)) = some (bI b) ∧ (c = d → b = false) ∧ (τ.1 132 (64 * p + i) = 0 → b = false) := by
  have hp := h.1
  have hq := g.1
  have hk := q_mcK B.1 h
  have hk2 := q_mcK B.1 g
  obtain ⟨n, n1, n2, n3, n4, n5⟩ := (B.2.2.2 p c h).2.2.2.2.1 i hi
  obtain ⟨m, m1, m2, m3, m4, m5⟩ := (B.2.2.2 q d g).2.2.2.2.1 i hi
  simp (disch := omega) only [fX1_isHigher, fX2_higher, fX2_higher_54, hk, hk2, q_l2, q_l3, q_l4, q_l7, q_l8, q_l10, q_l17, q_l18, q_l20, q_l31, q_l40, q_l61, q_l64, q_l255, q_l256, q_leT, q_leF, q_ltT, q_ltF, q_n0, q_0le, q_cl, q_cl0, q_vpE, q_add, q_s1, q_mul, q_nle, q_nlt, false_or, or_false, not_false_eq_true, if_true, if_false, ↓reduceIte, Option.bind_some, Option.map_some]
  rw [n2, m2, n3, m3]
  have z0 : nI n = 0 → n = 0 := fun e => q_inj (b := 0) (by omega) (by omega) e
  rcases Nat.lt_trichotomy n m with hlt | rfl | hgt
  · refine ⟨false, ?_, ?_, fun _ => rfl, fun _ => rfl⟩
    · simp (disch := omega) only [q_l2, q_l3, q_l4, q_l7, q_l8, q_l10, q_l17, q_l18, q_l20, q_l31, q_l40, q_l61, q_l64, q_l255, q_l256, q_leT, q_leF, q_ltT, q_ltF, q_ne, q_n0, q_0le, q_ne0, q_le0F, q_lt0T, q_nm1, q_ltm1, q_cl, q_cl0, q_vpE, q_add, q_s1, q_mul, q_nle, q_nlt, false_or, or_false, not_false_eq_true, if_true, if_false, ↓reduceIte, Option.bind_some, Option.map_some]; rfl
    · simp (disch := omega) only [q_l2, q_l3, q_l4, q_l7, q_l8, q_l10, q_l17, q_l18, q_l20, q_l31, q_l40, q_l61, q_l64, q_l255, q_l256, q_leT, q_leF, q_ltT, q_ltF, q_ne, q_n0, q_0le, q_ne0, q_le0F, q_lt0T, q_nm1, q_ltm1, q_cl, q_cl0, q_vpE, q_add, q_s1, q_mul, q_nle, q_nlt, false_or, or_false, not_false_eq_true, if_true, if_false, ↓reduceIte, Option.bind_some, Option.map_some]; rfl
  · simp only [↓reduceIte]
    rw [if_neg (fun e : nI n < nI n => absurd (Int32.lt_iff_toInt_lt.mp e) (by omega))]
    by_cases hz : n = 0
    · subst hz
      rw [(n4 rfl).1, (m4 rfl).1]
      refine ⟨false, ?_, ?_, fun _ => rfl, fun _ => rfl⟩
      · rw [if_pos (Int32.le_refl _)]; rfl
      · rw [if_pos (by decide)]; rfl
    · rw [if_neg (q_le0F (by omega) (by omega)), (n5 (by omega)).1, (m5 (by omega)).1]
      by_cases hle : τ.1 133 (64 * p + i) ≤ τ.1 133 (64 * q + i)
      · rw [if_pos hle]; exact ⟨false, rfl, rfl, fun _ => rfl, fun _ => rfl⟩
      · rw [if_neg hle]
        refine ⟨true, rfl, rfl, fun e => ?_, fun e => absurd (z0 e) hz⟩
        exfalso
        subst e
        have := q_mcI B.1 h g
        subst this
        exact hle (Int32.le_refl _)
  · refine ⟨true, ?_, ?_, fun e => ?_, fun e => ?_⟩
    · simp (disch := omega) only [q_l2, q_l3, q_l4, q_l7, q_l8, q_l10, q_l17, q_l18, q_l20, q_l31, q_l40, q_l61, q_l64, q_l255, q_l256, q_leT, q_leF, q_ltT, q_ltF, q_ne, q_n0, q_0le, q_ne0, q_le0F, q_lt0T, q_nm1, q_ltm1, q_cl, q_cl0, q_vpE, q_add, q_s1, q_mul, q_nle, q_nlt, false_or, or_false, not_false_eq_true, if_true, if_false, ↓reduceIte, Option.bind_some, Option.map_some]; rfl
    · simp (disch := omega) only [q_l2, q_l3, q_l4, q_l7, q_l8, q_l10, q_l17, q_l18, q_l20, q_l31, q_l40, q_l61, q_l64, q_l255, q_l256, q_leT, q_leF, q_ltT, q_ltF, q_ne, q_n0, q_0le, q_ne0, q_le0F, q_lt0T, q_nm1, q_ltm1, q_cl, q_cl0, q_vpE, q_add, q_s1, q_mul, q_nle, q_nlt, false_or, or_false, not_false_eq_true, if_true, if_false, ↓reduceIte, Option.bind_some, Option.map_some]; rfl
    · exfalso
      subst e
      have := q_mcI B.1 h g
      subst this
      have := q_inj (by omega) (by omega) (n2.symm.trans m2)
      omega
    · have := z0 e; omega
theorem q_cp (B : Ro N rr σ τ) (hN : N < 2147483648) {p c q d i : Nat} (h : Mc σ p c) (g : Mc σ q d) (hi : i < 64) : ∃ (b : Bool) (σ' τ' : kS), fX1_copyIfHigher σ c d (nI i) = some (bI b, σ') ∧ fX2_higher τ (nI (64 * p + i)) (nI (64 * q + i)) = some (bI b) ∧ (b = false → σ' = σ ∧ τ' = τ) ∧ (b = true → fX2_copy τ (nI (64 * p + i)) (nI (64 * q + i)) = some τ') ∧ (c = d → b = false) ∧ (τ.1 132 (64 * p + i) = 0 → b = false) ∧ Ro N rr σ' τ' ∧ KC σ σ' ∧ KR τ τ' ∧ (∀ a, a ≠ d + 1 + 2 → a ≠ d + 1 + 3 → a ≠ d + 1 + 4 → σ'.1 a = σ.1 a) ∧ (∀ a, a ≠ 132 → a ≠ 133 → a ≠ 134 → τ'.1 a = τ.1 a) ∧ (∀ a j, j ≠ 64 * q + i → τ'.1 a j = τ.1 a j) := by
  have hp := h.1
  have hq := g.1
  have hk := q_mcK B.1 h
  have hk2 := q_mcK B.1 g
  obtain ⟨b, h1, h2, h3, h4⟩ := q_hi B hN h g hi
  cases b
  · refine ⟨false, σ, τ, ?_, h2, fun _ => ⟨rfl, rfl⟩, fun e => (by cases e), fun _ => rfl, fun _ => rfl, B, KC.r σ, KR.r τ, fun _ _ _ _ => rfl, fun _ _ _ _ => rfl, fun _ _ _ => rfl⟩
    simp only [fX1_copyIfHigher, h1, Option.bind_some, bI_F, ↓reduceIte]
  · have hne : c ≠ d := fun e => by have := h3 e; cases this
    have ha := q_ap hk hk2 hne
    have hpq : p ≠ q := fun e => hne (by subst e; exact q_mcU h g)
    have hP := (B.2.2.2 p c h).2.2.2.2.1 i hi
    obtain ⟨W1, W2, W3⟩ := q_wv B g hi (Nat.le_refl N) hP
    refine ⟨true, _, _, ?_, h2, fun e => (by cases e), fun _ => ?_, h3, h4, W1, W2, W3, fun a a1 a2 a3 => ?_, fun a a1 a2 a3 => ?_, fun a j hj => ?_⟩
    · simp (disch := omega) only [fX1_copyIfHigher, h1, bI_T, q_10, hk, hk2, q_l2, q_l3, q_l4, q_l7, q_l8, q_l10, q_l17, q_l18, q_l20, q_l31, q_l40, q_l61, q_l64, q_l255, q_l256, q_leT, q_leF, q_ltT, q_ltF, q_n0, q_0le, q_cl, q_cl0, q_vpE, q_add, q_s1, q_mul, q_nle, q_nlt, false_or, or_false, not_false_eq_true, if_true, if_false, ↓reduceIte, Option.bind_some, Option.map_some]
      rw [sI_n (by omega), sI_n (by omega), sI_n (by omega)]
      rfl
    · simp (disch := omega) only [fX2_copy, q_l2, q_l3, q_l4, q_l7, q_l8, q_l10, q_l17, q_l18, q_l20, q_l31, q_l40, q_l61, q_l64, q_l255, q_l256, q_leT, q_leF, q_ltT, q_ltF, q_n0, q_0le, q_cl, q_cl0, q_vpE, q_add, q_s1, q_mul, q_nle, q_nlt, false_or, or_false, not_false_eq_true, if_true, if_false, ↓reduceIte, Option.bind_some, Option.map_some]
      rw [sI_n (by omega), sI_n (by omega), sI_n (by omega)]
      rfl
    · exact funext fun j => by simp only [wC]; rw [sI_n (by omega), sI_n (by omega), sI_n (by omega)]
    · exact funext fun j => by simp only [wR]; rw [sI_n (by omega), sI_n (by omega), sI_n (by omega)]
    · simp only [wR]; rw [sI_n (by omega), sI_n (by omega), sI_n (by omega)]
end
