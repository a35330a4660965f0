section
variable {N rr : Nat} {σ τ : kS}
theorem q_bas1 (B : Bas rr σ τ) {s : kS} (h : KC σ s) (h8 : s.1 0 11 = σ.1 0 11) : Bas rr s τ := q_bas B h (KR.r τ) (by rw [h8]; exact B.2.2.2.2.2.2.2)
theorem q_op1 (B : Bas rr σ τ) {s : kS} (hK : KC σ s) (h11 : s.1 0 11 = σ.1 0 11) {i c : Nat} (hi : i < (lvl τ).length) (hc : kd c = (0, 0, 8)) : ∃ s', kit (fX1_open_57 (nI i) (some c)) 300 (0, s) = some (.inl (nI (i + 1), s')) ∧ KC σ s' ∧ s'.1 0 11 = σ.1 0 11 ∧ (∀ k, k < rr → s'.1 (c + 1) k = nI (pt τ ((i + 1 + k) % (lvl τ).length))) ∧ s'.1 c 6 = nI (pt τ ((i + (lvl τ).length - 1) % (lvl τ).length)) ∧ ∀ a j, a ≠ c + 1 → (a = c → j ≠ 6) → s'.1 a j = s.1 a j := by
  obtain ⟨r1, r2, r3, -⟩ := B.1
  have n1 := B.2.2.1.1
  have hb := q_cb hc
  have key := q_inv (body := fX1_open_57 (nI i) (some c)) (a := (0, s))
    (fun k b => b.1 = nI k ∧ KC σ b.2 ∧ b.2.1 0 11 = σ.1 0 11 ∧ (∀ j, j < k → b.2.1 (c + 1) j = nI (pt τ ((i + 1 + j) % (lvl τ).length))) ∧ ∀ a j, a ≠ c + 1 → b.2.1 a j = s.1 a j)
    (fun y => ∃ s', y = .inl (nI (i + 1), s') ∧ KC σ s' ∧ s'.1 0 11 = σ.1 0 11 ∧ (∀ k, k < rr → s'.1 (c + 1) k = nI (pt τ ((i + 1 + k) % (lvl τ).length))) ∧ s'.1 c 6 = nI (pt τ ((i + (lvl τ).length - 1) % (lvl τ).length)) ∧ ∀ a j, a ≠ c + 1 → (a = c → j ≠ 6) → s'.1 a j = s.1 a j) rr (by omega) ?_ ?_ ?_
  · obtain ⟨y, k1, s', rfl, k2⟩ := key
    exact ⟨s', k1, k2⟩
  · exact ⟨rfl, hK, h11, fun j hj => absurd hj (Nat.not_lt_zero j), fun _ _ _ => rfl⟩
  · rintro k ⟨u, s2⟩ hk ⟨e1, e2, e3, e4, e5⟩
    dsimp only at e1 e2 e3 e4 e5
    subst e1
    left
    have B2' := q_bas1 B e2 e3
    have r3' : s2.1 0 7 = nI rr := B2'.1.2.2.1
    have ht := q_turnp B2' (a := i + 1 + k) (by omega) (by omega)
    simp (disch := omega) only [fX1_open_57, gX1_open_57, r3', hc, ht, q_l2, q_l3, q_l4, q_l7, q_l8, q_l10, q_l17, q_l18, q_l20, q_l31, q_l40, q_l61, q_l64, q_l255, q_l256, q_leT, q_leF, q_ltT, q_ltF, q_n0, q_0le, q_cl, q_cl0, q_vpE, q_add, q_s1, q_mul, q_nle, q_nlt, false_or, or_false, not_false_eq_true, if_true, if_false, ↓reduceIte, Option.bind_some, Option.map_some]
    refine ⟨_, rfl, ?_⟩
    refine ⟨rfl, e2.t (KC_sI s2 _ (by omega) (by omega) (by omega) (by omega) (fun g => absurd g (q_kdn hc (by omega)))), ?_, fun j hj => ?_, fun a j ha => ?_⟩
    · show (sI s2 _ _ _).1 0 11 = _
      rw [sI_n (by omega)]; exact e3
    · show (sI s2 (c + 1) _ _).1 (c + 1) j = _
      by_cases e : j = k
      · subst e; rw [sI_e]
      · rw [sI_n (by omega)]; exact e4 j (by omega)
    · show (sI s2 (c + 1) _ _).1 a j = _
      rw [sI_n (by omega)]; exact e5 a j ha
  · rintro ⟨u, s2⟩ ⟨e1, e2, e3, e4, e5⟩
    dsimp only at e1 e2 e3 e4 e5
    subst e1
    have B2' := q_bas1 B e2 e3
    have r3' : s2.1 0 7 = nI rr := B2'.1.2.2.1
    have ht := q_turnb B2' hi
    simp (disch := omega) only [fX1_open_57, gX1_open_57, r3', hc, ht, q_l2, q_l3, q_l4, q_l7, q_l8, q_l10, q_l17, q_l18, q_l20, q_l31, q_l40, q_l61, q_l64, q_l255, q_l256, q_leT, q_leF, q_ltT, q_ltF, q_n0, q_0le, q_cl, q_cl0, q_vpE, q_add, q_s1, q_mul, q_nle, q_nlt, false_or, or_false, not_false_eq_true, if_true, if_false, ↓reduceIte, Option.bind_some, Option.map_some]
    refine ⟨_, rfl, _, rfl, e2.t (KC_sI s2 _ (by omega) (by omega) (by omega) (by omega) (fun g => by omega)), ?_, fun j hj => ?_, sI_e _ _ _ _, fun a j ha hb => ?_⟩
    · rw [sI_n (by omega)]; exact e3
    · rw [sI_n (by omega)]; exact e4 j hj
    · rw [sI_n (by by_cases e : a = c; exact Or.inr (hb e); exact Or.inl e)]; exact e5 a j ha
theorem q_opC (B : Bas rr σ τ) (h0 : 0 < (lvl τ).length) : ∃ s, kit fX1_open_40 300 (0, σ) = some (.inr (nI (lvl τ).length), sI s 0 8 1) ∧ KC σ s ∧ s.1 0 11 = σ.1 0 11 ∧ (∀ i, i < (lvl τ).length → ∀ c, σ.2.1 1 i = some c → (∀ k, k < rr → s.1 (c + 1) k = nI (pt τ ((i + 1 + k) % (lvl τ).length))) ∧ s.1 c 6 = nI (pt τ ((i + (lvl τ).length - 1) % (lvl τ).length))) ∧ ∀ a j, (∀ d, kd d = (0, 0, 8) → a ≠ d + 1 ∧ (a = d → j ≠ 6)) → s.1 a j = σ.1 a j := by
  have n1 := B.2.2.1.1
  have key := q_inv (body := fX1_open_40) (a := (0, σ))
    (fun i b => b.1 = nI i ∧ KC σ b.2 ∧ b.2.1 0 11 = σ.1 0 11 ∧ (∀ i', i' < i → ∀ c, σ.2.1 1 i' = some c → (∀ k, k < rr → b.2.1 (c + 1) k = nI (pt τ ((i' + 1 + k) % (lvl τ).length))) ∧ b.2.1 c 6 = nI (pt τ ((i' + (lvl τ).length - 1) % (lvl τ).length))) ∧ ∀ a j, (∀ d, kd d = (0, 0, 8) → a ≠ d + 1 ∧ (a = d → j ≠ 6)) → b.2.1 a j = σ.1 a j)
    (fun y => ∃ s, y = (.inr (nI (lvl τ).length), sI s 0 8 1) ∧ KC σ s ∧ s.1 0 11 = σ.1 0 11 ∧ (∀ i, i < (lvl τ).length → ∀ c, σ.2.1 1 i = some c → (∀ k, k < rr → s.1 (c + 1) k = nI (pt τ ((i + 1 + k) % (lvl τ).length))) ∧ s.1 c 6 = nI (pt τ ((i + (lvl τ).length - 1) % (lvl τ).length))) ∧ ∀ a j, (∀ d, kd d = (0, 0, 8) → a ≠ d + 1 ∧ (a = d → j ≠ 6)) → s.1 a j = σ.1 a j) (lvl τ).length (by omega) ?_ ?_ ?_
  · obtain ⟨y, k1, s, rfl, k2⟩ := key
    exact ⟨s, k1, k2⟩
  · exact ⟨rfl, KC.r σ, rfl, fun j hj => absurd hj (Nat.not_lt_zero j), fun _ _ _ => rfl⟩
  · rintro i ⟨u, s⟩ hi ⟨e1, e2, e3, e4, e5⟩
    dsimp only at e1 e2 e3 e4 e5
    subst e1
    left
    obtain ⟨c, m1, m2⟩ := q_rowi B hi
    have hck := q_mcK B m1
    obtain ⟨s', f1, f2, f3, f4, f5, f6⟩ := q_op1 B e2 e3 hi hck
    have n2' : s.1 0 9 = nI (lvl τ).length := (q_bas1 B e2 e3).2.2.1.2.1
    have m2' : s.2.1 1 i = some c := by rw [e2.1]; exact m2
    simp (disch := omega) only [fX1_open_40, gX1_open_40, n2', m2', f1, q_l2, q_l3, q_l4, q_l7, q_l8, q_l10, q_l17, q_l18, q_l20, q_l31, q_l40, q_l61, q_l64, q_l255, q_l256, q_leT, q_leF, q_ltT, q_ltF, q_n0, q_0le, q_cl, q_cl0, q_vpE, q_add, q_s1, q_mul, q_nle, q_nlt, false_or, or_false, not_false_eq_true, if_true, if_false, ↓reduceIte, Option.bind_some, Option.map_some]
    refine ⟨_, rfl, rfl, f2, f3, fun i' hi' c' hc' => ?_, fun a j h => ?_⟩
    · by_cases e : i' = i
      · subst e
        have : c' = c := Option.some.inj (hc'.symm.trans m2)
        subst this
        exact ⟨f4, f5⟩
      · obtain ⟨d1, d2⟩ := e4 i' (by omega) c' hc'
        obtain ⟨c2, m3, m4⟩ := q_rowi B (show i' < (lvl τ).length by omega)
        have : c' = c2 := Option.some.inj (hc'.symm.trans m4)
        subst this
        have hne : c' ≠ c := by
          intro e'
          subst e'
          have := q_mcI B m3 m1
          rcases Nat.lt_or_ge i' i with g | g
          · have := pt_lt (τ := τ) g hi; omega
          · have := pt_lt (τ := τ) (show i < i' by omega) (by omega); omega
        have hap := q_ap (q_mcK B m3) hck hne
        dsimp only
        refine ⟨fun k hk => ?_, ?_⟩
        · rw [f6 _ _ (by omega) (by omega)]; exact d1 k hk
        · rw [f6 _ _ (by omega) (by omega)]; exact d2
    · obtain ⟨g1, g2⟩ := h c hck
      dsimp only
      rw [f6 a j g1 g2]
      exact e5 a j h
  · rintro ⟨u, s⟩ ⟨e1, e2, e3, e4, e5⟩
    dsimp only at e1 e2 e3 e4 e5
    subst e1
    have n2' : s.1 0 9 = nI (lvl τ).length := (q_bas1 B e2 e3).2.2.1.2.1
    have n2'' : (sI s 0 8 1).1 0 9 = nI (lvl τ).length := by rw [sI_n (by omega)]; exact n2'
    simp (disch := omega) only [fX1_open_40, gX1_open_40, n2', n2'', q_l2, q_l3, q_l4, q_l7, q_l8, q_l10, q_l17, q_l18, q_l20, q_l31, q_l40, q_l61, q_l64, q_l255, q_l256, q_leT, q_leF, q_ltT, q_ltF, q_n0, q_0le, q_cl, q_cl0, q_vpE, q_add, q_s1, q_mul, q_nle, q_nlt, false_or, or_false, not_false_eq_true, if_true, if_false, ↓reduceIte, Option.bind_some, Option.map_some]
    exact ⟨_, rfl, s, rfl, e2, e3, e4, e5⟩
def OpR (rr : Nat) (τ s : kS) (p : Nat) : Prop := s.1 129 p = nI (pt τ ((cnb τ p + (lvl τ).length - 1) % (lvl τ).length)) ∧ (∀ k, k < rr → s.1 128 (4 * p + k) = nI (pt τ ((cnb τ p + 1 + k) % (lvl τ).length))) ∧ (∀ k, k < 8 → s.1 130 (8 * p + k) = -1) ∧ s.1 131 p = 0 ∧ ∀ k, k < 64 → s.1 132 (64 * p + k) = 0
theorem q_op2 {τ0 s : kS} (hr : rr ≤ 4) (hr1 : τ0.1 126 1 = nI rr) (hs : KR τ0 s) {p : Nat} (hp : p < 256) (hl : τ0.1 127 p = 1) : ∃ s1 s', fX2_empty s (nI p) = some s1 ∧ kit (fX2_open_67 (nI p)) 300 (nI p, 0, s1) = some (.inl (nI (p + 1), s')) ∧ KR τ0 s' ∧ OpR rr τ0 s' p ∧ (∀ q, q < 256 → q ≠ p → OpR rr τ0 s q → OpR rr τ0 s' q) ∧ s'.1 126 14 = s.1 126 14 := by
  obtain ⟨s1, t1, t2, t3, t4, t5, t6, t7⟩ := q_empty (τ := s) hp
  have hs1 : KR τ0 s1 := hs.t ⟨t2, fun a ha => funext fun j => t7 _ _ (by omega) (by omega) (by omega) (by omega), funext fun j => t7 _ _ (by omega) (by omega) (by omega) (by omega), funext fun j => t7 _ _ (by omega) (by omega) (by omega) (by omega), fun j _ _ => t7 _ _ (by omega) (by omega) (by omega) (by omega)⟩
  obtain ⟨hi, hpi⟩ := pt_cnb hp hl
  have key := q_inv (body := fX2_open_67 (nI p)) (a := (nI p, 0, s1))
    (fun k b => b.1 = nI (pt τ0 ((cnb τ0 p + k) % (lvl τ0).length)) ∧ b.2.1 = nI k ∧ b.2.2.2 = s1.2 ∧ (∀ j, j < k → b.2.2.1 128 (4 * p + j) = nI (pt τ0 ((cnb τ0 p + 1 + j) % (lvl τ0).length))) ∧ ∀ a j, (a = 128 → j < 4 * p ∨ 4 * p + rr ≤ j) → b.2.2.1 a j = s1.1 a j)
    (fun y => ∃ s' : kS, y = .inl (nI (p + 1), s') ∧ s'.2 = s1.2 ∧ s'.1 129 p = nI (pt τ0 ((cnb τ0 p + (lvl τ0).length - 1) % (lvl τ0).length)) ∧ (∀ j, j < rr → s'.1 128 (4 * p + j) = nI (pt τ0 ((cnb τ0 p + 1 + j) % (lvl τ0).length))) ∧ ∀ a j, (a = 128 → j < 4 * p ∨ 4 * p + rr ≤ j) → (a = 129 → j ≠ p) → s'.1 a j = s1.1 a j) rr (by omega) ?_ ?_ ?_
  · obtain ⟨y, k1, s', rfl, k2, k3, k4, k5⟩ := key
    have T : ∀ a j, (a = 128 → j < 4 * p ∨ 4 * p + rr ≤ j) → (a = 129 → j ≠ p) → (a = 131 → j ≠ p) → (a = 130 → j < 8 * p ∨ 8 * p + 8 ≤ j) → (a = 132 → j < 64 * p ∨ 64 * p + 64 ≤ j) → s'.1 a j = s.1 a j := fun a j h1 h2 h3 h4 h5 => by
      rw [k5 a j h1 h2, t7 a j h2 h3 h4 h5]
    refine ⟨s1, s', t1, k1, hs1.t ⟨k2, fun a ha => funext fun j => k5 _ _ (by omega) (by omega), funext fun j => k5 _ _ (by omega) (by omega), funext fun j => k5 _ _ (by omega) (by omega), fun j _ _ => k5 _ _ (by omega) (by omega)⟩, ⟨k3, k4, fun k hk => ?_, ?_, fun k hk => ?_⟩, ?_, ?_⟩
    · rw [k5 _ _ (by omega) (by omega)]; exact t5 k hk
    · rw [k5 _ _ (by omega) (by omega)]; exact t4
    · rw [k5 _ _ (by omega) (by omega)]; exact t6 k hk
    · rintro q hq hne ⟨o1, o2, o3, o4, o5⟩
      refine ⟨?_, fun k hk => ?_, fun k hk => ?_, ?_, fun k hk => ?_⟩
      · rw [T _ _ (by omega) (by omega) (by omega) (by omega) (by omega)]; exact o1
      · rw [T _ _ (by omega) (by omega) (by omega) (by omega) (by omega)]; exact o2 k hk
      · rw [T _ _ (by omega) (by omega) (by omega) (by omega) (by omega)]; exact o3 k hk
      · rw [T _ _ (by omega) (by omega) (by omega) (by omega) (by omega)]; exact o4
      · rw [T _ _ (by omega) (by omega) (by omega) (by omega) (by omega)]; exact o5 k hk
    · exact T _ _ (by omega) (by omega) (by omega) (by omega) (by omega)
  · refine ⟨?_, rfl, rfl, fun j hj => absurd hj (Nat.not_lt_zero j), fun _ _ _ => rfl⟩
    rw [Nat.add_zero, Nat.mod_eq_of_lt hi, hpi]
  · rintro k ⟨u, v, s2⟩ hk ⟨e1, e2, e3, e4, e5⟩
    dsimp only at e1 e2 e3 e4 e5
    subst e1 e2
    left
    have e127 : s2.1 127 = τ0.1 127 := by
      rw [show s2.1 127 = s1.1 127 from funext fun j => e5 _ _ (by omega)]; exact hs1.2.2.1
    have er1 : s2.1 126 1 = nI rr := by rw [e5 _ _ (by omega), hs1.2.2.2.2 1 (by omega) (by omega)]; exact hr1
    have hm : (cnb τ0 p + k) % (lvl τ0).length < (lvl τ0).length := Nat.mod_lt _ (by omega)
    have hy := pt_lv hm
    have hnx := nx_s (τ := τ0) hm
    have hnext : fX2_next s2 (nI ((pt τ0 ((cnb τ0 p + k) % (lvl τ0).length) + 1) % 256)) = some (nI (pt τ0 ((cnb τ0 p + (k + 1)) % (lvl τ0).length))) := by
      rcases q_next (τ := s2) (x := (pt τ0 ((cnb τ0 p + k) % (lvl τ0).length) + 1) % 256) (Nat.mod_lt _ (by omega)) with ⟨y, g1, g2⟩ | ⟨-, g2⟩
      · rw [g1]
        simp only [NX, e127] at g2
        have := NX.u (τ := τ0) (Nat.mod_lt _ (by omega)) g2 hnx
        rw [this, Nat.mod_add_mod]
        rfl
      · exact absurd (by rw [e127]; exact hl) (g2 p hp)
    simp (disch := omega) only [fX2_open_67, gX2_open_67, er1, q_rem, hnext, q_l2, q_l3, q_l4, q_l7, q_l8, q_l10, q_l17, q_l18, q_l20, q_l31, q_l40, q_l61, q_l64, q_l255, q_l256, q_leT, q_leF, q_ltT, q_ltF, q_n0, q_0le, q_cl, q_cl0, q_vpE, q_add, q_s1, q_mul, q_nle, q_nlt, false_or, or_false, not_false_eq_true, if_true, if_false, ↓reduceIte, Option.bind_some, Option.map_some]
    refine ⟨_, rfl, ?_⟩
    refine ⟨rfl, rfl, e3, fun j hj => ?_, fun a j ha => ?_⟩
    · show (sI s2 128 _ _).1 128 _ = _
      by_cases e : j = k
      · subst e; rw [sI_e, show cnb τ0 p + (j + 1) = cnb τ0 p + 1 + j by omega]
      · rw [sI_n (by omega)]; exact e4 j (by omega)
    · show (sI s2 128 _ _).1 a j = _
      rw [sI_n (by omega)]; exact e5 a j ha
  · rintro ⟨u, v, s2⟩ ⟨e1, e2, e3, e4, e5⟩
    dsimp only at e1 e2 e3 e4 e5
    subst e1 e2
    have e127 : s2.1 127 = τ0.1 127 := by
      rw [show s2.1 127 = s1.1 127 from funext fun j => e5 _ _ (by omega)]; exact hs1.2.2.1
    have er1 : s2.1 126 1 = nI rr := by rw [e5 _ _ (by omega), hs1.2.2.2.2 1 (by omega) (by omega)]; exact hr1
    have hlx := lx_s (τ := τ0) hi
    rw [hpi] at hlx
    have hlast : fX2_last s2 (nI ((p + 255) % 256)) = some (nI (pt τ0 ((cnb τ0 p + (lvl τ0).length - 1) % (lvl τ0).length))) := by
      rcases q_prev (τ := s2) (x := (p + 255) % 256) (Nat.mod_lt _ (by omega)) with ⟨y, g1, g2⟩ | ⟨-, g2⟩
      · rw [g1]
        simp only [LX, e127] at g2
        have := LX.u (τ := τ0) (Nat.mod_lt _ (by omega)) g2 hlx
        rw [this]
      · exact absurd (by rw [e127]; exact hl) (g2 p hp)
    simp (disch := omega) only [fX2_open_67, gX2_open_67, fX2_open_123, er1, q_rem, hlast, q_l2, q_l3, q_l4, q_l7, q_l8, q_l10, q_l17, q_l18, q_l20, q_l31, q_l40, q_l61, q_l64, q_l255, q_l256, q_leT, q_leF, q_ltT, q_ltF, q_n0, q_0le, q_cl, q_cl0, q_vpE, q_add, q_s1, q_mul, q_nle, q_nlt, false_or, or_false, not_false_eq_true, if_true, if_false, ↓reduceIte, Option.bind_some, Option.map_some]
    refine ⟨_, rfl, _, rfl, e3, sI_e _ _ _ _, fun j hj => ?_, fun a j ha hb => ?_⟩
    · rw [sI_n (by omega)]; exact e4 j hj
    · rw [sI_n (by by_cases e : a = 129; exact Or.inr (hb e); exact Or.inl e)]; exact e5 a j ha
theorem q_opR {τ0 : kS} (hr : rr ≤ 4) (hr1 : τ0.1 126 1 = nI rr) (h20 : (lvl τ0).length ≤ 20) : ∃ s', kit fX2_open_41 300 (0, τ0) = some (nI (lvl τ0).length, s') ∧ KR τ0 s' ∧ (∀ q, q < 256 → τ0.1 127 q = 1 → OpR rr τ0 s' q) ∧ s'.1 126 14 = τ0.1 126 14 := by
  have key := q_inv (body := fX2_open_41) (a := (0, τ0)) (fun p b => b.1 = nI p ∧ KR τ0 b.2 ∧ (∀ q, q < p → τ0.1 127 q = 1 → OpR rr τ0 b.2 q) ∧ b.2.1 126 14 = τ0.1 126 14)
    (fun y => ∃ s', y = (nI (lvl τ0).length, s') ∧ KR τ0 s' ∧ (∀ q, q < 256 → τ0.1 127 q = 1 → OpR rr τ0 s' q) ∧ s'.1 126 14 = τ0.1 126 14) 256 (by omega) ?_ ?_ ?_
  · obtain ⟨y, k1, s', rfl, k2⟩ := key
    exact ⟨s', k1, k2⟩
  · exact ⟨rfl, KR.r τ0, fun q hq => absurd hq (Nat.not_lt_zero q), rfl⟩
  · rintro p ⟨u, s⟩ hp ⟨e1, e2, e3, e4⟩
    dsimp only at e1 e2 e3 e4
    subst e1
    left
    simp (disch := omega) only [fX2_open_41, gX2_open_41, fX2_open_123, q_l2, q_l3, q_l4, q_l7, q_l8, q_l10, q_l17, q_l18, q_l20, q_l31, q_l40, q_l61, q_l64, q_l255, q_l256, q_leT, q_leF, q_ltT, q_ltF, q_n0, q_0le, q_cl, q_cl0, q_vpE, q_add, q_s1, q_mul, q_nle, q_nlt, false_or, or_false, not_false_eq_true, if_true, if_false, ↓reduceIte, Option.bind_some, Option.map_some]
    rw [e2.2.2.1]
    by_cases hl : τ0.1 127 p = 1
    · rw [if_pos hl]
      obtain ⟨s1, s', f1, f2, f3, f4, f5, f6⟩ := q_op2 hr hr1 e2 hp hl
      rw [f1]
      simp only [Option.bind_some, f2]
      refine ⟨_, rfl, rfl, f3, fun q hq hql => ?_, f6.trans e4⟩
      by_cases e : q = p
      · subst e; exact f4
      · exact f5 q (by omega) e (e3 q (by omega) hql)
    · rw [if_neg hl]
      refine ⟨_, rfl, rfl, e2, fun q hq hql => ?_, e4⟩
      by_cases e : q = p
      · subst e; exact absurd hql hl
      · exact e3 q (by omega) hql
  · rintro ⟨u, s⟩ ⟨e1, e2, e3, e4⟩
    dsimp only at e1 e2 e3 e4
    subst e1
    simp (disch := omega) only [fX2_open_41, gX2_open_41, q_l2, q_l3, q_l4, q_l7, q_l8, q_l10, q_l17, q_l18, q_l20, q_l31, q_l40, q_l61, q_l64, q_l255, q_l256, q_leT, q_leF, q_ltT, q_ltF, q_n0, q_0le, q_cl, q_cl0, q_vpE, q_add, q_s1, q_mul, q_nle, q_nlt, false_or, or_false, not_false_eq_true, if_true, if_false, ↓reduceIte, Option.bind_some, Option.map_some]
    rw [q_many (by rw [q_lvlC e2.2.2.1]; exact h20), q_lvlC e2.2.2.1]
    exact ⟨_, rfl, s, rfl, e2, e3, e4⟩
theorem S_open : Sm N N cS (fun σ => fX1_open σ) (fun τ => fX2_open τ) := by
  intro σ τ R
  simp only [fX1_open, fX2_open, fX2_open_23, fX2_open_24, go_1, Option.bind_some, ↓reduceIte]
  have bad : ∃ res σ' v τ', some ((Sum.inl "java/lang/IllegalStateException" : String ⊕ Int32), σ) = some (res, σ') ∧ some ((0 : Int32), sI τ 126 0 1) = some (v, τ') ∧ Rel N σ' τ' ∧ FC σ σ' ∧ FR τ τ' ∧ ((∃ E, res = .inl E ∧ cS E (τ'.1 126 0)) ∨ (res = .inr v ∧ τ'.1 126 0 = 0)) :=
    ⟨_, _, _, _, rfl, rfl, q_go R 1, FC.r σ, FR_go τ 1, Or.inl ⟨_, rfl, rfl, sI_e _ _ _ _⟩⟩
  obtain ⟨r0, B | B⟩ := id R
  · have o := B.2.1
    have o1 : σ.1 0 8 = 1 := B.1.2.1.trans o
    simp only [o, o1, q_10, ↓reduceIte]
    exact bad
  · have o := B.2.1
    have o1 : σ.1 0 8 = 0 := B.1.2.1.trans o
    obtain ⟨b, -, E⟩ := B
    obtain ⟨r1, r2, r3, r4⟩ := b.1
    obtain ⟨n1, n2, -⟩ := b.2.2.1
    simp only [o, o1, q_00, ↓reduceIte, q_many n1, Option.bind_some, r3, r4, n2, go_0, q_10]
    by_cases hc : r0 < (lvl τ).length
    · rw [if_pos (q_ltT hc (by omega)), if_neg (q_leF hc (by omega))]
      obtain ⟨s, a1, a2, a3, a4, a5⟩ := q_opC b (by omega)
      have e127 : (sI (sI τ 126 0 0) 126 2 1).1 127 = τ.1 127 := funext fun j => by rw [sI_n (by omega), sI_n (by omega)]
      obtain ⟨t, b1, b2, b3, b4⟩ := q_opR (rr := r0) (τ0 := sI (sI τ 126 0 0) 126 2 1) r2 (by rw [sI_n (by omega), sI_n (by omega)]; exact r4) (by rw [q_lvlC e127]; exact n1)
      rw [a1, b1, q_lvlC e127]
      have hpt : ∀ i, pt (sI (sI τ 126 0 0) 126 2 1) i = pt τ i := fun i => by simp only [pt, q_lvlC e127]
      have w : ∀ a j, (a ≠ 126 ∨ (j ≠ 0 ∧ j ≠ 2)) → (sI (sI τ 126 0 0) 126 2 1).1 a j = τ.1 a j := fun a j h => by rw [sI_n (by omega), sI_n (by omega)]
      have et127 : t.1 127 = τ.1 127 := b2.2.2.1.trans e127
      obtain ⟨c1, c2, c3, c4, c5, c6⟩ := a2
      have S : ∀ a j, (a ≠ 0 ∨ j ≠ 8) → (∀ d, kd d = (0, 0, 8) → a ≠ d + 1 ∧ (a = d → j ≠ 6)) → (sI s 0 8 1).1 a j = σ.1 a j := fun a j h1 h2 => by
        rw [sI_n h1]; exact a5 a j h2
      have hfree : ∀ a j, a = 0 ∨ 122 ≤ a → ∀ d, kd d = (0, 0, 8) → a ≠ d + 1 ∧ (a = d → j ≠ 6) := fun a j h d hd => by
        have := q_cb hd; omega
      have hmc : ∀ p c, Mc (sI s 0 8 1) p c ↔ Mc σ p c := fun p c => by
        simp only [Mc]; rw [show (sI s 0 8 1).2 = s.2 from rfl, c1]
      refine ⟨_, _, _, _, rfl, rfl, ⟨r0, Or.inl ⟨?_, ?_, ?_, ?_⟩⟩, ?_, ?_, Or.inr ⟨rfl, ?_⟩⟩
      · obtain ⟨⟨-, -, -, -⟩, d2, ⟨z1, z2, z3⟩, d4, d5, ⟨ρ, p1, p2, p3⟩, ⟨h, g1, g2, g3, g4⟩, d8⟩ := b
        refine ⟨⟨r1, r2, ?_, ?_⟩, ?_, ⟨?_, ?_, ?_⟩, ?_, ?_, ⟨ρ, ?_, p2, ?_⟩, ⟨h, g1, ?_, ?_, fun k hk => ?_⟩, ?_⟩
        · rw [S _ _ (by omega) (hfree _ _ (by omega))]; exact r3
        · rw [b2.2.2.2.2 1 (by omega) (by omega), w _ _ (by omega)]; exact r4
        · simp only [B2]; rw [sI_e, b2.2.2.2.2 2 (by omega) (by omega), sI_e]
        · rw [q_lvlC et127]; exact z1
        · rw [q_lvlC et127, S _ _ (by omega) (hfree _ _ (by omega))]; exact z2
        · rw [q_fllC et127, S _ _ (by omega) (hfree _ _ (by omega))]; exact z3
        · intro p hp
          rw [et127, S _ _ (by omega) (hfree _ _ (by omega)), show (sI s 0 8 1).2 = s.2 from rfl, c1]; exact d4 p hp
        · intro p c hm
          obtain ⟨u1, u2⟩ := d5 p c ((hmc p c).mp hm)
          have := q_cb u1
          refine ⟨u1, ?_⟩
          rw [sI_n (by omega), c6 c u1]; exact u2
        · intro i hi; rw [show (sI s 0 8 1).2 = s.2 from rfl, c1]; exact p1 i hi
        · intro i p; rw [q_lvlC et127, show (sI s 0 8 1).2 = s.2 from rfl, c1]; exact p3 i p
        · rw [S _ _ (by omega) (hfree _ _ (by omega))]; exact g2
        · rw [b2.2.2.2.2 13 (by omega) (by omega), w _ _ (by omega)]; exact g3
        · rw [S _ _ (by omega) (hfree _ _ (by omega)), b2.2.2.2.1, w _ _ (by omega)]; exact g4 k hk
        · simp only [B8]; rw [S _ _ (by omega) (hfree _ _ (by omega)), b4, w _ _ (by omega)]; exact d8
      · rw [b2.2.2.2.2 2 (by omega) (by omega), sI_e]
      · rw [q_lvlC et127]; omega
      · intro p c hm
        have hm' := (hmc p c).mp hm
        have hp := hm'.1
        have hl := q_mcLv b hm'
        obtain ⟨e1, e2, e3, e4⟩ := E p c hm'
        have hck := q_mcK b hm'
        have hcb := q_cb hck
        obtain ⟨c', m1, m2, m3⟩ := q_row b hp hl
        have := q_mcU m1 hm'
        subst this
        obtain ⟨l1, l2⟩ := a4 _ m3 c' m2
        obtain ⟨o1, o2, o3, o4, o5⟩ := b3 p hp (by rw [e127]; exact hl)
        rw [cnb_C e127, q_lvlC e127, hpt] at o1
        have hfr : ∀ a j, c' ≤ a → a < c' + 6 → a ≠ c' + 1 → (a = c' → j ≠ 6) → ∀ d, kd d = (0, 0, 8) → a ≠ d + 1 ∧ (a = d → j ≠ 6) := fun a j h1 h2 h3 h4 d hd => by
          by_cases e : d = c'
          · subst e; exact ⟨h3, h4⟩
          · have := q_ap hd hck e
            omega
        refine ⟨?_, ⟨0, by omega, ?_, ?_⟩, fun k hk => ?_, fun k hk => ?_, fun k hk => ?_, ?_⟩
        · simp only [D1]; rw [o1, sI_n (by omega)]; exact l2
        · rw [S _ _ (by omega) (hfr _ _ (by omega) (by omega) (by omega) (by omega))]; exact e4
        · exact o4
        · rw [o2 k hk, cnb_C e127, q_lvlC e127, hpt, sI_n (by omega)]; exact l1 k hk
        · rw [o3 k hk, S _ _ (by omega) (hfr _ _ (by omega) (by omega) (by omega) (by omega))]; exact e2 k hk
        · obtain ⟨x1, x2, x3⟩ := e3 k hk
          rw [o5 k hk, S _ _ (by omega) (hfr _ _ (by omega) (by omega) (by omega) (by omega)), S _ _ (by omega) (hfr _ _ (by omega) (by omega) (by omega) (by omega)), S _ _ (by omega) (hfr _ _ (by omega) (by omega) (by omega) (by omega)), x1, x2, x3]
          exact ⟨0, Nat.zero_le _, rfl, rfl, fun _ => ⟨rfl, rfl⟩, fun h => absurd h (by omega)⟩
        · have hmod : (cnb τ p + 1 + 0) % (lvl τ).length < (lvl τ).length := Nat.mod_lt _ (by omega)
          refine ⟨0, by omega, pt τ ((cnb τ p + 1 + 0) % (lvl τ).length), (pt_lv hmod).1, ?_, ?_⟩
          · rw [o2 0 (by omega), cnb_C e127, q_lvlC e127, hpt]
          · rw [et127]; exact (pt_lv hmod).2
      · intro a ha
        exact funext fun j => by rw [sI_n (by omega), c2 a ha]
      · refine ⟨fun a ha => funext fun j => ?_, b2.1⟩
        rw [b2.2.1 a ha, w _ _ (by omega)]
      · rw [b2.2.2.2.2 0 (by omega) (by omega), sI_n (by omega), sI_e]
    · rw [if_neg (q_ltF (by omega) (by omega)), if_pos (q_leT (by omega) (by omega))]
      exact bad
end
