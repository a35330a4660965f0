section
variable {N rr : Nat} {σ τ : kS}
def IdL (τ : kS) (p k : Nat) : Prop := τ.1 128 (4 * p + k) = nI (pt τ ((cnb τ p + 1 + k) % (lvl τ).length))
def IdP (rr : Nat) (τ : kS) (p : Nat) : Prop := (∀ k, k < rr → IdL τ p k) ∧ τ.1 129 p = nI (pt τ ((cnb τ p + (lvl τ).length - 1) % (lvl τ).length))
theorem q_idm (B : Ro N rr σ τ) {i : Nat} (hi : i < (lvl τ).length) : (fX1_isIdealMember σ (nI i) = some 1 ∧ IdP rr τ (pt τ i)) ∨ (fX1_isIdealMember σ (nI i) = some 0 ∧ ¬ IdP rr τ (pt τ i)) := by
  have n1 := B.1.2.2.1.1
  have hr := q_rr B
  have r3 := B.1.1.2.2.1
  obtain ⟨c, m1, m2⟩ := q_rowi B.1 hi
  have hck := q_mcK B.1 m1
  obtain ⟨d1, -, d3, -⟩ := B.2.2.2 _ c m1
  simp (disch := omega) only [fX1_isIdealMember, m2, q_vpE, q_cl, ↓reduceIte]
  obtain ⟨b, h1, h2⟩ := q_inv (body := fX1_isIdealMember_9 (nI i) (some c) σ) (a := 0) (fun k a => a = nI k ∧ ∀ j, j < k → IdL τ (pt τ i) j) (fun b => (b = 1 ∧ IdP rr τ (pt τ i)) ∨ (b = 0 ∧ ¬ IdP rr τ (pt τ i))) rr (by omega) ⟨rfl, fun j hj => absurd hj (Nat.not_lt_zero j)⟩ (by
    rintro k a hk ⟨rfl, hI⟩
    have ht := q_turnp B.1 (a := i + 1 + k) (by omega) (by omega)
    simp (disch := omega) only [fX1_isIdealMember_9, gX1_isIdealMember_9, r3, hck, ht, q_l2, q_l3, q_l4, q_l7, q_l8, q_l10, q_l17, q_l18, q_l20, q_l31, q_l40, q_l61, q_l64, q_l255, q_l256, q_leT, q_leF, q_ltT, q_ltF, q_n0, q_0le, q_cl, q_cl0, q_vpE, q_add, q_s1, q_mul, q_nle, q_nlt, false_or, or_false, not_false_eq_true, if_true, if_false, ↓reduceIte, Option.bind_some, Option.map_some]
    rw [d3 k hk]
    by_cases e : τ.1 128 (4 * pt τ i + k) = nI (pt τ ((i + 1 + k) % (lvl τ).length))
    · left
      rw [if_pos e]
      refine ⟨_, rfl, rfl, fun j hj => ?_⟩
      by_cases e2 : j = k
      · subst e2; simp only [IdL, cnb_pt hi]; exact e
      · exact hI j (by omega)
    · right
      rw [if_neg e]
      refine ⟨_, rfl, Or.inr ⟨rfl, fun h => e ?_⟩⟩
      have := h.1 k hk
      simp only [IdL, cnb_pt hi] at this
      exact this) (by
    rintro a ⟨rfl, hI⟩
    have ht := q_turnb B.1 hi
    simp (disch := omega) only [fX1_isIdealMember_9, gX1_isIdealMember_9, r3, hck, ht, q_l2, q_l3, q_l4, q_l7, q_l8, q_l10, q_l17, q_l18, q_l20, q_l31, q_l40, q_l61, q_l64, q_l255, q_l256, q_leT, q_leF, q_ltT, q_ltF, q_n0, q_0le, q_cl, q_cl0, q_vpE, q_add, q_s1, q_mul, q_nle, q_nlt, false_or, or_false, not_false_eq_true, if_true, if_false, ↓reduceIte, Option.bind_some, Option.map_some]
    simp only [D1] at d1
    rw [d1]
    by_cases e : τ.1 129 (pt τ i) = nI (pt τ ((i + (lvl τ).length - 1) % (lvl τ).length))
    · rw [if_pos e]
      refine ⟨_, rfl, Or.inl ⟨rfl, hI, ?_⟩⟩
      rw [cnb_pt hi]; exact e
    · rw [if_neg e]
      refine ⟨_, rfl, Or.inr ⟨rfl, fun h => e ?_⟩⟩
      have := h.2
      rw [cnb_pt hi] at this
      exact this)
  rcases h2 with ⟨rfl, h2⟩ | ⟨rfl, h2⟩
  · exact Or.inl ⟨h1, h2⟩
  · exact Or.inr ⟨h1, h2⟩
theorem q_idC (B : Ro N rr σ τ) : (fX1_ideal σ = some 1 ∧ ∀ p, p < 256 → τ.1 127 p = 1 → IdP rr τ p) ∨ (fX1_ideal σ = some 0 ∧ ¬ ∀ p, p < 256 → τ.1 127 p = 1 → IdP rr τ p) := by
  have n1 := B.1.2.2.1.1
  have n2 := B.1.2.2.1.2.1
  have o1 : σ.1 0 8 = 1 := B.1.2.1.trans B.2.1
  simp only [fX1_ideal, o1, q_10, ↓reduceIte]
  obtain ⟨b, h1, h2⟩ := q_inv (body := fX1_ideal_11 σ) (a := 0) (fun i a => a = nI i ∧ ∀ j, j < i → IdP rr τ (pt τ j)) (fun b => (b = 1 ∧ ∀ p, p < 256 → τ.1 127 p = 1 → IdP rr τ p) ∨ (b = 0 ∧ ¬ ∀ p, p < 256 → τ.1 127 p = 1 → IdP rr τ p)) (lvl τ).length (by omega) ⟨rfl, fun j hj => absurd hj (Nat.not_lt_zero j)⟩ (by
    rintro i a hi ⟨rfl, hI⟩
    simp (disch := omega) only [fX1_ideal_11, gX1_ideal_11, n2, q_l2, q_l3, q_l4, q_l7, q_l8, q_l10, q_l17, q_l18, q_l20, q_l31, q_l40, q_l61, q_l64, q_l255, q_l256, q_leT, q_leF, q_ltT, q_ltF, q_n0, q_0le, q_cl, q_cl0, q_vpE, q_add, q_s1, q_mul, q_nle, q_nlt, false_or, or_false, not_false_eq_true, if_true, if_false, ↓reduceIte, Option.bind_some, Option.map_some]
    rcases q_idm B hi with ⟨g1, g2⟩ | ⟨g1, g2⟩
    · left
      simp only [g1, Option.bind_some, q_10, ↓reduceIte]
      refine ⟨_, rfl, rfl, fun j hj => ?_⟩
      by_cases e2 : j = i
      · subst e2; exact g2
      · exact hI j (by omega)
    · right
      simp only [g1, Option.bind_some, ↓reduceIte]
      exact ⟨_, rfl, Or.inr ⟨rfl, fun h => g2 (h _ (pt_lv hi).1 (pt_lv hi).2)⟩⟩) (by
    rintro a ⟨rfl, hI⟩
    simp (disch := omega) only [fX1_ideal_11, gX1_ideal_11, n2, q_l2, q_l3, q_l4, q_l7, q_l8, q_l10, q_l17, q_l18, q_l20, q_l31, q_l40, q_l61, q_l64, q_l255, q_l256, q_leT, q_leF, q_ltT, q_ltF, q_n0, q_0le, q_cl, q_cl0, q_vpE, q_add, q_s1, q_mul, q_nle, q_nlt, false_or, or_false, not_false_eq_true, if_true, if_false, ↓reduceIte, Option.bind_some, Option.map_some]
    refine ⟨_, rfl, Or.inl ⟨rfl, fun p hp hl => ?_⟩⟩
    obtain ⟨c1, c2⟩ := pt_cnb hp hl
    have := hI _ c1
    rw [c2] at this
    exact this)
  rcases h2 with ⟨rfl, h2⟩ | ⟨rfl, h2⟩
  · exact Or.inl ⟨h1, h2⟩
  · exact Or.inr ⟨h1, h2⟩
theorem q_nx {i : Nat} (hi : i < (lvl τ).length) : fX2_next τ (nI ((pt τ i + 1) % 256)) = some (nI (pt τ ((i + 1) % (lvl τ).length))) := by
  rcases q_next (τ := τ) (x := (pt τ i + 1) % 256) (Nat.mod_lt _ (by omega)) with ⟨y, g1, g2⟩ | ⟨-, g2⟩
  · rw [g1, NX.u (Nat.mod_lt _ (by omega)) g2 (nx_s hi)]
  · exact absurd (pt_lv hi).2 (g2 _ (pt_lv hi).1)
theorem q_lx {i : Nat} (hi : i < (lvl τ).length) : fX2_last τ (nI ((pt τ i + 255) % 256)) = some (nI (pt τ ((i + (lvl τ).length - 1) % (lvl τ).length))) := by
  rcases q_prev (τ := τ) (x := (pt τ i + 255) % 256) (Nat.mod_lt _ (by omega)) with ⟨y, g1, g2⟩ | ⟨-, g2⟩
  · rw [g1, LX.u (Nat.mod_lt _ (by omega)) g2 (lx_s hi)]
  · exact absurd (pt_lv hi).2 (g2 _ (pt_lv hi).1)
theorem q_id1 (hr : rr ≤ 4) (h0 : 0 < rr) (hr1 : τ.1 126 1 = nI rr) {p : Nat} (hp : p < 256) {u : Int32} (hu : u = 0 ∨ u = 1) : ∃ b : Int32, kit (fX2_ideal_31 (nI p) τ) 300 (u, nI p, 0) = some (.inl (b, nI (p + 1))) ∧ ((b = 1 ∧ u = 1 ∧ (τ.1 127 p = 1 → IdP rr τ p)) ∨ (b = 0 ∧ ¬ (u = 1 ∧ (τ.1 127 p = 1 → IdP rr τ p)))) := by
  by_cases hl : τ.1 127 p = 1
  · obtain ⟨hi, hpi⟩ := pt_cnb hp hl
    have key := q_inv (body := fX2_ideal_31 (nI p) τ) (a := (u, nI p, 0))
      (fun k b => b.2.1 = nI (pt τ ((cnb τ p + k) % (lvl τ).length)) ∧ b.2.2 = nI k ∧ ((b.1 = 1 ∧ u = 1 ∧ ∀ j, j < k → IdL τ p j) ∨ (b.1 = 0 ∧ ¬ (u = 1 ∧ ∀ j, j < k → IdL τ p j))))
      (fun y => ∃ b : Int32, y = .inl (b, nI (p + 1)) ∧ ((b = 1 ∧ u = 1 ∧ (τ.1 127 p = 1 → IdP rr τ p)) ∨ (b = 0 ∧ ¬ (u = 1 ∧ (τ.1 127 p = 1 → IdP rr τ p))))) rr (by omega) ?_ ?_ ?_
    · obtain ⟨y, g1, b, rfl, g2⟩ := key
      exact ⟨b, g1, g2⟩
    · refine ⟨?_, rfl, ?_⟩
      · rw [Nat.add_zero, Nat.mod_eq_of_lt hi, hpi]
      · rcases hu with rfl | rfl
        · exact Or.inr ⟨rfl, fun h => absurd h.1 (by decide)⟩
        · exact Or.inl ⟨rfl, rfl, fun j hj => absurd hj (Nat.not_lt_zero j)⟩
    · rintro k ⟨v, x3, x4⟩ hk ⟨e1, e2, e3⟩
      dsimp only at e1 e2 e3
      subst e1 e2
      left
      have hm : (cnb τ p + k) % (lvl τ).length < (lvl τ).length := Nat.mod_lt _ (by omega)
      have hy := pt_lv (τ := τ) hm
      have hn := q_nx (τ := τ) hm
      rw [Nat.mod_add_mod] at hn
      simp (disch := omega) only [fX2_ideal_31, gX2_ideal_31, fX2_ideal_85, fX2_ideal_86, hr1, hl, q_rem, hn, q_l2, q_l3, q_l4, q_l7, q_l8, q_l10, q_l17, q_l18, q_l20, q_l31, q_l40, q_l61, q_l64, q_l255, q_l256, q_leT, q_leF, q_ltT, q_ltF, q_n0, q_0le, q_cl, q_cl0, q_vpE, q_add, q_s1, q_mul, q_nle, q_nlt, false_or, or_false, not_false_eq_true, if_true, if_false, ↓reduceIte, Option.bind_some, Option.map_some]
      rcases e3 with ⟨rfl, e3, e4⟩ | ⟨rfl, e3⟩
      · simp only [q_10, ↓reduceIte]
        by_cases e : τ.1 128 (4 * p + k) = nI (pt τ ((cnb τ p + k + 1) % (lvl τ).length))
        · rw [if_pos e]
          refine ⟨_, rfl, rfl, rfl, Or.inl ⟨rfl, e3, fun j hj => ?_⟩⟩
          by_cases e2 : j = k
          · subst e2; simp only [IdL]; rw [e, show cnb τ p + j + 1 = cnb τ p + 1 + j by omega]
          · exact e4 j (by omega)
        · rw [if_neg e]
          refine ⟨_, rfl, rfl, rfl, Or.inr ⟨rfl, fun h => e ?_⟩⟩
          have := h.2 k (by omega)
          simp only [IdL] at this
          rw [this, show cnb τ p + k + 1 = cnb τ p + 1 + k by omega]
      · simp only [q_00, ↓reduceIte]
        exact ⟨_, rfl, rfl, rfl, Or.inr ⟨rfl, fun h => e3 ⟨h.1, fun j hj => h.2 j (by omega)⟩⟩⟩
    · rintro ⟨v, x3, x4⟩ ⟨e1, e2, e3⟩
      dsimp only at e1 e2 e3
      subst e1 e2
      have hn := q_lx (τ := τ) hi
      rw [hpi] at hn
      simp (disch := omega) only [fX2_ideal_31, gX2_ideal_31, fX2_ideal_93, fX2_ideal_129, fX2_ideal_133, fX2_ideal_134, hr1, hl, q_rem, hn, q_l2, q_l3, q_l4, q_l7, q_l8, q_l10, q_l17, q_l18, q_l20, q_l31, q_l40, q_l61, q_l64, q_l255, q_l256, q_leT, q_leF, q_ltT, q_ltF, q_n0, q_0le, q_cl, q_cl0, q_vpE, q_add, q_s1, q_mul, q_nle, q_nlt, false_or, or_false, not_false_eq_true, if_true, if_false, ↓reduceIte, Option.bind_some, Option.map_some]
      rcases e3 with ⟨rfl, e3, e4⟩ | ⟨rfl, e3⟩
      · simp only [q_10, ↓reduceIte]
        by_cases e : τ.1 129 p = nI (pt τ ((cnb τ p + (lvl τ).length - 1) % (lvl τ).length))
        · rw [if_pos e]
          exact ⟨_, rfl, _, rfl, Or.inl ⟨rfl, e3, fun _ => ⟨e4, e⟩⟩⟩
        · rw [if_neg e]
          exact ⟨_, rfl, _, rfl, Or.inr ⟨rfl, fun h => e (h.2 trivial).2⟩⟩
      · simp only [q_00, ↓reduceIte, Option.map_some]
        exact ⟨_, rfl, _, rfl, Or.inr ⟨rfl, fun h => e3 ⟨h.1, (h.2 trivial).1⟩⟩⟩
  · have e : fX2_ideal_31 (nI p) τ (u, nI p, 0) = some (.inr (.inl (u, nI (p + 1)))) := by
      simp (disch := omega) only [fX2_ideal_31, gX2_ideal_31, fX2_ideal_93, fX2_ideal_129, fX2_ideal_133, fX2_ideal_134, hr1, hl, show (0 : Int32) = nI 0 from rfl, q_l2, q_l3, q_l4, q_l7, q_l8, q_l10, q_l17, q_l18, q_l20, q_l31, q_l40, q_l61, q_l64, q_l255, q_l256, q_leT, q_leF, q_ltT, q_ltF, q_n0, q_0le, q_cl, q_cl0, q_vpE, q_add, q_s1, q_mul, q_nle, q_nlt, false_or, or_false, not_false_eq_true, if_true, if_false, ↓reduceIte, Option.bind_some, Option.map_some]
      rcases hu with rfl | rfl
      · simp only [show (nI 0 = nI 0) = True from eq_true rfl, ↓reduceIte, Option.map_some, show ((0 : Int32) = nI 0) = True from eq_true rfl]; rfl
      · simp only [show ((1 : Int32) = nI 0) = False from eq_false (by decide), ↓reduceIte, Option.map_some]
    refine ⟨u, q_kitE (n := 299) e, ?_⟩
    rcases hu with rfl | rfl
    · exact Or.inr ⟨rfl, fun h => absurd h.1 (by decide)⟩
    · exact Or.inl ⟨rfl, rfl, fun h => absurd h hl⟩
theorem q_idR (hr : rr ≤ 4) (h0 : 0 < rr) (hr1 : τ.1 126 1 = nI rr) (ho : τ.1 126 2 = 1) : (kit (fX2_ideal_12 τ) 300 (1, 0) = some (1, τ) ∧ ∀ p, p < 256 → τ.1 127 p = 1 → IdP rr τ p) ∨ (kit (fX2_ideal_12 τ) 300 (1, 0) = some (0, τ) ∧ ¬ ∀ p, p < 256 → τ.1 127 p = 1 → IdP rr τ p) := by
  obtain ⟨b, h1, h2⟩ := q_inv (body := fX2_ideal_12 τ) (a := (1, 0))
    (fun n a => a.2 = nI n ∧ ((a.1 = 1 ∧ ∀ p, p < n → τ.1 127 p = 1 → IdP rr τ p) ∨ (a.1 = 0 ∧ ¬ ∀ p, p < n → τ.1 127 p = 1 → IdP rr τ p)))
    (fun b => (b = (1, τ) ∧ ∀ p, p < 256 → τ.1 127 p = 1 → IdP rr τ p) ∨ (b = (0, τ) ∧ ¬ ∀ p, p < 256 → τ.1 127 p = 1 → IdP rr τ p)) 256 (by omega) ⟨rfl, Or.inl ⟨rfl, fun p hp => absurd hp (Nat.not_lt_zero p)⟩⟩ (by
    rintro n ⟨u, v⟩ hn ⟨e1, e2⟩
    dsimp only at e1 e2
    subst e1
    left
    have hu : u = 0 ∨ u = 1 := by rcases e2 with ⟨h, -⟩ | ⟨h, -⟩ <;> simp [h]
    obtain ⟨b, g1, g2⟩ := q_id1 hr h0 hr1 hn hu
    simp (disch := omega) only [fX2_ideal_12, gX2_ideal_12, ho, q_10, g1, q_l2, q_l3, q_l4, q_l7, q_l8, q_l10, q_l17, q_l18, q_l20, q_l31, q_l40, q_l61, q_l64, q_l255, q_l256, q_leT, q_leF, q_ltT, q_ltF, q_n0, q_0le, q_cl, q_cl0, q_vpE, q_add, q_s1, q_mul, q_nle, q_nlt, false_or, or_false, not_false_eq_true, if_true, if_false, ↓reduceIte, Option.bind_some, Option.map_some]
    refine ⟨_, rfl, rfl, ?_⟩
    rcases g2 with ⟨g2, g3, g4⟩ | ⟨g2, g3⟩
    · refine Or.inl ⟨g2, fun p hp hl => ?_⟩
      by_cases e : p = n
      · subst e; exact g4 hl
      · rcases e2 with ⟨-, e2⟩ | ⟨e2, -⟩
        · exact e2 p (by omega) hl
        · rw [g3] at e2; exact absurd e2 (by decide)
    · refine Or.inr ⟨g2, fun g => g3 ⟨?_, fun hl => g n (by omega) hl⟩⟩
      rcases e2 with ⟨e2, -⟩ | ⟨-, e2⟩
      · exact e2
      · exact absurd (fun p hp => g p (by omega)) e2) (by
    rintro ⟨u, v⟩ ⟨e1, e2⟩
    dsimp only at e1 e2
    subst e1
    have hu : u = 0 ∨ u = 1 := by rcases e2 with ⟨h, -⟩ | ⟨h, -⟩ <;> simp [h]
    simp (disch := omega) only [fX2_ideal_12, gX2_ideal_12, q_nar u hu, q_l2, q_l3, q_l4, q_l7, q_l8, q_l10, q_l17, q_l18, q_l20, q_l31, q_l40, q_l61, q_l64, q_l255, q_l256, q_leT, q_leF, q_ltT, q_ltF, q_n0, q_0le, q_cl, q_cl0, q_vpE, q_add, q_s1, q_mul, q_nle, q_nlt, false_or, or_false, not_false_eq_true, if_true, if_false, ↓reduceIte, Option.bind_some, Option.map_some]
    rcases e2 with ⟨rfl, e2⟩ | ⟨rfl, e2⟩
    · exact ⟨_, rfl, Or.inl ⟨rfl, e2⟩⟩
    · exact ⟨_, rfl, Or.inr ⟨rfl, e2⟩⟩)
  rcases h2 with ⟨rfl, h2⟩ | ⟨rfl, h2⟩
  · exact Or.inl ⟨h1, h2⟩
  · exact Or.inr ⟨h1, h2⟩
theorem f_17 (R : Rel N σ σ) : ∃ τ, fc_17 σ = some τ ∧ Rel N τ τ := by
  refine ⟨sI σ 126 0 0, ?_, q_relC (q_go R 0) (fun a ha => funext fun j => sI_n (by omega)) rfl (fun _ _ => rfl) (fun _ _ => rfl)⟩
  simp only [fc_17, fX2_ideal]
  obtain ⟨r0, B | B⟩ := R
  · have B' := q_goO B 0
    have hr := q_rr B
    have o : (sI σ 126 0 0).1 126 2 = 1 := B'.2.1
    rw [o]
    rcases q_idC B' with ⟨a1, a2⟩ | ⟨a1, a2⟩
    · rcases q_idR (τ := sI σ 126 0 0) hr.2 (by omega) B'.1.1.2.2.2 o with ⟨b1, b2⟩ | ⟨b1, b2⟩
      · simp only [a1, b1, Option.bind_some, ↓reduceIte]
      · exact absurd a2 b2
    · rcases q_idR (τ := sI σ 126 0 0) hr.2 (by omega) B'.1.1.2.2.2 o with ⟨b1, b2⟩ | ⟨b1, b2⟩
      · exact absurd b2 a2
      · simp only [a1, b1, Option.bind_some, ↓reduceIte]
  · have o := (q_goC B 0).2.1
    have o1 : σ.1 0 8 = 0 := B.1.2.1.trans B.2.1
    have e : kit (fX2_ideal_12 (sI σ 126 0 0)) 300 ((sI σ 126 0 0).1 126 2, 0) = some (0, sI σ 126 0 0) := by
      refine q_kitE (n := 299) ?_
      simp only [fX2_ideal_12, gX2_ideal_12, o, q_nar 0 (Or.inl rfl), show ((256 : Int32) ≤ 0) = False from eq_false (by decide), ↓reduceIte]
    rw [e]
    simp only [fX1_ideal, o1, ↓reduceIte, Option.bind_some]
end
