section
variable {N rr : Nat} {σ τ : kS}
def Ge (τ : kS) (p x k : Nat) : Prop := ∃ y, y < 256 ∧ τ.1 128 (4 * x + k) = nI y ∧ τ.1 127 y = 1 ∧ y ≠ p ∧ y ≠ x
def Wb (rr : Nat) (τ : kS) (p x : Nat) : Prop := ∃ k, k < rr ∧ Ge τ p x k
theorem q_knows (B : Ro N rr σ τ) {p c x d : Nat} (hx : Mc σ x d) (hp : Mc σ p c) : (fX1_knowsLiveOneBeside σ d c = some 1 ∧ Wb rr τ p x) ∨ (fX1_knowsLiveOneBeside σ d c = some 0 ∧ ¬ Wb rr τ p x) := by
  have hr := q_rr B
  have r3 := B.1.1.2.2.1
  have hdk := q_mcK B.1 hx
  have hck := q_mcK B.1 hp
  have d3 := (B.2.2.2 x d hx).2.2.1
  obtain ⟨b, h1, h2⟩ := q_inv (body := fX1_knowsLiveOneBeside_2 d c σ) (a := 0) (fun k a => a = nI k ∧ ∀ j, j < k → ¬ Ge τ p x j) (fun b => (b = 1 ∧ Wb rr τ p x) ∨ (b = 0 ∧ ¬ Wb rr τ p x)) rr (by omega) ⟨rfl, fun j hj => absurd hj (Nat.not_lt_zero j)⟩ (by
    rintro k a hk ⟨rfl, hI⟩
    simp (disch := omega) only [fX1_knowsLiveOneBeside_2, gX1_knowsLiveOneBeside_2, fX1_knowsLiveOneBeside_41, r3, hdk, q_okq hdk, q_okq hck, q_l2, q_l3, q_l4, q_l7, q_l8, q_l10, q_l17, q_l18, q_l20, q_l31, q_l40, q_l61, q_l64, q_l255, q_l256, q_leT, q_leF, q_ltT, q_ltF, q_n0, q_0le, q_cl, q_cl0, q_vpE, q_add, q_s1, q_mul, q_nle, q_nlt, false_or, or_false, not_false_eq_true, if_true, if_false, ↓reduceIte, Option.bind_some, Option.map_some]
    rw [d3 k hk]
    have skip : ¬ Ge τ p x k → ∀ j, j < k + 1 → ¬ Ge τ p x j := fun g j hj => by
      by_cases e : j = k
      · subst e; exact g
      · exact hI j (by omega)
    rcases q_live B.1 (τ.1 128 (4 * x + k)) with ⟨l1, -, l3⟩ | ⟨y, z, l1, l2, l3, l4, -⟩
    · left
      simp only [l1, Option.bind_some, kmn_n]
      refine ⟨_, rfl, rfl, skip ?_⟩
      rintro ⟨y, y1, y2, y3, -⟩
      exact l3 y y1 y2 y3
    · simp only [l4, Option.bind_some, kmn_s, q_okq (q_mcK B.1 l2), and_self, ↓reduceIte, Option.some.injEq]
      have hy := l2.1
      have un : ∀ y', y' < 256 → τ.1 128 (4 * x + k) = nI y' → y' = y := fun y' h1 h2 => q_inj (by omega) (by omega) (h2.symm.trans l1)
      by_cases e1 : z = d
      · left
        subst e1
        have := q_mcI B.1 l2 hx
        simp only [↓reduceIte]
        refine ⟨_, rfl, rfl, skip ?_⟩
        rintro ⟨y', y1, y2, y3, y4, y5⟩
        have := un y' y1 y2
        omega
      · by_cases e2 : z = c
        · left
          subst e2
          have := q_mcI B.1 l2 hp
          simp only [e1, ↓reduceIte]
          refine ⟨_, rfl, rfl, skip ?_⟩
          rintro ⟨y', y1, y2, y3, y4, y5⟩
          have := un y' y1 y2
          omega
        · right
          simp only [e1, e2, ↓reduceIte]
          refine ⟨_, rfl, Or.inl ⟨rfl, k, hk, y, hy, l1, l3, fun e => e2 ?_, fun e => e1 ?_⟩⟩
          · subst e; exact q_mcU l2 hp
          · subst e; exact q_mcU l2 hx) (by
    rintro a ⟨rfl, hI⟩
    simp (disch := omega) only [fX1_knowsLiveOneBeside_2, gX1_knowsLiveOneBeside_2, r3, q_l2, q_l3, q_l4, q_l7, q_l8, q_l10, q_l17, q_l18, q_l20, q_l31, q_l40, q_l61, q_l64, q_l255, q_l256, q_leT, q_leF, q_ltT, q_ltF, q_n0, q_0le, q_cl, q_cl0, q_vpE, q_add, q_s1, q_mul, q_nle, q_nlt, false_or, or_false, not_false_eq_true, if_true, if_false, ↓reduceIte, Option.bind_some, Option.map_some]
    refine ⟨_, rfl, Or.inr ⟨rfl, ?_⟩⟩
    rintro ⟨k, k1, k2⟩
    exact hI k k1 k2)
  rcases h2 with ⟨rfl, h2⟩ | ⟨rfl, h2⟩
  · exact Or.inl ⟨h1, h2⟩
  · exact Or.inr ⟨h1, h2⟩
theorem q_nar (b : Int32) (h : b = 0 ∨ b = 1) : vp_nar .boolean b = b := by
  rcases h with rfl | rfl <;> decide +kernel
theorem q_wo1 (B : Bas rr σ τ) {p x : Nat} (hp : p < 256) (hx : x < 256) {t0 x2 : Int32} (ht : t0 = 0 ∨ t0 = 1) (h2 : x2 = 0 ∨ x2 = 1) : ∃ b : Int32, kit (fX2_without_36 (nI p) x2 (nI x) τ) 300 (t0, 0) = some (.inl (b, nI (x + 1))) ∧ ((b = 1 ∧ x2 = 1 ∧ (t0 = 1 ∨ Wb rr τ p x)) ∨ (b = 0 ∧ ¬ (x2 = 1 ∧ (t0 = 1 ∨ Wb rr τ p x)))) := by
  obtain ⟨r1, r2, -, r4⟩ := B.1
  have key := q_inv (body := fX2_without_36 (nI p) x2 (nI x) τ) (a := (t0, 0))
    (fun k a => a.2 = nI k ∧ ((a.1 = 1 ∧ (t0 = 1 ∨ ∃ j, j < k ∧ Ge τ p x j)) ∨ (a.1 = 0 ∧ ¬ (t0 = 1 ∨ ∃ j, j < k ∧ Ge τ p x j))))
    (fun y => ∃ b : Int32, y = .inl (b, nI (x + 1)) ∧ ((b = 1 ∧ x2 = 1 ∧ (t0 = 1 ∨ Wb rr τ p x)) ∨ (b = 0 ∧ ¬ (x2 = 1 ∧ (t0 = 1 ∨ Wb rr τ p x))))) rr (by omega) ?_ ?_ ?_
  · obtain ⟨y, g1, b, rfl, g2⟩ := key
    exact ⟨b, g1, g2⟩
  · refine ⟨rfl, ?_⟩
    rcases ht with rfl | rfl
    · right
      refine ⟨rfl, ?_⟩
      rintro (h | ⟨j, hj, -⟩)
      · exact absurd h (by decide)
      · omega
    · exact Or.inl ⟨rfl, Or.inl rfl⟩
  · rintro k ⟨u, v⟩ hk ⟨e1, e2⟩
    dsimp only at e1 e2
    subst e1
    left
    simp (disch := omega) only [fX2_without_36, gX2_without_36, fX2_without_84, fX2_without_88, fX2_without_89, r4, q_l2, q_l3, q_l4, q_l7, q_l8, q_l10, q_l17, q_l18, q_l20, q_l31, q_l40, q_l61, q_l64, q_l255, q_l256, q_leT, q_leF, q_ltT, q_ltF, q_n0, q_0le, q_cl, q_cl0, q_vpE, q_add, q_s1, q_mul, q_nle, q_nlt, false_or, or_false, not_false_eq_true, if_true, if_false, ↓reduceIte, Option.bind_some, Option.map_some]
    rcases e2 with ⟨rfl, e2⟩ | ⟨rfl, e2⟩
    · simp only [q_10, ↓reduceIte]
      refine ⟨_, rfl, rfl, Or.inl ⟨rfl, e2.imp_right (fun ⟨j, j1, j2⟩ => ⟨j, by omega, j2⟩)⟩⟩
    · simp only [q_00, ↓reduceIte]
      have skip : ¬ Ge τ p x k → ¬ (t0 = 1 ∨ ∃ j, j < k + 1 ∧ Ge τ p x j) := fun g h => e2 (h.imp_right (fun ⟨j, j1, j2⟩ => by
        by_cases e : j = k
        · subst e; exact absurd j2 g
        · exact ⟨j, by omega, j2⟩))
      rcases q_live B (τ.1 128 (4 * x + k)) with ⟨-, l2, l3⟩ | ⟨y, z, l1, l2, l3, -, l5⟩
      · simp only [l2, Option.bind_some, ↓reduceIte]
        refine ⟨_, rfl, rfl, Or.inr ⟨rfl, skip ?_⟩⟩
        rintro ⟨y, y1, y2, y3, -⟩
        exact l3 y y1 y2 y3
      · have hy := l2.1
        simp only [l5, Option.bind_some, q_10, ↓reduceIte]
        rw [l1]
        have un : ∀ y', y' < 256 → τ.1 128 (4 * x + k) = nI y' → y' = y := fun y' h1 h2 => q_inj (by omega) (by omega) (h2.symm.trans l1)
        by_cases e3 : y = p
        · subst e3
          simp only [↓reduceIte]
          refine ⟨_, rfl, rfl, Or.inr ⟨rfl, skip ?_⟩⟩
          rintro ⟨y', y1, y2, y3, y4, y5⟩
          exact y4 (un y' y1 y2)
        · rw [if_neg (q_ne e3 (by omega) (by omega))]
          by_cases e4 : y = x
          · subst e4
            simp only [↓reduceIte]
            refine ⟨_, rfl, rfl, Or.inr ⟨rfl, skip ?_⟩⟩
            rintro ⟨y', y1, y2, y3, y4, y5⟩
            exact y5 (un y' y1 y2)
          · rw [if_neg (q_ne e4 (by omega) (by omega))]
            exact ⟨_, rfl, rfl, Or.inl ⟨rfl, Or.inr ⟨k, by omega, y, hy, l1, l3, e3, e4⟩⟩⟩
  · rintro ⟨u, v⟩ ⟨e1, e2⟩
    dsimp only at e1 e2
    subst e1
    simp (disch := omega) only [fX2_without_36, gX2_without_36, fX2_without_110, fX2_without_111, r4, q_l2, q_l3, q_l4, q_l7, q_l8, q_l10, q_l17, q_l18, q_l20, q_l31, q_l40, q_l61, q_l64, q_l255, q_l256, q_leT, q_leF, q_ltT, q_ltF, q_n0, q_0le, q_cl, q_cl0, q_vpE, q_add, q_s1, q_mul, q_nle, q_nlt, false_or, or_false, not_false_eq_true, if_true, if_false, ↓reduceIte, Option.bind_some, Option.map_some]
    rcases h2 with rfl | rfl
    · simp only [q_00, ↓reduceIte, Option.map_some]
      exact ⟨_, rfl, _, rfl, Or.inr ⟨rfl, fun h => absurd h.1 (by decide)⟩⟩
    · simp only [q_10, ↓reduceIte]
      rcases e2 with ⟨rfl, e2⟩ | ⟨rfl, e2⟩
      · simp only [q_10, ↓reduceIte, Option.map_some]
        exact ⟨_, rfl, _, rfl, Or.inl ⟨by first | rfl | trivial, by first | rfl | trivial, e2⟩⟩
      · simp only [q_00, ↓reduceIte, Option.map_some]
        exact ⟨_, rfl, _, rfl, Or.inr ⟨rfl, fun h => e2 h.2⟩⟩
theorem q_without (B : Bas rr σ τ) {p : Nat} (hp : p < 256) : (fX2_without τ (nI p) = some 1 ∧ ∀ x, x < 256 → τ.1 127 x = 1 → x ≠ p → Wb rr τ p x) ∨ (fX2_without τ (nI p) = some 0 ∧ ¬ ∀ x, x < 256 → τ.1 127 x = 1 → x ≠ p → Wb rr τ p x) := by
  obtain ⟨b, h1, h2⟩ := q_inv (body := fX2_without_4 (nI p) τ) (a := (1, 0))
    (fun n a => a.2 = nI n ∧ ((a.1 = 1 ∧ ∀ x, x < n → τ.1 127 x = 1 → x ≠ p → Wb rr τ p x) ∨ (a.1 = 0 ∧ ¬ ∀ x, x < n → τ.1 127 x = 1 → x ≠ p → Wb rr τ p x)))
    (fun b => (b = 1 ∧ ∀ x, x < 256 → τ.1 127 x = 1 → x ≠ p → Wb rr τ p x) ∨ (b = 0 ∧ ¬ ∀ x, x < 256 → τ.1 127 x = 1 → x ≠ p → Wb rr τ p x)) 256 (by omega) ⟨rfl, Or.inl ⟨rfl, fun x hx => absurd hx (Nat.not_lt_zero x)⟩⟩ (by
    rintro n ⟨u, v⟩ hn ⟨e1, e2⟩
    dsimp only at e1 e2
    subst e1
    left
    have hu : u = 0 ∨ u = 1 := by rcases e2 with ⟨h, -⟩ | ⟨h, -⟩ <;> simp [h]
    have step : ∀ (b t0 : Int32) , (t0 = 1 ↔ ¬ (τ.1 127 n = 1 ∧ n ≠ p)) → ((b = 1 ∧ u = 1 ∧ (t0 = 1 ∨ Wb rr τ p n)) ∨ (b = 0 ∧ ¬ (u = 1 ∧ (t0 = 1 ∨ Wb rr τ p n)))) → ((b = 1 ∧ ∀ x, x < n + 1 → τ.1 127 x = 1 → x ≠ p → Wb rr τ p x) ∨ (b = 0 ∧ ¬ ∀ x, x < n + 1 → τ.1 127 x = 1 → x ≠ p → Wb rr τ p x)) := by
      intro b t0 ht hb
      rcases hb with ⟨b1, b2, b3⟩ | ⟨b1, b2⟩
      · left
        refine ⟨b1, fun x hx hl hne => ?_⟩
        by_cases e : x = n
        · subst e
          rcases b3 with g | g
          · exact absurd ⟨hl, hne⟩ (ht.mp g)
          · exact g
        · rcases e2 with ⟨-, e2⟩ | ⟨e2, -⟩
          · exact e2 x (by omega) hl hne
          · rw [b2] at e2; exact absurd e2 (by decide)
      · right
        refine ⟨b1, fun g => b2 ⟨?_, ?_⟩⟩
        · rcases e2 with ⟨e2, -⟩ | ⟨-, e2⟩
          · exact e2
          · exact absurd (fun x hx => g x (by omega)) e2
        · by_cases hc : τ.1 127 n = 1 ∧ n ≠ p
          · exact Or.inr (g n (by omega) hc.1 hc.2)
          · exact Or.inl (ht.mpr hc)
    simp (disch := omega) only [fX2_without_4, gX2_without_4, fX2_without_26, fX2_without_31, q_l2, q_l3, q_l4, q_l7, q_l8, q_l10, q_l17, q_l18, q_l20, q_l31, q_l40, q_l61, q_l64, q_l255, q_l256, q_leT, q_leF, q_ltT, q_ltF, q_n0, q_0le, q_cl, q_cl0, q_vpE, q_add, q_s1, q_mul, q_nle, q_nlt, false_or, or_false, not_false_eq_true, if_true, if_false, ↓reduceIte, Option.bind_some, Option.map_some]
    by_cases hl : τ.1 127 n = 1
    · rw [if_pos hl]
      by_cases e : n = p
      · subst e
        simp only [↓reduceIte]
        obtain ⟨b, g1, g2⟩ := q_wo1 B hp hn (t0 := 1) (x2 := u) (Or.inr rfl) hu
        rw [g1]
        exact ⟨_, rfl, rfl, step b 1 ⟨fun _ h => h.2 rfl, fun _ => rfl⟩ g2⟩
      · rw [if_neg (q_ne e (by omega) (by omega))]
        obtain ⟨b, g1, g2⟩ := q_wo1 B hp hn (t0 := 0) (x2 := u) (Or.inl rfl) hu
        rw [g1]
        exact ⟨_, rfl, rfl, step b 0 ⟨fun h => absurd h (by decide), fun h => absurd ⟨hl, e⟩ h⟩ g2⟩
    · rw [if_neg hl]
      obtain ⟨b, g1, g2⟩ := q_wo1 B hp hn (t0 := 1) (x2 := u) (Or.inr rfl) hu
      rw [g1]
      exact ⟨_, rfl, rfl, step b 1 ⟨fun _ h => hl h.1, fun _ => rfl⟩ g2⟩) (by
    rintro ⟨u, v⟩ ⟨e1, e2⟩
    dsimp only at e1 e2
    subst e1
    have hu : u = 0 ∨ u = 1 := by rcases e2 with ⟨h, -⟩ | ⟨h, -⟩ <;> simp [h]
    simp (disch := omega) only [fX2_without_4, gX2_without_4, q_nar u hu, q_l2, q_l3, q_l4, q_l7, q_l8, q_l10, q_l17, q_l18, q_l20, q_l31, q_l40, q_l61, q_l64, q_l255, q_l256, q_leT, q_leF, q_ltT, q_ltF, q_n0, q_0le, q_cl, q_cl0, q_vpE, q_add, q_s1, q_mul, q_nle, q_nlt, false_or, or_false, not_false_eq_true, if_true, if_false, ↓reduceIte, Option.bind_some, Option.map_some]
    exact ⟨_, rfl, e2⟩)
  rcases h2 with ⟨rfl, h2⟩ | ⟨rfl, h2⟩
  · exact Or.inl ⟨h1, h2⟩
  · exact Or.inr ⟨h1, h2⟩
theorem q_remM (B : Bas rr σ τ) {p c : Nat} (hm : Mc σ p c) : ∃ σ', fX1_removeMember σ c = some σ' ∧ (∀ q d, Mc σ' q d ↔ Mc σ q d ∧ q ≠ p) ∧ (∀ a j, (a = 0 → j ≠ 9 ∧ j ≠ 10) → σ'.1 a j = σ.1 a j) ∧ σ'.1 0 9 = nI ((lvl τ).length - 1) ∧
    ∀ τ', τ'.1 127 p = 2 → (∀ q, q ≠ p → τ'.1 127 q = τ.1 127 q) → τ'.1 137 = τ.1 137 → (∀ j, 1 ≤ j → τ'.1 126 j = τ.1 126 j) → Bas rr σ' τ' ∧ (lvl τ').length = (lvl τ).length - 1 := by
  obtain ⟨⟨r1, r2, r3, r4⟩, b2, ⟨n1, n2, n3⟩, b4, b5, ⟨ρ, p1, p2, p3⟩, ⟨h, g1, g2, g3, g4⟩, b8⟩ := id B
  have hp := hm.1
  have hlv := q_mcLv B hm
  have hρ : ∀ q, q < 256 → τ.1 127 q = 1 → σ.2.1 122 q = some (ρ (cnb τ q)) := fun q hq hl => p3 _ _ (q_at hq hl)
  have hck := q_mcK B hm
  have hcP := q_mcP B hm
  obtain ⟨hpos, -⟩ := pt_cnb hp hlv
  have hcρ : c = ρ (cnb τ p) := Option.some.inj (hm.2.symm.trans (hρ p hp hlv))
  have key := q_inv (body := fX1_removeMember_2 c) (a := (0, σ))
    (fun i a => a.1 = nI i ∧ a.2.1 = σ.1 ∧ a.2.2.2 = σ.2.2 ∧ (∀ b j, b ≠ 1 → a.2.2.1 b j = σ.2.1 b j) ∧ ∀ j, j < 20 → a.2.2.1 1 j = some (if cnb τ p ≤ j ∧ j < i then ρ (j + 1) else if j = i ∧ cnb τ p ≤ i then ρ (cnb τ p) else ρ j))
    (fun b => ∃ s : kS, s.1 = σ.1 ∧ s.2.2 = σ.2.2 ∧ (∀ b j, b ≠ 1 → s.2.1 b j = σ.2.1 b j) ∧ (∀ j, j < 20 → s.2.1 1 j = some (if cnb τ p ≤ j ∧ j < (lvl τ).length - 1 then ρ (j + 1) else if j = (lvl τ).length - 1 ∧ cnb τ p ≤ (lvl τ).length - 1 then ρ (cnb τ p) else ρ j)) ∧ b = sI (sI (sR s 122 p none) 0 9 (nI ((lvl τ).length - 1))) 0 10 (nI ((fll τ).length + 1))) ((lvl τ).length - 1) (by omega) ?_ ?_ ?_
  · obtain ⟨σ', k1, s, s1, s2, s3, s4, rfl⟩ := key
    have hnn : ∀ a j, (a = 0 → j ≠ 9 ∧ j ≠ 10) → (sI (sI (sR s 122 p none) 0 9 (nI ((lvl τ).length - 1))) 0 10 (nI ((fll τ).length + 1))).1 a j = σ.1 a j := fun a j h => by
      rw [sI_n (by by_cases e : a = 0; exact Or.inr (h e).2; exact Or.inl e), sI_n (by by_cases e : a = 0; exact Or.inr (h e).1; exact Or.inl e)]
      show s.1 a j = _; rw [s1]
    have hby : ∀ q, (sI (sI (sR s 122 p none) 0 9 (nI ((lvl τ).length - 1))) 0 10 (nI ((fll τ).length + 1))).2.1 122 q = if q = p then none else σ.2.1 122 q := fun q => by
      show (sR s 122 p none).2.1 122 q = _
      by_cases e : q = p
      · subst e; rw [sR_e, if_pos rfl]
      · rw [sR_n (Or.inr e), if_neg e]; exact s3 122 q (by omega)
    have hmc : ∀ q d, Mc (sI (sI (sR s 122 p none) 0 9 (nI ((lvl τ).length - 1))) 0 10 (nI ((fll τ).length + 1))) q d ↔ Mc σ q d ∧ q ≠ p := fun q d => by
      simp only [Mc]
      rw [hby]
      by_cases e : q = p
      · subst e; rw [if_pos rfl]
        constructor
        · rintro ⟨-, h⟩; cases h
        · rintro ⟨-, h⟩; exact absurd rfl h
      · rw [if_neg e]; exact ⟨fun h => ⟨h, e⟩, fun h => h.1⟩
    refine ⟨_, k1, hmc, hnn, by rw [sI_n (by omega), sI_e], ?_⟩
    intro τ' t1 t2 t3 t4
    have hcu := q_up (τ := τ') (τ' := τ) (x := p) (by rw [t1]; decide) hlv (fun q hq => (t2 q hq).symm)
    have hlen : (lvl τ').length = (lvl τ).length - 1 := by
      have := hcu 256
      rw [cnb_256, cnb_256, if_pos hp] at this
      omega
    have hfl : (fll τ').length = (fll τ).length + 1 := by
      have := q_cfu (f := fun q => decide (τ.1 127 q = 2)) (g := fun q => decide (τ'.1 127 q = 2)) (p := p) (fun q hq => by simp only [t2 q hq]) (decide_eq_false (by rw [hlv]; decide)) (decide_eq_true t1) 256
      rw [if_pos hp] at this
      exact this
    refine ⟨⟨⟨r1, r2, ?_, ?_⟩, ?_, ⟨?_, ?_, ?_⟩, ?_, ?_, ⟨fun j => if cnb τ p ≤ j ∧ j < (lvl τ).length - 1 then ρ (j + 1) else if j = (lvl τ).length - 1 ∧ cnb τ p ≤ (lvl τ).length - 1 then ρ (cnb τ p) else ρ j, ?_, ?_, ?_⟩, ⟨h, g1, ?_, ?_, ?_⟩, ?_⟩, hlen⟩
    · rw [hnn _ _ (by omega)]; exact r3
    · rw [t4 _ (by omega)]; exact r4
    · simp only [B2]; rw [hnn _ _ (by omega), t4 _ (by omega)]; exact b2
    · omega
    · rw [sI_n (by omega), sI_e, hlen]
    · rw [sI_e, hfl]
    · intro q hq
      rw [hnn _ _ (by omega), hby]
      by_cases e : q = p
      · subst e
        rw [t1, if_pos rfl]
        refine ⟨Or.inr (Or.inr rfl), ?_, ?_⟩
        · constructor
          · intro h
            have := (b4 q hq).2.1.mp h
            rw [hlv] at this
            exact absurd this (by decide)
          · intro h; exact absurd h (by decide)
        · constructor
          · intro h; exact absurd h (by decide)
          · rintro ⟨d, h⟩; cases h
      · rw [t2 q e, if_neg e]
        exact b4 q hq
    · intro q d hm2
      obtain ⟨hm3, -⟩ := (hmc q d).mp hm2
      obtain ⟨u1, u2⟩ := b5 q d hm3
      have := q_cb u1
      exact ⟨u1, by rw [hnn _ _ (by omega)]; exact u2⟩
    · intro i hi
      refine ⟨s4 i hi, ?_⟩
      dsimp only
      by_cases e1 : cnb τ p ≤ i ∧ i < (lvl τ).length - 1
      · rw [if_pos e1]; exact (p1 _ (by omega)).2
      · rw [if_neg e1]
        by_cases e2 : i = (lvl τ).length - 1 ∧ cnb τ p ≤ (lvl τ).length - 1
        · rw [if_pos e2]; exact (p1 _ (by omega)).2
        · rw [if_neg e2]; exact (p1 _ hi).2
    · intro i j hi hj e
      dsimp only at e
      by_cases a1 : cnb τ p ≤ i ∧ i < (lvl τ).length - 1
      · rw [if_pos a1] at e
        by_cases b1 : cnb τ p ≤ j ∧ j < (lvl τ).length - 1
        · rw [if_pos b1] at e
          have := p2 _ _ (by omega) (by omega) e; omega
        · rw [if_neg b1] at e
          by_cases b2 : j = (lvl τ).length - 1 ∧ cnb τ p ≤ (lvl τ).length - 1
          · rw [if_pos b2] at e
            have := p2 _ _ (by omega) (by omega) e; omega
          · rw [if_neg b2] at e
            have := p2 _ _ (by omega) hj e; omega
      · rw [if_neg a1] at e
        by_cases a2 : i = (lvl τ).length - 1 ∧ cnb τ p ≤ (lvl τ).length - 1
        · rw [if_pos a2] at e
          by_cases b1 : cnb τ p ≤ j ∧ j < (lvl τ).length - 1
          · rw [if_pos b1] at e
            have := p2 _ _ (by omega) (by omega) e; omega
          · rw [if_neg b1] at e
            by_cases b2 : j = (lvl τ).length - 1 ∧ cnb τ p ≤ (lvl τ).length - 1
            · omega
            · rw [if_neg b2] at e
              have := p2 _ _ (by omega) hj e; omega
        · rw [if_neg a2] at e
          by_cases b1 : cnb τ p ≤ j ∧ j < (lvl τ).length - 1
          · rw [if_pos b1] at e
            have := p2 _ _ hi (by omega) e; omega
          · rw [if_neg b1] at e
            by_cases b2 : j = (lvl τ).length - 1 ∧ cnb τ p ≤ (lvl τ).length - 1
            · rw [if_pos b2] at e
              have := p2 _ _ hi (by omega) e; omega
            · rw [if_neg b2] at e
              exact p2 _ _ hi hj e
    · refine q_b6 (fun q hq hl => ?_)
      have hne : q ≠ p := by
        intro e
        subst e
        rw [t1] at hl
        exact absurd hl (by decide)
      have hcq := hcu q
      rw [hby, if_neg hne]
      rw [t2 q hne] at hl
      have e1 := hρ q hq hl
      have e2 := pt_cnb hq hl
      rw [e1]
      by_cases e4 : p < q
      · rw [if_pos e4] at hcq
        have e5 := (cnb_lt (τ := τ) (i := cnb τ p) (x := q) hpos).mp (by rw [(pt_cnb hp hlv).2]; exact e4)
        rw [if_pos (by omega), hcq]
      · rw [if_neg e4, Nat.add_zero] at hcq
        have e5 := (cnb_lt (τ := τ) (i := cnb τ q) (x := p) e2.1).mp (by rw [e2.2]; omega)
        rw [if_neg (by omega), if_neg (by omega), hcq]
    · rw [hnn _ _ (by omega)]; exact g2
    · rw [t4 _ (by omega)]; exact g3
    · intro k hk; rw [hnn _ _ (by omega), t3]; exact g4 k hk
    · simp only [B8]; rw [hnn _ _ (by omega), t4 _ (by omega)]; exact b8
  · refine ⟨rfl, rfl, rfl, fun _ _ _ => rfl, fun j hj => ?_⟩
    rw [(p1 j hj).1, if_neg (by omega)]
    by_cases e : j = 0 ∧ cnb τ p ≤ 0
    · rw [if_pos e, show j = cnb τ p by omega]
    · rw [if_neg e]
  · rintro i ⟨u, s⟩ hi ⟨e1, e2, e3, e4, e5⟩
    dsimp only at e1 e2 e3 e4 e5
    subst e1
    left
    have hri := e5 i (by omega)
    have hri1 := e5 (i + 1) (by omega)
    rw [if_neg (by omega)] at hri
    rw [if_neg (by omega), if_neg (by omega)] at hri1
    by_cases hc : cnb τ p ≤ i
    · rw [if_pos ⟨rfl, hc⟩, ← hcρ] at hri
      have hk1 := (p1 (i + 1) (by omega)).2
      simp (disch := omega) only [fX1_removeMember_2, gX1_removeMember_2, fX1_removeMember_45, e2, n2, q_p1, hri, hri1, q_okq hck, and_self, hck, hk1, q_l2, q_l3, q_l4, q_l7, q_l8, q_l10, q_l17, q_l18, q_l20, q_l31, q_l40, q_l61, q_l64, q_l255, q_l256, q_leT, q_leF, q_ltT, q_ltF, q_n0, q_0le, q_cl, q_cl0, q_vpE, q_add, q_s1, q_mul, q_nle, q_nlt, false_or, or_false, not_false_eq_true, if_true, if_false, ↓reduceIte, Option.bind_some, Option.map_some]
      refine ⟨_, rfl, ?_⟩
      refine ⟨rfl, e2, e3, fun b j hb => ?_, fun j hj => ?_⟩
      · show (sR (sR s 1 _ _) 1 _ _).2.1 b j = _
        rw [sR_n (by omega), sR_n (by omega)]; exact e4 b j hb
      · show (sR (sR s 1 _ _) 1 _ _).2.1 1 j = _
        by_cases e6 : j = i + 1
        · subst e6
          rw [sR_e, if_neg (by omega), if_pos ⟨rfl, by omega⟩, hcρ]
        · rw [sR_n (by omega)]
          by_cases e7 : j = i
          · subst e7
            rw [sR_e, if_pos ⟨hc, by omega⟩]
          · rw [sR_n (by omega), e5 j hj]
            by_cases e8 : cnb τ p ≤ j ∧ j < i
            · rw [if_pos e8, if_pos (by omega)]
            · rw [if_neg e8, if_neg (by omega), if_neg (by omega), if_neg (by omega)]
    · rw [if_neg (by omega)] at hri
      have hne : ¬ ρ i = c := fun e => by
        have := p2 _ _ (by omega) (by omega) (e.trans hcρ)
        omega
      simp (disch := omega) only [fX1_removeMember_2, gX1_removeMember_2, fX1_removeMember_45, e2, n2, q_p1, hri, q_okq hck, q_okq (p1 i (by omega)).2, and_self, Option.some.injEq, hne, q_l2, q_l3, q_l4, q_l7, q_l8, q_l10, q_l17, q_l18, q_l20, q_l31, q_l40, q_l61, q_l64, q_l255, q_l256, q_leT, q_leF, q_ltT, q_ltF, q_n0, q_0le, q_cl, q_cl0, q_vpE, q_add, q_s1, q_mul, q_nle, q_nlt, false_or, or_false, not_false_eq_true, if_true, if_false, ↓reduceIte, Option.bind_some, Option.map_some]
      refine ⟨_, rfl, rfl, e2, e3, e4, fun j hj => ?_⟩
      rw [e5 j hj, if_neg (by omega), if_neg (by omega), if_neg (by omega)]
      by_cases e : j = i + 1 ∧ cnb τ p ≤ i + 1
      · rw [if_pos e, show j = cnb τ p by omega]
      · rw [if_neg e]
  · rintro ⟨u, s⟩ ⟨e1, e2, e3, e4, e5⟩
    dsimp only at e1 e2 e3 e4 e5
    subst e1
    have w9 : (sR s 122 p none).1 0 9 = nI (lvl τ).length := by show s.1 0 9 = _; rw [e2]; exact n2
    have w10 : (sI (sR s 122 p none) 0 9 (nI ((lvl τ).length - 1))).1 0 10 = nI (fll τ).length := by
      rw [sI_n (by omega)]; show s.1 0 10 = _; rw [e2]; exact n3
    simp (disch := omega) only [fX1_removeMember_2, gX1_removeMember_2, e2, n2, q_p1, hck, hcP, w9, w10, q_l2, q_l3, q_l4, q_l7, q_l8, q_l10, q_l17, q_l18, q_l20, q_l31, q_l40, q_l61, q_l64, q_l255, q_l256, q_leT, q_leF, q_ltT, q_ltF, q_n0, q_0le, q_cl, q_cl0, q_vpE, q_add, q_s1, q_mul, q_nle, q_nlt, false_or, or_false, not_false_eq_true, if_true, if_false, ↓reduceIte, Option.bind_some, Option.map_some]
    exact ⟨_, rfl, s, e2, e3, e4, e5, rfl⟩
theorem S_fail (x : Int32) : Sm N N cNS (fun σ => fX1_fail σ x) (fun τ => fX2_fail τ x) := by
  intro σ τ R
  simp only [fX1_fail, fX2_fail, fX2_fail_37, fX2_fail_38]
  rcases q_find R x with ⟨h1, h2⟩ | ⟨r0, p, c, rfl, B, hm, h1, h2⟩
  · simp only [h1, h2, Option.bind_some, ksm_l, go_1, ↓reduceIte]
    exact ⟨_, _, _, _, rfl, rfl, q_go R 1, FC.r σ, FR_go τ 1, Or.inl ⟨_, rfl, Or.inl ⟨rfl, sI_e _ _ _ _⟩⟩⟩
  · have bad2 : ∃ res σ' v τ', some ((Sum.inl "java/lang/IllegalStateException" : String ⊕ Int32), σ) = some (res, σ') ∧ some ((0 : Int32), sI τ 126 0 2) = some (v, τ') ∧ Rel N σ' τ' ∧ FC σ σ' ∧ FR τ τ' ∧ ((∃ E, res = .inl E ∧ cNS E (τ'.1 126 0)) ∨ (res = .inr v ∧ τ'.1 126 0 = 0)) :=
      ⟨_, _, _, _, rfl, rfl, q_go R 2, FC.r σ, FR_go τ 2, Or.inl ⟨_, rfl, Or.inr ⟨rfl, sI_e _ _ _ _⟩⟩⟩
    have n1 := B.1.2.2.1.1
    have n2 := B.1.2.2.1.2.1
    have hmany := q_many n1
    have hp := hm.1
    have hr := q_rr B
    have r3 := B.1.1.2.2.1
    have r4 := B.1.1.2.2.2
    have hn0 := B.2.2.1
    have hck := q_mcK B.1 hm
    simp (disch := omega) only [h1, h2, Option.bind_some, ksm_r, q_10, ↓reduceIte, hmany, n2, r3, r4, q_p1, go_2, go_0]
    by_cases hc : r0 < (lvl τ).length - 1
    · rw [if_pos (q_ltT hc (by omega)), if_neg (q_leF hc (by omega))]
      rcases q_without B.1 hp with ⟨w1, w2⟩ | ⟨w1, w2⟩
      · simp (disch := omega) only [w1, Option.bind_some, q_10, ↓reduceIte, q_vpE, q_cl]
        obtain ⟨σ', a1, a2, a3, a4, a5⟩ := q_remM B.1 hm
        obtain ⟨b, k1, k2⟩ := q_inv (body := fX1_fail_31 c σ) (a := 0) (fun i a => a = nI i) (fun b => b = (.inr (nI ((lvl τ).length - 1)), σ')) (lvl τ).length (by omega) rfl (by
          rintro i a hi rfl
          left
          obtain ⟨d, m1, m2⟩ := q_rowi B.1 hi
          have hdk := q_mcK B.1 m1
          simp (disch := omega) only [fX1_fail_31, gX1_fail_31, fX1_fail_73, n2, m2, q_okq hdk, q_okq hck, and_self, Option.some.injEq, q_l2, q_l3, q_l4, q_l7, q_l8, q_l10, q_l17, q_l18, q_l20, q_l31, q_l40, q_l61, q_l64, q_l255, q_l256, q_leT, q_leF, q_ltT, q_ltF, q_n0, q_0le, q_cl, q_cl0, q_vpE, q_add, q_s1, q_mul, q_nle, q_nlt, false_or, or_false, not_false_eq_true, if_true, if_false, ↓reduceIte, Option.bind_some, Option.map_some]
          by_cases e : d = c
          · simp only [e, ↓reduceIte]; exact ⟨_, rfl, rfl⟩
          · simp only [e, ↓reduceIte]
            have hne : pt τ i ≠ p := fun e' => e (by rw [e'] at m1; exact q_mcU m1 hm)
            rcases q_knows B m1 hm with ⟨g, -⟩ | ⟨-, g⟩
            · simp only [g, Option.bind_some, q_10, ↓reduceIte]; exact ⟨_, rfl, rfl⟩
            · exact absurd (w2 _ (pt_lv hi).1 (pt_lv hi).2 hne) g) (by
          rintro a rfl
          simp (disch := omega) only [fX1_fail_31, gX1_fail_31, n2, a1, a4, q_l2, q_l3, q_l4, q_l7, q_l8, q_l10, q_l17, q_l18, q_l20, q_l31, q_l40, q_l61, q_l64, q_l255, q_l256, q_leT, q_leF, q_ltT, q_ltF, q_n0, q_0le, q_cl, q_cl0, q_vpE, q_add, q_s1, q_mul, q_nle, q_nlt, false_or, or_false, not_false_eq_true, if_true, if_false, ↓reduceIte, Option.bind_some, Option.map_some]
          exact ⟨_, rfl, rfl⟩)
        rw [k1, k2]
        obtain ⟨τ3, t1, t2, t3, t4, t5, t6, t7⟩ := q_empty (τ := sI (sI τ 126 0 0) 127 p 2) hp
        have T : ∀ a j, (a = 126 → j ≠ 0) → (a = 127 → j ≠ p) → (a = 129 → j ≠ p) → (a = 131 → j ≠ p) → (a = 130 → j < 8 * p ∨ 8 * p + 8 ≤ j) → (a = 132 → j < 64 * p ∨ 64 * p + 64 ≤ j) → τ3.1 a j = τ.1 a j := by
          intro a j h0 h3 h4 h5 h6 h7
          rw [t7 a j h4 h5 h6 h7, sI_n (by by_cases e : a = 127; exact Or.inr (h3 e); exact Or.inl e), sI_n (by by_cases e : a = 126; exact Or.inr (h0 e); exact Or.inl e)]
        have T127 : τ3.1 127 p = 2 := by rw [t7 _ _ (by omega) (by omega) (by omega) (by omega), sI_e]
        obtain ⟨B', hlen⟩ := a5 τ3 T127 (fun q hq => T _ _ (by omega) (by omega) (by omega) (by omega) (by omega) (by omega)) (funext fun j => T _ _ (by omega) (by omega) (by omega) (by omega) (by omega) (by omega)) (fun j hj => T _ _ (by omega) (by omega) (by omega) (by omega) (by omega) (by omega))
        simp only [t1, Option.bind_some, q_many (τ := τ3) (by omega), hlen]
        refine ⟨_, _, _, _, rfl, rfl, ⟨r0, Or.inl ⟨B', ?_, by omega, ?_⟩⟩, ?_, ?_, Or.inr ⟨rfl, ?_⟩⟩
        · rw [T _ _ (by omega) (by omega) (by omega) (by omega) (by omega) (by omega)]; exact B.2.1
        · intro q d hm2
          obtain ⟨hm3, hne⟩ := (a2 q d).mp hm2
          have hq := hm3.1
          have hdb := q_cb (q_mcK B.1 hm3)
          refine q_dat6 (B.2.2.2 q d hm3) (Nat.le_refl _) ?_ ?_ ?_ ?_ ?_ ?_ ?_ ?_ ?_ ?_ ?_
          · exact a3 _ _ (by omega)
          · exact a3 _ _ (by omega)
          · intro k _; exact a3 _ _ (by omega)
          · intro k _; exact a3 _ _ (by omega)
          · intro k _; exact ⟨a3 _ _ (by omega), a3 _ _ (by omega), a3 _ _ (by omega)⟩
          · exact T _ _ (by omega) (by omega) (by omega) (by omega) (by omega) (by omega)
          · exact T _ _ (by omega) (by omega) (by omega) (by omega) (by omega) (by omega)
          · intro k _; exact T _ _ (by omega) (by omega) (by omega) (by omega) (by omega) (by omega)
          · intro k _; exact T _ _ (by omega) (by omega) (by omega) (by omega) (by omega) (by omega)
          · intro k _; exact ⟨T _ _ (by omega) (by omega) (by omega) (by omega) (by omega) (by omega), T _ _ (by omega) (by omega) (by omega) (by omega) (by omega) (by omega), T _ _ (by omega) (by omega) (by omega) (by omega) (by omega) (by omega)⟩
          · obtain ⟨k, f1, y, f2, f3, f4, f5, -⟩ := w2 q hq (q_mcLv B.1 hm3) hne
            exact ⟨k, f1, y, f2, by rw [T _ _ (by omega) (by omega) (by omega) (by omega) (by omega) (by omega)]; exact f3, by rw [T _ _ (by omega) (by omega) (by omega) (by omega) (by omega) (by omega)]; exact f4⟩
        · intro a ha
          exact funext fun j => a3 a j (by omega)
        · refine ⟨fun a ha => funext fun j => T _ _ (by omega) (by omega) (by omega) (by omega) (by omega) (by omega), t2⟩
        · rw [t7 _ _ (by omega) (by omega) (by omega) (by omega), sI_n (by omega), sI_e]
      · simp only [w1, Option.bind_some, ↓reduceIte]
        obtain ⟨b, k1, k2⟩ := q_inv (body := fX1_fail_31 c σ) (a := 0) (fun i a => a = nI i ∧ ∀ j, j < i → pt τ j ≠ p → Wb r0 τ p (pt τ j)) (fun b => b = (.inl "java/lang/IllegalStateException", σ)) (lvl τ).length (by omega) ⟨rfl, fun j hj => absurd hj (Nat.not_lt_zero j)⟩ (by
          rintro i a hi ⟨rfl, hI⟩
          obtain ⟨d, m1, m2⟩ := q_rowi B.1 hi
          have hdk := q_mcK B.1 m1
          simp (disch := omega) only [fX1_fail_31, gX1_fail_31, fX1_fail_73, n2, m2, q_okq hdk, q_okq hck, and_self, Option.some.injEq, q_l2, q_l3, q_l4, q_l7, q_l8, q_l10, q_l17, q_l18, q_l20, q_l31, q_l40, q_l61, q_l64, q_l255, q_l256, q_leT, q_leF, q_ltT, q_ltF, q_n0, q_0le, q_cl, q_cl0, q_vpE, q_add, q_s1, q_mul, q_nle, q_nlt, false_or, or_false, not_false_eq_true, if_true, if_false, ↓reduceIte, Option.bind_some, Option.map_some]
          have nxt : (pt τ i ≠ p → Wb r0 τ p (pt τ i)) → ∀ j, j < i + 1 → pt τ j ≠ p → Wb r0 τ p (pt τ j) := fun g j hj hne => by
            by_cases e : j = i
            · subst e; exact g hne
            · exact hI j (by omega) hne
          by_cases e : d = c
          · left
            subst e
            have e' := q_mcI B.1 m1 hm
            simp only [↓reduceIte]; exact ⟨_, rfl, rfl, nxt (fun g => absurd e' g)⟩
          · simp only [e, ↓reduceIte]
            rcases q_knows B m1 hm with ⟨g, g2⟩ | ⟨g, g2⟩
            · left
              simp only [g, Option.bind_some, q_10, ↓reduceIte]; exact ⟨_, rfl, rfl, nxt (fun _ => g2)⟩
            · right
              simp only [g, Option.bind_some, ↓reduceIte]; exact ⟨_, rfl, rfl⟩) (by
          rintro a ⟨rfl, hI⟩
          exfalso
          apply w2
          intro y hy hl hne
          obtain ⟨c1, c2⟩ := pt_cnb hy hl
          have := hI _ c1
          rw [c2] at this
          exact this hne)
        rw [k1, k2]
        exact bad2
    · rw [if_neg (q_ltF (by omega) (by omega)), if_pos (q_leT (by omega) (by omega))]
      exact bad2
end
