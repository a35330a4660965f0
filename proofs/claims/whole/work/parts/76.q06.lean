section
variable {N rr : Nat} {σ τ : kS}
def TC (σ σ' : kS) : Prop := σ'.2 = σ.2 ∧ ∀ a j, a ≠ 124 → (a ≠ 0 ∨ (j ≠ 4 ∧ j ≠ 11)) → σ'.1 a j = σ.1 a j
def TR (τ τ' : kS) : Prop := τ'.2 = τ.2 ∧ ∀ a j, a ≠ 136 → (a ≠ 126 ∨ (j ≠ 12 ∧ j ≠ 14)) → τ'.1 a j = τ.1 a j
theorem TC.k {σ σ' : kS} (h : TC σ σ') : KC σ σ' := by
  obtain ⟨h1, h2⟩ := h
  refine ⟨h1, fun a ha => funext fun j => h2 a j (by omega) (by omega), funext fun j => h2 _ j (by omega) (by omega), funext fun j => h2 _ j (by omega) (by omega), fun j g1 g2 => h2 0 j (by omega) (by omega), fun c hc => h2 c 5 ?_ (by omega)⟩
  have := q_cb hc
  omega
theorem TR.k {τ τ' : kS} (h : TR τ τ') : KR τ τ' := by
  obtain ⟨h1, h2⟩ := h
  exact ⟨h1, fun a ha => funext fun j => h2 a j (by omega) (by omega), funext fun j => h2 _ j (by omega) (by omega), funext fun j => h2 _ j (by omega) (by omega), fun j g1 g2 => h2 _ j (by omega) (by omega)⟩
theorem q_tt (B : Ro N rr σ τ) {σ' τ' : kS} (h : TC σ σ') (g : TR τ τ') (h8 : σ'.1 0 11 = τ'.1 126 14) : Ro N rr σ' τ' := by
  refine q_ro B h.k g.k h8 ?_
  intro p c hm
  have D := B.2.2.2 p c hm
  have hb := q_cb (q_mcK B.1 hm)
  have hr := q_rr B
  obtain ⟨-, s3⟩ := h
  obtain ⟨-, t3⟩ := g
  refine q_dat D hr.2 (Nat.le_refl _) ?_ ?_ ?_ ?_ ?_ ?_ ?_ ?_ ?_ ?_ ?_
  · exact s3 _ _ (by omega) (by omega)
  · exact s3 _ _ (by omega) (by omega)
  · intro k _; exact s3 _ _ (by omega) (by omega)
  · intro k _; exact s3 _ _ (by omega) (by omega)
  · intro k _; exact ⟨s3 _ _ (by omega) (by omega), s3 _ _ (by omega) (by omega), s3 _ _ (by omega) (by omega)⟩
  · exact t3 _ _ (by omega) (by omega)
  · exact t3 _ _ (by omega) (by omega)
  · intro k _; exact t3 _ _ (by omega) (by omega)
  · intro k _; exact t3 _ _ (by omega) (by omega)
  · intro k _; exact ⟨t3 _ _ (by omega) (by omega), t3 _ _ (by omega) (by omega), t3 _ _ (by omega) (by omega)⟩
  · exact funext fun j => t3 _ j (by omega) (by omega)
def cntU (τ : kS) (x m : Nat) : Nat := (lvl τ).countP (fun y => decide (up y x < up m x))
def Trl (h : Nat) (σ τ : kS) : Prop := σ.1 0 4 = nI h ∧ τ.1 126 12 = nI h ∧ σ.1 0 11 = τ.1 126 14 ∧ ∀ k, k < h → σ.1 124 k = τ.1 136 k
theorem q_look (B : Ro N rr σ τ) {p c x : Nat} (h : Mc σ p c) (hx : x < 256) : ∃ q d σ' τ' t, fX1_lookFor σ c (nI x) = some (d, σ') ∧ fX2_lookFor τ (nI p) (nI x) = some (nI q, τ') ∧ Mc σ q d ∧ Ro N rr σ' τ' ∧ TC σ σ' ∧ TR τ τ' ∧ t ≤ 19 ∧ Trl t σ' τ' := by
  have hn20 := B.1.2.2.1.1
  have key := q_two (b1 := fX1_lookFor_10 (nI x)) (b2 := fX2_lookFor_7 (nI x)) (a := (c, 0, sI σ 0 4 0)) (c := (nI p, sI τ 126 12 0))
    (fun k a b => ∃ m, Mc σ m a.1 ∧ b.1 = nI m ∧ a.2.1 = nI k ∧ TC σ a.2.2 ∧ TR τ b.2 ∧ Trl k a.2.2 b.2 ∧ k + cntU τ x m + 1 ≤ (lvl τ).length)
    (fun a b => ∃ q t, b.1 = nI q ∧ Mc σ q a.1 ∧ TC σ a.2 ∧ TR τ b.2 ∧ t ≤ 19 ∧ Trl t a.2 b.2) 20 (by omega) ?_ ?_ ?_
  · obtain ⟨⟨d, σ'⟩, ⟨y, τ'⟩, f1, f2, q, t, g1, g2, g3, g4, g5, g6⟩ := key
    dsimp only at g1 g2 g3 g4 g5 g6
    subst g1
    exact ⟨q, d, σ', τ', t, f1, f2, g2, q_tt B g3 g4 g6.2.2.1, g3, g4, g5, g6⟩
  · refine ⟨p, h, rfl, rfl, ⟨rfl, fun a j h1 h2 => sI_n (by omega)⟩, ⟨rfl, fun a j h1 h2 => sI_n (by omega)⟩, ⟨sI_e _ _ _ _, sI_e _ _ _ _, ?_, fun k hk => absurd hk (Nat.not_lt_zero k)⟩, ?_⟩
    · show (sI σ 0 4 0).1 0 11 = (sI τ 126 12 0).1 126 14
      rw [sI_n (by omega), sI_n (by omega)]; exact q_h8 B
    · have := q_cnt (l := lvl τ) (f := fun y => decide (up y x < up p x)) (g := fun _ => true) (fun _ _ => rfl) (a := p) (q_lvl.mpr ⟨h.1, q_mcLv B.1 h⟩) rfl (by simp)
      simp only [cntU, List.countP_true] at *
      omega
  · rintro k ⟨c', i, σ'⟩ ⟨y, τ'⟩ hk ⟨m, hm, e1, e2, hT, hU, hL, hc⟩
    dsimp only at hm e1 e2 hT hU hL hc
    subst e1 e2
    have B' : Ro N rr σ' τ' := q_tt B hT hU hL.2.2.1
    have hm' : Mc σ' m c' := hT.k.mc.mpr hm
    have hml := hm.1
    obtain ⟨s, d, j, j1, j2, hs, f1, f2⟩ := q_succ B' hm'
    have hsl := hs.1
    have hk19 : k ≤ 19 := by omega
    simp (disch := omega) only [fX1_lookFor_10, gX1_lookFor_10, fX2_lookFor_7, gX2_lookFor_7, fX1_ownerKnownBy, q_mcK B'.1 hm', q_mcP B'.1 hm', f1, f2, kmn_s, q_mcK B'.1 hs, q_mcP B'.1 hs, q_l2, q_l3, q_l4, q_l7, q_l8, q_l10, q_l17, q_l18, q_l20, q_l31, q_l40, q_l61, q_l64, q_l255, q_l256, q_leT, q_leF, q_ltT, q_ltF, q_n0, q_0le, q_cl, q_cl0, q_vpE, q_add, q_s1, q_mul, q_nle, q_nlt, false_or, or_false, not_false_eq_true, if_true, if_false, ↓reduceIte, Option.bind_some, Option.map_some]
    by_cases exm : x = m
    · subst exm
      right
      simp only [↓reduceIte, Option.bind_some, kmn_s]
      exact ⟨_, _, rfl, rfl, x, k, rfl, hm, hT, hU, hk19, hL⟩
    · rw [if_neg (q_ne exm (by omega) (by omega)), if_neg (q_ne exm (by omega) (by omega))]
      by_cases exs : x = s
      · subst exs
        right
        simp only [↓reduceIte, Option.bind_some, kmn_s]
        exact ⟨_, _, rfl, rfl, x, k, rfl, hT.k.mc.mp hs, hT, hU, hk19, hL⟩
      · rw [if_neg (q_ne exs (by omega) (by omega)), if_neg (q_ne exs (by omega) (by omega)), q_btw1 hml hx hsl, q_btw2 hml hx hsl]
        cases hbt : btw m x s
        · simp only [Option.bind_some, bI_F, ↓reduceIte, kmn_n]
          left
          have hne : m ≠ x := fun e => exm e.symm
          obtain ⟨c2, g1, l, g2, g3, g4⟩ := q_last B' hm' hx hne
          obtain ⟨b, g5, g6⟩ := q_best B' hml hx hne (h := k) (by omega) hL.2.1
          have hvs : Vd τ' m x s := by
            refine ⟨hsl, q_mcLv B'.1 hs, ?_⟩
            simp only [btw, decide_eq_false_iff_not] at hbt
            have u1 : ¬ up m x = 0 := fun e => exm ((up_eq0 hml hx).mp e).symm
            have u2 : ¬ up m s = up m x := fun e => exs (q_ar3 hml hsl hx e).symm
            omega
          have hks : (∃ k, k < rr ∧ τ'.1 128 (4 * m + k) = nI s) ∨ ∃ k, k < 8 ∧ τ'.1 130 (8 * m + k) = nI s := Or.inl ⟨j, j1, j2⟩
          have hl : Vd τ' m x l ∧ ((∃ k, k < rr ∧ τ'.1 128 (4 * m + k) = nI l) ∨ ∃ k, k < 8 ∧ τ'.1 130 (8 * m + k) = nI l) := by
            rcases g3 with e | g
            · subst e
              have := g4 s hvs hks
              have u0 := (up_eq0 hml hml).mpr rfl
              have := hvs.2.2.1
              omega
            · exact g
          rcases g6 with ⟨-, g6⟩ | ⟨l', rfl, g6, g7, g8⟩
          · exact absurd hks (g6 s hvs)
          · have e : up m l = up m l' := Nat.le_antisymm (g8 l hl.1 hl.2) (g4 l' g6 g7)
            have e := q_ar3 hml hl.1.1 g6.1 e
            subst e
            have hll := g2.1
            simp (disch := omega) only [g1, g5, Option.bind_some, q_mcK B'.1 g2, q_mcP B'.1 g2, q_l2, q_l3, q_l4, q_l7, q_l8, q_l10, q_l17, q_l18, q_l20, q_l31, q_l40, q_l61, q_l64, q_l255, q_l256, q_leT, q_leF, q_ltT, q_ltF, q_n0, q_0le, q_cl, q_cl0, q_vpE, q_add, q_s1, q_mul, q_nle, q_nlt, false_or, or_false, not_false_eq_true, if_true, if_false, ↓reduceIte, Option.bind_some, Option.map_some]
            refine ⟨_, _, rfl, rfl, l, ?_⟩
            have g2' : Mc σ l c2 := hT.k.mc.mp g2
            obtain ⟨l1, l2, l3, l4⟩ := hL
            obtain ⟨t1, t2⟩ := hT
            obtain ⟨u1, u2⟩ := hU
            refine ⟨g2', rfl, rfl, ⟨t1, fun a j h1 h2 => ?_⟩, ⟨u1, fun a j h1 h2 => ?_⟩, ⟨?_, ?_, ?_, fun i hi => ?_⟩, ?_⟩
            · show (sI (sI (sI σ' _ _ _) _ _ _) _ _ _).1 a j = _
              rw [sI_n (by omega), sI_n (by omega), sI_n (by omega)]; exact t2 a j h1 h2
            · show (sI (sI (sI τ' _ _ _) _ _ _) _ _ _).1 a j = _
              rw [sI_n (by omega), sI_n (by omega), sI_n (by omega)]; exact u2 a j h1 h2
            · show (sI (sI (sI σ' _ _ _) _ _ _) _ _ _).1 0 4 = _
              rw [sI_n (by omega), sI_e, sI_n (by omega), l1, q_s1]
            · show (sI (sI (sI τ' _ _ _) _ _ _) _ _ _).1 126 12 = _
              rw [sI_n (by omega), sI_e]
            · show (sI (sI (sI σ' _ _ _) _ _ _) _ _ _).1 0 11 = (sI (sI (sI τ' _ _ _) _ _ _) _ _ _).1 126 14
              rw [sI_e, sI_e, sI_n (by omega), sI_n (by omega), l3]
            · show (sI (sI (sI σ' _ _ _) _ _ _) _ _ _).1 124 i = (sI (sI (sI τ' _ _ _) _ _ _) _ _ _).1 136 i
              refine Eq.trans (sI_n (by omega)) (Eq.trans (sI_n (by omega)) (Eq.trans ?_ (Eq.symm (Eq.trans (sI_n (by omega)) (sI_n (by omega))))))
              by_cases e : i = k
              · subst e; rw [sI_e, sI_e]
              · rw [sI_n (by omega), sI_n (by omega)]; exact l4 i (by omega)
            · have e127 : τ'.1 127 = τ.1 127 := funext fun j => u2 127 j (by omega) (by omega)
              have hul := q_ar2 hml hll hx hl.1.2.2.1 hl.1.2.2.2
              have := q_cnt (l := lvl τ) (f := fun y => decide (up y x < up l x)) (g := fun y => decide (up y x < up m x)) (fun y hy => by simp only [decide_eq_true_eq] at *; omega) (a := l) (q_lvl.mpr ⟨hll, q_mcLv B.1 g2'⟩) (by simpa using hul) (by simp)
              simp only [cntU] at *
              omega
        · simp only [Option.bind_some, bI_T, q_10, ↓reduceIte, kmn_s]
          right
          exact ⟨_, _, rfl, rfl, s, k, rfl, hT.k.mc.mp hs, hT, hU, hk19, hL⟩
  · rintro ⟨c', i, σ'⟩ ⟨y, τ'⟩ ⟨m, hm, e1, e2, hT, hU, hL, hc⟩
    omega
end
