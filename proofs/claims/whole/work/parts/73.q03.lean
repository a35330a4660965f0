section
variable {N rr : Nat} {σ τ : kS}
theorem q_succ (B : Ro N rr σ τ) {p c : Nat} (h : Mc σ p c) : ∃ q d k, k < rr ∧ τ.1 128 (4 * p + k) = nI q ∧ Mc σ q d ∧ fX1_successor σ c = some (some d) ∧ fX2_successor τ (nI p) = some (nI q) := by
  obtain ⟨b, -, -, hD⟩ := B
  obtain ⟨-, -, d3, -, -, ⟨k0, g1, q0, g2, g3, g4⟩⟩ := hD p c h
  obtain ⟨r1, r2, r3, r4⟩ := b.1
  have hp := h.1
  have hk := q_mcK b h
  have key := q_two (b1 := fX1_successor_2 c σ) (b2 := fX2_successor_2 (nI p) τ) (a := 0) (c := 0)
    (fun k a b => a = nI k ∧ b = nI k ∧ ∀ j, j < k → ∀ q, q < 256 → τ.1 128 (4 * p + j) = nI q → ¬ τ.1 127 q = 1)
    (fun x y => ∃ q d k, k < rr ∧ τ.1 128 (4 * p + k) = nI q ∧ Mc σ q d ∧ x = some d ∧ y = nI q) rr (by omega) ⟨rfl, rfl, fun j hj => absurd hj (Nat.not_lt_zero j)⟩ ?_ ?_
  · obtain ⟨x, y, h1, h2, q, d, k, h3, h4, h5, rfl, rfl⟩ := key
    exact ⟨q, d, k, h3, h4, h5, h1, h2⟩
  · rintro k a b' hkr ⟨rfl, rfl, hn⟩
    simp (disch := omega) only [fX1_successor_2, gX1_successor_2, fX2_successor_2, gX2_successor_2, r3, r4, q_l2, q_l3, q_l4, q_l7, q_l8, q_l10, q_l17, q_l18, q_l20, q_l31, q_l40, q_l61, q_l64, q_l255, q_l256, q_leT, q_leF, q_ltT, q_ltF, q_ne, q_n0, q_0le, q_ne0, q_le0F, q_lt0T, q_nm1, q_ltm1, q_cl, q_cl0, q_vpE, q_add, q_s1, q_mul, q_nle, q_nlt, false_or, or_false, not_false_eq_true, if_true, if_false, ↓reduceIte, Option.bind_some, Option.map_some, hk]
    have hv : 4 * p + k < 1024 := by omega

    rw [d3 k hkr]
    rcases q_live b (τ.1 128 (4 * p + k)) with ⟨h1, h2, h3⟩ | ⟨q, d, h1, h2, h3, h4, h5⟩
    · left
      rw [h1, h2]
      simp only [Option.bind_some, kmn_n, ↓reduceIte]
      refine ⟨_, _, rfl, rfl, rfl, rfl, fun j hj q hq e => ?_⟩
      rcases Nat.lt_succ_iff_lt_or_eq.mp hj with g | g
      · exact hn j g q hq e
      · subst g; exact h3 q hq e
    · right
      rw [h4, h5]
      simp only [Option.bind_some, kmn_s, q_10, ↓reduceIte]
      exact ⟨_, _, rfl, rfl, q, d, k, hkr, h1, h2, rfl, h1⟩
  · rintro a b' ⟨rfl, rfl, hn⟩
    exact absurd g4 (hn k0 g1 q0 g2 g3)
theorem q_to1 {r0 : Nat} (hr : 2 ≤ r0 ∧ r0 ≤ 4) (h7 : σ.1 0 7 = nI r0) {c d : Nat} (hc : kd c = (0, 0, 8)) (hd : kd d = (0, 0, 8)) : ∃ σ', fX1_takeOver σ c d = some σ' ∧ σ'.2 = σ.2 ∧ (∀ a j, a ≠ c + 1 ∨ r0 ≤ j → σ'.1 a j = σ.1 a j) ∧ σ'.1 (c + 1) 0 = σ.1 d 5 ∧ ∀ k, k + 1 < r0 → σ'.1 (c + 1) (k + 1) = σ.1 (d + 1) k := by
  obtain ⟨r1, r2⟩ := hr
  obtain ⟨m, hm, em⟩ := q_kd hc
  obtain ⟨m', hm', em'⟩ := q_kd hd
  refine q_inv (body := fX1_takeOver_7 c d) (a := (σ.1 0 7 - 1, σ)) (fun j a => a.1 = nI (r0 - 1 - j) ∧ a.2.2 = σ.2 ∧ (∀ x i, x ≠ c + 1 ∨ r0 ≤ i ∨ i ≤ r0 - 1 - j → a.2.1 x i = σ.1 x i) ∧ ∀ k, r0 - 1 - j < k + 1 → k + 1 < r0 → a.2.1 (c + 1) (k + 1) = σ.1 (d + 1) k)
    (fun s => s.2 = σ.2 ∧ (∀ a j, a ≠ c + 1 ∨ r0 ≤ j → s.1 a j = σ.1 a j) ∧ s.1 (c + 1) 0 = σ.1 d 5 ∧ ∀ k, k + 1 < r0 → s.1 (c + 1) (k + 1) = σ.1 (d + 1) k) (r0 - 1) (by omega) ?_ ?_ ?_
  · refine ⟨?_, rfl, fun _ _ _ => rfl, fun k h1 h2 => ?_⟩
    · rw [h7]; simp (disch := omega) only [q_p1]; rfl
    · omega
  · rintro j ⟨x, s⟩ hj ⟨e1, e2, e3, e4⟩
    dsimp only at e1 e2 e3 e4
    subst e1
    left
    simp (disch := omega) only [fX1_takeOver_7, gX1_takeOver_7, hc, hd, q_p1, q_d1, q_l2, q_l3, q_l4, q_l7, q_l8, q_l10, q_l17, q_l18, q_l20, q_l31, q_l40, q_l61, q_l64, q_l255, q_l256, q_leT, q_leF, q_ltT, q_ltF, q_ne, q_n0, q_0le, q_ne0, q_le0F, q_lt0T, q_nm1, q_ltm1, q_cl, q_cl0, q_vpE, q_add, q_s1, q_mul, q_nle, q_nlt, false_or, or_false, not_false_eq_true, if_true, if_false, ↓reduceIte, Option.bind_some, Option.map_some]
    refine ⟨_, rfl, ?_⟩; refine ⟨?_, e2, fun x i hx => ?_, fun k h1 h2 => ?_⟩
    · show nI _ = nI _; congr 1
    · show (sI s _ _ _).1 x i = _
      rw [sI_n (by omega)]
      exact e3 x i (by omega)
    · show (sI s _ _ _).1 (c + 1) (k + 1) = _
      by_cases e : k + 1 = r0 - 1 - j
      · rw [e]; show (sI s (c + 1) _ _).1 (c + 1) _ = _
        rw [sI_e]
        show s.1 (d + 1) _ = _
        rw [e3 (d + 1) _ (by omega), show r0 - 1 - j - 1 = k by omega]
      · rw [sI_n (by omega)]
        exact e4 k (by omega) h2
  · rintro ⟨x, s⟩ ⟨e1, e2, e3, e4⟩
    dsimp only at e1 e2 e3 e4
    have e5 : x = 0 := by rw [e1, show r0 - 1 - (r0 - 1) = 0 by omega]; rfl
    subst e5
    simp only [fX1_takeOver_7, gX1_takeOver_7, hc, hd, ↓reduceIte, q_cl0, show ((0 : Int32) ≤ 0) = True from eq_true (by decide)]
    refine ⟨_, rfl, ?_⟩; refine ⟨e2, fun a j hx => ?_, ?_, fun k h => ?_⟩
    · rw [sI_n (by omega)]; exact e3 a j (by omega)
    · show (sI s (c + 1) _ _).1 (c + 1) _ = _
      rw [sI_e]; exact e3 d 5 (by omega)
    · rw [sI_n (by omega)]; exact e4 k (by omega) h
theorem q_to2 {r0 : Nat} (hr : 2 ≤ r0 ∧ r0 ≤ 4) (h1 : τ.1 126 1 = nI r0) {p q : Nat} (hp : p < 256) (hq : q < 256) : ∃ τ', fX2_takeOver τ (nI p) (nI q) = some τ' ∧ τ'.2 = τ.2 ∧ (∀ a j, a ≠ 135 → (a ≠ 128 ∨ j < 4 * p ∨ 4 * p + r0 ≤ j) → τ'.1 a j = τ.1 a j) ∧ τ'.1 128 (4 * p) = nI q ∧ ∀ k, k + 1 < r0 → τ'.1 128 (4 * p + (k + 1)) = τ.1 128 (4 * q + k) := by
  obtain ⟨r1, r2⟩ := hr
  refine q_inv (body := fX2_takeOver_2 (nI p) (nI q)) (a := (0, τ)) (fun j a => a.1 = nI j ∧ a.2.2 = τ.2 ∧ (∀ x i, x ≠ 135 → a.2.1 x i = τ.1 x i) ∧ (0 < j → a.2.1 135 0 = nI q) ∧ ∀ k, k + 1 < j → a.2.1 135 (k + 1) = τ.1 128 (4 * q + k))
    (fun s => s.2 = τ.2 ∧ (∀ a j, a ≠ 135 → (a ≠ 128 ∨ j < 4 * p ∨ 4 * p + r0 ≤ j) → s.1 a j = τ.1 a j) ∧ s.1 128 (4 * p) = nI q ∧ ∀ k, k + 1 < r0 → s.1 128 (4 * p + (k + 1)) = τ.1 128 (4 * q + k)) r0 (by omega) ?_ ?_ ?_
  · exact ⟨rfl, rfl, fun _ _ _ => rfl, fun h => absurd h (by omega), fun k h => absurd h (by omega)⟩
  · rintro j ⟨x, s⟩ hj ⟨e1, e2, e3, e4, e5⟩
    dsimp only at e1 e2 e3 e4 e5
    subst e1
    left
    by_cases hz : j = 0
    · subst hz
      simp (disch := omega) only [fX2_takeOver_2, gX2_takeOver_2, fX2_takeOver_35, e3 126 1 (by omega), h1, show (nI 0 = 0) = True from eq_true rfl, q_l2, q_l3, q_l4, q_l7, q_l8, q_l10, q_l17, q_l18, q_l20, q_l31, q_l40, q_l61, q_l64, q_l255, q_l256, q_leT, q_leF, q_ltT, q_ltF, q_ne, q_n0, q_0le, q_ne0, q_le0F, q_lt0T, q_nm1, q_ltm1, q_cl, q_cl0, q_vpE, q_add, q_s1, q_mul, q_nle, q_nlt, false_or, or_false, not_false_eq_true, if_true, if_false, ↓reduceIte, Option.bind_some, Option.map_some]
      refine ⟨_, rfl, ?_⟩; refine ⟨rfl, e2, fun x i hx => ?_, fun _ => ?_, fun k h => (by first | exact h.elim | omega)⟩
      · show (sI s _ _ _).1 x i = _
        rw [sI_n (by omega)]; exact e3 x i hx
      · show (sI s 135 0 _).1 135 0 = _
        rw [sI_e]
    · simp (disch := omega) only [fX2_takeOver_2, gX2_takeOver_2, fX2_takeOver_35, e3 126 1 (by omega), h1, q_p1, q_l2, q_l3, q_l4, q_l7, q_l8, q_l10, q_l17, q_l18, q_l20, q_l31, q_l40, q_l61, q_l64, q_l255, q_l256, q_leT, q_leF, q_ltT, q_ltF, q_ne, q_n0, q_0le, q_ne0, q_le0F, q_lt0T, q_nm1, q_ltm1, q_cl, q_cl0, q_vpE, q_add, q_s1, q_mul, q_nle, q_nlt, false_or, or_false, not_false_eq_true, if_true, if_false, ↓reduceIte, Option.bind_some, Option.map_some]
      refine ⟨_, rfl, ?_⟩; refine ⟨rfl, e2, fun x i hx => ?_, fun _ => ?_, fun k h => ?_⟩
      · show (sI s _ _ _).1 x i = _
        rw [sI_n (by omega)]; exact e3 x i hx
      · show (sI s 135 _ _).1 135 0 = _
        rw [sI_n (by omega)]; exact e4 (by omega)
      · show (sI s 135 _ _).1 135 _ = _
        by_cases e : k + 1 = j
        · rw [e, sI_e, e3 128 _ (by omega), show 4 * q + j - 1 = 4 * q + k by omega]
        · rw [sI_n (by omega)]; exact e5 k (by omega)
  · rintro ⟨x, s⟩ ⟨e1, e2, e3, e4, e5⟩
    dsimp only at e1 e2 e3 e4 e5
    subst e1
    simp (disch := omega) only [fX2_takeOver_2, gX2_takeOver_2, e3 126 1 (by omega), h1, q_l2, q_l3, q_l4, q_l7, q_l8, q_l10, q_l17, q_l18, q_l20, q_l31, q_l40, q_l61, q_l64, q_l255, q_l256, q_leT, q_leF, q_ltT, q_ltF, q_ne, q_n0, q_0le, q_ne0, q_le0F, q_lt0T, q_nm1, q_ltm1, q_cl, q_cl0, q_vpE, q_add, q_s1, q_mul, q_nle, q_nlt, false_or, or_false, not_false_eq_true, if_true, if_false, ↓reduceIte, Option.bind_some, Option.map_some]
    have key := q_inv (body := fX2_takeOver_44 (nI p)) (a := (0, s)) (fun j a => a.1 = nI j ∧ a.2.2 = τ.2 ∧ (∀ x i, x ≠ 135 → (x ≠ 128 ∨ i < 4 * p ∨ 4 * p + j ≤ i) → a.2.1 x i = τ.1 x i) ∧ (∀ i, a.2.1 135 i = s.1 135 i) ∧ ∀ k, k < j → a.2.1 128 (4 * p + k) = s.1 135 k)
      (fun s' => s'.2 = τ.2 ∧ (∀ a j, a ≠ 135 → (a ≠ 128 ∨ j < 4 * p ∨ 4 * p + r0 ≤ j) → s'.1 a j = τ.1 a j) ∧ s'.1 128 (4 * p) = nI q ∧ ∀ k, k + 1 < r0 → s'.1 128 (4 * p + (k + 1)) = τ.1 128 (4 * q + k)) r0 (by omega) ?_ ?_ ?_
    · obtain ⟨b, g1, g2⟩ := key
      exact ⟨b, by rw [g1]; rfl, g2⟩
    · exact ⟨rfl, e2, fun x i hx _ => e3 x i hx, fun _ => rfl, fun k h => absurd h (by omega)⟩
    · rintro j ⟨x, s'⟩ hj ⟨f1, f2, f3, f4, f5⟩
      dsimp only at f1 f2 f3 f4 f5
      subst f1
      left
      simp (disch := omega) only [fX2_takeOver_44, gX2_takeOver_44, f3 126 1 (by omega) (by omega), h1, q_l2, q_l3, q_l4, q_l7, q_l8, q_l10, q_l17, q_l18, q_l20, q_l31, q_l40, q_l61, q_l64, q_l255, q_l256, q_leT, q_leF, q_ltT, q_ltF, q_ne, q_n0, q_0le, q_ne0, q_le0F, q_lt0T, q_nm1, q_ltm1, q_cl, q_cl0, q_vpE, q_add, q_s1, q_mul, q_nle, q_nlt, false_or, or_false, not_false_eq_true, if_true, if_false, ↓reduceIte, Option.bind_some, Option.map_some]
      refine ⟨_, rfl, ?_⟩; refine ⟨rfl, f2, fun x i hx hy => ?_, fun i => ?_, fun k h => ?_⟩
      · show (sI s' _ _ _).1 x i = _
        rw [sI_n (by omega)]; exact f3 x i hx (by omega)
      · show (sI s' _ _ _).1 135 i = _
        rw [sI_n (by omega)]; exact f4 i
      · show (sI s' 128 _ _).1 128 _ = _
        by_cases e : k = j
        · subst e; rw [sI_e]; exact f4 _
        · rw [sI_n (by omega)]; exact f5 k (by omega)
    · rintro ⟨x, s'⟩ ⟨f1, f2, f3, f4, f5⟩
      dsimp only at f1 f2 f3 f4 f5
      subst f1
      simp (disch := omega) only [fX2_takeOver_44, gX2_takeOver_44, f3 126 1 (by omega) (by omega), h1, q_l2, q_l3, q_l4, q_l7, q_l8, q_l10, q_l17, q_l18, q_l20, q_l31, q_l40, q_l61, q_l64, q_l255, q_l256, q_leT, q_leF, q_ltT, q_ltF, q_ne, q_n0, q_0le, q_ne0, q_le0F, q_lt0T, q_nm1, q_ltm1, q_cl, q_cl0, q_vpE, q_add, q_s1, q_mul, q_nle, q_nlt, false_or, or_false, not_false_eq_true, if_true, if_false, ↓reduceIte, Option.bind_some, Option.map_some]
      refine ⟨_, rfl, ?_⟩; refine ⟨f2, fun x i hx hy => f3 x i hx hy, ?_, fun k h => ?_⟩
      · have := f5 0 (by omega)
        rw [Nat.add_zero] at this
        rw [this]; exact e4 (by omega)
      · rw [f5 (k + 1) h]; exact e5 k h
end
