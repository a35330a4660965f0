section
variable {N rr : Nat} {σ τ : kS}
theorem q_many (h20 : (lvl τ).length ≤ 20) : fX2_many τ = some (nI (lvl τ).length) := by
  obtain ⟨b, h1, h2⟩ := q_inv (body := fX2_many_4 τ) (a := (0, 0)) (fun p a => a.1 = nI (cnb τ p) ∧ a.2 = nI p) (fun b => b = nI (lvl τ).length) 256 (by omega) ⟨rfl, rfl⟩ (by
    rintro p ⟨x, y⟩ hp ⟨e1, e2⟩
    dsimp only at e1 e2
    subst e1 e2
    left
    have hS := cnb_S τ p
    simp (disch := omega) only [fX2_many_4, gX2_many_4, fX2_many_28, q_l2, q_l3, q_l4, q_l7, q_l8, q_l10, q_l17, q_l18, q_l20, q_l31, q_l40, q_l61, q_l64, q_l255, q_l256, q_leT, q_leF, q_ltT, q_ltF, q_n0, q_0le, q_cl, q_cl0, q_vpE, q_add, q_s1, q_mul, q_nle, q_nlt, false_or, or_false, not_false_eq_true, if_true, if_false, ↓reduceIte, Option.bind_some, Option.map_some]
    by_cases hl : τ.1 127 p = 1
    · rw [if_pos hl] at hS ⊢
      exact ⟨_, rfl, by rw [hS], rfl⟩
    · rw [if_neg hl] at hS ⊢
      exact ⟨_, rfl, by rw [hS]; rfl, rfl⟩) (by
    rintro ⟨x, y⟩ ⟨e1, e2⟩
    dsimp only at e1 e2
    subst e1 e2
    simp (disch := omega) only [fX2_many_4, gX2_many_4, q_l2, q_l3, q_l4, q_l7, q_l8, q_l10, q_l17, q_l18, q_l20, q_l31, q_l40, q_l61, q_l64, q_l255, q_l256, q_leT, q_leF, q_ltT, q_ltF, q_n0, q_0le, q_cl, q_cl0, q_vpE, q_add, q_s1, q_mul, q_nle, q_nlt, false_or, or_false, not_false_eq_true, if_true, if_false, ↓reduceIte, Option.bind_some, Option.map_some]
    exact ⟨_, rfl, rfl⟩)
  rw [h2] at h1
  exact h1
def NX (τ : kS) (x y : Nat) : Prop := y < 256 ∧ τ.1 127 y = 1 ∧ ∀ m, m < 256 → τ.1 127 m = 1 → up x y ≤ up x m
def LX (τ : kS) (x y : Nat) : Prop := y < 256 ∧ τ.1 127 y = 1 ∧ ∀ m, m < 256 → τ.1 127 m = 1 → up y x ≤ up m x
theorem NX.u {x y z : Nat} (hx : x < 256) (h : NX τ x y) (g : NX τ x z) : y = z := by
  have := Nat.le_antisymm (h.2.2 z g.1 g.2.1) (g.2.2 y h.1 h.2.1)
  exact q_ar3 hx h.1 g.1 this
theorem LX.u {x y z : Nat} (hx : x < 256) (h : LX τ x y) (g : LX τ x z) : y = z := by
  have e := Nat.le_antisymm (h.2.2 z g.1 g.2.1) (g.2.2 y h.1 h.2.1)
  have h1 := h.1
  have h2 := g.1
  simp only [up] at e
  omega
theorem q_next {x : Nat} (hx : x < 256) : (∃ y, fX2_next τ (nI x) = some (nI y) ∧ NX τ x y) ∨ (fX2_next τ (nI x) = some (-1) ∧ ∀ m, m < 256 → ¬ τ.1 127 m = 1) := by
  obtain ⟨b, h1, h2⟩ := q_inv (body := fX2_next_2 (nI x) τ) (a := 0) (fun k a => a = nI k ∧ ∀ m, m < 256 → τ.1 127 m = 1 → k ≤ up x m) (fun b => (∃ y, b = nI y ∧ NX τ x y) ∨ (b = -1 ∧ ∀ m, m < 256 → ¬ τ.1 127 m = 1)) 256 (by omega) ⟨rfl, fun m _ _ => Nat.zero_le _⟩ (by
    rintro k a hk ⟨rfl, hI⟩
    simp (disch := omega) only [fX2_next_2, gX2_next_2, q_rem, q_l2, q_l3, q_l4, q_l7, q_l8, q_l10, q_l17, q_l18, q_l20, q_l31, q_l40, q_l61, q_l64, q_l255, q_l256, q_leT, q_leF, q_ltT, q_ltF, q_n0, q_0le, q_cl, q_cl0, q_vpE, q_add, q_s1, q_mul, q_nle, q_nlt, false_or, or_false, not_false_eq_true, if_true, if_false, ↓reduceIte, Option.bind_some, Option.map_some]
    by_cases hl : τ.1 127 ((x + k) % 256) = 1
    · right
      rw [if_pos hl]
      refine ⟨_, rfl, Or.inl ⟨_, rfl, Nat.mod_lt _ (by omega), hl, fun m hm hml => ?_⟩⟩
      have := hI m hm hml
      have e : up x ((x + k) % 256) = k := by simp only [up]; omega
      omega
    · left
      rw [if_neg hl]
      refine ⟨_, rfl, rfl, fun m hm hml => ?_⟩
      have := hI m hm hml
      rcases Nat.lt_or_ge k (up x m) with g | g
      · exact g
      · exfalso
        apply hl
        have e : up x m = k := by omega
        have : (x + k) % 256 = m := by rw [← e]; simp only [up]; omega
        rw [this]; exact hml) (by
    rintro a ⟨rfl, hI⟩
    simp (disch := omega) only [fX2_next_2, gX2_next_2, q_l2, q_l3, q_l4, q_l7, q_l8, q_l10, q_l17, q_l18, q_l20, q_l31, q_l40, q_l61, q_l64, q_l255, q_l256, q_leT, q_leF, q_ltT, q_ltF, q_n0, q_0le, q_cl, q_cl0, q_vpE, q_add, q_s1, q_mul, q_nle, q_nlt, false_or, or_false, not_false_eq_true, if_true, if_false, ↓reduceIte, Option.bind_some, Option.map_some]
    refine ⟨_, rfl, Or.inr ⟨rfl, fun m hm hml => ?_⟩⟩
    have := hI m hm hml
    have := up_lt x m
    omega)
  rcases h2 with ⟨y, rfl, h2⟩ | ⟨rfl, h2⟩
  · exact Or.inl ⟨y, h1, h2⟩
  · exact Or.inr ⟨h1, h2⟩
theorem q_prev {x : Nat} (hx : x < 256) : (∃ y, fX2_last τ (nI x) = some (nI y) ∧ LX τ x y) ∨ (fX2_last τ (nI x) = some (-1) ∧ ∀ m, m < 256 → ¬ τ.1 127 m = 1) := by
  obtain ⟨b, h1, h2⟩ := q_inv (body := fX2_last_2 (nI x) τ) (a := 0) (fun k a => a = nI k ∧ ∀ m, m < 256 → τ.1 127 m = 1 → k ≤ up m x) (fun b => (∃ y, b = nI y ∧ LX τ x y) ∨ (b = -1 ∧ ∀ m, m < 256 → ¬ τ.1 127 m = 1)) 256 (by omega) ⟨rfl, fun m _ _ => Nat.zero_le _⟩ (by
    rintro k a hk ⟨rfl, hI⟩
    simp (disch := omega) only [fX2_last_2, gX2_last_2, q_sub, q_rem, q_l2, q_l3, q_l4, q_l7, q_l8, q_l10, q_l17, q_l18, q_l20, q_l31, q_l40, q_l61, q_l64, q_l255, q_l256, q_leT, q_leF, q_ltT, q_ltF, q_n0, q_0le, q_cl, q_cl0, q_vpE, q_add, q_s1, q_mul, q_nle, q_nlt, false_or, or_false, not_false_eq_true, if_true, if_false, ↓reduceIte, Option.bind_some, Option.map_some]
    by_cases hl : τ.1 127 ((x + 256 - k) % 256) = 1
    · right
      rw [if_pos hl]
      refine ⟨_, rfl, Or.inl ⟨_, rfl, Nat.mod_lt _ (by omega), hl, fun m hm hml => ?_⟩⟩
      have := hI m hm hml
      have e : up ((x + 256 - k) % 256) x = k := by simp only [up]; omega
      omega
    · left
      rw [if_neg hl]
      refine ⟨_, rfl, rfl, fun m hm hml => ?_⟩
      have := hI m hm hml
      rcases Nat.lt_or_ge k (up m x) with g | g
      · exact g
      · exfalso
        apply hl
        have e : up m x = k := by omega
        have : (x + 256 - k) % 256 = m := by rw [← e]; simp only [up]; omega
        rw [this]; exact hml) (by
    rintro a ⟨rfl, hI⟩
    simp (disch := omega) only [fX2_last_2, gX2_last_2, q_l2, q_l3, q_l4, q_l7, q_l8, q_l10, q_l17, q_l18, q_l20, q_l31, q_l40, q_l61, q_l64, q_l255, q_l256, q_leT, q_leF, q_ltT, q_ltF, q_n0, q_0le, q_cl, q_cl0, q_vpE, q_add, q_s1, q_mul, q_nle, q_nlt, false_or, or_false, not_false_eq_true, if_true, if_false, ↓reduceIte, Option.bind_some, Option.map_some]
    refine ⟨_, rfl, Or.inr ⟨rfl, fun m hm hml => ?_⟩⟩
    have := hI m hm hml
    have := up_lt m x
    omega)
  rcases h2 with ⟨y, rfl, h2⟩ | ⟨rfl, h2⟩
  · exact Or.inl ⟨y, h1, h2⟩
  · exact Or.inr ⟨h1, h2⟩
def pt (τ : kS) (i : Nat) : Nat := ((lvl τ)[i]?).getD 0
theorem lvl_nd (τ : kS) : (lvl τ).Nodup := (List.nodup_range).filter _
theorem lvl_lt (τ : kS) : (lvl τ).Pairwise (· < ·) := (List.pairwise_lt_range).filter _
theorem pt_at {i : Nat} (h : i < (lvl τ).length) : (lvl τ)[i]? = some (pt τ i) := by
  simp only [pt, List.getElem?_eq_getElem h, Option.getD_some]
theorem pt_lv {i : Nat} (h : i < (lvl τ).length) : pt τ i < 256 ∧ τ.1 127 (pt τ i) = 1 := q_lvl.mp (List.mem_of_getElem? (pt_at h))
theorem pt_lt {i j : Nat} (h : i < j) (hj : j < (lvl τ).length) : pt τ i < pt τ j := by
  have h1 := List.pairwise_iff_getElem.mp (lvl_lt τ) i j (by omega) hj h
  have e1 : pt τ i = (lvl τ)[i] := by simp only [pt, List.getElem?_eq_getElem (show i < (lvl τ).length by omega), Option.getD_some]
  have e2 : pt τ j = (lvl τ)[j] := by simp only [pt, List.getElem?_eq_getElem hj, Option.getD_some]
  rw [e1, e2]; exact h1
theorem pt_le {i j : Nat} (h : i ≤ j) (hj : j < (lvl τ).length) : pt τ i ≤ pt τ j := by
  rcases Nat.lt_or_ge i j with g | g
  · exact Nat.le_of_lt (pt_lt g hj)
  · rw [show i = j by omega]; exact Nat.le_refl _
theorem pt_cnb {p : Nat} (hp : p < 256) (h : τ.1 127 p = 1) : cnb τ p < (lvl τ).length ∧ pt τ (cnb τ p) = p := by
  have e := q_at hp h
  obtain ⟨hl, -⟩ := List.getElem?_eq_some_iff.mp e
  exact ⟨hl, by simp only [pt, e, Option.getD_some]⟩
theorem cnb_pt {i : Nat} (h : i < (lvl τ).length) : cnb τ (pt τ i) = i := by
  obtain ⟨h1, h2⟩ := pt_lv h
  obtain ⟨h3, h4⟩ := pt_cnb h1 h2
  have e1 := pt_at h3
  rw [h4] at e1
  exact (List.getElem?_inj h3 (lvl_nd τ)).mp (e1.trans (pt_at h).symm)
theorem nx_s {i : Nat} (h : i < (lvl τ).length) : NX τ ((pt τ i + 1) % 256) (pt τ ((i + 1) % (lvl τ).length)) := by
  have a1 := pt_lv (τ := τ) h
  have hm : (i + 1) % (lvl τ).length < (lvl τ).length := Nat.mod_lt _ (by omega)
  have a2 := pt_lv (τ := τ) hm
  refine ⟨a2.1, a2.2, fun m hm' hml => ?_⟩
  obtain ⟨c1, c2⟩ := pt_cnb hm' hml
  generalize hj : cnb τ m = j at c1 c2
  subst c2
  rcases Nat.lt_or_ge (i + 1) (lvl τ).length with g | g
  · rw [Nat.mod_eq_of_lt g] at *
    have b1 := pt_lt (τ := τ) (Nat.lt_succ_self i) g
    have b2 := a2.1
    simp only [Nat.succ_eq_add_one] at b1
    simp only [up]
    rcases Nat.lt_or_ge i j with q | q
    · have := pt_le (τ := τ) (show i + 1 ≤ j from q) c1
      omega
    · have := pt_le (τ := τ) q h
      omega
  · have e : i + 1 = (lvl τ).length := by omega
    rw [e, Nat.mod_self] at *
    have b1 := pt_le (τ := τ) (Nat.zero_le j) c1
    have b2 := pt_le (τ := τ) (show j ≤ i by omega) h
    simp only [up]
    omega
theorem lx_s {i : Nat} (h : i < (lvl τ).length) : LX τ ((pt τ i + 255) % 256) (pt τ ((i + (lvl τ).length - 1) % (lvl τ).length)) := by
  have a1 := pt_lv (τ := τ) h
  have hm : (i + (lvl τ).length - 1) % (lvl τ).length < (lvl τ).length := Nat.mod_lt _ (by omega)
  have a2 := pt_lv (τ := τ) hm
  refine ⟨a2.1, a2.2, fun m hm' hml => ?_⟩
  obtain ⟨c1, c2⟩ := pt_cnb hm' hml
  generalize hj : cnb τ m = j at c1 c2
  subst c2
  rcases Nat.eq_zero_or_pos i with g | g
  · subst g
    have e : (0 + (lvl τ).length - 1) % (lvl τ).length = (lvl τ).length - 1 := by rw [Nat.zero_add, Nat.mod_eq_of_lt (by omega)]
    rw [e]
    have a3 := pt_lv (τ := τ) (show (lvl τ).length - 1 < (lvl τ).length by omega)
    have b1 := pt_le (τ := τ) (Nat.zero_le j) c1
    have b2 := pt_le (τ := τ) (show j ≤ (lvl τ).length - 1 by omega) (by omega)
    simp only [up]
    omega
  · have e : (i + (lvl τ).length - 1) % (lvl τ).length = i - 1 := by
      rw [show i + (lvl τ).length - 1 = (i - 1) + (lvl τ).length by omega, Nat.add_mod_right, Nat.mod_eq_of_lt (by omega)]
    rw [e] at *
    have b1 := pt_lt (τ := τ) (show i - 1 < i by omega) h
    simp only [up]
    rcases Nat.lt_or_ge j i with q | q
    · have := pt_le (τ := τ) (show j ≤ i - 1 by omega) (by omega)
      omega
    · have := pt_le (τ := τ) q c1
      omega
theorem q_rowi (B : Bas rr σ τ) {i : Nat} (h : i < (lvl τ).length) : ∃ c, Mc σ (pt τ i) c ∧ σ.2.1 1 i = some c := by
  obtain ⟨h1, h2⟩ := pt_lv (τ := τ) h
  obtain ⟨c, c1, c2, -⟩ := q_row B h1 h2
  rw [cnb_pt h] at c2
  exact ⟨c, c1, c2⟩
theorem q_fm {a n : Nat} (ha : a < 32) (h0 : 0 < n) (hn : n ≤ 20) : fJ9_floorMod_7cf53 (nI a) (nI n) = some (nI (a % n)) := by
  have key : ∀ (a : Fin 32) (n : Fin 21), 0 < n.val → fJ9_floorMod_7cf53 (nI a.val) (nI n.val) = some (nI (a.val % n.val)) := by decide +kernel
  exact key ⟨a, ha⟩ ⟨n, by omega⟩ h0
theorem q_fm1 {n : Nat} (h0 : 0 < n) (hn : n ≤ 20) : fJ9_floorMod_7cf53 (-1) (nI n) = some (nI (n - 1)) := by
  have key : ∀ (n : Fin 21), 0 < n.val → fJ9_floorMod_7cf53 (-1) (nI n.val) = some (nI (n.val - 1)) := by decide +kernel
  exact key ⟨n, by omega⟩ h0
theorem q_turnp (B : Bas rr σ τ) {a : Nat} (ha : a < 32) (h0 : 0 < (lvl τ).length) : fX1_livePointInTurn σ (nI a) = some (nI (pt τ (a % (lvl τ).length))) := by
  obtain ⟨n1, n2, -⟩ := B.2.2.1
  have hm : a % (lvl τ).length < (lvl τ).length := Nat.mod_lt _ h0
  obtain ⟨c, c1, c2⟩ := q_rowi B hm
  simp (disch := omega) only [fX1_livePointInTurn, n2, q_fm, c2, q_mcK B c1, q_mcP B c1, q_l2, q_l3, q_l4, q_l7, q_l8, q_l10, q_l17, q_l18, q_l20, q_l31, q_l40, q_l61, q_l64, q_l255, q_l256, q_leT, q_leF, q_ltT, q_ltF, q_ne, q_n0, q_0le, q_ne0, q_le0F, q_lt0T, q_nm1, q_ltm1, q_cl, q_cl0, q_vpE, q_add, q_s1, q_mul, q_nle, q_nlt, false_or, or_false, not_false_eq_true, if_true, if_false, ↓reduceIte, Option.bind_some, Option.map_some]
theorem q_turn1 (B : Bas rr σ τ) (h0 : 0 < (lvl τ).length) : fX1_livePointInTurn σ (-1) = some (nI (pt τ ((lvl τ).length - 1))) := by
  obtain ⟨n1, n2, -⟩ := B.2.2.1
  obtain ⟨c, c1, c2⟩ := q_rowi B (show (lvl τ).length - 1 < (lvl τ).length by omega)
  simp (disch := omega) only [fX1_livePointInTurn, n2, q_fm1, c2, q_mcK B c1, q_mcP B c1, q_l2, q_l3, q_l4, q_l7, q_l8, q_l10, q_l17, q_l18, q_l20, q_l31, q_l40, q_l61, q_l64, q_l255, q_l256, q_leT, q_leF, q_ltT, q_ltF, q_ne, q_n0, q_0le, q_ne0, q_le0F, q_lt0T, q_nm1, q_ltm1, q_cl, q_cl0, q_vpE, q_add, q_s1, q_mul, q_nle, q_nlt, false_or, or_false, not_false_eq_true, if_true, if_false, ↓reduceIte, Option.bind_some, Option.map_some]
theorem q_turnb (B : Bas rr σ τ) {i : Nat} (h : i < (lvl τ).length) : fX1_livePointInTurn σ (nI i - 1) = some (nI (pt τ ((i + (lvl τ).length - 1) % (lvl τ).length))) := by
  have n1 := B.2.2.1.1
  rcases Nat.eq_zero_or_pos i with g | g
  · subst g
    rw [show nI 0 - 1 = -1 by decide, q_turn1 B (by omega), show (0 + (lvl τ).length - 1) % (lvl τ).length = (lvl τ).length - 1 by rw [Nat.zero_add, Nat.mod_eq_of_lt (by omega)]]
  · rw [q_p1 g, q_turnp B (by omega) (by omega)]
    congr 3
    rw [show i + (lvl τ).length - 1 = (i - 1) + (lvl τ).length by omega, Nat.add_mod_right]
theorem q_town (B : Bas rr σ τ) {x : Nat} (hx : x < 256) : fX1_trueOwner σ (nI x) = fX2_next τ (nI x) := by
  obtain ⟨n1, n2, -⟩ := B.2.2.1
  rcases q_next (τ := τ) hx with ⟨y, h1, h2⟩ | ⟨h1, h2⟩
  · rw [h1]
    obtain ⟨c1, c2⟩ := pt_cnb h2.1 h2.2.1
    obtain ⟨b, g1, g2⟩ := q_inv (body := fX1_trueOwner_2 (nI x) σ) (a := 0) (fun i a => a = nI i ∧ ∀ j, j < i → pt τ j < x) (fun b => b = nI y) (lvl τ).length (by omega) ⟨rfl, fun j hj => absurd hj (Nat.not_lt_zero j)⟩ (by
      rintro i a hi ⟨rfl, hI⟩
      obtain ⟨c, m1, m2⟩ := q_rowi B hi
      have hp := m1.1
      simp (disch := omega) only [fX1_trueOwner_2, gX1_trueOwner_2, n2, m2, q_mcK B m1, q_mcP B m1, q_l2, q_l3, q_l4, q_l7, q_l8, q_l10, q_l17, q_l18, q_l20, q_l31, q_l40, q_l61, q_l64, q_l255, q_l256, q_leT, q_leF, q_ltT, q_ltF, q_n0, q_0le, q_cl, q_cl0, q_vpE, q_add, q_s1, q_mul, q_nle, q_nlt, false_or, or_false, not_false_eq_true, if_true, if_false, ↓reduceIte, Option.bind_some, Option.map_some]
      by_cases hc : pt τ i < x
      · left
        rw [if_pos (q_ltT hc (by omega))]
        refine ⟨_, rfl, rfl, fun j hj => ?_⟩
        by_cases e : j = i
        · rw [e]; exact hc
        · exact hI j (by omega)
      · right
        rw [if_neg (q_ltF (by omega) (by omega))]
        refine ⟨_, rfl, ?_⟩
        congr 1
        refine NX.u hx (z := y) ⟨hp, (pt_lv hi).2, fun m hm hml => ?_⟩ h2
        obtain ⟨c3, c4⟩ := pt_cnb hm hml
        simp only [up]
        rcases Nat.lt_or_ge (cnb τ m) i with q | q
        · have := hI _ q
          rw [c4] at this
          omega
        · have := pt_le q c3
          rw [c4] at this
          omega) (by
      rintro a ⟨rfl, hI⟩
      simp (disch := omega) only [fX1_trueOwner_2, gX1_trueOwner_2, n2, q_l2, q_l3, q_l4, q_l7, q_l8, q_l10, q_l17, q_l18, q_l20, q_l31, q_l40, q_l61, q_l64, q_l255, q_l256, q_leT, q_leF, q_ltT, q_ltF, q_n0, q_0le, q_cl, q_cl0, q_vpE, q_add, q_s1, q_mul, q_nle, q_nlt, false_or, or_false, not_false_eq_true, if_true, if_false, ↓reduceIte, Option.bind_some, Option.map_some]
      rw [show (0 : Int32) = nI 0 from rfl, q_turnp B (by omega) (by omega)]
      refine ⟨_, rfl, ?_⟩
      rw [Nat.zero_mod]
      congr 1
      have hp := pt_lv (τ := τ) (show 0 < (lvl τ).length by omega)
      refine NX.u hx (z := y) ⟨hp.1, hp.2, fun m hm hml => ?_⟩ h2
      obtain ⟨c3, c4⟩ := pt_cnb hm hml
      have q1 := hI _ c3
      have q2 := pt_le (Nat.zero_le (cnb τ m)) c3
      rw [c4] at q1 q2
      simp only [up]
      omega)
    rw [g2] at g1
    exact g1
  · rw [h1]
    have e : (lvl τ).length = 0 := by
      rcases Nat.eq_zero_or_pos (lvl τ).length with g | g
      · exact g
      · have := pt_lv (τ := τ) g
        exact absurd this.2 (h2 _ this.1)
    rw [e] at n2
    show kit (fX1_trueOwner_2 (nI x) σ) (299 + 1) 0 = _
    apply q_kitE
    simp only [fX1_trueOwner_2, gX1_trueOwner_2, n2, fX1_livePointInTurn, show (nI 0 ≤ (0 : Int32)) = True from eq_true (by decide), show (nI 0 = 0) = True from eq_true rfl, ↓reduceIte, Option.bind_some]
end
