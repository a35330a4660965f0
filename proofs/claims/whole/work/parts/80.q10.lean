section
variable {N rr : Nat} {σ τ : kS}
theorem q_basC {σ' τ' : kS} (B : Bas rr σ τ) (hs : ∀ a, a < 126 → σ'.1 a = σ.1 a) (h2 : σ'.2.1 = σ.2.1) (ht : ∀ a, 127 ≤ a → τ'.1 a = τ.1 a) (h1 : ∀ j, 1 ≤ j → τ'.1 126 j = τ.1 126 j) : Bas rr σ' τ' := by
  obtain ⟨⟨r1, r2, r3, r4⟩, b2, ⟨n1, n2, n3⟩, b4, b5, ⟨ρ, p1, p2, p3⟩, ⟨h, g1, g2, g3, g4⟩, b8⟩ := B
  have e127 := ht 127 (by omega)
  refine ⟨⟨r1, r2, ?_, ?_⟩, ?_, ⟨?_, ?_, ?_⟩, ?_, ?_, ⟨ρ, ?_, p2, ?_⟩, ⟨h, g1, ?_, ?_, ?_⟩, ?_⟩
  · rw [hs 0 (by omega), r3]
  · rw [h1 1 (by omega), r4]
  · simp only [B2]; rw [hs 0 (by omega), h1 2 (by omega)]; exact b2
  · rw [q_lvlC e127]; exact n1
  · rw [hs 0 (by omega), q_lvlC e127]; exact n2
  · rw [hs 0 (by omega), q_fllC e127]; exact n3
  · intro p hp; rw [hs 123 (by omega), e127, h2]; exact b4 p hp
  · intro p c hm
    have hm' : Mc σ p c := by simpa only [Mc, h2] using hm
    obtain ⟨k1, k2⟩ := b5 p c hm'
    have := q_cb k1
    exact ⟨k1, by rw [hs c (by omega)]; exact k2⟩
  · intro i hi; rw [h2]; exact p1 i hi
  · intro i p; rw [q_lvlC e127, h2]; exact p3 i p
  · rw [hs 0 (by omega)]; exact g2
  · rw [h1 13 (by omega)]; exact g3
  · intro k hk; rw [hs 125 (by omega), ht 137 (by omega)]; exact g4 k hk
  · simp only [B8]; rw [hs 0 (by omega), h1 14 (by omega)]; exact b8
theorem q_relC {σ' τ' : kS} (R : Rel N σ τ) (hs : ∀ a, a < 126 → σ'.1 a = σ.1 a) (h2 : σ'.2.1 = σ.2.1) (ht : ∀ a, 127 ≤ a → τ'.1 a = τ.1 a) (h1 : ∀ j, 1 ≤ j → τ'.1 126 j = τ.1 126 j) : Rel N σ' τ' := by
  have mc : ∀ p c, Mc σ' p c → Mc σ p c := fun p c hm => by simpa only [Mc, h2] using hm
  obtain ⟨r0, R | R⟩ := R
  · obtain ⟨b, o, n, D⟩ := R
    refine ⟨r0, Or.inl ⟨q_basC b hs h2 ht h1, by rw [h1 2 (by omega)]; exact o, by rw [q_lvlC (ht 127 (by omega))]; exact n, fun p c hm => ?_⟩⟩
    have hm' := mc p c hm
    have hb := q_cb (q_mcK b hm')
    refine q_dat (D p c hm') b.1.2.1 (Nat.le_refl _) ?_ ?_ ?_ ?_ ?_ ?_ ?_ ?_ ?_ ?_ ?_
    · rw [hs _ (by omega)]
    · rw [hs _ (by omega)]
    · intro k _; rw [hs _ (by omega)]
    · intro k _; rw [hs _ (by omega)]
    · intro k _; rw [hs _ (by omega), hs _ (by omega), hs _ (by omega)]; exact ⟨rfl, rfl, rfl⟩
    · rw [ht _ (by omega)]
    · rw [ht _ (by omega)]
    · intro k _; rw [ht _ (by omega)]
    · intro k _; rw [ht _ (by omega)]
    · intro k _; rw [ht _ (by omega), ht _ (by omega), ht _ (by omega)]; exact ⟨rfl, rfl, rfl⟩
    · exact ht _ (by omega)
  · obtain ⟨b, o, E⟩ := R
    refine ⟨r0, Or.inr ⟨q_basC b hs h2 ht h1, by rw [h1 2 (by omega)]; exact o, fun p c hm => ?_⟩⟩
    have hm' := mc p c hm
    have hb := q_cb (q_mcK b hm')
    obtain ⟨e1, e2, e3, e4⟩ := E p c hm'
    refine ⟨fun k hk => ?_, fun k hk => ?_, fun k hk => ?_, ?_⟩
    · rw [hs _ (by omega)]; exact e1 k hk
    · rw [hs _ (by omega)]; exact e2 k hk
    · rw [hs _ (by omega), hs _ (by omega), hs _ (by omega)]; exact e3 k hk
    · rw [hs _ (by omega)]; exact e4
theorem q_goO (B : Ro N rr σ τ) (v : Int32) : Ro N rr σ (sI τ 126 0 v) := by
  obtain ⟨b, o, n, D⟩ := B
  have ht : ∀ a, 127 ≤ a → (sI τ 126 0 v).1 a = τ.1 a := fun a ha => funext fun j => sI_n (by omega)
  have h1 : ∀ j, 1 ≤ j → (sI τ 126 0 v).1 126 j = τ.1 126 j := fun j hj => sI_n (by omega)
  refine ⟨q_basC b (fun _ _ => rfl) rfl ht h1, by rw [h1 2 (by omega)]; exact o, by rw [q_lvlC (ht 127 (by omega))]; exact n, fun p c hm => ?_⟩
  refine q_dat (D p c hm) b.1.2.1 (Nat.le_refl _) rfl rfl (fun _ _ => rfl) (fun _ _ => rfl) (fun _ _ => ⟨rfl, rfl, rfl⟩) ?_ ?_ ?_ ?_ ?_ ?_
  · rw [ht _ (by omega)]
  · rw [ht _ (by omega)]
  · intro k _; rw [ht _ (by omega)]
  · intro k _; rw [ht _ (by omega)]
  · intro k _; rw [ht _ (by omega), ht _ (by omega), ht _ (by omega)]; exact ⟨rfl, rfl, rfl⟩
  · exact ht _ (by omega)
theorem q_goC (B : Rc rr σ τ) (v : Int32) : Rc rr σ (sI τ 126 0 v) := by
  obtain ⟨b, o, E⟩ := B
  have ht : ∀ a, 127 ≤ a → (sI τ 126 0 v).1 a = τ.1 a := fun a ha => funext fun j => sI_n (by omega)
  have h1 : ∀ j, 1 ≤ j → (sI τ 126 0 v).1 126 j = τ.1 126 j := fun j hj => sI_n (by omega)
  exact ⟨q_basC b (fun _ _ => rfl) rfl ht h1, by rw [h1 2 (by omega)]; exact o, E⟩
theorem q_go (R : Rel N σ τ) (v : Int32) : Rel N σ (sI τ 126 0 v) := by
  obtain ⟨r0, R | R⟩ := R
  · exact ⟨r0, Or.inl (q_goO R v)⟩
  · exact ⟨r0, Or.inr (q_goC R v)⟩
theorem go_1 (τ : kS) (a b : Int32) : fX2_goes τ 0 a b = some (0, sI τ 126 0 1) := by
  simp only [fX2_goes, fX2_goes_26, ↓reduceIte, sI_e, q_10]
theorem go_2 (τ : kS) (b : Int32) : fX2_goes τ 1 0 b = some (0, sI τ 126 0 2) := by
  simp only [fX2_goes, fX2_goes_26, ↓reduceIte, sI_e, q_10, show ((2 : Int32) = 0) = False from eq_false (by decide)]
theorem go_3 (τ : kS) : fX2_goes τ 1 1 0 = some (0, sI τ 126 0 3) := by
  simp only [fX2_goes, fX2_goes_26, ↓reduceIte, sI_e, q_10, show ((3 : Int32) = 0) = False from eq_false (by decide)]
theorem go_0 (τ : kS) : fX2_goes τ 1 1 1 = some (1, sI τ 126 0 0) := by
  simp only [fX2_goes, fX2_goes_26, ↓reduceIte, sI_e, q_10]
def FC (σ σ' : kS) : Prop := ∀ a, 126 ≤ a → σ'.1 a = σ.1 a
def FR (τ τ' : kS) : Prop := (∀ a, a < 126 → τ'.1 a = τ.1 a) ∧ τ'.2 = τ.2
theorem FC.r (σ : kS) : FC σ σ := fun _ _ => rfl
theorem FR.r (τ : kS) : FR τ τ := ⟨fun _ _ => rfl, rfl⟩
theorem FR.t {a b c : kS} (h : FR a b) (g : FR b c) : FR a c := ⟨fun x hx => (g.1 x hx).trans (h.1 x hx), g.2.trans h.2⟩
theorem KC.f {σ σ' : kS} (h : KC σ σ') : FC σ σ' := h.2.1
theorem KR.f {τ τ' : kS} (h : KR τ τ') : FR τ τ' := ⟨h.2.1, h.1⟩
theorem FR_go (τ : kS) (v : Int32) : FR τ (sI τ 126 0 v) := ⟨fun a ha => funext fun j => sI_n (by omega), rfl⟩
def Sm (N N' : Nat) (cd : String → Int32 → Prop) (F1 : kS → Option ((String ⊕ Int32) × kS)) (F2 : kS → Option (Int32 × kS)) : Prop := ∀ σ τ, Rel N σ τ → ∃ res σ' v τ', F1 σ = some (res, σ') ∧ F2 τ = some (v, τ') ∧ Rel N' σ' τ' ∧ FC σ σ' ∧ FR τ τ' ∧ ((∃ E, res = .inl E ∧ cd E (τ'.1 126 0)) ∨ (res = .inr v ∧ τ'.1 126 0 = 0))
def fcG (F1 : kS → Option ((String ⊕ Int32) × kS)) (F2 : kS → Option (Int32 × kS)) (L : String → kS → Option (Int32 × kS)) (σ : kS) : Option kS :=
  ((F1 σ).bind fun r => ksm r.1 (fun E => L E r.2) fun v => some (0, sJ r.2 138 (0 : Int32).toNatClampNeg v.toInt64)).bind fun r => (F2 r.2).bind fun u => (fX2_thrown u.2).bind fun t => if t = r.1 then (if r.1 = 0 then (if lg_cmp (u.2.2.2 138 (0 : Int32).toNatClampNeg) u.1.toInt64 = 0 then some u.2 else none) else some u.2) else none
theorem q_lg (x : Int64) : lg_cmp x x = 0 := by
  unfold lg_cmp
  rw [if_neg (fun h => absurd (Int64.lt_iff_toInt_lt.mp h) (by omega)), if_pos rfl]
theorem q_fc {N N' : Nat} {cd : String → Int32 → Prop} {F1 : kS → Option ((String ⊕ Int32) × kS)} {F2 : kS → Option (Int32 × kS)} {L : String → kS → Option (Int32 × kS)} (hL : ∀ E t, cd E t → ∀ s, L E s = some (t, s) ∧ t ≠ 0) (S : Sm N N' cd F1 F2) {σ : kS} (R : Rel N σ σ) : ∃ τ, fcG F1 F2 L σ = some τ ∧ Rel N' τ τ := by
  obtain ⟨res, σ1, v, τ1, f1, -, -, fc, -, -⟩ := S σ σ R
  cases res with
  | inl E =>
    obtain ⟨res2, σ2, v2, τ2, g1, g2, g3, g4, g5, g6⟩ := S σ σ1 (q_relC R (fun _ _ => rfl) rfl (fun a ha => fc a (by omega)) (fun j _ => by rw [fc 126 (by omega)]))
    rw [f1] at g1
    cases g1
    rcases g6 with ⟨E', e1, e2⟩ | ⟨e1, -⟩
    · cases e1
      obtain ⟨l1, l2⟩ := hL E _ e2 σ1
      refine ⟨τ2, ?_, q_relC g3 (fun a ha => g5.1 a ha) (by rw [g5.2]) (fun _ _ => rfl) (fun _ _ => rfl)⟩
      simp only [fcG, f1, Option.bind_some, ksm_l, l1, g2, fX2_thrown, ↓reduceIte, l2]
    · cases e1
  | inr x =>
    obtain ⟨res2, σ2, v2, τ2, g1, g2, g3, g4, g5, g6⟩ := S σ (sJ σ1 138 (0 : Int32).toNatClampNeg x.toInt64) (q_relC R (fun _ _ => rfl) rfl (fun a ha => fc a (by omega)) (fun j _ => congrFun (fc 126 (by omega)) j))
    rw [f1] at g1
    cases g1
    rcases g6 with ⟨E', e1, e2⟩ | ⟨e1, e2⟩
    · cases e1
    · cases e1
      refine ⟨τ2, ?_, q_relC g3 (fun a ha => g5.1 a ha) (by rw [g5.2]; rfl) (fun _ _ => rfl) (fun _ _ => rfl)⟩
      have e3 : τ2.2.2 138 (0 : Int32).toNatClampNeg = x.toInt64 := by
        rw [g5.2]; simp [sJ]
      simp only [fcG, f1, Option.bind_some, ksm_r, g2, fX2_thrown, e2, ↓reduceIte, e3, q_lg]
theorem q_find (R : Rel N σ τ) (x : Int32) : (fX1_find σ x = some (.inl "java/util/NoSuchElementException") ∧ fX2_member τ x = some 0) ∨ ∃ r0 p c, x = nI p ∧ Ro N r0 σ τ ∧ Mc σ p c ∧ fX1_find σ x = some (.inr c) ∧ fX2_member τ x = some 1 := by
  obtain ⟨r0, R | R⟩ := R
  · have o := R.2.1
    have o1 : σ.1 0 8 = 1 := R.1.2.1.trans o
    simp only [fX1_find, fX1_find_16, fX2_member, o, o1, q_10, ↓reduceIte]
    rcases q_live R.1 x with ⟨h1, h2, -⟩ | ⟨p, c, h1, h2, h3, h4, h5⟩
    · left; simp only [h1, h2, Option.bind_some, kmn_n, ↓reduceIte, and_self]
    · right
      refine ⟨r0, p, c, h1, R, h2, ?_, ?_⟩
      · simp only [h4, Option.bind_some, kmn_s]
      · simp only [h5, Option.bind_some, q_10, ↓reduceIte]
  · left
    have o := R.2.1
    have o1 : σ.1 0 8 = 0 := R.1.2.1.trans o
    simp only [fX1_find, fX1_find_16, fX2_member, o, o1, ↓reduceIte, kmn_n, and_self]
theorem q_key (x : Int32) : (fX1_requireKey x = some (.inl "java/util/NoSuchElementException") ∧ fX2_isKey x = some 0) ∨ ∃ i, i < 64 ∧ x = nI i ∧ fX1_requireKey x = some (.inr ()) ∧ fX2_isKey x = some 1 := by
  rcases pk_ix x (n := 64) (by decide) with h | h | ⟨i, hi, rfl⟩
  · left; simp only [fX1_requireKey, fX1_requireKey_10, fX2_isKey, h, ↓reduceIte, and_self]
  · left
    simp only [fX1_requireKey, fX1_requireKey_10, fX2_isKey, q_l64]
    by_cases h0 : x < 0
    · simp only [h0, ↓reduceIte, and_self]
    · have : ¬ x < nI 64 := fun g => absurd (Int32.lt_iff_toInt_lt.mp g) (by have := Int32.le_iff_toInt_le.mp h; omega)
      simp only [h0, this, h, ↓reduceIte, and_self]
  · right
    refine ⟨i, hi, rfl, ?_, ?_⟩
    · simp (disch := omega) only [fX1_requireKey, q_l2, q_l3, q_l4, q_l7, q_l8, q_l10, q_l17, q_l18, q_l20, q_l31, q_l40, q_l61, q_l64, q_l255, q_l256, q_leT, q_leF, q_ltT, q_ltF, q_n0, q_0le, q_cl, q_cl0, q_vpE, q_add, q_s1, q_mul, q_nle, q_nlt, false_or, or_false, not_false_eq_true, if_true, if_false, ↓reduceIte, Option.bind_some, Option.map_some]
    · simp (disch := omega) only [fX2_isKey, q_l2, q_l3, q_l4, q_l7, q_l8, q_l10, q_l17, q_l18, q_l20, q_l31, q_l40, q_l61, q_l64, q_l255, q_l256, q_leT, q_leF, q_ltT, q_ltF, q_n0, q_0le, q_cl, q_cl0, q_vpE, q_add, q_s1, q_mul, q_nle, q_nlt, false_or, or_false, not_false_eq_true, if_true, if_false, ↓reduceIte, Option.bind_some, Option.map_some]
theorem q_point (x : Int32) : (fX1_isPoint x = some 0 ∧ fX2_isPoint x = some 0 ∧ fX1_requirePoint x = some (.inl "java/lang/IllegalArgumentException")) ∨ ∃ p, p < 256 ∧ x = nI p ∧ fX1_isPoint x = some 1 ∧ fX2_isPoint x = some 1 ∧ fX1_requirePoint x = some (.inr ()) := by
  rcases q_pt x with ⟨p, hp, rfl⟩ | h | ⟨h1, h2⟩
  · right
    have e : fX1_isPoint (nI p) = some 1 := by simp (disch := omega) only [fX1_isPoint, q_l2, q_l3, q_l4, q_l7, q_l8, q_l10, q_l17, q_l18, q_l20, q_l31, q_l40, q_l61, q_l64, q_l255, q_l256, q_leT, q_leF, q_ltT, q_ltF, q_n0, q_0le, q_cl, q_cl0, q_vpE, q_add, q_s1, q_mul, q_nle, q_nlt, false_or, or_false, not_false_eq_true, if_true, if_false, ↓reduceIte, Option.bind_some, Option.map_some]
    refine ⟨p, hp, rfl, e, ?_, ?_⟩
    · simp (disch := omega) only [fX2_isPoint, q_l2, q_l3, q_l4, q_l7, q_l8, q_l10, q_l17, q_l18, q_l20, q_l31, q_l40, q_l61, q_l64, q_l255, q_l256, q_leT, q_leF, q_ltT, q_ltF, q_n0, q_0le, q_cl, q_cl0, q_vpE, q_add, q_s1, q_mul, q_nle, q_nlt, false_or, or_false, not_false_eq_true, if_true, if_false, ↓reduceIte, Option.bind_some, Option.map_some]
    · simp only [fX1_requirePoint, e, Option.bind_some, q_10, ↓reduceIte]
  · left
    have e : fX1_isPoint x = some 0 := by simp only [fX1_isPoint, h, ↓reduceIte]
    refine ⟨e, ?_, ?_⟩
    · simp only [fX2_isPoint, h, ↓reduceIte]
    · simp only [fX1_requirePoint, e, Option.bind_some, ↓reduceIte]
  · left
    have e : fX1_isPoint x = some 0 := by simp only [fX1_isPoint, h1, ↓reduceIte, q_l256, h2]
    refine ⟨e, ?_, ?_⟩
    · simp only [fX2_isPoint, h1, q_l256, h2, ↓reduceIte]
    · simp only [fX1_requirePoint, e, Option.bind_some, ↓reduceIte]
theorem q_th {τ τ' : kS} {v : Int32} (h : KR (sI τ 126 0 v) τ') : τ'.1 126 0 = v := by
  rw [h.2.2.2.2 0 (by omega) (by omega), sI_e]
def cN (E : String) (t : Int32) : Prop := E = "java/util/NoSuchElementException" ∧ t = 1
def cA (E : String) (t : Int32) : Prop := E = "java/lang/IllegalArgumentException" ∧ t = 1
def cS (E : String) (t : Int32) : Prop := E = "java/lang/IllegalStateException" ∧ t = 1
def cAS (E : String) (t : Int32) : Prop := (E = "java/lang/IllegalArgumentException" ∧ t = 1) ∨ (E = "java/lang/IllegalStateException" ∧ t = 2)
def cNA (E : String) (t : Int32) : Prop := (E = "java/util/NoSuchElementException" ∧ t = 1) ∨ (E = "java/lang/IllegalArgumentException" ∧ t = 2)
def cNS (E : String) (t : Int32) : Prop := (E = "java/util/NoSuchElementException" ∧ t = 1) ∨ (E = "java/lang/IllegalStateException" ∧ t = 2)
def cNAS (E : String) (t : Int32) : Prop := (E = "java/util/NoSuchElementException" ∧ t = 1) ∨ (E = "java/lang/IllegalArgumentException" ∧ t = 2) ∨ (E = "java/lang/IllegalStateException" ∧ t = 3)
theorem S_stabilise (x : Int32) : Sm N N cN (fun σ => fX1_stabilise σ x) (fun τ => fX2_stabilise τ x) := by
  intro σ τ R
  simp only [fX1_stabilise, fX2_stabilise]
  rcases q_find R x with ⟨h1, h2⟩ | ⟨r0, p, c, rfl, B, hm, h1, h2⟩
  · simp only [h1, h2, Option.bind_some, ksm_l, go_1, ↓reduceIte]
    exact ⟨_, _, _, _, rfl, rfl, q_go R 1, FC.r σ, FR_go τ 1, Or.inl ⟨_, rfl, rfl, sI_e _ _ _ _⟩⟩
  · simp only [h1, h2, Option.bind_some, ksm_r, go_0, q_10, ↓reduceIte]
    obtain ⟨σ', τ', t, d, a1, a2, B', C, K, hm', a3⟩ := q_stable (q_goO B 0) hm
    simp only [a1, a2, a3, Option.bind_some, kmn_s, q_mcK B.1 hm', ↓reduceIte, q_mcP B'.1 (C.mc.mpr hm')]
    exact ⟨_, _, _, _, rfl, rfl, ⟨r0, Or.inl B'⟩, C.f, (FR_go τ 0).t K.f, Or.inr ⟨rfl, q_th K⟩⟩
theorem S_mend (x y : Int32) : Sm N N cN (fun σ => fX1_mend σ x y) (fun τ => fX2_mend τ x y) := by
  intro σ τ R
  simp only [fX1_mend, fX1_mend_16, fX2_mend, fX2_mend_23, fX2_mend_24]
  rcases q_find R x with ⟨h1, h2⟩ | ⟨r0, p, c, rfl, B, hm, h1, h2⟩
  · simp only [h1, h2, Option.bind_some, ksm_l, go_1, ↓reduceIte]
    exact ⟨_, _, _, _, rfl, rfl, q_go R 1, FC.r σ, FR_go τ 1, Or.inl ⟨_, rfl, rfl, sI_e _ _ _ _⟩⟩
  · simp only [h1, h2, Option.bind_some, ksm_r, go_0, go_1, q_10, ↓reduceIte]
    have bad : ∃ res σ' v τ', some ((Sum.inl "java/util/NoSuchElementException" : String ⊕ Int32), σ) = some (res, σ') ∧ some ((0 : Int32), sI τ 126 0 1) = some (v, τ') ∧ Rel N σ' τ' ∧ FC σ σ' ∧ FR τ τ' ∧ ((∃ E, res = .inl E ∧ cN E (τ'.1 126 0)) ∨ (res = .inr v ∧ τ'.1 126 0 = 0)) :=
      ⟨_, _, _, _, rfl, rfl, q_go R 1, FC.r σ, FR_go τ 1, Or.inl ⟨_, rfl, rfl, sI_e _ _ _ _⟩⟩
    by_cases h0 : y < 0
    · simp only [h0, ↓reduceIte]; exact bad
    · simp only [h0, ↓reduceIte]
      rcases pk_ix y (n := 8) (by decide) with g | g | ⟨i, hi, rfl⟩
      · exact absurd g h0
      · have : ¬ y < nI 8 := fun g' => absurd (Int32.lt_iff_toInt_lt.mp g') (by have := Int32.le_iff_toInt_le.mp g; omega)
        simp only [q_l8, this, g, ↓reduceIte]; exact bad
      · obtain ⟨σ', τ', q, a1, a2, B', C, K, a3, -, -⟩ := q_mend (q_goO B 0) hm hi
        simp (disch := omega) only [a1, a2, q_mcK B.1 hm, a3, q_l2, q_l3, q_l4, q_l7, q_l8, q_l10, q_l17, q_l18, q_l20, q_l31, q_l40, q_l61, q_l64, q_l255, q_l256, q_leT, q_leF, q_ltT, q_ltF, q_n0, q_0le, q_cl, q_cl0, q_vpE, q_add, q_s1, q_mul, q_nle, q_nlt, false_or, or_false, not_false_eq_true, if_true, if_false, ↓reduceIte, Option.bind_some, Option.map_some]
        exact ⟨_, _, _, _, rfl, rfl, ⟨r0, Or.inl B'⟩, C.f, (FR_go τ 0).t K.f, Or.inr ⟨rfl, q_th K⟩⟩
theorem S_handOver (hN : N < 2147483648) (x : Int32) : Sm N N cN (fun σ => fX1_handOver σ x) (fun τ => fX2_handOver τ x) := by
  intro σ τ R
  simp only [fX1_handOver, fX2_handOver]
  rcases q_find R x with ⟨h1, h2⟩ | ⟨r0, p, c, rfl, B, hm, h1, h2⟩
  · simp only [h1, h2, Option.bind_some, ksm_l, go_1, ↓reduceIte]
    exact ⟨_, _, _, _, rfl, rfl, q_go R 1, FC.r σ, FR_go τ 1, Or.inl ⟨_, rfl, rfl, sI_e _ _ _ _⟩⟩
  · simp only [h1, h2, Option.bind_some, ksm_r, go_0, q_10, ↓reduceIte]
    obtain ⟨n, σ', τ', a1, a2, B', C, K⟩ := q_handed (q_goO B 0) hN hm
    simp only [a1, a2, Option.bind_some]
    exact ⟨_, _, _, _, rfl, rfl, ⟨r0, Or.inl B'⟩, C.f, (FR_go τ 0).t K.f, Or.inr ⟨rfl, q_th K⟩⟩
theorem S_spread (hN : N < 2147483648) (x : Int32) : Sm N N cN (fun σ => fX1_spread σ x) (fun τ => fX2_spread τ x) := by
  intro σ τ R
  simp only [fX1_spread, fX2_spread]
  rcases q_find R x with ⟨h1, h2⟩ | ⟨r0, p, c, rfl, B, hm, h1, h2⟩
  · simp only [h1, h2, Option.bind_some, ksm_l, go_1, ↓reduceIte]
    exact ⟨_, _, _, _, rfl, rfl, q_go R 1, FC.r σ, FR_go τ 1, Or.inl ⟨_, rfl, rfl, sI_e _ _ _ _⟩⟩
  · simp only [h1, h2, Option.bind_some, ksm_r, go_0, q_10, ↓reduceIte]
    obtain ⟨n, σ', τ', a1, a2, B', C, K⟩ := q_spread (q_goO B 0) hN hm
    simp only [a1, a2, Option.bind_some]
    exact ⟨_, _, _, _, rfl, rfl, ⟨r0, Or.inl B'⟩, C.f, (FR_go τ 0).t K.f, Or.inr ⟨rfl, q_th K⟩⟩
end
