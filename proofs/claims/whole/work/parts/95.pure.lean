theorem sI_r (σ : kS) (c i : Nat) (v : Int32) (a j : Nat) : (sI σ c i v).2.1 a j = σ.2.1 a j := rfl
theorem sR_1 (σ : kS) (c i : Nat) (v : Option Nat) (a j : Nat) : (sR σ c i v).1 a j = σ.1 a j := rfl
theorem rI_1 : ∀ i, i ≤ 20 → ∀ a j, a = 0 ∨ 122 ≤ a → (rI i).1 a j = 0 := by
  intro i
  induction i with
  | zero => intro _ a j _; rfl
  | succ i ih =>
    intro hi a j ha
    simp only [rI, mI, sR_1]
    rw [sI_n (by omega), sI_n (by omega)]
    exact ih (by omega) a j ha
theorem rI_2 : ∀ i, i ≤ 20 → ∀ j, (rI i).2.1 122 j = none := by
  intro i
  induction i with
  | zero => intro _ j; simp only [rI]; rw [sR_n (by omega)]; rfl
  | succ i ih =>
    intro hi j
    simp only [rI, mI]
    rw [sR_n (by omega), sI_r, sI_r, sR_n (by omega), sR_n (by omega), sR_n (by omega), sR_n (by omega), sR_n (by omega)]
    exact ih (by omega) j
theorem rI_3 : ∀ i, i ≤ 20 → ∀ j, j < i → (rI i).2.1 1 j = some (2 + 6 * j) := by
  intro i
  induction i with
  | zero => intro _ j hj; omega
  | succ i ih =>
    intro hi j hj
    simp only [rI, mI]
    by_cases e : j = i
    · subst e; rw [sR_e]
    · rw [sR_n (by omega), sI_r, sI_r, sR_n (by omega), sR_n (by omega), sR_n (by omega), sR_n (by omega), sR_n (by omega)]
      exact ih (by omega) j (by omega)
theorem kI_1 (a j : Nat) (ha : a = 0 ∨ 122 ≤ a) (h1 : a = 0 → j ≠ 7) (h2 : a = 126 → j ≠ 1) : kInit.1 a j = 0 := by
  simp only [kInit, dI, cI, sR_1]
  rw [sI_n (by by_cases e : a = 126; exact Or.inr (h2 e); exact Or.inl e), sI_n (by by_cases e : a = 0; exact Or.inr (h1 e); exact Or.inl e)]
  simp only [sR_1]
  exact rI_1 20 (by omega) a j ha
theorem kI_7 : kInit.1 0 7 = nI 2 := by
  simp only [kInit, dI, cI, sR_1]
  rw [sI_n (by omega), sI_e]
  rfl
theorem kI_r : kInit.1 126 1 = nI 2 := by
  simp only [kInit, dI, sR_1]
  rw [sI_e]
  rfl
theorem kI_2 (a j : Nat) (ha : 1 ≤ a) (hb : a ≠ 126) : kInit.2.1 a j = (rI 20).2.1 a j := by
  simp only [kInit, dI, cI]
  rw [sR_n (by omega), sR_n (by omega), sR_n (by omega), sR_n (by omega), sR_n (by omega), sR_n (by omega), sR_n (by omega), sR_n (by omega), sR_n (by omega), sR_n (by omega), sR_n (by omega), sI_r, sI_r, sR_n (by omega), sR_n (by omega), sR_n (by omega), sR_n (by omega)]
theorem q_init : Rel 0 kInit kInit := by
  have hl : lvl kInit = [] := by
    simp only [lvl]
    refine List.filter_eq_nil_iff.mpr fun p _ => ?_
    rw [kI_1 127 p (by omega) (by omega) (by omega)]
    decide
  have hf : fll kInit = [] := by
    simp only [fll]
    refine List.filter_eq_nil_iff.mpr fun p _ => ?_
    rw [kI_1 127 p (by omega) (by omega) (by omega)]
    decide
  have h122 : ∀ p, kInit.2.1 122 p = none := fun p => by rw [kI_2 _ _ (by omega) (by omega)]; exact rI_2 20 (by omega) p
  refine ⟨2, Or.inr ⟨⟨⟨by omega, by omega, kI_7, kI_r⟩, ?_, ⟨?_, ?_, ?_⟩, ?_, ?_, ⟨fun i => 2 + 6 * i, ?_, ?_, ?_⟩, ⟨0, by omega, ?_, ?_, ?_⟩, ?_⟩, ?_, ?_⟩⟩
  · simp only [B2]; rw [kI_1 0 8 (by omega) (by omega) (by omega), kI_1 126 2 (by omega) (by omega) (by omega)]
  · rw [hl]; exact Nat.zero_le _
  · rw [hl, kI_1 0 9 (by omega) (by omega) (by omega)]; rfl
  · rw [hf, kI_1 0 10 (by omega) (by omega) (by omega)]; rfl
  · intro p hp
    rw [kI_1 127 p (by omega) (by omega) (by omega), kI_1 123 p (by omega) (by omega) (by omega), h122]
    refine ⟨Or.inl rfl, Iff.rfl, ?_⟩
    constructor
    · intro h; exact absurd h (by decide)
    · rintro ⟨c, h⟩; cases h
  · rintro p c ⟨-, h⟩; rw [h122] at h; cases h
  · intro i hi
    refine ⟨?_, q_dk hi⟩
    rw [kI_2 _ _ (by omega) (by omega)]; exact rI_3 20 (by omega) i hi
  · intro i j _ _ e
    dsimp only at e
    omega
  · intro i p h; rw [hl] at h; simp at h
  · rw [kI_1 0 6 (by omega) (by omega) (by omega)]; rfl
  · rw [kI_1 126 13 (by omega) (by omega) (by omega)]; rfl
  · intro k hk; exact absurd hk (Nat.not_lt_zero k)
  · simp only [B8]; rw [kI_1 0 11 (by omega) (by omega) (by omega), kI_1 126 14 (by omega) (by omega) (by omega)]
  · rw [kI_1 126 2 (by omega) (by omega) (by omega)]
  · rintro p c ⟨-, h⟩; rw [h122] at h; cases h
def Ln (E : String) (s : kS) : Option (Int32 × kS) := if E = "java/util/NoSuchElementException" then some (1, s) else none
def La (E : String) (s : kS) : Option (Int32 × kS) := if E = "java/lang/IllegalArgumentException" then some (1, s) else none
def Ls (E : String) (s : kS) : Option (Int32 × kS) := if E = "java/lang/IllegalStateException" then some (1, s) else none
def Las (E : String) (s : kS) : Option (Int32 × kS) := if E = "java/lang/IllegalArgumentException" then some (1, s) else if E = "java/lang/IllegalStateException" then some (2, s) else none
def Lna (E : String) (s : kS) : Option (Int32 × kS) := if E = "java/util/NoSuchElementException" then some (1, s) else if E = "java/lang/IllegalArgumentException" then some (2, s) else none
def Lns (E : String) (s : kS) : Option (Int32 × kS) := if E = "java/util/NoSuchElementException" then some (1, s) else if E = "java/lang/IllegalStateException" then some (2, s) else none
def Lnas (E : String) (s : kS) : Option (Int32 × kS) := if E = "java/util/NoSuchElementException" then some (1, s) else if E = "java/lang/IllegalArgumentException" then some (2, s) else if E = "java/lang/IllegalStateException" then some (3, s) else none
theorem e_an : ¬ "java/lang/IllegalArgumentException" = "java/util/NoSuchElementException" := by decide
theorem e_sn : ¬ "java/lang/IllegalStateException" = "java/util/NoSuchElementException" := by decide
theorem e_sa : ¬ "java/lang/IllegalStateException" = "java/lang/IllegalArgumentException" := by decide
theorem hLn : ∀ E t, cN E t → ∀ s, Ln E s = some (t, s) ∧ t ≠ 0 := by
  rintro E t ⟨rfl, rfl⟩ s; exact ⟨if_pos rfl, by decide⟩
theorem hLa : ∀ E t, cA E t → ∀ s, La E s = some (t, s) ∧ t ≠ 0 := by
  rintro E t ⟨rfl, rfl⟩ s; exact ⟨if_pos rfl, by decide⟩
theorem hLs : ∀ E t, cS E t → ∀ s, Ls E s = some (t, s) ∧ t ≠ 0 := by
  rintro E t ⟨rfl, rfl⟩ s; exact ⟨if_pos rfl, by decide⟩
theorem hLas : ∀ E t, cAS E t → ∀ s, Las E s = some (t, s) ∧ t ≠ 0 := by
  rintro E t (⟨rfl, rfl⟩ | ⟨rfl, rfl⟩) s
  · exact ⟨if_pos rfl, by decide⟩
  · exact ⟨(if_neg e_sa).trans (if_pos rfl), by decide⟩
theorem hLna : ∀ E t, cNA E t → ∀ s, Lna E s = some (t, s) ∧ t ≠ 0 := by
  rintro E t (⟨rfl, rfl⟩ | ⟨rfl, rfl⟩) s
  · exact ⟨if_pos rfl, by decide⟩
  · exact ⟨(if_neg e_an).trans (if_pos rfl), by decide⟩
theorem hLns : ∀ E t, cNS E t → ∀ s, Lns E s = some (t, s) ∧ t ≠ 0 := by
  rintro E t (⟨rfl, rfl⟩ | ⟨rfl, rfl⟩) s
  · exact ⟨if_pos rfl, by decide⟩
  · exact ⟨(if_neg e_sn).trans (if_pos rfl), by decide⟩
theorem hLnas : ∀ E t, cNAS E t → ∀ s, Lnas E s = some (t, s) ∧ t ≠ 0 := by
  rintro E t (⟨rfl, rfl⟩ | ⟨rfl, rfl⟩ | ⟨rfl, rfl⟩) s
  · exact ⟨if_pos rfl, by decide⟩
  · exact ⟨(if_neg e_an).trans (if_pos rfl), by decide⟩
  · exact ⟨(if_neg e_sn).trans ((if_neg e_sa).trans (if_pos rfl)), by decide⟩
section
variable {N : Nat} {σ : kS}
theorem f_0 (R : Rel N σ σ) (a : Int32) : ∃ τ, fc_0 σ a = some τ ∧ Rel N τ τ := q_fc (L := Las) hLas (S_depth a) R
theorem f_1 (R : Rel N σ σ) (a : Int32) : ∃ τ, fc_1 σ a = some τ ∧ Rel N τ τ := q_fc (L := Las) hLas (S_found a) R
theorem f_2 (R : Rel N σ σ) : ∃ τ, fc_2 σ = some τ ∧ Rel N τ τ := q_fc (L := Ls) hLs S_open R
theorem f_3 (R : Rel N σ σ) (a b : Int32) : ∃ τ, fc_3 σ a b = some τ ∧ Rel N τ τ := q_fc (L := Lnas) hLnas (S_join a b) R
theorem f_4 (R : Rel N σ σ) (a : Int32) : ∃ τ, fc_4 σ a = some τ ∧ Rel N τ τ := q_fc (L := Lns) hLns (S_fail a) R
theorem f_5 (R : Rel N σ σ) (a : Int32) : ∃ τ, fc_5 σ a = some τ ∧ Rel N τ τ := q_fc (L := Ln) hLn (S_stabilise a) R
theorem f_6 (R : Rel N σ σ) (a b : Int32) : ∃ τ, fc_6 σ a b = some τ ∧ Rel N τ τ := q_fc (L := Ln) hLn (S_mend a b) R
theorem f_7 (hN : N < 2147483648) (R : Rel N σ σ) (a : Int32) : ∃ τ, fc_7 σ a = some τ ∧ Rel N τ τ := q_fc (L := Ln) hLn (S_handOver hN a) R
theorem f_8 (hN : N < 2147483648) (R : Rel N σ σ) (a : Int32) : ∃ τ, fc_8 σ a = some τ ∧ Rel N τ τ := q_fc (L := Ln) hLn (S_spread hN a) R
theorem f_9 (hN : N < 2147483648) (R : Rel N σ σ) (a : Int32) : ∃ τ, fc_9 σ a = some τ ∧ Rel N τ τ := q_fc (L := Las) hLas (S_rounds hN a) R
theorem f_10 (R : Rel N σ σ) (a b : Int32) : ∃ τ, fc_10 σ a b = some τ ∧ Rel N τ τ := q_fc (L := Lna) hLna (S_look a b) R
theorem f_12 (hN : N + 1 < 2147483648) (R : Rel N σ σ) (a b c : Int32) : ∃ τ, fc_12 σ a b c = some τ ∧ Rel (N + 1) τ τ := q_fc (L := Lna) hLna (S_put hN a b c) R
theorem f_13 (hN : N < 2147483648) (R : Rel N σ σ) (a b : Int32) : ∃ τ, fc_13 σ a b = some τ ∧ Rel N τ τ := q_fc (L := Ln) hLn (S_get hN a b) R
theorem bm {α β γ : Type} (x : Option α) (f : α → β) (g : β → Option γ) : (x.map f).bind g = x.bind fun a => g (f a) := by
  cases x <;> rfl
theorem f_11 (R : Rel N σ σ) (a : Int32) : ∃ τ, fc_11 σ a = some τ ∧ Rel N τ τ := by
  have e : fc_11 σ a = fcG (fun σ => (fX1_hop σ a).map fun r => (r, σ)) (fun τ => fX2_hop τ a) Ln σ := by
    simp only [fcG, bm]; rfl
  rw [e]; exact q_fc (L := Ln) hLn (S_hop a) R
theorem f_14 (hN : N < 2147483648) (R : Rel N σ σ) (a b c : Int32) : ∃ τ, fc_14 σ a b c = some τ ∧ Rel N τ τ := by
  have e : fc_14 σ a b c = fcG (fun σ => (fX1_held σ a b c).map fun r => (r, σ)) (fun τ => fX2_held τ a b c) Lna σ := by
    simp only [fcG, bm]; rfl
  rw [e]; exact q_fc (L := Lna) hLna (S_held hN a b c) R
theorem f_15 (R : Rel N σ σ) (a b : Int32) : ∃ τ, fc_15 σ a b = some τ ∧ Rel N τ τ := by
  have e : fc_15 σ a b = fcG (fun σ => (fX1_known σ a b).map fun r => (r, σ)) (fun τ => fX2_known τ a b) Ln σ := by
    simp only [fcG, bm]; rfl
  rw [e]; exact q_fc (L := Ln) hLn (S_known a b) R
theorem f_16 (R : Rel N σ σ) (a : Int32) : ∃ τ, fc_16 σ a = some τ ∧ Rel N τ τ := by
  have e : fc_16 σ a = fcG (fun σ => (fX1_owner σ a).map fun r => (r, σ)) (fun τ => fX2_owner τ a) La σ := by
    simp only [fcG, bm]; rfl
  rw [e]; exact q_fc (L := La) hLa (S_owner a) R
theorem f_18 (hN : N < 2147483648) (R : Rel N σ σ) (a : Int32) : ∃ τ, fc_18 σ a = some τ ∧ Rel N τ τ := by
  have e : fc_18 σ a = fcG (fun σ => (fX1_count σ a).map fun r => (r, σ)) (fun τ => fX2_count τ a) La σ := by
    simp only [fcG, bm]; rfl
  rw [e]; exact q_fc (L := La) hLa (S_count hN a) R
theorem q_stp {A : Option kS} (h : ∃ τ, A = some τ ∧ Rel N τ τ) : ∃ τ, A = some τ ∧ Rel (N + 1) τ τ := by
  obtain ⟨τ, h1, h2⟩ := h
  exact ⟨τ, h1, q_rel_hN h2 (Nat.le_succ N)⟩
theorem q_if {c : Prop} [Decidable c] {A B : Option kS} (h1 : ∃ τ, A = some τ ∧ Rel N τ τ) (h2 : ∃ τ, B = some τ ∧ Rel N τ τ) : ∃ τ, (if c then A else B) = some τ ∧ Rel N τ τ := by
  by_cases e : c
  · rw [if_pos e]; exact h1
  · rw [if_neg e]; exact h2
theorem q_step (hN : N + 1 < 2147483648) (R : Rel N σ σ) (xs : Nat → Int32) (i : Nat) : ∃ τ, fstep xs σ i = some τ ∧ Rel (N + 1) τ τ := by
  have h : N < 2147483648 := by omega
  exact q_if (q_stp (f_0 R _)) (q_if (q_stp (f_1 R _)) (q_if (q_stp (f_2 R)) (q_if (q_stp (f_3 R _ _)) (q_if (q_stp (f_4 R _)) (q_if (q_stp (f_5 R _)) (q_if (q_stp (f_6 R _ _)) (q_if (q_stp (f_7 h R _)) (q_if (q_stp (f_8 h R _)) (q_if (q_stp (f_9 h R _)) (q_if (q_stp (f_10 R _ _)) (q_if (q_stp (f_11 R _)) (q_if (f_12 hN R _ _ _) (q_if (q_stp (f_13 h R _ _)) (q_if (q_stp (f_14 h R _ _ _)) (q_if (q_stp (f_15 R _ _)) (q_if (q_stp (f_16 R _)) (q_if (q_stp (f_17 R)) (q_if (q_stp (f_18 h R _)) (q_stp ⟨σ, rfl, R⟩)))))))))))))))))))
end
theorem q_run (xs : Nat → Int32) : ∀ (n i N : Nat) (σ : kS), N + n < 2147483648 → Rel N σ σ → ∃ τ, frun xs n i σ = some τ := by
  intro n
  induction n with
  | zero => intro i N σ _ _; exact ⟨σ, rfl⟩
  | succ n ih =>
    intro i N σ hN R
    obtain ⟨τ, h1, h2⟩ := q_step (by omega) R xs i
    obtain ⟨τ', h3⟩ := ih (i + 4) (N + 1) τ (by omega) h2
    exact ⟨τ', by simp only [frun, h1, Option.bind_some, h3]⟩
theorem main_pure (xs : Nat → Int32) (n : Nat) (hn : n ≤ 512) : ∃ τ, frun xs n 0 kInit = some τ := q_run xs n 0 0 kInit (by omega) q_init
