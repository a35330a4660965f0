def lvl (τ : kS) : List Nat := (List.range 256).filter (fun p => decide (τ.1 127 p = 1))
def fll (τ : kS) : List Nat := (List.range 256).filter (fun p => decide (τ.1 127 p = 2))
def Mc (σ : kS) (p c : Nat) : Prop := p < 256 ∧ σ.2.1 122 p = some c
def B1 (rr : Nat) (σ τ : kS) : Prop := 2 ≤ rr ∧ rr ≤ 4 ∧ σ.1 0 7 = nI rr ∧ τ.1 126 1 = nI rr
def B2 (σ τ : kS) : Prop := σ.1 0 8 = τ.1 126 2
def B3 (σ τ : kS) : Prop := (lvl τ).length ≤ 20 ∧ σ.1 0 9 = nI (lvl τ).length ∧ σ.1 0 10 = nI (fll τ).length
def B4 (σ τ : kS) : Prop := ∀ p, p < 256 → (τ.1 127 p = 0 ∨ τ.1 127 p = 1 ∨ τ.1 127 p = 2) ∧ (σ.1 123 p = 0 ↔ τ.1 127 p = 0) ∧ (τ.1 127 p = 1 ↔ ∃ c, σ.2.1 122 p = some c)
def B5 (σ : kS) : Prop := ∀ p c, Mc σ p c → kd c = (0, 0, 8) ∧ σ.1 c 5 = nI p
def B6 (σ τ : kS) : Prop := ∃ ρ : Nat → Nat, (∀ i, i < 20 → σ.2.1 1 i = some (ρ i) ∧ kd (ρ i) = (0, 0, 8)) ∧ (∀ i j, i < 20 → j < 20 → ρ i = ρ j → i = j) ∧ ∀ i p, (lvl τ)[i]? = some p → σ.2.1 122 p = some (ρ i)
def B7 (σ τ : kS) : Prop := ∃ h, h ≤ 19 ∧ σ.1 0 6 = nI h ∧ τ.1 126 13 = nI h ∧ ∀ k, k < h → σ.1 125 k = τ.1 137 k
def B8 (σ τ : kS) : Prop := σ.1 0 11 = τ.1 126 14
def Bas (rr : Nat) (σ τ : kS) : Prop := B1 rr σ τ ∧ B2 σ τ ∧ B3 σ τ ∧ B4 σ τ ∧ B5 σ ∧ B6 σ τ ∧ B7 σ τ ∧ B8 σ τ
def D1 (σ τ : kS) (p c : Nat) : Prop := σ.1 c 6 = τ.1 129 p
def D2 (σ τ : kS) (p c : Nat) : Prop := ∃ d, d < 8 ∧ σ.1 c 7 = nI d ∧ τ.1 131 p = nI d
def D3 (rr : Nat) (σ τ : kS) (p c : Nat) : Prop := ∀ k, k < rr → σ.1 (c + 1 + 0) k = τ.1 128 (4 * p + k)
def D4 (σ τ : kS) (p c : Nat) : Prop := ∀ k, k < 8 → σ.1 (c + 1 + 1) k = τ.1 130 (8 * p + k)
def Pr (N : Nat) (v o w v' o' w' : Int32) : Prop := ∃ n, n ≤ N ∧ v = nI n ∧ v' = nI n ∧ (n = 0 → o = -1 ∧ w = -1) ∧ (0 < n → o = o' ∧ w = w')
def D5 (N : Nat) (σ τ : kS) (p c : Nat) : Prop := ∀ k, k < 64 → Pr N (σ.1 (c + 1 + 2) k) (σ.1 (c + 1 + 3) k) (σ.1 (c + 1 + 4) k) (τ.1 132 (64 * p + k)) (τ.1 133 (64 * p + k)) (τ.1 134 (64 * p + k))
def D6 (rr : Nat) (τ : kS) (p : Nat) : Prop := ∃ k, k < rr ∧ ∃ q, q < 256 ∧ τ.1 128 (4 * p + k) = nI q ∧ τ.1 127 q = 1
def Dat (rr N : Nat) (σ τ : kS) (p c : Nat) : Prop := D1 σ τ p c ∧ D2 σ τ p c ∧ D3 rr σ τ p c ∧ D4 σ τ p c ∧ D5 N σ τ p c ∧ D6 rr τ p
def Ro (N rr : Nat) (σ τ : kS) : Prop := Bas rr σ τ ∧ τ.1 126 2 = 1 ∧ 0 < (lvl τ).length ∧ ∀ p c, Mc σ p c → Dat rr N σ τ p c
def Emp (σ : kS) (c : Nat) : Prop := (∀ k, k < 4 → σ.1 (c + 1 + 0) k = -1) ∧ (∀ k, k < 8 → σ.1 (c + 1 + 1) k = -1) ∧ (∀ k, k < 64 → σ.1 (c + 1 + 2) k = 0 ∧ σ.1 (c + 1 + 3) k = -1 ∧ σ.1 (c + 1 + 4) k = -1) ∧ σ.1 c 7 = 0
def Rc (rr : Nat) (σ τ : kS) : Prop := Bas rr σ τ ∧ τ.1 126 2 = 0 ∧ ∀ p c, Mc σ p c → Emp σ c
def Rel (N : Nat) (σ τ : kS) : Prop := ∃ rr, Ro N rr σ τ ∨ Rc rr σ τ
theorem q_kd {c : Nat} (h : kd c = (0, 0, 8)) : ∃ m, m < 20 ∧ c = 2 + 6 * m := by
  have hlt : c < 139 := kd_lt (by rw [h]; decide)
  have key : ∀ a : Fin 139, kd a.val = (0, 0, 8) → a.val < 122 ∧ 2 ≤ a.val ∧ (a.val - 2) % 6 = 0 := by decide +kernel
  have key2 := key ⟨c, hlt⟩ h
  dsimp only at key2
  exact ⟨(c - 2) / 6, by omega, by omega⟩
theorem q_dk {m : Nat} (h : m < 20) : kd (2 + 6 * m) = (0, 0, 8) := by
  have key : ∀ a : Fin 20, kd (2 + 6 * a.val) = (0, 0, 8) := by decide +kernel
  exact key ⟨m, h⟩
theorem q_okq {c : Nat} (h : kd c = (0, 0, 8)) : okq (some c) = true := by
  obtain ⟨m, hm, rfl⟩ := q_kd h
  show decide (2 + 6 * m < 139) = true
  exact decide_eq_true (by omega)
theorem q_lvl {τ : kS} {p : Nat} : p ∈ lvl τ ↔ p < 256 ∧ τ.1 127 p = 1 := by
  simp [lvl]
theorem q_la {σ : kS} {p : Nat} (h : p < 256) : fX1_liveAt σ (nI p) = some (σ.2.1 122 p) := by
  simp only [fX1_liveAt, fX1_isPoint, q_l256]
  rw [if_neg (q_n0 (by omega)), if_neg (q_leF h (by omega))]
  simp only [Option.bind_some]
  rw [if_neg (by decide), if_pos (q_vpT h (by omega)), q_cl (by omega)]
theorem q_la0 {σ : kS} {x : Int32} (h : x < 0 ∨ (¬ x < 0 ∧ nI 256 ≤ x)) : fX1_liveAt σ x = some none := by
  simp only [fX1_liveAt, fX1_isPoint, q_l256]
  rcases h with h | ⟨h1, h2⟩
  · rw [if_pos h]; rfl
  · rw [if_neg h1, if_pos h2]; rfl
theorem q_lb {τ : kS} {p : Nat} (h : p < 256) : fX2_live τ (nI p) = some (if τ.1 127 p = 1 then 1 else 0) := by
  simp only [fX2_live, fX2_isPoint, q_l256]
  rw [if_neg (q_n0 (by omega)), if_neg (q_leF h (by omega))]
  simp only [Option.bind_some]
  rw [if_neg (by decide), if_pos (q_vpT h (by omega)), q_cl (by omega)]
  by_cases e : τ.1 127 p = 1
  · rw [if_pos e, if_pos e]
  · rw [if_neg e, if_neg e]
theorem q_lb0 {τ : kS} {x : Int32} (h : x < 0 ∨ (¬ x < 0 ∧ nI 256 ≤ x)) : fX2_live τ x = some 0 := by
  simp only [fX2_live, fX2_isPoint, q_l256]
  rcases h with h | ⟨h1, h2⟩
  · rw [if_pos h]; rfl
  · rw [if_neg h1, if_pos h2]; rfl
theorem q_live {rr : Nat} {σ τ : kS} (B : Bas rr σ τ) (x : Int32) : (fX1_liveAt σ x = some none ∧ fX2_live τ x = some 0 ∧ ∀ p, p < 256 → x = nI p → ¬ τ.1 127 p = 1) ∨ ∃ p c, x = nI p ∧ Mc σ p c ∧ τ.1 127 p = 1 ∧ fX1_liveAt σ x = some (some c) ∧ fX2_live τ x = some 1 := by
  obtain ⟨-, -, -, b4, -⟩ := B
  rcases q_pt x with ⟨p, hp, rfl⟩ | h
  · obtain ⟨-, -, h3⟩ := b4 p hp
    by_cases e : τ.1 127 p = 1
    · obtain ⟨c, hc⟩ := h3.mp e
      exact Or.inr ⟨p, c, rfl, ⟨hp, hc⟩, e, by rw [q_la hp, hc], by rw [q_lb hp, if_pos e]⟩
    · refine Or.inl ⟨?_, by rw [q_lb hp, if_neg e], fun q hq hx => ?_⟩
      · rw [q_la hp]
        cases hc : σ.2.1 122 p with
        | none => rfl
        | some c => exact absurd (h3.mpr ⟨c, hc⟩) e
      · rwa [← q_inj (by omega) (by omega) hx]
  · refine Or.inl ⟨q_la0 h, q_lb0 h, fun p hp e => ?_⟩
    exfalso
    subst e
    rcases h with h | ⟨-, h⟩
    · exact q_n0 (by omega) h
    · exact q_leF hp (by omega) h
theorem q_mcLv {rr : Nat} {σ τ : kS} (B : Bas rr σ τ) {p c : Nat} (h : Mc σ p c) : τ.1 127 p = 1 := (B.2.2.2.1 p h.1).2.2.mpr ⟨c, h.2⟩
theorem q_lvMc {rr : Nat} {σ τ : kS} (B : Bas rr σ τ) {p : Nat} (hp : p < 256) (h : τ.1 127 p = 1) : ∃ c, Mc σ p c := by
  obtain ⟨c, hc⟩ := (B.2.2.2.1 p hp).2.2.mp h
  exact ⟨c, hp, hc⟩
theorem q_mcK {rr : Nat} {σ τ : kS} (B : Bas rr σ τ) {p c : Nat} (h : Mc σ p c) : kd c = (0, 0, 8) := (B.2.2.2.2.1 p c h).1
theorem q_mcP {rr : Nat} {σ τ : kS} (B : Bas rr σ τ) {p c : Nat} (h : Mc σ p c) : σ.1 c 5 = nI p := (B.2.2.2.2.1 p c h).2
theorem q_mcI {rr : Nat} {σ τ : kS} (B : Bas rr σ τ) {p c q : Nat} (h : Mc σ p c) (g : Mc σ q c) : p = q := by
  have h1 := q_mcP B h
  have h2 := q_mcP B g
  have := h.1
  have := g.1
  exact q_inj (by omega) (by omega) (h1.symm.trans h2)
theorem q_mcU {σ : kS} {p c d : Nat} (h : Mc σ p c) (g : Mc σ p d) : c = d := Option.some.inj (h.2.symm.trans g.2)
def KC (σ σ' : kS) : Prop := σ'.2 = σ.2 ∧ (∀ a, 126 ≤ a → σ'.1 a = σ.1 a) ∧ σ'.1 123 = σ.1 123 ∧ σ'.1 125 = σ.1 125 ∧ (∀ j, j ≠ 4 → j ≠ 11 → σ'.1 0 j = σ.1 0 j) ∧ (∀ c, kd c = (0, 0, 8) → σ'.1 c 5 = σ.1 c 5)
def KR (τ τ' : kS) : Prop := τ'.2 = τ.2 ∧ (∀ a, a < 126 → τ'.1 a = τ.1 a) ∧ τ'.1 127 = τ.1 127 ∧ τ'.1 137 = τ.1 137 ∧ (∀ j, j ≠ 12 → j ≠ 14 → τ'.1 126 j = τ.1 126 j)
theorem KC.r (σ : kS) : KC σ σ := ⟨rfl, fun _ _ => rfl, rfl, rfl, fun _ _ _ => rfl, fun _ _ => rfl⟩
theorem KR.r (τ : kS) : KR τ τ := ⟨rfl, fun _ _ => rfl, rfl, rfl, fun _ _ _ => rfl⟩
theorem KC.t {a b c : kS} (h : KC a b) (g : KC b c) : KC a c := ⟨g.1.trans h.1, fun x hx => (g.2.1 x hx).trans (h.2.1 x hx), g.2.2.1.trans h.2.2.1, g.2.2.2.1.trans h.2.2.2.1, fun j h1 h2 => (g.2.2.2.2.1 j h1 h2).trans (h.2.2.2.2.1 j h1 h2), fun x hx => (g.2.2.2.2.2 x hx).trans (h.2.2.2.2.2 x hx)⟩
theorem KR.t {a b c : kS} (h : KR a b) (g : KR b c) : KR a c := ⟨g.1.trans h.1, fun x hx => (g.2.1 x hx).trans (h.2.1 x hx), g.2.2.1.trans h.2.2.1, g.2.2.2.1.trans h.2.2.2.1, fun j h1 h2 => (g.2.2.2.2 j h1 h2).trans (h.2.2.2.2 j h1 h2)⟩
theorem KC.mc {σ σ' : kS} (h : KC σ σ') {p c : Nat} : Mc σ' p c ↔ Mc σ p c := by
  simp only [Mc, h.1]
theorem q_lvlC {τ τ' : kS} (h : τ'.1 127 = τ.1 127) : lvl τ' = lvl τ := by simp only [lvl, h]
theorem q_fllC {τ τ' : kS} (h : τ'.1 127 = τ.1 127) : fll τ' = fll τ := by simp only [fll, h]
theorem q_bas {rr : Nat} {σ τ σ' τ' : kS} (B : Bas rr σ τ) (hc : KC σ σ') (hr : KR τ τ') (h8 : σ'.1 0 11 = τ'.1 126 14) : Bas rr σ' τ' := by
  obtain ⟨⟨r1, r2, r3, r4⟩, b2, ⟨n1, n2, n3⟩, b4, b5, ⟨ρ, p1, p2, p3⟩, ⟨h, g1, g2, g3, g4⟩, -⟩ := B
  obtain ⟨c1, c2, c3, c4, c5, c6⟩ := hc
  obtain ⟨e1, e2, e3, e4, e5⟩ := hr
  refine ⟨⟨r1, r2, ?_, ?_⟩, ?_, ⟨?_, ?_, ?_⟩, ?_, ?_, ⟨ρ, ?_, p2, ?_⟩, ⟨h, g1, ?_, ?_, ?_⟩, h8⟩
  · rw [c5 7 (by omega) (by omega), r3]
  · rw [e5 1 (by omega) (by omega), r4]
  · simp only [B2]; rw [c5 8 (by omega) (by omega), e5 2 (by omega) (by omega)]; exact b2
  · rw [q_lvlC e3]; exact n1
  · rw [c5 9 (by omega) (by omega), q_lvlC e3]; exact n2
  · rw [c5 10 (by omega) (by omega), q_fllC e3]; exact n3
  · intro p hp; rw [c3, e3, c1]; exact b4 p hp
  · intro p c hm
    have hm' : Mc σ p c := by simpa only [Mc, c1] using hm
    obtain ⟨k1, k2⟩ := b5 p c hm'
    exact ⟨k1, by rw [c6 c k1]; exact k2⟩
  · intro i hi; rw [c1]; exact p1 i hi
  · intro i p; rw [q_lvlC e3, c1]; exact p3 i p
  · rw [c5 6 (by omega) (by omega)]; exact g2
  · rw [e5 13 (by omega) (by omega)]; exact g3
  · intro k hk; rw [c4, e4]; exact g4 k hk
theorem q_ro {N N' rr : Nat} {σ τ σ' τ' : kS} (B : Ro N rr σ τ) (hc : KC σ σ') (hr : KR τ τ') (h8 : σ'.1 0 11 = τ'.1 126 14) (hD : ∀ p c, Mc σ p c → Dat rr N' σ' τ' p c) : Ro N' rr σ' τ' := by
  obtain ⟨b, o, n, -⟩ := B
  refine ⟨q_bas b hc hr h8, ?_, ?_, fun p c hm => hD p c (hc.mc.mp hm)⟩
  · rw [hr.2.2.2.2 2 (by omega) (by omega)]; exact o
  · rw [q_lvlC hr.2.2.1]; exact n
theorem Pr.m {N N' : Nat} {v o w v' o' w' : Int32} (h : Pr N v o w v' o' w') (hN : N ≤ N') : Pr N' v o w v' o' w' := by
  obtain ⟨n, h1, h2⟩ := h
  exact ⟨n, Nat.le_trans h1 hN, h2⟩
theorem q_dat {rr N N' : Nat} {σ τ σ' τ' : kS} {p c : Nat} (D : Dat rr N σ τ p c) (hrr : rr ≤ 4) (hN : N ≤ N') (h6 : σ'.1 c 6 = σ.1 c 6) (h7 : σ'.1 c 7 = σ.1 c 7)
    (hl : ∀ k, k < rr → σ'.1 (c + 1 + 0) k = σ.1 (c + 1 + 0) k) (hf : ∀ k, k < 8 → σ'.1 (c + 1 + 1) k = σ.1 (c + 1 + 1) k)
    (hv : ∀ k, k < 64 → σ'.1 (c + 1 + 2) k = σ.1 (c + 1 + 2) k ∧ σ'.1 (c + 1 + 3) k = σ.1 (c + 1 + 3) k ∧ σ'.1 (c + 1 + 4) k = σ.1 (c + 1 + 4) k)
    (g6 : τ'.1 129 p = τ.1 129 p) (g7 : τ'.1 131 p = τ.1 131 p) (gl : ∀ k, k < rr → τ'.1 128 (4 * p + k) = τ.1 128 (4 * p + k)) (gf : ∀ k, k < 8 → τ'.1 130 (8 * p + k) = τ.1 130 (8 * p + k))
    (gv : ∀ k, k < 64 → τ'.1 132 (64 * p + k) = τ.1 132 (64 * p + k) ∧ τ'.1 133 (64 * p + k) = τ.1 133 (64 * p + k) ∧ τ'.1 134 (64 * p + k) = τ.1 134 (64 * p + k))
    (gp : τ'.1 127 = τ.1 127) : Dat rr N' σ' τ' p c := by
  obtain ⟨d1, ⟨d, d2, d3, d4⟩, d5, d6, d7, ⟨k, d8, q, d9, d10, d11⟩⟩ := D
  refine ⟨?_, ⟨d, d2, h7.trans d3, g7.trans d4⟩, fun k hk => (hl k hk).trans ((d5 k hk).trans (gl k hk).symm), fun k hk => (hf k hk).trans ((d6 k hk).trans (gf k hk).symm), fun k hk => ?_, ⟨k, d8, q, d9, (gl k d8).trans d10, by rw [gp]; exact d11⟩⟩
  · exact h6.trans (d1.trans g6.symm)
  · obtain ⟨a1, a2, a3⟩ := hv k hk
    obtain ⟨a4, a5, a6⟩ := gv k hk
    rw [a1, a2, a3, a4, a5, a6]
    exact (d7 k hk).m hN
theorem sI_1 (σ : kS) (c i : Nat) (v : Int32) (a j : Nat) : (sI σ c i v).1 a j = if a = c ∧ j = i then v else σ.1 a j := rfl
theorem sI_2 (σ : kS) (c i : Nat) (v : Int32) : (sI σ c i v).2 = σ.2 := rfl
theorem sI_e (σ : kS) (c i : Nat) (v : Int32) : (sI σ c i v).1 c i = v := by simp [sI]
theorem sI_n {σ : kS} {c i a j : Nat} {v : Int32} (h : a ≠ c ∨ j ≠ i) : (sI σ c i v).1 a j = σ.1 a j := by
  rw [sI_1, if_neg (by rintro ⟨rfl, rfl⟩; rcases h with h | h <;> exact h rfl)]
