theorem q_l2 : (2 : Int32) = nI 2 := by decide +kernel
theorem q_l3 : (3 : Int32) = nI 3 := by decide +kernel
theorem q_l4 : (4 : Int32) = nI 4 := by decide +kernel
theorem q_l7 : (7 : Int32) = nI 7 := by decide +kernel
theorem q_l8 : (8 : Int32) = nI 8 := by decide +kernel
theorem q_l10 : (10 : Int32) = nI 10 := by decide +kernel
theorem q_l17 : (17 : Int32) = nI 17 := by decide +kernel
theorem q_l18 : (18 : Int32) = nI 18 := by decide +kernel
theorem q_l20 : (20 : Int32) = nI 20 := by decide +kernel
theorem q_l31 : (31 : Int32) = nI 31 := by decide +kernel
theorem q_l40 : (40 : Int32) = nI 40 := by decide +kernel
theorem q_l61 : (61 : Int32) = nI 61 := by decide +kernel
theorem q_l64 : (64 : Int32) = nI 64 := by decide +kernel
theorem q_l255 : (255 : Int32) = nI 255 := by decide +kernel
theorem q_l256 : (256 : Int32) = nI 256 := by decide +kernel
theorem q_leT {a b : Nat} (h : a ≤ b) (hb : b < 2147483648) : nI a ≤ nI b := nI_le h hb
theorem q_leF {a b : Nat} (h : b < a) (ha : a < 2147483648) : ¬ nI a ≤ nI b := nI_ge h ha
theorem q_ltT {a b : Nat} (h : a < b) (hb : b < 2147483648) : nI a < nI b := nI_lt h hb
theorem q_ltF {a b : Nat} (h : b ≤ a) (ha : a < 2147483648) : ¬ nI a < nI b := nI_nlt h ha
theorem q_ne {a b : Nat} (h : a ≠ b) (ha : a < 2147483648) (hb : b < 2147483648) : ¬ nI a = nI b := fun e => h ((nI_eq ha hb).mp e)
theorem q_inj {a b : Nat} (ha : a < 2147483648) (hb : b < 2147483648) (h : nI a = nI b) : a = b := (nI_eq ha hb).mp h
theorem q_n0 {a : Nat} (ha : a < 2147483648) : ¬ nI a < 0 := nI_pos ha
theorem q_0le {a : Nat} (ha : a < 2147483648) : (0 : Int32) ≤ nI a := nI_pos' ha
theorem q_ne0 {a : Nat} (h : 0 < a) (ha : a < 2147483648) : ¬ nI a = 0 := nI_ne0 h ha
theorem q_le0F {a : Nat} (h : 0 < a) (ha : a < 2147483648) : ¬ nI a ≤ 0 := nI_nle h ha
theorem q_lt0T {a : Nat} (h : 0 < a) (ha : a < 2147483648) : (0 : Int32) < nI a := nI_lt (a := 0) h ha
theorem q_nm1 {a : Nat} (ha : a < 2147483648) : ¬ nI a = -1 := fun e => nI_pos ha (by rw [e]; decide)
theorem q_ltm1 {a : Nat} (ha : a < 2147483648) : ¬ nI a < -1 := fun e => by
  have h1 := Int32.lt_iff_toInt_lt.mp e
  rw [nI_toInt ha] at h1
  have : (-1 : Int32).toInt = -1 := by decide
  omega
theorem q_cl {a : Nat} (ha : a < 2147483648) : (nI a).toNatClampNeg = a := nI_clamp ha
theorem q_cl0 : (0 : Int32).toNatClampNeg = 0 := by decide
theorem q_vpT {a n : Nat} (h : a < n) (hn : n < 2147483648) : vpi (nI a) n := nI_in h hn
theorem q_add (a b : Nat) : nI a + nI b = nI (a + b) := nI_add a b
theorem q_s1 (a : Nat) : nI a + 1 = nI (a + 1) := nI_1 a
theorem q_0s (b : Nat) : (0 : Int32) + nI b = nI b := by rw [show (0 : Int32) = nI 0 from rfl, nI_add, Nat.zero_add]
theorem q_01 : (0 : Int32) + 1 = nI 1 := rfl
theorem q_mul (a b : Nat) : nI a * nI b = nI (a * b) := pk_mul a b
theorem q_sub {a b : Nat} (h : b ≤ a) : nI a - nI b = nI (a - b) := pk_sub h
theorem q_p1 {a : Nat} (h : 0 < a) : nI a - 1 = nI (a - 1) := pk_sub (b := 1) h
theorem q_d1 {a : Nat} (h : 0 < a) : nI a + (-1) = nI (a - 1) := sb_m1 h
theorem q_rem {a d : Nat} (ha : a < 2147483648) (h0 : 0 < d) (hd : d < 2147483648) : nI a - nI a / nI d * nI d = nI (a % d) := pk_rem ha h0 hd
theorem q_s256 {a b : Nat} (h : a ≤ 256) : nI b - nI a + nI 256 = nI (b + 256 - a) := by
  rw [← q_sub (a := b + 256) (b := a) (by omega), ← q_add b 256]
  apply Int32.toBitVec_inj.mp
  simp only [Int32.toBitVec_add, Int32.toBitVec_sub]
  rw [BitVec.sub_eq_add_neg, BitVec.sub_eq_add_neg, BitVec.add_assoc, BitVec.add_comm (-_), ← BitVec.add_assoc]
theorem q_and255 {n : Nat} (h : n < 4294967296) : nI n &&& nI 255 = nI (n % 256) := pk_andN h 8 (by decide)
theorem q_up1 {a b : Nat} (ha : a < 256) (hb : b < 256) : (nI b - nI a) &&& nI 255 = nI ((b + 256 - a) % 256) := by
  rw [pk_and _ 8 (by decide : (nI 255).toBitVec.toNat = 2 ^ 8 - 1)]
  congr 1
  rw [Int32.toBitVec_sub, BitVec.toNat_sub, pk_tn (by omega), pk_tn (by omega)]
  omega
theorem q_shl {k : Nat} (h : k < 8) : (1 : Int32) <<< (nI k &&& nI 31) = nI (2 ^ k) := by
  have key : ∀ k : Fin 8, (1 : Int32) <<< (nI k.val &&& nI 31) = nI (2 ^ k.val) := by decide +kernel
  exact key ⟨k, h⟩
theorem q_pow {k : Nat} (h : k < 8) : 2 ^ k < 256 := by
  have key : ∀ k : Fin 8, 2 ^ k.val < 256 := by decide +kernel
  exact key ⟨k, h⟩
theorem q_pt (x : Int32) : (∃ p : Nat, p < 256 ∧ x = nI p) ∨ x < 0 ∨ (¬ x < 0 ∧ nI 256 ≤ x) := by
  rcases pk_ix x (n := 256) (by decide) with h | h | ⟨j, hj, e⟩
  · exact Or.inr (Or.inl h)
  · by_cases h0 : x < 0
    · exact Or.inr (Or.inl h0)
    · exact Or.inr (Or.inr ⟨h0, h⟩)
  · exact Or.inl ⟨j, hj, e⟩
theorem q_kit {α β : Type} {body : α → Option (α ⊕ β)} {n : Nat} {a a' : α} (h : body a = some (.inl a')) : kit body (n + 1) a = kit body n a' := by
  simp only [kit, h]
theorem q_kitE {α β : Type} {body : α → Option (α ⊕ β)} {n : Nat} {a : α} {b : β} (h : body a = some (.inr b)) : kit body (n + 1) a = some b := by
  simp only [kit, h]
theorem q_inv' {α β : Type} {body : α → Option (α ⊕ β)} (I : Nat → α → Prop) (Q : β → Prop) (K : Nat)
    (step : ∀ k a, k < K → I k a → (∃ a', body a = some (.inl a') ∧ I (k + 1) a') ∨ (∃ b, body a = some (.inr b) ∧ Q b))
    (fin : ∀ a, I K a → ∃ b, body a = some (.inr b) ∧ Q b) : ∀ (j k n : Nat) (a : α), j + k = K → j < n → I k a → ∃ b, kit body n a = some b ∧ Q b := by
  intro j
  induction j with
  | zero =>
    intro k n a hk hn hI
    have hk : k = K := by omega
    subst hk
    obtain ⟨b, h1, h2⟩ := fin a hI
    obtain ⟨m, rfl⟩ : ∃ m, n = m + 1 := ⟨n - 1, by omega⟩
    exact ⟨b, q_kitE h1, h2⟩
  | succ j ih =>
    intro k n a hk hn hI
    obtain ⟨m, rfl⟩ : ∃ m, n = m + 1 := ⟨n - 1, by omega⟩
    rcases step k a (by omega) hI with ⟨a', h1, h2⟩ | ⟨b, h1, h2⟩
    · rw [q_kit h1]
      exact ih (k + 1) m a' (by omega) (by omega) h2
    · exact ⟨b, q_kitE h1, h2⟩
theorem q_inv {α β : Type} {body : α → Option (α ⊕ β)} {a : α} (I : Nat → α → Prop) (Q : β → Prop) (K : Nat) (hK : K < 300) (h0 : I 0 a)
    (step : ∀ k a, k < K → I k a → (∃ a', body a = some (.inl a') ∧ I (k + 1) a') ∨ (∃ b, body a = some (.inr b) ∧ Q b))
    (fin : ∀ a, I K a → ∃ b, body a = some (.inr b) ∧ Q b) : ∃ b, kit body 300 a = some b ∧ Q b :=
  q_inv' I Q K step fin K 0 300 a rfl hK h0
theorem q_two' {α β γ δ : Type} {b1 : α → Option (α ⊕ β)} {b2 : γ → Option (γ ⊕ δ)} (I : Nat → α → γ → Prop) (Q : β → δ → Prop) (K : Nat)
    (step : ∀ k a c, k < K → I k a c → (∃ a' c', b1 a = some (.inl a') ∧ b2 c = some (.inl c') ∧ I (k + 1) a' c') ∨ (∃ b d, b1 a = some (.inr b) ∧ b2 c = some (.inr d) ∧ Q b d))
    (fin : ∀ a c, I K a c → ∃ b d, b1 a = some (.inr b) ∧ b2 c = some (.inr d) ∧ Q b d) : ∀ (j k n : Nat) (a : α) (c : γ), j + k = K → j < n → I k a c → ∃ b d, kit b1 n a = some b ∧ kit b2 n c = some d ∧ Q b d := by
  intro j
  induction j with
  | zero =>
    intro k n a c hk hn hI
    have hk : k = K := by omega
    subst hk
    obtain ⟨b, d, h1, h2, h3⟩ := fin a c hI
    obtain ⟨m, rfl⟩ : ∃ m, n = m + 1 := ⟨n - 1, by omega⟩
    exact ⟨b, d, q_kitE h1, q_kitE h2, h3⟩
  | succ j ih =>
    intro k n a c hk hn hI
    obtain ⟨m, rfl⟩ : ∃ m, n = m + 1 := ⟨n - 1, by omega⟩
    rcases step k a c (by omega) hI with ⟨a', c', h1, h2, h3⟩ | ⟨b, d, h1, h2, h3⟩
    · rw [q_kit h1, q_kit h2]
      exact ih (k + 1) m a' c' (by omega) (by omega) h3
    · exact ⟨b, d, q_kitE h1, q_kitE h2, h3⟩
theorem q_two {α β γ δ : Type} {b1 : α → Option (α ⊕ β)} {b2 : γ → Option (γ ⊕ δ)} {a : α} {c : γ} (I : Nat → α → γ → Prop) (Q : β → δ → Prop) (K : Nat) (hK : K < 300) (h0 : I 0 a c)
    (step : ∀ k a c, k < K → I k a c → (∃ a' c', b1 a = some (.inl a') ∧ b2 c = some (.inl c') ∧ I (k + 1) a' c') ∨ (∃ b d, b1 a = some (.inr b) ∧ b2 c = some (.inr d) ∧ Q b d))
    (fin : ∀ a c, I K a c → ∃ b d, b1 a = some (.inr b) ∧ b2 c = some (.inr d) ∧ Q b d) : ∃ b d, kit b1 300 a = some b ∧ kit b2 300 c = some d ∧ Q b d :=
  q_two' I Q K step fin K 0 300 a c rfl hK h0
def up (a b : Nat) : Nat := (b + 256 - a) % 256
def btw (a x b : Nat) : Bool := decide (up a x ≠ 0 ∧ (up a b = 0 ∨ up a x < up a b))
def bI (b : Bool) : Int32 := if b then 1 else 0
theorem bI_T : bI true = 1 := rfl
theorem bI_F : bI false = 0 := rfl
theorem q_steps {a b : Nat} (ha : a < 256) (hb : b < 256) : fX1_stepsUp (nI a) (nI b) = some (nI (up a b)) := by
  simp only [fX1_stepsUp, q_l255, q_up1 ha hb, up]
theorem q_up2 {a b : Nat} (ha : a < 256) (hb : b < 256) : fX2_up (nI a) (nI b) = some (nI (up a b)) := by
  simp only [fX2_up, q_l256]
  rw [q_s256 (by omega), q_rem (by omega) (by omega) (by omega)]
  rfl
theorem up_lt (a b : Nat) : up a b < 256 := Nat.mod_lt _ (by decide)
theorem q_btw1 {a x b : Nat} (ha : a < 256) (hx : x < 256) (hb : b < 256) : fX1_isBetween (nI a) (nI x) (nI b) = some (bI (btw a x b)) := by
  have h1 := up_lt a x
  have h2 := up_lt a b
  simp only [fX1_isBetween, q_steps ha hx, q_steps ha hb, Option.bind_some, fX1_isBetween_28]
  by_cases e1 : up a x = 0
  · rw [if_pos (by rw [e1]; rfl)]; simp [btw, e1, bI]
  · rw [if_neg (q_ne0 (by omega) (by omega))]
    by_cases e2 : up a b = 0
    · rw [if_pos (by rw [e2]; rfl)]; simp [btw, e1, e2, bI]
    · rw [if_neg (q_ne0 (by omega) (by omega))]
      by_cases e3 : up a x < up a b
      · rw [if_neg (q_leF e3 (by omega))]; simp [btw, e1, e3, bI]
      · rw [if_pos (q_leT (by omega) (by omega))]; simp [btw, e1, e2, e3, bI]
theorem up_eq0 {a b : Nat} (ha : a < 256) (hb : b < 256) : up a b = 0 ↔ a = b := by
  simp only [up]; omega
theorem q_btw2 {a x b : Nat} (ha : a < 256) (hx : x < 256) (hb : b < 256) : fX2_between (nI x) (nI a) (nI b) = some (bI (btw a x b)) := by
  have h1 := up_lt a x
  have h2 := up_lt a b
  simp only [fX2_between, q_up2 ha hx, q_up2 ha hb, Option.bind_some]
  by_cases e : a = b
  · subst e
    have e0 : up a a = 0 := (up_eq0 ha ha).mpr rfl
    rw [if_pos rfl]
    by_cases e1 : x = a
    · subst e1; rw [if_pos rfl]; simp [btw, e0, bI]
    · rw [if_neg (q_ne e1 (by omega) (by omega))]
      have : ¬ up a x = 0 := fun h => e1 ((up_eq0 ha hx).mp h).symm
      simp [btw, this, e0, bI]
  · have e2 : ¬ up a b = 0 := fun h => e ((up_eq0 ha hb).mp h)
    rw [if_neg (q_ne e (by omega) (by omega))]
    by_cases e1 : up a x = 0
    · rw [if_pos (by rw [e1]; decide)]; simp [btw, e1, bI]
    · rw [if_neg (q_le0F (by omega) (by omega))]
      by_cases e3 : up a x < up a b
      · rw [if_neg (q_leF e3 (by omega))]; simp [btw, e1, e3, bI]
      · rw [if_pos (q_leT (by omega) (by omega))]; simp [btw, e1, e2, e3, bI]
def kpt (k : Nat) : Nat := (k * 61 + 17) % 256
theorem kpt_lt (k : Nat) : kpt k < 256 := Nat.mod_lt _ (by decide)
theorem q_kp1 {k : Nat} (h : k < 64) : fX1_pointOfKey (nI k) = some (nI (kpt k)) := by
  simp only [fX1_pointOfKey, fX1_pointUp, q_l61, q_l17, q_l255, q_mul, q_add, Option.bind_some]
  rw [q_and255 (by omega)]
  rfl
theorem q_kp2 {k : Nat} (h : k < 64) : fX2_pointOf (nI k) = some (nI (kpt k)) := by
  simp only [fX2_pointOf, q_l61, q_l17, q_l256, q_mul, q_add]
  rw [q_rem (by omega) (by omega) (by omega)]
  rfl
theorem q_pu1 {a b : Nat} (h : a + b < 4294967296) : fX1_pointUp (nI a) (nI b) = some (nI ((a + b) % 256)) := by
  simp only [fX1_pointUp, q_l255, q_add]
  rw [q_and255 h]
theorem q_nle {a b : Nat} (h : b < a) : ¬ a ≤ b := Nat.not_le_of_lt h
theorem q_nlt {a b : Nat} (h : b ≤ a) : ¬ a < b := Nat.not_lt_of_le h
theorem q_00 : ((0 : Int32) = 0) = True := eq_self 0
theorem q_10 : ((1 : Int32) = 0) = False := eq_false (by decide)
theorem kmn_n {α : Type} (A : Option α) (B : Nat → Option α) : kmn none A B = A := rfl
theorem kmn_s {α : Type} (c : Nat) (A : Option α) (B : Nat → Option α) : kmn (some c) A B = B c := rfl
theorem ksm_l {α β γ : Type} (a : α) (A : α → γ) (B : β → γ) : ksm (.inl a) A B = A a := rfl
theorem ksm_r {α β γ : Type} (a : β) (A : α → γ) (B : β → γ) : ksm (.inr a) A B = B a := rfl
theorem q_vpE {a n : Nat} (h : a < n) (hn : n < 2147483648) : vpi (nI a) n = True := eq_true (q_vpT h hn)
