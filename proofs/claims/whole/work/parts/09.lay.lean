/-! ===== the layout: which cell is what (by the order in which the constructors make them) ===== -/
def kN : Nat := 139
def kd (c : Nat) : Nat × Nat × Nat :=
  if c = 0 then (0, 1, 12) else if c = 1 then (3, 0, 20)
  else if c < 122 then (if (c - 2) % 6 = 0 then (0, 0, 8) else if (c - 2) % 6 = 1 then (1, 0, 4) else if (c - 2) % 6 = 2 then (1, 0, 8) else (1, 0, 64))
  else if c = 122 then (3, 0, 256) else if c = 123 then (2, 0, 256) else if c = 124 then (1, 0, 20) else if c = 125 then (1, 0, 20)
  else if c = 126 then (0, 2, 17) else if c = 127 then (1, 0, 256) else if c = 128 then (1, 0, 1024) else if c = 129 then (1, 0, 256)
  else if c = 130 then (1, 0, 2048) else if c = 131 then (1, 0, 256) else if c = 132 then (1, 0, 16384) else if c = 133 then (1, 0, 16384)
  else if c = 134 then (1, 0, 16384) else if c = 135 then (1, 0, 4) else if c = 136 then (1, 0, 64) else if c = 137 then (1, 0, 64)
  else if c = 138 then (4, 0, 1) else (9, 0, 0)
theorem kd_lt {c : Nat} (h : (kd c).1 ≠ 9) : c < kN := by
  rcases Nat.lt_or_ge c kN with g | g
  · exact g
  · exfalso
    apply h
    have g : 139 ≤ c := g
    simp only [kd]
    repeat (first | rw [if_neg (by omega)])
/-- which fields hold references: class, field -/
def kr : Nat → Nat → Bool
  | 0, k => decide (k < 5)
  | 1, k => k == 0 || k == 1 || k == 2 || k == 3 || k == 5
  | 2, k => decide (3 ≤ k) && decide (k < 12) || k == 15 || k == 16
  | _, _ => false
/-- the final fields that hold references: what they hold once the constructors are through -/
def kfin (c ci k : Nat) : Nat := match ci with
  | 0 => c + 1 + k
  | 1 => if k = 0 then 1 else if k = 1 then 122 else if k = 2 then 123 else if k = 3 then 124 else 125
  | _ => if k = 15 then 136 else if k = 16 then 137 else 124 + k
theorem kd_0 : kd 0 = (0, 1, 12) := by decide +kernel
theorem kd_1 : kd 1 = (3, 0, 20) := by decide +kernel
theorem kd_122 : kd 122 = (3, 0, 256) := by decide +kernel
theorem kd_123 : kd 123 = (2, 0, 256) := by decide +kernel
theorem kd_124 : kd 124 = (1, 0, 20) := by decide +kernel
theorem kd_125 : kd 125 = (1, 0, 20) := by decide +kernel
theorem kd_126 : kd 126 = (0, 2, 17) := by decide +kernel
theorem kd_127 : kd 127 = (1, 0, 256) := by decide +kernel
theorem kd_128 : kd 128 = (1, 0, 1024) := by decide +kernel
theorem kd_129 : kd 129 = (1, 0, 256) := by decide +kernel
theorem kd_130 : kd 130 = (1, 0, 2048) := by decide +kernel
theorem kd_131 : kd 131 = (1, 0, 256) := by decide +kernel
theorem kd_132 : kd 132 = (1, 0, 16384) := by decide +kernel
theorem kd_133 : kd 133 = (1, 0, 16384) := by decide +kernel
theorem kd_134 : kd 134 = (1, 0, 16384) := by decide +kernel
theorem kd_135 : kd 135 = (1, 0, 4) := by decide +kernel
theorem kd_136 : kd 136 = (1, 0, 64) := by decide +kernel
theorem kd_137 : kd 137 = (1, 0, 64) := by decide +kernel
theorem kd_138 : kd 138 = (4, 0, 1) := by decide +kernel
