section
-- numbers cut at C
def bd_c (C a : Nat) : Nat := if a ≤ C then a else C
theorem bd_c_le (C a : Nat) : bd_c C a ≤ C := by unfold bd_c; split <;> omega
theorem bd_c_of {C a : Nat} (h : a ≤ C) : bd_c C a = a := by unfold bd_c; rw [if_pos h]
theorem bd_c_top {C a : Nat} (h : C ≤ a) : bd_c C a = C := by unfold bd_c; split <;> omega
theorem bd_add (C a b : Nat) : bd_c C (bd_c C a + b) = bd_c C (a + b) := by
  unfold bd_c; split <;> (try split) <;> (try split) <;> omega
theorem bd_add2 (C a b : Nat) : bd_c C (a + bd_c C b) = bd_c C (a + b) := by
  rw [Nat.add_comm, bd_add, Nat.add_comm]
theorem bd_mul (C a b : Nat) : bd_c C (bd_c C a * b) = bd_c C (a * b) := by
  rcases Nat.lt_or_ge C a with h | h
  · cases b with
    | zero => rfl
    | succ b =>
      have h1 : C ≤ C * (b + 1) := Nat.le_mul_of_pos_right _ (by omega)
      have h2 : a ≤ a * (b + 1) := Nat.le_mul_of_pos_right _ (by omega)
      rw [bd_c_top (Nat.le_of_lt h), bd_c_top h1, bd_c_top (by omega)]
  · rw [bd_c_of h]
theorem bd_mul2 (C a b : Nat) : bd_c C (a * bd_c C b) = bd_c C (a * b) := by
  rw [Nat.mul_comm, bd_mul, Nat.mul_comm]
theorem bd_cc (C a : Nat) : bd_c C (bd_c (C + 1) a) = bd_c C a := by
  by_cases h : a ≤ C + 1
  · rw [bd_c_of h]
  · rw [bd_c_top (C := C + 1) (a := a) (by omega), bd_c_top (C := C) (a := C + 1) (by omega), bd_c_top (C := C) (a := a) (by omega)]
/-- the sum of the first i powers of r -/
def bd_S (r : Nat) : Nat → Nat
  | 0 => 0
  | i + 1 => bd_S r i + r ^ i
theorem bd_S_pos (r i : Nat) (h : 0 < i) : 0 < bd_S r i := by
  induction i with
  | zero => omega
  | succ i ih =>
    rw [bd_S]
    cases i with
    | zero => simp [bd_S]
    | succ i => have := ih (by omega); omega
def bd_in (cc T : Nat → Nat) : Nat → Nat
  | 0 => 1
  | k + 1 => bd_in cc T k + cc k * T k
theorem bd_in_pos (cc T : Nat → Nat) : ∀ k, 0 < bd_in cc T k
  | 0 => Nat.zero_lt_one
  | k + 1 => by have := bd_in_pos cc T k; rw [bd_in]; omega
def bd_tab (cnt : Nat → Nat → Nat) (L : Nat → Nat) : Nat → Nat → Nat
  | 0, _ => 0
  | f + 1, g => if g = f then bd_S (cnt f f) (L f) * bd_in (cnt f) (bd_tab cnt L f) f else bd_tab cnt L f g
end
