section
/-- what a call of the machine needs of the program -/
def rl_laid (F N : Nat) (pc rt bs kd : Nat → Nat) (mk na par cx se sc : Nat → Int32) : Prop :=
  0 < F ∧ pr_ok F N pc rt bs kd mk na ∧ pr_nm F N pc bs kd na ∧ tb_ok N (pr_ar F pc kd na) kd (pr_z F bs pc) par cx se sc N
def rl_sl (M : Nat) (st : Nat → Int32) (sv : Nat → Int64) : Prop := ∀ i, i < 3 → ∃ ty, ty ≤ 1 ∧ st i = nI ty ∧ vl_V M ty (sv i)
end
