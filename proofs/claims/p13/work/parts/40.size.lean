section
/-- the size of a value of a type -/
def sz_sz (ty : Nat) (v : Int64) : Nat := if ty = 0 then v.toInt32.toNatClampNeg else (v &&& 15).toInt32.toNatClampNeg
theorem sz_nat {k : Nat} (h : k < 2 ^ 31) : sz_sz 0 (lN k) = k := by
  unfold sz_sz
  rw [if_pos rfl, lN_i, nI_clamp h]
theorem sz_list {M ty : Nat} {l : List Nat} (hM : M ≤ 12) (h : vl_ok M l) (ht : ty ≠ 0) : sz_sz ty (lN (vl_enc l)) = l.length := by
  have h1 := h.1
  unfold sz_sz
  rw [if_neg ht, vw_len hM h, nI_clamp (by omega)]
theorem sz_le {M ty : Nat} {v : Int64} (hM : M ≤ 12) (h : vl_V M ty v) : sz_sz ty v ≤ M := by
  by_cases ht : ty = 0
  · obtain ⟨k, hk, rfl⟩ := h.1 ht
    subst ht
    rw [sz_nat (by omega)]; exact hk
  · obtain ⟨l, hl, rfl⟩ := h.2 ht
    rw [sz_list hM hl ht]; exact hl.1
/-- the rank of p sizes in base b, the first weighs most -/
def rk_r (b : Nat) (s : Nat → Nat) : Nat → Nat
  | 0 => 0
  | i + 1 => rk_r b s i * b + s i
theorem rk_lt {b : Nat} {s : Nat → Nat} : ∀ p, (∀ i, i < p → s i < b) → rk_r b s p < b ^ p
  | 0, _ => by simp [rk_r]
  | p + 1, h => by
    have h1 := rk_lt p (fun i hi => h i (by omega))
    have h2 := h p (by omega)
    have h3 : (rk_r b s p + 1) * b ≤ b ^ p * b := Nat.mul_le_mul_right b h1
    rw [rk_r, Nat.pow_succ]
    rw [Nat.add_mul, Nat.one_mul] at h3
    omega
theorem rk_eq {b : Nat} {s s' : Nat → Nat} : ∀ p, (∀ i, i < p → s' i = s i) → rk_r b s' p = rk_r b s p
  | 0, _ => rfl
  | p + 1, h => by rw [rk_r, rk_r, rk_eq p (fun i hi => h i (by omega)), h p (by omega)]
theorem rk_lex {b : Nat} {s s' : Nat → Nat} {i : Nat} (h1 : ∀ j, j < i → s' j = s j) (h2 : s' i < s i) : ∀ d, (∀ j, j < i + 1 + d → s' j < b) → rk_r b s' (i + 1 + d) < rk_r b s (i + 1 + d) := by
  intro d
  induction d with
  | zero =>
    intro _
    rw [Nat.add_zero, rk_r, rk_r, rk_eq i h1]
    omega
  | succ d ih =>
    intro h3
    have h4 := ih (fun j hj => h3 j (by omega))
    have h5 := h3 (i + 1 + d) (by omega)
    rw [← Nat.add_assoc, rk_r, rk_r]
    have h6 : (rk_r b s' (i + 1 + d) + 1) * b ≤ rk_r b s (i + 1 + d) * b := Nat.mul_le_mul_right b h4
    rw [Nat.add_mul, Nat.one_mul] at h6
    omega
-- sums
def ps_s (g : Nat → Nat) : Nat → Nat
  | 0 => 0
  | k + 1 => ps_s g k + g k
theorem ps_le {g h : Nat → Nat} : ∀ k, (∀ i, i < k → g i ≤ h i) → ps_s g k ≤ ps_s h k
  | 0, _ => Nat.le_refl 0
  | k + 1, H => by
    have h1 := ps_le k (fun i hi => H i (by omega))
    have h2 := H k (by omega)
    rw [ps_s, ps_s]; omega
theorem ps_rem {g h : Nat → Nat} {c w : Nat} : ∀ k, (∀ i, i < k → i ≠ c → g i ≤ h i) → c < k → g c + w ≤ h c → ps_s g k + w ≤ ps_s h k
  | 0, _, hc, _ => by omega
  | k + 1, H, hc, hw => by
    rw [ps_s, ps_s]
    rcases Nat.eq_or_lt_of_le (Nat.le_of_lt_succ hc) with e | e
    · subst e
      have := ps_le c (fun i hi => H i (by omega) (by omega))
      omega
    · have h1 := ps_rem k (fun i hi hne => H i (by omega) hne) e hw
      have h2 := H k (by omega) (by omega)
      omega
theorem ps_0 {g : Nat → Nat} : ∀ k, (∀ i, i < k → g i = 0) → ps_s g k = 0
  | 0, _ => rfl
  | k + 1, H => by rw [ps_s, ps_0 k (fun i hi => H i (by omega)), H k (by omega)]
theorem ps_eq {g h : Nat → Nat} (k : Nat) (H : ∀ i, i < k → g i = h i) : ps_s g k = ps_s h k :=
  Nat.le_antisymm (ps_le k (fun i hi => Nat.le_of_eq (H i hi))) (ps_le k (fun i hi => Nat.le_of_eq (H i hi).symm))
-- the powers' sums
theorem bd_S_step (r : Nat) : ∀ n, bd_S r (n + 1) = 1 + r * bd_S r n
  | 0 => by simp [bd_S]
  | n + 1 => by
    have h := bd_S_step r n
    have e1 : bd_S r (n + 1 + 1) = bd_S r (n + 1) + r ^ (n + 1) := rfl
    have e2 : bd_S r (n + 1) = bd_S r n + r ^ n := rfl
    have e3 : r * bd_S r (n + 1) = r * bd_S r n + r * r ^ n := by rw [e2, Nat.mul_add]
    have e4 : r ^ (n + 1) = r * r ^ n := by rw [Nat.pow_succ, Nat.mul_comm]
    rw [e1, e3, e4, h]
    exact Nat.add_assoc _ _ _
theorem bd_S_mono (r : Nat) : ∀ n m, n ≤ m → bd_S r n ≤ bd_S r m := by
  intro n m
  induction m with
  | zero => intro h; rw [show n = 0 by omega]; exact Nat.le_refl _
  | succ m ih =>
    intro h
    rcases Nat.eq_or_lt_of_le h with e | e
    · rw [e]; exact Nat.le_refl _
    · have := ih (by omega)
      rw [bd_S]; omega
/-- one more call of h -/
theorem bd_in_add {cc cc' T : Nat → Nat} {h : Nat} : ∀ k, (∀ g, g ≠ h → cc' g = cc g) → cc' h = cc h + 1 → h < k → bd_in cc' T k = bd_in cc T k + T h := by
  intro k
  induction k with
  | zero => intro _ _ hk; omega
  | succ k ih =>
    intro h1 h2 hk
    rw [bd_in, bd_in]
    rcases Nat.eq_or_lt_of_le (Nat.le_of_lt_succ hk) with e | e
    · subst e
      have : bd_in cc' T h = bd_in cc T h := by
        have key : ∀ j, j ≤ h → bd_in cc' T j = bd_in cc T j := by
          intro j
          induction j with
          | zero => intro _; rfl
          | succ j ihj => intro hj; rw [bd_in, bd_in, ihj (by omega), h1 j (by omega)]
        exact key h (Nat.le_refl _)
      rw [this, h2, Nat.add_mul, Nat.one_mul]
      omega
    · rw [ih h1 h2 e, h1 k (by omega)]
      omega
theorem bd_in_same {cc cc' T : Nat → Nat} : ∀ k, (∀ g, g < k → cc' g = cc g) → bd_in cc' T k = bd_in cc T k
  | 0, _ => rfl
  | k + 1, h => by rw [bd_in, bd_in, bd_in_same k (fun g hg => h g (by omega)), h k (by omega)]
end
