section
-- a list as the number that both sides keep: its length lowest, then its elements, four bits each
def vl_dig : List Nat → Nat
  | [] => 0
  | h :: t => h + 16 * vl_dig t
def vl_enc (l : List Nat) : Nat := l.length + 16 * vl_dig l
def vl_ok (M : Nat) (l : List Nat) : Prop := l.length ≤ M ∧ ∀ x, x ∈ l → x ≤ M
/-- a value of a type: 0 for numbers, else lists -/
def vl_V (M ty : Nat) (v : Int64) : Prop := (ty = 0 → ∃ k, k ≤ M ∧ v = lN k) ∧ (ty ≠ 0 → ∃ l, vl_ok M l ∧ v = lN (vl_enc l))
theorem vl_nat {M k : Nat} (h : k ≤ M) : vl_V M 0 (lN k) := ⟨fun _ => ⟨k, h, rfl⟩, fun z => absurd rfl z⟩
theorem vl_list {M ty : Nat} {l : List Nat} (ht : ty ≠ 0) (h : vl_ok M l) : vl_V M ty (lN (vl_enc l)) := ⟨fun z => absurd z ht, fun _ => ⟨l, h, rfl⟩⟩
theorem vl_nil_ok (M : Nat) : vl_ok M [] := ⟨Nat.zero_le _, fun x hx => by cases hx⟩
theorem vl_tail_ok {M h : Nat} {t : List Nat} (H : vl_ok M (h :: t)) : vl_ok M t :=
  ⟨by have := H.1; simp only [List.length_cons] at this; omega, fun x hx => H.2 x (List.mem_cons_of_mem _ hx)⟩
theorem vl_head_le {M h : Nat} {t : List Nat} (H : vl_ok M (h :: t)) : h ≤ M := H.2 h (List.mem_cons_self)
theorem vl_cons_ok {M h : Nat} {t : List Nat} (H : vl_ok M t) (h1 : h ≤ M) (h2 : t.length < M) : vl_ok M (h :: t) := by
  refine ⟨by simp only [List.length_cons]; omega, fun x hx => ?_⟩
  rcases List.mem_cons.mp hx with e | e
  · rw [e]; exact h1
  · exact H.2 x e
theorem vl_dig_lt : ∀ (l : List Nat), (∀ x, x ∈ l → x < 16) → vl_dig l < 16 ^ l.length
  | [], _ => by simp [vl_dig]
  | h :: t, H => by
    have h1 := H h List.mem_cons_self
    have h2 := vl_dig_lt t (fun x hx => H x (List.mem_cons_of_mem _ hx))
    rw [vl_dig, List.length_cons, Nat.pow_succ]
    generalize 16 ^ t.length = q at h2 ⊢
    omega
theorem vl_enc_lt {M : Nat} (hM : M ≤ 12) {l : List Nat} (h : vl_ok M l) : vl_enc l < 2 ^ 53 := by
  have h1 := vl_dig_lt l (fun x hx => by have := h.2 x hx; omega)
  have h2 : 16 ^ l.length ≤ 16 ^ 12 := Nat.pow_le_pow_right (by omega) (by have := h.1; omega)
  have h3 := h.1
  have e : (16 : Nat) ^ 12 = 281474976710656 := by decide
  unfold vl_enc
  rw [e] at h2
  have : (2 : Nat) ^ 53 = 9007199254740992 := by decide
  omega
theorem vl_len {M : Nat} (hM : M ≤ 12) {l : List Nat} (h : vl_ok M l) : vl_enc l % 16 = l.length := by
  have := h.1; unfold vl_enc; omega
theorem vl_cons_n {M x : Nat} (hM : M ≤ 12) {l : List Nat} (h : vl_ok M l) : (vl_enc l / 16 * 16 + x) * 16 + (vl_enc l % 16 + 1) = vl_enc (x :: l) := by
  have := h.1
  rw [vl_len hM h]
  unfold vl_enc
  rw [List.length_cons, vl_dig]
  omega
theorem vl_head_n {M x : Nat} (hM : M ≤ 12) {l : List Nat} (h : vl_ok M (x :: l)) : vl_enc (x :: l) / 16 % 16 = x := by
  have h1 := vl_head_le h
  have h2 := h.1
  unfold vl_enc
  rw [vl_dig]
  omega
theorem vl_tail_n {M x : Nat} (hM : M ≤ 12) {l : List Nat} (h : vl_ok M (x :: l)) : vl_enc (x :: l) / 256 * 16 + (vl_enc (x :: l) % 16 - 1) = vl_enc l := by
  have h1 := vl_head_le h
  have h2 := h.1
  rw [vl_len hM h]
  unfold vl_enc
  rw [vl_dig]
  simp only [List.length_cons] at h2 ⊢
  omega
end
