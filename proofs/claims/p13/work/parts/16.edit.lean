section
def ed_u (f : Nat → Nat) (k x : Nat) : Nat → Nat := fun i => if i = k then x else f i
theorem ed_us {f : Nat → Nat} {k x : Nat} : ed_u f k x k = x := if_pos rfl
theorem ed_un {f : Nat → Nat} {k x i : Nat} (h : i ≠ k) : ed_u f k x i = f i := if_neg h
theorem ed_nI (f : Nat → Nat) (k x : Nat) : upd (fun i => nI (f i)) k (nI x) = fun i => nI (ed_u f k x i) := by
  funext i
  unfold upd ed_u
  split <;> rfl
variable {F N : Nat} {pc rt bs kd : Nat → Nat} {mk na : Nat → Int32}
theorem ed_clear (h : pr_in F N pc rt bs kd mk na) : pr_in 0 0 pc rt bs kd mk na := by
  obtain ⟨h1, h2, h3, h4, h5, h6, h7, h8, h9, h10⟩ := h
  exact ⟨by omega, by omega, h3, fun i hi => by omega, h5, h6, fun z => by omega, fun i hi => by omega, fun i hi => by omega, fun _ => rfl⟩
theorem ed_fun (h : pr_in F N pc rt bs kd mk na) {p r : Nat} (hF : F < 6) (hp : 1 ≤ p) (hp3 : p ≤ 3) (hr : r ≤ 1) (g : Nat → Int32) : pr_in (F + 1) N (ed_u pc F p) (ed_u rt F r) (ed_u bs F N) kd g na := by
  obtain ⟨h1, h2, h3, h4, h5, h6, h7, h8, h9, h10⟩ := h
  refine ⟨by omega, h2, fun i => ?_, fun i hi => ?_, fun i => ?_, h6, fun z => ?_, fun i hi => ?_, fun i hi => ?_, fun z => by omega⟩
  · by_cases e : i = F
    · subst e; rw [ed_us]; exact hp3
    · rw [ed_un e]; exact h3 i
  · by_cases e : i = F
    · subst e; rw [ed_us]; exact hp
    · rw [ed_un e]; exact h4 i (by omega)
  · by_cases e : i = F
    · subst e; rw [ed_us]; exact hr
    · rw [ed_un e]; exact h5 i
  · by_cases e : 0 = F
    · subst e; rw [ed_us]; exact h10 rfl
    · rw [ed_un e]; exact h7 (by omega)
  · by_cases e : i = F
    · subst e; rw [ed_us]; exact Nat.le_refl _
    · rw [ed_un e]; exact h8 i (by omega)
  · by_cases e : i + 1 = F
    · rw [e, ed_us, ed_un (by omega)]; exact h8 i (by omega)
    · rw [ed_un e, ed_un (by omega)]; exact h9 i (by omega)
theorem ed_node (h : pr_in F N pc rt bs kd mk na) {k : Nat} (hF : 0 < F) (hN : N < 64) (hk : k ≤ 7) (g : Nat → Int32) : pr_in F (N + 1) pc rt bs (ed_u kd N k) mk g := by
  obtain ⟨h1, h2, h3, h4, h5, h6, h7, h8, h9, h10⟩ := h
  refine ⟨h1, by omega, h3, h4, h5, fun i => ?_, h7, fun i hi => ?_, h9, fun z => by omega⟩
  · by_cases e : i = N
    · subst e; rw [ed_us]; exact hk
    · rw [ed_un e]; exact h6 i
  · have := h8 i hi; omega
end
