section
variable {M F N k : Nat} {pc rt bs kd : Nat → Nat} {mk na : Nat → Int32}
/-- what a call of g weighs in an activation of f of rank r -/
def po_w (M F N : Nat) (pc bs kd : Nat → Nat) (na : Nat → Int32) (f r g : Nat) : Nat :=
  if g < f then pr_T M F N pc bs kd na g else bd_in (pr_ct F N bs kd na f) (pr_T M F N pc bs kd na) f * bd_S (pr_ct F N bs kd na f f) r
theorem po_T_eq (f : Nat) : pr_T M F N pc bs kd na f = bd_S (pr_ct F N bs kd na f f) (pr_L M pc f) * bd_in (pr_ct F N bs kd na f) (pr_T M F N pc bs kd na) f := bd_T_eq _ _ f
theorem po_T_pos (f : Nat) : 0 < pr_T M F N pc bs kd na f := by
  rw [po_T_eq]
  refine Nat.mul_pos (bd_S_pos _ _ ?_) (bd_in_pos _ _ _)
  unfold pr_L
  exact Nat.pow_pos (by omega)
/-- a new activation of g of rank r owes one less than this -/
theorem po_new (h : pr_in F N pc rt bs kd mk na) (hw : pg_wf F N bs (pr_ar F pc kd na)) (hnm : pr_nm F N pc bs kd na) {g r : Nat} (hg : g < F) :
    po_p F N bs (pr_ar F pc kd na) kd (pr_ag na) (po_w M F N pc bs kd na g r) g (bs g) (bs g) + 1 ≤ bd_in (pr_ct F N bs kd na g) (pr_T M F N pc bs kd na) g * bd_S (pr_ct F N bs kd na g g) (r + 1) := by
  have h6 := h.1
  have hlt := (hw.2.2.2.2 g hg).1
  have hN := pg_lastN hw hg
  have r1 := po_root (kd := kd) (ag := pr_ag na) (w := po_w M F N pc bs kd na g r) hw hg
  have r2 := po_cnt (kd := kd) (ag := pr_ag na) (w := po_w M F N pc bs kd na g r) (f := g) (na := na) (T := pr_T M F N pc bs kd na) (fun q hq => by unfold po_w; rw [if_pos hq]) (pg_be F N bs g - bs g) (bs g) (fun i hi k => by
    have hn : bs g + i < N := by omega
    obtain ⟨a1, a2⟩ := (hnm _ hn).2 k
    rw [pg_fn_is hw hg (by omega) (by omega)] at a1
    exact ⟨a1, a2⟩) (by omega)
  have r3 : po_w M F N pc bs kd na g r g = bd_in (pr_ct F N bs kd na g) (pr_T M F N pc bs kd na) g * bd_S (pr_ct F N bs kd na g g) r := by
    unfold po_w; rw [if_neg (by omega)]
  have r4 : bd_in (fun q => cd_ct kd na q (pg_be F N bs g - bs g) (bs g)) (pr_T M F N pc bs kd na) g = bd_in (pr_ct F N bs kd na g) (pr_T M F N pc bs kd na) g := rfl
  have r5 : cd_ct kd na g (pg_be F N bs g - bs g) (bs g) = pr_ct F N bs kd na g g := rfl
  rw [r3, r4, r5] at r2
  rw [bd_S_step, Nat.mul_add, Nat.mul_one]
  have r6 : bd_in (pr_ct F N bs kd na g) (pr_T M F N pc bs kd na) g * (pr_ct F N bs kd na g g * bd_S (pr_ct F N bs kd na g g) r) = pr_ct F N bs kd na g g * (bd_in (pr_ct F N bs kd na g) (pr_T M F N pc bs kd na) g * bd_S (pr_ct F N bs kd na g g) r) := Nat.mul_left_comm _ _ _
  rw [r6]
  omega
theorem po_le_T {g r : Nat} (hr : r < pr_L M pc g) : bd_in (pr_ct F N bs kd na g) (pr_T M F N pc bs kd na) g * bd_S (pr_ct F N bs kd na g g) (r + 1) ≤ pr_T M F N pc bs kd na g := by
  rw [po_T_eq g, Nat.mul_comm]
  exact Nat.mul_le_mul_right _ (bd_S_mono _ _ _ hr)
/-- a begun call owes less than it weighed -/
theorem po_fits {f r g r' : Nat} (hr : r' < pr_L M pc g) (hg : g < f ∨ (g = f ∧ r' < r)) : bd_in (pr_ct F N bs kd na g) (pr_T M F N pc bs kd na) g * bd_S (pr_ct F N bs kd na g g) (r' + 1) ≤ po_w M F N pc bs kd na f r g := by
  unfold po_w
  rcases hg with y | ⟨y, y2⟩
  · rw [if_pos y]
    exact po_le_T hr
  · subst y
    rw [if_neg (by omega)]
    exact Nat.mul_le_mul_left _ (bd_S_mono _ _ _ y2)
end
