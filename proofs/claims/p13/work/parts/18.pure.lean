section
variable {M F N k : Nat} {pc rt bs kd : Nat → Nat} {mk na : Nat → Int32}
theorem wy_ch_le (h : pr_in F N pc rt bs kd mk na) {n : Nat} (hn : n < N) (c : Nat) : tr_ch N (pr_ar F pc kd na) n c ≤ N := tr_skip_le c (by omega)
theorem wy_cx3 (ar : Nat → Nat) (p j : Nat) : tr_cx N ar p j ≤ 3 := by
  unfold tr_cx
  split
  · omega
  · split
    · omega
    · split <;> omega
theorem fx_pcl (h : pr_in F N pc rt bs kd mk na) (hw : pg_wf F N bs (pr_ar F pc kd na)) : fx_cl N (pr_ar F pc kd na) kd := by
  intro d hd
  refine ⟨fun k => ?_, fun k => ?_⟩
  · have ha : pr_ar F pc kd na d = 1 := by unfold pr_ar; rw [if_pos k]
    have := (pg_ch hw (c := 0) hd (by omega)).1
    rw [tr_ch_0] at this
    exact this
  · have ha : pr_ar F pc kd na d = 2 := by unfold pr_ar; rw [if_neg (by omega), if_pos k]
    exact (pg_ch hw (c := 1) hd (by omega)).1
theorem fx_k3 (n : Nat) (k : kd n = 6 ∨ kd n = 7) : pr_ar F pc kd na n = 3 := by
  unfold pr_ar
  rw [if_neg (by omega), if_neg (by omega), if_pos k]
def pr_fl (F N : Nat) (pc bs kd : Nat → Nat) (na : Nat → Int32) (n : Nat) : Nat → Option (Nat × Int) := fx_l N (pr_ar F pc kd na) kd (pr_ag na) (pr_z F bs pc) n
def pr_fe (F N : Nat) (pc bs kd : Nat → Nat) (na : Nat → Int32) (n c : Nat) : Option (Nat × Int) := fx_e N (pr_ar F pc kd na) kd (pr_ag na) (pr_fl F N pc bs kd na n) c
end
