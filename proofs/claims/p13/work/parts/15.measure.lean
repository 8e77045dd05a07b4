section
variable {F N : Nat} {bs ar kd ag z rt : Nat → Nat} {pt gt : Nat → Nat → Nat}
theorem ms_bd (h : pw_ok F N bs ar kd ag z pt rt gt) {n : Nat} (hn : n < N) : n < tr_se N ar n ∧ tr_se N ar n ≤ 64 ∧ mc_td N ar n ≤ 63 := by
  have h1 := tr_se_gt (N := N) (ar := ar) hn
  have h2 := tr_se_le (N := N) (ar := ar) (n := n) (by omega)
  have h3 := pw_fit h hn
  have h4 := h.1.2.1
  exact ⟨h1, by omega, by omega⟩
theorem ms_max (h : pw_ok F N bs ar kd ag z pt rt gt) {b d n : Nat} (hn : n < N) (hd : d ≤ 16) (k : Bool) : ms_ms N ar b d n k ≤ 83400 := by
  have := ms_bd h hn
  unfold ms_ms
  split <;> omega
theorem ms_leaf (h : pw_ok F N bs ar kd ag z pt rt gt) {b d n : Nat} (hn : n < N) : ms_ms N ar b d n true < ms_ms N ar b d n false := by
  have := ms_bd h hn
  unfold ms_ms
  rw [if_pos rfl, if_neg (by decide)]
  omega
theorem ms_first (h : pw_ok F N bs ar kd ag z pt rt gt) {b d n : Nat} (hn : n < N) (ha : 0 < ar n) : ms_ms N ar b d (n + 1) false < ms_ms N ar b d n false := by
  obtain ⟨a1, a2, a3, a4, a5, a6, a7⟩ := pg_ch h.1 hn ha
  rw [tr_ch_0] at a1 a3
  have := ms_bd h hn
  have t := mc_td_some a3
  have h4 := h.1.2.1
  unfold ms_ms
  rw [if_neg (by decide), if_neg (by decide)]
  omega
theorem ms_up (h : pw_ok F N bs ar kd ag z pt rt gt) {b d q p : Nat} (hq : q < N) (hp : tr_pa N ar q = some p) : ms_ms N ar b d p true < ms_ms N ar b d q true := by
  obtain ⟨g1, g2, g3⟩ := tr_pa_some hp
  have i := tr_in_se (N := N) (ar := ar) (Nat.le_of_lt g1) g2
  have t := mc_td_some hp
  have b1 := ms_bd h hq
  have b2 := ms_bd h (n := p) (by omega)
  unfold ms_ms
  rw [if_pos rfl, if_pos rfl]
  omega
/-- to a later child of the same parent -/
theorem ms_sib (h : pw_ok F N bs ar kd ag z pt rt gt) {b d q r p : Nat} (hq : q < N) (hr : r < N) (hp : tr_pa N ar q = some p) (hp' : tr_pa N ar r = some p) (hl : tr_se N ar q ≤ r) : ms_ms N ar b d r false < ms_ms N ar b d q true := by
  have t := mc_td_some hp
  have t' := mc_td_some hp'
  have b1 := ms_bd h hq
  have h4 := h.1.2.1
  unfold ms_ms
  rw [if_neg (by decide), if_pos rfl]
  omega
theorem ms_begin (h : pw_ok F N bs ar kd ag z pt rt gt) {b d q r : Nat} (hq : q < N) (hr : r < N) (hb : b < 200) (h0 : mc_td N ar r = 0) : ms_ms N ar (b + 1) (d + 1) r false < ms_ms N ar b d q true := by
  have b1 := ms_bd h hq
  unfold ms_ms
  rw [if_neg (by decide), if_pos rfl]
  omega
theorem ms_ret (h : pw_ok F N bs ar kd ag z pt rt gt) {b d q r : Nat} (hq : q < N) (hr : r < N) : ms_ms N ar b d q true < ms_ms N ar b (d + 1) r true := by
  have b1 := ms_bd h hq
  have b2 := ms_bd h hr
  unfold ms_ms
  rw [if_pos rfl, if_pos rfl]
  omega
end
