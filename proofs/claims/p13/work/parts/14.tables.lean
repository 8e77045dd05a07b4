section
def tb_o : Option Nat → Int32
  | none => -1
  | some p => nI p
def tb_P (N : Nat) (ar : Nat → Nat) (n : Nat) : Int32 := tb_o (tr_pa N ar n)
variable {F N : Nat} {bs ar kd z : Nat → Nat}
theorem tb_P_none {n : Nat} (h : tr_pa N ar n = none) : tb_P N ar n = -1 := by unfold tb_P; rw [h]; rfl
theorem tb_P_some {n p : Nat} (h : tr_pa N ar n = some p) : tb_P N ar n = nI p := by unfold tb_P; rw [h]; rfl
/-- k children of n are entered -/
def tb_kids (N : Nat) (ar : Nat → Nat) (n k : Nat) (par cx par' cx' : Nat → Int32) : Prop :=
  (∀ c, c < k → par' (tr_ch N ar n c) = nI n ∧ cx' (tr_ch N ar n c) = nI c) ∧ ∀ j, (∀ c, c < k → j ≠ tr_ch N ar n c) → par' j = par j ∧ cx' j = cx j
variable {par cx par' cx' par0 cx0 se se0 : Nat → Int32}
theorem tb_kids_0 (n : Nat) : tb_kids N ar n 0 par cx par cx := ⟨fun c hc => by omega, fun j _ => ⟨rfl, rfl⟩⟩
theorem tb_kids_s {n k : Nat} (hd : ∀ c, c < k → tr_ch N ar n c < tr_ch N ar n k) (H : tb_kids N ar n k par cx par' cx') :
    tb_kids N ar n (k + 1) par cx (upd par' (tr_ch N ar n k) (nI n)) (upd cx' (tr_ch N ar n k) (nI k)) := by
  refine ⟨fun c hc => ?_, fun j hj => ?_⟩
  · rcases Nat.eq_or_lt_of_le (Nat.le_of_lt_succ hc) with e | e
    · subst e; exact ⟨pk_us, pk_us⟩
    · have h1 := hd c e
      rw [pk_un (by omega), pk_un (by omega)]
      exact H.1 c e
  · have h1 := hj k (by omega)
    rw [pk_un h1, pk_un h1]
    exact H.2 j (fun c hc => hj c (by omega))
/-- the body from s to e is laid out down to node s + k -/
def tb_lay (N : Nat) (ar : Nat → Nat) (s e k : Nat) (par0 cx0 se0 par cx se : Nat → Int32) : Prop :=
  (∀ j, s + k ≤ j → j < e → se j = nI (tr_se N ar j)) ∧ (∀ j p, s < j → j < e → tr_pa N ar j = some p → s + k ≤ p → par j = nI p ∧ cx j = nI (tr_ci N ar j)) ∧ par s = -1 ∧ cx s = 0 ∧
    ∀ j, j < s → par j = par0 j ∧ cx j = cx0 j ∧ se j = se0 j
theorem tb_lay_0 {s e k : Nat} (hk : s + k = e) : tb_lay N ar s e k par0 cx0 se0 (upd par0 s (-1)) (upd cx0 s 0) se0 := by
  refine ⟨fun j h1 h2 => by omega, fun j p h1 h2 h3 h4 => ?_, pk_us, pk_us, fun j hj => ⟨pk_un (by omega), pk_un (by omega), rfl⟩⟩
  have := (tr_pa_some h3).1
  omega
theorem tb_chs {s e n : Nat} (hw : tr_wf ar s e) (hN : e ≤ N) (h1 : s ≤ n) (h2 : n < e) {k : Nat} (hk : k < ar n) : ∀ c, c < k → tr_ch N ar n c < tr_ch N ar n k := by
  intro c hc
  have a1 := tr_wf_ch_lt hw hN h1 h2 (c := c) (by omega)
  have a2 := tr_ch_le (N := N) (ar := ar) n (c + 1) k (by omega)
  omega
theorem tb_lay_s {s e k : Nat} (hw : tr_wf ar s e) (hN : e ≤ N) (ha : ∀ n, ar n ≤ 3) (hk : s + k < e) (H : tb_lay N ar s e (k + 1) par0 cx0 se0 par cx se) (K : tb_kids N ar (s + k) (ar (s + k)) par cx par' cx') :
    tb_lay N ar s e k par0 cx0 se0 par' cx' (upd se (s + k) (nI (tr_se N ar (s + k)))) := by
  obtain ⟨h1, h2, h3, h4, h5⟩ := H
  have hne : ∀ j, j ≤ s + k → ∀ c, c < ar (s + k) → j ≠ tr_ch N ar (s + k) c := fun j hj c _ => by
    have := tr_ch_ge (N := N) (ar := ar) (s + k) c
    omega
  refine ⟨fun j g1 g2 => ?_, fun j p g1 g2 g3 g4 => ?_, ?_, ?_, fun j hj => ?_⟩
  · rcases Nat.eq_or_lt_of_le g1 with e1 | e1
    · subst e1; exact pk_us
    · rw [pk_un (by omega)]; exact h1 j (by omega) g2
  · obtain ⟨p', p1, p2, p3, p4, p5⟩ := tr_pa_ci hw hN ha g1 g2
    rw [g3] at p1
    cases p1
    rcases Nat.eq_or_lt_of_le g4 with e1 | e1
    · have := K.1 (tr_ci N ar j) (by rw [e1]; exact p4)
      rw [e1, ← p5] at this
      exact this
    · have : par' j = par j ∧ cx' j = cx j := K.2 j (fun c hc hj => by
        have q := tr_pa_ch hw hN (by omega) hk hc
        rw [← hj, g3] at q
        cases q
        omega)
      rw [this.1, this.2]
      exact h2 j p g1 g2 g3 (by omega)
  · rw [(K.2 s (hne s (by omega))).1]; exact h3
  · rw [(K.2 s (hne s (by omega))).2]; exact h4
  · have := K.2 j (hne j (by omega))
    rw [this.1, this.2, pk_un (by omega)]
    exact h5 j hj
theorem tb_lay_e {s e : Nat} (hw : tr_wf ar s e) (hN : e ≤ N) (ha : ∀ n, ar n ≤ 3) (hr : tr_pa N ar s = none) (H : tb_lay N ar s e 0 par0 cx0 se0 par cx se) :
    ∀ j, s ≤ j → j < e → par j = tb_P N ar j ∧ cx j = nI (tr_ci N ar j) ∧ se j = nI (tr_se N ar j) := by
  obtain ⟨h1, h2, h3, h4, h5⟩ := H
  intro j g1 g2
  refine ⟨?_, ?_, h1 j (by omega) g2⟩
  · rcases Nat.eq_or_lt_of_le g1 with e1 | e1
    · subst e1; rw [tb_P_none hr]; exact h3
    · obtain ⟨p', p1, p2, p3, p4, p5⟩ := tr_pa_ci hw hN ha e1 g2
      rw [tb_P_some p1]
      exact (h2 j p' e1 g2 p1 (by omega)).1
  · rcases Nat.eq_or_lt_of_le g1 with e1 | e1
    · subst e1
      have : tr_ci N ar s = 0 := by unfold tr_ci; rw [hr]
      rw [this]; exact h4
    · obtain ⟨p', p1, p2, p3, p4, p5⟩ := tr_pa_ci hw hN ha e1 g2
      exact (h2 j p' e1 g2 p1 (by omega)).2
/-- the four tables are right below lim -/
def tb_ok (N : Nat) (ar kd z : Nat → Nat) (par cx se sc : Nat → Int32) (lim : Nat) : Prop :=
  ∀ n, n < lim → par n = tb_P N ar n ∧ cx n = nI (tr_ci N ar n) ∧ se n = nI (tr_se N ar n) ∧ sc n = nI (sq_sc N ar kd z n)
theorem tb_anx {n p : Nat} (h : tr_pa N ar (n + 1) = some p) : tr_an N ar p n := by
  obtain ⟨h1, h2, _⟩ := tr_pa_some h
  exact ⟨by omega, by omega⟩
end
