section
def mc_td (N : Nat) (ar : Nat → Nat) (j : Nat) : Nat := tr_fold N ar (fun _ => 0) (fun _ _ s => s + 1) j
def mc_pw (N : Nat) (ar kd : Nat → Nat) (p j : Nat) : Nat := if kd p = 4 ∨ kd p = 5 then tr_cx N ar p j else 0
def mc_pn (N : Nat) (ar kd : Nat → Nat) (j : Nat) : Nat := tr_fold N ar (fun _ => 0) (fun p j s => s + mc_pw N ar kd p j) j
variable {F N M : Nat} {bs ar kd z : Nat → Nat} {pt : Nat → Nat → Nat} {et : Nat → Nat}
theorem mc_td_none {j : Nat} (h : tr_pa N ar j = none) : mc_td N ar j = 0 := tr_fold_none h
theorem mc_td_some {j p : Nat} (h : tr_pa N ar j = some p) : mc_td N ar j = mc_td N ar p + 1 := tr_fold_some h
theorem mc_pn_none {j : Nat} (h : tr_pa N ar j = none) : mc_pn N ar kd j = 0 := tr_fold_none h
theorem mc_pn_some {j p : Nat} (h : tr_pa N ar j = some p) : mc_pn N ar kd j = mc_pn N ar kd p + mc_pw N ar kd p j := tr_fold_some h
/-- the stacks stay small: a node on the path or a value in hand has a node of its own -/
theorem mc_fit (h : pg_wf F N bs ar) : ∀ n, n < N → mc_td N ar n + mc_pn N ar kd n ≤ n - bs (pg_fn F bs n) := by
  intro n
  induction n using Nat.strongRecOn with
  | _ n ih =>
    intro hn
    rcases pg_case h hn with ⟨h1, h2, h3⟩ | ⟨p, h1, h2, h3, h4, h5, h6⟩
    · rw [mc_td_none h1, mc_pn_none h1]; omega
    · have hi := ih p h2 (by omega)
      have hb := pg_body h (j := p) (by omega)
      rw [h3] at hi hb
      rw [mc_td_some h1, mc_pn_some h1]
      have hc : ∀ c, c < ar p → p + 1 + c ≤ tr_ch N ar p c := by
        intro c
        induction c with
        | zero => intro _; rw [tr_ch_0]; omega
        | succ c ihc =>
          intro hc
          have a1 := pg_ch h (n := p) (c := c) (by omega) (by omega)
          have a2 := tr_se_gt (N := N) (ar := ar) a1.1
          have a3 := ihc (by omega)
          rw [tr_ch_s]; omega
      have h7 := hc _ h4
      rw [← h5] at h7
      unfold mc_pw
      rw [h6]
      split <;> omega
theorem mc_td_an : ∀ (n a : Nat), n < N → tr_an N ar a n → mc_td N ar a ≤ mc_td N ar n := by
  intro n
  induction n using Nat.strongRecOn with
  | _ n ih =>
    intro a hn h
    cases hp : tr_pa N ar n with
    | none => rw [(tr_an_root hn hp).mp h]; exact Nat.le_refl _
    | some p =>
      rcases (tr_an_pa hn hp).mp h with e | e
      · rw [e]; exact Nat.le_refl _
      · have h1 := (tr_pa_some hp).1
        have := ih p h1 a (by omega) e
        rw [mc_td_some hp]; omega
theorem mc_pn_an : ∀ (n a : Nat), n < N → tr_an N ar a n → mc_pn N ar kd a ≤ mc_pn N ar kd n := by
  intro n
  induction n using Nat.strongRecOn with
  | _ n ih =>
    intro a hn h
    cases hp : tr_pa N ar n with
    | none => rw [(tr_an_root hn hp).mp h]; exact Nat.le_refl _
    | some p =>
      rcases (tr_an_pa hn hp).mp h with e | e
      · rw [e]; exact Nat.le_refl _
      · have h1 := (tr_pa_some hp).1
        have := ih p h1 a (by omega) e
        rw [mc_pn_some hp]; omega
/-- one activation at its node n: the reference's stacks (from wb, vb, eb on) against the cells of the class (lb, nb), and the types of what they hold -/
def mc_path (N M : Nat) (ar kd z : Nat → Nat) (pt : Nat → Nat → Nat) (et : Nat → Nat) (wN wS : Nat → Int32) (vals env lv nv : Nat → Int64) (wb vb eb lb nb n : Nat) : Prop :=
  (∀ a p, tr_an N ar a n → tr_pa N ar a = some p → wN (wb + mc_td N ar p) = nI p ∧ wS (wb + mc_td N ar p) = nI (tr_ci N ar a + 1)) ∧
  (∀ a p c, tr_an N ar a n → tr_pa N ar a = some p → (kd p = 4 ∨ kd p = 5) → c < tr_ci N ar a →
    vals (vb + mc_pn N ar kd p + c) = nv (nb + tr_ch N ar p c) ∧ vl_V M (et (tr_ch N ar p c)) (nv (nb + tr_ch N ar p c))) ∧
  (∀ x, x < sq_sc N ar kd z n → env (eb + x) = lv (lb + x) ∧ vl_V M (ty_ty N ar kd z pt n x) (lv (lb + x)))
variable {wN wS wN' wS' : Nat → Int32} {vals env lv nv vals' env' lv' nv' : Nat → Int64} {wb vb eb lb nb : Nat}
theorem mc_up {q p : Nat} (hq : q < N) (h : tr_pa N ar q = some p) (H : mc_path N M ar kd z pt et wN wS vals env lv nv wb vb eb lb nb q) : mc_path N M ar kd z pt et wN wS vals env lv nv wb vb eb lb nb p := by
  obtain ⟨h1, h2, h3⟩ := H
  refine ⟨fun a b ha hb => h1 a b ((tr_an_pa hq h).mpr (Or.inr ha)) hb, fun a b c ha hb => h2 a b c ((tr_an_pa hq h).mpr (Or.inr ha)) hb, fun x hx => ?_⟩
  have := h3 x (by rw [sq_some h]; omega)
  rw [ty_pa h hx] at this
  exact this
theorem mc_ci_pw (h : pg_wf F N bs ar) {a p : Nat} (ha : a < N) (hp : tr_pa N ar a = some p) (hk : kd p = 4 ∨ kd p = 5) : mc_pn N ar kd a = mc_pn N ar kd p + tr_ci N ar a := by
  rw [mc_pn_some hp]
  unfold mc_pw tr_ci
  rw [if_pos hk, hp]
/-- what lies elsewhere may change -/
theorem mc_frame (h : pg_wf F N bs ar) {n : Nat} (hn : n < N) (H : mc_path N M ar kd z pt et wN wS vals env lv nv wb vb eb lb nb n)
    (e1 : ∀ t, t < mc_td N ar n → wN' (wb + t) = wN (wb + t) ∧ wS' (wb + t) = wS (wb + t))
    (e2 : ∀ t, t < mc_pn N ar kd n → vals' (vb + t) = vals (vb + t))
    (e3 : ∀ x, x < sq_sc N ar kd z n → env' (eb + x) = env (eb + x) ∧ lv' (lb + x) = lv (lb + x))
    (e4 : ∀ m, m < n → nv' (nb + m) = nv (nb + m)) : mc_path N M ar kd z pt et wN' wS' vals' env' lv' nv' wb vb eb lb nb n := by
  obtain ⟨h1, h2, h3⟩ := H
  refine ⟨fun a p ha hp => ?_, fun a p c ha hp hk hc => ?_, fun x hx => ?_⟩
  · have g := mc_td_an n a hn ha
    rw [mc_td_some hp] at g
    have := e1 (mc_td N ar p) (by omega)
    rw [this.1, this.2]
    exact h1 a p ha hp
  · have haN : a < N := Nat.lt_of_le_of_lt ha.1 hn
    have g := mc_pn_an (kd := kd) n a hn ha
    rw [mc_ci_pw h haN hp hk] at g
    have hi := h2 a p c ha hp hk hc
    have hpa := (tr_pa_some hp).1
    have hcs : tr_ch N ar p c < a := by
      rcases pg_case h haN with ⟨g1, _⟩ | ⟨p', g1, g2, g3, g4, g5, g6⟩
      · rw [hp] at g1; cases g1
      · rw [hp] at g1
        cases g1
        have a1 := pg_ch h (n := p) (c := c) (by omega) (by omega)
        have a2 := tr_se_gt (N := N) (ar := ar) a1.1
        rw [← tr_ch_s] at a2
        have a3 := tr_ch_le (N := N) (ar := ar) p (c + 1) (tr_ci N ar a) (by omega)
        omega
    have e5 := e4 (tr_ch N ar p c) (by have := ha.1; omega)
    have e6 := e2 (mc_pn N ar kd p + c) (by omega)
    rw [← Nat.add_assoc] at e6
    rw [e5, e6]; exact hi
  · have := e3 x hx
    rw [this.1, this.2]; exact h3 x hx
/-- into a child -/
theorem mc_down (h : pg_wf F N bs ar) {q p : Nat} (hq : q < N) (hp : tr_pa N ar q = some p) (H : mc_path N M ar kd z pt et wN wS vals env lv nv wb vb eb lb nb p)
    (hw : wN (wb + mc_td N ar p) = nI p ∧ wS (wb + mc_td N ar p) = nI (tr_ci N ar q + 1))
    (hv : (kd p = 4 ∨ kd p = 5) → ∀ c, c < tr_ci N ar q → vals (vb + mc_pn N ar kd p + c) = nv (nb + tr_ch N ar p c) ∧ vl_V M (et (tr_ch N ar p c)) (nv (nb + tr_ch N ar p c)))
    (he : ∀ x, sq_sc N ar kd z p ≤ x → x < sq_sc N ar kd z q → env (eb + x) = lv (lb + x) ∧ vl_V M (ty_ty N ar kd z pt q x) (lv (lb + x))) :
    mc_path N M ar kd z pt et wN wS vals env lv nv wb vb eb lb nb q := by
  obtain ⟨h1, h2, h3⟩ := H
  refine ⟨fun a b ha hb => ?_, fun a b c ha hb hk hc => ?_, fun x hx => ?_⟩
  · rcases (tr_an_pa hq hp).mp ha with e | e
    · subst e; rw [hp] at hb; cases hb; exact hw
    · exact h1 a b e hb
  · rcases (tr_an_pa hq hp).mp ha with e | e
    · subst e; rw [hp] at hb; cases hb; exact hv hk c hc
    · exact h2 a b c e hb hk hc
  · rcases Nat.lt_or_ge x (sq_sc N ar kd z p) with e | e
    · rw [ty_pa hp e]; exact h3 x e
    · exact he x e hx
/-- at a root -/
theorem mc_root {r : Nat} (hr : r < N) (hp : tr_pa N ar r = none)
    (he : ∀ x, x < z r → env (eb + x) = lv (lb + x) ∧ vl_V M (pt r x) (lv (lb + x))) :
    mc_path N M ar kd z pt et wN wS vals env lv nv wb vb eb lb nb r := by
  refine ⟨fun a b ha hb => ?_, fun a b c ha hb => ?_, fun x hx => ?_⟩
  · rw [(tr_an_root hr hp).mp ha, hp] at hb; cases hb
  · rw [(tr_an_root hr hp).mp ha, hp] at hb; cases hb
  · rw [sq_none hp] at hx
    rw [ty_none hp]; exact he x hx
end
