section
-- the program: F functions, N nodes, starts bs, arities ar
def pg_be (F N : Nat) (bs : Nat → Nat) (f : Nat) : Nat := if f + 1 < F then bs (f + 1) else N
def pg_wf (F N : Nat) (bs ar : Nat → Nat) : Prop :=
  0 < F ∧ N ≤ 64 ∧ (∀ n, ar n ≤ 3) ∧ bs 0 = 0 ∧ ∀ f, f < F → tr_wf ar (bs f) (pg_be F N bs f)
def pg_fd (bs : Nat → Nat) (j : Nat) : Nat → Nat
  | 0 => 0
  | k + 1 => if bs k ≤ j then k else pg_fd bs j k
def pg_fn (F : Nat) (bs : Nat → Nat) (j : Nat) : Nat := pg_fd bs j F
variable {F N : Nat} {bs ar : Nat → Nat}
theorem pg_mono (h : pg_wf F N bs ar) : ∀ (g f : Nat), f < g → g < F → pg_be F N bs f ≤ bs g := by
  intro g
  induction g with
  | zero => intro f h1 _; omega
  | succ g ih =>
    intro f h1 h2
    rcases Nat.eq_or_lt_of_le (Nat.le_of_lt_succ h1) with e | e
    · subst e; unfold pg_be; rw [if_pos h2]; exact Nat.le_refl _
    · have h3 := ih f e (by omega)
      have h4 := (h.2.2.2.2 g (by omega)).1
      unfold pg_be at h4; rw [if_pos h2] at h4
      omega
theorem pg_lastN (h : pg_wf F N bs ar) {f : Nat} (hf : f < F) : pg_be F N bs f ≤ N := by
  have h1 := (h.2.2.2.2 (F - 1) (by omega)).1
  have e1 : pg_be F N bs (F - 1) = N := by unfold pg_be; rw [if_neg (by omega)]
  rcases Nat.lt_or_ge f (F - 1) with e | e
  · have := pg_mono h (F - 1) f e (by omega); omega
  · rw [show f = F - 1 by omega, e1]; exact Nat.le_refl _
theorem pg_fd_lt {j : Nat} : ∀ k, 0 < k → pg_fd bs j k < k
  | 0, h => by omega
  | k + 1, _ => by
    rw [pg_fd]
    split
    · omega
    · cases k with
      | zero => exact Nat.zero_lt_one
      | succ k => have := pg_fd_lt (j := j) (k + 1) (by omega); omega
theorem pg_fd_is {j f : Nat} (h1 : bs f ≤ j) : ∀ k, f < k → (∀ g, f < g → g < k → j < bs g) → pg_fd bs j k = f := by
  intro k
  induction k with
  | zero => intro h; omega
  | succ k ih =>
    intro h2 h3
    rw [pg_fd]
    rcases Nat.eq_or_lt_of_le (Nat.le_of_lt_succ h2) with e | e
    · subst e; rw [if_pos h1]
    · rw [if_neg (by have := h3 k e (by omega); omega)]
      exact ih e (fun g g1 g2 => h3 g g1 (by omega))
theorem pg_fn_is (h : pg_wf F N bs ar) {f j : Nat} (hf : f < F) (h1 : bs f ≤ j) (h2 : j < pg_be F N bs f) : pg_fn F bs j = f :=
  pg_fd_is h1 F hf (fun g g1 g2 => Nat.lt_of_lt_of_le h2 (pg_mono h g f g1 g2))
theorem pg_in (h : pg_wf F N bs ar) {j : Nat} (hj : j < N) : ∃ f, f < F ∧ bs f ≤ j ∧ j < pg_be F N bs f ∧ pg_fn F bs j = f := by
  have key : ∀ k, 0 < k → k ≤ F → ∃ f, f < k ∧ bs f ≤ j ∧ (f + 1 < k → j < bs (f + 1)) := by
    intro k
    induction k with
    | zero => intro h; omega
    | succ k ih =>
      intro _ hk
      cases k with
      | zero => exact ⟨0, by omega, by rw [h.2.2.2.1]; omega, fun z => by omega⟩
      | succ k =>
        rcases Nat.lt_or_ge j (bs (k + 1)) with e | e
        · obtain ⟨f, f1, f2, f3⟩ := ih (by omega) (by omega)
          refine ⟨f, by omega, f2, fun z => ?_⟩
          rcases Nat.lt_or_ge (f + 1) (k + 1) with e2 | e2
          · exact f3 e2
          · rw [show f + 1 = k + 1 by omega]; exact e
        · exact ⟨k + 1, by omega, e, fun z => by omega⟩
  obtain ⟨f, f1, f2, f3⟩ := key F h.1 (Nat.le_refl F)
  have f4 : j < pg_be F N bs f := by
    unfold pg_be
    split
    · rename_i z; exact f3 z
    · exact hj
  exact ⟨f, f1, f2, f4, pg_fn_is h f1 f2 f4⟩
theorem pg_root (h : pg_wf F N bs ar) {f : Nat} (hf : f < F) : tr_pa N ar (bs f) = none := by
  refine tr_pa_no fun i hi => ?_
  have hb := (h.2.2.2.2 f hf).1
  have hN := pg_lastN h hf
  obtain ⟨g, g1, g2, g3, _⟩ := pg_in h (j := i) (by omega)
  have g5 := tr_wf_in (N := N) (h.2.2.2.2 g g1) (pg_lastN h g1) g2 g3
  rcases Nat.lt_or_ge g f with e | e
  · have := pg_mono h f g e hf; omega
  · rcases Nat.eq_or_lt_of_le e with e | e
    · subst e; omega
    · have := pg_mono h g f e g1; omega
/-- a node is its function's root, or the child of a node of the same function -/
theorem pg_case (h : pg_wf F N bs ar) {j : Nat} (hj : j < N) :
    (tr_pa N ar j = none ∧ j = bs (pg_fn F bs j) ∧ pg_fn F bs j < F) ∨
    (∃ p, tr_pa N ar j = some p ∧ p < j ∧ pg_fn F bs p = pg_fn F bs j ∧ tr_ci N ar j < ar p ∧ j = tr_ch N ar p (tr_ci N ar j) ∧ tr_cx N ar p j = tr_ci N ar j) := by
  obtain ⟨f, f1, f2, f3, f4⟩ := pg_in h hj
  have hw := h.2.2.2.2 f f1
  have hN := pg_lastN h f1
  rcases Nat.eq_or_lt_of_le f2 with e | e
  · refine Or.inl ⟨?_, ?_, ?_⟩
    · rw [← e]; exact pg_root h f1
    · rw [f4, e]
    · rw [f4]; exact f1
  · obtain ⟨p, p1, p2, p3, p4, p5⟩ := tr_pa_ci hw hN h.2.2.1 e f3
    refine Or.inr ⟨p, p1, p3, ?_, p4, p5, ?_⟩
    · rw [f4]; exact pg_fn_is h f1 p2 (by omega)
    · unfold tr_ci; rw [p1]
theorem pg_body (h : pg_wf F N bs ar) {j : Nat} (hj : j < N) : pg_fn F bs j < F ∧ bs (pg_fn F bs j) ≤ j ∧ j < pg_be F N bs (pg_fn F bs j) ∧ pg_be F N bs (pg_fn F bs j) ≤ N := by
  obtain ⟨f, f1, f2, f3, f4⟩ := pg_in h hj
  rw [f4]; exact ⟨f1, f2, f3, pg_lastN h f1⟩
/-- the child c of a node -/
theorem pg_ch (h : pg_wf F N bs ar) {n c : Nat} (hn : n < N) (hc : c < ar n) :
    tr_ch N ar n c < N ∧ n < tr_ch N ar n c ∧ tr_pa N ar (tr_ch N ar n c) = some n ∧ tr_ci N ar (tr_ch N ar n c) = c ∧ tr_cx N ar n (tr_ch N ar n c) = c ∧ tr_ch N ar n c < tr_se N ar n ∧ pg_fn F bs (tr_ch N ar n c) = pg_fn F bs n := by
  obtain ⟨f1, f2, f3, f4⟩ := pg_body h hn
  have hw := h.2.2.2.2 _ f1
  have a1 := tr_wf_ch hw f4 f2 f3 hc
  have a2 := tr_wf_in hw f4 f2 f3
  have a3 := tr_ch_ge (N := N) (ar := ar) n c
  exact ⟨by omega, by omega, tr_pa_ch hw f4 f2 f3 hc, tr_ci_ch hw f4 f2 f3 hc (h.2.2.1 n), tr_cx_ch hw f4 f2 f3 hc (h.2.2.1 n), a1, pg_fn_is h f1 (by omega) (by omega)⟩
-- scopes
def sq_cv (N : Nat) (ar kd : Nat → Nat) (p j : Nat) : Nat :=
  if tr_cx N ar p j = 2 then (if kd p = 6 then 1 else if kd p = 7 then 2 else 0) else 0
def sq_sc (N : Nat) (ar kd z : Nat → Nat) (j : Nat) : Nat := tr_fold N ar z (fun p j s => s + sq_cv N ar kd p j) j
variable {kd z : Nat → Nat}
theorem sq_none {j : Nat} (h : tr_pa N ar j = none) : sq_sc N ar kd z j = z j := tr_fold_none h
theorem sq_some {j p : Nat} (h : tr_pa N ar j = some p) : sq_sc N ar kd z j = sq_sc N ar kd z p + sq_cv N ar kd p j := tr_fold_some h
theorem sq_cv_le (p j : Nat) : sq_cv N ar kd p j ≤ 2 := by
  unfold sq_cv
  split
  · split
    · omega
    · split <;> omega
  · omega
theorem sq_an : ∀ (n a : Nat), n < N → tr_an N ar a n → sq_sc N ar kd z a ≤ sq_sc N ar kd z n := by
  intro n
  induction n using Nat.strongRecOn with
  | _ n ih =>
    intro a hn h
    cases hp : tr_pa N ar n with
    | none => rw [(tr_an_root hn hp).mp h]; exact Nat.le_refl _
    | some p =>
      rcases (tr_an_pa hn hp).mp h with e | e
      · rw [e]; exact Nat.le_refl _
      · have h1 := (tr_pa_some hp).1
        have := ih p h1 a (by omega) e
        rw [sq_some hp]; omega
/-- the levels fit: three nodes for two levels -/
theorem sq_le (h : pg_wf F N bs ar) : ∀ (n : Nat), n < N → 3 * sq_sc N ar kd z n ≤ 3 * z (bs (pg_fn F bs n)) + 2 * (n - bs (pg_fn F bs n)) := by
  intro n
  induction n using Nat.strongRecOn with
  | _ n ih =>
    intro hn
    rcases pg_case h hn with ⟨h1, h2, h3⟩ | ⟨p, h1, h2, h3, h4, h5, h6⟩
    · rw [sq_none h1, ← h2]; omega
    · have hi := ih p h2 (by omega)
      have hb := pg_body h (j := p) (by omega)
      rw [sq_some h1]
      rw [h3] at hi hb
      unfold sq_cv
      rw [h6]
      split
      · rename_i e
        have a1 := pg_ch h (n := p) (c := 0) (by omega) (by omega)
        have a2 := pg_ch h (n := p) (c := 1) (by omega) (by omega)
        have e0 : tr_ch N ar p 1 = tr_se N ar (tr_ch N ar p 0) := tr_ch_s p 0
        have e1 : tr_ch N ar p 2 = tr_se N ar (tr_ch N ar p 1) := tr_ch_s p 1
        have g0 := tr_se_gt (N := N) (ar := ar) a1.1
        have g1 := tr_se_gt (N := N) (ar := ar) a2.1
        rw [e] at h5
        have : p + 3 ≤ n := by omega
        split
        · omega
        · split <;> omega
      · omega
-- types of levels
def ty_ty (N : Nat) (ar kd z : Nat → Nat) (pt : Nat → Nat → Nat) (j : Nat) : Nat → Nat :=
  tr_fold N ar pt (fun p j g => if sq_cv N ar kd p j = 0 then g else fun x => if x = sq_sc N ar kd z p then (0 : Nat) else if x = sq_sc N ar kd z p + 1 then 1 else g x) j
variable {pt : Nat → Nat → Nat}
theorem ty_none {j : Nat} (h : tr_pa N ar j = none) : ty_ty N ar kd z pt j = pt j := tr_fold_none h
theorem ty_some {j p : Nat} (h : tr_pa N ar j = some p) : ty_ty N ar kd z pt j = (if sq_cv N ar kd p j = 0 then ty_ty N ar kd z pt p else fun x => if x = sq_sc N ar kd z p then (0 : Nat) else if x = sq_sc N ar kd z p + 1 then 1 else ty_ty N ar kd z pt p x) := tr_fold_some h
theorem ty_pa {j p x : Nat} (h : tr_pa N ar j = some p) (hx : x < sq_sc N ar kd z p) : ty_ty N ar kd z pt j x = ty_ty N ar kd z pt p x := by
  rw [ty_some h]
  split
  · rfl
  · show (if x = _ then (0 : Nat) else if x = _ then 1 else _) = _
    rw [if_neg (by omega), if_neg (by omega)]
theorem ty_an : ∀ (n a x : Nat), n < N → tr_an N ar a n → x < sq_sc N ar kd z a → ty_ty N ar kd z pt n x = ty_ty N ar kd z pt a x := by
  intro n
  induction n using Nat.strongRecOn with
  | _ n ih =>
    intro a x hn h hx
    cases hp : tr_pa N ar n with
    | none => rw [(tr_an_root hn hp).mp h]
    | some p =>
      rcases (tr_an_pa hn hp).mp h with e | e
      · rw [e]
      · have h1 := (tr_pa_some hp).1
        have h2 := sq_an (kd := kd) (z := z) p a (by omega) e
        rw [ty_pa hp (by omega)]
        exact ih p h1 a x (by omega) e hx
end
