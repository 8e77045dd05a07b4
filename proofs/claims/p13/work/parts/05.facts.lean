section
def fx_sh (d : Int) (o : Option (Nat × Int)) : Option (Nat × Int) := match o with
  | none => none
  | some (j, k) => some (j, k + d)
/-- the fact of the expression at c, by the facts g of the levels -/
def fx_ex (N : Nat) (ar kd ag : Nat → Nat) (g : Nat → Option (Nat × Int)) : Nat → Nat → Option (Nat × Int)
  | 0, _ => none
  | t + 1, c => if kd c = 0 then g (ag c) else if kd c = 2 then fx_sh (-1) (fx_ex N ar kd ag g t (c + 1)) else if kd c = 4 then fx_sh (-1) (fx_ex N ar kd ag g t (tr_ch N ar c 1)) else none
def fx_e (N : Nat) (ar kd ag : Nat → Nat) (g : Nat → Option (Nat × Int)) (c : Nat) : Option (Nat × Int) := fx_ex N ar kd ag g (N - c) c
/-- the facts of the levels at a node -/
def fx_l (N : Nat) (ar kd ag z : Nat → Nat) (j : Nat) : Nat → Option (Nat × Int) :=
  tr_fold N ar (fun j x => if x < z j then some (x, (0 : Int)) else none)
    (fun p j g => if sq_cv N ar kd p j = 0 then g else fun x =>
      if x = sq_sc N ar kd z p then (if sq_cv N ar kd p j = 1 then fx_sh 1 (fx_e N ar kd ag g (p + 1)) else none)
      else if x = sq_sc N ar kd z p + 1 then fx_sh 1 (fx_e N ar kd ag g (p + 1)) else g x) j
/-- the binder of a level: 4 * its node + which of its variables -/
def fx_b (N : Nat) (ar kd z : Nat → Nat) (j : Nat) : Nat → Option Nat :=
  tr_fold N ar (fun _ _ => none)
    (fun p j g => if sq_cv N ar kd p j = 0 then g else fun x =>
      if x = sq_sc N ar kd z p then (if sq_cv N ar kd p j = 1 then some (p * 4) else some (p * 4 + 1))
      else if x = sq_sc N ar kd z p + 1 ∧ sq_cv N ar kd p j = 2 then some (p * 4 + 2) else g x) j
variable {F N : Nat} {bs ar kd ag z : Nat → Nat}
theorem fx_ex_t (g : Nat → Option (Nat × Int)) : ∀ (t s c : Nat), N - c ≤ t → N - c ≤ s → c < N → (∀ d, c ≤ d → d < N → (kd d = 2 → d + 1 < N) ∧ (kd d = 4 → tr_ch N ar d 1 < N)) → fx_ex N ar kd ag g t c = fx_ex N ar kd ag g s c := by
  intro t
  induction t with
  | zero => intro s c h1 _ h3 _; omega
  | succ t ih =>
    intro s c h1 h2 h3 h4
    cases s with
    | zero => omega
    | succ s =>
      rw [fx_ex, fx_ex]
      have g1 := tr_ch_ge (N := N) (ar := ar) c 1
      split
      · rfl
      · split
        · rename_i k
          have := (h4 c (Nat.le_refl c) h3).1 k
          rw [ih s (c + 1) (by omega) (by omega) this (fun d d1 d2 => h4 d (by omega) d2)]
        · split
          · rename_i k
            have := (h4 c (Nat.le_refl c) h3).2 k
            rw [ih s (tr_ch N ar c 1) (by omega) (by omega) this (fun d d1 d2 => h4 d (by omega) d2)]
          · rfl
theorem fx_l_none {j : Nat} (h : tr_pa N ar j = none) (x : Nat) : fx_l N ar kd ag z j x = if x < z j then some (x, (0 : Int)) else none := by
  unfold fx_l; rw [tr_fold_none h]
theorem fx_l_0 {j p : Nat} (h : tr_pa N ar j = some p) (hc : sq_cv N ar kd p j = 0) : fx_l N ar kd ag z j = fx_l N ar kd ag z p := by
  unfold fx_l; rw [tr_fold_some h]; simp only [hc, if_true]
theorem fx_b_0 {j p : Nat} (h : tr_pa N ar j = some p) (hc : sq_cv N ar kd p j = 0) : fx_b N ar kd z j = fx_b N ar kd z p := by
  unfold fx_b; rw [tr_fold_some h]; simp only [hc, if_true]
theorem fx_l_s {j p : Nat} (h : tr_pa N ar j = some p) (hc : sq_cv N ar kd p j ≠ 0) (x : Nat) : fx_l N ar kd ag z j x =
    (if x = sq_sc N ar kd z p then (if sq_cv N ar kd p j = 1 then fx_sh 1 (fx_e N ar kd ag (fx_l N ar kd ag z p) (p + 1)) else none)
      else if x = sq_sc N ar kd z p + 1 then fx_sh 1 (fx_e N ar kd ag (fx_l N ar kd ag z p) (p + 1)) else fx_l N ar kd ag z p x) := by
  conv => lhs; unfold fx_l
  rw [tr_fold_some h]; simp only [hc, if_false]; rfl
theorem fx_b_s {j p : Nat} (h : tr_pa N ar j = some p) (hc : sq_cv N ar kd p j ≠ 0) (x : Nat) : fx_b N ar kd z j x =
    (if x = sq_sc N ar kd z p then (if sq_cv N ar kd p j = 1 then some (p * 4) else some (p * 4 + 1))
      else if x = sq_sc N ar kd z p + 1 ∧ sq_cv N ar kd p j = 2 then some (p * 4 + 2) else fx_b N ar kd z p x) := by
  conv => lhs; unfold fx_b
  rw [tr_fold_some h]; simp only [hc, if_false]; rfl
/-- what a level's binder says of its fact -/
theorem fx_bind (h : pg_wf F N bs ar) : ∀ (n x : Nat), n < N → x < sq_sc N ar kd z n →
    (x < z (bs (pg_fn F bs n)) → fx_l N ar kd ag z n x = some (x, 0) ∧ fx_b N ar kd z n x = none) ∧
    (z (bs (pg_fn F bs n)) ≤ x → ∃ b q, tr_pa N ar q = some b ∧ tr_cx N ar b q = 2 ∧ tr_an N ar q n ∧
      ((kd b = 6 ∧ fx_b N ar kd z n x = some (b * 4) ∧ fx_l N ar kd ag z n x = fx_sh 1 (fx_e N ar kd ag (fx_l N ar kd ag z b) (b + 1))) ∨
       (kd b = 7 ∧ fx_b N ar kd z n x = some (b * 4 + 1) ∧ fx_l N ar kd ag z n x = none) ∨
       (kd b = 7 ∧ fx_b N ar kd z n x = some (b * 4 + 2) ∧ fx_l N ar kd ag z n x = fx_sh 1 (fx_e N ar kd ag (fx_l N ar kd ag z b) (b + 1))))) := by
  intro n
  induction n using Nat.strongRecOn with
  | _ n ih =>
    intro x hn hx
    rcases pg_case h hn with ⟨h1, h2, h3⟩ | ⟨p, h1, h2, h3, h4, h5, h6⟩
    · rw [sq_none h1, h2] at hx
      rw [← h2] at hx
      refine ⟨fun z1 => ⟨?_, ?_⟩, fun z1 => ?_⟩
      · rw [fx_l_none h1, if_pos (by rw [← h2] at z1; exact z1)]
      · unfold fx_b; rw [tr_fold_none h1]
      · rw [← h2] at z1; omega
    · have hs := sq_some (kd := kd) (z := z) h1
      have hzp : z (bs (pg_fn F bs p)) ≤ sq_sc N ar kd z p := by
        have hb := pg_body h (j := p) (by omega)
        have hr := pg_root h hb.1
        have ha : tr_an N ar (bs (pg_fn F bs p)) p := ⟨hb.2.1, by rw [tr_wf_se (h.2.2.2.2 _ hb.1) hb.2.2.2]; exact hb.2.2.1⟩
        have := sq_an (kd := kd) (z := z) p _ (by omega) ha
        rw [sq_none hr] at this; exact this
      rcases Nat.lt_or_ge x (sq_sc N ar kd z p) with hxp | hxp
      · have hi := ih p h2 x (by omega) hxp
        rw [h3] at hi
        have el : fx_l N ar kd ag z n x = fx_l N ar kd ag z p x := by
          by_cases hc : sq_cv N ar kd p n = 0
          · rw [fx_l_0 h1 hc]
          · rw [fx_l_s h1 hc, if_neg (by omega), if_neg (by omega)]
        have eb : fx_b N ar kd z n x = fx_b N ar kd z p x := by
          by_cases hc : sq_cv N ar kd p n = 0
          · rw [fx_b_0 h1 hc]
          · rw [fx_b_s h1 hc, if_neg (by omega), if_neg (by omega)]
        rw [el, eb]
        refine ⟨hi.1, fun z1 => ?_⟩
        obtain ⟨b, q, b1, b2, b3, b4⟩ := hi.2 z1
        exact ⟨b, q, b1, b2, (tr_an_pa hn h1).mpr (Or.inr b3), b4⟩
      · rw [h3] at hzp
        refine ⟨fun z1 => by omega, fun _ => ?_⟩
        have hc : sq_cv N ar kd p n ≠ 0 := by omega
        rw [fx_l_s h1 hc, fx_b_s h1 hc]
        refine ⟨p, n, h1, ?_, tr_an_self hn, ?_⟩
        · unfold sq_cv at hc
          split at hc
          · assumption
          · exact absurd rfl hc
        · have hk : (kd p = 6 ∧ sq_cv N ar kd p n = 1) ∨ (kd p = 7 ∧ sq_cv N ar kd p n = 2) := by
            unfold sq_cv at hc ⊢
            split at hc
            · rename_i e; rw [if_pos e]
              split at hc
              · rename_i e2; exact Or.inl ⟨e2, by rw [if_pos e2]⟩
              · rename_i e2
                split at hc
                · rename_i e3; exact Or.inr ⟨e3, by rw [if_neg e2, if_pos e3]⟩
                · exact absurd rfl hc
            · exact absurd rfl hc
          rcases hk with ⟨k1, k2⟩ | ⟨k1, k2⟩
          · have ex : x = sq_sc N ar kd z p := by omega
            rw [if_pos ex, if_pos ex, if_pos k2, if_pos k2]
            exact Or.inl ⟨k1, rfl, rfl⟩
          · rcases (show x = sq_sc N ar kd z p ∨ x = sq_sc N ar kd z p + 1 by omega) with ex | ex
            · rw [if_pos ex, if_pos ex, if_neg (by omega), if_neg (by omega)]
              exact Or.inr (Or.inl ⟨k1, rfl, rfl⟩)
            · have hne : ¬ x = sq_sc N ar kd z p := by omega
              have h12 : x = sq_sc N ar kd z p + 1 ∧ sq_cv N ar kd p n = 2 := ⟨ex, k2⟩
              simp only [if_neg hne, if_pos ex, if_pos h12]
              exact Or.inr (Or.inr ⟨k1, by trivial, by trivial⟩)
end
