section
variable {F N : Nat} {bs ar kd ag z : Nat → Nat} {pt : Nat → Nat → Nat}
theorem fx_sh_0 (o : Option (Nat × Int)) : fx_sh 0 o = o := by
  cases o with
  | none => rfl
  | some a => obtain ⟨j, k⟩ := a; simp [fx_sh]
theorem fx_sh_sh (a b : Int) (o : Option (Nat × Int)) : fx_sh a (fx_sh b o) = fx_sh (a + b) o := by
  cases o with
  | none => rfl
  | some c => obtain ⟨j, k⟩ := c; simp [fx_sh]; omega
/-- every SUCC and CONS has its children -/
def fx_cl (N : Nat) (ar kd : Nat → Nat) : Prop := ∀ d, d < N → (kd d = 2 → d + 1 < N) ∧ (kd d = 4 → tr_ch N ar d 1 < N)
theorem fx_e_u (hcl : fx_cl N ar kd) (g : Nat → Option (Nat × Int)) {c : Nat} (hc : c < N) : fx_e N ar kd ag g c =
    (if kd c = 0 then g (ag c) else if kd c = 2 then fx_sh (-1) (fx_e N ar kd ag g (c + 1)) else if kd c = 4 then fx_sh (-1) (fx_e N ar kd ag g (tr_ch N ar c 1)) else none) := by
  conv => lhs; unfold fx_e
  rw [show N - c = (N - (c + 1)) + 1 by omega, fx_ex]
  split
  · rfl
  · split
    · rfl
    · split
      · rename_i k4
        have h1 := (hcl c hc).2 k4
        have h2 := tr_ch_ge (N := N) (ar := ar) c 1
        rw [fx_ex_t g (N - (c + 1)) (N - tr_ch N ar c 1) (tr_ch N ar c 1) (by omega) (Nat.le_refl _) h1 (fun d _ d2 => hcl d d2)]
        rfl
      · rfl
theorem fx_l_an : ∀ (n a x : Nat), n < N → tr_an N ar a n → x < sq_sc N ar kd z a → fx_l N ar kd ag z n x = fx_l N ar kd ag z a x := by
  intro n
  induction n using Nat.strongRecOn with
  | _ n ih =>
    intro a x hn h hx
    cases hp : tr_pa N ar n with
    | none => rw [(tr_an_root hn hp).mp h]
    | some p =>
      rcases (tr_an_pa hn hp).mp h with e | e
      · rw [e]
      · have h1 := (tr_pa_some hp).1
        have h2 := sq_an (kd := kd) (z := z) p a (by omega) e
        rw [← ih p h1 a x (by omega) e hx]
        by_cases hc : sq_cv N ar kd p n = 0
        · rw [fx_l_0 hp hc]
        · rw [fx_l_s hp hc, if_neg (by omega), if_neg (by omega)]
theorem fx_b_an : ∀ (n a x : Nat), n < N → tr_an N ar a n → x < sq_sc N ar kd z a → fx_b N ar kd z n x = fx_b N ar kd z a x := by
  intro n
  induction n using Nat.strongRecOn with
  | _ n ih =>
    intro a x hn h hx
    cases hp : tr_pa N ar n with
    | none => rw [(tr_an_root hn hp).mp h]
    | some p =>
      rcases (tr_an_pa hn hp).mp h with e | e
      · rw [e]
      · have h1 := (tr_pa_some hp).1
        have h2 := sq_an (kd := kd) (z := z) p a (by omega) e
        rw [← ih p h1 a x (by omega) e hx]
        by_cases hc : sq_cv N ar kd p n = 0
        · rw [fx_b_0 hp hc]
        · rw [fx_b_s hp hc, if_neg (by omega), if_neg (by omega)]
/-- a level's type by its binder -/
theorem ty_bind (h : pg_wf F N bs ar) : ∀ (n x : Nat), n < N → x < sq_sc N ar kd z n →
    (x < z (bs (pg_fn F bs n)) → ty_ty N ar kd z pt n x = pt (bs (pg_fn F bs n)) x) ∧
    (z (bs (pg_fn F bs n)) ≤ x → ∃ k, fx_b N ar kd z n x = some k ∧ k / 4 < n ∧ ty_ty N ar kd z pt n x = (if k % 4 = 2 then 1 else 0)) := by
  intro n
  induction n using Nat.strongRecOn with
  | _ n ih =>
    intro x hn hx
    rcases pg_case h hn with ⟨h1, h2, h3⟩ | ⟨p, h1, h2, h3, h4, h5, h6⟩
    · rw [sq_none h1] at hx
      rw [← h2]
      exact ⟨fun z1 => by rw [ty_none h1], fun z1 => by omega⟩
    · have hs := sq_some (kd := kd) (z := z) h1
      have hzp : z (bs (pg_fn F bs p)) ≤ sq_sc N ar kd z p := by
        have hb := pg_body h (j := p) (by omega)
        have hr := pg_root h hb.1
        have ha : tr_an N ar (bs (pg_fn F bs p)) p := ⟨hb.2.1, by rw [tr_wf_se (h.2.2.2.2 _ hb.1) hb.2.2.2]; exact hb.2.2.1⟩
        have := sq_an (kd := kd) (z := z) p _ (by omega) ha
        rw [sq_none hr] at this; exact this
      rw [h3] at hzp
      rcases Nat.lt_or_ge x (sq_sc N ar kd z p) with hxp | hxp
      · have hi := ih p h2 x (by omega) hxp
        rw [h3] at hi
        have eb : fx_b N ar kd z n x = fx_b N ar kd z p x := by
          by_cases hc : sq_cv N ar kd p n = 0
          · rw [fx_b_0 h1 hc]
          · rw [fx_b_s h1 hc, if_neg (by omega), if_neg (by omega)]
        rw [ty_pa h1 hxp, eb]
        refine ⟨hi.1, fun z1 => ?_⟩
        obtain ⟨k, k1, k2, k3⟩ := hi.2 z1
        exact ⟨k, k1, by omega, k3⟩
      · refine ⟨fun z1 => by omega, fun _ => ?_⟩
        have hc : sq_cv N ar kd p n ≠ 0 := by omega
        have hc2 := sq_cv_le (N := N) (ar := ar) (kd := kd) p n
        rw [fx_b_s h1 hc, ty_some h1, if_neg hc]
        rcases (show x = sq_sc N ar kd z p ∨ x = sq_sc N ar kd z p + 1 by omega) with ex | ex
        · rw [if_pos ex]
          show ∃ k, _ ∧ _ ∧ (if x = sq_sc N ar kd z p then 0 else if x = sq_sc N ar kd z p + 1 then 1 else ty_ty N ar kd z pt p x) = _
          rw [if_pos ex]
          by_cases k2 : sq_cv N ar kd p n = 1
          · exact ⟨p * 4, by rw [if_pos k2], by omega, by rw [if_neg (by omega)]⟩
          · exact ⟨p * 4 + 1, by rw [if_neg k2], by omega, by rw [if_neg (by omega)]⟩
        · rw [if_neg (by omega), if_pos ⟨ex, by omega⟩]
          show ∃ k, _ ∧ _ ∧ (if x = sq_sc N ar kd z p then 0 else if x = sq_sc N ar kd z p + 1 then 1 else ty_ty N ar kd z pt p x) = _
          rw [if_neg (by omega), if_pos ex]
          exact ⟨p * 4 + 2, rfl, by omega, by rw [if_pos (by omega)]⟩
-- the way of the reference's search for a fact
def fx_I (N : Nat) (ar kd z : Nat → Nat) (s c : Nat) : Prop := s ≤ c ∧ c < tr_se N ar s ∧ c < N ∧ sq_sc N ar kd z c = sq_sc N ar kd z s
def fx_mu (N : Nat) (ar : Nat → Nat) (s c : Nat) : Nat := s + (tr_se N ar s - c)
theorem fx_I0 {c : Nat} (h : c < N) : fx_I N ar kd z c c := ⟨Nat.le_refl c, tr_se_gt h, h, rfl⟩
theorem fx_in (h : pg_wf F N bs ar) {s c i : Nat} (H : fx_I N ar kd z s c) (hk : kd c ≠ 6 ∧ kd c ≠ 7) (hi : i < ar c) :
    fx_I N ar kd z s (tr_ch N ar c i) ∧ fx_mu N ar s (tr_ch N ar c i) < fx_mu N ar s c ∧ fx_l N ar kd ag z (tr_ch N ar c i) = fx_l N ar kd ag z c ∧ pg_fn F bs (tr_ch N ar c i) = pg_fn F bs c := by
  obtain ⟨i1, i2, i3, i4⟩ := H
  obtain ⟨a1, a2, a3, a4, a5, a6, a7⟩ := pg_ch h i3 hi
  have cv : sq_cv N ar kd c (tr_ch N ar c i) = 0 := sq_cv0 (Or.inr hk)
  have hse := tr_in_se (N := N) (ar := ar) i1 i2
  refine ⟨⟨by omega, by omega, a1, ?_⟩, ?_, fx_l_0 a3 cv, a7⟩
  · rw [sq_some a3, cv]; exact i4
  · unfold fx_mu; omega
theorem fx_hop (h : pg_wf F N bs ar) (hk3 : ∀ n, n < N → kd n = 6 ∨ kd n = 7 → ar n = 3) {s c x : Nat} (H : fx_I N ar kd z s c) (hx : x < sq_sc N ar kd z c) (hz : z (bs (pg_fn F bs c)) ≤ x) :
    ∃ b, b + 1 < N ∧ b < s ∧ pg_fn F bs (b + 1) = pg_fn F bs c ∧ fx_I N ar kd z (b + 1) (b + 1) ∧ fx_mu N ar (b + 1) (b + 1) < fx_mu N ar s c ∧ fx_l N ar kd ag z (b + 1) = fx_l N ar kd ag z b ∧
      ((fx_b N ar kd z c x = some (b * 4) ∧ fx_l N ar kd ag z c x = fx_sh 1 (fx_e N ar kd ag (fx_l N ar kd ag z b) (b + 1))) ∨
       (fx_b N ar kd z c x = some (b * 4 + 1) ∧ fx_l N ar kd ag z c x = none) ∨
       (fx_b N ar kd z c x = some (b * 4 + 2) ∧ fx_l N ar kd ag z c x = fx_sh 1 (fx_e N ar kd ag (fx_l N ar kd ag z b) (b + 1)))) := by
  obtain ⟨i1, i2, i3, i4⟩ := H
  have hs : s < N := by omega
  have hfn : pg_fn F bs s = pg_fn F bs c := by
    obtain ⟨f1, f2, f3, f4⟩ := pg_body h hs
    have a2 := tr_wf_in (N := N) (h.2.2.2.2 _ f1) f4 f2 f3
    exact (pg_fn_is h f1 (by omega) (by omega)).symm
  have han : tr_an N ar s c := ⟨i1, i2⟩
  rw [fx_l_an c s x i3 han (by omega), fx_b_an c s x i3 han (by omega)]
  obtain ⟨b, q, b1, b2, b3, b4⟩ := (fx_bind (kd := kd) (z := z) (ag := ag) h s x hs (by omega)).2 (by rw [hfn]; exact hz)
  have hq : q < N := by have := b3.1; omega
  have hb := tr_pa_some b1
  have kb : kd b = 6 ∨ kd b = 7 := by
    rcases b4 with ⟨k, _⟩ | ⟨k, _⟩ | ⟨k, _⟩
    · exact Or.inl k
    · exact Or.inr k
    · exact Or.inr k
  have h3 := hk3 b (by omega) kb
  obtain ⟨a1, a2, a3, a4, a5, a6, a7⟩ := pg_ch h (n := b) (c := 0) (by omega) (by omega)
  rw [tr_ch_0] at a1 a2 a3 a4 a5 a6 a7
  have cq : tr_ch N ar b 1 ≤ q := by
    rcases pg_case h hq with ⟨g1, _⟩ | ⟨p', g1, g2, g3, g4, g5, g6⟩
    · rw [b1] at g1; cases g1
    · rw [b1] at g1
      cases g1
      rw [g5, ← g6, b2]
      exact tr_ch_le _ _ _ (by omega)
  have e1 : tr_se N ar (b + 1) = tr_ch N ar b 1 := by rw [show (1 : Nat) = 0 + 1 from rfl, tr_ch_s, tr_ch_0]
  have hbs : pg_fn F bs b = pg_fn F bs s := by
    obtain ⟨f1, f2, f3, f4⟩ := pg_body h (j := b) (by omega)
    have w2 := tr_wf_in (N := N) (h.2.2.2.2 _ f1) f4 f2 f3
    have q2 := tr_in_se (N := N) (ar := ar) (Nat.le_of_lt hb.1) hb.2.1
    have := b3.2
    have := b3.1
    exact (pg_fn_is h f1 (by omega) (by omega)).symm
  refine ⟨b, a1, by have := b3.1; omega, by rw [a7, hbs, hfn], fx_I0 a1, ?_, fx_l_0 a3 (sq_cv0 (Or.inl (by omega))), ?_⟩
  · unfold fx_mu
    have := b3.1
    have g := tr_se_gt (N := N) (ar := ar) a1
    rw [e1] at g ⊢
    omega
  · rcases b4 with ⟨k, k2⟩ | ⟨k, k2⟩ | ⟨k, k2⟩
    · exact Or.inl k2
    · exact Or.inr (Or.inl k2)
    · exact Or.inr (Or.inr k2)
-- how the two words hold a fact
def fx_rs (o : Option (Nat × Int)) (a b : Int32) : Prop := (o = none → a = -1) ∧ ∀ j k, o = some (j, k) → a = nI j ∧ b = Int32.ofInt k
theorem fx_rs_none (b : Int32) : fx_rs none (-1) b := ⟨fun _ => rfl, fun j k h => by cases h⟩
theorem fx_rs_sh {o : Option (Nat × Int)} {a b : Int32} (h : fx_rs o a b) (d : Int) : fx_rs (fx_sh d o) a (b + Int32.ofInt d) := by
  cases o with
  | none => exact ⟨fun _ => h.1 rfl, fun j k e => by cases e⟩
  | some c =>
    obtain ⟨j0, k0⟩ := c
    refine ⟨fun e => (by cases e), fun j k e => ?_⟩
    have h2 := h.2 j0 k0 rfl
    cases e
    exact ⟨h2.1, by rw [h2.2, Int32.ofInt_add]⟩
end
