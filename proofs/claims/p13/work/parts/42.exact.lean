section
/-- the facts of the levels at n hold of the cells: ps j is the size of parameter j -/
def fa_L (N : Nat) (ar kd ag z : Nat → Nat) (pt : Nat → Nat → Nat) (ps : Nat → Nat) (lv : Nat → Int64) (lb n : Nat) : Prop :=
  ∀ x, x < sq_sc N ar kd z n → ∀ j k, fx_l N ar kd ag z n x = some (j, k) → (sz_sz (ty_ty N ar kd z pt n x) (lv (lb + x)) : Int) + k = ps j
/-- the facts of the arguments in hand hold -/
def fa_V (N : Nat) (ar kd ag z : Nat → Nat) (et : Nat → Nat) (ps : Nat → Nat) (nv : Nat → Int64) (nb n : Nat) : Prop :=
  ∀ a p c, tr_an N ar a n → tr_pa N ar a = some p → kd p = 5 → c < tr_ci N ar a → ∀ j k, fx_e N ar kd ag (fx_l N ar kd ag z p) (tr_ch N ar p c) = some (j, k) → (sz_sz (et (tr_ch N ar p c)) (nv (nb + tr_ch N ar p c)) : Int) + k = ps j
/-- the fact of node n holds of its value v -/
def fa_K (N : Nat) (ar kd ag z : Nat → Nat) (et : Nat → Nat) (ps : Nat → Nat) (n : Nat) (v : Int64) : Prop :=
  ∀ j k, fx_e N ar kd ag (fx_l N ar kd ag z n) n = some (j, k) → (sz_sz (et n) v : Int) + k = ps j
variable {F N M : Nat} {bs ar kd ag z rt : Nat → Nat} {pt gt : Nat → Nat → Nat} {et ps : Nat → Nat} {lv nv lv' nv' : Nat → Int64} {lb nb n : Nat} {v : Int64}
theorem fa_L_fr (h : fa_L N ar kd ag z pt ps lv lb n) (e : ∀ x, x < sq_sc N ar kd z n → lv' (lb + x) = lv (lb + x)) : fa_L N ar kd ag z pt ps lv' lb n := by
  intro x hx j k hf
  rw [e x hx]
  exact h x hx j k hf
theorem fa_V_fr (hw : pg_wf F N bs ar) (hn : n < N) (h : fa_V N ar kd ag z et ps nv nb n) (e : ∀ m, m < n → nv' (nb + m) = nv (nb + m)) : fa_V N ar kd ag z et ps nv' nb n := by
  intro a p c ha hp hk hc j k hf
  have haN : a < N := Nat.lt_of_le_of_lt ha.1 hn
  have hl : tr_ch N ar p c < a := by
    rcases pg_case hw haN with ⟨g1, _⟩ | ⟨p', g1, g2, g3, g4, g5, g6⟩
    · rw [hp] at g1; cases g1
    · rw [hp] at g1
      cases g1
      have a1 := pg_ch hw (n := p) (c := c) (by omega) (by omega)
      have a2 := tr_se_gt (N := N) (ar := ar) a1.1
      rw [← tr_ch_s] at a2
      have a3 := tr_ch_le (N := N) (ar := ar) p (c + 1) (tr_ci N ar a) (by omega)
      omega
  rw [e _ (by have := ha.1; omega)]
  exact h a p c ha hp hk hc j k hf
theorem fa_L_up {q p : Nat} (hp : tr_pa N ar q = some p) (h : fa_L N ar kd ag z pt ps lv lb q) : fa_L N ar kd ag z pt ps lv lb p := by
  intro x hx j k hf
  have hs := sq_some (kd := kd) (z := z) hp
  have e1 : fx_l N ar kd ag z q x = fx_l N ar kd ag z p x := by
    by_cases hc : sq_cv N ar kd p q = 0
    · rw [fx_l_0 hp hc]
    · rw [fx_l_s hp hc, if_neg (by omega), if_neg (by omega)]
  have := h x (by omega) j k (by rw [e1]; exact hf)
  rw [ty_pa hp hx] at this
  exact this
theorem fa_V_up {q p : Nat} (hq : q < N) (hp : tr_pa N ar q = some p) (h : fa_V N ar kd ag z et ps nv nb q) : fa_V N ar kd ag z et ps nv nb p :=
  fun a b c ha hb hk hc j k hf => h a b c ((tr_an_pa hq hp).mpr (Or.inr ha)) hb hk hc j k hf
/-- into a child that binds nothing -/
theorem fa_L_dn {q p : Nat} (hp : tr_pa N ar q = some p) (hc : sq_cv N ar kd p q = 0) (h : fa_L N ar kd ag z pt ps lv lb p) : fa_L N ar kd ag z pt ps lv lb q := by
  intro x hx j k hf
  rw [sq_some hp, hc, Nat.add_zero] at hx
  rw [fx_l_0 hp hc] at hf
  rw [ty_some hp, if_pos hc]
  exact h x hx j k hf
theorem fa_V_dn {q p : Nat} (hq : q < N) (hp : tr_pa N ar q = some p) (h : fa_V N ar kd ag z et ps nv nb p)
    (hv : kd p = 5 → ∀ c, c < tr_ci N ar q → ∀ j k, fx_e N ar kd ag (fx_l N ar kd ag z p) (tr_ch N ar p c) = some (j, k) → (sz_sz (et (tr_ch N ar p c)) (nv (nb + tr_ch N ar p c)) : Int) + k = ps j) : fa_V N ar kd ag z et ps nv nb q := by
  intro a b c ha hb hk hc j k hf
  rcases (tr_an_pa hq hp).mp ha with e | e
  · subst e
    rw [hp] at hb
    cases hb
    exact hv hk c hc j k hf
  · exact h a b c e hb hk hc j k hf
theorem fa_root {r : Nat} (hr : r < N) (hp : tr_pa N ar r = none) (h : ∀ x, x < z r → sz_sz (pt r x) (lv (lb + x)) = ps x) : fa_L N ar kd ag z pt ps lv lb r ∧ fa_V N ar kd ag z et ps nv nb r := by
  refine ⟨fun x hx j k hf => ?_, fun a b c ha hb => ?_⟩
  · rw [sq_none hp] at hx
    rw [fx_l_none hp, if_pos hx] at hf
    cases hf
    rw [ty_none hp, h x hx]
    omega
  · rw [(tr_an_root hr hp).mp ha, hp] at hb
    cases hb
-- values
theorem fa_var (hcl : fx_cl N ar kd) (hn : n < N) (hk : kd n = 0) (hx : ag n < sq_sc N ar kd z n) (het : et n = ty_ty N ar kd z pt n (ag n)) (h : fa_L N ar kd ag z pt ps lv lb n) : fa_K N ar kd ag z et ps n (lv (lb + ag n)) := by
  intro j k hf
  rw [fx_e_u hcl _ hn, if_pos hk] at hf
  rw [het]
  exact h (ag n) hx j k hf
theorem fa_no (hcl : fx_cl N ar kd) (hn : n < N) (hk : kd n ≠ 0 ∧ kd n ≠ 2 ∧ kd n ≠ 4) : fa_K N ar kd ag z et ps n v := by
  intro j k hf
  rw [fx_e_u hcl _ hn, if_neg hk.1, if_neg hk.2.1, if_neg hk.2.2] at hf
  cases hf
/-- a value of a SUCC or CONS: one more than its child's -/
theorem fa_grow (hcl : fx_cl N ar kd) {q p : Nat} {v' : Int64} (hpN : p < N) (hp : tr_pa N ar q = some p) (hk : (kd p = 2 ∧ q = p + 1) ∨ (kd p = 4 ∧ q = tr_ch N ar p 1)) (hs : sz_sz (et p) v' = sz_sz (et q) v + 1) (h : fa_K N ar kd ag z et ps q v) : fa_K N ar kd ag z et ps p v' := by
  intro j k hf
  have hcv : sq_cv N ar kd p q = 0 := sq_cv0 (Or.inr (by rcases hk with ⟨y, _⟩ | ⟨y, _⟩ <;> exact ⟨by omega, by omega⟩))
  have el : fx_l N ar kd ag z q = fx_l N ar kd ag z p := fx_l_0 hp hcv
  unfold fa_K at h
  rw [el] at h
  rw [fx_e_u hcl _ hpN] at hf
  have hf' : fx_sh (-1) (fx_e N ar kd ag (fx_l N ar kd ag z p) q) = some (j, k) := by
    rcases hk with ⟨y, yq⟩ | ⟨y, yq⟩
    · rw [if_neg (by omega), if_pos y, ← yq] at hf; exact hf
    · rw [if_neg (by omega), if_neg (by omega), if_pos y, ← yq] at hf; exact hf
  cases ho : fx_e N ar kd ag (fx_l N ar kd ag z p) q with
  | none => rw [ho] at hf'; cases hf'
  | some o =>
    obtain ⟨j0, k0⟩ := o
    rw [ho] at hf'
    have := h j0 k0 ho
    cases hf'
    rw [hs]
    omega
/-- into the child that binds: a case of a number -/
theorem fa_L_nat {q p : Nat} {w : Int64} (hcl : fx_cl N ar kd) (h1N : p + 1 < N) (hp : tr_pa N ar q = some p) (hp1 : tr_pa N ar (p + 1) = some p) (hc1 : sq_cv N ar kd p (p + 1) = 0) (hc : sq_cv N ar kd p q = 1) (h : fa_L N ar kd ag z pt ps lv lb p) (hK : fa_K N ar kd ag z et ps (p + 1) v) (hs : sz_sz (et (p + 1)) v = sz_sz 0 w + 1) :
    fa_L N ar kd ag z pt ps (vp_updL lv (lb + sq_sc N ar kd z p) w) lb q := by
  intro x hx j k hf
  rw [sq_some hp, hc] at hx
  rw [fx_l_s hp (by omega)] at hf
  rw [ty_some hp, if_neg (by omega)]
  have el : fx_l N ar kd ag z (p + 1) = fx_l N ar kd ag z p := fx_l_0 hp1 hc1
  unfold fa_K at hK
  rw [el] at hK
  rcases (show x = sq_sc N ar kd z p ∨ x < sq_sc N ar kd z p by omega) with e | e
  · rw [if_pos e, if_pos hc] at hf
    show (sz_sz (if x = sq_sc N ar kd z p then 0 else if x = sq_sc N ar kd z p + 1 then 1 else ty_ty N ar kd z pt p x) _ : Int) + k = ps j
    rw [if_pos e, e, pk_uLs]
    cases ho : fx_e N ar kd ag (fx_l N ar kd ag z p) (p + 1) with
    | none => rw [ho] at hf; cases hf
    | some o =>
      obtain ⟨j0, k0⟩ := o
      rw [ho] at hf
      have := hK j0 k0 ho
      cases hf
      rw [hs] at this
      omega
  · rw [if_neg (by omega), if_neg (by omega)] at hf
    show (sz_sz (if x = sq_sc N ar kd z p then 0 else if x = sq_sc N ar kd z p + 1 then 1 else ty_ty N ar kd z pt p x) _ : Int) + k = ps j
    rw [if_neg (by omega), if_neg (by omega), pk_uLn (by omega)]
    exact h x e j k hf
theorem fa_L_list {q p : Nat} {w w' : Int64} (hcl : fx_cl N ar kd) (h1N : p + 1 < N) (hp : tr_pa N ar q = some p) (hp1 : tr_pa N ar (p + 1) = some p) (hc1 : sq_cv N ar kd p (p + 1) = 0) (hc : sq_cv N ar kd p q = 2) (h : fa_L N ar kd ag z pt ps lv lb p) (hK : fa_K N ar kd ag z et ps (p + 1) v) (hs : sz_sz (et (p + 1)) v = sz_sz 1 w' + 1) :
    fa_L N ar kd ag z pt ps (vp_updL (vp_updL lv (lb + sq_sc N ar kd z p) w) (lb + sq_sc N ar kd z p + 1) w') lb q := by
  intro x hx j k hf
  rw [sq_some hp, hc] at hx
  rw [fx_l_s hp (by omega)] at hf
  rw [ty_some hp, if_neg (by omega)]
  have el : fx_l N ar kd ag z (p + 1) = fx_l N ar kd ag z p := fx_l_0 hp1 hc1
  unfold fa_K at hK
  rw [el] at hK
  rcases (show x = sq_sc N ar kd z p ∨ x = sq_sc N ar kd z p + 1 ∨ x < sq_sc N ar kd z p by omega) with e | e | e
  · rw [if_pos e, if_neg (by omega)] at hf
    cases hf
  · rw [if_neg (by omega), if_pos e] at hf
    show (sz_sz (if x = sq_sc N ar kd z p then 0 else if x = sq_sc N ar kd z p + 1 then 1 else ty_ty N ar kd z pt p x) _ : Int) + k = ps j
    rw [if_neg (by omega), if_pos e, e, ← Nat.add_assoc, pk_uLs]
    cases ho : fx_e N ar kd ag (fx_l N ar kd ag z p) (p + 1) with
    | none => rw [ho] at hf; cases hf
    | some o =>
      obtain ⟨j0, k0⟩ := o
      rw [ho] at hf
      have := hK j0 k0 ho
      cases hf
      rw [hs] at this
      omega
  · rw [if_neg (by omega), if_neg (by omega)] at hf
    show (sz_sz (if x = sq_sc N ar kd z p then 0 else if x = sq_sc N ar kd z p + 1 then 1 else ty_ty N ar kd z pt p x) _ : Int) + k = ps j
    rw [if_neg (by omega), if_neg (by omega), pk_uLn (by omega), pk_uLn (by omega)]
    exact h x e j k hf
-- the parameter that a fact names
theorem fx_sh_j {d : Int} {o : Option (Nat × Int)} {j : Nat} {k : Int} (h : fx_sh d o = some (j, k)) : ∃ k', o = some (j, k') := by
  cases o with
  | none => cases h
  | some a =>
    obtain ⟨j0, k0⟩ := a
    cases h
    exact ⟨k0, rfl⟩
theorem fx_ex_j {g : Nat → Option (Nat × Int)} {B : Nat} (hg : ∀ x j k, g x = some (j, k) → j < B) : ∀ t c j k, fx_ex N ar kd ag g t c = some (j, k) → j < B := by
  intro t
  induction t with
  | zero => intro c j k h; cases h
  | succ t ih =>
    intro c j k h
    rw [fx_ex] at h
    split at h
    · exact hg _ _ _ h
    · split at h
      · obtain ⟨k', h'⟩ := fx_sh_j h
        exact ih _ _ _ h'
      · split at h
        · obtain ⟨k', h'⟩ := fx_sh_j h
          exact ih _ _ _ h'
        · cases h
theorem fx_l_j (hz : ∀ j, z j ≤ 3) : ∀ n x j k, fx_l N ar kd ag z n x = some (j, k) → j < 3 := by
  intro n
  induction n using Nat.strongRecOn with
  | _ n ih =>
    intro x j k h
    cases hp : tr_pa N ar n with
    | none =>
      rw [fx_l_none hp] at h
      split at h
      · rename_i y
        have := hz n
        cases h
        omega
      · cases h
    | some p =>
      have hl := (tr_pa_some hp).1
      by_cases hc : sq_cv N ar kd p n = 0
      · rw [fx_l_0 hp hc] at h
        exact ih p hl x j k h
      · rw [fx_l_s hp hc] at h
        have ee : ∀ j k, fx_sh 1 (fx_e N ar kd ag (fx_l N ar kd ag z p) (p + 1)) = some (j, k) → j < 3 := fun j k h => by
          obtain ⟨k', h'⟩ := fx_sh_j h
          exact fx_ex_j (fun x j k h => ih p hl x j k h) _ _ _ _ h'
        split at h
        · split at h
          · exact ee j k h
          · cases h
        · split at h
          · exact ee j k h
          · exact ih p hl x j k h
theorem fx_e_j (hz : ∀ j, z j ≤ 3) {n c j : Nat} {k : Int} (h : fx_e N ar kd ag (fx_l N ar kd ag z n) c = some (j, k)) : j < 3 :=
  fx_ex_j (fun x j k h => fx_l_j hz n x j k h) _ _ _ _ h
-- a call that descends has arguments of a smaller rank
theorem cd_dn_true {o : Nat → Option (Nat × Int)} {s s' : Nat → Nat} {b p : Nat} (hb : b ≤ 13) (hp : p < 1000) (hs : ∀ j, s j < b) (hs' : ∀ j, s' j < b) : ∀ (t i : Nat), i + t = p → (∀ c, c < p → ∀ j k, o c = some (j, k) → j < 100 ∧ (s' c : Int) + k = s j) → (∀ c, c < i → s' c = s c) → cd_dn o t i = true → rk_r b s' p < rk_r b s p := by
  intro t
  induction t with
  | zero => intro i _ _ _ h; rw [cd_dn] at h; exact absurd h (by decide)
  | succ t ih =>
    intro i hi ho hlow h
    rw [cd_dn] at h
    cases hoi : o i with
    | none => rw [hoi] at h; cases h
    | some jk =>
      obtain ⟨j, k⟩ := jk
      rw [hoi] at h
      dsimp only at h
      obtain ⟨hj, hk⟩ := ho i (by omega) j k hoi
      have b1 := hs j
      have b2 := hs' i
      have tI : (Int32.ofInt k).toInt = k := Int32.toInt_ofInt_of_le (by omega) (by omega)
      have t0 : (0 : Int32).toInt = 0 := by decide
      split at h
      · exact absurd h (by decide)
      · rename_i c1
        have hji : j = i := by
          have c1' : nI j = nI i := Classical.byContradiction c1
          have := (nI_clamp (n := j) (by omega)).symm.trans ((congrArg Int32.toNatClampNeg c1').trans (nI_clamp (n := i) (by omega)))
          exact this
        subst hji
        split at h
        · exact absurd h (by decide)
        · rename_i c2
          rw [Int32.lt_iff_toInt_lt, tI, t0] at c2
          split at h
          · rename_i c3
            rw [Int32.lt_iff_toInt_lt, tI, t0] at c3
            have := rk_lex (b := b) (s := s) (s' := s') (i := j) hlow (by omega) t (fun c _ => hs' c)
            rw [show j + 1 + t = p by omega] at this
            exact this
          · rename_i c3
            rw [Int32.lt_iff_toInt_lt, tI, t0] at c3
            refine ih (j + 1) (by omega) ho (fun c hc => ?_) h
            rcases Nat.eq_or_lt_of_le (Nat.le_of_lt_succ hc) with e | e
            · subst e; omega
            · exact hlow c e
end
