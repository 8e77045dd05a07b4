section
-- what is read off the declared program: F functions with pc parameters, masks mk, result types rt, starts bs; N nodes of kinds kd with args na
def pr_ar (F : Nat) (pc kd : Nat → Nat) (na : Nat → Int32) (n : Nat) : Nat :=
  if kd n = 2 then 1 else if kd n = 4 then 2 else if kd n = 6 ∨ kd n = 7 then 3 else if kd n = 5 ∧ ¬ na n < 0 ∧ na n < nI F then pc (na n).toNatClampNeg else 0
def pr_ag (na : Nat → Int32) (n : Nat) : Nat := (na n).toNatClampNeg
def pr_z (F : Nat) (bs pc : Nat → Nat) (j : Nat) : Nat := pc (pg_fn F bs j)
def pr_pty (mk : Nat → Int32) (f i : Nat) : Nat := if (mk f >>> (nI i &&& 31)) &&& 1 = 1 then 1 else 0
def pr_pt (F : Nat) (bs : Nat → Nat) (mk : Nat → Int32) (j x : Nat) : Nat := pr_pty mk (pg_fn F bs j) x
def pr_rt (F : Nat) (bs rt : Nat → Nat) (j : Nat) : Nat := rt (pg_fn F bs j)
def pr_gt (mk na : Nat → Int32) (p c : Nat) : Nat := pr_pty mk (pr_ag na p) c
/-- what every declared program keeps -/
def pr_in (F N : Nat) (pc rt bs kd : Nat → Nat) (mk na : Nat → Int32) : Prop :=
  F ≤ 6 ∧ N ≤ 64 ∧ (∀ i, pc i ≤ 3) ∧ (∀ i, i < F → 1 ≤ pc i) ∧ (∀ i, rt i ≤ 1) ∧ (∀ i, kd i ≤ 7) ∧ (0 < F → bs 0 = 0) ∧ (∀ i, i < F → bs i ≤ N) ∧ (∀ i, i + 1 < F → bs i ≤ bs (i + 1)) ∧ (F = 0 → N = 0)
variable {F N : Nat} {pc rt bs kd : Nat → Nat} {mk na : Nat → Int32}
theorem pr_ar3 (h : pr_in F N pc rt bs kd mk na) (n : Nat) : pr_ar F pc kd na n ≤ 3 := by
  unfold pr_ar
  split
  · omega
  · split
    · omega
    · split
      · omega
      · split
        · exact h.2.2.1 _
        · omega
theorem pr_be_le (h : pr_in F N pc rt bs kd mk na) {f : Nat} (hf : f < F) : bs f ≤ pg_be F N bs f ∧ pg_be F N bs f ≤ N := by
  unfold pg_be
  split
  · rename_i z1
    exact ⟨h.2.2.2.2.2.2.2.2.1 f z1, h.2.2.2.2.2.2.2.1 (f + 1) z1⟩
  · exact ⟨h.2.2.2.2.2.2.2.1 f hf, Nat.le_refl _⟩
/-- the first function whose code isn't 1, and that code -/
def cd_r (q : Nat → Int32) : Nat → Nat → Int32 × Int32
  | 0, _ => (1, -1)
  | t + 1, f => if q f = 1 then cd_r q t (f + 1) else (q f, nI f)
theorem cd_r_1 {q : Nat → Int32} : ∀ t f, (cd_r q t f).1 = 1 → (∀ i, i < t → q (f + i) = 1) ∧ (cd_r q t f).2 = -1
  | 0, _, _ => ⟨fun i hi => by omega, rfl⟩
  | t + 1, f, h => by
    rw [cd_r] at h ⊢
    split at h
    · rename_i e
      rw [if_pos e]
      have := cd_r_1 t (f + 1) h
      refine ⟨fun i hi => ?_, this.2⟩
      cases i with
      | zero => exact e
      | succ i => have := this.1 i (by omega); rw [show f + 1 + i = f + (i + 1) by omega] at this; exact this
    · rename_i e
      exact absurd h e
def cd_sh (ar : Nat → Nat) (s e : Nat) : Prop := tr_wf ar s e
/-- the first of t nodes from n on that isn't well named, and its code -/
def cd_nm (kd : Nat → Nat) (na : Nat → Int32) (sc : Nat → Nat) (f : Nat) : Nat → Nat → Int32
  | 0, _ => 1
  | t + 1, n => if kd n = 0 ∧ (na n < 0 ∨ nI (sc n) ≤ na n) then 3 else if kd n = 5 ∧ (na n < 0 ∨ nI f < na n) then 4 else cd_nm kd na sc f t (n + 1)
theorem cd_nm_1 {sc : Nat → Nat} {f : Nat} : ∀ t n, cd_nm kd na sc f t n = 1 → ∀ i, i < t → ¬ (kd (n + i) = 0 ∧ (na (n + i) < 0 ∨ nI (sc (n + i)) ≤ na (n + i))) ∧ ¬ (kd (n + i) = 5 ∧ (na (n + i) < 0 ∨ nI f < na (n + i)))
  | 0, _, _, i, hi => by omega
  | t + 1, n, h, i, hi => by
    rw [cd_nm] at h
    split at h
    · exact absurd h (by decide)
    · rename_i e1
      split at h
      · exact absurd h (by decide)
      · rename_i e2
        cases i with
        | zero => exact ⟨e1, e2⟩
        | succ i => have := cd_nm_1 t (n + 1) h i (by omega); rw [show n + 1 + i = n + (i + 1) by omega] at this; exact this
theorem cd_nm_5 {sc : Nat → Nat} {f : Nat} : ∀ t n, cd_nm kd na sc f t n = 1 ∨ cd_nm kd na sc f t n = 3 ∨ cd_nm kd na sc f t n = 4
  | 0, _ => Or.inl rfl
  | t + 1, n => by
    rw [cd_nm]
    split
    · exact Or.inr (Or.inl rfl)
    · split
      · exact Or.inr (Or.inr rfl)
      · exact cd_nm_5 t (n + 1)
/-- 1 if all of t nodes from n on have the asked type -/
def cd_ty (own et : Nat → Nat) : Nat → Nat → Int32
  | 0, _ => 1
  | t + 1, n => if own n = et n then cd_ty own et t (n + 1) else 5
theorem cd_ty_1 {own et : Nat → Nat} : ∀ t n, cd_ty own et t n = 1 → ∀ i, i < t → own (n + i) = et (n + i)
  | 0, _, _, i, hi => by omega
  | t + 1, n, h, i, hi => by
    rw [cd_ty] at h
    split at h
    · rename_i e
      cases i with
      | zero => exact e
      | succ i => have := cd_ty_1 t (n + 1) h i (by omega); rw [show n + 1 + i = n + (i + 1) by omega] at this; exact this
    · exact absurd h (by decide)
theorem cd_ty_5 {own et : Nat → Nat} : ∀ t n, cd_ty own et t n = 1 ∨ cd_ty own et t n = 5
  | 0, _ => Or.inl rfl
  | t + 1, n => by
    rw [cd_ty]
    split
    · exact cd_ty_5 t (n + 1)
    · exact Or.inr rfl
/-- whether the facts o 0, o 1 .. say that a call descends -/
def cd_dn (o : Nat → Option (Nat × Int)) : Nat → Nat → Bool
  | 0, _ => false
  | t + 1, i => match o i with
    | none => false
    | some (j, k) => if ¬ nI j = nI i then false else if Int32.ofInt k < 0 then false else if 0 < Int32.ofInt k then true else cd_dn o t (i + 1)
def cd_ds (kd : Nat → Nat) (na : Nat → Int32) (dn : Nat → Bool) (f : Nat) : Nat → Nat → Int32
  | 0, _ => 1
  | t + 1, n => if kd n = 5 ∧ na n = nI f ∧ dn n = false then 6 else cd_ds kd na dn f t (n + 1)
-- from the codes to the well typed program
theorem pr_wf (h : pr_in F N pc rt bs kd mk na) (hF : 0 < F) (hs : ∀ f, f < F → tr_wf (pr_ar F pc kd na) (bs f) (pg_be F N bs f)) : pg_wf F N bs (pr_ar F pc kd na) :=
  ⟨hF, h.2.1, pr_ar3 h, h.2.2.2.2.2.2.1 hF, hs⟩
theorem pr_bn {x : Int32} {b : Nat} (hb : b < 2 ^ 31) (h1 : ¬ x < 0) (h2 : ¬ nI b ≤ x) : x.toNatClampNeg < b ∧ x = nI x.toNatClampNeg := by
  obtain ⟨j, hj, rfl⟩ := nI_of h1
  rw [nI_leI hb hj] at h2
  rw [nI_clamp hj]
  exact ⟨by omega, rfl⟩
theorem pr_bn2 {x : Int32} {b : Nat} (hb : b < 2 ^ 31) (h1 : ¬ x < 0) (h2 : ¬ nI b < x) : x.toNatClampNeg ≤ b ∧ x = nI x.toNatClampNeg := by
  obtain ⟨j, hj, rfl⟩ := nI_of h1
  rw [nI_ltI hb hj] at h2
  rw [nI_clamp hj]
  exact ⟨by omega, rfl⟩
def pr_sc (F N : Nat) (pc bs kd : Nat → Nat) (na : Nat → Int32) (n : Nat) : Nat := sq_sc N (pr_ar F pc kd na) kd (pr_z F bs pc) n
def pr_et (F N : Nat) (pc rt bs kd : Nat → Nat) (mk na : Nat → Int32) (n : Nat) : Nat := et_et N (pr_ar F pc kd na) kd (pr_rt F bs rt) (pr_gt mk na) n
def pr_ow (F N : Nat) (pc rt bs kd : Nat → Nat) (mk na : Nat → Int32) (n : Nat) : Nat :=
  et_own N (pr_ar F pc kd na) kd (pr_ag na) (pr_z F bs pc) (pr_rt F bs rt) (pr_gt mk na) (pr_pt F bs mk) (fun n => rt (pr_ag na n)) n
def pr_ok (F N : Nat) (pc rt bs kd : Nat → Nat) (mk na : Nat → Int32) : Prop := pw_ok F N bs (pr_ar F pc kd na) kd (pr_ag na) (pr_z F bs pc) (pr_pt F bs mk) (pr_rt F bs rt) (pr_gt mk na)
/-- names are well at node n of function f -/
def pr_nm (F N : Nat) (pc bs kd : Nat → Nat) (na : Nat → Int32) : Prop := ∀ n, n < N → (kd n = 0 → pr_ag na n < pr_sc F N pc bs kd na n ∧ na n = nI (pr_ag na n)) ∧ (kd n = 5 → pr_ag na n ≤ pg_fn F bs n ∧ na n = nI (pr_ag na n))
theorem pr_sc_le (h : pr_in F N pc rt bs kd mk na) (hw : pg_wf F N bs (pr_ar F pc kd na)) {n : Nat} (hn : n < N) : pr_sc F N pc bs kd na n ≤ 45 := by
  have hb := pg_body hw hn
  have h1 := sq_le (kd := kd) (z := pr_z F bs pc) hw n hn
  have h2 : pr_z F bs pc (bs (pg_fn F bs n)) ≤ 3 := h.2.2.1 _
  have h3 := h.2.1
  unfold pr_sc
  omega
theorem pr_mknm (h : pr_in F N pc rt bs kd mk na) (hw : pg_wf F N bs (pr_ar F pc kd na))
    (hn : ∀ f, f < F → cd_nm kd na (pr_sc F N pc bs kd na) f (pg_be F N bs f - bs f) (bs f) = 1) : pr_nm F N pc bs kd na := by
  intro n hnN
  obtain ⟨f1, f2, f3, f4⟩ := pg_body hw hnN
  have k := cd_nm_1 _ _ (hn _ f1) (n - bs (pg_fn F bs n)) (by omega)
  rw [show bs (pg_fn F bs n) + (n - bs (pg_fn F bs n)) = n by omega] at k
  have s45 := pr_sc_le h hw hnN
  have f6 := h.1
  refine ⟨fun k0 => ?_, fun k5 => ?_⟩
  · have k1 : ¬ na n < 0 := fun y => k.1 ⟨k0, Or.inl y⟩
    have k2 : ¬ nI (pr_sc F N pc bs kd na n) ≤ na n := fun y => k.1 ⟨k0, Or.inr y⟩
    exact pr_bn (by omega) k1 k2
  · have k1 : ¬ na n < 0 := fun y => k.2 ⟨k5, Or.inl y⟩
    have k2 : ¬ nI (pg_fn F bs n) < na n := fun y => k.2 ⟨k5, Or.inr y⟩
    exact pr_bn2 (by omega) k1 k2
theorem pr_root_fn (hw : pg_wf F N bs (pr_ar F pc kd na)) {g : Nat} (hg : g < F) : pg_fn F bs (bs g) = g :=
  pg_fn_is hw hg (Nat.le_refl _) (hw.2.2.2.2 g hg).1
theorem pr_ar5 (hw : pg_wf F N bs (pr_ar F pc kd na)) (h : pr_in F N pc rt bs kd mk na) (hn : pr_nm F N pc bs kd na) {n : Nat} (hnN : n < N) (k5 : kd n = 5) : pr_ag na n < F ∧ pr_ar F pc kd na n = pc (pr_ag na n) ∧ na n = nI (pr_ag na n) := by
  obtain ⟨f1, f2, f3, f4⟩ := pg_body hw hnN
  have k := (hn n hnN).2 k5
  have hF := h.1
  have hl : pr_ag na n < F := by omega
  refine ⟨hl, ?_, k.2⟩
  unfold pr_ar
  rw [if_neg (by omega), if_neg (by omega), if_neg (by omega), if_pos]
  · rfl
  · refine ⟨k5, ?_, ?_⟩
    · rw [k.2]; exact nI_pos (by omega)
    · rw [k.2]; exact nI_lt hl (by omega)
theorem pr_mk (h : pr_in F N pc rt bs kd mk na) (hw : pg_wf F N bs (pr_ar F pc kd na)) (hn : pr_nm F N pc bs kd na)
    (ht : ∀ f, f < F → cd_ty (pr_ow F N pc rt bs kd mk na) (pr_et F N pc rt bs kd mk na) (pg_be F N bs f - bs f) (bs f) = 1) : pr_ok F N pc rt bs kd mk na := by
  refine ⟨hw, fun n hnN => ?_, fun n hnN k0 => ((hn n hnN).1 k0).1, fun n hnN k5 => ?_, fun n hnN => ?_, fun f hf => ?_⟩
  · refine ⟨h.2.2.2.2.2.1 n, fun k => ?_, fun k => ?_, fun k => ?_, fun k => ?_⟩
    · unfold pr_ar
      rw [if_neg (by omega), if_neg (by omega), if_neg (by omega), if_neg (by omega)]
    · unfold pr_ar
      rw [if_pos k]
    · unfold pr_ar
      rw [if_neg (by omega), if_pos k]
    · unfold pr_ar
      rw [if_neg (by omega), if_neg (by omega), if_pos k]
  · obtain ⟨a1, a2, a3⟩ := pr_ar5 hw h hn hnN k5
    refine ⟨a1, ?_, fun c hc => ?_⟩
    · rw [a2]
      show _ = pc (pg_fn F bs (bs (pr_ag na n)))
      rw [pr_root_fn hw a1]
    · show pr_pty mk (pr_ag na n) c = pr_pty mk (pg_fn F bs (bs (pr_ag na n))) c
      rw [pr_root_fn hw a1]
  · obtain ⟨f1, f2, f3, f4⟩ := pg_body hw hnN
    have k := cd_ty_1 _ _ (ht _ f1) (n - bs (pg_fn F bs n)) (by omega)
    rw [show bs (pg_fn F bs n) + (n - bs (pg_fn F bs n)) = n by omega] at k
    unfold pr_ow pr_et at k
    rw [← k]
    unfold et_own
    by_cases k5 : kd n = 5
    · rw [if_neg (by omega), if_neg (by omega), if_neg (by omega), if_pos k5, if_neg (by omega), if_neg (by omega), if_neg (by omega), if_pos k5]
      show rt (pg_fn F bs (bs (pr_ag na n))) = rt (pr_ag na n)
      rw [pr_root_fn hw (pr_ar5 hw h hn hnN k5).1]
    · rw [if_neg k5, if_neg k5]
  · show 1 ≤ pc (pg_fn F bs (bs f)) ∧ pc (pg_fn F bs (bs f)) ≤ 3
    rw [pr_root_fn hw hf]
    exact ⟨h.2.2.2.1 f hf, h.2.2.1 f⟩
theorem pw_chk (hw : pg_wf F N bs (pr_ar F pc kd na)) {n p : Nat} (hn : n < N) (hp : tr_pa N (pr_ar F pc kd na) n = some p) : 0 < pr_ar F pc kd na p := by
  rcases pg_case hw hn with ⟨g1, _⟩ | ⟨p', g1, g2, g3, g4, _⟩
  · rw [hp] at g1; cases g1
  · rw [hp] at g1
    cases g1
    omega
theorem pr_pty2 (f i : Nat) : pr_pty mk f i ≤ 1 := by unfold pr_pty; split <;> omega
theorem pr_et2 (h : pr_in F N pc rt bs kd mk na) {n : Nat} : pr_et F N pc rt bs kd mk na n ≤ 1 := by
  unfold pr_et et_et tr_fold
  have key : ∀ t j, tr_up N (pr_ar F pc kd na) (pr_rt F bs rt) (fun p j e => if kd p = 2 then 0 else if kd p = 4 then (if tr_cx N (pr_ar F pc kd na) p j = 0 then 0 else 1) else if kd p = 5 then pr_gt mk na p (tr_cx N (pr_ar F pc kd na) p j) else if tr_cx N (pr_ar F pc kd na) p j = 0 then (if kd p = 7 then 1 else 0) else e) t j ≤ 1 := by
    intro t
    induction t with
    | zero => intro j; exact h.2.2.2.2.1 _
    | succ t ih =>
      intro j
      rw [tr_up]
      split
      · exact h.2.2.2.2.1 _
      · rename_i p _
        split
        · omega
        · split
          · split <;> omega
          · split
            · exact pr_pty2 _ _
            · split
              · split <;> omega
              · exact ih p
  exact key n n
theorem pr_ty2 {z kd' : Nat → Nat} {ar : Nat → Nat} {pt : Nat → Nat → Nat} (hpt : ∀ j x, pt j x ≤ 1) (x : Nat) : ∀ n, ty_ty N ar kd' z pt n x ≤ 1 := by
  intro n
  induction n using Nat.strongRecOn with
  | _ n ih =>
    cases hp : tr_pa N ar n with
    | none => rw [ty_none hp]; exact hpt _ _
    | some p =>
      have hl := (tr_pa_some hp).1
      rw [ty_some hp]
      by_cases c : sq_cv N ar kd' p n = 0
      · rw [if_pos c]; exact ih p hl
      · rw [if_neg c]
        show (if x = _ then (0 : Nat) else if x = _ then 1 else _) ≤ 1
        split
        · omega
        · split
          · omega
          · exact ih p hl
theorem pr_ow2 (h : pr_in F N pc rt bs kd mk na) {n : Nat} : pr_ow F N pc rt bs kd mk na n ≤ 1 := by
  unfold pr_ow et_own
  split
  · exact pr_ty2 (fun j x => pr_pty2 _ _) _ _
  · split
    · omega
    · split
      · omega
      · split
        · exact h.2.2.2.2.1 _
        · exact pr_et2 h
end
