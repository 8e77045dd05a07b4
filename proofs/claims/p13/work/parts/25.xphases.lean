section
variable {f_sizeCap f_functionCount f_nodeCount f_code f_faultFunction f_foundParam f_foundDrop f_status f_depth f_begun f_beginLimit f_waitingFunction f_currentNode f_valueKnown : Int32} {f_bound f_calls f_fuelLimit f_currentValue : Int64} {a_paramCounts a_listMasks a_resultTypes a_bodyStarts a_nodeKinds a_nodeArgs a_parents a_childIndexes a_subtreeEnds a_scopeSizes a_levelTypes a_levelParams a_levelDrops a_expectedTypes a_slotTypes a_callNodes : Nat → Int32} {a_totals a_slotValues a_waitingArgs a_levelValues a_nodeValues : Nat → Int64}
variable {M F N k : Nat} {pc rt bs kd : Nat → Nat} {mk na : Nat → Int32}
theorem wx_de45 {post : Int32 → St2 → Prop} (h : pr_in F N pc rt bs kd mk na) (hw : pg_wf F N bs (pr_ar F pc kd na)) (hnm : pr_nm F N pc bs kd na) (HT : tb_ok N (pr_ar F pc kd na) kd (pr_z F bs pc) a_parents a_childIndexes a_subtreeEnds a_scopeSizes N) {f : Nat} (hf : f < F) :
    ∀ (r n fu : Nat) (a b : Int32) (lp ld : Nat → Int32), n + r = pg_be F N bs f → bs f ≤ n → r < fu → (0 < r → pr_fp F N pc bs kd na lp ld n) →
      (∀ a b lp ld, post (cd_ds kd na (pr_dn F N pc bs kd na f) f r n) ((nI M), (nI F), (nI N), f_code, f_faultFunction, f_bound, a, b, f_status, f_calls, f_depth, f_fuelLimit, f_begun, f_beginLimit, f_waitingFunction, f_currentNode, f_valueKnown, f_currentValue, (fun i => nI (pc i)), mk, (fun i => nI (rt i)), (fun i => nI (bs i)), (fun i => nI (kd i)), na, a_parents, a_childIndexes, a_subtreeEnds, a_scopeSizes, a_levelTypes, lp, ld, a_expectedTypes, a_totals, a_slotTypes, a_slotValues, a_waitingArgs, a_callNodes, a_levelValues, a_nodeValues)) → wX_checkDescent_45 post (nI f) (nI (pg_be F N bs f)) fu (nI n) (nI M) (nI F) (nI N) f_code f_faultFunction f_bound a b f_status f_calls f_depth f_fuelLimit f_begun f_beginLimit f_waitingFunction f_currentNode f_valueKnown f_currentValue (fun i => nI (pc i)) mk (fun i => nI (rt i)) (fun i => nI (bs i)) (fun i => nI (kd i)) na a_parents a_childIndexes a_subtreeEnds a_scopeSizes a_levelTypes lp ld a_expectedTypes a_totals a_slotTypes a_slotValues a_waitingArgs a_callNodes a_levelValues a_nodeValues := by
  have h6 := h.1
  have h64 := h.2.1
  have hN := pg_lastN hw hf
  intro r
  induction r with
  | zero =>
    intro n fu a b lp ld h1 h2 h3 h4 hp
    obtain ⟨fu, rfl⟩ : ∃ f, fu = f + 1 := ⟨fu - 1, by omega⟩
    exact br_t (nI_le (by omega) (by omega)) (hp a b lp ld)
  | succ r ih =>
    intro n fu a b lp ld h1 h2 h3 h4 hp
    obtain ⟨fu, rfl⟩ : ∃ f, fu = f + 1 := ⟨fu - 1, by omega⟩
    have hn : n < N := by omega
    have hk := h.2.2.2.2.2.1 n
    have e : (nI n).toNatClampNeg = n := nI_clamp (by omega)
    have hv : vp_in (nI n) 64 := vp_in_nI (by omega) (by omega)
    refine br_f (nI_ge (by omega) (by omega)) (wx_bindFacts (f_foundParam := a) (f_foundDrop := b) h hw hnm HT hn (h4 (by omega)) (fun a' b' lp' ld' hT => ⟨hv, ?_⟩))
    have nxt : ∀ a'' b'', ¬ (kd n = 5 ∧ na n = nI f ∧ pr_dn F N pc bs kd na f n = false) → wX_checkDescent_45 post (nI f) (nI (pg_be F N bs f)) fu (nI (n + 1)) (nI M) (nI F) (nI N) f_code f_faultFunction f_bound a'' b'' f_status f_calls f_depth f_fuelLimit f_begun f_beginLimit f_waitingFunction f_currentNode f_valueKnown f_currentValue (fun i => nI (pc i)) mk (fun i => nI (rt i)) (fun i => nI (bs i)) (fun i => nI (kd i)) na a_parents a_childIndexes a_subtreeEnds a_scopeSizes a_levelTypes lp' ld' a_expectedTypes a_totals a_slotTypes a_slotValues a_waitingArgs a_callNodes a_levelValues a_nodeValues := by
      intro a'' b'' hno
      refine ih (n + 1) fu a'' b'' lp' ld' (by omega) (by omega) (by omega) (fun hr => ⟨fun hpn => ?_, fun p hpn x hx => ?_⟩) (fun a3 b3 l3 d3 => ?_)
      · obtain ⟨q, q1, _⟩ := tr_pa_in (N := N) (hw.2.2.2.2 f hf) hN (j := n + 1) (by omega) (by omega)
        rw [q1] at hpn; cases hpn
      · have han := tb_anx hpn
        have hs : pr_sc F N pc bs kd na p ≤ pr_sc F N pc bs kd na n := sq_an n p hn han
        have hfe : pr_fl F N pc bs kd na n x = pr_fl F N pc bs kd na p x := fx_l_an n p x hn han hx
        rw [← hfe]
        exact hT x (by omega)
      · have := hp a3 b3 l3 d3
        rw [cd_ds, if_neg hno] at this
        exact this
    show ((fun i => nI (kd i)) (nI n).toNatClampNeg = 5 → _) ∧ _
    rw [e]
    refine pk_eq (kd n) 5 (fun k => ⟨hv, br_c (fun c => ?_) (fun c => ?_)⟩) (fun k => ?_)
    · refine br_f (by decide) (wx_descends (f_foundParam := a') (f_foundDrop := b') (a_levelParams := lp') (a_levelDrops := ld') h hw hnm HT hn hf k c hT (fun a2 b2 => ?_))
      by_cases hd : pr_dn F N pc bs kd na f n = false
      · rw [hd]
        have := hp a2 b2 lp' ld'
        rw [cd_ds, if_pos ⟨k, c, hd⟩] at this
        exact br_t rfl this
      · have hd' : pr_dn F N pc bs kd na f n = true := by
          cases hq : pr_dn F N pc bs kd na f n with
          | true => rfl
          | false => exact absurd hq hd
        rw [hd']
        exact br_f (by decide) (nm_r (nI_1 n) (nxt a2 b2 (fun y => hd y.2.2)))
    · exact br_t rfl (nm_r (nI_1 n) (nxt a' b' (fun y => c y.2.1)))
    · exact br_t rfl (nm_r (nI_1 n) (nxt a' b' (fun y => k y.1)))
theorem wx_de2 {post : Int32 → St2 → Prop} (h : pr_in F N pc rt bs kd mk na) (hw : pg_wf F N bs (pr_ar F pc kd na)) (hnm : pr_nm F N pc bs kd na) (HT : tb_ok N (pr_ar F pc kd na) kd (pr_z F bs pc) a_parents a_childIndexes a_subtreeEnds a_scopeSizes N) {f : Nat} (hf : f < F)
    (hp : ∀ a b lp ld, post (cd_ds kd na (pr_dn F N pc bs kd na f) f (pg_be F N bs f - bs f) (bs f)) ((nI M), (nI F), (nI N), f_code, f_faultFunction, f_bound, a, b, f_status, f_calls, f_depth, f_fuelLimit, f_begun, f_beginLimit, f_waitingFunction, f_currentNode, f_valueKnown, f_currentValue, (fun i => nI (pc i)), mk, (fun i => nI (rt i)), (fun i => nI (bs i)), (fun i => nI (kd i)), na, a_parents, a_childIndexes, a_subtreeEnds, a_scopeSizes, a_levelTypes, lp, ld, a_expectedTypes, a_totals, a_slotTypes, a_slotValues, a_waitingArgs, a_callNodes, a_levelValues, a_nodeValues)) :
    ∀ (r i fu : Nat) (lp ld : Nat → Int32), i + r = pc f → r < fu → (∀ x, x < i → lp x = nI x ∧ ld x = 0) → wX_checkDescent_2 post (nI f) (nI M) (nI F) (nI N) f_code f_faultFunction f_bound f_foundParam f_foundDrop f_status f_calls f_depth f_fuelLimit f_begun f_beginLimit f_waitingFunction f_currentNode f_valueKnown f_currentValue fu (nI i) (fun i => nI (pc i)) mk (fun i => nI (rt i)) (fun i => nI (bs i)) (fun i => nI (kd i)) na a_parents a_childIndexes a_subtreeEnds a_scopeSizes a_levelTypes lp ld a_expectedTypes a_totals a_slotTypes a_slotValues a_waitingArgs a_callNodes a_levelValues a_nodeValues := by
  have h6 := h.1
  have h64 := h.2.1
  have hp3 := h.2.2.1 f
  have hN := pg_lastN hw hf
  have hlt := (hw.2.2.2.2 f hf).1
  have e : (nI f).toNatClampNeg = f := nI_clamp (by omega)
  have hv : vp_in (nI f) 6 := vp_in_nI (by omega) (by omega)
  intro r
  induction r with
  | zero =>
    intro i fu lp ld h1 h2 h3
    obtain ⟨fu, rfl⟩ : ∃ f, fu = f + 1 := ⟨fu - 1, by omega⟩
    refine ⟨hv, ?_⟩
    show ((fun i => nI (pc i)) (nI f).toNatClampNeg ≤ nI i → _) ∧ _
    rw [e]
    refine br_t (nI_le (by omega) (by omega)) (wx_bodyEnd h hf ⟨hv, nm_e ⟨65, ?_⟩⟩)
    refine wx_de45 h hw hnm HT hf (pg_be F N bs f - bs f) (bs f) 65 _ _ lp ld (by omega) (Nat.le_refl _) (by omega) (fun _ => ⟨fun hpn x hx => ?_, fun p hpn => ?_⟩) hp
    · unfold pr_sc at hx
      rw [sq_none hpn] at hx
      have hx' := hx
      unfold pr_z at hx'
      rw [pr_root_fn hw hf] at hx'
      unfold pr_fl
      rw [fx_l_none hpn, if_pos hx]
      refine ⟨fun y => (by cases y), fun j k y => ?_⟩
      cases y
      exact h3 x (by omega)
    · rw [pg_root hw hf] at hpn; cases hpn
  | succ r ih =>
    intro i fu lp ld h1 h2 h3
    obtain ⟨fu, rfl⟩ : ∃ f, fu = f + 1 := ⟨fu - 1, by omega⟩
    have ei : (nI i).toNatClampNeg = i := nI_clamp (by omega)
    refine ⟨hv, ?_⟩
    show ((fun i => nI (pc i)) (nI f).toNatClampNeg ≤ nI i → _) ∧ _
    rw [e]
    refine br_f (nI_ge (by omega) (by omega)) ⟨vp_in_nI (by omega) (by omega), ?_⟩
    rw [ei]
    refine nm_e ⟨vp_in_nI (by omega) (by omega), nm_e (nm_r (nI_1 i) (ih (i + 1) fu _ _ (by omega) (by omega) (fun x hx => ?_)))⟩
    rcases Nat.eq_or_lt_of_le (Nat.le_of_lt_succ hx) with z1 | z1
    · subst z1; exact ⟨pk_us, pk_us⟩
    · rw [pk_un (by omega), pk_un (by omega)]; exact h3 x z1
theorem wx_checkDescent {post : Int32 → St2 → Prop} (h : pr_in F N pc rt bs kd mk na) (hw : pg_wf F N bs (pr_ar F pc kd na)) (hnm : pr_nm F N pc bs kd na) (HT : tb_ok N (pr_ar F pc kd na) kd (pr_z F bs pc) a_parents a_childIndexes a_subtreeEnds a_scopeSizes N) {f : Nat} (hf : f < F)
    (hp : ∀ a b lp ld, post (cd_ds kd na (pr_dn F N pc bs kd na f) f (pg_be F N bs f - bs f) (bs f)) ((nI M), (nI F), (nI N), f_code, f_faultFunction, f_bound, a, b, f_status, f_calls, f_depth, f_fuelLimit, f_begun, f_beginLimit, f_waitingFunction, f_currentNode, f_valueKnown, f_currentValue, (fun i => nI (pc i)), mk, (fun i => nI (rt i)), (fun i => nI (bs i)), (fun i => nI (kd i)), na, a_parents, a_childIndexes, a_subtreeEnds, a_scopeSizes, a_levelTypes, lp, ld, a_expectedTypes, a_totals, a_slotTypes, a_slotValues, a_waitingArgs, a_callNodes, a_levelValues, a_nodeValues)) : wpX_checkDescent post ((nI M), (nI F), (nI N), f_code, f_faultFunction, f_bound, f_foundParam, f_foundDrop, f_status, f_calls, f_depth, f_fuelLimit, f_begun, f_beginLimit, f_waitingFunction, f_currentNode, f_valueKnown, f_currentValue, (fun i => nI (pc i)), mk, (fun i => nI (rt i)), (fun i => nI (bs i)), (fun i => nI (kd i)), na, a_parents, a_childIndexes, a_subtreeEnds, a_scopeSizes, a_levelTypes, a_levelParams, a_levelDrops, a_expectedTypes, a_totals, a_slotTypes, a_slotValues, a_waitingArgs, a_callNodes, a_levelValues, a_nodeValues) (nI f) := by
  have hp3 := h.2.2.1 f
  exact ⟨4, wx_de2 h hw hnm HT hf hp (pc f) 0 4 a_levelParams a_levelDrops (by omega) (by omega) (fun x hx => by omega)⟩
/-- the code of function f in each phase -/
noncomputable def pr_q1 (F N : Nat) (pc bs kd : Nat → Nat) (na : Nat → Int32) (f : Nat) : Int32 := @ite Int32 (tr_wf (pr_ar F pc kd na) (bs f) (pg_be F N bs f)) (Classical.propDecidable _) 1 2
def pr_q2 (F N : Nat) (pc bs kd : Nat → Nat) (na : Nat → Int32) (f : Nat) : Int32 := cd_nm kd na (pr_sc F N pc bs kd na) f (pg_be F N bs f - bs f) (bs f)
def pr_q3 (F N : Nat) (pc rt bs kd : Nat → Nat) (mk na : Nat → Int32) (f : Nat) : Int32 := cd_ty (pr_ow F N pc rt bs kd mk na) (pr_et F N pc rt bs kd mk na) (pg_be F N bs f - bs f) (bs f)
def pr_q4 (F N : Nat) (pc bs kd : Nat → Nat) (na : Nat → Int32) (f : Nat) : Int32 := cd_ds kd na (pr_dn F N pc bs kd na f) f (pg_be F N bs f - bs f) (bs f)
theorem pr_q1_t {f : Nat} (hw : tr_wf (pr_ar F pc kd na) (bs f) (pg_be F N bs f)) : pr_q1 F N pc bs kd na f = 1 := by unfold pr_q1; rw [if_pos hw]
theorem pr_q1_f {f : Nat} (hw : ¬ tr_wf (pr_ar F pc kd na) (bs f) (pg_be F N bs f)) : pr_q1 F N pc bs kd na f = 2 := by unfold pr_q1; rw [if_neg hw]
theorem pr_q1_1 {f : Nat} (h : pr_q1 F N pc bs kd na f = 1) : tr_wf (pr_ar F pc kd na) (bs f) (pg_be F N bs f) := by
  refine Classical.byContradiction fun y => ?_
  rw [pr_q1_f y] at h
  exact absurd h (by decide)
/-- the tail of a turn of the loop over the functions -/
theorem wx_99 {post : St2 → Prop} {J} {x1 : Int32} {f : Nat} {c : Int32} (h1 : c = 1 → J (nI (f + 1)) (nI M) (nI F) (nI N) c (-1) f_bound f_foundParam f_foundDrop f_status f_calls f_depth f_fuelLimit f_begun f_beginLimit f_waitingFunction f_currentNode f_valueKnown f_currentValue (fun i => nI (pc i)) mk (fun i => nI (rt i)) (fun i => nI (bs i)) (fun i => nI (kd i)) na a_parents a_childIndexes a_subtreeEnds a_scopeSizes a_levelTypes a_levelParams a_levelDrops a_expectedTypes a_totals a_slotTypes a_slotValues a_waitingArgs a_callNodes a_levelValues a_nodeValues) (h2 : ¬ c = 1 → J (nI (f + 1)) (nI M) (nI F) (nI N) c (nI f) f_bound f_foundParam f_foundDrop f_status f_calls f_depth f_fuelLimit f_begun f_beginLimit f_waitingFunction f_currentNode f_valueKnown f_currentValue (fun i => nI (pc i)) mk (fun i => nI (rt i)) (fun i => nI (bs i)) (fun i => nI (kd i)) na a_parents a_childIndexes a_subtreeEnds a_scopeSizes a_levelTypes a_levelParams a_levelDrops a_expectedTypes a_totals a_slotTypes a_slotValues a_waitingArgs a_callNodes a_levelValues a_nodeValues) : wX_checkFunctions_99 post J x1 (nI f) (nI M) (nI F) (nI N) c f_faultFunction f_bound f_foundParam f_foundDrop f_status f_calls f_depth f_fuelLimit f_begun f_beginLimit f_waitingFunction f_currentNode f_valueKnown f_currentValue (fun i => nI (pc i)) mk (fun i => nI (rt i)) (fun i => nI (bs i)) (fun i => nI (kd i)) na a_parents a_childIndexes a_subtreeEnds a_scopeSizes a_levelTypes a_levelParams a_levelDrops a_expectedTypes a_totals a_slotTypes a_slotValues a_waitingArgs a_callNodes a_levelValues a_nodeValues :=
  br_c (fun y => nm_r (nI_1 f) (h1 y)) (fun y => nm_r (nI_1 f) (h2 y))
/-- the loop has found its fault -/
theorem wx_cfz {post : St2 → Prop} {x1 : Int32} {c ft : Int32} {fu f : Nat} (hc : ¬ c = 1) (hp : post ((nI M), (nI F), (nI N), c, ft, f_bound, f_foundParam, f_foundDrop, f_status, f_calls, f_depth, f_fuelLimit, f_begun, f_beginLimit, f_waitingFunction, f_currentNode, f_valueKnown, f_currentValue, (fun i => nI (pc i)), mk, (fun i => nI (rt i)), (fun i => nI (bs i)), (fun i => nI (kd i)), na, a_parents, a_childIndexes, a_subtreeEnds, a_scopeSizes, a_levelTypes, a_levelParams, a_levelDrops, a_expectedTypes, a_totals, a_slotTypes, a_slotValues, a_waitingArgs, a_callNodes, a_levelValues, a_nodeValues)) : wX_checkFunctions_2 post x1 (fu + 1) (nI f) (nI M) (nI F) (nI N) c ft f_bound f_foundParam f_foundDrop f_status f_calls f_depth f_fuelLimit f_begun f_beginLimit f_waitingFunction f_currentNode f_valueKnown f_currentValue (fun i => nI (pc i)) mk (fun i => nI (rt i)) (fun i => nI (bs i)) (fun i => nI (kd i)) na a_parents a_childIndexes a_subtreeEnds a_scopeSizes a_levelTypes a_levelParams a_levelDrops a_expectedTypes a_totals a_slotTypes a_slotValues a_waitingArgs a_callNodes a_levelValues a_nodeValues :=
  br_c (fun _ => hp) (fun _ => br_f hc hp)
end
