section
variable {M : Nat} {F : Nat} {N : Nat} {bl : Nat} {cb : Nat} {pc : Nat → Nat} {rt : Nat → Nat} {bs : Nat → Nat} {kd : Nat → Nat} {mk : Nat → Int32} {na : Nat → Int32} {f_code : Int32} {f_faultFunction : Int32} {f_bound : Int64} {f_foundParam : Int32} {f_foundDrop : Int32} {f_fuelLimit : Int64} {a_parents : Nat → Int32} {a_childIndexes : Nat → Int32} {a_subtreeEnds : Nat → Int32} {a_scopeSizes : Nat → Int32} {a_levelTypes : Nat → Int32} {a_levelParams : Nat → Int32} {a_levelDrops : Nat → Int32} {a_expectedTypes : Nat → Int32} {a_totals : Nat → Int64} {a_slotTypes : Nat → Int32} {a_slotValues : Nat → Int64}
variable {m : Nat → Nat} {e : Nat} {n : Nat} {b : Nat} {wT : Nat} {vT : Nat} {eT : Nat} {f_calls : Int64} {f_waitingFunction : Int32} {f_currentValue : Int64} {a_waitingArgs : Nat → Int64} {a_callNodes : Nat → Int32} {a_levelValues : Nat → Int64} {a_nodeValues : Nat → Int64} {y_vals : Nat → Int64} {y_wNode : Nat → Int32} {y_wStep : Nat → Int32} {y_env : Nat → Int64} {y_actBase : Nat → Int32}
theorem vm_core {d : Nat} {f_valueKnown f_currentNode : Int32} {post : Int32 → St2 → Prop} {c0 : Nat} (hM : 1 ≤ M ∧ M ≤ 12) (hP : pr_in F N pc rt bs kd mk na) (hS : rl_sl M a_slotTypes a_slotValues) (hc : f_code = 1 ∨ f_code = 6) (hl : rl_laid F N pc rt bs kd mk na a_parents a_childIndexes a_subtreeEnds a_scopeSizes) (hbl : bl ≤ 200) (hds : f_code = 1 → iv_ds F N pc bs kd na) (hbd : f_code = 1 → f_bound = lN (bd_c bd_C (pr_T M F N pc bs kd na (F - 1)))) (hfl : f_code = 1 → f_fuelLimit = f_bound) (hcb : cb < 1000000) (hcb1 : cb = c0 + 200) (hb1 : 1 ≤ bl) (hd : d ≤ 16) (hw : iv_w M F N pc rt bs kd mk na c0 f_code f_calls d f_currentNode f_waitingFunction a_waitingArgs a_levelValues a_nodeValues a_callNodes)
    (hp : ∀ r x', iv_I cb x' → post r x') : wpX_beginActivation (fun r u => match u with | (f_sizeCap, f_functionCount, f_nodeCount, f_code, f_faultFunction, f_bound, f_foundParam, f_foundDrop, f_status, f_calls, f_depth, f_fuelLimit, f_begun, f_beginLimit, f_waitingFunction, f_currentNode, f_valueKnown, f_currentValue, a_paramCounts, a_listMasks, a_resultTypes, a_bodyStarts, a_nodeKinds, a_nodeArgs, a_parents, a_childIndexes, a_subtreeEnds, a_scopeSizes, a_levelTypes, a_levelParams, a_levelDrops, a_expectedTypes, a_totals, a_slotTypes, a_slotValues, a_waitingArgs, a_callNodes, a_levelValues, a_nodeValues) => ∃ n37, wX_run_37 post n37 r 0 f_sizeCap f_functionCount f_nodeCount f_code f_faultFunction f_bound f_foundParam f_foundDrop f_status f_calls f_depth f_fuelLimit f_begun f_beginLimit f_waitingFunction f_currentNode f_valueKnown f_currentValue a_paramCounts a_listMasks a_resultTypes a_bodyStarts a_nodeKinds a_nodeArgs a_parents a_childIndexes a_subtreeEnds a_scopeSizes a_levelTypes a_levelParams a_levelDrops a_expectedTypes a_totals a_slotTypes a_slotValues a_waitingArgs a_callNodes a_levelValues a_nodeValues) ((nI M), (nI F), (nI N), f_code, f_faultFunction, f_bound, f_foundParam, f_foundDrop, 1, f_calls, (nI d), f_fuelLimit, 0, (nI bl), f_waitingFunction, f_currentNode, f_valueKnown, f_currentValue, (fun i => nI (pc i)), mk, (fun i => nI (rt i)), (fun i => nI (bs i)), (fun i => nI (kd i)), na, a_parents, a_childIndexes, a_subtreeEnds, a_scopeSizes, a_levelTypes, a_levelParams, a_levelDrops, a_expectedTypes, a_totals, a_slotTypes, a_slotValues, a_waitingArgs, a_callNodes, a_levelValues, a_nodeValues) := by
  have fin : (∃ x', iv_I cb x' ∧ ∀ Qz : Int32 → St2 → Prop, Qz 0 x' → wpX_beginActivation Qz ((nI M), (nI F), (nI N), f_code, f_faultFunction, f_bound, f_foundParam, f_foundDrop, 1, f_calls, (nI d), f_fuelLimit, 0, (nI bl), f_waitingFunction, f_currentNode, f_valueKnown, f_currentValue, (fun i => nI (pc i)), mk, (fun i => nI (rt i)), (fun i => nI (bs i)), (fun i => nI (kd i)), na, a_parents, a_childIndexes, a_subtreeEnds, a_scopeSizes, a_levelTypes, a_levelParams, a_levelDrops, a_expectedTypes, a_totals, a_slotTypes, a_slotValues, a_waitingArgs, a_callNodes, a_levelValues, a_nodeValues)) ∨ (∃ x1 u1, u1 ≤ 90000 ∧ lx_D cb x1 u1 ∧ ∀ Qz : Int32 → St2 → Prop, Qz 1 x1 → wpX_beginActivation Qz ((nI M), (nI F), (nI N), f_code, f_faultFunction, f_bound, f_foundParam, f_foundDrop, 1, f_calls, (nI d), f_fuelLimit, 0, (nI bl), f_waitingFunction, f_currentNode, f_valueKnown, f_currentValue, (fun i => nI (pc i)), mk, (fun i => nI (rt i)), (fun i => nI (bs i)), (fun i => nI (kd i)), na, a_parents, a_childIndexes, a_subtreeEnds, a_scopeSizes, a_levelTypes, a_levelParams, a_levelDrops, a_expectedTypes, a_totals, a_slotTypes, a_slotValues, a_waitingArgs, a_callNodes, a_levelValues, a_nodeValues)) := by
    rcases hw with ⟨h1, h2, h3, h4, h5⟩ | ⟨m, e, p, wN, wS, ab, vals, env, wT, vT, eT, h1, h2, h3, h4, h5⟩
    · subst h1 h2 h3
      exact lx_main (u := 90000) hM hP hS hc hl hbl hds hbd hfl hcb (by omega) hb1 (by omega) h4 h5
    · subst h1 h2 h3
      have out := lx_go (u := 90000) (b := 0) (f_valueKnown := f_valueKnown) (f_currentValue := f_currentValue) hM hP hS hc hl hbl hds hbd hfl hcb (fun u1 _ => (lx_all hM hP hS hc hl hbl hds hbd hfl hcb u1 : lx_P M F N bl cb pc rt bs kd mk na f_code f_faultFunction f_bound f_foundParam f_foundDrop f_fuelLimit a_parents a_childIndexes a_subtreeEnds a_scopeSizes a_levelTypes a_levelParams a_levelDrops a_expectedTypes a_totals a_slotTypes a_slotValues u1)) (by omega) (fun r hr h0 _ => by
        have h16 := h4.1.2.1
        unfold ms_ms
        rw [if_neg (by decide), h0]
        omega) h4 (fun y => by
        obtain ⟨ps, c, c1, c2, c3, c4⟩ := h5 y
        exact ⟨ps, c, c1, by omega, c3, c4⟩)
      rcases out with ⟨x', o1, o2⟩ | ⟨x1, u1, o1, o2, o3⟩
      · exact Or.inl ⟨x', o1, o2⟩
      · exact Or.inr ⟨x1, u1, by omega, o2, o3⟩
  rcases fin with ⟨x', o1, o2⟩ | ⟨x1, u1, o1, o2, o3⟩
  · exact o2 _ (rg_0 (hp _ _ o1))
  · exact o3 _ (rg_1 (o2 post (u1 + 2) 0 (by omega) (by omega) (fun x' hx => hp _ _ hx)))
end
section
theorem vm_run {cb : Nat} {u : St2} (I : iv_I cb u) (hcb : cb + 200 < 1000000) {post : Int32 → St2 → Prop} {k : Int32} (hp : ∀ r u', iv_I (cb + 200) u' → post r u') : wpX_run post u k := by
  refine iv_el I (G := fun u => wpX_run post u k) ?_
  intros
  rename_i hM hP hS hm I'
  refine br_c (fun c1 => ?_) (fun c1 => hp _ _ (iv_up (by omega) I'))
  subst c1
  have hc := hm.1 rfl
  have hl := hm.2.1 hc
  obtain ⟨d, hd, e1, hw⟩ := hm.2.2.2.2.2.2 rfl
  subst e1
  refine br_c (fun d1 => br_c (fun d2 => ?_) (fun d2 => ?_)) (fun d1 => ?_)
  · obtain ⟨j, hj, rfl⟩ := nI_of (x := k) (fun y => absurd (Int32.lt_of_lt_of_le y (Int32.le_trans (by decide) d1)) (Int32.lt_irrefl))
    have a1 : 1 ≤ j := (nI_leI (a := 1) (by omega) hj).mp d1
    have a2 : j ≤ 200 := (nI_leI (b := 200) hj (by omega)).mp d2
    exact vm_core (bl := j) hM hP hS hc hl a2 hm.2.2.1 hm.2.2.2.1 (fun y => hm.2.2.2.2.2.1 y rfl) hcb rfl a1 hd hw hp
  · exact vm_core (bl := 200) hM hP hS hc hl (by omega) hm.2.2.1 hm.2.2.2.1 (fun y => hm.2.2.2.2.2.1 y rfl) hcb rfl (by omega) hd hw hp
  · exact vm_core (bl := 1) hM hP hS hc hl (by omega) hm.2.2.1 hm.2.2.2.1 (fun y => hm.2.2.2.2.2.1 y rfl) hcb rfl (by omega) hd hw hp
theorem cd_ds_1 {kd : Nat → Nat} {na : Nat → Int32} {dn : Nat → Bool} {f : Nat} : ∀ t n, cd_ds kd na dn f t n = 1 → ∀ i, i < t → ¬ (kd (n + i) = 5 ∧ na (n + i) = nI f ∧ dn (n + i) = false)
  | 0, _, _, i, hi => by omega
  | t + 1, n, h, i, hi => by
    rw [cd_ds] at h
    split at h
    · exact absurd h (by decide)
    · rename_i e1
      cases i with
      | zero => exact e1
      | succ i => have := cd_ds_1 t (n + 1) h i (by omega); rw [show n + 1 + i = n + (i + 1) by omega] at this; exact this
variable {f_sizeCap f_functionCount f_nodeCount f_code f_faultFunction f_foundParam f_foundDrop f_status f_depth f_begun f_beginLimit f_waitingFunction f_currentNode f_valueKnown : Int32} {f_bound f_calls f_fuelLimit f_currentValue : Int64} {a_paramCounts a_listMasks a_resultTypes a_bodyStarts a_nodeKinds a_nodeArgs a_parents a_childIndexes a_subtreeEnds a_scopeSizes a_levelTypes a_levelParams a_levelDrops a_expectedTypes a_slotTypes a_callNodes : Nat → Int32} {a_totals a_slotValues a_waitingArgs a_levelValues a_nodeValues : Nat → Int64}
variable {M F N k : Nat} {pc rt bs kd : Nat → Nat} {mk na : Nat → Int32}
variable {cb : Nat} {post : Int32 → St2 → Prop}
theorem vm_ds (h : pr_in F N pc rt bs kd mk na) (hl : rl_laid F N pc rt bs kd mk na a_parents a_childIndexes a_subtreeEnds a_scopeSizes) (h1 : (pr_res F N pc rt bs kd mk na).1 = 1) : iv_ds F N pc bs kd na := by
  have hok := hl.2.1
  have q4 : (cd_r (pr_q4 F N pc bs kd na) F 0).1 = 1 := by
    unfold pr_res at h1
    split at h1
    · split at h1
      · split at h1
        · exact h1
        · rename_i y; exact absurd h1 y
      · rename_i y; exact absurd h1 y
    · rename_i y; exact absurd h1 y
  intro p hp hk hf
  have hb := pg_body hok.1 hp
  have a := (cd_r_1 F 0 q4).1 (pg_fn F bs p) hb.1
  rw [Nat.zero_add] at a
  have b := cd_ds_1 _ _ a (p - bs (pg_fn F bs p)) (by omega)
  rw [show bs (pg_fn F bs p) + (p - bs (pg_fn F bs p)) = p by omega] at b
  have c := ((hl.2.2.1 p hp).2 hk).2
  cases hd : pr_dn F N pc bs kd na (pg_fn F bs p) p with
  | true => rfl
  | false => exact absurd ⟨hk, by rw [c, hf], hd⟩ b
theorem vm_compile {u : St2} (I : iv_I cb u) (hp : ∀ r u', iv_I cb u' → post r u') : wpX_compile post u := by
  refine iv_el I (G := fun u => wpX_compile post u) ?_
  intros
  rename_i hM hP hS hm I'
  refine wx_compile hP hM.2 (fun z1 => hp _ _ (iv_mk hM hP hS (iv_idle (by decide) (fun y => absurd y (by decide)) (fun y => absurd y (by decide)) (fun y => absurd y (by decide)) (fun y => absurd y (by decide)) (fun y => absurd y (by decide))))) (fun z1 a b par cx se sc lt lp ld ets tt hl => hp _ _ (iv_mk hM hP hS (iv_idle (by decide) (fun _ => by decide) hl (fun y => vm_ds hP (hl (Or.inl y)) y) (fun y => ?_) (fun y => ⟨0, rfl, Nat.zero_le _, Nat.zero_le _⟩))))
  unfold pr_bnd
  rw [if_pos y]
theorem vm_clear {u : St2} {post : St2 → Prop} (I : iv_I cb u) (hp : ∀ u', iv_I cb u' → post u') : wpX_clearProgram post u := by
  refine iv_el I (G := fun u => wpX_clearProgram post u) ?_
  intros
  rename_i hM hP hS hm I'
  exact hp _ (iv_mk hM (ed_clear hP) hS iv_0)
theorem vm_function {u : St2} {v1 v2 v3 : Int32} (I : iv_I cb u) (hp : ∀ r u', iv_I cb u' → post r u') : wpX_function post u v1 v2 v3 := by
  refine iv_el I (G := fun u => wpX_function post u v1 v2 v3) ?_
  intros
  rename_i M F N pc rt bs kd mk na hM hP hS hm I'
  have h6 := hP.1
  refine br_c (fun _ => hp _ _ I') (fun c1 => br_c (fun _ => hp _ _ I') (fun c2 => br_c (fun c3 => ?_) (fun _ => hp _ _ I')))
  have hF : F < 6 := by
    rcases Nat.lt_or_ge F 6 with w | w
    · exact w
    · exact absurd (show nI F = 6 from by rw [show F = 6 by omega]; rfl) c1
  obtain ⟨p, hp3, rfl⟩ := rl_nat (x := v1) (b := 3) (by omega) (fun y => c2 (Int32.lt_trans y (by decide))) c3
  have hp1 : 1 ≤ p := by
    rcases Nat.lt_or_ge 0 p with w | w
    · exact w
    · exact absurd (show nI p < 1 from by rw [show p = 0 by omega]; decide) c2
  have e : (nI F).toNatClampNeg = F := nI_clamp (by omega)
  have hv : vp_in (nI F) 6 := vp_in_nI hF (by omega)
  refine br_c (fun c4 => ?_) (fun c4 => br_c (fun c5 => ?_) (fun _ => hp _ _ I'))
  · subst c4
    unfold wX_function_32
    rw [e, ed_nI, show (0 : Int32) = nI 0 from rfl, ed_nI, ed_nI]
    exact ⟨hv, nm_e ⟨hv, nm_e ⟨hv, nm_e ⟨hv, nm_e (nm_r (nI_1 F) (hp _ _ (iv_mk hM (ed_fun hP hF hp1 hp3 (r := 0) (by omega) _) hS iv_0)))⟩⟩⟩⟩
  · subst c5
    unfold wX_function_32
    rw [e, ed_nI, show (1 : Int32) = nI 1 from rfl, ed_nI, ed_nI]
    exact ⟨hv, nm_e ⟨hv, nm_e ⟨hv, nm_e ⟨hv, nm_e (nm_r (nI_1 F) (hp _ _ (iv_mk hM (ed_fun hP hF hp1 hp3 (r := 1) (by omega) _) hS iv_0)))⟩⟩⟩⟩
theorem vm_node {u : St2} {v1 v2 : Int32} (I : iv_I cb u) (hp : ∀ r u', iv_I cb u' → post r u') : wpX_node post u v1 v2 := by
  refine iv_el I (G := fun u => wpX_node post u v1 v2) ?_
  intros
  rename_i M F N pc rt bs kd mk na hM hP hS hm I'
  have h6 := hP.1
  have h64 := hP.2.1
  refine br_c (fun _ => hp _ _ I') (fun c1 => br_c (fun _ => hp _ _ I') (fun c2 => br_c (fun _ => hp _ _ I') (fun c3 => br_c (fun c4 => ?_) (fun _ => hp _ _ I'))))
  have hF : 0 < F := by
    rcases Nat.lt_or_ge 0 F with w | w
    · exact w
    · exact absurd (show nI F = 0 from by rw [show F = 0 by omega]; rfl) c1
  have hN : N < 64 := by
    rcases Nat.lt_or_ge N 64 with w | w
    · exact w
    · exact absurd (show nI N = 64 from by rw [show N = 64 by omega]; rfl) c2
  obtain ⟨q, hq, rfl⟩ := rl_nat (x := v1) (b := 7) (by omega) c3 c4
  have e : (nI N).toNatClampNeg = N := nI_clamp (by omega)
  have hv : vp_in (nI N) 64 := vp_in_nI hN (by omega)
  refine ⟨hv, ?_⟩
  rw [e, ed_nI]
  exact nm_e ⟨hv, nm_e (nm_r (nI_1 N) (hp _ _ (iv_mk hM (ed_node hP hF hN hq _) hS iv_0)))⟩
theorem vm_input {u : St2} {v1 v2 v3 : Int32} (I : iv_I cb u) (hp : ∀ r u', iv_I cb u' → post r u') : wpX_input post u v1 v2 v3 := by
  refine iv_el I (G := fun u => wpX_input post u v1 v2 v3) ?_
  intros
  rename_i a_slotTypes a_slotValues _ _ _ _ M F N pc rt bs kd mk na hM hP hS hm I'
  refine br_c (fun _ => hp _ _ I') (fun a1 => br_c (fun a2 => ?_) (fun _ => hp _ _ I'))
  obtain ⟨s, hs', rfl⟩ := nI_of a1
  have hs : s < 3 := (nI_ltI (b := 3) hs' (by omega)).mp a2
  have e : (nI s).toNatClampNeg = s := nI_clamp (by omega)
  have hvi : vp_in (nI s) 3 := vp_in_nI hs (by omega)
  refine br_c (fun _ => hp _ _ I') (fun b1 => br_c (fun _ => hp _ _ I') (fun b2 => ?_))
  refine br_c (fun c0 => ?_) (fun c0 => br_c (fun c1 => ?_) (fun c1 => br_c (fun c2 => ?_) (fun c2 => trivial)))
  · refine br_c (fun _ => ⟨rfl, hp _ _ I'⟩) (fun d1 => br_c (fun d2 => ?_) (fun _ => ⟨rfl, hp _ _ I'⟩))
    obtain ⟨q, hq, rfl⟩ := rl_nat (x := v3) (by omega) d1 d2
    refine ⟨hvi, ?_⟩
    rw [e, nI_l (by omega)]
    exact nm_e ⟨hvi, nm_e ⟨rfl, hp _ _ (iv_mk hM hP (rl_slu hS (ty := 0) (by omega) (vl_nat hq)) hm)⟩⟩
  · refine ⟨hvi, ?_⟩
    rw [e]
    exact nm_e ⟨hvi, nm_e (hp _ _ (iv_mk hM hP (rl_slu hS (ty := 1) (by omega) (vl_list (by omega) (vl_nil_ok M))) hm))⟩
  · obtain ⟨ty, t1, t2, t3⟩ := hS s hs
    refine ⟨hvi, ?_⟩
    rw [e]
    rcases (show ty = 0 ∨ ty = 1 by omega) with w | w
    · subst w
      have t2' : a_slotTypes s = 0 := t2
      exact br_f (by rw [t2']; decide) ⟨rfl, hp _ _ I'⟩
    · subst w
      have t2' : a_slotTypes s = 1 := t2
      obtain ⟨l, l1, l2⟩ := t3.2 (by omega)
      have h12 := l1.1
      refine br_t t2' (br_c (fun _ => ⟨rfl, hp _ _ I'⟩) (fun d1 => br_c (fun d2 => ⟨hvi, ?_⟩) (fun _ => ⟨rfl, hp _ _ I'⟩)))
      obtain ⟨q, hq, rfl⟩ := rl_nat (x := v3) (by omega) d1 d2
      show ((a_slotValues s &&& 15).toInt32 = nI M → _) ∧ _
      rw [l2, vw_len hM.2 l1]
      refine pk_eq l.length M (fun _ => ⟨rfl, hp _ _ I'⟩) (fun d3 => ⟨hvi, ?_⟩)
      rw [nI_l (by omega)]
      exact wx_cons hM.2 l1 hq ⟨hvi, nm_e ⟨rfl, hp _ _ (iv_mk hM hP (rl_slv hS t2' (vl_list (by omega) (vl_cons_ok l1 hq (by omega)))) hm)⟩⟩
theorem vm_start19 (hM : 1 ≤ M ∧ M ≤ 12) (hP : pr_in F N pc rt bs kd mk na) (hS : rl_sl M a_slotTypes a_slotValues) (hm : iv_mode M F N pc rt bs kd mk na cb f_code f_status f_depth f_currentNode f_waitingFunction f_bound f_calls f_fuelLimit a_parents a_childIndexes a_subtreeEnds a_scopeSizes a_callNodes a_waitingArgs a_levelValues a_nodeValues) (hc : f_code = 1 ∨ f_code = 6) (I' : iv_I cb ((nI M), (nI F), (nI N), f_code, f_faultFunction, f_bound, f_foundParam, f_foundDrop, f_status, f_calls, f_depth, f_fuelLimit, f_begun, f_beginLimit, f_waitingFunction, f_currentNode, f_valueKnown, f_currentValue, (fun i => nI (pc i)), mk, (fun i => nI (rt i)), (fun i => nI (bs i)), (fun i => nI (kd i)), na, a_parents, a_childIndexes, a_subtreeEnds, a_scopeSizes, a_levelTypes, a_levelParams, a_levelDrops, a_expectedTypes, a_totals, a_slotTypes, a_slotValues, a_waitingArgs, a_callNodes, a_levelValues, a_nodeValues)) (v1 : Int32) (hp : ∀ r u', iv_I cb u' → post r u') : wX_start_19 post v1 (nI M) (nI F) (nI N) f_code f_faultFunction f_bound f_foundParam f_foundDrop f_status f_calls f_depth f_fuelLimit f_begun f_beginLimit f_waitingFunction f_currentNode f_valueKnown f_currentValue (fun i => nI (pc i)) mk (fun i => nI (rt i)) (fun i => nI (bs i)) (fun i => nI (kd i)) na a_parents a_childIndexes a_subtreeEnds a_scopeSizes a_levelTypes a_levelParams a_levelDrops a_expectedTypes a_totals a_slotTypes a_slotValues a_waitingArgs a_callNodes a_levelValues a_nodeValues := by
  have hl := hm.2.1 hc
  have hF := hl.1
  have hp3 := hP.2.2.1 (F - 1)
  refine nm_r (rl_Fm hF) (wx_inputsFit hP (by omega) (fun fit => br_f (by decide) ?_) (fun nf => br_t rfl (hp _ _ I')))
  have go : ∀ fl : Int64, (f_code = 1 → fl = f_bound) → ∃ n69, wX_start_69 post (nI (F - 1)) (nI M) (nI F) (nI N) f_code f_faultFunction f_bound f_foundParam f_foundDrop 0 0 0 fl f_begun f_beginLimit f_waitingFunction f_currentNode f_valueKnown f_currentValue n69 0 (fun i => nI (pc i)) mk (fun i => nI (rt i)) (fun i => nI (bs i)) (fun i => nI (kd i)) na a_parents a_childIndexes a_subtreeEnds a_scopeSizes a_levelTypes a_levelParams a_levelDrops a_expectedTypes a_totals a_slotTypes a_slotValues a_waitingArgs a_callNodes a_levelValues a_nodeValues := by
    intro fl hfl
    refine ⟨4, wx_st69 (f_status := 0) (f_calls := 0) (f_depth := 0) (f_fuelLimit := fl) hP (f := F - 1) (by omega) (fun wa hwa => hp _ _ (iv_mk hM hP hS ⟨fun _ => hc, fun _ => hl, hm.2.2.1, hm.2.2.2.1, fun _ => ⟨by decide, 0, rfl, Nat.zero_le _, Nat.zero_le _⟩, fun y _ => hfl y, fun _ => ⟨0, by omega, rfl, Or.inl ⟨rfl, rfl, rfl, fun i hi => ?_, rfl⟩⟩⟩)) (pc (F - 1)) 0 4 _ (by omega) (by omega) (fun j hj => by omega)⟩
    obtain ⟨ty, t1, t2, t3⟩ := hS i (by omega)
    have e := fit i hi
    rw [t2] at e
    have h2 := pr_pty2 (mk := mk) (F - 1) i
    have : ty = pr_pty mk (F - 1) i := (nI_eq (by omega) (by omega)).mp e
    rw [← this, hwa i hi]
    exact t3
  exact br_c (fun c1 => go f_bound (fun _ => rfl)) (fun c1 => br_c (fun d1 => br_c (fun d2 => go _ (fun y => absurd y c1)) (fun d2 => go _ (fun y => absurd y c1))) (fun d1 => go _ (fun y => absurd y c1)))
theorem vm_start {u : St2} {v1 : Int32} (I : iv_I cb u) (hp : ∀ r u', iv_I cb u' → post r u') : wpX_start post u v1 := by
  refine iv_el I (G := fun u => wpX_start post u v1) ?_
  intros
  rename_i hM hP hS hm I'
  exact br_c (fun c1 => vm_start19 hM hP hS hm (Or.inl c1) I' v1 hp) (fun c1 => br_c (fun c2 => vm_start19 hM hP hS hm (Or.inr c2) I' v1 hp) (fun c2 => hp _ _ I'))
end
