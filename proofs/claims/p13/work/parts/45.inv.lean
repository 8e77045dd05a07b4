section
/-- every self call descends -/
def iv_ds (F N : Nat) (pc bs kd : Nat → Nat) (na : Nat → Int32) : Prop := ∀ p, p < N → kd p = 5 → pr_ag na p = pg_fn F bs p → pr_dn F N pc bs kd na (pg_fn F bs p) p = true
/-- the arguments wa of the call p: their facts -/
def iv_wa (F N : Nat) (pc bs kd : Nat → Nat) (mk na : Nat → Int32) (ps : Nat → Nat) (p : Nat) (wa : Nat → Int64) : Prop :=
  ∀ i, i < pr_ar F pc kd na p → ∀ j k, fx_e N (pr_ar F pc kd na) kd (pr_ag na) (fx_l N (pr_ar F pc kd na) kd (pr_ag na) (pr_z F bs pc) p) (tr_ch N (pr_ar F pc kd na) p i) = some (j, k) → (sz_sz (pr_pt F bs mk (bs (pr_ag na p)) i) (wa i) : Int) + k = ps j
def iv_w (M F N : Nat) (pc rt bs kd : Nat → Nat) (mk na : Nat → Int32) (cb : Nat) (f_code : Int32) (f_calls : Int64) (d : Nat) (cur wf : Int32) (wa lv nv : Nat → Int64) (cn : Nat → Int32) : Prop :=
  (d = 0 ∧ cur = -1 ∧ wf = nI (F - 1) ∧ (∀ i, i < pc (F - 1) → vl_V M (pr_pty mk (F - 1) i) (wa i)) ∧ f_calls = 0) ∨
  (∃ (m : Nat → Nat) (e p : Nat) (wN wS ab : Nat → Int32) (vals env : Nat → Int64) (wT vT eT : Nat), d = e + 1 ∧ cur = nI p ∧ wf = nI (pr_ag na p) ∧ mc_W F N M bs (pr_ar F pc kd na) kd (pr_ag na) (pr_z F bs pc) (pr_pt F bs mk) (pr_rt F bs rt) (pr_gt mk na) m e p wa wN wS vals env lv nv cn ab wT vT eT ∧
    (f_code = 1 → ∃ (ps : Nat → Nat → Nat) (c : Nat), f_calls = lN c ∧ c ≤ cb ∧ gz_I M F N pc rt bs kd mk na m ps e p (gz_o M F N pc rt bs kd mk na m ps e (p + 1) (tr_se N (pr_ar F pc kd na) p)) lv nv c ∧ iv_wa F N pc bs kd mk na (ps e) p wa))
def iv_mode (M F N : Nat) (pc rt bs kd : Nat → Nat) (mk na : Nat → Int32) (cb : Nat) (f_code f_status f_depth f_currentNode f_waitingFunction : Int32) (f_bound f_calls f_fuelLimit : Int64) (a_parents a_childIndexes a_subtreeEnds a_scopeSizes a_callNodes : Nat → Int32) (a_waitingArgs a_levelValues a_nodeValues : Nat → Int64) : Prop :=
  (f_status = 1 → f_code = 1 ∨ f_code = 6) ∧ (f_code = 1 ∨ f_code = 6 → rl_laid F N pc rt bs kd mk na a_parents a_childIndexes a_subtreeEnds a_scopeSizes) ∧ (f_code = 1 → iv_ds F N pc bs kd na) ∧
  (f_code = 1 → f_bound = lN (bd_c bd_C (pr_T M F N pc bs kd na (F - 1)))) ∧ (f_code = 1 → f_status ≠ 3 ∧ ∃ c, f_calls = lN c ∧ c ≤ cb ∧ c ≤ pr_T M F N pc bs kd na (F - 1)) ∧ (f_code = 1 → f_status = 1 → f_fuelLimit = f_bound) ∧
  (f_status = 1 → ∃ d, d ≤ 16 ∧ f_depth = nI d ∧ iv_w M F N pc rt bs kd mk na cb f_code f_calls d f_currentNode f_waitingFunction a_waitingArgs a_levelValues a_nodeValues a_callNodes)
/-- the invariant of the class: at most cb calls are begun since the start -/
def iv_I (cb : Nat) (u : St2) : Prop := match u with
  | (f_sizeCap, f_functionCount, f_nodeCount, f_code, f_faultFunction, f_bound, f_foundParam, f_foundDrop, f_status, f_calls, f_depth, f_fuelLimit, f_begun, f_beginLimit, f_waitingFunction, f_currentNode, f_valueKnown, f_currentValue, a_paramCounts, a_listMasks, a_resultTypes, a_bodyStarts, a_nodeKinds, a_nodeArgs, a_parents, a_childIndexes, a_subtreeEnds, a_scopeSizes, a_levelTypes, a_levelParams, a_levelDrops, a_expectedTypes, a_totals, a_slotTypes, a_slotValues, a_waitingArgs, a_callNodes, a_levelValues, a_nodeValues) => ∃ (M F N : Nat) (pc rt bs kd : Nat → Nat) (mk na : Nat → Int32), (1 ≤ M ∧ M ≤ 12) ∧ pr_in F N pc rt bs kd mk na ∧
    (f_sizeCap = nI M ∧ f_functionCount = nI F ∧ f_nodeCount = nI N ∧ a_paramCounts = (fun i => nI (pc i)) ∧ a_listMasks = mk ∧ a_resultTypes = (fun i => nI (rt i)) ∧ a_bodyStarts = (fun i => nI (bs i)) ∧ a_nodeKinds = (fun i => nI (kd i)) ∧ a_nodeArgs = na) ∧
    rl_sl M a_slotTypes a_slotValues ∧ iv_mode M F N pc rt bs kd mk na cb f_code f_status f_depth f_currentNode f_waitingFunction f_bound f_calls f_fuelLimit a_parents a_childIndexes a_subtreeEnds a_scopeSizes a_callNodes a_waitingArgs a_levelValues a_nodeValues
variable {f_sizeCap f_functionCount f_nodeCount f_code f_faultFunction f_foundParam f_foundDrop f_status f_depth f_begun f_beginLimit f_waitingFunction f_currentNode f_valueKnown : Int32} {f_bound f_calls f_fuelLimit f_currentValue : Int64} {a_paramCounts a_listMasks a_resultTypes a_bodyStarts a_nodeKinds a_nodeArgs a_parents a_childIndexes a_subtreeEnds a_scopeSizes a_levelTypes a_levelParams a_levelDrops a_expectedTypes a_slotTypes a_callNodes : Nat → Int32} {a_totals a_slotValues a_waitingArgs a_levelValues a_nodeValues : Nat → Int64}
variable {M F N k : Nat} {pc rt bs kd : Nat → Nat} {mk na : Nat → Int32}
variable {cb cb' : Nat}
theorem iv_mk (hM : 1 ≤ M ∧ M ≤ 12) (hP : pr_in F N pc rt bs kd mk na) (hS : rl_sl M a_slotTypes a_slotValues) (hm : iv_mode M F N pc rt bs kd mk na cb f_code f_status f_depth f_currentNode f_waitingFunction f_bound f_calls f_fuelLimit a_parents a_childIndexes a_subtreeEnds a_scopeSizes a_callNodes a_waitingArgs a_levelValues a_nodeValues) : iv_I cb ((nI M), (nI F), (nI N), f_code, f_faultFunction, f_bound, f_foundParam, f_foundDrop, f_status, f_calls, f_depth, f_fuelLimit, f_begun, f_beginLimit, f_waitingFunction, f_currentNode, f_valueKnown, f_currentValue, (fun i => nI (pc i)), mk, (fun i => nI (rt i)), (fun i => nI (bs i)), (fun i => nI (kd i)), na, a_parents, a_childIndexes, a_subtreeEnds, a_scopeSizes, a_levelTypes, a_levelParams, a_levelDrops, a_expectedTypes, a_totals, a_slotTypes, a_slotValues, a_waitingArgs, a_callNodes, a_levelValues, a_nodeValues) :=
  ⟨M, F, N, pc, rt, bs, kd, mk, na, hM, hP, ⟨rfl, rfl, rfl, rfl, rfl, rfl, rfl, rfl, rfl⟩, hS, hm⟩
theorem iv_idle (h1 : ¬ f_status = 1) (h3 : f_code = 1 → f_status ≠ 3) (hl : f_code = 1 ∨ f_code = 6 → rl_laid F N pc rt bs kd mk na a_parents a_childIndexes a_subtreeEnds a_scopeSizes) (hd : f_code = 1 → iv_ds F N pc bs kd na) (hb : f_code = 1 → f_bound = lN (bd_c bd_C (pr_T M F N pc bs kd na (F - 1)))) (hc : f_code = 1 → ∃ c, f_calls = lN c ∧ c ≤ cb ∧ c ≤ pr_T M F N pc bs kd na (F - 1)) : iv_mode M F N pc rt bs kd mk na cb f_code f_status f_depth f_currentNode f_waitingFunction f_bound f_calls f_fuelLimit a_parents a_childIndexes a_subtreeEnds a_scopeSizes a_callNodes a_waitingArgs a_levelValues a_nodeValues :=
  ⟨fun y => absurd y h1, hl, hd, hb, fun y => ⟨h3 y, hc y⟩, fun _ y => absurd y h1, fun y => absurd y h1⟩
theorem iv_0 : iv_mode M F N pc rt bs kd mk na cb 0 0 f_depth f_currentNode f_waitingFunction f_bound f_calls f_fuelLimit a_parents a_childIndexes a_subtreeEnds a_scopeSizes a_callNodes a_waitingArgs a_levelValues a_nodeValues :=
  iv_idle (by decide) (fun y => absurd y (by decide)) (fun y => absurd y (by decide)) (fun y => absurd y (by decide)) (fun y => absurd y (by decide)) (fun y => absurd y (by decide))
theorem iv_up (h : cb ≤ cb') {u : St2} (I : iv_I cb u) : iv_I cb' u := by
  obtain ⟨f_sizeCap, f_functionCount, f_nodeCount, f_code, f_faultFunction, f_bound, f_foundParam, f_foundDrop, f_status, f_calls, f_depth, f_fuelLimit, f_begun, f_beginLimit, f_waitingFunction, f_currentNode, f_valueKnown, f_currentValue, a_paramCounts, a_listMasks, a_resultTypes, a_bodyStarts, a_nodeKinds, a_nodeArgs, a_parents, a_childIndexes, a_subtreeEnds, a_scopeSizes, a_levelTypes, a_levelParams, a_levelDrops, a_expectedTypes, a_totals, a_slotTypes, a_slotValues, a_waitingArgs, a_callNodes, a_levelValues, a_nodeValues⟩ := u
  obtain ⟨M, F, N, pc, rt, bs, kd, mk, na, hM, hP, he, hS, h1, h2, h3, h4, h5, h6, h7⟩ := I
  refine ⟨M, F, N, pc, rt, bs, kd, mk, na, hM, hP, he, hS, h1, h2, h3, h4, fun y => ?_, h6, fun y => ?_⟩
  · obtain ⟨a, c, c1, c2, c3⟩ := h5 y
    exact ⟨a, c, c1, by omega, c3⟩
  · obtain ⟨d, d1, d2, d3⟩ := h7 y
    refine ⟨d, d1, d2, ?_⟩
    rcases d3 with d3 | ⟨m, e, p, wN, wS, ab, vals, env, wT, vT, eT, q1, q2, q3, q4, q5⟩
    · exact Or.inl d3
    · refine Or.inr ⟨m, e, p, wN, wS, ab, vals, env, wT, vT, eT, q1, q2, q3, q4, fun y => ?_⟩
      obtain ⟨ps, c, c1, c2, c3⟩ := q5 y
      exact ⟨ps, c, c1, by omega, c3⟩
end
