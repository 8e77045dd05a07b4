section
variable {f_sizeCap f_functionCount f_nodeCount f_code f_faultFunction f_foundParam f_foundDrop f_status f_depth f_begun f_beginLimit f_waitingFunction f_currentNode f_valueKnown : Int32} {f_bound f_calls f_fuelLimit f_currentValue : Int64} {a_paramCounts a_listMasks a_resultTypes a_bodyStarts a_nodeKinds a_nodeArgs a_parents a_childIndexes a_subtreeEnds a_scopeSizes a_levelTypes a_levelParams a_levelDrops a_expectedTypes a_slotTypes a_callNodes : Nat → Int32} {a_totals a_slotValues a_waitingArgs a_levelValues a_nodeValues : Nat → Int64}
variable {M F N k : Nat} {pc rt bs kd : Nat → Nat} {mk na : Nat → Int32}
variable {Q : Int32 → St2 → Prop} {e n p : Nat}
theorem xm_45 (e : Nat) : (nI (e + 1) - 1) * 45 = nI (45 * e) := by
  rw [nI_pred, show (45 : Int32) = nI 45 from rfl, pk_mul, Nat.mul_comm]
theorem xm_64 (e : Nat) : (nI (e + 1) - 1) * 64 = nI (64 * e) := by
  rw [nI_pred, show (64 : Int32) = nI 64 from rfl, pk_mul, Nat.mul_comm]
theorem xe_var (h : pr_in F N pc rt bs kd mk na) (hn : n < N) (hk : kd n = 0) {x : Nat} (ha : na n = nI x) (hx : x < 45) (he : e < 16) (hp : Q 1 ((nI M), (nI F), (nI N), f_code, f_faultFunction, f_bound, f_foundParam, f_foundDrop, f_status, f_calls, (nI (e + 1)), f_fuelLimit, f_begun, f_beginLimit, f_waitingFunction, (nI n), 1, (a_levelValues (45 * e + x)), (fun i => nI (pc i)), mk, (fun i => nI (rt i)), (fun i => nI (bs i)), (fun i => nI (kd i)), na, a_parents, a_childIndexes, a_subtreeEnds, a_scopeSizes, a_levelTypes, a_levelParams, a_levelDrops, a_expectedTypes, a_totals, a_slotTypes, a_slotValues, a_waitingArgs, a_callNodes, a_levelValues, a_nodeValues)) : wpX_enterNode Q ((nI M), (nI F), (nI N), f_code, f_faultFunction, f_bound, f_foundParam, f_foundDrop, f_status, f_calls, (nI (e + 1)), f_fuelLimit, f_begun, f_beginLimit, f_waitingFunction, (nI n), f_valueKnown, f_currentValue, (fun i => nI (pc i)), mk, (fun i => nI (rt i)), (fun i => nI (bs i)), (fun i => nI (kd i)), na, a_parents, a_childIndexes, a_subtreeEnds, a_scopeSizes, a_levelTypes, a_levelParams, a_levelDrops, a_expectedTypes, a_totals, a_slotTypes, a_slotValues, a_waitingArgs, a_callNodes, a_levelValues, a_nodeValues) := by
  have h64 := h.2.1
  have e1 : (nI n).toNatClampNeg = n := nI_clamp (by omega)
  have hv : vp_in (nI n) 64 := vp_in_nI (by omega) (by omega)
  have e2 : (nI (45 * e + x)).toNatClampNeg = 45 * e + x := nI_clamp (by omega)
  refine nm_r (xm_45 e) ⟨hv, ?_⟩
  rw [e1, ha, nI_add, e2]
  refine nm_r (e' := 0) (congrArg nI hk) (br_f (by decide) (br_f (by decide) (br_t rfl ⟨hv, vp_in_nI (by omega) (by omega), rfl, hp⟩)))
theorem xe_leaf (h : pr_in F N pc rt bs kd mk na) (hn : n < N) (hk : kd n = 1 ∨ kd n = 3) (hp : Q 1 ((nI M), (nI F), (nI N), f_code, f_faultFunction, f_bound, f_foundParam, f_foundDrop, f_status, f_calls, f_depth, f_fuelLimit, f_begun, f_beginLimit, f_waitingFunction, (nI n), 1, 0, (fun i => nI (pc i)), mk, (fun i => nI (rt i)), (fun i => nI (bs i)), (fun i => nI (kd i)), na, a_parents, a_childIndexes, a_subtreeEnds, a_scopeSizes, a_levelTypes, a_levelParams, a_levelDrops, a_expectedTypes, a_totals, a_slotTypes, a_slotValues, a_waitingArgs, a_callNodes, a_levelValues, a_nodeValues)) : wpX_enterNode Q ((nI M), (nI F), (nI N), f_code, f_faultFunction, f_bound, f_foundParam, f_foundDrop, f_status, f_calls, f_depth, f_fuelLimit, f_begun, f_beginLimit, f_waitingFunction, (nI n), f_valueKnown, f_currentValue, (fun i => nI (pc i)), mk, (fun i => nI (rt i)), (fun i => nI (bs i)), (fun i => nI (kd i)), na, a_parents, a_childIndexes, a_subtreeEnds, a_scopeSizes, a_levelTypes, a_levelParams, a_levelDrops, a_expectedTypes, a_totals, a_slotTypes, a_slotValues, a_waitingArgs, a_callNodes, a_levelValues, a_nodeValues) := by
  have h64 := h.2.1
  have e1 : (nI n).toNatClampNeg = n := nI_clamp (by omega)
  refine nm_e ⟨vp_in_nI (by omega) (by omega), ?_⟩
  rw [e1]
  rcases hk with k | k
  · exact nm_r (e' := 1) (congrArg nI k) (br_f (by decide) (br_f (by decide) (br_f (by decide) (br_t rfl ⟨rfl, hp⟩))))
  · exact nm_r (e' := 3) (congrArg nI k) (br_f (by decide) (br_f (by decide) (br_f (by decide) (br_f (by decide) (br_f (by decide) (br_t rfl ⟨rfl, hp⟩))))))
theorem xe_down (h : pr_in F N pc rt bs kd mk na) (hn : n < N) (hk : kd n ≠ 0 ∧ kd n ≠ 1 ∧ kd n ≠ 3) (hp : Q 1 ((nI M), (nI F), (nI N), f_code, f_faultFunction, f_bound, f_foundParam, f_foundDrop, f_status, f_calls, f_depth, f_fuelLimit, f_begun, f_beginLimit, f_waitingFunction, (nI (n + 1)), 0, f_currentValue, (fun i => nI (pc i)), mk, (fun i => nI (rt i)), (fun i => nI (bs i)), (fun i => nI (kd i)), na, a_parents, a_childIndexes, a_subtreeEnds, a_scopeSizes, a_levelTypes, a_levelParams, a_levelDrops, a_expectedTypes, a_totals, a_slotTypes, a_slotValues, a_waitingArgs, a_callNodes, a_levelValues, a_nodeValues)) : wpX_enterNode Q ((nI M), (nI F), (nI N), f_code, f_faultFunction, f_bound, f_foundParam, f_foundDrop, f_status, f_calls, f_depth, f_fuelLimit, f_begun, f_beginLimit, f_waitingFunction, (nI n), f_valueKnown, f_currentValue, (fun i => nI (pc i)), mk, (fun i => nI (rt i)), (fun i => nI (bs i)), (fun i => nI (kd i)), na, a_parents, a_childIndexes, a_subtreeEnds, a_scopeSizes, a_levelTypes, a_levelParams, a_levelDrops, a_expectedTypes, a_totals, a_slotTypes, a_slotValues, a_waitingArgs, a_callNodes, a_levelValues, a_nodeValues) := by
  have h64 := h.2.1
  have h7 := h.2.2.2.2.2.1 n
  have e1 : (nI n).toNatClampNeg = n := nI_clamp (by omega)
  have go : wX_enterNode_93 Q (nI M) (nI F) (nI N) f_code f_faultFunction f_bound f_foundParam f_foundDrop f_status f_calls f_depth f_fuelLimit f_begun f_beginLimit f_waitingFunction (nI n) f_valueKnown f_currentValue (fun i => nI (pc i)) mk (fun i => nI (rt i)) (fun i => nI (bs i)) (fun i => nI (kd i)) na a_parents a_childIndexes a_subtreeEnds a_scopeSizes a_levelTypes a_levelParams a_levelDrops a_expectedTypes a_totals a_slotTypes a_slotValues a_waitingArgs a_callNodes a_levelValues a_nodeValues := by
    unfold wX_enterNode_93
    rw [nI_1]
    exact ⟨rfl, hp⟩
  refine nm_e ⟨vp_in_nI (by omega) (by omega), ?_⟩
  rw [e1]
  refine nm_e (br_f (nI_pos (by omega)) (pk_lt 3 (kd n) (fun _ => go) (fun c => ?_)))
  have k2 : kd n = 2 := by omega
  refine pk_eq (kd n) 0 (fun c => by omega) (fun c => pk_eq (kd n) 1 (fun c => by omega) (fun c => pk_eq (kd n) 2 (fun _ => go) (fun c => by omega)))
-- a value goes up
theorem xh_root (h : pr_in F N pc rt bs kd mk na) (hn : n < N) (hpn : a_parents n = -1) (h0 : e = 0 → Q 0 ((nI M), (nI F), (nI N), f_code, f_faultFunction, f_bound, f_foundParam, f_foundDrop, 2, f_calls, 0, f_fuelLimit, f_begun, f_beginLimit, f_waitingFunction, (nI n), f_valueKnown, f_currentValue, (fun i => nI (pc i)), mk, (fun i => nI (rt i)), (fun i => nI (bs i)), (fun i => nI (kd i)), na, a_parents, a_childIndexes, a_subtreeEnds, a_scopeSizes, a_levelTypes, a_levelParams, a_levelDrops, a_expectedTypes, a_totals, a_slotTypes, a_slotValues, a_waitingArgs, a_callNodes, a_levelValues, a_nodeValues)) (h1 : e ≠ 0 → Q 1 ((nI M), (nI F), (nI N), f_code, f_faultFunction, f_bound, f_foundParam, f_foundDrop, f_status, f_calls, (nI e), f_fuelLimit, f_begun, f_beginLimit, f_waitingFunction, (a_callNodes e), 1, f_currentValue, (fun i => nI (pc i)), mk, (fun i => nI (rt i)), (fun i => nI (bs i)), (fun i => nI (kd i)), na, a_parents, a_childIndexes, a_subtreeEnds, a_scopeSizes, a_levelTypes, a_levelParams, a_levelDrops, a_expectedTypes, a_totals, a_slotTypes, a_slotValues, a_waitingArgs, a_callNodes, a_levelValues, a_nodeValues)) (he : e < 16) : wpX_handValueUp Q ((nI M), (nI F), (nI N), f_code, f_faultFunction, f_bound, f_foundParam, f_foundDrop, f_status, f_calls, (nI (e + 1)), f_fuelLimit, f_begun, f_beginLimit, f_waitingFunction, (nI n), f_valueKnown, f_currentValue, (fun i => nI (pc i)), mk, (fun i => nI (rt i)), (fun i => nI (bs i)), (fun i => nI (kd i)), na, a_parents, a_childIndexes, a_subtreeEnds, a_scopeSizes, a_levelTypes, a_levelParams, a_levelDrops, a_expectedTypes, a_totals, a_slotTypes, a_slotValues, a_waitingArgs, a_callNodes, a_levelValues, a_nodeValues) := by
  have h64 := h.2.1
  have e1 : (nI n).toNatClampNeg = n := nI_clamp (by omega)
  have e2 : (nI e).toNatClampNeg = e := nI_clamp (by omega)
  refine ⟨vp_in_nI (by omega) (by omega), ?_⟩
  rw [e1]
  refine nm_r hpn (br_t rfl (nm_r (nI_pred e) (pk_eq e 0 (fun c => ⟨rfl, rfl, ?_⟩) (fun c => ⟨vp_in_nI he (by omega), ?_⟩))))
  · have := h0 c
    subst c
    exact this
  · rw [e2]
    exact ⟨rfl, rfl, h1 c⟩
theorem xh_succ (h : pr_in F N pc rt bs kd mk na) (hn : n < N) (hpl : p < N) (hpn : a_parents n = nI p) (hk : kd p = 2) (h0 : f_currentValue = (nI M).toInt64 → Q 0 ((nI M), (nI F), (nI N), f_code, f_faultFunction, f_bound, f_foundParam, f_foundDrop, 4, f_calls, f_depth, f_fuelLimit, f_begun, f_beginLimit, f_waitingFunction, (nI n), f_valueKnown, f_currentValue, (fun i => nI (pc i)), mk, (fun i => nI (rt i)), (fun i => nI (bs i)), (fun i => nI (kd i)), na, a_parents, a_childIndexes, a_subtreeEnds, a_scopeSizes, a_levelTypes, a_levelParams, a_levelDrops, a_expectedTypes, a_totals, a_slotTypes, a_slotValues, a_waitingArgs, a_callNodes, a_levelValues, a_nodeValues)) (h1 : ¬ f_currentValue = (nI M).toInt64 → Q 1 ((nI M), (nI F), (nI N), f_code, f_faultFunction, f_bound, f_foundParam, f_foundDrop, f_status, f_calls, f_depth, f_fuelLimit, f_begun, f_beginLimit, f_waitingFunction, (nI p), 1, (f_currentValue + 1), (fun i => nI (pc i)), mk, (fun i => nI (rt i)), (fun i => nI (bs i)), (fun i => nI (kd i)), na, a_parents, a_childIndexes, a_subtreeEnds, a_scopeSizes, a_levelTypes, a_levelParams, a_levelDrops, a_expectedTypes, a_totals, a_slotTypes, a_slotValues, a_waitingArgs, a_callNodes, a_levelValues, a_nodeValues)) : wpX_handValueUp Q ((nI M), (nI F), (nI N), f_code, f_faultFunction, f_bound, f_foundParam, f_foundDrop, f_status, f_calls, f_depth, f_fuelLimit, f_begun, f_beginLimit, f_waitingFunction, (nI n), f_valueKnown, f_currentValue, (fun i => nI (pc i)), mk, (fun i => nI (rt i)), (fun i => nI (bs i)), (fun i => nI (kd i)), na, a_parents, a_childIndexes, a_subtreeEnds, a_scopeSizes, a_levelTypes, a_levelParams, a_levelDrops, a_expectedTypes, a_totals, a_slotTypes, a_slotValues, a_waitingArgs, a_callNodes, a_levelValues, a_nodeValues) := by
  have h64 := h.2.1
  have e1 : (nI n).toNatClampNeg = n := nI_clamp (by omega)
  have e2 : (nI p).toNatClampNeg = p := nI_clamp (by omega)
  refine ⟨vp_in_nI (by omega) (by omega), ?_⟩
  rw [e1]
  refine nm_r hpn (br_f (wx_no p (by omega)) ⟨vp_in_nI (by omega) (by omega), ?_⟩)
  rw [e2]
  refine nm_r (e' := 2) (congrArg nI hk) (br_f (by decide) (br_f (by decide) (br_t rfl ?_)))
  exact br_c (fun c => ⟨rfl, rfl, h0 c⟩) (fun c => ⟨rfl, rfl, h1 c⟩)
theorem xh_cons0 (h : pr_in F N pc rt bs kd mk na) (hn : n < N) (hpl : p < N) (hpn : a_parents n = nI p) (hk : kd p = 4) (he : e < 16) (hc : a_childIndexes n = 0) {q : Nat} (hs : a_subtreeEnds n = nI q) (hp : Q 1 ((nI M), (nI F), (nI N), f_code, f_faultFunction, f_bound, f_foundParam, f_foundDrop, f_status, f_calls, (nI (e + 1)), f_fuelLimit, f_begun, f_beginLimit, f_waitingFunction, (nI q), 0, f_currentValue, (fun i => nI (pc i)), mk, (fun i => nI (rt i)), (fun i => nI (bs i)), (fun i => nI (kd i)), na, a_parents, a_childIndexes, a_subtreeEnds, a_scopeSizes, a_levelTypes, a_levelParams, a_levelDrops, a_expectedTypes, a_totals, a_slotTypes, a_slotValues, a_waitingArgs, a_callNodes, a_levelValues, (vp_updL a_nodeValues (64 * e + n) f_currentValue))) : wpX_handValueUp Q ((nI M), (nI F), (nI N), f_code, f_faultFunction, f_bound, f_foundParam, f_foundDrop, f_status, f_calls, (nI (e + 1)), f_fuelLimit, f_begun, f_beginLimit, f_waitingFunction, (nI n), f_valueKnown, f_currentValue, (fun i => nI (pc i)), mk, (fun i => nI (rt i)), (fun i => nI (bs i)), (fun i => nI (kd i)), na, a_parents, a_childIndexes, a_subtreeEnds, a_scopeSizes, a_levelTypes, a_levelParams, a_levelDrops, a_expectedTypes, a_totals, a_slotTypes, a_slotValues, a_waitingArgs, a_callNodes, a_levelValues, a_nodeValues) := by
  have h64 := h.2.1
  have e1 : (nI n).toNatClampNeg = n := nI_clamp (by omega)
  have e2 : (nI p).toNatClampNeg = p := nI_clamp (by omega)
  have e3 : (nI (64 * e + n)).toNatClampNeg = 64 * e + n := nI_clamp (by omega)
  have hv : vp_in (nI n) 64 := vp_in_nI (by omega) (by omega)
  refine ⟨hv, ?_⟩
  rw [e1]
  refine nm_r hpn (br_f (wx_no p (by omega)) ⟨vp_in_nI (by omega) (by omega), ?_⟩)
  rw [e2]
  refine nm_r (e' := 4) (congrArg nI hk) (br_f (by decide) (br_f (by decide) (br_f (by decide) (br_f (by decide) (br_t rfl ?_)))))
  refine nm_r (xm_64 e) ⟨hv, ?_⟩
  rw [e1, nI_add, e3]
  refine br_t hc ⟨vp_in_nI (by omega) (by omega), nm_e ⟨hv, ?_⟩⟩
  rw [hs]
  exact ⟨rfl, rfl, hp⟩
theorem xh_cons1 (h : pr_in F N pc rt bs kd mk na) (hM : M ≤ 12) (hn : n < N) (hpl : p + 1 < N) (hpn : a_parents n = nI p) (hk : kd p = 4) (he : e < 16) (hc : ¬ a_childIndexes n = 0) {l : List Nat} {x : Nat} (hl : vl_ok M l) (hv1 : f_currentValue = lN (vl_enc l)) (hx : x ≤ M) (hv2 : a_nodeValues (64 * e + (p + 1)) = lN x)
    (h0 : l.length = M → Q 0 ((nI M), (nI F), (nI N), f_code, f_faultFunction, f_bound, f_foundParam, f_foundDrop, 4, f_calls, (nI (e + 1)), f_fuelLimit, f_begun, f_beginLimit, f_waitingFunction, (nI n), f_valueKnown, f_currentValue, (fun i => nI (pc i)), mk, (fun i => nI (rt i)), (fun i => nI (bs i)), (fun i => nI (kd i)), na, a_parents, a_childIndexes, a_subtreeEnds, a_scopeSizes, a_levelTypes, a_levelParams, a_levelDrops, a_expectedTypes, a_totals, a_slotTypes, a_slotValues, a_waitingArgs, a_callNodes, a_levelValues, a_nodeValues)) (h1 : l.length ≠ M → Q 1 ((nI M), (nI F), (nI N), f_code, f_faultFunction, f_bound, f_foundParam, f_foundDrop, f_status, f_calls, (nI (e + 1)), f_fuelLimit, f_begun, f_beginLimit, f_waitingFunction, (nI p), 1, (lN (vl_enc (x :: l))), (fun i => nI (pc i)), mk, (fun i => nI (rt i)), (fun i => nI (bs i)), (fun i => nI (kd i)), na, a_parents, a_childIndexes, a_subtreeEnds, a_scopeSizes, a_levelTypes, a_levelParams, a_levelDrops, a_expectedTypes, a_totals, a_slotTypes, a_slotValues, a_waitingArgs, a_callNodes, a_levelValues, a_nodeValues)) : wpX_handValueUp Q ((nI M), (nI F), (nI N), f_code, f_faultFunction, f_bound, f_foundParam, f_foundDrop, f_status, f_calls, (nI (e + 1)), f_fuelLimit, f_begun, f_beginLimit, f_waitingFunction, (nI n), f_valueKnown, f_currentValue, (fun i => nI (pc i)), mk, (fun i => nI (rt i)), (fun i => nI (bs i)), (fun i => nI (kd i)), na, a_parents, a_childIndexes, a_subtreeEnds, a_scopeSizes, a_levelTypes, a_levelParams, a_levelDrops, a_expectedTypes, a_totals, a_slotTypes, a_slotValues, a_waitingArgs, a_callNodes, a_levelValues, a_nodeValues) := by
  have h64 := h.2.1
  have h12 := hl.1
  have e1 : (nI n).toNatClampNeg = n := nI_clamp (by omega)
  have e2 : (nI p).toNatClampNeg = p := nI_clamp (by omega)
  have e3 : (nI (64 * e + (p + 1))).toNatClampNeg = 64 * e + (p + 1) := nI_clamp (by omega)
  have e4 : nI (64 * e) + nI p + 1 = nI (64 * e + (p + 1)) := by rw [nI_add, nI_1]; rfl
  have hv : vp_in (nI n) 64 := vp_in_nI (by omega) (by omega)
  refine ⟨hv, ?_⟩
  rw [e1]
  refine nm_r hpn (br_f (wx_no p (by omega)) ⟨vp_in_nI (by omega) (by omega), ?_⟩)
  rw [e2]
  refine nm_r (e' := 4) (congrArg nI hk) (br_f (by decide) (br_f (by decide) (br_f (by decide) (br_f (by decide) (br_t rfl ?_)))))
  refine nm_r (xm_64 e) ⟨hv, ?_⟩
  rw [e1, e4, e3]
  refine br_f hc ?_
  show ((f_currentValue &&& 15).toInt32 = nI M → _) ∧ _
  rw [hv1, vw_len hM hl]
  rw [hv1] at h0
  refine pk_eq l.length M (fun c => ⟨rfl, rfl, h0 c⟩) (fun c => ⟨vp_in_nI (by omega) (by omega), ?_⟩)
  rw [hv2]
  exact wx_cons hM hl hx ⟨rfl, rfl, h1 c⟩
theorem xh_case (h : pr_in F N pc rt bs kd mk na) (hn : n < N) (hpl : p < N) (hpn : a_parents n = nI p) (hk : kd p = 6 ∨ kd p = 7) (hp : wpX_handToCase (fun r u => match u with | (f_sizeCap, f_functionCount, f_nodeCount, f_code, f_faultFunction, f_bound, f_foundParam, f_foundDrop, f_status, f_calls, f_depth, f_fuelLimit, f_begun, f_beginLimit, f_waitingFunction, f_currentNode, f_valueKnown, f_currentValue, a_paramCounts, a_listMasks, a_resultTypes, a_bodyStarts, a_nodeKinds, a_nodeArgs, a_parents, a_childIndexes, a_subtreeEnds, a_scopeSizes, a_levelTypes, a_levelParams, a_levelDrops, a_expectedTypes, a_totals, a_slotTypes, a_slotValues, a_waitingArgs, a_callNodes, a_levelValues, a_nodeValues) => (narrow .boolean (.int r) = .int r ∧ (Q r (f_sizeCap, f_functionCount, f_nodeCount, f_code, f_faultFunction, f_bound, f_foundParam, f_foundDrop, f_status, f_calls, f_depth, f_fuelLimit, f_begun, f_beginLimit, f_waitingFunction, f_currentNode, f_valueKnown, f_currentValue, a_paramCounts, a_listMasks, a_resultTypes, a_bodyStarts, a_nodeKinds, a_nodeArgs, a_parents, a_childIndexes, a_subtreeEnds, a_scopeSizes, a_levelTypes, a_levelParams, a_levelDrops, a_expectedTypes, a_totals, a_slotTypes, a_slotValues, a_waitingArgs, a_callNodes, a_levelValues, a_nodeValues)))) ((nI M), (nI F), (nI N), f_code, f_faultFunction, f_bound, f_foundParam, f_foundDrop, f_status, f_calls, f_depth, f_fuelLimit, f_begun, f_beginLimit, f_waitingFunction, (nI n), f_valueKnown, f_currentValue, (fun i => nI (pc i)), mk, (fun i => nI (rt i)), (fun i => nI (bs i)), (fun i => nI (kd i)), na, a_parents, a_childIndexes, a_subtreeEnds, a_scopeSizes, a_levelTypes, a_levelParams, a_levelDrops, a_expectedTypes, a_totals, a_slotTypes, a_slotValues, a_waitingArgs, a_callNodes, a_levelValues, a_nodeValues) (nI p)) : wpX_handValueUp Q ((nI M), (nI F), (nI N), f_code, f_faultFunction, f_bound, f_foundParam, f_foundDrop, f_status, f_calls, f_depth, f_fuelLimit, f_begun, f_beginLimit, f_waitingFunction, (nI n), f_valueKnown, f_currentValue, (fun i => nI (pc i)), mk, (fun i => nI (rt i)), (fun i => nI (bs i)), (fun i => nI (kd i)), na, a_parents, a_childIndexes, a_subtreeEnds, a_scopeSizes, a_levelTypes, a_levelParams, a_levelDrops, a_expectedTypes, a_totals, a_slotTypes, a_slotValues, a_waitingArgs, a_callNodes, a_levelValues, a_nodeValues) := by
  have h64 := h.2.1
  have e1 : (nI n).toNatClampNeg = n := nI_clamp (by omega)
  have e2 : (nI p).toNatClampNeg = p := nI_clamp (by omega)
  refine ⟨vp_in_nI (by omega) (by omega), ?_⟩
  rw [e1]
  refine nm_r hpn (br_f (wx_no p (by omega)) ⟨vp_in_nI (by omega) (by omega), ?_⟩)
  rw [e2]
  rcases hk with k | k
  · exact nm_r (e' := 6) (congrArg nI k) (br_f (by decide) (br_t (by decide) hp))
  · exact nm_r (e' := 7) (congrArg nI k) (br_f (by decide) (br_t (by decide) hp))
theorem xh_case_up (h : pr_in F N pc rt bs kd mk na) (hn : n < N) (hpl : p < N) (hpn : a_parents n = nI p) (hk : kd p = 6 ∨ kd p = 7) (hc : ¬ a_childIndexes n = 0) (hp : Q 1 ((nI M), (nI F), (nI N), f_code, f_faultFunction, f_bound, f_foundParam, f_foundDrop, f_status, f_calls, f_depth, f_fuelLimit, f_begun, f_beginLimit, f_waitingFunction, (nI p), 1, f_currentValue, (fun i => nI (pc i)), mk, (fun i => nI (rt i)), (fun i => nI (bs i)), (fun i => nI (kd i)), na, a_parents, a_childIndexes, a_subtreeEnds, a_scopeSizes, a_levelTypes, a_levelParams, a_levelDrops, a_expectedTypes, a_totals, a_slotTypes, a_slotValues, a_waitingArgs, a_callNodes, a_levelValues, a_nodeValues)) : wpX_handValueUp Q ((nI M), (nI F), (nI N), f_code, f_faultFunction, f_bound, f_foundParam, f_foundDrop, f_status, f_calls, f_depth, f_fuelLimit, f_begun, f_beginLimit, f_waitingFunction, (nI n), f_valueKnown, f_currentValue, (fun i => nI (pc i)), mk, (fun i => nI (rt i)), (fun i => nI (bs i)), (fun i => nI (kd i)), na, a_parents, a_childIndexes, a_subtreeEnds, a_scopeSizes, a_levelTypes, a_levelParams, a_levelDrops, a_expectedTypes, a_totals, a_slotTypes, a_slotValues, a_waitingArgs, a_callNodes, a_levelValues, a_nodeValues) := by
  have h64 := h.2.1
  have e1 : (nI n).toNatClampNeg = n := nI_clamp (by omega)
  refine xh_case h hn hpl hpn hk ⟨vp_in_nI (by omega) (by omega), ?_⟩
  rw [e1]
  exact br_f hc ⟨rfl, rfl, hp⟩
end
