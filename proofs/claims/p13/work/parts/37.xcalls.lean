section
variable {f_sizeCap f_functionCount f_nodeCount f_code f_faultFunction f_foundParam f_foundDrop f_status f_depth f_begun f_beginLimit f_waitingFunction f_currentNode f_valueKnown : Int32} {f_bound f_calls f_fuelLimit f_currentValue : Int64} {a_paramCounts a_listMasks a_resultTypes a_bodyStarts a_nodeKinds a_nodeArgs a_parents a_childIndexes a_subtreeEnds a_scopeSizes a_levelTypes a_levelParams a_levelDrops a_expectedTypes a_slotTypes a_callNodes : Nat → Int32} {a_totals a_slotValues a_waitingArgs a_levelValues a_nodeValues : Nat → Int64}
variable {M F N k : Nat} {pc rt bs kd : Nat → Nat} {mk na : Nat → Int32}
variable {Q : Int32 → St2 → Prop} {e n p : Nat}
theorem xc_149 {x2 q : Nat} (hx : x2 < 64) (hs : a_subtreeEnds x2 = nI q) (hp : Q 1 ((nI M), (nI F), (nI N), f_code, f_faultFunction, f_bound, f_foundParam, f_foundDrop, f_status, f_calls, f_depth, f_fuelLimit, f_begun, f_beginLimit, f_waitingFunction, (nI q), 0, f_currentValue, (fun i => nI (pc i)), mk, (fun i => nI (rt i)), (fun i => nI (bs i)), (fun i => nI (kd i)), na, a_parents, a_childIndexes, a_subtreeEnds, a_scopeSizes, a_levelTypes, a_levelParams, a_levelDrops, a_expectedTypes, a_totals, a_slotTypes, a_slotValues, a_waitingArgs, a_callNodes, a_levelValues, a_nodeValues)) : wX_handToCase_149 (fun r u => match u with | (f_sizeCap, f_functionCount, f_nodeCount, f_code, f_faultFunction, f_bound, f_foundParam, f_foundDrop, f_status, f_calls, f_depth, f_fuelLimit, f_begun, f_beginLimit, f_waitingFunction, f_currentNode, f_valueKnown, f_currentValue, a_paramCounts, a_listMasks, a_resultTypes, a_bodyStarts, a_nodeKinds, a_nodeArgs, a_parents, a_childIndexes, a_subtreeEnds, a_scopeSizes, a_levelTypes, a_levelParams, a_levelDrops, a_expectedTypes, a_totals, a_slotTypes, a_slotValues, a_waitingArgs, a_callNodes, a_levelValues, a_nodeValues) => (narrow .boolean (.int r) = .int r ∧ (Q r (f_sizeCap, f_functionCount, f_nodeCount, f_code, f_faultFunction, f_bound, f_foundParam, f_foundDrop, f_status, f_calls, f_depth, f_fuelLimit, f_begun, f_beginLimit, f_waitingFunction, f_currentNode, f_valueKnown, f_currentValue, a_paramCounts, a_listMasks, a_resultTypes, a_bodyStarts, a_nodeKinds, a_nodeArgs, a_parents, a_childIndexes, a_subtreeEnds, a_scopeSizes, a_levelTypes, a_levelParams, a_levelDrops, a_expectedTypes, a_totals, a_slotTypes, a_slotValues, a_waitingArgs, a_callNodes, a_levelValues, a_nodeValues)))) (nI x2) (nI M) (nI F) (nI N) f_code f_faultFunction f_bound f_foundParam f_foundDrop f_status f_calls f_depth f_fuelLimit f_begun f_beginLimit f_waitingFunction f_currentNode f_valueKnown f_currentValue (fun i => nI (pc i)) mk (fun i => nI (rt i)) (fun i => nI (bs i)) (fun i => nI (kd i)) na a_parents a_childIndexes a_subtreeEnds a_scopeSizes a_levelTypes a_levelParams a_levelDrops a_expectedTypes a_totals a_slotTypes a_slotValues a_waitingArgs a_callNodes a_levelValues a_nodeValues := by
  have e1 : (nI x2).toNatClampNeg = x2 := nI_clamp (by omega)
  unfold wX_handToCase_149
  rw [e1, hs]
  exact ⟨vp_in_nI hx (by omega), rfl, rfl, hp⟩
theorem xc_head (h : pr_in F N pc rt bs kd mk na) (hn : n < N) (hpl : p < N) (hpn : a_parents n = nI p) (hk : kd p = 6 ∨ kd p = 7) (hc : a_childIndexes n = 0) {q : Nat} (hs : a_subtreeEnds n = nI q)
    (h6 : kd p = 6 → wX_handToCase_68 (fun r u => match u with | (f_sizeCap, f_functionCount, f_nodeCount, f_code, f_faultFunction, f_bound, f_foundParam, f_foundDrop, f_status, f_calls, f_depth, f_fuelLimit, f_begun, f_beginLimit, f_waitingFunction, f_currentNode, f_valueKnown, f_currentValue, a_paramCounts, a_listMasks, a_resultTypes, a_bodyStarts, a_nodeKinds, a_nodeArgs, a_parents, a_childIndexes, a_subtreeEnds, a_scopeSizes, a_levelTypes, a_levelParams, a_levelDrops, a_expectedTypes, a_totals, a_slotTypes, a_slotValues, a_waitingArgs, a_callNodes, a_levelValues, a_nodeValues) => (narrow .boolean (.int r) = .int r ∧ (Q r (f_sizeCap, f_functionCount, f_nodeCount, f_code, f_faultFunction, f_bound, f_foundParam, f_foundDrop, f_status, f_calls, f_depth, f_fuelLimit, f_begun, f_beginLimit, f_waitingFunction, f_currentNode, f_valueKnown, f_currentValue, a_paramCounts, a_listMasks, a_resultTypes, a_bodyStarts, a_nodeKinds, a_nodeArgs, a_parents, a_childIndexes, a_subtreeEnds, a_scopeSizes, a_levelTypes, a_levelParams, a_levelDrops, a_expectedTypes, a_totals, a_slotTypes, a_slotValues, a_waitingArgs, a_callNodes, a_levelValues, a_nodeValues)))) (nI p) (nI q) 0 f_currentValue.toInt32 (nI M) (nI F) (nI N) f_code f_faultFunction f_bound f_foundParam f_foundDrop f_status f_calls f_depth f_fuelLimit f_begun f_beginLimit f_waitingFunction (nI n) f_valueKnown f_currentValue (fun i => nI (pc i)) mk (fun i => nI (rt i)) (fun i => nI (bs i)) (fun i => nI (kd i)) na a_parents a_childIndexes a_subtreeEnds a_scopeSizes a_levelTypes a_levelParams a_levelDrops a_expectedTypes a_totals a_slotTypes a_slotValues a_waitingArgs a_callNodes a_levelValues a_nodeValues)
    (h7 : kd p = 7 → wX_handToCase_68 (fun r u => match u with | (f_sizeCap, f_functionCount, f_nodeCount, f_code, f_faultFunction, f_bound, f_foundParam, f_foundDrop, f_status, f_calls, f_depth, f_fuelLimit, f_begun, f_beginLimit, f_waitingFunction, f_currentNode, f_valueKnown, f_currentValue, a_paramCounts, a_listMasks, a_resultTypes, a_bodyStarts, a_nodeKinds, a_nodeArgs, a_parents, a_childIndexes, a_subtreeEnds, a_scopeSizes, a_levelTypes, a_levelParams, a_levelDrops, a_expectedTypes, a_totals, a_slotTypes, a_slotValues, a_waitingArgs, a_callNodes, a_levelValues, a_nodeValues) => (narrow .boolean (.int r) = .int r ∧ (Q r (f_sizeCap, f_functionCount, f_nodeCount, f_code, f_faultFunction, f_bound, f_foundParam, f_foundDrop, f_status, f_calls, f_depth, f_fuelLimit, f_begun, f_beginLimit, f_waitingFunction, f_currentNode, f_valueKnown, f_currentValue, a_paramCounts, a_listMasks, a_resultTypes, a_bodyStarts, a_nodeKinds, a_nodeArgs, a_parents, a_childIndexes, a_subtreeEnds, a_scopeSizes, a_levelTypes, a_levelParams, a_levelDrops, a_expectedTypes, a_totals, a_slotTypes, a_slotValues, a_waitingArgs, a_callNodes, a_levelValues, a_nodeValues)))) (nI p) (nI q) 1 ((f_currentValue &&& 15).toInt32) (nI M) (nI F) (nI N) f_code f_faultFunction f_bound f_foundParam f_foundDrop f_status f_calls f_depth f_fuelLimit f_begun f_beginLimit f_waitingFunction (nI n) f_valueKnown f_currentValue (fun i => nI (pc i)) mk (fun i => nI (rt i)) (fun i => nI (bs i)) (fun i => nI (kd i)) na a_parents a_childIndexes a_subtreeEnds a_scopeSizes a_levelTypes a_levelParams a_levelDrops a_expectedTypes a_totals a_slotTypes a_slotValues a_waitingArgs a_callNodes a_levelValues a_nodeValues) : wpX_handValueUp Q ((nI M), (nI F), (nI N), f_code, f_faultFunction, f_bound, f_foundParam, f_foundDrop, f_status, f_calls, f_depth, f_fuelLimit, f_begun, f_beginLimit, f_waitingFunction, (nI n), f_valueKnown, f_currentValue, (fun i => nI (pc i)), mk, (fun i => nI (rt i)), (fun i => nI (bs i)), (fun i => nI (kd i)), na, a_parents, a_childIndexes, a_subtreeEnds, a_scopeSizes, a_levelTypes, a_levelParams, a_levelDrops, a_expectedTypes, a_totals, a_slotTypes, a_slotValues, a_waitingArgs, a_callNodes, a_levelValues, a_nodeValues) := by
  have h64 := h.2.1
  have hk7 := h.2.2.2.2.2.1 p
  have e1 : (nI n).toNatClampNeg = n := nI_clamp (by omega)
  have e2 : (nI p).toNatClampNeg = p := nI_clamp (by omega)
  have hv : vp_in (nI n) 64 := vp_in_nI (by omega) (by omega)
  refine xh_case h hn hpl hpn hk ⟨hv, ?_⟩
  rw [e1, e2, hs]
  refine br_t hc ⟨hv, nm_e ⟨vp_in_nI (by omega) (by omega), pk_eq (kd p) 7 (fun c => br_f (by decide) (h7 c)) (fun c => br_t rfl (h6 (by omega)))⟩⟩
theorem xh_case_z (h : pr_in F N pc rt bs kd mk na) (hn : n < N) (hpl : p < N) (hpn : a_parents n = nI p) (hk : (kd p = 6 ∧ f_currentValue = 0) ∨ (kd p = 7 ∧ f_currentValue = 0)) (hc : a_childIndexes n = 0) {q : Nat} (hs : a_subtreeEnds n = nI q)
    (hp : Q 1 ((nI M), (nI F), (nI N), f_code, f_faultFunction, f_bound, f_foundParam, f_foundDrop, f_status, f_calls, f_depth, f_fuelLimit, f_begun, f_beginLimit, f_waitingFunction, (nI q), 0, f_currentValue, (fun i => nI (pc i)), mk, (fun i => nI (rt i)), (fun i => nI (bs i)), (fun i => nI (kd i)), na, a_parents, a_childIndexes, a_subtreeEnds, a_scopeSizes, a_levelTypes, a_levelParams, a_levelDrops, a_expectedTypes, a_totals, a_slotTypes, a_slotValues, a_waitingArgs, a_callNodes, a_levelValues, a_nodeValues)) : wpX_handValueUp Q ((nI M), (nI F), (nI N), f_code, f_faultFunction, f_bound, f_foundParam, f_foundDrop, f_status, f_calls, f_depth, f_fuelLimit, f_begun, f_beginLimit, f_waitingFunction, (nI n), f_valueKnown, f_currentValue, (fun i => nI (pc i)), mk, (fun i => nI (rt i)), (fun i => nI (bs i)), (fun i => nI (kd i)), na, a_parents, a_childIndexes, a_subtreeEnds, a_scopeSizes, a_levelTypes, a_levelParams, a_levelDrops, a_expectedTypes, a_totals, a_slotTypes, a_slotValues, a_waitingArgs, a_callNodes, a_levelValues, a_nodeValues) := by
  refine xc_head h hn hpl hpn (hk.elim (fun y => Or.inl y.1) (fun y => Or.inr y.1)) hc hs (fun k => br_t ?_ ⟨rfl, rfl, hp⟩) (fun k => br_t ?_ ⟨rfl, rfl, hp⟩)
  · rcases hk with w | w <;> rw [w.2] <;> rfl
  · rcases hk with w | w <;> rw [w.2] <;> rfl
theorem xh_case_N (h : pr_in F N pc rt bs kd mk na) (hn : n < N) (hpl : p < N) (hpn : a_parents n = nI p) (hk : kd p = 6) (hc : a_childIndexes n = 0) {q q2 S v : Nat} (hq : q < 64) (hs : a_subtreeEnds n = nI q) (hs2 : a_subtreeEnds q = nI q2) (hsc : a_scopeSizes p = nI S) (hS : S < 45) (he : e < 16) (hv : v < 1000) (hval : f_currentValue = lN (v + 1))
    (hp : Q 1 ((nI M), (nI F), (nI N), f_code, f_faultFunction, f_bound, f_foundParam, f_foundDrop, f_status, f_calls, (nI (e + 1)), f_fuelLimit, f_begun, f_beginLimit, f_waitingFunction, (nI q2), 0, f_currentValue, (fun i => nI (pc i)), mk, (fun i => nI (rt i)), (fun i => nI (bs i)), (fun i => nI (kd i)), na, a_parents, a_childIndexes, a_subtreeEnds, a_scopeSizes, a_levelTypes, a_levelParams, a_levelDrops, a_expectedTypes, a_totals, a_slotTypes, a_slotValues, a_waitingArgs, a_callNodes, (vp_updL a_levelValues (45 * e + S) (lN v)), a_nodeValues)) : wpX_handValueUp Q ((nI M), (nI F), (nI N), f_code, f_faultFunction, f_bound, f_foundParam, f_foundDrop, f_status, f_calls, (nI (e + 1)), f_fuelLimit, f_begun, f_beginLimit, f_waitingFunction, (nI n), f_valueKnown, f_currentValue, (fun i => nI (pc i)), mk, (fun i => nI (rt i)), (fun i => nI (bs i)), (fun i => nI (kd i)), na, a_parents, a_childIndexes, a_subtreeEnds, a_scopeSizes, a_levelTypes, a_levelParams, a_levelDrops, a_expectedTypes, a_totals, a_slotTypes, a_slotValues, a_waitingArgs, a_callNodes, a_levelValues, a_nodeValues) := by
  have h64 := h.2.1
  have e2 : (nI p).toNatClampNeg = p := nI_clamp (by omega)
  have e3 : (nI (45 * e + S)).toNatClampNeg = 45 * e + S := nI_clamp (by omega)
  refine xc_head h hn hpl hpn (Or.inl hk) hc hs (fun k => ?_) (fun k => by omega)
  have ev : lN (v + 1) - 1 = lN v := by rw [show (1 : Int64) = lN 1 from rfl, lN_sub (by omega)]; rfl
  subst hval
  rw [lN_i]
  refine br_f (nI_ne0 (by omega) (by omega)) ⟨vp_in_nI (by omega) (by omega), ?_⟩
  rw [e2, hsc, xm_45, nI_add, ev]
  refine nm_e (br_t rfl ⟨vp_in_nI (by omega) (by omega), ?_⟩)
  rw [e3]
  exact nm_e (xc_149 hq hs2 hp)
theorem xh_case_L (h : pr_in F N pc rt bs kd mk na) (hM : M ≤ 12) (hn : n < N) (hpl : p < N) (hpn : a_parents n = nI p) (hk : kd p = 7) (hc : a_childIndexes n = 0) {q q2 S x : Nat} {l : List Nat} (hq : q < 64) (hs : a_subtreeEnds n = nI q) (hs2 : a_subtreeEnds q = nI q2) (hsc : a_scopeSizes p = nI S) (hS : S + 1 < 45) (he : e < 16) (hl : vl_ok M (x :: l)) (hval : f_currentValue = lN (vl_enc (x :: l)))
    (hp : Q 1 ((nI M), (nI F), (nI N), f_code, f_faultFunction, f_bound, f_foundParam, f_foundDrop, f_status, f_calls, (nI (e + 1)), f_fuelLimit, f_begun, f_beginLimit, f_waitingFunction, (nI q2), 0, f_currentValue, (fun i => nI (pc i)), mk, (fun i => nI (rt i)), (fun i => nI (bs i)), (fun i => nI (kd i)), na, a_parents, a_childIndexes, a_subtreeEnds, a_scopeSizes, a_levelTypes, a_levelParams, a_levelDrops, a_expectedTypes, a_totals, a_slotTypes, a_slotValues, a_waitingArgs, a_callNodes, (vp_updL (vp_updL a_levelValues (45 * e + S) (lN x)) (45 * e + S + 1) (lN (vl_enc l))), a_nodeValues)) : wpX_handValueUp Q ((nI M), (nI F), (nI N), f_code, f_faultFunction, f_bound, f_foundParam, f_foundDrop, f_status, f_calls, (nI (e + 1)), f_fuelLimit, f_begun, f_beginLimit, f_waitingFunction, (nI n), f_valueKnown, f_currentValue, (fun i => nI (pc i)), mk, (fun i => nI (rt i)), (fun i => nI (bs i)), (fun i => nI (kd i)), na, a_parents, a_childIndexes, a_subtreeEnds, a_scopeSizes, a_levelTypes, a_levelParams, a_levelDrops, a_expectedTypes, a_totals, a_slotTypes, a_slotValues, a_waitingArgs, a_callNodes, a_levelValues, a_nodeValues) := by
  have h64 := h.2.1
  have e2 : (nI p).toNatClampNeg = p := nI_clamp (by omega)
  have e3 : (nI (45 * e + S)).toNatClampNeg = 45 * e + S := nI_clamp (by omega)
  have e4 : (nI (45 * e + S) + 1).toNatClampNeg = 45 * e + S + 1 := by rw [nI_1]; exact nI_clamp (by omega)
  have h12 := hl.1
  simp only [List.length_cons] at h12
  refine xc_head h hn hpl hpn (Or.inr hk) hc hs (fun k => by omega) (fun k => ?_)
  subst hval
  have hlen := vw_len hM hl
  simp only [List.length_cons] at hlen
  rw [hlen]
  refine br_f (nI_ne0 (by omega) (by omega)) ⟨vp_in_nI (by omega) (by omega), ?_⟩
  rw [e2, hsc, xm_45, nI_add]
  refine nm_e (br_f (by decide) ?_)
  show vp_in _ 720 ∧ _
  refine ⟨vp_in_nI (by omega) (by omega), ?_⟩
  rw [e3, e4, vw_head hM hl]
  refine nm_e (nm_e ?_)
  show vp_in _ 720 ∧ _
  refine ⟨by rw [nI_1]; exact vp_in_nI (by omega) (by omega), ?_⟩
  rw [hlen, nI_pred, vw_tailX hM hl]
  exact nm_e (xc_149 hq hs2 hp)
-- activations
/-- k values of src laid into a at the places ix 0, ix 1 .. -/
def rn_wf (a : Nat → Int64) (ix : Nat → Nat) (src : Nat → Int64) : Nat → Nat → Int64
  | 0 => a
  | i + 1 => vp_updL (rn_wf a ix src i) (ix i) (src i)
theorem rn_wf_lo {a : Nat → Int64} {ix : Nat → Nat} {src : Nat → Int64} {t : Nat} : ∀ k, (∀ i, i < k → t ≠ ix i) → rn_wf a ix src k t = a t
  | 0, _ => rfl
  | k + 1, h => by
    rw [rn_wf, pk_uLn (h k (by omega))]
    exact rn_wf_lo k (fun i hi => h i (by omega))
theorem rn_wf_at {a : Nat → Int64} {ix : Nat → Nat} {src : Nat → Int64} (hx : ∀ i j, ix i = ix j → i = j) : ∀ k i, i < k → rn_wf a ix src k (ix i) = src i
  | 0, i, h => by omega
  | k + 1, i, h => by
    rw [rn_wf]
    rcases Nat.eq_or_lt_of_le (Nat.le_of_lt_succ h) with z1 | z1
    · subst z1; exact pk_uLs
    · rw [pk_uLn (fun y => by have := hx i k y; omega)]
      exact rn_wf_at hx k i z1
theorem xb_56 (h : pr_in F N pc rt bs kd mk na) {g d : Nat} (hg : g < F) (hd : d < 16)
    (hp : Q 1 ((nI M), (nI F), (nI N), f_code, f_faultFunction, f_bound, f_foundParam, f_foundDrop, f_status, (f_calls + 1), (nI (d + 1)), f_fuelLimit, (f_begun + 1), f_beginLimit, (nI g), (nI (bs g)), 0, f_currentValue, (fun i => nI (pc i)), mk, (fun i => nI (rt i)), (fun i => nI (bs i)), (fun i => nI (kd i)), na, a_parents, a_childIndexes, a_subtreeEnds, a_scopeSizes, a_levelTypes, a_levelParams, a_levelDrops, a_expectedTypes, a_totals, a_slotTypes, a_slotValues, a_waitingArgs, (upd a_callNodes d f_currentNode), (rn_wf a_levelValues (fun i => 45 * d + i) a_waitingArgs (pc g)), a_nodeValues)) :
    ∀ (r i fu : Nat), i + r = pc g → r < fu → wX_beginActivation_56 Q (nI (45 * d)) (nI M) (nI F) (nI N) f_code f_faultFunction f_bound f_foundParam f_foundDrop f_status f_calls (nI d) f_fuelLimit f_begun f_beginLimit (nI g) f_currentNode f_valueKnown f_currentValue fu (nI i) (fun i => nI (pc i)) mk (fun i => nI (rt i)) (fun i => nI (bs i)) (fun i => nI (kd i)) na a_parents a_childIndexes a_subtreeEnds a_scopeSizes a_levelTypes a_levelParams a_levelDrops a_expectedTypes a_totals a_slotTypes a_slotValues a_waitingArgs a_callNodes (rn_wf a_levelValues (fun i => 45 * d + i) a_waitingArgs i) a_nodeValues := by
  have h6 := h.1
  have hp3 := h.2.2.1 g
  have e1 : (nI g).toNatClampNeg = g := nI_clamp (by omega)
  have e2 : (nI d).toNatClampNeg = d := nI_clamp (by omega)
  have hv : vp_in (nI g) 6 := vp_in_nI (by omega) (by omega)
  intro r
  induction r with
  | zero =>
    intro i fu g1 g2
    obtain ⟨fu, rfl⟩ : ∃ f, fu = f + 1 := ⟨fu - 1, by omega⟩
    have ei : i = pc g := by omega
    subst ei
    refine ⟨hv, ?_⟩
    rw [e1, e2]
    refine br_t (nI_le (Nat.le_refl _) (by omega)) ⟨vp_in_nI hd (by omega), nm_e (nm_e (nm_r (nI_1 d) (nm_e ⟨hv, rfl, hp⟩)))⟩
  | succ r ih =>
    intro i fu g1 g2
    obtain ⟨fu, rfl⟩ : ∃ f, fu = f + 1 := ⟨fu - 1, by omega⟩
    have ei : (nI i).toNatClampNeg = i := nI_clamp (by omega)
    have e3 : (nI (45 * d + i)).toNatClampNeg = 45 * d + i := nI_clamp (by omega)
    refine ⟨hv, ?_⟩
    rw [e1, ei, nI_add, e3]
    exact br_f (nI_ge (by omega) (by omega)) ⟨vp_in_nI (by omega) (by omega), vp_in_nI (by omega) (by omega), nm_e (nm_r (nI_1 i) (ih (i + 1) fu (by omega) (by omega)))⟩
theorem xb_begin (h : pr_in F N pc rt bs kd mk na) {g d : Nat} (hg : g < F) (hd : d ≤ 16)
    (h3 : f_calls = f_fuelLimit → Q 0 ((nI M), (nI F), (nI N), f_code, f_faultFunction, f_bound, f_foundParam, f_foundDrop, 3, f_calls, (nI d), f_fuelLimit, f_begun, f_beginLimit, (nI g), f_currentNode, f_valueKnown, f_currentValue, (fun i => nI (pc i)), mk, (fun i => nI (rt i)), (fun i => nI (bs i)), (fun i => nI (kd i)), na, a_parents, a_childIndexes, a_subtreeEnds, a_scopeSizes, a_levelTypes, a_levelParams, a_levelDrops, a_expectedTypes, a_totals, a_slotTypes, a_slotValues, a_waitingArgs, a_callNodes, a_levelValues, a_nodeValues))
    (h5 : ¬ f_calls = f_fuelLimit → d = 16 → Q 0 ((nI M), (nI F), (nI N), f_code, f_faultFunction, f_bound, f_foundParam, f_foundDrop, 5, f_calls, (nI d), f_fuelLimit, f_begun, f_beginLimit, (nI g), f_currentNode, f_valueKnown, f_currentValue, (fun i => nI (pc i)), mk, (fun i => nI (rt i)), (fun i => nI (bs i)), (fun i => nI (kd i)), na, a_parents, a_childIndexes, a_subtreeEnds, a_scopeSizes, a_levelTypes, a_levelParams, a_levelDrops, a_expectedTypes, a_totals, a_slotTypes, a_slotValues, a_waitingArgs, a_callNodes, a_levelValues, a_nodeValues))
    (hl : ¬ f_calls = f_fuelLimit → d < 16 → f_begun = f_beginLimit → Q 0 ((nI M), (nI F), (nI N), f_code, f_faultFunction, f_bound, f_foundParam, f_foundDrop, f_status, f_calls, (nI d), f_fuelLimit, f_begun, f_beginLimit, (nI g), f_currentNode, f_valueKnown, f_currentValue, (fun i => nI (pc i)), mk, (fun i => nI (rt i)), (fun i => nI (bs i)), (fun i => nI (kd i)), na, a_parents, a_childIndexes, a_subtreeEnds, a_scopeSizes, a_levelTypes, a_levelParams, a_levelDrops, a_expectedTypes, a_totals, a_slotTypes, a_slotValues, a_waitingArgs, a_callNodes, a_levelValues, a_nodeValues))
    (hp : ¬ f_calls = f_fuelLimit → d < 16 → ¬ f_begun = f_beginLimit → Q 1 ((nI M), (nI F), (nI N), f_code, f_faultFunction, f_bound, f_foundParam, f_foundDrop, f_status, (f_calls + 1), (nI (d + 1)), f_fuelLimit, (f_begun + 1), f_beginLimit, (nI g), (nI (bs g)), 0, f_currentValue, (fun i => nI (pc i)), mk, (fun i => nI (rt i)), (fun i => nI (bs i)), (fun i => nI (kd i)), na, a_parents, a_childIndexes, a_subtreeEnds, a_scopeSizes, a_levelTypes, a_levelParams, a_levelDrops, a_expectedTypes, a_totals, a_slotTypes, a_slotValues, a_waitingArgs, (upd a_callNodes d f_currentNode), (rn_wf a_levelValues (fun i => 45 * d + i) a_waitingArgs (pc g)), a_nodeValues)) :
    wpX_beginActivation Q ((nI M), (nI F), (nI N), f_code, f_faultFunction, f_bound, f_foundParam, f_foundDrop, f_status, f_calls, (nI d), f_fuelLimit, f_begun, f_beginLimit, (nI g), f_currentNode, f_valueKnown, f_currentValue, (fun i => nI (pc i)), mk, (fun i => nI (rt i)), (fun i => nI (bs i)), (fun i => nI (kd i)), na, a_parents, a_childIndexes, a_subtreeEnds, a_scopeSizes, a_levelTypes, a_levelParams, a_levelDrops, a_expectedTypes, a_totals, a_slotTypes, a_slotValues, a_waitingArgs, a_callNodes, a_levelValues, a_nodeValues) := by
  have hp3 := h.2.2.1 g
  refine br_c (fun c1 => ⟨rfl, h3 c1⟩) (fun c1 => pk_eq d 16 (fun c2 => ⟨rfl, h5 c1 c2⟩) (fun c2 => br_c (fun c3 => hl c1 (by omega) c3) (fun c3 => nm_r (e' := nI (45 * d)) ?_ ⟨4, ?_⟩)))
  · rw [show (45 : Int32) = nI 45 from rfl, pk_mul, Nat.mul_comm]
  · exact xb_56 h hg (by omega) (hp c1 (by omega) c3) (pc g) 0 4 (by omega) (by omega)
theorem xh_74 (h : pr_in F N pc rt bs kd mk na) (HT : ∀ j, j < N → a_subtreeEnds j = nI (tr_se N (pr_ar F pc kd na) j)) {g : Nat} (hg : g < F) (he : e < 16) (hpl : p < N) (hch : ∀ c, c < pc g → tr_ch N (pr_ar F pc kd na) p c < N)
    (hp : wpX_beginActivation (fun r u => match u with | (f_sizeCap, f_functionCount, f_nodeCount, f_code, f_faultFunction, f_bound, f_foundParam, f_foundDrop, f_status, f_calls, f_depth, f_fuelLimit, f_begun, f_beginLimit, f_waitingFunction, f_currentNode, f_valueKnown, f_currentValue, a_paramCounts, a_listMasks, a_resultTypes, a_bodyStarts, a_nodeKinds, a_nodeArgs, a_parents, a_childIndexes, a_subtreeEnds, a_scopeSizes, a_levelTypes, a_levelParams, a_levelDrops, a_expectedTypes, a_totals, a_slotTypes, a_slotValues, a_waitingArgs, a_callNodes, a_levelValues, a_nodeValues) => (narrow .boolean (.int r) = .int r ∧ (Q r (f_sizeCap, f_functionCount, f_nodeCount, f_code, f_faultFunction, f_bound, f_foundParam, f_foundDrop, f_status, f_calls, f_depth, f_fuelLimit, f_begun, f_beginLimit, f_waitingFunction, f_currentNode, f_valueKnown, f_currentValue, a_paramCounts, a_listMasks, a_resultTypes, a_bodyStarts, a_nodeKinds, a_nodeArgs, a_parents, a_childIndexes, a_subtreeEnds, a_scopeSizes, a_levelTypes, a_levelParams, a_levelDrops, a_expectedTypes, a_totals, a_slotTypes, a_slotValues, a_waitingArgs, a_callNodes, a_levelValues, a_nodeValues)))) ((nI M), (nI F), (nI N), f_code, f_faultFunction, f_bound, f_foundParam, f_foundDrop, f_status, f_calls, f_depth, f_fuelLimit, f_begun, f_beginLimit, (nI g), (nI p), f_valueKnown, f_currentValue, (fun i => nI (pc i)), mk, (fun i => nI (rt i)), (fun i => nI (bs i)), (fun i => nI (kd i)), na, a_parents, a_childIndexes, a_subtreeEnds, a_scopeSizes, a_levelTypes, a_levelParams, a_levelDrops, a_expectedTypes, a_totals, a_slotTypes, a_slotValues, (rn_wf a_waitingArgs (fun i => i) (fun i => a_nodeValues (64 * e + tr_ch N (pr_ar F pc kd na) p i)) (pc g)), a_callNodes, a_levelValues, a_nodeValues)) :
    ∀ (r i fu : Nat), i + r = pc g → r < fu → wX_handToCall_74 Q (nI p) (nI (64 * e)) (nI g) (nI M) (nI F) (nI N) f_code f_faultFunction f_bound f_foundParam f_foundDrop f_status f_calls f_depth f_fuelLimit f_begun f_beginLimit f_waitingFunction f_currentNode f_valueKnown f_currentValue fu (nI (tr_ch N (pr_ar F pc kd na) p i)) (nI i) (fun i => nI (pc i)) mk (fun i => nI (rt i)) (fun i => nI (bs i)) (fun i => nI (kd i)) na a_parents a_childIndexes a_subtreeEnds a_scopeSizes a_levelTypes a_levelParams a_levelDrops a_expectedTypes a_totals a_slotTypes a_slotValues (rn_wf a_waitingArgs (fun i => i) (fun i => a_nodeValues (64 * e + tr_ch N (pr_ar F pc kd na) p i)) i) a_callNodes a_levelValues a_nodeValues := by
  have h6 := h.1
  have h64 := h.2.1
  have hp3 := h.2.2.1 g
  have e1 : (nI g).toNatClampNeg = g := nI_clamp (by omega)
  have hv : vp_in (nI g) 6 := vp_in_nI (by omega) (by omega)
  intro r
  induction r with
  | zero =>
    intro i fu g1 g2
    obtain ⟨fu, rfl⟩ : ∃ f, fu = f + 1 := ⟨fu - 1, by omega⟩
    have ei : i = pc g := by omega
    subst ei
    refine ⟨hv, ?_⟩
    rw [e1]
    exact br_t (nI_le (Nat.le_refl _) (by omega)) hp
  | succ r ih =>
    intro i fu g1 g2
    obtain ⟨fu, rfl⟩ : ∃ f, fu = f + 1 := ⟨fu - 1, by omega⟩
    have hc := hch i (by omega)
    have ei : (nI i).toNatClampNeg = i := nI_clamp (by omega)
    have ec : (nI (tr_ch N (pr_ar F pc kd na) p i)).toNatClampNeg = tr_ch N (pr_ar F pc kd na) p i := nI_clamp (by omega)
    have e3 : (nI (64 * e + tr_ch N (pr_ar F pc kd na) p i)).toNatClampNeg = 64 * e + tr_ch N (pr_ar F pc kd na) p i := nI_clamp (by omega)
    refine ⟨hv, ?_⟩
    rw [e1, ei, ec, nI_add, e3, HT _ hc, ← tr_ch_s]
    exact br_f (nI_ge (by omega) (by omega)) ⟨vp_in_nI (by omega) (by omega), vp_in_nI (by omega) (by omega), nm_e ⟨vp_in_nI (by omega) (by omega), nm_e (nm_r (nI_1 i) (ih (i + 1) fu (by omega) (by omega)))⟩⟩
theorem xh_call (h : pr_in F N pc rt bs kd mk na) (HT : ∀ j, j < N → a_subtreeEnds j = nI (tr_se N (pr_ar F pc kd na) j)) (hn : n < N) (hpl : p < N) (hpn : a_parents n = nI p) (hk : kd p = 5) (he : e < 16) {g c : Nat} (hg : g < F) (hna : na p = nI g) (hch : ∀ c, c < pc g → tr_ch N (pr_ar F pc kd na) p c < N) (hc : a_childIndexes n = nI c) (hc3 : c < 3)
    (hnx : c + 1 < pc g → Q 1 ((nI M), (nI F), (nI N), f_code, f_faultFunction, f_bound, f_foundParam, f_foundDrop, f_status, f_calls, (nI (e + 1)), f_fuelLimit, f_begun, f_beginLimit, f_waitingFunction, (nI (tr_se N (pr_ar F pc kd na) n)), 0, f_currentValue, (fun i => nI (pc i)), mk, (fun i => nI (rt i)), (fun i => nI (bs i)), (fun i => nI (kd i)), na, a_parents, a_childIndexes, a_subtreeEnds, a_scopeSizes, a_levelTypes, a_levelParams, a_levelDrops, a_expectedTypes, a_totals, a_slotTypes, a_slotValues, a_waitingArgs, a_callNodes, a_levelValues, (vp_updL a_nodeValues (64 * e + n) f_currentValue)))
    (hb : pc g ≤ c + 1 → wpX_beginActivation (fun r u => match u with | (f_sizeCap, f_functionCount, f_nodeCount, f_code, f_faultFunction, f_bound, f_foundParam, f_foundDrop, f_status, f_calls, f_depth, f_fuelLimit, f_begun, f_beginLimit, f_waitingFunction, f_currentNode, f_valueKnown, f_currentValue, a_paramCounts, a_listMasks, a_resultTypes, a_bodyStarts, a_nodeKinds, a_nodeArgs, a_parents, a_childIndexes, a_subtreeEnds, a_scopeSizes, a_levelTypes, a_levelParams, a_levelDrops, a_expectedTypes, a_totals, a_slotTypes, a_slotValues, a_waitingArgs, a_callNodes, a_levelValues, a_nodeValues) => (narrow .boolean (.int r) = .int r ∧ (narrow .boolean (.int r) = .int r ∧ (Q r (f_sizeCap, f_functionCount, f_nodeCount, f_code, f_faultFunction, f_bound, f_foundParam, f_foundDrop, f_status, f_calls, f_depth, f_fuelLimit, f_begun, f_beginLimit, f_waitingFunction, f_currentNode, f_valueKnown, f_currentValue, a_paramCounts, a_listMasks, a_resultTypes, a_bodyStarts, a_nodeKinds, a_nodeArgs, a_parents, a_childIndexes, a_subtreeEnds, a_scopeSizes, a_levelTypes, a_levelParams, a_levelDrops, a_expectedTypes, a_totals, a_slotTypes, a_slotValues, a_waitingArgs, a_callNodes, a_levelValues, a_nodeValues))))) ((nI M), (nI F), (nI N), f_code, f_faultFunction, f_bound, f_foundParam, f_foundDrop, f_status, f_calls, (nI (e + 1)), f_fuelLimit, f_begun, f_beginLimit, (nI g), (nI p), f_valueKnown, f_currentValue, (fun i => nI (pc i)), mk, (fun i => nI (rt i)), (fun i => nI (bs i)), (fun i => nI (kd i)), na, a_parents, a_childIndexes, a_subtreeEnds, a_scopeSizes, a_levelTypes, a_levelParams, a_levelDrops, a_expectedTypes, a_totals, a_slotTypes, a_slotValues, (rn_wf a_waitingArgs (fun i => i) (fun i => vp_updL a_nodeValues (64 * e + n) f_currentValue (64 * e + tr_ch N (pr_ar F pc kd na) p i)) (pc g)), a_callNodes, a_levelValues, (vp_updL a_nodeValues (64 * e + n) f_currentValue))) :
    wpX_handValueUp Q ((nI M), (nI F), (nI N), f_code, f_faultFunction, f_bound, f_foundParam, f_foundDrop, f_status, f_calls, (nI (e + 1)), f_fuelLimit, f_begun, f_beginLimit, f_waitingFunction, (nI n), f_valueKnown, f_currentValue, (fun i => nI (pc i)), mk, (fun i => nI (rt i)), (fun i => nI (bs i)), (fun i => nI (kd i)), na, a_parents, a_childIndexes, a_subtreeEnds, a_scopeSizes, a_levelTypes, a_levelParams, a_levelDrops, a_expectedTypes, a_totals, a_slotTypes, a_slotValues, a_waitingArgs, a_callNodes, a_levelValues, a_nodeValues) := by
  have h6 := h.1
  have h64 := h.2.1
  have hp3 := h.2.2.1 g
  have e1 : (nI n).toNatClampNeg = n := nI_clamp (by omega)
  have e2 : (nI p).toNatClampNeg = p := nI_clamp (by omega)
  have e3 : (nI (64 * e + n)).toNatClampNeg = 64 * e + n := nI_clamp (by omega)
  have eg : (nI g).toNatClampNeg = g := nI_clamp (by omega)
  have hv : vp_in (nI n) 64 := vp_in_nI (by omega) (by omega)
  have hvp : vp_in (nI p) 64 := vp_in_nI (by omega) (by omega)
  refine ⟨hv, ?_⟩
  rw [e1]
  refine nm_r hpn (br_f (wx_no p (by omega)) ⟨hvp, ?_⟩)
  rw [e2]
  refine nm_r (e' := 5) (congrArg nI hk) (br_f (by decide) (br_f (by decide) (br_f (by decide) (br_f (by decide) (br_f (by decide) (br_t rfl ?_))))))
  refine nm_r (xm_64 e) ⟨hvp, ?_⟩
  rw [e2, e1]
  refine nm_r hna ?_
  rw [eg, nI_add, e3, hc, nI_1, HT n hn]
  refine ⟨vp_in_nI (by omega) (by omega), nm_e ⟨hv, vp_in_nI (by omega) (by omega), pk_le (pc g) (c + 1) (fun d => ?_) (fun d => ⟨hv, rfl, rfl, hnx d⟩)⟩⟩
  refine nm_r (e' := nI (tr_ch N (pr_ar F pc kd na) p 0)) (by rw [nI_1, tr_ch_0]) ⟨4, ?_⟩
  exact xh_74 (f_depth := nI (e + 1)) (f_currentNode := nI n) (a_nodeValues := vp_updL a_nodeValues (64 * e + n) f_currentValue) h HT hg he hpl hch (hb d) (pc g) 0 4 (by omega) (by omega)
end
