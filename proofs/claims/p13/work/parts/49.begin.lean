section
variable {M : Nat} {F : Nat} {N : Nat} {bl : Nat} {cb : Nat} {pc : Nat → Nat} {rt : Nat → Nat} {bs : Nat → Nat} {kd : Nat → Nat} {mk : Nat → Int32} {na : Nat → Int32} {f_code : Int32} {f_faultFunction : Int32} {f_bound : Int64} {f_foundParam : Int32} {f_foundDrop : Int32} {f_fuelLimit : Int64} {a_parents : Nat → Int32} {a_childIndexes : Nat → Int32} {a_subtreeEnds : Nat → Int32} {a_scopeSizes : Nat → Int32} {a_levelTypes : Nat → Int32} {a_levelParams : Nat → Int32} {a_levelDrops : Nat → Int32} {a_expectedTypes : Nat → Int32} {a_totals : Nat → Int64} {a_slotTypes : Nat → Int32} {a_slotValues : Nat → Int64}
variable {m : Nat → Nat} {e : Nat} {n : Nat} {b : Nat} {wT : Nat} {vT : Nat} {eT : Nat} {f_calls : Int64} {f_waitingFunction : Int32} {f_currentValue : Int64} {a_waitingArgs : Nat → Int64} {a_callNodes : Nat → Int32} {a_levelValues : Nat → Int64} {a_nodeValues : Nat → Int64} {y_vals : Nat → Int64} {y_wNode : Nat → Int32} {y_wStep : Nat → Int32} {y_env : Nat → Int64} {y_actBase : Nat → Int32}
/-- fuel is left -/
theorem lx_fuel {c T : Nat} (h : c < T) (hc : c < 1000000) : ¬ lN c = lN (bd_c bd_C T) := by
  intro y
  have hC : bd_C < 2 ^ 62 := bd_C62
  have hD : 1000000 ≤ bd_C := by decide
  have hle := bd_c_le bd_C T
  have := (pk_lEQ (by omega) (by omega)).mp y
  unfold bd_c at this
  split at this <;> omega
theorem lx_arg (hok : pr_ok F N pc rt bs kd mk na) {p i : Nat} (hp : p < N) (hk : kd p = 5) (hi : i < pr_ar F pc kd na p) : pr_et F N pc rt bs kd mk na (tr_ch N (pr_ar F pc kd na) p i) = pr_pt F bs mk (bs (pr_ag na p)) i := by
  obtain ⟨a1, a2, a3, a4, a5, a6, a7⟩ := pg_ch hok.1 hp hi
  unfold pr_et
  rw [et_some a3, if_neg (by omega), if_neg (by omega), if_pos hk, a5, (hok.2.2.2.1 p hp hk).2.2 i hi]
/-- a waiting call p begins, or the run ends there -/
theorem lx_go {u p : Nat} {f_valueKnown : Int32} {lv nv wa : Nat → Int64} (hM : 1 ≤ M ∧ M ≤ 12) (hP : pr_in F N pc rt bs kd mk na) (hS : rl_sl M a_slotTypes a_slotValues) (hc : f_code = 1 ∨ f_code = 6) (hl : rl_laid F N pc rt bs kd mk na a_parents a_childIndexes a_subtreeEnds a_scopeSizes) (hbl : bl ≤ 200) (hds : f_code = 1 → iv_ds F N pc bs kd na) (hbd : f_code = 1 → f_bound = lN (bd_c bd_C (pr_T M F N pc bs kd na (F - 1)))) (hfl : f_code = 1 → f_fuelLimit = f_bound) (hcb : cb < 1000000) (IH : ∀ u1, u1 < u → lx_P M F N bl cb pc rt bs kd mk na f_code f_faultFunction f_bound f_foundParam f_foundDrop f_fuelLimit a_parents a_childIndexes a_subtreeEnds a_scopeSizes a_levelTypes a_levelParams a_levelDrops a_expectedTypes a_totals a_slotTypes a_slotValues u1) (hb : b ≤ bl) (hmu : ∀ r, r < N → mc_td N (pr_ar F pc kd na) r = 0 → b < 200 → ms_ms N (pr_ar F pc kd na) (b + 1) (e + 1 + 1) r false < u)
    (hW : mc_W F N M bs (pr_ar F pc kd na) kd (pr_ag na) (pr_z F bs pc) (pr_pt F bs mk) (pr_rt F bs rt) (pr_gt mk na) m e p wa y_wNode y_wStep y_vals y_env lv nv a_callNodes y_actBase wT vT eT)
    (hG : f_code = 1 → ∃ (ps : Nat → Nat → Nat) (c : Nat), f_calls = lN c ∧ c + (bl - b) ≤ cb ∧ gz_I M F N pc rt bs kd mk na m ps e p (gz_o M F N pc rt bs kd mk na m ps e (p + 1) (tr_se N (pr_ar F pc kd na) p)) lv nv c ∧ iv_wa F N pc bs kd mk na (ps e) p wa) :
    (∃ x', iv_I cb x' ∧ ∀ Qz : Int32 → St2 → Prop, Qz 0 x' → wpX_beginActivation Qz ((nI M), (nI F), (nI N), f_code, f_faultFunction, f_bound, f_foundParam, f_foundDrop, 1, f_calls, (nI (e + 1)), f_fuelLimit, (nI b), (nI bl), (nI (pr_ag na p)), (nI p), f_valueKnown, f_currentValue, (fun i => nI (pc i)), mk, (fun i => nI (rt i)), (fun i => nI (bs i)), (fun i => nI (kd i)), na, a_parents, a_childIndexes, a_subtreeEnds, a_scopeSizes, a_levelTypes, a_levelParams, a_levelDrops, a_expectedTypes, a_totals, a_slotTypes, a_slotValues, wa, a_callNodes, lv, nv)) ∨ (∃ x1 u1, u1 < u ∧ lx_D cb x1 u1 ∧ ∀ Qz : Int32 → St2 → Prop, Qz 1 x1 → wpX_beginActivation Qz ((nI M), (nI F), (nI N), f_code, f_faultFunction, f_bound, f_foundParam, f_foundDrop, 1, f_calls, (nI (e + 1)), f_fuelLimit, (nI b), (nI bl), (nI (pr_ag na p)), (nI p), f_valueKnown, f_currentValue, (fun i => nI (pc i)), mk, (fun i => nI (rt i)), (fun i => nI (bs i)), (fun i => nI (kd i)), na, a_parents, a_childIndexes, a_subtreeEnds, a_scopeSizes, a_levelTypes, a_levelParams, a_levelDrops, a_expectedTypes, a_totals, a_slotTypes, a_slotValues, wa, a_callNodes, lv, nv)) := by
  have hok := hl.2.1
  obtain ⟨w1, w2, w3, w4, w5, w6, w7, w8, w9, w10, w11, w12⟩ := mk_roomW hok hW
  have hsm := mk_sm hW.1.2.2.2.2.2.2.1
  have hk := hW.2.1
  have hwv := hW.2.2.2.2.2.2.2
  have hfn := hW.1.2.2.2.2.2.1
  obtain ⟨f1, f2, f3⟩ := pr_ar5 hok.1 hP hl.2.2.1 w1 hk
  have hp3 := hP.2.2.1 (pr_ag na p)
  have hbl2 : nI b = nI bl ↔ b = bl := nI_eq (by omega) (by omega)
  have G : f_code = 1 → ∃ (ps ps' : Nat → Nat → Nat) (c : Nat), f_calls = lN c ∧ c + (bl - b) ≤ cb ∧ gz_I M F N pc rt bs kd mk na m ps e p (gz_o M F N pc rt bs kd mk na m ps e (p + 1) (tr_se N (pr_ar F pc kd na) p)) lv nv c ∧ iv_wa F N pc bs kd mk na (ps e) p wa ∧ c < pr_T M F N pc bs kd na (F - 1) ∧
      gz_I M F N pc rt bs kd mk na (fun i => if i = e then p else m i) ps' (e + 1) (bs (pr_ag na p)) (gz_o M F N pc rt bs kd mk na (fun i => if i = e then p else m i) ps' (e + 1) (bs (pr_ag na p)) (bs (pr_ag na p))) (rn_wf lv (fun i => 45 * (e + 1) + i) wa (pc (pr_ag na p))) nv (c + 1) := by
    intro y
    obtain ⟨ps, c, c1, c2, c3, c4⟩ := hG y
    have := gz_begin (m' := fun i => if i = e then p else m i) (ps' := fun i j => if i = e + 1 then (if j < pc (pr_ag na p) then sz_sz (pr_pt F bs mk (bs (pr_ag na p)) j) (wa j) else 0) else ps i j) (lv' := rn_wf lv (fun i => 45 * (e + 1) + i) wa (pc (pr_ag na p))) hP hM.2 hok hl.2.2.1 hsm w1 hk hfn c3 (fun i hi => (hwv i hi).2) c4 (fun h => hds y p w1 hk h) (fun j hj => if_neg (by omega)) (if_pos rfl)
      (fun i hi => by
        funext j
        show (if i = e + 1 then _ else ps i j) = ps i j
        rw [if_neg (by omega)])
      (fun j => by
        show (if e + 1 = e + 1 then _ else _) = _
        rw [if_pos rfl])
      (fun t ht => rn_wf_lo _ (fun i hi => by omega))
      (fun i hi => rn_wf_at (ix := fun i => 45 * (e + 1) + i) (fun i j y => by omega) _ i (by omega))
    exact ⟨ps, _, c, c1, c2, c3, c4, this.1, this.2⟩
  by_cases c1 : f_calls = f_fuelLimit
  · have no : ¬ f_code = 1 := fun y => by
      obtain ⟨ps, ps', c, d1, d2, d3, d4, d5, d6⟩ := G y
      have : lN c = lN (bd_c bd_C (pr_T M F N pc bs kd na (F - 1))) := by rw [← d1, c1, hfl y, hbd y]
      exact lx_fuel d5 (by omega) this
    refine Or.inl ⟨((nI M), (nI F), (nI N), f_code, f_faultFunction, f_bound, f_foundParam, f_foundDrop, 3, f_calls, (nI (e + 1)), f_fuelLimit, (nI b), (nI bl), (nI (pr_ag na p)), (nI p), f_valueKnown, f_currentValue, (fun i => nI (pc i)), mk, (fun i => nI (rt i)), (fun i => nI (bs i)), (fun i => nI (kd i)), na, a_parents, a_childIndexes, a_subtreeEnds, a_scopeSizes, a_levelTypes, a_levelParams, a_levelDrops, a_expectedTypes, a_totals, a_slotTypes, a_slotValues, wa, a_callNodes, lv, nv), iv_mk hM hP hS (iv_idle (by decide) (fun y => absurd y no) (fun _ => hl) hds hbd (fun y => absurd y no)), fun Qz h => xb_begin hP f1 (by omega) (fun _ => h) (fun y => absurd c1 y) (fun y => absurd c1 y) (fun y => absurd c1 y)⟩
  by_cases c2 : e + 1 = 16
  · refine Or.inl ⟨((nI M), (nI F), (nI N), f_code, f_faultFunction, f_bound, f_foundParam, f_foundDrop, 5, f_calls, (nI (e + 1)), f_fuelLimit, (nI b), (nI bl), (nI (pr_ag na p)), (nI p), f_valueKnown, f_currentValue, (fun i => nI (pc i)), mk, (fun i => nI (rt i)), (fun i => nI (bs i)), (fun i => nI (kd i)), na, a_parents, a_childIndexes, a_subtreeEnds, a_scopeSizes, a_levelTypes, a_levelParams, a_levelDrops, a_expectedTypes, a_totals, a_slotTypes, a_slotValues, wa, a_callNodes, lv, nv), iv_mk hM hP hS (iv_idle (by decide) (fun _ => by decide) (fun _ => hl) hds hbd (fun y => ?_)), fun Qz h => xb_begin hP f1 (by omega) (fun y => absurd y c1) (fun _ _ => h) (fun _ y => by omega) (fun _ y => by omega)⟩
    obtain ⟨ps, c, d1, d2, d3, d4⟩ := hG y
    exact ⟨c, d1, by omega, lx_calls d3⟩
  by_cases c3 : b = bl
  · have c3' : nI b = nI bl := by rw [c3]
    refine Or.inl ⟨((nI M), (nI F), (nI N), f_code, f_faultFunction, f_bound, f_foundParam, f_foundDrop, 1, f_calls, (nI (e + 1)), f_fuelLimit, (nI b), (nI bl), (nI (pr_ag na p)), (nI p), f_valueKnown, f_currentValue, (fun i => nI (pc i)), mk, (fun i => nI (rt i)), (fun i => nI (bs i)), (fun i => nI (kd i)), na, a_parents, a_childIndexes, a_subtreeEnds, a_scopeSizes, a_levelTypes, a_levelParams, a_levelDrops, a_expectedTypes, a_totals, a_slotTypes, a_slotValues, wa, a_callNodes, lv, nv), iv_mk hM hP hS ⟨fun _ => hc, fun _ => hl, hds, hbd, fun y => ⟨by decide, ?_⟩, fun y _ => hfl y, fun _ => ⟨e + 1, by omega, rfl, Or.inr ⟨m, e, p, y_wNode, y_wStep, y_actBase, y_vals, y_env, wT, vT, eT, rfl, rfl, rfl, hW, fun y => ?_⟩⟩⟩, fun Qz h => xb_begin hP f1 (by omega) (fun y => absurd y c1) (fun _ y => absurd y c2) (fun _ _ _ => h) (fun _ _ y => absurd c3' y)⟩
    · obtain ⟨ps, c, d1, d2, d3, d4⟩ := hG y
      exact ⟨c, d1, by omega, lx_calls d3⟩
    · obtain ⟨ps, c, d1, d2, d3, d4⟩ := hG y
      exact ⟨ps, c, d1, by omega, d3, d4⟩
  have c3' : ¬ nI b = nI bl := fun y => c3 (hbl2.mp y)
  have hU := mk_begin (m' := fun i => if i = e then p else m i) (env' := rn_wf y_env (fun i => eT + i) wa (pc (pr_ag na p))) (lv' := rn_wf lv (fun i => 45 * (e + 1) + i) wa (pc (pr_ag na p))) hok hW (by omega) (fun j hj => if_neg (by omega)) (if_pos rfl)
    (fun t ht => rn_wf_lo _ (fun i hi => by omega))
    (fun i hi => rn_wf_at (ix := fun i => eT + i) (fun i j y => by omega) _ i (by omega))
    (fun t ht => rn_wf_lo _ (fun i hi => by omega))
    (fun i hi => rn_wf_at (ix := fun i => 45 * (e + 1) + i) (fun i j y => by omega) _ i (by omega))
  have hrN : bs (pr_ag na p) < N := hU.1.1
  have ms := hmu _ hrN (mc_td_none (pg_root hok.1 f1)) (by omega)
  refine Or.inr ⟨_, _, ms, ((IH _ ms (fun i => if i = e then p else m i) (e + 1) (bs (pr_ag na p)) (b + 1) (wT + 1) (vT - pr_ar F pc kd na p) (eT + pr_ar F pc kd na p) (f_calls + 1) (nI (pr_ag na p)) f_currentValue wa (upd a_callNodes (e + 1) (nI p)) (rn_wf lv (fun i => 45 * (e + 1) + i) wa (pc (pr_ag na p))) nv y_vals (upd y_wNode wT (nI (bs (pr_ag na p)))) (upd (upd y_wStep (wT - 1) (nI (pr_ar F pc kd na p + 1))) wT 0) (rn_wf y_env (fun i => eT + i) wa (pc (pr_ag na p))) (upd y_actBase (e + 1) (nI eT)) (by omega)).1 hU (fun y => ?_) (Nat.le_refl _)), fun Qz h => xb_begin hP f1 (by omega) (fun y => absurd y c1) (fun _ y => absurd y c2) (fun _ _ y => absurd y c3') (fun _ _ _ => ?_)⟩
  · obtain ⟨ps, ps', c, d1, d2, d3, d4, d5, d6⟩ := G y
    exact ⟨ps', c + 1, by rw [d1, lN_1], by omega, d6⟩
  · rw [nI_1 b]
    exact h
/-- a call of the running activation -/
theorem lx_nar {Q : Int32 → St2 → Prop} {r : Int32} (hr : r = 0 ∨ r = 1) : ∀ {x : St2}, Q r x → (match x with | (f_sizeCap, f_functionCount, f_nodeCount, f_code, f_faultFunction, f_bound, f_foundParam, f_foundDrop, f_status, f_calls, f_depth, f_fuelLimit, f_begun, f_beginLimit, f_waitingFunction, f_currentNode, f_valueKnown, f_currentValue, a_paramCounts, a_listMasks, a_resultTypes, a_bodyStarts, a_nodeKinds, a_nodeArgs, a_parents, a_childIndexes, a_subtreeEnds, a_scopeSizes, a_levelTypes, a_levelParams, a_levelDrops, a_expectedTypes, a_totals, a_slotTypes, a_slotValues, a_waitingArgs, a_callNodes, a_levelValues, a_nodeValues) => (narrow .boolean (.int r) = .int r ∧ (narrow .boolean (.int r) = .int r ∧ (Q r (f_sizeCap, f_functionCount, f_nodeCount, f_code, f_faultFunction, f_bound, f_foundParam, f_foundDrop, f_status, f_calls, f_depth, f_fuelLimit, f_begun, f_beginLimit, f_waitingFunction, f_currentNode, f_valueKnown, f_currentValue, a_paramCounts, a_listMasks, a_resultTypes, a_bodyStarts, a_nodeKinds, a_nodeArgs, a_parents, a_childIndexes, a_subtreeEnds, a_scopeSizes, a_levelTypes, a_levelParams, a_levelDrops, a_expectedTypes, a_totals, a_slotTypes, a_slotValues, a_waitingArgs, a_callNodes, a_levelValues, a_nodeValues)))))
  | (f_sizeCap, f_functionCount, f_nodeCount, f_code, f_faultFunction, f_bound, f_foundParam, f_foundDrop, f_status, f_calls, f_depth, f_fuelLimit, f_begun, f_beginLimit, f_waitingFunction, f_currentNode, f_valueKnown, f_currentValue, a_paramCounts, a_listMasks, a_resultTypes, a_bodyStarts, a_nodeKinds, a_nodeArgs, a_parents, a_childIndexes, a_subtreeEnds, a_scopeSizes, a_levelTypes, a_levelParams, a_levelDrops, a_expectedTypes, a_totals, a_slotTypes, a_slotValues, a_waitingArgs, a_callNodes, a_levelValues, a_nodeValues), h => by
    rcases hr with y | y
    · subst y; exact ⟨rfl, rfl, h⟩
    · subst y; exact ⟨rfl, rfl, h⟩
theorem lx_begin {u p : Nat} (hM : 1 ≤ M ∧ M ≤ 12) (hP : pr_in F N pc rt bs kd mk na) (hS : rl_sl M a_slotTypes a_slotValues) (hc : f_code = 1 ∨ f_code = 6) (hl : rl_laid F N pc rt bs kd mk na a_parents a_childIndexes a_subtreeEnds a_scopeSizes) (hbl : bl ≤ 200) (hds : f_code = 1 → iv_ds F N pc bs kd na) (hbd : f_code = 1 → f_bound = lN (bd_c bd_C (pr_T M F N pc bs kd na (F - 1)))) (hfl : f_code = 1 → f_fuelLimit = f_bound) (hcb : cb < 1000000) (IH : ∀ u1, u1 < u → lx_P M F N bl cb pc rt bs kd mk na f_code f_faultFunction f_bound f_foundParam f_foundDrop f_fuelLimit a_parents a_childIndexes a_subtreeEnds a_scopeSizes a_levelTypes a_levelParams a_levelDrops a_expectedTypes a_totals a_slotTypes a_slotValues u1) (hb : b ≤ bl) (hK : mc_K F N M bs (pr_ar F pc kd na) kd (pr_ag na) (pr_z F bs pc) (pr_pt F bs mk) (pr_rt F bs rt) (pr_gt mk na) m e n f_currentValue y_wNode y_wStep y_vals y_env a_levelValues a_nodeValues a_callNodes y_actBase wT vT eT) (hG : lx_K M F N pc rt bs kd mk na bl cb f_code f_calls m e n b f_currentValue a_levelValues a_nodeValues) (hm : ms_ms N (pr_ar F pc kd na) b (e + 1) n true ≤ u) (hp : tr_pa N (pr_ar F pc kd na) n = some p) (hk : kd p = 5) (hci : tr_ci N (pr_ar F pc kd na) n + 1 = pr_ar F pc kd na p) : lx_D cb ((nI M), (nI F), (nI N), f_code, f_faultFunction, f_bound, f_foundParam, f_foundDrop, 1, f_calls, (nI (e + 1)), f_fuelLimit, (nI b), (nI bl), f_waitingFunction, (nI n), 1, f_currentValue, (fun i => nI (pc i)), mk, (fun i => nI (rt i)), (fun i => nI (bs i)), (fun i => nI (kd i)), na, a_parents, a_childIndexes, a_subtreeEnds, a_scopeSizes, a_levelTypes, a_levelParams, a_levelDrops, a_expectedTypes, a_totals, a_slotTypes, a_slotValues, a_waitingArgs, a_callNodes, a_levelValues, a_nodeValues) u := by
  have hok := hl.2.1
  obtain ⟨r1, r2, r3, r4, r5, r6, r7, r8⟩ := mk_roomK hok hK
  have hsm := mk_sm hK.1.2.2.2.2.2.2.1
  obtain ⟨g1, g2, g3, g4, g5, g6⟩ := pw_fnpa hok r1 hp
  obtain ⟨q1, q2, q3, q4⟩ := hl.2.2.2 n r1
  rw [tb_P_some hp] at q1
  obtain ⟨f1, f2, f3⟩ := pr_ar5 hok.1 hP hl.2.2.1 g1 hk
  have hp3 := hP.2.2.1 (pr_ag na p)
  have hwa : ∀ i, i < pr_ar F pc kd na p → (rn_wf a_waitingArgs (fun i => i) (fun i => vp_updL a_nodeValues (64 * e + n) f_currentValue (64 * e + tr_ch N (pr_ar F pc kd na) p i)) (pc (pr_ag na p))) i = (vp_updL a_nodeValues (64 * e + n) f_currentValue) (64 * e + tr_ch N (pr_ar F pc kd na) p i) := fun i hi => rn_wf_at (ix := fun i => i) (fun i j y => y) _ i (by omega)
  have hW := mk_wait (wa := (rn_wf a_waitingArgs (fun i => i) (fun i => vp_updL a_nodeValues (64 * e + n) f_currentValue (64 * e + tr_ch N (pr_ar F pc kd na) p i)) (pc (pr_ag na p)))) hok hK hp hk hci hwa
  have hch : ∀ c, c < pc (pr_ag na p) → tr_ch N (pr_ar F pc kd na) p c < N := fun c hc => (pg_ch hok.1 g1 (by omega)).1
  have HT : ∀ j, j < N → a_subtreeEnds j = nI (tr_se N (pr_ar F pc kd na) j) := fun j hj => (hl.2.2.2 j hj).2.2.1
  have hcall : ∀ (post : Int32 → St2 → Prop) (fu i : Nat), i < 500000 → wpX_beginActivation (fun r u => match u with | (f_sizeCap, f_functionCount, f_nodeCount, f_code, f_faultFunction, f_bound, f_foundParam, f_foundDrop, f_status, f_calls, f_depth, f_fuelLimit, f_begun, f_beginLimit, f_waitingFunction, f_currentNode, f_valueKnown, f_currentValue, a_paramCounts, a_listMasks, a_resultTypes, a_bodyStarts, a_nodeKinds, a_nodeArgs, a_parents, a_childIndexes, a_subtreeEnds, a_scopeSizes, a_levelTypes, a_levelParams, a_levelDrops, a_expectedTypes, a_totals, a_slotTypes, a_slotValues, a_waitingArgs, a_callNodes, a_levelValues, a_nodeValues) => (narrow .boolean (.int r) = .int r ∧ (narrow .boolean (.int r) = .int r ∧ (rx_k post fu i r (f_sizeCap, f_functionCount, f_nodeCount, f_code, f_faultFunction, f_bound, f_foundParam, f_foundDrop, f_status, f_calls, f_depth, f_fuelLimit, f_begun, f_beginLimit, f_waitingFunction, f_currentNode, f_valueKnown, f_currentValue, a_paramCounts, a_listMasks, a_resultTypes, a_bodyStarts, a_nodeKinds, a_nodeArgs, a_parents, a_childIndexes, a_subtreeEnds, a_scopeSizes, a_levelTypes, a_levelParams, a_levelDrops, a_expectedTypes, a_totals, a_slotTypes, a_slotValues, a_waitingArgs, a_callNodes, a_levelValues, a_nodeValues))))) ((nI M), (nI F), (nI N), f_code, f_faultFunction, f_bound, f_foundParam, f_foundDrop, 1, f_calls, (nI (e + 1)), f_fuelLimit, (nI b), (nI bl), (nI (pr_ag na p)), (nI p), 1, f_currentValue, (fun i => nI (pc i)), mk, (fun i => nI (rt i)), (fun i => nI (bs i)), (fun i => nI (kd i)), na, a_parents, a_childIndexes, a_subtreeEnds, a_scopeSizes, a_levelTypes, a_levelParams, a_levelDrops, a_expectedTypes, a_totals, a_slotTypes, a_slotValues, (rn_wf a_waitingArgs (fun i => i) (fun i => vp_updL a_nodeValues (64 * e + n) f_currentValue (64 * e + tr_ch N (pr_ar F pc kd na) p i)) (pc (pr_ag na p))), a_callNodes, a_levelValues, (vp_updL a_nodeValues (64 * e + n) f_currentValue)) → rn_X post (fu + 1) i 1 ((nI M), (nI F), (nI N), f_code, f_faultFunction, f_bound, f_foundParam, f_foundDrop, 1, f_calls, (nI (e + 1)), f_fuelLimit, (nI b), (nI bl), f_waitingFunction, (nI n), 1, f_currentValue, (fun i => nI (pc i)), mk, (fun i => nI (rt i)), (fun i => nI (bs i)), (fun i => nI (kd i)), na, a_parents, a_childIndexes, a_subtreeEnds, a_scopeSizes, a_levelTypes, a_levelParams, a_levelDrops, a_expectedTypes, a_totals, a_slotTypes, a_slotValues, a_waitingArgs, a_callNodes, a_levelValues, a_nodeValues) := fun post fu i hi h =>
    rx_up hi (xh_call hP HT r1 g1 q1 hk r2 f1 f3 hch q2 (by omega) (fun y => by omega) (fun _ => h))
  have out := lx_go (u := u) (f_valueKnown := 1) (f_currentValue := f_currentValue) hM hP hS hc hl hbl hds hbd hfl hcb IH hb (fun r hr h0 h200 => by have := ms_begin hok (b := b) (d := e + 1) r1 hr h200 h0; omega) hW (fun y => by
    obtain ⟨ps, c, c1, c2, c3, c4⟩ := hG y
    refine ⟨ps, c, c1, c2, gt_wait hok hsm r1 hp hk hci c3, fun i hi j k hf => ?_⟩
    have := gt_keep hok r1 hp hk c3.2.2.1 c4 i (by omega) j k hf
    rw [lx_arg hok g1 hk hi] at this
    rw [hwa i hi]
    exact this)
  rcases out with ⟨x', o1, o2⟩ | ⟨x1, u1, o1, o2, o3⟩
  · exact lx_end o1 (fun post fu i hi h => hcall post (fu + 1) i hi (o2 _ (lx_nar (Or.inl rfl) (rx_end h))))
  · exact lx_step o2 o1 (fun post fu i hi h => hcall post fu i hi (o3 _ (lx_nar (Or.inr rfl) (rx_of h))))
theorem lx_all (hM : 1 ≤ M ∧ M ≤ 12) (hP : pr_in F N pc rt bs kd mk na) (hS : rl_sl M a_slotTypes a_slotValues) (hc : f_code = 1 ∨ f_code = 6) (hl : rl_laid F N pc rt bs kd mk na a_parents a_childIndexes a_subtreeEnds a_scopeSizes) (hbl : bl ≤ 200) (hds : f_code = 1 → iv_ds F N pc bs kd na) (hbd : f_code = 1 → f_bound = lN (bd_c bd_C (pr_T M F N pc bs kd na (F - 1)))) (hfl : f_code = 1 → f_fuelLimit = f_bound) (hcb : cb < 1000000) : ∀ u, lx_P M F N bl cb pc rt bs kd mk na f_code f_faultFunction f_bound f_foundParam f_foundDrop f_fuelLimit a_parents a_childIndexes a_subtreeEnds a_scopeSizes a_levelTypes a_levelParams a_levelDrops a_expectedTypes a_totals a_slotTypes a_slotValues u := by
  intro u
  induction u using Nat.strongRecOn with
  | _ u IH =>
    intro m e n b wT vT eT f_calls f_waitingFunction f_currentValue a_waitingArgs a_callNodes a_levelValues a_nodeValues y_vals y_wNode y_wStep y_env y_actBase hb
    have hok := hl.2.1
    refine ⟨fun hU hG hm => ?_, fun hK hG hm => ?_⟩
    · by_cases k0 : kd n = 0
      · exact lx_var hM hP hS hc hl hbl hds hbd hfl hcb IH hb hU hG hm k0
      · by_cases k13 : kd n = 1 ∨ kd n = 3
        · exact lx_leaf hM hP hS hc hl hbl hds hbd hfl hcb IH hb hU hG hm k13
        · exact lx_down hM hP hS hc hl hbl hds hbd hfl hcb IH hb hU hG hm ⟨k0, fun y => k13 (Or.inl y), fun y => k13 (Or.inr y)⟩
    · obtain ⟨r1, r2, _⟩ := mk_roomK hok hK
      cases hp : tr_pa N (pr_ar F pc kd na) n with
      | none =>
        by_cases he : e = 0
        · exact lx_done hM hP hS hc hl hbl hds hbd hfl hcb hb hK hG hp he
        · exact lx_ret hM hP hS hc hl hbl hds hbd hfl hcb IH hb hK hG hm hp he
      | some p =>
        obtain ⟨g1, g2, g3, g4, g5, g6⟩ := pw_fnpa hok r1 hp
        have h7 := hP.2.2.2.2.2.1 p
        have ha := (hok.2.1 p g1).2.1
        rcases (show kd p = 2 ∨ kd p = 4 ∨ kd p = 5 ∨ (kd p = 6 ∨ kd p = 7) ∨ (kd p = 0 ∨ kd p = 1 ∨ kd p = 3) by omega) with k | k | k | k | k
        · exact lx_succ hM hP hS hc hl hbl hds hbd hfl hcb IH hb hK hG hm hp k
        · by_cases c : tr_ci N (pr_ar F pc kd na) n = 0
          · exact lx_next hM hP hS hc hl hbl hds hbd hfl hcb IH hb hK hG hm hp (Or.inl k) (by have := (hok.2.1 p g1).2.2.2.1 k; omega)
          · exact lx_cons1 hM hP hS hc hl hbl hds hbd hfl hcb IH hb hK hG hm hp k c
        · by_cases c : tr_ci N (pr_ar F pc kd na) n + 1 < pr_ar F pc kd na p
          · exact lx_next hM hP hS hc hl hbl hds hbd hfl hcb IH hb hK hG hm hp (Or.inr k) c
          · exact lx_begin hM hP hS hc hl hbl hds hbd hfl hcb IH hb hK hG hm hp k (by omega)
        · by_cases c : tr_ci N (pr_ar F pc kd na) n = 0
          · exact lx_case0 hM hP hS hc hl hbl hds hbd hfl hcb IH hb hK hG hm hp k c
          · exact lx_caseup hM hP hS hc hl hbl hds hbd hfl hcb IH hb hK hG hm hp k c
        · have := ha k
          omega
end
