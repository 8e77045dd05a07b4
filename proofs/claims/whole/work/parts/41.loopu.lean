section
variable {M : Nat} {F : Nat} {N : Nat} {bl : Nat} {pc : Nat → Nat} {rt : Nat → Nat} {bs : Nat → Nat} {kd : Nat → Nat} {mk : Nat → Int32} {na : Nat → Int32} {f_code : Int32} {f_faultFunction : Int32} {f_bound : Int64} {f_foundParam : Int32} {f_foundDrop : Int32} {f_fuelLimit : Int64} {a_parents : Nat → Int32} {a_childIndexes : Nat → Int32} {a_subtreeEnds : Nat → Int32} {a_scopeSizes : Nat → Int32} {a_levelTypes : Nat → Int32} {a_levelParams : Nat → Int32} {a_levelDrops : Nat → Int32} {a_expectedTypes : Nat → Int32} {a_totals : Nat → Int64} {a_slotTypes : Nat → Int32} {a_slotValues : Nat → Int64} {y_hasResult : Int32} {y_resVal : Int64} {y_factJ : Int32} {y_factK : Int32} {y_tVal : Nat → Int64}
variable {m : Nat → Nat} {e : Nat} {n : Nat} {b : Nat} {wT : Nat} {vT : Nat} {eT : Nat} {f_calls : Int64} {f_waitingFunction : Int32} {f_currentValue : Int64} {a_waitingArgs : Nat → Int64} {a_callNodes : Nat → Int32} {a_levelValues : Nat → Int64} {a_nodeValues : Nat → Int64} {y_vals : Nat → Int64} {y_wNode : Nat → Int32} {y_wStep : Nat → Int32} {y_env : Nat → Int64} {y_actBase : Nat → Int32}
theorem rn_var {u : Nat} (hM : 1 ≤ M ∧ M ≤ 12) (hP : pr_in F N pc rt bs kd mk na) (hS : rl_sl M a_slotTypes a_slotValues) (hc : f_code = 1 ∨ f_code = 6) (hl : rl_laid F N pc rt bs kd mk na a_parents a_childIndexes a_subtreeEnds a_scopeSizes) (hbl : bl ≤ 200) (IH : ∀ u1, u1 < u → rn_P M F N bl pc rt bs kd mk na f_code f_faultFunction f_bound f_foundParam f_foundDrop f_fuelLimit a_parents a_childIndexes a_subtreeEnds a_scopeSizes a_levelTypes a_levelParams a_levelDrops a_expectedTypes a_totals a_slotTypes a_slotValues y_hasResult y_resVal y_factJ y_factK y_tVal u1) (hb : b ≤ bl) (hU : mc_U F N M bs (pr_ar F pc kd na) kd (pr_ag na) (pr_z F bs pc) (pr_pt F bs mk) (pr_rt F bs rt) (pr_gt mk na) m e n y_wNode y_wStep y_vals y_env a_levelValues a_nodeValues a_callNodes y_actBase wT vT eT) (hm : ms_ms N (pr_ar F pc kd na) b (e + 1) n false ≤ u) (hk : kd n = 0) : rn_D ((nI M), (nI F), (nI N), f_code, f_faultFunction, f_bound, f_foundParam, f_foundDrop, 1, f_calls, (nI (e + 1)), f_fuelLimit, (nI b), (nI bl), f_waitingFunction, (nI n), 0, f_currentValue, (fun i => nI (pc i)), mk, (fun i => nI (rt i)), (fun i => nI (bs i)), (fun i => nI (kd i)), na, a_parents, a_childIndexes, a_subtreeEnds, a_scopeSizes, a_levelTypes, a_levelParams, a_levelDrops, a_expectedTypes, a_totals, a_slotTypes, a_slotValues, a_waitingArgs, a_callNodes, a_levelValues, a_nodeValues) ((nI M), (nI F), (nI N), f_code, f_faultFunction, f_bound, 1, f_calls, (nI (e + 1)), f_fuelLimit, y_hasResult, y_resVal, (nI vT), (nI wT), (nI eT), (nI b), (nI bl), y_factJ, y_factK, (fun i => nI (pc i)), mk, (fun i => nI (rt i)), (fun i => nI (bs i)), (fun i => nI (kd i)), na, y_tVal, a_slotTypes, a_slotValues, y_vals, y_wNode, y_wStep, y_env, y_actBase) u := by
  have hok := hl.2.1
  obtain ⟨t1, t2, t3⟩ := mk_topU hU
  obtain ⟨r1, r2, r3, r4, r5, r6, r7⟩ := mk_roomU hok hU
  obtain ⟨w, rfl⟩ : ∃ w, wT = w + 1 := ⟨wT - 1, by omega⟩
  obtain ⟨x1, x2⟩ := (hl.2.2.1 n r1).1 hk
  have x1' : pr_ag na n < sq_sc N (pr_ar F pc kd na) kd (pr_z F bs pc) n := x1
  obtain ⟨p1, p2⟩ := hU.1.2.2.2.2.2.2.2.2.2 (pr_ag na n) x1'
  have hab := hU.1.2.2.2.2.1
  have hV : vl_V M (et_et N (pr_ar F pc kd na) kd (pr_rt F bs rt) (pr_gt mk na) n) (a_levelValues (45 * e + pr_ag na n)) := by
    rw [pw_e0 hok r1 hk]; exact p2
  have ms := ms_leaf hok (b := b) (d := e + 1) r1
  refine rn_step ((IH _ (by omega) m e n b w (vT + 1) eT f_calls f_waitingFunction (a_levelValues (45 * e + pr_ag na n)) a_waitingArgs a_callNodes a_levelValues a_nodeValues (vp_updL y_vals vT (a_levelValues (45 * e + pr_ag na n))) y_wNode y_wStep y_env y_actBase hb).2 (mk_leaf hok hU hV) (Nat.le_refl _)) (by omega) (fun post fu i hi h => ?_) (fun post fu i hi h => ?_)
  · exact rx_en hi (xe_var hP r1 hk x2 (by omega) r2 (rx_of h))
  · refine ry_in hi (by omega) hP.2.1 t1 r1 t2 (yt_var hP r1 hk x2 hab (by omega) r2 (by omega) (by omega) ?_)
    rw [p1]
    exact ry_of h
theorem rn_down {u : Nat} (hM : 1 ≤ M ∧ M ≤ 12) (hP : pr_in F N pc rt bs kd mk na) (hS : rl_sl M a_slotTypes a_slotValues) (hc : f_code = 1 ∨ f_code = 6) (hl : rl_laid F N pc rt bs kd mk na a_parents a_childIndexes a_subtreeEnds a_scopeSizes) (hbl : bl ≤ 200) (IH : ∀ u1, u1 < u → rn_P M F N bl pc rt bs kd mk na f_code f_faultFunction f_bound f_foundParam f_foundDrop f_fuelLimit a_parents a_childIndexes a_subtreeEnds a_scopeSizes a_levelTypes a_levelParams a_levelDrops a_expectedTypes a_totals a_slotTypes a_slotValues y_hasResult y_resVal y_factJ y_factK y_tVal u1) (hb : b ≤ bl) (hU : mc_U F N M bs (pr_ar F pc kd na) kd (pr_ag na) (pr_z F bs pc) (pr_pt F bs mk) (pr_rt F bs rt) (pr_gt mk na) m e n y_wNode y_wStep y_vals y_env a_levelValues a_nodeValues a_callNodes y_actBase wT vT eT) (hm : ms_ms N (pr_ar F pc kd na) b (e + 1) n false ≤ u) (hk : kd n ≠ 0 ∧ kd n ≠ 1 ∧ kd n ≠ 3) : rn_D ((nI M), (nI F), (nI N), f_code, f_faultFunction, f_bound, f_foundParam, f_foundDrop, 1, f_calls, (nI (e + 1)), f_fuelLimit, (nI b), (nI bl), f_waitingFunction, (nI n), 0, f_currentValue, (fun i => nI (pc i)), mk, (fun i => nI (rt i)), (fun i => nI (bs i)), (fun i => nI (kd i)), na, a_parents, a_childIndexes, a_subtreeEnds, a_scopeSizes, a_levelTypes, a_levelParams, a_levelDrops, a_expectedTypes, a_totals, a_slotTypes, a_slotValues, a_waitingArgs, a_callNodes, a_levelValues, a_nodeValues) ((nI M), (nI F), (nI N), f_code, f_faultFunction, f_bound, 1, f_calls, (nI (e + 1)), f_fuelLimit, y_hasResult, y_resVal, (nI vT), (nI wT), (nI eT), (nI b), (nI bl), y_factJ, y_factK, (fun i => nI (pc i)), mk, (fun i => nI (rt i)), (fun i => nI (bs i)), (fun i => nI (kd i)), na, y_tVal, a_slotTypes, a_slotValues, y_vals, y_wNode, y_wStep, y_env, y_actBase) u := by
  have hok := hl.2.1
  obtain ⟨t1, t2, t3⟩ := mk_topU hU
  obtain ⟨r1, r2, r3, r4, r5, r6, r7⟩ := mk_roomU hok hU
  obtain ⟨w, rfl⟩ : ∃ w, wT = w + 1 := ⟨wT - 1, by omega⟩
  have h7 := hP.2.2.2.2.2.1 n
  have hk2 := hok.2.1 n r1
  have ha : 0 < pr_ar F pc kd na n := by
    rcases (show kd n = 2 ∨ kd n = 4 ∨ kd n = 5 ∨ kd n = 6 ∨ kd n = 7 by omega) with k | k | k | k | k
    · have := hk2.2.2.1 k; omega
    · have := hk2.2.2.2.1 k; omega
    · obtain ⟨a1, a2, a3⟩ := pr_ar5 hok.1 hP hl.2.2.1 r1 k
      have := hP.2.2.2.1 _ a1
      omega
    · have := hk2.2.2.2.2 (Or.inl k); omega
    · have := hk2.2.2.2.2 (Or.inr k); omega
  have ms := ms_first hok (b := b) (d := e + 1) r1 ha
  refine rn_step ((IH _ (by omega) m e (n + 1) b (w + 2) vT eT f_calls f_waitingFunction f_currentValue a_waitingArgs a_callNodes a_levelValues a_nodeValues y_vals (upd y_wNode (w + 1) (nI (n + 1))) (upd (upd y_wStep w 1) (w + 1) 0) y_env y_actBase hb).1 (mk_first hok hU ha) (Nat.le_refl _)) (by omega) (fun post fu i hi h => ?_) (fun post fu i hi h => ?_)
  · exact rx_en hi (xe_down hP r1 hk (rx_of h))
  · refine ry_in hi (by omega) hP.2.1 t1 r1 t2 ?_
    have h' := ry_of h
    rcases (show kd n = 2 ∨ kd n = 4 ∨ kd n = 5 ∨ kd n = 6 ∨ kd n = 7 by omega) with k | k | k | k | k
    · refine yt_push (c := 0) hP r1 (Or.inl ⟨k, by omega⟩) (by omega) ?_
      rw [tr_ch_0]; exact h'
    · refine yt_push (c := 0) hP r1 (Or.inr ⟨k, by omega⟩) (by omega) ?_
      rw [tr_ch_0]; exact h'
    · obtain ⟨a1, a2, a3⟩ := pr_ar5 hok.1 hP hl.2.2.1 r1 k
      refine yt_push5 (c := 0) hP r1 k a1 a3 (by omega) (by omega) ?_
      rw [tr_ch_0]; exact h'
    · exact yt_push67 hP r1 (Or.inl k) (by omega) h'
    · exact yt_push67 hP r1 (Or.inr k) (by omega) h'
-- values go up
theorem rn_ret {u : Nat} (hM : 1 ≤ M ∧ M ≤ 12) (hP : pr_in F N pc rt bs kd mk na) (hS : rl_sl M a_slotTypes a_slotValues) (hc : f_code = 1 ∨ f_code = 6) (hl : rl_laid F N pc rt bs kd mk na a_parents a_childIndexes a_subtreeEnds a_scopeSizes) (hbl : bl ≤ 200) (IH : ∀ u1, u1 < u → rn_P M F N bl pc rt bs kd mk na f_code f_faultFunction f_bound f_foundParam f_foundDrop f_fuelLimit a_parents a_childIndexes a_subtreeEnds a_scopeSizes a_levelTypes a_levelParams a_levelDrops a_expectedTypes a_totals a_slotTypes a_slotValues y_hasResult y_resVal y_factJ y_factK y_tVal u1) (hb : b ≤ bl) (hK : mc_K F N M bs (pr_ar F pc kd na) kd (pr_ag na) (pr_z F bs pc) (pr_pt F bs mk) (pr_rt F bs rt) (pr_gt mk na) m e n f_currentValue y_wNode y_wStep y_vals y_env a_levelValues a_nodeValues a_callNodes y_actBase wT vT eT) (hm : ms_ms N (pr_ar F pc kd na) b (e + 1) n true ≤ u) (hp : tr_pa N (pr_ar F pc kd na) n = none) (he : e ≠ 0) : rn_D ((nI M), (nI F), (nI N), f_code, f_faultFunction, f_bound, f_foundParam, f_foundDrop, 1, f_calls, (nI (e + 1)), f_fuelLimit, (nI b), (nI bl), f_waitingFunction, (nI n), 1, f_currentValue, (fun i => nI (pc i)), mk, (fun i => nI (rt i)), (fun i => nI (bs i)), (fun i => nI (kd i)), na, a_parents, a_childIndexes, a_subtreeEnds, a_scopeSizes, a_levelTypes, a_levelParams, a_levelDrops, a_expectedTypes, a_totals, a_slotTypes, a_slotValues, a_waitingArgs, a_callNodes, a_levelValues, a_nodeValues) ((nI M), (nI F), (nI N), f_code, f_faultFunction, f_bound, 1, f_calls, (nI (e + 1)), f_fuelLimit, y_hasResult, y_resVal, (nI vT), (nI wT), (nI eT), (nI b), (nI bl), y_factJ, y_factK, (fun i => nI (pc i)), mk, (fun i => nI (rt i)), (fun i => nI (bs i)), (fun i => nI (kd i)), na, y_tVal, a_slotTypes, a_slotValues, y_vals, y_wNode, y_wStep, y_env, y_actBase) u := by
  have hok := hl.2.1
  obtain ⟨r1, r2, r3, r4, r5, r6, r7, r8⟩ := mk_roomK hok hK
  obtain ⟨e, rfl⟩ : ∃ e', e = e' + 1 := ⟨e - 1, by omega⟩
  obtain ⟨t1, t2, t3, t4, t5, t6, t7⟩ := mk_topR hK hp
  obtain ⟨w, rfl⟩ : ∃ w, wT = w + 1 := ⟨wT - 1, by omega⟩
  obtain ⟨a1, a2, a3⟩ := pr_ar5 hok.1 hP hl.2.2.1 t4 t5
  have hpn := (hl.2.2.2 n r1).1
  rw [tb_P_none hp] at hpn
  have ms := ms_ret hok (b := b) (d := e + 1) t4 r1
  refine rn_step ((IH _ (by omega) m e (m e) b w vT (mc_eb N (pr_ar F pc kd na) kd (pr_z F bs pc) m (e + 1)) f_calls f_waitingFunction f_currentValue a_waitingArgs a_callNodes a_levelValues a_nodeValues y_vals y_wNode y_wStep y_env y_actBase hb).2 (mk_ret hok hK hp) (Nat.le_refl _)) (by omega) (fun post fu i hi h => ?_) (fun post fu i hi h => ?_)
  · refine rx_up hi (xh_root hP r1 hpn (fun y => absurd y (by omega)) (fun _ => ?_) r2)
    rw [t6]
    exact rx_of h
  · rw [a2] at t2
    exact ry_in hi (by omega) hP.2.1 t1 t4 t2 (yt_ret hP t4 t5 a1 a3 (by omega) t7 (ry_of h))
theorem rn_done {u : Nat} (hM : 1 ≤ M ∧ M ≤ 12) (hP : pr_in F N pc rt bs kd mk na) (hS : rl_sl M a_slotTypes a_slotValues) (hc : f_code = 1 ∨ f_code = 6) (hl : rl_laid F N pc rt bs kd mk na a_parents a_childIndexes a_subtreeEnds a_scopeSizes) (hbl : bl ≤ 200) (hK : mc_K F N M bs (pr_ar F pc kd na) kd (pr_ag na) (pr_z F bs pc) (pr_pt F bs mk) (pr_rt F bs rt) (pr_gt mk na) m e n f_currentValue y_wNode y_wStep y_vals y_env a_levelValues a_nodeValues a_callNodes y_actBase wT vT eT) (hp : tr_pa N (pr_ar F pc kd na) n = none) (he : e = 0) : rn_D ((nI M), (nI F), (nI N), f_code, f_faultFunction, f_bound, f_foundParam, f_foundDrop, 1, f_calls, (nI (e + 1)), f_fuelLimit, (nI b), (nI bl), f_waitingFunction, (nI n), 1, f_currentValue, (fun i => nI (pc i)), mk, (fun i => nI (rt i)), (fun i => nI (bs i)), (fun i => nI (kd i)), na, a_parents, a_childIndexes, a_subtreeEnds, a_scopeSizes, a_levelTypes, a_levelParams, a_levelDrops, a_expectedTypes, a_totals, a_slotTypes, a_slotValues, a_waitingArgs, a_callNodes, a_levelValues, a_nodeValues) ((nI M), (nI F), (nI N), f_code, f_faultFunction, f_bound, 1, f_calls, (nI (e + 1)), f_fuelLimit, y_hasResult, y_resVal, (nI vT), (nI wT), (nI eT), (nI b), (nI bl), y_factJ, y_factK, (fun i => nI (pc i)), mk, (fun i => nI (rt i)), (fun i => nI (bs i)), (fun i => nI (kd i)), na, y_tVal, a_slotTypes, a_slotValues, y_vals, y_wNode, y_wStep, y_env, y_actBase) u := by
  have hok := hl.2.1
  subst he
  obtain ⟨r1, r2, r3, r4, r5, r6, r7, r8⟩ := mk_roomK hok hK
  obtain ⟨t1, t2, t3, t4, t5, t6⟩ := mk_topM hok hK hp
  have hV := hK.2.2.2.2.2
  rw [et_none hp] at hV
  unfold pr_rt at hV
  rw [t6, pr_root_fn hok.1 (by have := hl.1; omega)] at hV
  have hpn := (hl.2.2.2 n r1).1
  rw [tb_P_none hp] at hpn
  subst t3 t4
  refine rn_end (x' := ((nI M), (nI F), (nI N), f_code, f_faultFunction, f_bound, f_foundParam, f_foundDrop, 2, f_calls, 0, f_fuelLimit, (nI b), (nI bl), f_waitingFunction, (nI n), 1, f_currentValue, (fun i => nI (pc i)), mk, (fun i => nI (rt i)), (fun i => nI (bs i)), (fun i => nI (kd i)), na, a_parents, a_childIndexes, a_subtreeEnds, a_scopeSizes, a_levelTypes, a_levelParams, a_levelDrops, a_expectedTypes, a_totals, a_slotTypes, a_slotValues, a_waitingArgs, a_callNodes, a_levelValues, a_nodeValues)) (y' := ((nI M), (nI F), (nI N), f_code, f_faultFunction, f_bound, 2, f_calls, 0, f_fuelLimit, 1, (y_vals 0), 0, 0, 0, (nI b), (nI bl), y_factJ, y_factK, (fun i => nI (pc i)), mk, (fun i => nI (rt i)), (fun i => nI (bs i)), (fun i => nI (kd i)), na, y_tVal, a_slotTypes, a_slotValues, y_vals, y_wNode, y_wStep, y_env, y_actBase)) (fun j => rl_mk (k := j) hM hP hS ⟨fun _ => hc, fun _ => hl, fun y => absurd y (by decide), fun _ => ⟨rfl, t5, hV⟩⟩) rfl (fun post fu i hi h => ?_) (fun post fu i hi h => ?_)
  · exact rx_up hi (xh_root (e := 0) hP r1 hpn (fun _ => rx_end h) (fun y => absurd rfl y) r2)
  · exact ry_main hi t1 (ye_done hP (by rw [t2]; decide) (ry_end h))
end
