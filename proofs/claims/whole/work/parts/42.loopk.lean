section
variable {M : Nat} {F : Nat} {N : Nat} {bl : Nat} {pc : Nat → Nat} {rt : Nat → Nat} {bs : Nat → Nat} {kd : Nat → Nat} {mk : Nat → Int32} {na : Nat → Int32} {f_code : Int32} {f_faultFunction : Int32} {f_bound : Int64} {f_foundParam : Int32} {f_foundDrop : Int32} {f_fuelLimit : Int64} {a_parents : Nat → Int32} {a_childIndexes : Nat → Int32} {a_subtreeEnds : Nat → Int32} {a_scopeSizes : Nat → Int32} {a_levelTypes : Nat → Int32} {a_levelParams : Nat → Int32} {a_levelDrops : Nat → Int32} {a_expectedTypes : Nat → Int32} {a_totals : Nat → Int64} {a_slotTypes : Nat → Int32} {a_slotValues : Nat → Int64} {y_hasResult : Int32} {y_resVal : Int64} {y_factJ : Int32} {y_factK : Int32} {y_tVal : Nat → Int64}
variable {m : Nat → Nat} {e : Nat} {n : Nat} {b : Nat} {wT : Nat} {vT : Nat} {eT : Nat} {f_calls : Int64} {f_waitingFunction : Int32} {f_currentValue : Int64} {a_waitingArgs : Nat → Int64} {a_callNodes : Nat → Int32} {a_levelValues : Nat → Int64} {a_nodeValues : Nat → Int64} {y_vals : Nat → Int64} {y_wNode : Nat → Int32} {y_wStep : Nat → Int32} {y_env : Nat → Int64} {y_actBase : Nat → Int32}
theorem rn_succ {u p : Nat} (hM : 1 ≤ M ∧ M ≤ 12) (hP : pr_in F N pc rt bs kd mk na) (hS : rl_sl M a_slotTypes a_slotValues) (hc : f_code = 1 ∨ f_code = 6) (hl : rl_laid F N pc rt bs kd mk na a_parents a_childIndexes a_subtreeEnds a_scopeSizes) (hbl : bl ≤ 200) (IH : ∀ u1, u1 < u → rn_P M F N bl pc rt bs kd mk na f_code f_faultFunction f_bound f_foundParam f_foundDrop f_fuelLimit a_parents a_childIndexes a_subtreeEnds a_scopeSizes a_levelTypes a_levelParams a_levelDrops a_expectedTypes a_totals a_slotTypes a_slotValues y_hasResult y_resVal y_factJ y_factK y_tVal u1) (hb : b ≤ bl) (hK : mc_K F N M bs (pr_ar F pc kd na) kd (pr_ag na) (pr_z F bs pc) (pr_pt F bs mk) (pr_rt F bs rt) (pr_gt mk na) m e n f_currentValue y_wNode y_wStep y_vals y_env a_levelValues a_nodeValues a_callNodes y_actBase wT vT eT) (hm : ms_ms N (pr_ar F pc kd na) b (e + 1) n true ≤ u) (hp : tr_pa N (pr_ar F pc kd na) n = some p) (hk : kd p = 2) : rn_D ((nI M), (nI F), (nI N), f_code, f_faultFunction, f_bound, f_foundParam, f_foundDrop, 1, f_calls, (nI (e + 1)), f_fuelLimit, (nI b), (nI bl), f_waitingFunction, (nI n), 1, f_currentValue, (fun i => nI (pc i)), mk, (fun i => nI (rt i)), (fun i => nI (bs i)), (fun i => nI (kd i)), na, a_parents, a_childIndexes, a_subtreeEnds, a_scopeSizes, a_levelTypes, a_levelParams, a_levelDrops, a_expectedTypes, a_totals, a_slotTypes, a_slotValues, a_waitingArgs, a_callNodes, a_levelValues, a_nodeValues) ((nI M), (nI F), (nI N), f_code, f_faultFunction, f_bound, 1, f_calls, (nI (e + 1)), f_fuelLimit, y_hasResult, y_resVal, (nI vT), (nI wT), (nI eT), (nI b), (nI bl), y_factJ, y_factK, (fun i => nI (pc i)), mk, (fun i => nI (rt i)), (fun i => nI (bs i)), (fun i => nI (kd i)), na, y_tVal, a_slotTypes, a_slotValues, y_vals, y_wNode, y_wStep, y_env, y_actBase) u := by
  have hok := hl.2.1
  obtain ⟨r1, r2, r3, r4, r5, r6, r7, r8⟩ := mk_roomK hok hK
  obtain ⟨g1, g2, g3, g4, g5, g6⟩ := pw_fnpa hok r1 hp
  obtain ⟨t1, t2, t3⟩ := mk_topK hK hp
  obtain ⟨w, rfl⟩ : ∃ w, wT = w + 1 := ⟨wT - 1, by omega⟩
  obtain ⟨vv, rfl⟩ : ∃ v, vT = v + 1 := ⟨vT - 1, by omega⟩
  have hpn := (hl.2.2.2 n r1).1
  rw [tb_P_some hp] at hpn
  have ha := (hok.2.1 p g1).2.2.1 hk
  have c0 : tr_ci N (pr_ar F pc kd na) n = 0 := by omega
  rw [c0] at t2
  have t2' : y_wStep w = 1 := t2
  have ek := hK.2.2.1
  have ev := hK.2.2.2.2.1
  have pn := mc_pn_some (kd := kd) hp
  unfold mc_pw at pn
  rw [if_neg (by omega)] at pn
  have sn : sq_sc N (pr_ar F pc kd na) kd (pr_z F bs pc) n = sq_sc N (pr_ar F pc kd na) kd (pr_z F bs pc) p := by rw [sq_some hp, sq_cv0 (Or.inr ⟨by omega, by omega⟩)]; rfl
  obtain ⟨en, ep⟩ := pw_e2 hok r1 hp hk
  have hV := hK.2.2.2.2.2
  rw [en] at hV
  obtain ⟨q, hq, eq⟩ := hV.1 rfl
  have evv : y_vals vv = f_currentValue := by rw [← ev]; exact congrArg y_vals (by omega)
  have eM : (nI M).toInt64 = lN M := nI_l (by omega)
  by_cases hqM : q = M
  · refine rn_end (x' := ((nI M), (nI F), (nI N), f_code, f_faultFunction, f_bound, f_foundParam, f_foundDrop, 4, f_calls, (nI (e + 1)), f_fuelLimit, (nI b), (nI bl), f_waitingFunction, (nI n), 1, f_currentValue, (fun i => nI (pc i)), mk, (fun i => nI (rt i)), (fun i => nI (bs i)), (fun i => nI (kd i)), na, a_parents, a_childIndexes, a_subtreeEnds, a_scopeSizes, a_levelTypes, a_levelParams, a_levelDrops, a_expectedTypes, a_totals, a_slotTypes, a_slotValues, a_waitingArgs, a_callNodes, a_levelValues, a_nodeValues)) (y' := ((nI M), (nI F), (nI N), f_code, f_faultFunction, f_bound, 4, f_calls, (nI (e + 1)), f_fuelLimit, y_hasResult, y_resVal, (nI vv), (nI (w + 1)), (nI eT), (nI b), (nI bl), y_factJ, y_factK, (fun i => nI (pc i)), mk, (fun i => nI (rt i)), (fun i => nI (bs i)), (fun i => nI (kd i)), na, y_tVal, a_slotTypes, a_slotValues, y_vals, y_wNode, y_wStep, y_env, y_actBase)) (fun j => rl_mk (k := j) hM hP hS (rl_idle (by decide) (by decide) (fun _ => hl))) rfl (fun post fu i hi h => ?_) (fun post fu i hi h => ?_)
    · exact rx_up hi (xh_succ hP r1 g1 hpn hk (fun _ => rx_end h) (fun y => absurd (by rw [eq, eM, hqM]) y))
    · exact ry_in hi (by omega) hP.2.1 t1 g1 t2' (yt_succ hP g1 hk (by omega) (fun _ => ry_end h) (fun y => by rw [evv, eq, eM, lN_lt (by omega) (by omega)] at y; omega))
  · have ms := ms_up hok (b := b) (d := e + 1) r1 hp
    have e1 : f_currentValue + 1 = lN (q + 1) := by rw [eq, lN_1]
    refine rn_step ((IH _ (by omega) m e p b w (vv + 1) eT f_calls f_waitingFunction (f_currentValue + 1) a_waitingArgs a_callNodes a_levelValues a_nodeValues (vp_updL y_vals vv (f_currentValue + 1)) y_wNode y_wStep y_env y_actBase hb).2 (mk_up hok hK hp (by rw [ep, e1]; exact vl_nat (by omega)) (by omega) (by rw [← sn]; exact hK.2.2.2.1)) (Nat.le_refl _)) (by omega) (fun post fu i hi h => ?_) (fun post fu i hi h => ?_)
    · exact rx_up hi (xh_succ hP r1 g1 hpn hk (fun y => absurd ((lN_eq (by omega) (by omega)).mp ((eq.symm.trans y).trans eM)) hqM) (fun _ => rx_of h))
    · refine ry_in hi (by omega) hP.2.1 t1 g1 t2' (yt_succ hP g1 hk (by omega) (fun y => absurd (by rw [evv, eq, eM, lN_lt (by omega) (by omega)]; omega) y) (fun _ => ?_))
      rw [evv]
      exact ry_of h
theorem rn_cons0 {u p : Nat} (hM : 1 ≤ M ∧ M ≤ 12) (hP : pr_in F N pc rt bs kd mk na) (hS : rl_sl M a_slotTypes a_slotValues) (hc : f_code = 1 ∨ f_code = 6) (hl : rl_laid F N pc rt bs kd mk na a_parents a_childIndexes a_subtreeEnds a_scopeSizes) (hbl : bl ≤ 200) (IH : ∀ u1, u1 < u → rn_P M F N bl pc rt bs kd mk na f_code f_faultFunction f_bound f_foundParam f_foundDrop f_fuelLimit a_parents a_childIndexes a_subtreeEnds a_scopeSizes a_levelTypes a_levelParams a_levelDrops a_expectedTypes a_totals a_slotTypes a_slotValues y_hasResult y_resVal y_factJ y_factK y_tVal u1) (hb : b ≤ bl) (hK : mc_K F N M bs (pr_ar F pc kd na) kd (pr_ag na) (pr_z F bs pc) (pr_pt F bs mk) (pr_rt F bs rt) (pr_gt mk na) m e n f_currentValue y_wNode y_wStep y_vals y_env a_levelValues a_nodeValues a_callNodes y_actBase wT vT eT) (hm : ms_ms N (pr_ar F pc kd na) b (e + 1) n true ≤ u) (hp : tr_pa N (pr_ar F pc kd na) n = some p) (hk : kd p = 4) (hci : tr_ci N (pr_ar F pc kd na) n = 0) : rn_D ((nI M), (nI F), (nI N), f_code, f_faultFunction, f_bound, f_foundParam, f_foundDrop, 1, f_calls, (nI (e + 1)), f_fuelLimit, (nI b), (nI bl), f_waitingFunction, (nI n), 1, f_currentValue, (fun i => nI (pc i)), mk, (fun i => nI (rt i)), (fun i => nI (bs i)), (fun i => nI (kd i)), na, a_parents, a_childIndexes, a_subtreeEnds, a_scopeSizes, a_levelTypes, a_levelParams, a_levelDrops, a_expectedTypes, a_totals, a_slotTypes, a_slotValues, a_waitingArgs, a_callNodes, a_levelValues, a_nodeValues) ((nI M), (nI F), (nI N), f_code, f_faultFunction, f_bound, 1, f_calls, (nI (e + 1)), f_fuelLimit, y_hasResult, y_resVal, (nI vT), (nI wT), (nI eT), (nI b), (nI bl), y_factJ, y_factK, (fun i => nI (pc i)), mk, (fun i => nI (rt i)), (fun i => nI (bs i)), (fun i => nI (kd i)), na, y_tVal, a_slotTypes, a_slotValues, y_vals, y_wNode, y_wStep, y_env, y_actBase) u := by
  have hok := hl.2.1
  obtain ⟨r1, r2, r3, r4, r5, r6, r7, r8⟩ := mk_roomK hok hK
  obtain ⟨g1, g2, g3, g4, g5, g6⟩ := pw_fnpa hok r1 hp
  obtain ⟨t1, t2, t3⟩ := mk_topK hK hp
  obtain ⟨w, rfl⟩ : ∃ w, wT = w + 1 := ⟨wT - 1, by omega⟩
  obtain ⟨q1, q2, q3, q4⟩ := hl.2.2.2 n r1
  rw [tb_P_some hp] at q1
  have ha := (hok.2.1 p g1).2.2.2.1 hk
  rw [hci] at t2 q2
  have ec : tr_ch N (pr_ar F pc kd na) p 1 = tr_se N (pr_ar F pc kd na) n := by rw [show (1 : Nat) = 0 + 1 from rfl, tr_ch_s, ← hci, ← g5]
  have hU := mk_next hok hK hp (Or.inl hk) (by omega)
  rw [hci] at hU
  obtain ⟨a1, a2, a3, a4, a5, a6, a7⟩ := pg_ch hok.1 (n := p) (c := 1) g1 (by omega)
  rw [ec] at a1 a3
  have ms := ms_sib hok (b := b) (d := e + 1) r1 a1 hp a3 (Nat.le_refl _)
  refine rn_step ((IH _ (by omega) m e (tr_se N (pr_ar F pc kd na) n) b (w + 2) vT eT f_calls f_waitingFunction f_currentValue a_waitingArgs a_callNodes a_levelValues (vp_updL a_nodeValues (64 * e + n) f_currentValue) y_vals (upd y_wNode (w + 1) (nI (tr_se N (pr_ar F pc kd na) n))) (upd (upd y_wStep w (nI 2)) (w + 1) 0) y_env y_actBase hb).1 hU (Nat.le_refl _)) (by omega) (fun post fu i hi h => ?_) (fun post fu i hi h => ?_)
  · exact rx_up hi (xh_cons0 hP r1 g1 q1 hk r2 q2 q3 (rx_of h))
  · refine ry_in hi (by omega) hP.2.1 t1 g1 t2 (yt_push (c := 1) hP g1 (Or.inr ⟨hk, by omega⟩) (by omega) ?_)
    rw [ec]
    exact ry_of h
theorem rn_cons1 {u p : Nat} (hM : 1 ≤ M ∧ M ≤ 12) (hP : pr_in F N pc rt bs kd mk na) (hS : rl_sl M a_slotTypes a_slotValues) (hc : f_code = 1 ∨ f_code = 6) (hl : rl_laid F N pc rt bs kd mk na a_parents a_childIndexes a_subtreeEnds a_scopeSizes) (hbl : bl ≤ 200) (IH : ∀ u1, u1 < u → rn_P M F N bl pc rt bs kd mk na f_code f_faultFunction f_bound f_foundParam f_foundDrop f_fuelLimit a_parents a_childIndexes a_subtreeEnds a_scopeSizes a_levelTypes a_levelParams a_levelDrops a_expectedTypes a_totals a_slotTypes a_slotValues y_hasResult y_resVal y_factJ y_factK y_tVal u1) (hb : b ≤ bl) (hK : mc_K F N M bs (pr_ar F pc kd na) kd (pr_ag na) (pr_z F bs pc) (pr_pt F bs mk) (pr_rt F bs rt) (pr_gt mk na) m e n f_currentValue y_wNode y_wStep y_vals y_env a_levelValues a_nodeValues a_callNodes y_actBase wT vT eT) (hm : ms_ms N (pr_ar F pc kd na) b (e + 1) n true ≤ u) (hp : tr_pa N (pr_ar F pc kd na) n = some p) (hk : kd p = 4) (hci : tr_ci N (pr_ar F pc kd na) n ≠ 0) : rn_D ((nI M), (nI F), (nI N), f_code, f_faultFunction, f_bound, f_foundParam, f_foundDrop, 1, f_calls, (nI (e + 1)), f_fuelLimit, (nI b), (nI bl), f_waitingFunction, (nI n), 1, f_currentValue, (fun i => nI (pc i)), mk, (fun i => nI (rt i)), (fun i => nI (bs i)), (fun i => nI (kd i)), na, a_parents, a_childIndexes, a_subtreeEnds, a_scopeSizes, a_levelTypes, a_levelParams, a_levelDrops, a_expectedTypes, a_totals, a_slotTypes, a_slotValues, a_waitingArgs, a_callNodes, a_levelValues, a_nodeValues) ((nI M), (nI F), (nI N), f_code, f_faultFunction, f_bound, 1, f_calls, (nI (e + 1)), f_fuelLimit, y_hasResult, y_resVal, (nI vT), (nI wT), (nI eT), (nI b), (nI bl), y_factJ, y_factK, (fun i => nI (pc i)), mk, (fun i => nI (rt i)), (fun i => nI (bs i)), (fun i => nI (kd i)), na, y_tVal, a_slotTypes, a_slotValues, y_vals, y_wNode, y_wStep, y_env, y_actBase) u := by
  have hok := hl.2.1
  obtain ⟨r1, r2, r3, r4, r5, r6, r7, r8⟩ := mk_roomK hok hK
  obtain ⟨g1, g2, g3, g4, g5, g6⟩ := pw_fnpa hok r1 hp
  obtain ⟨t1, t2, t3⟩ := mk_topK hK hp
  obtain ⟨w, rfl⟩ : ∃ w, wT = w + 1 := ⟨wT - 1, by omega⟩
  obtain ⟨q1, q2, q3, q4⟩ := hl.2.2.2 n r1
  rw [tb_P_some hp] at q1
  have ha := (hok.2.1 p g1).2.2.2.1 hk
  have c1 : tr_ci N (pr_ar F pc kd na) n = 1 := by omega
  rw [c1] at t2
  have t2' : y_wStep w = 2 := t2
  have hcx : ¬ a_childIndexes n = 0 := by rw [q2, c1]; decide
  have pn := mc_ci_pw (kd := kd) hok.1 r1 hp (Or.inl hk)
  have ek := hK.2.2.1
  have ev := hK.2.2.2.2.1
  obtain ⟨h1, h2⟩ := hK.1.2.2.2.2.2.2.2.2.1 n p 0 (tr_an_self r1) hp (Or.inl hk) (by omega)
  obtain ⟨a1, a2, a3, a4, a5, a6, a7⟩ := pg_ch hok.1 (n := p) (c := 0) g1 (by omega)
  have e0 := (pw_e4 hok a1 a3 hk).1
  rw [a4, if_pos rfl] at e0
  rw [e0] at h2
  obtain ⟨x, hx, ex⟩ := h2.1 rfl
  obtain ⟨en, ep⟩ := pw_e4 hok r1 hp hk
  rw [c1, if_neg (by omega)] at en
  have hV := hK.2.2.2.2.2
  rw [en] at hV
  obtain ⟨l, hl1, hl2⟩ := hV.2 (by omega)
  obtain ⟨vv, rfl⟩ : ∃ v, vT = v + 2 := ⟨vT - 2, by omega⟩
  have sn : sq_sc N (pr_ar F pc kd na) kd (pr_z F bs pc) n = sq_sc N (pr_ar F pc kd na) kd (pr_z F bs pc) p := by rw [sq_some hp, sq_cv0 (Or.inr ⟨by omega, by omega⟩)]; rfl
  have ev1 : y_vals (vv + 1) = lN (vl_enc l) := by rw [← hl2, ← ev]; exact congrArg y_vals (by omega)
  have ev2 : y_vals vv = lN x := by rw [← ex, ← h1]; exact congrArg y_vals (by omega)
  rw [tr_ch_0] at ex a1
  have h12 := hl1.1
  by_cases hlM : l.length = M
  · refine rn_end (x' := ((nI M), (nI F), (nI N), f_code, f_faultFunction, f_bound, f_foundParam, f_foundDrop, 4, f_calls, (nI (e + 1)), f_fuelLimit, (nI b), (nI bl), f_waitingFunction, (nI n), 1, f_currentValue, (fun i => nI (pc i)), mk, (fun i => nI (rt i)), (fun i => nI (bs i)), (fun i => nI (kd i)), na, a_parents, a_childIndexes, a_subtreeEnds, a_scopeSizes, a_levelTypes, a_levelParams, a_levelDrops, a_expectedTypes, a_totals, a_slotTypes, a_slotValues, a_waitingArgs, a_callNodes, a_levelValues, a_nodeValues)) (y' := ((nI M), (nI F), (nI N), f_code, f_faultFunction, f_bound, 4, f_calls, (nI (e + 1)), f_fuelLimit, y_hasResult, y_resVal, (nI vv), (nI (w + 1)), (nI eT), (nI b), (nI bl), y_factJ, y_factK, (fun i => nI (pc i)), mk, (fun i => nI (rt i)), (fun i => nI (bs i)), (fun i => nI (kd i)), na, y_tVal, a_slotTypes, a_slotValues, y_vals, y_wNode, y_wStep, y_env, y_actBase)) (fun j => rl_mk (k := j) hM hP hS (rl_idle (by decide) (by decide) (fun _ => hl))) rfl (fun post fu i hi h => ?_) (fun post fu i hi h => ?_)
    · exact rx_up hi (xh_cons1 hP hM.2 r1 a1 q1 hk r2 hcx hl1 hl2 hx ex (fun _ => rx_end h) (fun y => absurd hlM y))
    · exact ry_in hi (by omega) hP.2.1 t1 g1 t2' (yt_cons hP hM.2 g1 hk (by omega) hl1 hx ev1 ev2 (fun _ => ry_end h) (fun y => absurd hlM y))
  · have ms := ms_up hok (b := b) (d := e + 1) r1 hp
    refine rn_step ((IH _ (by omega) m e p b w (vv + 1) eT f_calls f_waitingFunction (lN (vl_enc (x :: l))) a_waitingArgs a_callNodes a_levelValues a_nodeValues (vp_updL y_vals vv (lN (vl_enc (x :: l)))) y_wNode y_wStep y_env y_actBase hb).2 (mk_up hok hK hp (by rw [ep]; exact vl_list (by omega) (vl_cons_ok hl1 hx (by omega))) (by omega) (by rw [← sn]; exact hK.2.2.2.1)) (Nat.le_refl _)) (by omega) (fun post fu i hi h => ?_) (fun post fu i hi h => ?_)
    · exact rx_up hi (xh_cons1 hP hM.2 r1 a1 q1 hk r2 hcx hl1 hl2 hx ex (fun y => absurd y hlM) (fun _ => rx_of h))
    · exact ry_in hi (by omega) hP.2.1 t1 g1 t2' (yt_cons hP hM.2 g1 hk (by omega) hl1 hx ev1 ev2 (fun y => absurd y hlM) (fun _ => ry_of h))
theorem rn_caseup {u p : Nat} (hM : 1 ≤ M ∧ M ≤ 12) (hP : pr_in F N pc rt bs kd mk na) (hS : rl_sl M a_slotTypes a_slotValues) (hc : f_code = 1 ∨ f_code = 6) (hl : rl_laid F N pc rt bs kd mk na a_parents a_childIndexes a_subtreeEnds a_scopeSizes) (hbl : bl ≤ 200) (IH : ∀ u1, u1 < u → rn_P M F N bl pc rt bs kd mk na f_code f_faultFunction f_bound f_foundParam f_foundDrop f_fuelLimit a_parents a_childIndexes a_subtreeEnds a_scopeSizes a_levelTypes a_levelParams a_levelDrops a_expectedTypes a_totals a_slotTypes a_slotValues y_hasResult y_resVal y_factJ y_factK y_tVal u1) (hb : b ≤ bl) (hK : mc_K F N M bs (pr_ar F pc kd na) kd (pr_ag na) (pr_z F bs pc) (pr_pt F bs mk) (pr_rt F bs rt) (pr_gt mk na) m e n f_currentValue y_wNode y_wStep y_vals y_env a_levelValues a_nodeValues a_callNodes y_actBase wT vT eT) (hm : ms_ms N (pr_ar F pc kd na) b (e + 1) n true ≤ u) (hp : tr_pa N (pr_ar F pc kd na) n = some p) (hk : kd p = 6 ∨ kd p = 7) (hci : tr_ci N (pr_ar F pc kd na) n ≠ 0) : rn_D ((nI M), (nI F), (nI N), f_code, f_faultFunction, f_bound, f_foundParam, f_foundDrop, 1, f_calls, (nI (e + 1)), f_fuelLimit, (nI b), (nI bl), f_waitingFunction, (nI n), 1, f_currentValue, (fun i => nI (pc i)), mk, (fun i => nI (rt i)), (fun i => nI (bs i)), (fun i => nI (kd i)), na, a_parents, a_childIndexes, a_subtreeEnds, a_scopeSizes, a_levelTypes, a_levelParams, a_levelDrops, a_expectedTypes, a_totals, a_slotTypes, a_slotValues, a_waitingArgs, a_callNodes, a_levelValues, a_nodeValues) ((nI M), (nI F), (nI N), f_code, f_faultFunction, f_bound, 1, f_calls, (nI (e + 1)), f_fuelLimit, y_hasResult, y_resVal, (nI vT), (nI wT), (nI eT), (nI b), (nI bl), y_factJ, y_factK, (fun i => nI (pc i)), mk, (fun i => nI (rt i)), (fun i => nI (bs i)), (fun i => nI (kd i)), na, y_tVal, a_slotTypes, a_slotValues, y_vals, y_wNode, y_wStep, y_env, y_actBase) u := by
  have hok := hl.2.1
  obtain ⟨r1, r2, r3, r4, r5, r6, r7, r8⟩ := mk_roomK hok hK
  obtain ⟨g1, g2, g3, g4, g5, g6⟩ := pw_fnpa hok r1 hp
  obtain ⟨t1, t2, t3⟩ := mk_topK hK hp
  obtain ⟨w, rfl⟩ : ∃ w, wT = w + 1 := ⟨wT - 1, by omega⟩
  obtain ⟨q1, q2, q3, q4⟩ := hl.2.2.2 n r1
  rw [tb_P_some hp] at q1
  have ha := (hok.2.1 p g1).2.2.2.2 hk
  have hcx : ¬ a_childIndexes n = 0 := by
    rw [q2]
    exact nI_ne0 (by omega) (by omega)
  have sn := sq_some (kd := kd) (z := (pr_z F bs pc)) hp
  have eE := hK.2.2.2.1
  have cv : (tr_ci N (pr_ar F pc kd na) n + 1 = 2 ∧ sq_cv N (pr_ar F pc kd na) kd p n = 0) ∨ (tr_ci N (pr_ar F pc kd na) n + 1 = 3 ∧ sq_cv N (pr_ar F pc kd na) kd p n = (if kd p = 6 then 1 else 2)) := by
    rcases (show tr_ci N (pr_ar F pc kd na) n = 1 ∨ tr_ci N (pr_ar F pc kd na) n = 2 by omega) with c | c
    · exact Or.inl ⟨by omega, sq_cv0 (Or.inl (by omega))⟩
    · refine Or.inr ⟨by omega, ?_⟩
      unfold sq_cv
      rw [if_pos (by omega)]
      rcases hk with k | k
      · rw [if_pos k, if_pos k]
      · rw [if_neg (by omega), if_pos k, if_neg (by omega)]
  have ms := ms_up hok (b := b) (d := e + 1) r1 hp
  refine rn_step ((IH _ (by omega) m e p b w vT (eT - sq_cv N (pr_ar F pc kd na) kd p n) f_calls f_waitingFunction f_currentValue a_waitingArgs a_callNodes a_levelValues a_nodeValues y_vals y_wNode y_wStep y_env y_actBase hb).2 (mk_upc hok hK hp hk hci (by omega)) (Nat.le_refl _)) (by omega) (fun post fu i hi h => ?_) (fun post fu i hi h => ?_)
  · exact rx_up hi (xh_case_up hP r1 g1 q1 hk hcx (rx_of h))
  · refine ry_in hi (by omega) hP.2.1 t1 g1 t2 (yt_up67 (E2 := eT - sq_cv N (pr_ar F pc kd na) kd p n) hP g1 hk ?_ (by omega) (ry_of h))
    rcases cv with ⟨c1, c2⟩ | ⟨c1, c2⟩
    · exact Or.inl ⟨c1, by omega⟩
    · exact Or.inr ⟨c1, by omega⟩
end
