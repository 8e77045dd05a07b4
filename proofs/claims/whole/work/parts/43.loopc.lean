section
variable {M : Nat} {F : Nat} {N : Nat} {bl : Nat} {pc : Nat → Nat} {rt : Nat → Nat} {bs : Nat → Nat} {kd : Nat → Nat} {mk : Nat → Int32} {na : Nat → Int32} {f_code : Int32} {f_faultFunction : Int32} {f_bound : Int64} {f_foundParam : Int32} {f_foundDrop : Int32} {f_fuelLimit : Int64} {a_parents : Nat → Int32} {a_childIndexes : Nat → Int32} {a_subtreeEnds : Nat → Int32} {a_scopeSizes : Nat → Int32} {a_levelTypes : Nat → Int32} {a_levelParams : Nat → Int32} {a_levelDrops : Nat → Int32} {a_expectedTypes : Nat → Int32} {a_totals : Nat → Int64} {a_slotTypes : Nat → Int32} {a_slotValues : Nat → Int64} {y_hasResult : Int32} {y_resVal : Int64} {y_factJ : Int32} {y_factK : Int32} {y_tVal : Nat → Int64}
variable {m : Nat → Nat} {e : Nat} {n : Nat} {b : Nat} {wT : Nat} {vT : Nat} {eT : Nat} {f_calls : Int64} {f_waitingFunction : Int32} {f_currentValue : Int64} {a_waitingArgs : Nat → Int64} {a_callNodes : Nat → Int32} {a_levelValues : Nat → Int64} {a_nodeValues : Nat → Int64} {y_vals : Nat → Int64} {y_wNode : Nat → Int32} {y_wStep : Nat → Int32} {y_env : Nat → Int64} {y_actBase : Nat → Int32}
theorem rn_case0 {u p : Nat} (hM : 1 ≤ M ∧ M ≤ 12) (hP : pr_in F N pc rt bs kd mk na) (hS : rl_sl M a_slotTypes a_slotValues) (hc : f_code = 1 ∨ f_code = 6) (hl : rl_laid F N pc rt bs kd mk na a_parents a_childIndexes a_subtreeEnds a_scopeSizes) (hbl : bl ≤ 200) (IH : ∀ u1, u1 < u → rn_P M F N bl pc rt bs kd mk na f_code f_faultFunction f_bound f_foundParam f_foundDrop f_fuelLimit a_parents a_childIndexes a_subtreeEnds a_scopeSizes a_levelTypes a_levelParams a_levelDrops a_expectedTypes a_totals a_slotTypes a_slotValues y_hasResult y_resVal y_factJ y_factK y_tVal u1) (hb : b ≤ bl) (hK : mc_K F N M bs (pr_ar F pc kd na) kd (pr_ag na) (pr_z F bs pc) (pr_pt F bs mk) (pr_rt F bs rt) (pr_gt mk na) m e n f_currentValue y_wNode y_wStep y_vals y_env a_levelValues a_nodeValues a_callNodes y_actBase wT vT eT) (hm : ms_ms N (pr_ar F pc kd na) b (e + 1) n true ≤ u) (hp : tr_pa N (pr_ar F pc kd na) n = some p) (hk : kd p = 6 ∨ kd p = 7) (hci : tr_ci N (pr_ar F pc kd na) n = 0) : rn_D ((nI M), (nI F), (nI N), f_code, f_faultFunction, f_bound, f_foundParam, f_foundDrop, 1, f_calls, (nI (e + 1)), f_fuelLimit, (nI b), (nI bl), f_waitingFunction, (nI n), 1, f_currentValue, (fun i => nI (pc i)), mk, (fun i => nI (rt i)), (fun i => nI (bs i)), (fun i => nI (kd i)), na, a_parents, a_childIndexes, a_subtreeEnds, a_scopeSizes, a_levelTypes, a_levelParams, a_levelDrops, a_expectedTypes, a_totals, a_slotTypes, a_slotValues, a_waitingArgs, a_callNodes, a_levelValues, a_nodeValues) ((nI M), (nI F), (nI N), f_code, f_faultFunction, f_bound, 1, f_calls, (nI (e + 1)), f_fuelLimit, y_hasResult, y_resVal, (nI vT), (nI wT), (nI eT), (nI b), (nI bl), y_factJ, y_factK, (fun i => nI (pc i)), mk, (fun i => nI (rt i)), (fun i => nI (bs i)), (fun i => nI (kd i)), na, y_tVal, a_slotTypes, a_slotValues, y_vals, y_wNode, y_wStep, y_env, y_actBase) u := by
  have hok := hl.2.1
  obtain ⟨r1, r2, r3, r4, r5, r6, r7, r8⟩ := mk_roomK hok hK
  obtain ⟨g1, g2, g3, g4, g5, g6⟩ := pw_fnpa hok r1 hp
  obtain ⟨t1, t2, t3⟩ := mk_topK hK hp
  obtain ⟨w, rfl⟩ : ∃ w, wT = w + 1 := ⟨wT - 1, by omega⟩
  obtain ⟨vv, rfl⟩ : ∃ v, vT = v + 1 := ⟨vT - 1, by omega⟩
  obtain ⟨q1, q2, q3, q4⟩ := hl.2.2.2 n r1
  rw [tb_P_some hp] at q1
  rw [hci] at q2 t2
  have t2' : y_wStep w = 1 := t2
  have q2' : a_childIndexes n = 0 := q2
  have ha := (hok.2.1 p g1).2.2.2.2 hk
  have h64 := hP.2.1
  obtain ⟨a1, a2, a3, a4, a5, a6, a7⟩ := pg_ch hok.1 (n := p) (c := 1) g1 (by omega)
  have ec1 : tr_ch N (pr_ar F pc kd na) p 1 = tr_se N (pr_ar F pc kd na) n := by rw [show (1 : Nat) = 0 + 1 from rfl, tr_ch_s, ← hci, ← g5]
  rw [ec1] at a1 a3
  obtain ⟨c1, c2, c3, c4⟩ := mk_ch2 hok r1 hp hk hci
  have ek := hK.2.2.1
  have ev := hK.2.2.2.2.1
  have evv : y_vals vv = f_currentValue := by rw [← ev]; exact congrArg y_vals (by omega)
  have hE := hK.2.2.2.1
  have sn : sq_sc N (pr_ar F pc kd na) kd (pr_z F bs pc) n = sq_sc N (pr_ar F pc kd na) kd (pr_z F bs pc) p := by rw [sq_some hp, sq_cv0 (Or.inl (by omega))]; rfl
  have s2 := sq_some (kd := kd) (z := (pr_z F bs pc)) c2
  have s45 := pw_sc45 hok c4
  have qs2 := (hl.2.2.2 _ a1).2.2.1
  have qsc := (hl.2.2.2 p g1).2.2.2
  have se2 : tr_se N (pr_ar F pc kd na) n ≤ tr_se N (pr_ar F pc kd na) (tr_se N (pr_ar F pc kd na) n) := tr_se_ge _
  have c4' := c4
  have c2' := c2
  rw [← c1] at c4' c2'
  have et := pw_e67 hok r1 hp hk hci
  have hV := hK.2.2.2.2.2
  have zero : f_currentValue = 0 → rn_D ((nI M), (nI F), (nI N), f_code, f_faultFunction, f_bound, f_foundParam, f_foundDrop, 1, f_calls, (nI (e + 1)), f_fuelLimit, (nI b), (nI bl), f_waitingFunction, (nI n), 1, f_currentValue, (fun i => nI (pc i)), mk, (fun i => nI (rt i)), (fun i => nI (bs i)), (fun i => nI (kd i)), na, a_parents, a_childIndexes, a_subtreeEnds, a_scopeSizes, a_levelTypes, a_levelParams, a_levelDrops, a_expectedTypes, a_totals, a_slotTypes, a_slotValues, a_waitingArgs, a_callNodes, a_levelValues, a_nodeValues) ((nI M), (nI F), (nI N), f_code, f_faultFunction, f_bound, 1, f_calls, (nI (e + 1)), f_fuelLimit, y_hasResult, y_resVal, (nI (vv + 1)), (nI (w + 1)), (nI eT), (nI b), (nI bl), y_factJ, y_factK, (fun i => nI (pc i)), mk, (fun i => nI (rt i)), (fun i => nI (bs i)), (fun i => nI (kd i)), na, y_tVal, a_slotTypes, a_slotValues, y_vals, y_wNode, y_wStep, y_env, y_actBase) u := by
    intro hz
    have ms := ms_sib hok (b := b) (d := e + 1) r1 a1 hp a3 (Nat.le_refl _)
    refine rn_step ((IH _ (by omega) m e (tr_se N (pr_ar F pc kd na) n) b (w + 2) vv eT f_calls f_waitingFunction f_currentValue a_waitingArgs a_callNodes a_levelValues a_nodeValues y_vals (upd y_wNode (w + 1) (nI (tr_se N (pr_ar F pc kd na) n))) (upd (upd y_wStep w 2) (w + 1) 0) y_env y_actBase hb).1 (mk_case1 hok hK hp hk hci) (Nat.le_refl _)) (by omega) (fun post fu i hi h => ?_) (fun post fu i hi h => ?_)
    · exact rx_up hi (xh_case_z hP r1 g1 q1 (hk.elim (fun k => Or.inl ⟨k, hz⟩) (fun k => Or.inr ⟨k, hz⟩)) q2' q3 (rx_of h))
    · refine ry_in hi (by omega) hP.2.1 t1 g1 t2' (yt_case_z hP g1 hk (by omega) (by omega) (evv.trans hz) ?_)
      rw [ec1]
      exact ry_of h
  have ms2 := ms_sib hok (b := b) (d := e + 1) r1 c4' hp c2' (by omega)
  rcases hk with k | k
  · rw [if_neg (by omega)] at et
    rw [et] at hV
    obtain ⟨q, hq, eq⟩ := hV.1 rfl
    cases q with
    | zero => exact zero eq
    | succ q =>
      rw [if_pos k] at c3
      refine rn_step ((IH _ (by omega) m e (tr_se N (pr_ar F pc kd na) (tr_se N (pr_ar F pc kd na) n)) b (w + 2) vv (eT + 1) f_calls f_waitingFunction f_currentValue a_waitingArgs a_callNodes (vp_updL a_levelValues (45 * e + sq_sc N (pr_ar F pc kd na) kd (pr_z F bs pc) p) (lN q)) a_nodeValues y_vals (upd y_wNode (w + 1) (nI (tr_se N (pr_ar F pc kd na) (tr_se N (pr_ar F pc kd na) n)))) (upd (upd y_wStep w 3) (w + 1) 0) (vp_updL y_env eT (lN q)) y_actBase hb).1 (mk_caseN hok hK hp k hci (vl_nat (by omega))) (Nat.le_refl _)) (by omega) (fun post fu i hi h => ?_) (fun post fu i hi h => ?_)
      · exact rx_up hi (xh_case_N hP r1 g1 q1 k q2' (by omega) q3 qs2 qsc (by omega) r2 (by omega) eq (rx_of h))
      · refine ry_in hi (by omega) hP.2.1 t1 g1 t2' (yt_case_N hP g1 k (by omega) (by omega) (by omega) (by omega) (evv.trans eq) ?_)
        rw [← c1]
        exact ry_of h
  · rw [if_pos k] at et
    rw [et] at hV
    obtain ⟨l, hl1, hl2⟩ := hV.2 (by omega)
    cases l with
    | nil => exact zero hl2
    | cons x l =>
      rw [if_neg (by omega)] at c3
      refine rn_step ((IH _ (by omega) m e (tr_se N (pr_ar F pc kd na) (tr_se N (pr_ar F pc kd na) n)) b (w + 2) vv (eT + 2) f_calls f_waitingFunction f_currentValue a_waitingArgs a_callNodes (vp_updL (vp_updL a_levelValues (45 * e + sq_sc N (pr_ar F pc kd na) kd (pr_z F bs pc) p) (lN x)) (45 * e + sq_sc N (pr_ar F pc kd na) kd (pr_z F bs pc) p + 1) (lN (vl_enc l))) a_nodeValues y_vals (upd y_wNode (w + 1) (nI (tr_se N (pr_ar F pc kd na) (tr_se N (pr_ar F pc kd na) n)))) (upd (upd y_wStep w 3) (w + 1) 0) (vp_updL (vp_updL y_env eT (lN x)) (eT + 1) (lN (vl_enc l))) y_actBase hb).1 (mk_caseL hok hK hp k hci (vl_nat (vl_head_le hl1)) (vl_list (by omega) (vl_tail_ok hl1))) (Nat.le_refl _)) (by omega) (fun post fu i hi h => ?_) (fun post fu i hi h => ?_)
      · exact rx_up hi (xh_case_L hP hM.2 r1 g1 q1 k q2' (by omega) q3 qs2 qsc (by omega) r2 hl1 hl2 (rx_of h))
      · refine ry_in hi (by omega) hP.2.1 t1 g1 t2' (yt_case_L hP hM.2 g1 k (by omega) (by omega) (by omega) hl1 (evv.trans hl2) ?_)
        rw [← c1]
        exact ry_of h
theorem rn_next {u p : Nat} (hM : 1 ≤ M ∧ M ≤ 12) (hP : pr_in F N pc rt bs kd mk na) (hS : rl_sl M a_slotTypes a_slotValues) (hc : f_code = 1 ∨ f_code = 6) (hl : rl_laid F N pc rt bs kd mk na a_parents a_childIndexes a_subtreeEnds a_scopeSizes) (hbl : bl ≤ 200) (IH : ∀ u1, u1 < u → rn_P M F N bl pc rt bs kd mk na f_code f_faultFunction f_bound f_foundParam f_foundDrop f_fuelLimit a_parents a_childIndexes a_subtreeEnds a_scopeSizes a_levelTypes a_levelParams a_levelDrops a_expectedTypes a_totals a_slotTypes a_slotValues y_hasResult y_resVal y_factJ y_factK y_tVal u1) (hb : b ≤ bl) (hK : mc_K F N M bs (pr_ar F pc kd na) kd (pr_ag na) (pr_z F bs pc) (pr_pt F bs mk) (pr_rt F bs rt) (pr_gt mk na) m e n f_currentValue y_wNode y_wStep y_vals y_env a_levelValues a_nodeValues a_callNodes y_actBase wT vT eT) (hm : ms_ms N (pr_ar F pc kd na) b (e + 1) n true ≤ u) (hp : tr_pa N (pr_ar F pc kd na) n = some p) (hk : kd p = 5) (hci : tr_ci N (pr_ar F pc kd na) n + 1 < pr_ar F pc kd na p) : rn_D ((nI M), (nI F), (nI N), f_code, f_faultFunction, f_bound, f_foundParam, f_foundDrop, 1, f_calls, (nI (e + 1)), f_fuelLimit, (nI b), (nI bl), f_waitingFunction, (nI n), 1, f_currentValue, (fun i => nI (pc i)), mk, (fun i => nI (rt i)), (fun i => nI (bs i)), (fun i => nI (kd i)), na, a_parents, a_childIndexes, a_subtreeEnds, a_scopeSizes, a_levelTypes, a_levelParams, a_levelDrops, a_expectedTypes, a_totals, a_slotTypes, a_slotValues, a_waitingArgs, a_callNodes, a_levelValues, a_nodeValues) ((nI M), (nI F), (nI N), f_code, f_faultFunction, f_bound, 1, f_calls, (nI (e + 1)), f_fuelLimit, y_hasResult, y_resVal, (nI vT), (nI wT), (nI eT), (nI b), (nI bl), y_factJ, y_factK, (fun i => nI (pc i)), mk, (fun i => nI (rt i)), (fun i => nI (bs i)), (fun i => nI (kd i)), na, y_tVal, a_slotTypes, a_slotValues, y_vals, y_wNode, y_wStep, y_env, y_actBase) u := by
  have hok := hl.2.1
  obtain ⟨r1, r2, r3, r4, r5, r6, r7, r8⟩ := mk_roomK hok hK
  obtain ⟨g1, g2, g3, g4, g5, g6⟩ := pw_fnpa hok r1 hp
  obtain ⟨t1, t2, t3⟩ := mk_topK hK hp
  obtain ⟨w, rfl⟩ : ∃ w, wT = w + 1 := ⟨wT - 1, by omega⟩
  obtain ⟨q1, q2, q3, q4⟩ := hl.2.2.2 n r1
  rw [tb_P_some hp] at q1
  obtain ⟨f1, f2, f3⟩ := pr_ar5 hok.1 hP hl.2.2.1 g1 hk
  have hp3 := hP.2.2.1 (pr_ag na p)
  have ec : tr_ch N (pr_ar F pc kd na) p (tr_ci N (pr_ar F pc kd na) n + 1) = tr_se N (pr_ar F pc kd na) n := by rw [tr_ch_s, ← g5]
  obtain ⟨a1, a2, a3, a4, a5, a6, a7⟩ := pg_ch hok.1 (n := p) (c := tr_ci N (pr_ar F pc kd na) n + 1) g1 hci
  rw [ec] at a1 a3
  have ms := ms_sib hok (b := b) (d := e + 1) r1 a1 hp a3 (Nat.le_refl _)
  refine rn_step ((IH _ (by omega) m e (tr_se N (pr_ar F pc kd na) n) b (w + 2) vT eT f_calls f_waitingFunction f_currentValue a_waitingArgs a_callNodes a_levelValues (vp_updL a_nodeValues (64 * e + n) f_currentValue) y_vals (upd y_wNode (w + 1) (nI (tr_se N (pr_ar F pc kd na) n))) (upd (upd y_wStep w (nI (tr_ci N (pr_ar F pc kd na) n + 2))) (w + 1) 0) y_env y_actBase hb).1 (mk_next hok hK hp (Or.inr hk) hci) (Nat.le_refl _)) (by omega) (fun post fu i hi h => ?_) (fun post fu i hi h => ?_)
  · exact rx_up hi (xh_call hP (fun j hj => (hl.2.2.2 j hj).2.2.1) r1 g1 q1 hk r2 f1 f3 (fun c hc => (pg_ch hok.1 g1 (by omega)).1) q2 (by omega) (fun _ => rx_of h) (fun y => by omega))
  · refine ry_in hi (by omega) hP.2.1 t1 g1 t2 (yt_push5 (c := tr_ci N (pr_ar F pc kd na) n + 1) hP g1 hk f1 f3 (by omega) (by omega) ?_)
    rw [ec]
    exact ry_of h
end
