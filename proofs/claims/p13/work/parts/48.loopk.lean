section
variable {M : Nat} {F : Nat} {N : Nat} {bl : Nat} {cb : Nat} {pc : Nat → Nat} {rt : Nat → Nat} {bs : Nat → Nat} {kd : Nat → Nat} {mk : Nat → Int32} {na : Nat → Int32} {f_code : Int32} {f_faultFunction : Int32} {f_bound : Int64} {f_foundParam : Int32} {f_foundDrop : Int32} {f_fuelLimit : Int64} {a_parents : Nat → Int32} {a_childIndexes : Nat → Int32} {a_subtreeEnds : Nat → Int32} {a_scopeSizes : Nat → Int32} {a_levelTypes : Nat → Int32} {a_levelParams : Nat → Int32} {a_levelDrops : Nat → Int32} {a_expectedTypes : Nat → Int32} {a_totals : Nat → Int64} {a_slotTypes : Nat → Int32} {a_slotValues : Nat → Int64}
variable {m : Nat → Nat} {e : Nat} {n : Nat} {b : Nat} {wT : Nat} {vT : Nat} {eT : Nat} {f_calls : Int64} {f_waitingFunction : Int32} {f_currentValue : Int64} {a_waitingArgs : Nat → Int64} {a_callNodes : Nat → Int32} {a_levelValues : Nat → Int64} {a_nodeValues : Nat → Int64} {y_vals : Nat → Int64} {y_wNode : Nat → Int32} {y_wStep : Nat → Int32} {y_env : Nat → Int64} {y_actBase : Nat → Int32}
theorem lx_over {u p : Nat} (hM : 1 ≤ M ∧ M ≤ 12) (hP : pr_in F N pc rt bs kd mk na) (hS : rl_sl M a_slotTypes a_slotValues) (hc : f_code = 1 ∨ f_code = 6) (hl : rl_laid F N pc rt bs kd mk na a_parents a_childIndexes a_subtreeEnds a_scopeSizes) (hbl : bl ≤ 200) (hds : f_code = 1 → iv_ds F N pc bs kd na) (hbd : f_code = 1 → f_bound = lN (bd_c bd_C (pr_T M F N pc bs kd na (F - 1)))) (hfl : f_code = 1 → f_fuelLimit = f_bound) (hcb : cb < 1000000) (hb : b ≤ bl) (hG : lx_K M F N pc rt bs kd mk na bl cb f_code f_calls m e n b f_currentValue a_levelValues a_nodeValues) (hX : ∀ (post : Int32 → St2 → Prop) (fu i : Nat), i < 500000 → post 4 ((nI M), (nI F), (nI N), f_code, f_faultFunction, f_bound, f_foundParam, f_foundDrop, 4, f_calls, (nI (e + 1)), f_fuelLimit, (nI b), (nI bl), f_waitingFunction, (nI n), 1, f_currentValue, (fun i => nI (pc i)), mk, (fun i => nI (rt i)), (fun i => nI (bs i)), (fun i => nI (kd i)), na, a_parents, a_childIndexes, a_subtreeEnds, a_scopeSizes, a_levelTypes, a_levelParams, a_levelDrops, a_expectedTypes, a_totals, a_slotTypes, a_slotValues, a_waitingArgs, a_callNodes, a_levelValues, a_nodeValues) → rn_X post (fu + 2) i 1 ((nI M), (nI F), (nI N), f_code, f_faultFunction, f_bound, f_foundParam, f_foundDrop, 1, f_calls, (nI (e + 1)), f_fuelLimit, (nI b), (nI bl), f_waitingFunction, (nI n), 1, f_currentValue, (fun i => nI (pc i)), mk, (fun i => nI (rt i)), (fun i => nI (bs i)), (fun i => nI (kd i)), na, a_parents, a_childIndexes, a_subtreeEnds, a_scopeSizes, a_levelTypes, a_levelParams, a_levelDrops, a_expectedTypes, a_totals, a_slotTypes, a_slotValues, a_waitingArgs, a_callNodes, a_levelValues, a_nodeValues)) : lx_D cb ((nI M), (nI F), (nI N), f_code, f_faultFunction, f_bound, f_foundParam, f_foundDrop, 1, f_calls, (nI (e + 1)), f_fuelLimit, (nI b), (nI bl), f_waitingFunction, (nI n), 1, f_currentValue, (fun i => nI (pc i)), mk, (fun i => nI (rt i)), (fun i => nI (bs i)), (fun i => nI (kd i)), na, a_parents, a_childIndexes, a_subtreeEnds, a_scopeSizes, a_levelTypes, a_levelParams, a_levelDrops, a_expectedTypes, a_totals, a_slotTypes, a_slotValues, a_waitingArgs, a_callNodes, a_levelValues, a_nodeValues) u := by
  refine lx_end (x' := ((nI M), (nI F), (nI N), f_code, f_faultFunction, f_bound, f_foundParam, f_foundDrop, 4, f_calls, (nI (e + 1)), f_fuelLimit, (nI b), (nI bl), f_waitingFunction, (nI n), 1, f_currentValue, (fun i => nI (pc i)), mk, (fun i => nI (rt i)), (fun i => nI (bs i)), (fun i => nI (kd i)), na, a_parents, a_childIndexes, a_subtreeEnds, a_scopeSizes, a_levelTypes, a_levelParams, a_levelDrops, a_expectedTypes, a_totals, a_slotTypes, a_slotValues, a_waitingArgs, a_callNodes, a_levelValues, a_nodeValues)) (iv_mk hM hP hS (iv_idle (by decide) (fun _ => by decide) (fun _ => hl) hds hbd (fun y => ?_))) hX
  obtain ⟨ps, c, c1, c2, c3, c4⟩ := hG y
  exact ⟨c, c1, by omega, lx_calls c3⟩
theorem lx_succ {u p : Nat} (hM : 1 ≤ M ∧ M ≤ 12) (hP : pr_in F N pc rt bs kd mk na) (hS : rl_sl M a_slotTypes a_slotValues) (hc : f_code = 1 ∨ f_code = 6) (hl : rl_laid F N pc rt bs kd mk na a_parents a_childIndexes a_subtreeEnds a_scopeSizes) (hbl : bl ≤ 200) (hds : f_code = 1 → iv_ds F N pc bs kd na) (hbd : f_code = 1 → f_bound = lN (bd_c bd_C (pr_T M F N pc bs kd na (F - 1)))) (hfl : f_code = 1 → f_fuelLimit = f_bound) (hcb : cb < 1000000) (IH : ∀ u1, u1 < u → lx_P M F N bl cb pc rt bs kd mk na f_code f_faultFunction f_bound f_foundParam f_foundDrop f_fuelLimit a_parents a_childIndexes a_subtreeEnds a_scopeSizes a_levelTypes a_levelParams a_levelDrops a_expectedTypes a_totals a_slotTypes a_slotValues u1) (hb : b ≤ bl) (hK : mc_K F N M bs (pr_ar F pc kd na) kd (pr_ag na) (pr_z F bs pc) (pr_pt F bs mk) (pr_rt F bs rt) (pr_gt mk na) m e n f_currentValue y_wNode y_wStep y_vals y_env a_levelValues a_nodeValues a_callNodes y_actBase wT vT eT) (hG : lx_K M F N pc rt bs kd mk na bl cb f_code f_calls m e n b f_currentValue a_levelValues a_nodeValues) (hm : ms_ms N (pr_ar F pc kd na) b (e + 1) n true ≤ u) (hp : tr_pa N (pr_ar F pc kd na) n = some p) (hk : kd p = 2) : lx_D cb ((nI M), (nI F), (nI N), f_code, f_faultFunction, f_bound, f_foundParam, f_foundDrop, 1, f_calls, (nI (e + 1)), f_fuelLimit, (nI b), (nI bl), f_waitingFunction, (nI n), 1, f_currentValue, (fun i => nI (pc i)), mk, (fun i => nI (rt i)), (fun i => nI (bs i)), (fun i => nI (kd i)), na, a_parents, a_childIndexes, a_subtreeEnds, a_scopeSizes, a_levelTypes, a_levelParams, a_levelDrops, a_expectedTypes, a_totals, a_slotTypes, a_slotValues, a_waitingArgs, a_callNodes, a_levelValues, a_nodeValues) u := by
  have hok := hl.2.1
  obtain ⟨r1, r2, r3, r4, r5, r6, r7, r8⟩ := mk_roomK hok hK
  have hsm := mk_sm hK.1.2.2.2.2.2.2.1
  obtain ⟨g1, g2, g3, g4, g5, g6⟩ := pw_fnpa hok r1 hp
  have hpn := (hl.2.2.2 n r1).1
  rw [tb_P_some hp] at hpn
  have ha := (hok.2.1 p g1).2.2.1 hk
  have c0 : tr_ci N (pr_ar F pc kd na) n = 0 := by omega
  have en1 : n = p + 1 := by rw [g5, c0, tr_ch_0]
  have pn := mc_pn_some (kd := kd) hp
  unfold mc_pw at pn
  rw [if_neg (by omega)] at pn
  have sn : sq_sc N (pr_ar F pc kd na) kd (pr_z F bs pc) n = sq_sc N (pr_ar F pc kd na) kd (pr_z F bs pc) p := by rw [sq_some hp, sq_cv0 (Or.inr ⟨by omega, by omega⟩)]; rfl
  obtain ⟨en, ep⟩ := pw_e2 hok r1 hp hk
  have hV := hK.2.2.2.2.2
  rw [en] at hV
  obtain ⟨q, hq, eq⟩ := hV.1 rfl
  have eM : (nI M).toInt64 = lN M := nI_l (by omega)
  by_cases hqM : q = M
  · refine lx_over (p := p) hM hP hS hc hl hbl hds hbd hfl hcb hb hG (fun post fu i hi h => ?_)
    exact rx_up hi (xh_succ hP r1 g1 hpn hk (fun _ => rx_end h) (fun y => absurd (by rw [eq, eM, hqM]) y))
  · have ms := ms_up hok (b := b) (d := e + 1) r1 hp
    have e1 : f_currentValue + 1 = lN (q + 1) := by rw [eq, lN_1]
    refine lx_step ((IH _ (by omega) m e p b (wT - 1) (mc_vb N (pr_ar F pc kd na) kd m e + mc_pn N (pr_ar F pc kd na) kd p + 1) eT f_calls f_waitingFunction (f_currentValue + 1) a_waitingArgs a_callNodes a_levelValues a_nodeValues (vp_updL y_vals (mc_vb N (pr_ar F pc kd na) kd m e + mc_pn N (pr_ar F pc kd na) kd p) (f_currentValue + 1)) y_wNode y_wStep y_env y_actBase hb).2 (mk_up hok hK hp (by rw [ep, e1]; exact vl_nat (by omega)) rfl (by rw [← sn]; exact hK.2.2.2.1)) (fun y => ?_) (Nat.le_refl _)) (by omega) (fun post fu i hi h => ?_)
    · obtain ⟨ps, c, c1, c2, c3, c4⟩ := hG y
      refine ⟨ps, c, c1, c2, gt_up hok hsm r1 hp c3, fa_grow (fx_pcl hP hok.1) g1 hp (Or.inl ⟨hk, en1⟩) ?_ c4⟩
      show sz_sz (et_et N (pr_ar F pc kd na) kd (pr_rt F bs rt) (pr_gt mk na) p) _ = sz_sz (et_et N (pr_ar F pc kd na) kd (pr_rt F bs rt) (pr_gt mk na) n) _ + 1
      rw [ep, en, e1, eq, sz_nat (by omega), sz_nat (by omega)]
    · exact rx_up hi (xh_succ hP r1 g1 hpn hk (fun y => absurd ((lN_eq (by omega) (by omega)).mp ((eq.symm.trans y).trans eM)) hqM) (fun _ => rx_of h))
theorem lx_next {u p : Nat} (hM : 1 ≤ M ∧ M ≤ 12) (hP : pr_in F N pc rt bs kd mk na) (hS : rl_sl M a_slotTypes a_slotValues) (hc : f_code = 1 ∨ f_code = 6) (hl : rl_laid F N pc rt bs kd mk na a_parents a_childIndexes a_subtreeEnds a_scopeSizes) (hbl : bl ≤ 200) (hds : f_code = 1 → iv_ds F N pc bs kd na) (hbd : f_code = 1 → f_bound = lN (bd_c bd_C (pr_T M F N pc bs kd na (F - 1)))) (hfl : f_code = 1 → f_fuelLimit = f_bound) (hcb : cb < 1000000) (IH : ∀ u1, u1 < u → lx_P M F N bl cb pc rt bs kd mk na f_code f_faultFunction f_bound f_foundParam f_foundDrop f_fuelLimit a_parents a_childIndexes a_subtreeEnds a_scopeSizes a_levelTypes a_levelParams a_levelDrops a_expectedTypes a_totals a_slotTypes a_slotValues u1) (hb : b ≤ bl) (hK : mc_K F N M bs (pr_ar F pc kd na) kd (pr_ag na) (pr_z F bs pc) (pr_pt F bs mk) (pr_rt F bs rt) (pr_gt mk na) m e n f_currentValue y_wNode y_wStep y_vals y_env a_levelValues a_nodeValues a_callNodes y_actBase wT vT eT) (hG : lx_K M F N pc rt bs kd mk na bl cb f_code f_calls m e n b f_currentValue a_levelValues a_nodeValues) (hm : ms_ms N (pr_ar F pc kd na) b (e + 1) n true ≤ u) (hp : tr_pa N (pr_ar F pc kd na) n = some p) (hk : kd p = 4 ∨ kd p = 5) (hci : tr_ci N (pr_ar F pc kd na) n + 1 < pr_ar F pc kd na p) : lx_D cb ((nI M), (nI F), (nI N), f_code, f_faultFunction, f_bound, f_foundParam, f_foundDrop, 1, f_calls, (nI (e + 1)), f_fuelLimit, (nI b), (nI bl), f_waitingFunction, (nI n), 1, f_currentValue, (fun i => nI (pc i)), mk, (fun i => nI (rt i)), (fun i => nI (bs i)), (fun i => nI (kd i)), na, a_parents, a_childIndexes, a_subtreeEnds, a_scopeSizes, a_levelTypes, a_levelParams, a_levelDrops, a_expectedTypes, a_totals, a_slotTypes, a_slotValues, a_waitingArgs, a_callNodes, a_levelValues, a_nodeValues) u := by
  have hok := hl.2.1
  obtain ⟨r1, r2, r3, r4, r5, r6, r7, r8⟩ := mk_roomK hok hK
  have hsm := mk_sm hK.1.2.2.2.2.2.2.1
  obtain ⟨g1, g2, g3, g4, g5, g6⟩ := pw_fnpa hok r1 hp
  obtain ⟨q1, q2, q3, q4⟩ := hl.2.2.2 n r1
  rw [tb_P_some hp] at q1
  have ec : tr_ch N (pr_ar F pc kd na) p (tr_ci N (pr_ar F pc kd na) n + 1) = tr_se N (pr_ar F pc kd na) n := by rw [tr_ch_s, ← g5]
  obtain ⟨a1, a2, a3, a4, a5, a6, a7⟩ := pg_ch hok.1 (n := p) (c := tr_ci N (pr_ar F pc kd na) n + 1) g1 hci
  rw [ec] at a1 a3
  have ms := ms_sib hok (b := b) (d := e + 1) r1 a1 hp a3 (Nat.le_refl _)
  refine lx_step ((IH _ (by omega) m e (tr_se N (pr_ar F pc kd na) n) b (wT + 1) vT eT f_calls f_waitingFunction f_currentValue a_waitingArgs a_callNodes a_levelValues (vp_updL a_nodeValues (64 * e + n) f_currentValue) y_vals (upd y_wNode wT (nI (tr_se N (pr_ar F pc kd na) n))) (upd (upd y_wStep (wT - 1) (nI (tr_ci N (pr_ar F pc kd na) n + 2))) wT 0) y_env y_actBase hb).1 (mk_next hok hK hp hk hci) (fun y => ?_) (Nat.le_refl _)) (by omega) (fun post fu i hi h => ?_)
  · obtain ⟨ps, c, c1, c2, c3, c4⟩ := hG y
    exact ⟨ps, c, c1, c2, gt_next hok hsm r1 hp hk hci c3 c4⟩
  · rcases hk with k | k
    · have ha := (hok.2.1 p g1).2.2.2.1 k
      have c0 : tr_ci N (pr_ar F pc kd na) n = 0 := by omega
      rw [c0] at q2
      exact rx_up hi (xh_cons0 hP r1 g1 q1 k r2 q2 q3 (rx_of h))
    · obtain ⟨f1, f2, f3⟩ := pr_ar5 hok.1 hP hl.2.2.1 g1 k
      have hp3 := hP.2.2.1 (pr_ag na p)
      exact rx_up hi (xh_call hP (fun j hj => (hl.2.2.2 j hj).2.2.1) r1 g1 q1 k r2 f1 f3 (fun c hc => (pg_ch hok.1 g1 (by omega)).1) q2 (by omega) (fun _ => rx_of h) (fun y => by omega))
theorem lx_cons1 {u p : Nat} (hM : 1 ≤ M ∧ M ≤ 12) (hP : pr_in F N pc rt bs kd mk na) (hS : rl_sl M a_slotTypes a_slotValues) (hc : f_code = 1 ∨ f_code = 6) (hl : rl_laid F N pc rt bs kd mk na a_parents a_childIndexes a_subtreeEnds a_scopeSizes) (hbl : bl ≤ 200) (hds : f_code = 1 → iv_ds F N pc bs kd na) (hbd : f_code = 1 → f_bound = lN (bd_c bd_C (pr_T M F N pc bs kd na (F - 1)))) (hfl : f_code = 1 → f_fuelLimit = f_bound) (hcb : cb < 1000000) (IH : ∀ u1, u1 < u → lx_P M F N bl cb pc rt bs kd mk na f_code f_faultFunction f_bound f_foundParam f_foundDrop f_fuelLimit a_parents a_childIndexes a_subtreeEnds a_scopeSizes a_levelTypes a_levelParams a_levelDrops a_expectedTypes a_totals a_slotTypes a_slotValues u1) (hb : b ≤ bl) (hK : mc_K F N M bs (pr_ar F pc kd na) kd (pr_ag na) (pr_z F bs pc) (pr_pt F bs mk) (pr_rt F bs rt) (pr_gt mk na) m e n f_currentValue y_wNode y_wStep y_vals y_env a_levelValues a_nodeValues a_callNodes y_actBase wT vT eT) (hG : lx_K M F N pc rt bs kd mk na bl cb f_code f_calls m e n b f_currentValue a_levelValues a_nodeValues) (hm : ms_ms N (pr_ar F pc kd na) b (e + 1) n true ≤ u) (hp : tr_pa N (pr_ar F pc kd na) n = some p) (hk : kd p = 4) (hci : tr_ci N (pr_ar F pc kd na) n ≠ 0) : lx_D cb ((nI M), (nI F), (nI N), f_code, f_faultFunction, f_bound, f_foundParam, f_foundDrop, 1, f_calls, (nI (e + 1)), f_fuelLimit, (nI b), (nI bl), f_waitingFunction, (nI n), 1, f_currentValue, (fun i => nI (pc i)), mk, (fun i => nI (rt i)), (fun i => nI (bs i)), (fun i => nI (kd i)), na, a_parents, a_childIndexes, a_subtreeEnds, a_scopeSizes, a_levelTypes, a_levelParams, a_levelDrops, a_expectedTypes, a_totals, a_slotTypes, a_slotValues, a_waitingArgs, a_callNodes, a_levelValues, a_nodeValues) u := by
  have hok := hl.2.1
  obtain ⟨r1, r2, r3, r4, r5, r6, r7, r8⟩ := mk_roomK hok hK
  have hsm := mk_sm hK.1.2.2.2.2.2.2.1
  obtain ⟨g1, g2, g3, g4, g5, g6⟩ := pw_fnpa hok r1 hp
  obtain ⟨q1, q2, q3, q4⟩ := hl.2.2.2 n r1
  rw [tb_P_some hp] at q1
  have ha := (hok.2.1 p g1).2.2.2.1 hk
  have c1 : tr_ci N (pr_ar F pc kd na) n = 1 := by omega
  have hcx : ¬ a_childIndexes n = 0 := by rw [q2, c1]; decide
  have en1 : n = tr_ch N (pr_ar F pc kd na) p 1 := by rw [← c1]; exact g5
  have pn := mc_ci_pw (kd := kd) hok.1 r1 hp (Or.inl hk)
  obtain ⟨h1, h2⟩ := hK.1.2.2.2.2.2.2.2.2.1 n p 0 (tr_an_self r1) hp (Or.inl hk) (by omega)
  obtain ⟨a1, a2, a3, a4, a5, a6, a7⟩ := pg_ch hok.1 (n := p) (c := 0) g1 (by omega)
  have e0 := (pw_e4 hok a1 a3 hk).1
  rw [a4, if_pos rfl] at e0
  rw [e0] at h2
  obtain ⟨x, hx, ex⟩ := h2.1 rfl
  obtain ⟨en, ep⟩ := pw_e4 hok r1 hp hk
  rw [c1, if_neg (by omega)] at en
  have hV := hK.2.2.2.2.2
  rw [en] at hV
  obtain ⟨l, hl1, hl2⟩ := hV.2 (by omega)
  have sn : sq_sc N (pr_ar F pc kd na) kd (pr_z F bs pc) n = sq_sc N (pr_ar F pc kd na) kd (pr_z F bs pc) p := by rw [sq_some hp, sq_cv0 (Or.inr ⟨by omega, by omega⟩)]; rfl
  rw [tr_ch_0] at ex a1
  have h12 := hl1.1
  by_cases hlM : l.length = M
  · refine lx_over (p := p) hM hP hS hc hl hbl hds hbd hfl hcb hb hG (fun post fu i hi h => ?_)
    exact rx_up hi (xh_cons1 hP hM.2 r1 a1 q1 hk r2 hcx hl1 hl2 hx ex (fun _ => rx_end h) (fun y => absurd hlM y))
  · have ms := ms_up hok (b := b) (d := e + 1) r1 hp
    have hok2 := vl_cons_ok hl1 hx (by omega)
    refine lx_step ((IH _ (by omega) m e p b (wT - 1) (mc_vb N (pr_ar F pc kd na) kd m e + mc_pn N (pr_ar F pc kd na) kd p + 1) eT f_calls f_waitingFunction (lN (vl_enc (x :: l))) a_waitingArgs a_callNodes a_levelValues a_nodeValues (vp_updL y_vals (mc_vb N (pr_ar F pc kd na) kd m e + mc_pn N (pr_ar F pc kd na) kd p) (lN (vl_enc (x :: l)))) y_wNode y_wStep y_env y_actBase hb).2 (mk_up hok hK hp (by rw [ep]; exact vl_list (by omega) hok2) rfl (by rw [← sn]; exact hK.2.2.2.1)) (fun y => ?_) (Nat.le_refl _)) (by omega) (fun post fu i hi h => ?_)
    · obtain ⟨ps, c, c1', c2, c3, c4⟩ := hG y
      refine ⟨ps, c, c1', c2, gt_up hok hsm r1 hp c3, fa_grow (fx_pcl hP hok.1) g1 hp (Or.inr ⟨hk, en1⟩) ?_ c4⟩
      show sz_sz (et_et N (pr_ar F pc kd na) kd (pr_rt F bs rt) (pr_gt mk na) p) _ = sz_sz (et_et N (pr_ar F pc kd na) kd (pr_rt F bs rt) (pr_gt mk na) n) _ + 1
      rw [ep, en, hl2, sz_list hM.2 hok2 (by omega), sz_list hM.2 hl1 (by omega), List.length_cons]
    · exact rx_up hi (xh_cons1 hP hM.2 r1 a1 q1 hk r2 hcx hl1 hl2 hx ex (fun y => absurd y hlM) (fun _ => rx_of h))
theorem lx_caseup {u p : Nat} (hM : 1 ≤ M ∧ M ≤ 12) (hP : pr_in F N pc rt bs kd mk na) (hS : rl_sl M a_slotTypes a_slotValues) (hc : f_code = 1 ∨ f_code = 6) (hl : rl_laid F N pc rt bs kd mk na a_parents a_childIndexes a_subtreeEnds a_scopeSizes) (hbl : bl ≤ 200) (hds : f_code = 1 → iv_ds F N pc bs kd na) (hbd : f_code = 1 → f_bound = lN (bd_c bd_C (pr_T M F N pc bs kd na (F - 1)))) (hfl : f_code = 1 → f_fuelLimit = f_bound) (hcb : cb < 1000000) (IH : ∀ u1, u1 < u → lx_P M F N bl cb pc rt bs kd mk na f_code f_faultFunction f_bound f_foundParam f_foundDrop f_fuelLimit a_parents a_childIndexes a_subtreeEnds a_scopeSizes a_levelTypes a_levelParams a_levelDrops a_expectedTypes a_totals a_slotTypes a_slotValues u1) (hb : b ≤ bl) (hK : mc_K F N M bs (pr_ar F pc kd na) kd (pr_ag na) (pr_z F bs pc) (pr_pt F bs mk) (pr_rt F bs rt) (pr_gt mk na) m e n f_currentValue y_wNode y_wStep y_vals y_env a_levelValues a_nodeValues a_callNodes y_actBase wT vT eT) (hG : lx_K M F N pc rt bs kd mk na bl cb f_code f_calls m e n b f_currentValue a_levelValues a_nodeValues) (hm : ms_ms N (pr_ar F pc kd na) b (e + 1) n true ≤ u) (hp : tr_pa N (pr_ar F pc kd na) n = some p) (hk : kd p = 6 ∨ kd p = 7) (hci : tr_ci N (pr_ar F pc kd na) n ≠ 0) : lx_D cb ((nI M), (nI F), (nI N), f_code, f_faultFunction, f_bound, f_foundParam, f_foundDrop, 1, f_calls, (nI (e + 1)), f_fuelLimit, (nI b), (nI bl), f_waitingFunction, (nI n), 1, f_currentValue, (fun i => nI (pc i)), mk, (fun i => nI (rt i)), (fun i => nI (bs i)), (fun i => nI (kd i)), na, a_parents, a_childIndexes, a_subtreeEnds, a_scopeSizes, a_levelTypes, a_levelParams, a_levelDrops, a_expectedTypes, a_totals, a_slotTypes, a_slotValues, a_waitingArgs, a_callNodes, a_levelValues, a_nodeValues) u := by
  have hok := hl.2.1
  obtain ⟨r1, r2, r3, r4, r5, r6, r7, r8⟩ := mk_roomK hok hK
  have hsm := mk_sm hK.1.2.2.2.2.2.2.1
  obtain ⟨g1, g2, g3, g4, g5, g6⟩ := pw_fnpa hok r1 hp
  obtain ⟨q1, q2, q3, q4⟩ := hl.2.2.2 n r1
  rw [tb_P_some hp] at q1
  have ha := (hok.2.1 p g1).2.2.2.2 hk
  have hcx : ¬ a_childIndexes n = 0 := by
    rw [q2]
    exact nI_ne0 (by omega) (by omega)
  have sn := sq_some (kd := kd) (z := (pr_z F bs pc)) hp
  have eE := hK.2.2.2.1
  have ms := ms_up hok (b := b) (d := e + 1) r1 hp
  refine lx_step ((IH _ (by omega) m e p b (wT - 1) vT (eT - sq_cv N (pr_ar F pc kd na) kd p n) f_calls f_waitingFunction f_currentValue a_waitingArgs a_callNodes a_levelValues a_nodeValues y_vals y_wNode y_wStep y_env y_actBase hb).2 (mk_upc hok hK hp hk hci (by omega)) (fun y => ?_) (Nat.le_refl _)) (by omega) (fun post fu i hi h => ?_)
  · obtain ⟨ps, c, c1, c2, c3, c4⟩ := hG y
    exact ⟨ps, c, c1, c2, gt_up hok hsm r1 hp c3, fa_no (fx_pcl hP hok.1) g1 (by omega)⟩
  · exact rx_up hi (xh_case_up hP r1 g1 q1 hk hcx (rx_of h))
theorem lx_case0 {u p : Nat} (hM : 1 ≤ M ∧ M ≤ 12) (hP : pr_in F N pc rt bs kd mk na) (hS : rl_sl M a_slotTypes a_slotValues) (hc : f_code = 1 ∨ f_code = 6) (hl : rl_laid F N pc rt bs kd mk na a_parents a_childIndexes a_subtreeEnds a_scopeSizes) (hbl : bl ≤ 200) (hds : f_code = 1 → iv_ds F N pc bs kd na) (hbd : f_code = 1 → f_bound = lN (bd_c bd_C (pr_T M F N pc bs kd na (F - 1)))) (hfl : f_code = 1 → f_fuelLimit = f_bound) (hcb : cb < 1000000) (IH : ∀ u1, u1 < u → lx_P M F N bl cb pc rt bs kd mk na f_code f_faultFunction f_bound f_foundParam f_foundDrop f_fuelLimit a_parents a_childIndexes a_subtreeEnds a_scopeSizes a_levelTypes a_levelParams a_levelDrops a_expectedTypes a_totals a_slotTypes a_slotValues u1) (hb : b ≤ bl) (hK : mc_K F N M bs (pr_ar F pc kd na) kd (pr_ag na) (pr_z F bs pc) (pr_pt F bs mk) (pr_rt F bs rt) (pr_gt mk na) m e n f_currentValue y_wNode y_wStep y_vals y_env a_levelValues a_nodeValues a_callNodes y_actBase wT vT eT) (hG : lx_K M F N pc rt bs kd mk na bl cb f_code f_calls m e n b f_currentValue a_levelValues a_nodeValues) (hm : ms_ms N (pr_ar F pc kd na) b (e + 1) n true ≤ u) (hp : tr_pa N (pr_ar F pc kd na) n = some p) (hk : kd p = 6 ∨ kd p = 7) (hci : tr_ci N (pr_ar F pc kd na) n = 0) : lx_D cb ((nI M), (nI F), (nI N), f_code, f_faultFunction, f_bound, f_foundParam, f_foundDrop, 1, f_calls, (nI (e + 1)), f_fuelLimit, (nI b), (nI bl), f_waitingFunction, (nI n), 1, f_currentValue, (fun i => nI (pc i)), mk, (fun i => nI (rt i)), (fun i => nI (bs i)), (fun i => nI (kd i)), na, a_parents, a_childIndexes, a_subtreeEnds, a_scopeSizes, a_levelTypes, a_levelParams, a_levelDrops, a_expectedTypes, a_totals, a_slotTypes, a_slotValues, a_waitingArgs, a_callNodes, a_levelValues, a_nodeValues) u := by
  have hok := hl.2.1
  obtain ⟨r1, r2, r3, r4, r5, r6, r7, r8⟩ := mk_roomK hok hK
  have hsm := mk_sm hK.1.2.2.2.2.2.2.1
  obtain ⟨g1, g2, g3, g4, g5, g6⟩ := pw_fnpa hok r1 hp
  obtain ⟨q1, q2, q3, q4⟩ := hl.2.2.2 n r1
  rw [tb_P_some hp] at q1
  rw [hci] at q2
  have q2' : a_childIndexes n = 0 := q2
  have ha := (hok.2.1 p g1).2.2.2.2 hk
  have h64 := hP.2.1
  obtain ⟨a1, a2, a3, a4, a5, a6, a7⟩ := pg_ch hok.1 (n := p) (c := 1) g1 (by omega)
  have ec1 : tr_ch N (pr_ar F pc kd na) p 1 = tr_se N (pr_ar F pc kd na) n := by rw [show (1 : Nat) = 0 + 1 from rfl, tr_ch_s, ← hci, ← g5]
  rw [ec1] at a1 a3
  obtain ⟨c1, c2, c3, c4⟩ := mk_ch2 hok r1 hp hk hci
  have s2 := sq_some (kd := kd) (z := (pr_z F bs pc)) c2
  have s45 := pw_sc45 hok c4
  have qs2 := (hl.2.2.2 _ a1).2.2.1
  have qsc := (hl.2.2.2 p g1).2.2.2
  have se2 : tr_se N (pr_ar F pc kd na) n ≤ tr_se N (pr_ar F pc kd na) (tr_se N (pr_ar F pc kd na) n) := tr_se_ge _
  have c4' := c4
  have c2' := c2
  rw [← c1] at c4' c2'
  have et := pw_e67 hok r1 hp hk hci
  have hV := hK.2.2.2.2.2
  have zero : f_currentValue = 0 → lx_D cb ((nI M), (nI F), (nI N), f_code, f_faultFunction, f_bound, f_foundParam, f_foundDrop, 1, f_calls, (nI (e + 1)), f_fuelLimit, (nI b), (nI bl), f_waitingFunction, (nI n), 1, f_currentValue, (fun i => nI (pc i)), mk, (fun i => nI (rt i)), (fun i => nI (bs i)), (fun i => nI (kd i)), na, a_parents, a_childIndexes, a_subtreeEnds, a_scopeSizes, a_levelTypes, a_levelParams, a_levelDrops, a_expectedTypes, a_totals, a_slotTypes, a_slotValues, a_waitingArgs, a_callNodes, a_levelValues, a_nodeValues) u := by
    intro hz
    have ms := ms_sib hok (b := b) (d := e + 1) r1 a1 hp a3 (Nat.le_refl _)
    refine lx_step ((IH _ (by omega) m e (tr_se N (pr_ar F pc kd na) n) b (wT + 1) (vT - 1) eT f_calls f_waitingFunction f_currentValue a_waitingArgs a_callNodes a_levelValues a_nodeValues y_vals (upd y_wNode wT (nI (tr_se N (pr_ar F pc kd na) n))) (upd (upd y_wStep (wT - 1) 2) wT 0) y_env y_actBase hb).1 (mk_case1 hok hK hp hk hci) (fun y => ?_) (Nat.le_refl _)) (by omega) (fun post fu i hi h => ?_)
    · obtain ⟨ps, c, d1, d2, d3, d4⟩ := hG y
      exact ⟨ps, c, d1, d2, gt_case1 hok hsm r1 hp hk hci d3⟩
    · exact rx_up hi (xh_case_z hP r1 g1 q1 (hk.elim (fun k => Or.inl ⟨k, hz⟩) (fun k => Or.inr ⟨k, hz⟩)) q2' q3 (rx_of h))
  have ms2 := ms_sib hok (b := b) (d := e + 1) r1 c4' hp c2' (by omega)
  rcases hk with k | k
  · rw [if_neg (by omega)] at et
    have hV' := hV
    rw [et] at hV'
    obtain ⟨q, hq, eq⟩ := hV'.1 rfl
    cases q with
    | zero => exact zero eq
    | succ q =>
      rw [if_pos k] at c3
      refine lx_step ((IH _ (by omega) m e (tr_se N (pr_ar F pc kd na) (tr_se N (pr_ar F pc kd na) n)) b (wT + 1) (vT - 1) (eT + 1) f_calls f_waitingFunction f_currentValue a_waitingArgs a_callNodes (vp_updL a_levelValues (45 * e + sq_sc N (pr_ar F pc kd na) kd (pr_z F bs pc) p) (lN q)) a_nodeValues y_vals (upd y_wNode wT (nI (tr_se N (pr_ar F pc kd na) (tr_se N (pr_ar F pc kd na) n)))) (upd (upd y_wStep (wT - 1) 3) wT 0) (vp_updL y_env eT (lN q)) y_actBase hb).1 (mk_caseN hok hK hp k hci (vl_nat (by omega))) (fun y => ?_) (Nat.le_refl _)) (by omega) (fun post fu i hi h => ?_)
      · obtain ⟨ps, c, d1, d2, d3, d4⟩ := hG y
        refine ⟨ps, c, d1, d2, gt_caseN hP hok hsm r1 hp k hci d3 d4 ?_⟩
        show sz_sz (et_et N (pr_ar F pc kd na) kd (pr_rt F bs rt) (pr_gt mk na) n) _ = _
        rw [et, eq, sz_nat (by omega), sz_nat (by omega)]
      · exact rx_up hi (xh_case_N hP r1 g1 q1 k q2' (by omega) q3 qs2 qsc (by omega) r2 (by omega) eq (rx_of h))
  · rw [if_pos k] at et
    have hV' := hV
    rw [et] at hV'
    obtain ⟨l, hl1, hl2⟩ := hV'.2 (by omega)
    cases l with
    | nil => exact zero hl2
    | cons x l =>
      rw [if_neg (by omega)] at c3
      refine lx_step ((IH _ (by omega) m e (tr_se N (pr_ar F pc kd na) (tr_se N (pr_ar F pc kd na) n)) b (wT + 1) (vT - 1) (eT + 2) f_calls f_waitingFunction f_currentValue a_waitingArgs a_callNodes (vp_updL (vp_updL a_levelValues (45 * e + sq_sc N (pr_ar F pc kd na) kd (pr_z F bs pc) p) (lN x)) (45 * e + sq_sc N (pr_ar F pc kd na) kd (pr_z F bs pc) p + 1) (lN (vl_enc l))) a_nodeValues y_vals (upd y_wNode wT (nI (tr_se N (pr_ar F pc kd na) (tr_se N (pr_ar F pc kd na) n)))) (upd (upd y_wStep (wT - 1) 3) wT 0) (vp_updL (vp_updL y_env eT (lN x)) (eT + 1) (lN (vl_enc l))) y_actBase hb).1 (mk_caseL hok hK hp k hci (vl_nat (vl_head_le hl1)) (vl_list (by omega) (vl_tail_ok hl1))) (fun y => ?_) (Nat.le_refl _)) (by omega) (fun post fu i hi h => ?_)
      · obtain ⟨ps, c, d1, d2, d3, d4⟩ := hG y
        refine ⟨ps, c, d1, d2, gt_caseL hP hok hsm r1 hp k hci d3 d4 ?_⟩
        show sz_sz (et_et N (pr_ar F pc kd na) kd (pr_rt F bs rt) (pr_gt mk na) n) _ = _
        rw [et, hl2, sz_list hM.2 hl1 (by omega), sz_list hM.2 (vl_tail_ok hl1) (by omega), List.length_cons]
      · exact rx_up hi (xh_case_L hP hM.2 r1 g1 q1 k q2' (by omega) q3 qs2 qsc (by omega) r2 hl1 hl2 (rx_of h))
end
