section
def lx_D (cb : Nat) (x : St2) (u : Nat) : Prop := ∀ (post : Int32 → St2 → Prop) (fu i : Nat), u + 2 ≤ fu → i + u + 2 ≤ 500000 → (∀ x', iv_I cb x' → post (rn_st x') x') → rn_X post fu i 1 x
theorem lx_step {cb : Nat} {x x1 : St2} {u u1 : Nat} (H : lx_D cb x1 u1) (hu : u1 < u) (hX : ∀ (post : Int32 → St2 → Prop) (fu i : Nat), i < 500000 → rn_X post fu (i + 1) 1 x1 → rn_X post (fu + 1) i 1 x) : lx_D cb x u := by
  intro post fu i a b hp
  obtain ⟨fu, rfl⟩ : ∃ f, fu = f + 1 := ⟨fu - 1, by omega⟩
  exact hX post fu i (by omega) (H post fu (i + 1) (by omega) (by omega) hp)
theorem lx_end {cb : Nat} {x x' : St2} {u : Nat} (hE : iv_I cb x') (hX : ∀ (post : Int32 → St2 → Prop) (fu i : Nat), i < 500000 → post (rn_st x') x' → rn_X post (fu + 2) i 1 x) : lx_D cb x u := by
  intro post fu i a b hp
  obtain ⟨fu, rfl⟩ : ∃ f, fu = f + 2 := ⟨fu - 2, by omega⟩
  exact hX post fu i (by omega) (hp x' hE)
def lx_U (M F N : Nat) (pc rt bs kd : Nat → Nat) (mk na : Nat → Int32) (bl cb : Nat) (f_code : Int32) (f_calls : Int64) (m : Nat → Nat) (e n b : Nat) (lv nv : Nat → Int64) : Prop :=
  f_code = 1 → ∃ (ps : Nat → Nat → Nat) (c : Nat), f_calls = lN c ∧ c + (bl - b) ≤ cb ∧ gz_I M F N pc rt bs kd mk na m ps e n (gz_o M F N pc rt bs kd mk na m ps e n n) lv nv c
def lx_K (M F N : Nat) (pc rt bs kd : Nat → Nat) (mk na : Nat → Int32) (bl cb : Nat) (f_code : Int32) (f_calls : Int64) (m : Nat → Nat) (e n b : Nat) (v : Int64) (lv nv : Nat → Int64) : Prop :=
  f_code = 1 → ∃ (ps : Nat → Nat → Nat) (c : Nat), f_calls = lN c ∧ c + (bl - b) ≤ cb ∧ gz_I M F N pc rt bs kd mk na m ps e n (gz_o M F N pc rt bs kd mk na m ps e n (tr_se N (pr_ar F pc kd na) n)) lv nv c ∧ fa_K N (pr_ar F pc kd na) kd (pr_ag na) (pr_z F bs pc) (pr_et F N pc rt bs kd mk na) (ps e) n v
def lx_P (M : Nat) (F : Nat) (N : Nat) (bl : Nat) (cb : Nat) (pc : Nat → Nat) (rt : Nat → Nat) (bs : Nat → Nat) (kd : Nat → Nat) (mk : Nat → Int32) (na : Nat → Int32) (f_code : Int32) (f_faultFunction : Int32) (f_bound : Int64) (f_foundParam : Int32) (f_foundDrop : Int32) (f_fuelLimit : Int64) (a_parents : Nat → Int32) (a_childIndexes : Nat → Int32) (a_subtreeEnds : Nat → Int32) (a_scopeSizes : Nat → Int32) (a_levelTypes : Nat → Int32) (a_levelParams : Nat → Int32) (a_levelDrops : Nat → Int32) (a_expectedTypes : Nat → Int32) (a_totals : Nat → Int64) (a_slotTypes : Nat → Int32) (a_slotValues : Nat → Int64) (u : Nat) : Prop := ∀ (m : Nat → Nat) (e : Nat) (n : Nat) (b : Nat) (wT : Nat) (vT : Nat) (eT : Nat) (f_calls : Int64) (f_waitingFunction : Int32) (f_currentValue : Int64) (a_waitingArgs : Nat → Int64) (a_callNodes : Nat → Int32) (a_levelValues : Nat → Int64) (a_nodeValues : Nat → Int64) (y_vals : Nat → Int64) (y_wNode : Nat → Int32) (y_wStep : Nat → Int32) (y_env : Nat → Int64) (y_actBase : Nat → Int32), b ≤ bl →
  (mc_U F N M bs (pr_ar F pc kd na) kd (pr_ag na) (pr_z F bs pc) (pr_pt F bs mk) (pr_rt F bs rt) (pr_gt mk na) m e n y_wNode y_wStep y_vals y_env a_levelValues a_nodeValues a_callNodes y_actBase wT vT eT → lx_U M F N pc rt bs kd mk na bl cb f_code f_calls m e n b a_levelValues a_nodeValues → ms_ms N (pr_ar F pc kd na) b (e + 1) n false ≤ u → lx_D cb ((nI M), (nI F), (nI N), f_code, f_faultFunction, f_bound, f_foundParam, f_foundDrop, 1, f_calls, (nI (e + 1)), f_fuelLimit, (nI b), (nI bl), f_waitingFunction, (nI n), 0, f_currentValue, (fun i => nI (pc i)), mk, (fun i => nI (rt i)), (fun i => nI (bs i)), (fun i => nI (kd i)), na, a_parents, a_childIndexes, a_subtreeEnds, a_scopeSizes, a_levelTypes, a_levelParams, a_levelDrops, a_expectedTypes, a_totals, a_slotTypes, a_slotValues, a_waitingArgs, a_callNodes, a_levelValues, a_nodeValues) u) ∧
  (mc_K F N M bs (pr_ar F pc kd na) kd (pr_ag na) (pr_z F bs pc) (pr_pt F bs mk) (pr_rt F bs rt) (pr_gt mk na) m e n f_currentValue y_wNode y_wStep y_vals y_env a_levelValues a_nodeValues a_callNodes y_actBase wT vT eT → lx_K M F N pc rt bs kd mk na bl cb f_code f_calls m e n b f_currentValue a_levelValues a_nodeValues → ms_ms N (pr_ar F pc kd na) b (e + 1) n true ≤ u → lx_D cb ((nI M), (nI F), (nI N), f_code, f_faultFunction, f_bound, f_foundParam, f_foundDrop, 1, f_calls, (nI (e + 1)), f_fuelLimit, (nI b), (nI bl), f_waitingFunction, (nI n), 1, f_currentValue, (fun i => nI (pc i)), mk, (fun i => nI (rt i)), (fun i => nI (bs i)), (fun i => nI (kd i)), na, a_parents, a_childIndexes, a_subtreeEnds, a_scopeSizes, a_levelTypes, a_levelParams, a_levelDrops, a_expectedTypes, a_totals, a_slotTypes, a_slotValues, a_waitingArgs, a_callNodes, a_levelValues, a_nodeValues) u)
variable {M : Nat} {F : Nat} {N : Nat} {bl : Nat} {cb : Nat} {pc : Nat → Nat} {rt : Nat → Nat} {bs : Nat → Nat} {kd : Nat → Nat} {mk : Nat → Int32} {na : Nat → Int32} {f_code : Int32} {f_faultFunction : Int32} {f_bound : Int64} {f_foundParam : Int32} {f_foundDrop : Int32} {f_fuelLimit : Int64} {a_parents : Nat → Int32} {a_childIndexes : Nat → Int32} {a_subtreeEnds : Nat → Int32} {a_scopeSizes : Nat → Int32} {a_levelTypes : Nat → Int32} {a_levelParams : Nat → Int32} {a_levelDrops : Nat → Int32} {a_expectedTypes : Nat → Int32} {a_totals : Nat → Int64} {a_slotTypes : Nat → Int32} {a_slotValues : Nat → Int64}
variable {m : Nat → Nat} {e : Nat} {n : Nat} {b : Nat} {wT : Nat} {vT : Nat} {eT : Nat} {f_calls : Int64} {f_waitingFunction : Int32} {f_currentValue : Int64} {a_waitingArgs : Nat → Int64} {a_callNodes : Nat → Int32} {a_levelValues : Nat → Int64} {a_nodeValues : Nat → Int64} {y_vals : Nat → Int64} {y_wNode : Nat → Int32} {y_wStep : Nat → Int32} {y_env : Nat → Int64} {y_actBase : Nat → Int32}
theorem lx_calls {ps : Nat → Nat → Nat} {c o : Nat} {lv nv : Nat → Int64} (I : gz_I M F N pc rt bs kd mk na m ps e n o lv nv c) : c ≤ pr_T M F N pc bs kd na (F - 1) := by
  have := I.2.2.2.2
  omega
theorem lx_leaf {u : Nat} (hM : 1 ≤ M ∧ M ≤ 12) (hP : pr_in F N pc rt bs kd mk na) (hS : rl_sl M a_slotTypes a_slotValues) (hc : f_code = 1 ∨ f_code = 6) (hl : rl_laid F N pc rt bs kd mk na a_parents a_childIndexes a_subtreeEnds a_scopeSizes) (hbl : bl ≤ 200) (hds : f_code = 1 → iv_ds F N pc bs kd na) (hbd : f_code = 1 → f_bound = lN (bd_c bd_C (pr_T M F N pc bs kd na (F - 1)))) (hfl : f_code = 1 → f_fuelLimit = f_bound) (hcb : cb < 1000000) (IH : ∀ u1, u1 < u → lx_P M F N bl cb pc rt bs kd mk na f_code f_faultFunction f_bound f_foundParam f_foundDrop f_fuelLimit a_parents a_childIndexes a_subtreeEnds a_scopeSizes a_levelTypes a_levelParams a_levelDrops a_expectedTypes a_totals a_slotTypes a_slotValues u1) (hb : b ≤ bl) (hU : mc_U F N M bs (pr_ar F pc kd na) kd (pr_ag na) (pr_z F bs pc) (pr_pt F bs mk) (pr_rt F bs rt) (pr_gt mk na) m e n y_wNode y_wStep y_vals y_env a_levelValues a_nodeValues a_callNodes y_actBase wT vT eT) (hG : lx_U M F N pc rt bs kd mk na bl cb f_code f_calls m e n b a_levelValues a_nodeValues) (hm : ms_ms N (pr_ar F pc kd na) b (e + 1) n false ≤ u) (hk : kd n = 1 ∨ kd n = 3) : lx_D cb ((nI M), (nI F), (nI N), f_code, f_faultFunction, f_bound, f_foundParam, f_foundDrop, 1, f_calls, (nI (e + 1)), f_fuelLimit, (nI b), (nI bl), f_waitingFunction, (nI n), 0, f_currentValue, (fun i => nI (pc i)), mk, (fun i => nI (rt i)), (fun i => nI (bs i)), (fun i => nI (kd i)), na, a_parents, a_childIndexes, a_subtreeEnds, a_scopeSizes, a_levelTypes, a_levelParams, a_levelDrops, a_expectedTypes, a_totals, a_slotTypes, a_slotValues, a_waitingArgs, a_callNodes, a_levelValues, a_nodeValues) u := by
  have hok := hl.2.1
  obtain ⟨r1, r2, r3, r4, r5, r6, r7⟩ := mk_roomU hok hU
  have hsm := mk_sm hU.1.2.2.2.2.2.2.1
  have hV : vl_V M (et_et N (pr_ar F pc kd na) kd (pr_rt F bs rt) (pr_gt mk na) n) 0 := by
    rcases hk with k | k
    · rw [pw_e1 hok r1 k]; exact vl_nat (k := 0) (by omega)
    · rw [pw_e3 hok r1 k]; exact vl_list (by omega) (vl_nil_ok M)
  have ms := ms_leaf hok (b := b) (d := e + 1) r1
  refine lx_step ((IH _ (by omega) m e n b (wT - 1) (vT + 1) eT f_calls f_waitingFunction 0 a_waitingArgs a_callNodes a_levelValues a_nodeValues (vp_updL y_vals vT 0) y_wNode y_wStep y_env y_actBase hb).2 (mk_leaf hok hU hV) (fun y => ?_) (Nat.le_refl _)) (by omega) (fun post fu i hi h => ?_)
  · obtain ⟨ps, c, c1, c2, c3⟩ := hG y
    exact ⟨ps, c, c1, c2, gt_leaf hok hsm c3, fa_no (fx_pcl hP hok.1) r1 (by omega)⟩
  · exact rx_en hi (xe_leaf hP r1 hk (rx_of h))
theorem lx_var {u : Nat} (hM : 1 ≤ M ∧ M ≤ 12) (hP : pr_in F N pc rt bs kd mk na) (hS : rl_sl M a_slotTypes a_slotValues) (hc : f_code = 1 ∨ f_code = 6) (hl : rl_laid F N pc rt bs kd mk na a_parents a_childIndexes a_subtreeEnds a_scopeSizes) (hbl : bl ≤ 200) (hds : f_code = 1 → iv_ds F N pc bs kd na) (hbd : f_code = 1 → f_bound = lN (bd_c bd_C (pr_T M F N pc bs kd na (F - 1)))) (hfl : f_code = 1 → f_fuelLimit = f_bound) (hcb : cb < 1000000) (IH : ∀ u1, u1 < u → lx_P M F N bl cb pc rt bs kd mk na f_code f_faultFunction f_bound f_foundParam f_foundDrop f_fuelLimit a_parents a_childIndexes a_subtreeEnds a_scopeSizes a_levelTypes a_levelParams a_levelDrops a_expectedTypes a_totals a_slotTypes a_slotValues u1) (hb : b ≤ bl) (hU : mc_U F N M bs (pr_ar F pc kd na) kd (pr_ag na) (pr_z F bs pc) (pr_pt F bs mk) (pr_rt F bs rt) (pr_gt mk na) m e n y_wNode y_wStep y_vals y_env a_levelValues a_nodeValues a_callNodes y_actBase wT vT eT) (hG : lx_U M F N pc rt bs kd mk na bl cb f_code f_calls m e n b a_levelValues a_nodeValues) (hm : ms_ms N (pr_ar F pc kd na) b (e + 1) n false ≤ u) (hk : kd n = 0) : lx_D cb ((nI M), (nI F), (nI N), f_code, f_faultFunction, f_bound, f_foundParam, f_foundDrop, 1, f_calls, (nI (e + 1)), f_fuelLimit, (nI b), (nI bl), f_waitingFunction, (nI n), 0, f_currentValue, (fun i => nI (pc i)), mk, (fun i => nI (rt i)), (fun i => nI (bs i)), (fun i => nI (kd i)), na, a_parents, a_childIndexes, a_subtreeEnds, a_scopeSizes, a_levelTypes, a_levelParams, a_levelDrops, a_expectedTypes, a_totals, a_slotTypes, a_slotValues, a_waitingArgs, a_callNodes, a_levelValues, a_nodeValues) u := by
  have hok := hl.2.1
  obtain ⟨r1, r2, r3, r4, r5, r6, r7⟩ := mk_roomU hok hU
  have hsm := mk_sm hU.1.2.2.2.2.2.2.1
  obtain ⟨x1, x2⟩ := (hl.2.2.1 n r1).1 hk
  have x1' : pr_ag na n < sq_sc N (pr_ar F pc kd na) kd (pr_z F bs pc) n := x1
  obtain ⟨p1, p2⟩ := hU.1.2.2.2.2.2.2.2.2.2 (pr_ag na n) x1'
  have hV : vl_V M (et_et N (pr_ar F pc kd na) kd (pr_rt F bs rt) (pr_gt mk na) n) (a_levelValues (45 * e + pr_ag na n)) := by
    rw [pw_e0 hok r1 hk]; exact p2
  have ms := ms_leaf hok (b := b) (d := e + 1) r1
  refine lx_step ((IH _ (by omega) m e n b (wT - 1) (vT + 1) eT f_calls f_waitingFunction (a_levelValues (45 * e + pr_ag na n)) a_waitingArgs a_callNodes a_levelValues a_nodeValues (vp_updL y_vals vT (a_levelValues (45 * e + pr_ag na n))) y_wNode y_wStep y_env y_actBase hb).2 (mk_leaf hok hU hV) (fun y => ?_) (Nat.le_refl _)) (by omega) (fun post fu i hi h => ?_)
  · obtain ⟨ps, c, c1, c2, c3⟩ := hG y
    exact ⟨ps, c, c1, c2, gt_leaf hok hsm c3, fa_var (fx_pcl hP hok.1) r1 hk x1' (pw_e0 hok r1 hk) c3.2.1⟩
  · exact rx_en hi (xe_var hP r1 hk x2 (by omega) r2 (rx_of h))
theorem lx_down {u : Nat} (hM : 1 ≤ M ∧ M ≤ 12) (hP : pr_in F N pc rt bs kd mk na) (hS : rl_sl M a_slotTypes a_slotValues) (hc : f_code = 1 ∨ f_code = 6) (hl : rl_laid F N pc rt bs kd mk na a_parents a_childIndexes a_subtreeEnds a_scopeSizes) (hbl : bl ≤ 200) (hds : f_code = 1 → iv_ds F N pc bs kd na) (hbd : f_code = 1 → f_bound = lN (bd_c bd_C (pr_T M F N pc bs kd na (F - 1)))) (hfl : f_code = 1 → f_fuelLimit = f_bound) (hcb : cb < 1000000) (IH : ∀ u1, u1 < u → lx_P M F N bl cb pc rt bs kd mk na f_code f_faultFunction f_bound f_foundParam f_foundDrop f_fuelLimit a_parents a_childIndexes a_subtreeEnds a_scopeSizes a_levelTypes a_levelParams a_levelDrops a_expectedTypes a_totals a_slotTypes a_slotValues u1) (hb : b ≤ bl) (hU : mc_U F N M bs (pr_ar F pc kd na) kd (pr_ag na) (pr_z F bs pc) (pr_pt F bs mk) (pr_rt F bs rt) (pr_gt mk na) m e n y_wNode y_wStep y_vals y_env a_levelValues a_nodeValues a_callNodes y_actBase wT vT eT) (hG : lx_U M F N pc rt bs kd mk na bl cb f_code f_calls m e n b a_levelValues a_nodeValues) (hm : ms_ms N (pr_ar F pc kd na) b (e + 1) n false ≤ u) (hk : kd n ≠ 0 ∧ kd n ≠ 1 ∧ kd n ≠ 3) : lx_D cb ((nI M), (nI F), (nI N), f_code, f_faultFunction, f_bound, f_foundParam, f_foundDrop, 1, f_calls, (nI (e + 1)), f_fuelLimit, (nI b), (nI bl), f_waitingFunction, (nI n), 0, f_currentValue, (fun i => nI (pc i)), mk, (fun i => nI (rt i)), (fun i => nI (bs i)), (fun i => nI (kd i)), na, a_parents, a_childIndexes, a_subtreeEnds, a_scopeSizes, a_levelTypes, a_levelParams, a_levelDrops, a_expectedTypes, a_totals, a_slotTypes, a_slotValues, a_waitingArgs, a_callNodes, a_levelValues, a_nodeValues) u := by
  have hok := hl.2.1
  obtain ⟨r1, r2, r3, r4, r5, r6, r7⟩ := mk_roomU hok hU
  have hsm := mk_sm hU.1.2.2.2.2.2.2.1
  have h7 := hP.2.2.2.2.2.1 n
  have hk2 := hok.2.1 n r1
  have ha : 0 < pr_ar F pc kd na n := by
    rcases (show kd n = 2 ∨ kd n = 4 ∨ kd n = 5 ∨ kd n = 6 ∨ kd n = 7 by omega) with k | k | k | k | k
    · have := hk2.2.2.1 k; omega
    · have := hk2.2.2.2.1 k; omega
    · obtain ⟨a1, a2, a3⟩ := pr_ar5 hok.1 hP hl.2.2.1 r1 k
      have := hP.2.2.2.1 _ a1
      omega
    · have := hk2.2.2.2.2 (Or.inl k); omega
    · have := hk2.2.2.2.2 (Or.inr k); omega
  have ms := ms_first hok (b := b) (d := e + 1) r1 ha
  refine lx_step ((IH _ (by omega) m e (n + 1) b (wT + 1) vT eT f_calls f_waitingFunction f_currentValue a_waitingArgs a_callNodes a_levelValues a_nodeValues y_vals (upd y_wNode wT (nI (n + 1))) (upd (upd y_wStep (wT - 1) 1) wT 0) y_env y_actBase hb).1 (mk_first hok hU ha) (fun y => ?_) (Nat.le_refl _)) (by omega) (fun post fu i hi h => ?_)
  · obtain ⟨ps, c, c1, c2, c3⟩ := hG y
    exact ⟨ps, c, c1, c2, gt_first hok hsm r1 ha c3⟩
  · exact rx_en hi (xe_down hP r1 hk (rx_of h))
theorem lx_ret {u : Nat} (hM : 1 ≤ M ∧ M ≤ 12) (hP : pr_in F N pc rt bs kd mk na) (hS : rl_sl M a_slotTypes a_slotValues) (hc : f_code = 1 ∨ f_code = 6) (hl : rl_laid F N pc rt bs kd mk na a_parents a_childIndexes a_subtreeEnds a_scopeSizes) (hbl : bl ≤ 200) (hds : f_code = 1 → iv_ds F N pc bs kd na) (hbd : f_code = 1 → f_bound = lN (bd_c bd_C (pr_T M F N pc bs kd na (F - 1)))) (hfl : f_code = 1 → f_fuelLimit = f_bound) (hcb : cb < 1000000) (IH : ∀ u1, u1 < u → lx_P M F N bl cb pc rt bs kd mk na f_code f_faultFunction f_bound f_foundParam f_foundDrop f_fuelLimit a_parents a_childIndexes a_subtreeEnds a_scopeSizes a_levelTypes a_levelParams a_levelDrops a_expectedTypes a_totals a_slotTypes a_slotValues u1) (hb : b ≤ bl) (hK : mc_K F N M bs (pr_ar F pc kd na) kd (pr_ag na) (pr_z F bs pc) (pr_pt F bs mk) (pr_rt F bs rt) (pr_gt mk na) m e n f_currentValue y_wNode y_wStep y_vals y_env a_levelValues a_nodeValues a_callNodes y_actBase wT vT eT) (hG : lx_K M F N pc rt bs kd mk na bl cb f_code f_calls m e n b f_currentValue a_levelValues a_nodeValues) (hm : ms_ms N (pr_ar F pc kd na) b (e + 1) n true ≤ u) (hp : tr_pa N (pr_ar F pc kd na) n = none) (he : e ≠ 0) : lx_D cb ((nI M), (nI F), (nI N), f_code, f_faultFunction, f_bound, f_foundParam, f_foundDrop, 1, f_calls, (nI (e + 1)), f_fuelLimit, (nI b), (nI bl), f_waitingFunction, (nI n), 1, f_currentValue, (fun i => nI (pc i)), mk, (fun i => nI (rt i)), (fun i => nI (bs i)), (fun i => nI (kd i)), na, a_parents, a_childIndexes, a_subtreeEnds, a_scopeSizes, a_levelTypes, a_levelParams, a_levelDrops, a_expectedTypes, a_totals, a_slotTypes, a_slotValues, a_waitingArgs, a_callNodes, a_levelValues, a_nodeValues) u := by
  have hok := hl.2.1
  obtain ⟨r1, r2, r3, r4, r5, r6, r7, r8⟩ := mk_roomK hok hK
  obtain ⟨e, rfl⟩ : ∃ e', e = e' + 1 := ⟨e - 1, by omega⟩
  obtain ⟨t1, t2, t3, t4, t5, t6, t7⟩ := mk_topR hK hp
  have hpn := (hl.2.2.2 n r1).1
  rw [tb_P_none hp] at hpn
  have ms := ms_ret hok (b := b) (d := e + 1) t4 r1
  refine lx_step ((IH _ (by omega) m e (m e) b (wT - 1) vT (mc_eb N (pr_ar F pc kd na) kd (pr_z F bs pc) m (e + 1)) f_calls f_waitingFunction f_currentValue a_waitingArgs a_callNodes a_levelValues a_nodeValues y_vals y_wNode y_wStep y_env y_actBase hb).2 (mk_ret hok hK hp) (fun y => ?_) (Nat.le_refl _)) (by omega) (fun post fu i hi h => ?_)
  · obtain ⟨ps, c, c1, c2, c3, c4⟩ := hG y
    exact ⟨ps, c, c1, c2, gt_ret c3, fa_no (fx_pcl hP hok.1) t4 (by omega)⟩
  · refine rx_up hi (xh_root hP r1 hpn (fun y => absurd y (by omega)) (fun _ => ?_) r2)
    rw [t6]
    exact rx_of h
theorem lx_done {u : Nat} (hM : 1 ≤ M ∧ M ≤ 12) (hP : pr_in F N pc rt bs kd mk na) (hS : rl_sl M a_slotTypes a_slotValues) (hc : f_code = 1 ∨ f_code = 6) (hl : rl_laid F N pc rt bs kd mk na a_parents a_childIndexes a_subtreeEnds a_scopeSizes) (hbl : bl ≤ 200) (hds : f_code = 1 → iv_ds F N pc bs kd na) (hbd : f_code = 1 → f_bound = lN (bd_c bd_C (pr_T M F N pc bs kd na (F - 1)))) (hfl : f_code = 1 → f_fuelLimit = f_bound) (hcb : cb < 1000000) (hb : b ≤ bl) (hK : mc_K F N M bs (pr_ar F pc kd na) kd (pr_ag na) (pr_z F bs pc) (pr_pt F bs mk) (pr_rt F bs rt) (pr_gt mk na) m e n f_currentValue y_wNode y_wStep y_vals y_env a_levelValues a_nodeValues a_callNodes y_actBase wT vT eT) (hG : lx_K M F N pc rt bs kd mk na bl cb f_code f_calls m e n b f_currentValue a_levelValues a_nodeValues) (hp : tr_pa N (pr_ar F pc kd na) n = none) (he : e = 0) : lx_D cb ((nI M), (nI F), (nI N), f_code, f_faultFunction, f_bound, f_foundParam, f_foundDrop, 1, f_calls, (nI (e + 1)), f_fuelLimit, (nI b), (nI bl), f_waitingFunction, (nI n), 1, f_currentValue, (fun i => nI (pc i)), mk, (fun i => nI (rt i)), (fun i => nI (bs i)), (fun i => nI (kd i)), na, a_parents, a_childIndexes, a_subtreeEnds, a_scopeSizes, a_levelTypes, a_levelParams, a_levelDrops, a_expectedTypes, a_totals, a_slotTypes, a_slotValues, a_waitingArgs, a_callNodes, a_levelValues, a_nodeValues) u := by
  have hok := hl.2.1
  subst he
  obtain ⟨r1, r2, r3, r4, r5, r6, r7, r8⟩ := mk_roomK hok hK
  have hpn := (hl.2.2.2 n r1).1
  rw [tb_P_none hp] at hpn
  refine lx_end (x' := ((nI M), (nI F), (nI N), f_code, f_faultFunction, f_bound, f_foundParam, f_foundDrop, 2, f_calls, 0, f_fuelLimit, (nI b), (nI bl), f_waitingFunction, (nI n), 1, f_currentValue, (fun i => nI (pc i)), mk, (fun i => nI (rt i)), (fun i => nI (bs i)), (fun i => nI (kd i)), na, a_parents, a_childIndexes, a_subtreeEnds, a_scopeSizes, a_levelTypes, a_levelParams, a_levelDrops, a_expectedTypes, a_totals, a_slotTypes, a_slotValues, a_waitingArgs, a_callNodes, a_levelValues, a_nodeValues)) (iv_mk hM hP hS (iv_idle (by decide) (fun _ => by decide) (fun _ => hl) hds hbd (fun y => ?_))) (fun post fu i hi h => ?_)
  · obtain ⟨ps, c, c1, c2, c3, c4⟩ := hG y
    exact ⟨c, c1, by omega, lx_calls c3⟩
  · exact rx_up hi (xh_root (e := 0) hP r1 hpn (fun _ => rx_end h) (fun y => absurd rfl y) r2)
end
