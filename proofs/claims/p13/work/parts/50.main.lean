section
theorem iv_el {cb : Nat} {G : St2 → Prop} {u : St2} (I : iv_I cb u)
    (h : ∀ (f_code : Int32) (f_faultFunction : Int32) (f_bound : Int64) (f_foundParam : Int32) (f_foundDrop : Int32) (f_status : Int32) (f_calls : Int64) (f_depth : Int32) (f_fuelLimit : Int64) (f_begun : Int32) (f_beginLimit : Int32) (f_waitingFunction : Int32) (f_currentNode : Int32) (f_valueKnown : Int32) (f_currentValue : Int64) (a_parents : Nat → Int32) (a_childIndexes : Nat → Int32) (a_subtreeEnds : Nat → Int32) (a_scopeSizes : Nat → Int32) (a_levelTypes : Nat → Int32) (a_levelParams : Nat → Int32) (a_levelDrops : Nat → Int32) (a_expectedTypes : Nat → Int32) (a_totals : Nat → Int64) (a_slotTypes : Nat → Int32) (a_slotValues : Nat → Int64) (a_waitingArgs : Nat → Int64) (a_callNodes : Nat → Int32) (a_levelValues : Nat → Int64) (a_nodeValues : Nat → Int64) (M F N : Nat) (pc rt bs kd : Nat → Nat) (mk na : Nat → Int32), 1 ≤ M ∧ M ≤ 12 → pr_in F N pc rt bs kd mk na → rl_sl M a_slotTypes a_slotValues → iv_mode M F N pc rt bs kd mk na cb f_code f_status f_depth f_currentNode f_waitingFunction f_bound f_calls f_fuelLimit a_parents a_childIndexes a_subtreeEnds a_scopeSizes a_callNodes a_waitingArgs a_levelValues a_nodeValues → iv_I cb ((nI M), (nI F), (nI N), f_code, f_faultFunction, f_bound, f_foundParam, f_foundDrop, f_status, f_calls, f_depth, f_fuelLimit, f_begun, f_beginLimit, f_waitingFunction, f_currentNode, f_valueKnown, f_currentValue, (fun i => nI (pc i)), mk, (fun i => nI (rt i)), (fun i => nI (bs i)), (fun i => nI (kd i)), na, a_parents, a_childIndexes, a_subtreeEnds, a_scopeSizes, a_levelTypes, a_levelParams, a_levelDrops, a_expectedTypes, a_totals, a_slotTypes, a_slotValues, a_waitingArgs, a_callNodes, a_levelValues, a_nodeValues) → G ((nI M), (nI F), (nI N), f_code, f_faultFunction, f_bound, f_foundParam, f_foundDrop, f_status, f_calls, f_depth, f_fuelLimit, f_begun, f_beginLimit, f_waitingFunction, f_currentNode, f_valueKnown, f_currentValue, (fun i => nI (pc i)), mk, (fun i => nI (rt i)), (fun i => nI (bs i)), (fun i => nI (kd i)), na, a_parents, a_childIndexes, a_subtreeEnds, a_scopeSizes, a_levelTypes, a_levelParams, a_levelDrops, a_expectedTypes, a_totals, a_slotTypes, a_slotValues, a_waitingArgs, a_callNodes, a_levelValues, a_nodeValues)) : G u := by
  obtain ⟨f_sizeCap, f_functionCount, f_nodeCount, f_code, f_faultFunction, f_bound, f_foundParam, f_foundDrop, f_status, f_calls, f_depth, f_fuelLimit, f_begun, f_beginLimit, f_waitingFunction, f_currentNode, f_valueKnown, f_currentValue, a_paramCounts, a_listMasks, a_resultTypes, a_bodyStarts, a_nodeKinds, a_nodeArgs, a_parents, a_childIndexes, a_subtreeEnds, a_scopeSizes, a_levelTypes, a_levelParams, a_levelDrops, a_expectedTypes, a_totals, a_slotTypes, a_slotValues, a_waitingArgs, a_callNodes, a_levelValues, a_nodeValues⟩ := u
  have I' := I
  obtain ⟨M, F, N, pc, rt, bs, kd, mk, na, hM, hP, ⟨e1, e2, e3, e4, e5, e6, e7, e8, e9⟩, hS, hm⟩ := I
  subst e1 e2 e3 e4 e5 e6 e7 e8 e9
  exact h _ _ _ _ _ _ _ _ _ _ _ _ _ _ _ _ _ _ _ _ _ _ _ _ _ _ _ _ _ _ M F N pc rt bs kd _ _ hM hP hS hm I'
end
section
variable {M : Nat} {F : Nat} {N : Nat} {bl : Nat} {cb : Nat} {pc : Nat → Nat} {rt : Nat → Nat} {bs : Nat → Nat} {kd : Nat → Nat} {mk : Nat → Int32} {na : Nat → Int32} {f_code : Int32} {f_faultFunction : Int32} {f_bound : Int64} {f_foundParam : Int32} {f_foundDrop : Int32} {f_fuelLimit : Int64} {a_parents : Nat → Int32} {a_childIndexes : Nat → Int32} {a_subtreeEnds : Nat → Int32} {a_scopeSizes : Nat → Int32} {a_levelTypes : Nat → Int32} {a_levelParams : Nat → Int32} {a_levelDrops : Nat → Int32} {a_expectedTypes : Nat → Int32} {a_totals : Nat → Int64} {a_slotTypes : Nat → Int32} {a_slotValues : Nat → Int64}
variable {m : Nat → Nat} {e : Nat} {n : Nat} {b : Nat} {wT : Nat} {vT : Nat} {eT : Nat} {f_calls : Int64} {f_waitingFunction : Int32} {f_currentValue : Int64} {a_waitingArgs : Nat → Int64} {a_callNodes : Nat → Int32} {a_levelValues : Nat → Int64} {a_nodeValues : Nat → Int64} {y_vals : Nat → Int64} {y_wNode : Nat → Int32} {y_wStep : Nat → Int32} {y_env : Nat → Int64} {y_actBase : Nat → Int32}
/-- the main function begins, or the run ends there -/
theorem lx_main {u : Nat} {f_valueKnown : Int32} (hM : 1 ≤ M ∧ M ≤ 12) (hP : pr_in F N pc rt bs kd mk na) (hS : rl_sl M a_slotTypes a_slotValues) (hc : f_code = 1 ∨ f_code = 6) (hl : rl_laid F N pc rt bs kd mk na a_parents a_childIndexes a_subtreeEnds a_scopeSizes) (hbl : bl ≤ 200) (hds : f_code = 1 → iv_ds F N pc bs kd na) (hbd : f_code = 1 → f_bound = lN (bd_c bd_C (pr_T M F N pc bs kd na (F - 1)))) (hfl : f_code = 1 → f_fuelLimit = f_bound) (hcb : cb < 1000000) (hu : 83400 ≤ u) (hb1 : 1 ≤ bl) (hcb1 : bl ≤ cb) (hV : ∀ i, i < pc (F - 1) → vl_V M (pr_pty mk (F - 1) i) (a_waitingArgs i)) (hc0 : f_calls = 0) :
    (∃ x', iv_I cb x' ∧ ∀ Qz : Int32 → St2 → Prop, Qz 0 x' → wpX_beginActivation Qz ((nI M), (nI F), (nI N), f_code, f_faultFunction, f_bound, f_foundParam, f_foundDrop, 1, f_calls, 0, f_fuelLimit, 0, (nI bl), (nI (F - 1)), (-1), f_valueKnown, f_currentValue, (fun i => nI (pc i)), mk, (fun i => nI (rt i)), (fun i => nI (bs i)), (fun i => nI (kd i)), na, a_parents, a_childIndexes, a_subtreeEnds, a_scopeSizes, a_levelTypes, a_levelParams, a_levelDrops, a_expectedTypes, a_totals, a_slotTypes, a_slotValues, a_waitingArgs, a_callNodes, a_levelValues, a_nodeValues)) ∨ (∃ x1 u1, u1 ≤ u ∧ lx_D cb x1 u1 ∧ ∀ Qz : Int32 → St2 → Prop, Qz 1 x1 → wpX_beginActivation Qz ((nI M), (nI F), (nI N), f_code, f_faultFunction, f_bound, f_foundParam, f_foundDrop, 1, f_calls, 0, f_fuelLimit, 0, (nI bl), (nI (F - 1)), (-1), f_valueKnown, f_currentValue, (fun i => nI (pc i)), mk, (fun i => nI (rt i)), (fun i => nI (bs i)), (fun i => nI (kd i)), na, a_parents, a_childIndexes, a_subtreeEnds, a_scopeSizes, a_levelTypes, a_levelParams, a_levelDrops, a_expectedTypes, a_totals, a_slotTypes, a_slotValues, a_waitingArgs, a_callNodes, a_levelValues, a_nodeValues)) := by
  have hok := hl.2.1
  have hF := hl.1
  have hf : F - 1 < F := by omega
  have hp3 := hP.2.2.1 (F - 1)
  have c3' : ¬ (0 : Int32) = nI bl := fun y => absurd ((nI_eq (a := 0) (by omega) (by omega)).mp y) (by omega)
  subst hc0
  by_cases c1 : (0 : Int64) = f_fuelLimit
  · have no : ¬ f_code = 1 := fun y => by
      have : lN 0 = lN (bd_c bd_C (pr_T M F N pc bs kd na (F - 1))) := by rw [← hbd y, ← hfl y]; exact c1
      exact lx_fuel (po_T_pos _) (by omega) this
    exact Or.inl ⟨((nI M), (nI F), (nI N), f_code, f_faultFunction, f_bound, f_foundParam, f_foundDrop, 3, 0, 0, f_fuelLimit, 0, (nI bl), (nI (F - 1)), (-1), f_valueKnown, f_currentValue, (fun i => nI (pc i)), mk, (fun i => nI (rt i)), (fun i => nI (bs i)), (fun i => nI (kd i)), na, a_parents, a_childIndexes, a_subtreeEnds, a_scopeSizes, a_levelTypes, a_levelParams, a_levelDrops, a_expectedTypes, a_totals, a_slotTypes, a_slotValues, a_waitingArgs, a_callNodes, a_levelValues, a_nodeValues), iv_mk hM hP hS (iv_idle (by decide) (fun y => absurd y no) (fun _ => hl) hds hbd (fun y => absurd y no)), fun Qz h => xb_begin (d := 0) hP hf (by omega) (fun _ => h) (fun y => absurd c1 y) (fun y => absurd c1 y) (fun y => absurd c1 y)⟩
  have ez : pr_z F bs pc (bs (F - 1)) = pc (F - 1) := by unfold pr_z; rw [pr_root_fn hok.1 hf]
  have hlv : ∀ i, i < pc (F - 1) → rn_wf a_levelValues (fun i => 45 * 0 + i) a_waitingArgs (pc (F - 1)) i = a_waitingArgs i := fun i hi => by
    have h1 := rn_wf_at (a := a_levelValues) (ix := fun i => 45 * 0 + i) (src := a_waitingArgs) (fun i j y => by omega) (pc (F - 1)) i hi
    simp only [Nat.mul_zero, Nat.zero_add] at h1 ⊢
    exact h1
  have hU := mk_main (m := fun _ => 0) (wN := fun _ => -1) (wS := fun _ => 0) (vals := fun _ => 0) (nv := a_nodeValues) (cn := upd a_callNodes 0 (-1)) (ab := fun _ => 0) (wa := a_waitingArgs) (env' := a_waitingArgs) (lv' := rn_wf a_levelValues (fun i => 45 * 0 + i) a_waitingArgs (pc (F - 1))) hok rfl
    (fun i hi => by
      rw [ez] at hi
      show vl_V M (pr_pty mk (pg_fn F bs (bs (F - 1))) i) _
      rw [pr_root_fn hok.1 hf]
      exact hV i hi)
    (fun i hi => rfl)
    (fun i hi => by
      rw [ez] at hi
      exact hlv i hi)
  have hrN : bs (F - 1) < N := hU.1.1
  have A : lx_P M F N bl cb pc rt bs kd mk na f_code f_faultFunction f_bound f_foundParam f_foundDrop f_fuelLimit a_parents a_childIndexes a_subtreeEnds a_scopeSizes a_levelTypes a_levelParams a_levelDrops a_expectedTypes a_totals a_slotTypes a_slotValues 83400 := lx_all hM hP hS hc hl hbl hds hbd hfl hcb 83400
  refine Or.inr ⟨_, 83400, hu, (A (fun _ => 0) 0 (bs (F - 1)) 1 2 0 (pr_z F bs pc (bs (F - 1))) (0 + 1) (nI (F - 1)) f_currentValue a_waitingArgs (upd a_callNodes 0 (-1)) (rn_wf a_levelValues (fun i => 45 * 0 + i) a_waitingArgs (pc (F - 1))) a_nodeValues (fun _ => 0) (upd (fun _ => -1) 1 (nI (bs (F - 1)))) (upd (upd (fun _ => 0) 0 1) 1 0) a_waitingArgs (upd (fun _ => 0) 0 0) hb1).1 hU (fun y => ?_) (ms_max hok hrN (by omega) false), fun Qz h => ?_⟩
  · refine ⟨fun _ j => if j < pc (F - 1) then sz_sz (pr_pty mk (F - 1) j) (a_waitingArgs j) else 0, 1, rfl, by omega, gt_main hP hM.2 hok hl.2.2.1 hV hlv (fun j => rfl)⟩
  · exact xb_begin (d := 0) hP hf (by omega) (fun y => absurd y c1) (fun _ y => absurd y (by omega)) (fun _ _ y => absurd y c3') (fun _ _ _ => h)
end
