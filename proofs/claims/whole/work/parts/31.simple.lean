section
variable {f_sizeCap f_functionCount f_nodeCount f_code f_faultFunction f_foundParam f_foundDrop f_status f_depth f_begun f_beginLimit f_waitingFunction f_currentNode f_valueKnown : Int32} {f_bound f_calls f_fuelLimit f_currentValue : Int64} {a_paramCounts a_listMasks a_resultTypes a_bodyStarts a_nodeKinds a_nodeArgs a_parents a_childIndexes a_subtreeEnds a_scopeSizes a_levelTypes a_levelParams a_levelDrops a_expectedTypes a_slotTypes a_callNodes : Nat → Int32} {a_totals a_slotValues a_waitingArgs a_levelValues a_nodeValues : Nat → Int64}
variable {y_m y_fCount y_nCount y_code y_fault y_status y_depth y_hasResult y_vTop y_wTop y_envTop y_runBegun y_runK y_factJ y_factK : Int32} {y_bound y_calls y_fuelLimit y_resVal : Int64} {y_fParams y_fMask y_fRes y_fStart y_nKind y_nArg y_slotList y_wNode y_wStep y_actBase : Nat → Int32} {y_tVal y_slotVal y_vals y_env : Nat → Int64}
variable {M F N k : Nat} {pc rt bs kd : Nat → Nat} {mk na : Nat → Int32}
theorem i_up {k : Nat} {u : SX} {v : SY} (h : i_Rel k u v) : i_Rel (k + 4) u v := h
theorem rl_idle (hs1 : ¬ f_status = 1) (hs2 : ¬ f_status = 2) (hc : f_code = 1 ∨ f_code = 6 → rl_laid F N pc rt bs kd mk na a_parents a_childIndexes a_subtreeEnds a_scopeSizes) : rl_mode M F N pc rt bs kd mk na f_code f_status f_depth f_fuelLimit f_currentNode f_waitingFunction f_currentValue a_parents a_childIndexes a_subtreeEnds a_scopeSizes a_waitingArgs a_callNodes a_levelValues a_nodeValues y_fuelLimit y_hasResult y_resVal y_vTop y_wTop y_envTop y_vals y_wNode y_wStep y_env y_actBase :=
  ⟨fun y => y.elim (fun w => absurd w hs1) (fun w => absurd w hs2), hc, fun y => absurd y hs1, fun y => absurd y hs2⟩
theorem rl_no0 : ¬ ((0 : Int32) = 1 ∨ (0 : Int32) = 6) := by decide
theorem rl_no7 : ¬ ((7 : Int32) = 1 ∨ (7 : Int32) = 6) := by decide
theorem rl_0 : rl_mode M F N pc rt bs kd mk na 0 0 f_depth f_fuelLimit f_currentNode f_waitingFunction f_currentValue a_parents a_childIndexes a_subtreeEnds a_scopeSizes a_waitingArgs a_callNodes a_levelValues a_nodeValues y_fuelLimit y_hasResult y_resVal y_vTop y_wTop y_envTop y_vals y_wNode y_wStep y_env y_actBase := rl_idle (by decide) (by decide) (fun y => absurd y rl_no0)
theorem rl_new (hM : 1 ≤ M ∧ M ≤ 12) : i_Rel 1 (nI M, 0, 0, 0, -1, 0, 0, 0, 0, 0, 0, 0, 0, 0, 0, 0, 0, 0, (fun _ => 0), (fun _ => 0), (fun _ => 0), (fun _ => 0), (fun _ => 0), (fun _ => 0), (fun _ => 0), (fun _ => 0), (fun _ => 0), (fun _ => 0), (fun _ => 0), (fun _ => 0), (fun _ => 0), (fun _ => 0), (fun _ => 0), (fun _ => 0), (fun _ => 0), (fun _ => 0), (fun _ => 0), (fun _ => 0), (fun _ => 0))
    (nI M, 0, 0, 0, -1, 0, 0, 0, 0, 0, 0, 0, 0, 0, 0, 0, 0, 0, 0, (fun _ => 0), (fun _ => 0), (fun _ => 0), (fun _ => 0), (fun _ => 0), (fun _ => 0), (fun _ => 0), (fun _ => 0), (fun _ => 0), (fun _ => 0), (fun _ => 0), (fun _ => 0), (fun _ => 0), (fun _ => 0)) :=
  rl_mk (M := M) (F := 0) (N := 0) (pc := fun _ => 0) (rt := fun _ => 0) (bs := fun _ => 0) (kd := fun _ => 0) (mk := fun _ => 0) (na := fun _ => 0) (k := 1) hM
    ⟨by omega, by omega, fun _ => Nat.zero_le _, fun i hi => by omega, fun _ => Nat.zero_le _, fun _ => Nat.zero_le _, fun _ => rfl, fun i hi => by omega, fun i hi => by omega, fun _ => rfl⟩
    (fun i _ => ⟨0, by omega, rfl, vl_nat (k := 0) (by omega)⟩) rl_0
theorem i_vc0 (k0 : Int32) : wpX_init (fun u => wpY_init (fun v => i_Rel 1 u v) k0) k0 := by
  refine br_c (fun c1 => br_c (fun c2 => br_t c1 (br_t c2 ?_)) (fun c2 => br_t c1 (br_f c2 ?_))) (fun c1 => br_f c1 ?_)
  · obtain ⟨j, hj, rfl⟩ := nI_of (x := k0) (fun y => absurd (Int32.lt_of_lt_of_le y (Int32.le_trans (by decide) c1)) (Int32.lt_irrefl))
    have a1 : 1 ≤ j := (nI_leI (a := 1) (by omega) hj).mp c1
    have a2 : j ≤ 12 := (nI_leI (b := 12) hj (by omega)).mp c2
    exact rl_new ⟨a1, a2⟩
  · exact rl_new (M := 12) ⟨by omega, by omega⟩
  · exact rl_new (M := 1) ⟨by omega, by omega⟩
theorem i_vc_clearProgram {k : Nat} {u : SX} {v : SY} (I : i_Rel k u v) (hk : k + 4 ≤ 2049) : wpX_clearProgram (fun u' => wpY_clearProgram (fun v' => i_Rel (k + 4) u' v') v) u := by
  refine rl_el I (G := fun u v => wpX_clearProgram (fun u' => wpY_clearProgram (fun v' => i_Rel (k + 4) u' v') v) u) ?_
  intros
  rename_i hM hP hS hm sm
  exact rl_mk (k := k + 4) hM (ed_clear hP) hS rl_0
theorem i_vc_getCode {k : Nat} {u : SX} {v : SY} (I : i_Rel k u v) (hk : k + 4 ≤ 2049) : wpX_getCode (fun r => wpY_getCode (fun r' => r' = r ∧ i_Rel (k + 4) u v) v) u := by
  refine rl_el I (G := fun u v => wpX_getCode (fun r => wpY_getCode (fun r' => r' = r ∧ i_Rel (k + 4) u v) v) u) ?_
  intros
  rename_i hM hP hS hm sm
  exact ⟨rfl, sm (k + 4)⟩
theorem i_vc_getFaultFunction {k : Nat} {u : SX} {v : SY} (I : i_Rel k u v) (hk : k + 4 ≤ 2049) : wpX_getFaultFunction (fun r => wpY_getFaultFunction (fun r' => r' = r ∧ i_Rel (k + 4) u v) v) u := by
  refine rl_el I (G := fun u v => wpX_getFaultFunction (fun r => wpY_getFaultFunction (fun r' => r' = r ∧ i_Rel (k + 4) u v) v) u) ?_
  intros
  rename_i hM hP hS hm sm
  exact ⟨rfl, sm (k + 4)⟩
theorem i_vc_getBound {k : Nat} {u : SX} {v : SY} (I : i_Rel k u v) (hk : k + 4 ≤ 2049) : wpX_getBound (fun r => wpY_getBound (fun r' => r' = r ∧ i_Rel (k + 4) u v) v) u := by
  refine rl_el I (G := fun u v => wpX_getBound (fun r => wpY_getBound (fun r' => r' = r ∧ i_Rel (k + 4) u v) v) u) ?_
  intros
  rename_i hM hP hS hm sm
  exact ⟨rfl, sm (k + 4)⟩
theorem i_vc_getStatus {k : Nat} {u : SX} {v : SY} (I : i_Rel k u v) (hk : k + 4 ≤ 2049) : wpX_getStatus (fun r => wpY_getStatus (fun r' => r' = r ∧ i_Rel (k + 4) u v) v) u := by
  refine rl_el I (G := fun u v => wpX_getStatus (fun r => wpY_getStatus (fun r' => r' = r ∧ i_Rel (k + 4) u v) v) u) ?_
  intros
  rename_i hM hP hS hm sm
  exact ⟨rfl, sm (k + 4)⟩
theorem i_vc_getCalls {k : Nat} {u : SX} {v : SY} (I : i_Rel k u v) (hk : k + 4 ≤ 2049) : wpX_getCalls (fun r => wpY_getCalls (fun r' => r' = r ∧ i_Rel (k + 4) u v) v) u := by
  refine rl_el I (G := fun u v => wpX_getCalls (fun r => wpY_getCalls (fun r' => r' = r ∧ i_Rel (k + 4) u v) v) u) ?_
  intros
  rename_i hM hP hS hm sm
  exact ⟨rfl, sm (k + 4)⟩
theorem i_vc_getDepth {k : Nat} {u : SX} {v : SY} (I : i_Rel k u v) (hk : k + 4 ≤ 2049) : wpX_getDepth (fun r => wpY_getDepth (fun r' => r' = r ∧ i_Rel (k + 4) u v) v) u := by
  refine rl_el I (G := fun u v => wpX_getDepth (fun r => wpY_getDepth (fun r' => r' = r ∧ i_Rel (k + 4) u v) v) u) ?_
  intros
  rename_i hM hP hS hm sm
  exact ⟨rfl, sm (k + 4)⟩
theorem i_vc_compile {k : Nat} {u : SX} {v : SY} (I : i_Rel k u v) (hk : k + 4 ≤ 2049) : wpX_compile (fun r u' => wpY_compile (fun r' v' => r' = r ∧ i_Rel (k + 4) u' v') v) u := by
  refine rl_el I (G := fun u v => wpX_compile (fun r u' => wpY_compile (fun r' v' => r' = r ∧ i_Rel (k + 4) u' v') v) u) ?_
  intros
  rename_i hM hP hS hm sm
  refine wx_compile hP hM.2 (fun z1 => wy_compile hP hM.2 (fun _ => ⟨rfl, rl_mk (k := k + 4) hM hP hS (rl_idle (by decide) (by decide) (fun y => absurd y rl_no7))⟩) (fun z2 => by omega)) (fun z1 a b par cx se sc lt lp ld ets tt hl => wy_compile hP hM.2 (fun z2 => by omega) (fun _ a b tv => ⟨rfl, rl_mk (k := k + 4) hM hP hS (rl_idle (by decide) (by decide) hl)⟩))
end
