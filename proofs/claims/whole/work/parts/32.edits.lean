section
variable {f_sizeCap f_functionCount f_nodeCount f_code f_faultFunction f_foundParam f_foundDrop f_status f_depth f_begun f_beginLimit f_waitingFunction f_currentNode f_valueKnown : Int32} {f_bound f_calls f_fuelLimit f_currentValue : Int64} {a_paramCounts a_listMasks a_resultTypes a_bodyStarts a_nodeKinds a_nodeArgs a_parents a_childIndexes a_subtreeEnds a_scopeSizes a_levelTypes a_levelParams a_levelDrops a_expectedTypes a_slotTypes a_callNodes : Nat → Int32} {a_totals a_slotValues a_waitingArgs a_levelValues a_nodeValues : Nat → Int64}
variable {y_m y_fCount y_nCount y_code y_fault y_status y_depth y_hasResult y_vTop y_wTop y_envTop y_runBegun y_runK y_factJ y_factK : Int32} {y_bound y_calls y_fuelLimit y_resVal : Int64} {y_fParams y_fMask y_fRes y_fStart y_nKind y_nArg y_slotList y_wNode y_wStep y_actBase : Nat → Int32} {y_tVal y_slotVal y_vals y_env : Nat → Int64}
variable {M F N k : Nat} {pc rt bs kd : Nat → Nat} {mk na : Nat → Int32}
theorem rl_nb0 : vp_nar .boolean 0 = 0 := rfl
theorem rl_nb1 : vp_nar .boolean 1 = 1 := rfl
theorem rl_nat {x : Int32} {b : Nat} (hb : b < 2 ^ 31) (h1 : ¬ x < 0) (h2 : x ≤ nI b) : ∃ j, j ≤ b ∧ x = nI j := by
  obtain ⟨j, hj, rfl⟩ := nI_of h1
  exact ⟨j, (nI_leI hj hb).mp h2, rfl⟩
theorem vc_yfun {k : Nat} {u' : SX} {p r : Nat} {v2 : Int32} {r0 : Int32} (hF : F < 6) (c1 : ¬ nI F = 6) (c2 : ¬ nI p < 1) (c3 : nI p ≤ 3) (hr : r = 0 ∨ r = 1) (hr0 : r0 = nI F)
    (hp : i_Rel (k + 4) u' ((nI M), (nI (F + 1)), (nI N), 0, (-1), 0, 0, 0, 0, y_fuelLimit, 0, y_resVal, 0, 0, 0, y_runBegun, y_runK, y_factJ, y_factK, (fun i => nI (ed_u pc F p i)), (upd mk F v2), (fun i => nI (ed_u rt F r i)), (fun i => nI (ed_u bs F N i)), (fun i => nI (kd i)), na, y_tVal, a_slotTypes, a_slotValues, y_vals, y_wNode, y_wStep, y_env, y_actBase)) :
    wpY_function (fun r' v' => r' = r0 ∧ i_Rel (k + 4) u' v') ((nI M), (nI F), (nI N), f_code, f_faultFunction, f_bound, f_status, f_calls, f_depth, y_fuelLimit, y_hasResult, y_resVal, y_vTop, y_wTop, y_envTop, y_runBegun, y_runK, y_factJ, y_factK, (fun i => nI (pc i)), mk, (fun i => nI (rt i)), (fun i => nI (bs i)), (fun i => nI (kd i)), na, y_tVal, a_slotTypes, a_slotValues, y_vals, y_wNode, y_wStep, y_env, y_actBase) (nI p) v2 (nI r) := by
  have e : (nI F).toNatClampNeg = F := nI_clamp (by omega)
  have hv : vp_in (nI F) 6 := vp_in_nI hF (by omega)
  have main : wY_function_32 (fun r' v' => r' = r0 ∧ i_Rel (k + 4) u' v') (nI p) v2 (nI r) (nI M) (nI F) (nI N) f_code f_faultFunction f_bound f_status f_calls f_depth y_fuelLimit y_hasResult y_resVal y_vTop y_wTop y_envTop y_runBegun y_runK y_factJ y_factK (fun i => nI (pc i)) mk (fun i => nI (rt i)) (fun i => nI (bs i)) (fun i => nI (kd i)) na y_tVal a_slotTypes a_slotValues y_vals y_wNode y_wStep y_env y_actBase := by
    unfold wY_function_32
    rw [e, ed_nI, ed_nI, ed_nI]
    refine ⟨hv, nm_e ⟨hv, nm_e ⟨hv, nm_e ⟨hv, nm_e (nm_r (nI_1 F) ?_)⟩⟩⟩⟩
    exact ⟨(nI_pred F).trans hr0.symm, hp⟩
  refine br_f c1 (br_f c2 (br_t c3 ?_))
  rcases hr with z1 | z1
  · subst z1; exact br_t rfl main
  · subst z1; exact br_f (by decide) (br_t rfl main)
theorem vc_fun32x {k : Nat} (hM : 1 ≤ M ∧ M ≤ 12) (hP : pr_in F N pc rt bs kd mk na) (hS : rl_sl M a_slotTypes a_slotValues) {p r : Nat} {v2 : Int32} (hF : F < 6) (hp1 : 1 ≤ p) (hp3 : p ≤ 3) (hr : r ≤ 1) (c1 : ¬ nI F = 6) (c2 : ¬ nI p < 1) (c3 : nI p ≤ 3) (hr2 : r = 0 ∨ r = 1) :
    wX_function_32 (fun r0 u' => wpY_function (fun r' v' => r' = r0 ∧ i_Rel (k + 4) u' v') ((nI M), (nI F), (nI N), f_code, f_faultFunction, f_bound, f_status, f_calls, f_depth, y_fuelLimit, y_hasResult, y_resVal, y_vTop, y_wTop, y_envTop, y_runBegun, y_runK, y_factJ, y_factK, (fun i => nI (pc i)), mk, (fun i => nI (rt i)), (fun i => nI (bs i)), (fun i => nI (kd i)), na, y_tVal, a_slotTypes, a_slotValues, y_vals, y_wNode, y_wStep, y_env, y_actBase) (nI p) v2 (nI r)) (nI p) v2 (nI r) (nI M) (nI F) (nI N) f_code f_faultFunction f_bound f_foundParam f_foundDrop f_status f_calls f_depth f_fuelLimit f_begun f_beginLimit f_waitingFunction f_currentNode f_valueKnown f_currentValue (fun i => nI (pc i)) mk (fun i => nI (rt i)) (fun i => nI (bs i)) (fun i => nI (kd i)) na a_parents a_childIndexes a_subtreeEnds a_scopeSizes a_levelTypes a_levelParams a_levelDrops a_expectedTypes a_totals a_slotTypes a_slotValues a_waitingArgs a_callNodes a_levelValues a_nodeValues := by
  have e : (nI F).toNatClampNeg = F := nI_clamp (by omega)
  have hv : vp_in (nI F) 6 := vp_in_nI hF (by omega)
  unfold wX_function_32
  rw [e, ed_nI, ed_nI, ed_nI]
  refine ⟨hv, nm_e ⟨hv, nm_e ⟨hv, nm_e ⟨hv, nm_e (nm_r (nI_1 F) ?_)⟩⟩⟩⟩
  exact vc_yfun hF c1 c2 c3 hr2 rfl (rl_mk (k := k + 4) hM (ed_fun hP hF hp1 hp3 hr _) hS rl_0)
theorem i_vc_function {k : Nat} {u : SX} {v : SY} (I : i_Rel k u v) (hk : k + 4 ≤ 2049) (v1 : Int32) (v2 : Int32) (v3 : Int32) : wpX_function (fun r u' => wpY_function (fun r' v' => r' = r ∧ i_Rel (k + 4) u' v') v v1 v2 v3) u v1 v2 v3 := by
  refine rl_el I (G := fun u v => wpX_function (fun r u' => wpY_function (fun r' v' => r' = r ∧ i_Rel (k + 4) u' v') v v1 v2 v3) u v1 v2 v3) ?_
  intros
  rename_i M F N pc rt bs kd mk na hM hP hS hm sm
  have h6 := hP.1
  have same := sm (k + 4)
  refine br_c (fun c1 => br_t c1 ⟨rfl, same⟩) (fun c1 => br_c (fun c2 => br_f c1 (br_t c2 ⟨rfl, same⟩)) (fun c2 => br_c (fun c3 => ?_) (fun c3 => br_f c1 (br_f c2 (br_f c3 ⟨rfl, same⟩)))))
  have hF : F < 6 := by
    rcases Nat.lt_or_ge F 6 with w | w
    · exact w
    · exact absurd (show nI F = 6 from by rw [show F = 6 by omega]; rfl) c1
  obtain ⟨p, hp, rfl⟩ := rl_nat (x := v1) (b := 3) (by omega) (fun y => c2 (Int32.lt_trans y (by decide))) c3
  have hp1 : 1 ≤ p := by
    rcases Nat.lt_or_ge 0 p with w | w
    · exact w
    · exact absurd (show nI p < 1 from by rw [show p = 0 by omega]; decide) c2
  refine br_c (fun c4 => ?_) (fun c4 => br_c (fun c5 => ?_) (fun c5 => br_f c1 (br_f c2 (br_t c3 (br_f c4 (br_f c5 ⟨rfl, same⟩))))))
  · subst c4
    exact vc_fun32x hM hP hS hF hp1 hp (r := 0) (by omega) c1 c2 c3 (Or.inl rfl)
  · subst c5
    exact vc_fun32x hM hP hS hF hp1 hp (r := 1) (by omega) c1 c2 c3 (Or.inr rfl)
theorem vc_ynode {k : Nat} {u' : SX} {q : Nat} {v2 r0 : Int32} (hN : N < 64) (c1 : ¬ nI F = 0) (c2 : ¬ nI N = 64) (c3 : ¬ nI q < 0) (c4 : nI q ≤ 7) (hr0 : r0 = 1)
    (hp : i_Rel (k + 4) u' ((nI M), (nI F), (nI (N + 1)), 0, (-1), 0, 0, 0, 0, y_fuelLimit, 0, y_resVal, 0, 0, 0, y_runBegun, y_runK, y_factJ, y_factK, (fun i => nI (pc i)), mk, (fun i => nI (rt i)), (fun i => nI (bs i)), (fun i => nI (ed_u kd N q i)), (upd na N v2), y_tVal, a_slotTypes, a_slotValues, y_vals, y_wNode, y_wStep, y_env, y_actBase)) :
    wpY_node (fun r' v' => r' = r0 ∧ i_Rel (k + 4) u' v') ((nI M), (nI F), (nI N), f_code, f_faultFunction, f_bound, f_status, f_calls, f_depth, y_fuelLimit, y_hasResult, y_resVal, y_vTop, y_wTop, y_envTop, y_runBegun, y_runK, y_factJ, y_factK, (fun i => nI (pc i)), mk, (fun i => nI (rt i)), (fun i => nI (bs i)), (fun i => nI (kd i)), na, y_tVal, a_slotTypes, a_slotValues, y_vals, y_wNode, y_wStep, y_env, y_actBase) (nI q) v2 := by
  have e : (nI N).toNatClampNeg = N := nI_clamp (by omega)
  have hv : vp_in (nI N) 64 := vp_in_nI hN (by omega)
  refine br_f c1 (br_f c2 (br_f c3 (br_t c4 ⟨hv, ?_⟩)))
  rw [e, ed_nI]
  exact nm_e ⟨hv, nm_e (nm_r (nI_1 N) ⟨hr0.symm, hp⟩)⟩
theorem i_vc_node {k : Nat} {u : SX} {v : SY} (I : i_Rel k u v) (hk : k + 4 ≤ 2049) (v1 : Int32) (v2 : Int32) : wpX_node (fun r u' => wpY_node (fun r' v' => r' = r ∧ i_Rel (k + 4) u' v') v v1 v2) u v1 v2 := by
  refine rl_el I (G := fun u v => wpX_node (fun r u' => wpY_node (fun r' v' => r' = r ∧ i_Rel (k + 4) u' v') v v1 v2) u v1 v2) ?_
  intros
  rename_i M F N pc rt bs kd mk na hM hP hS hm sm
  have h6 := hP.1
  have h64 := hP.2.1
  have same := sm (k + 4)
  refine br_c (fun c1 => br_t c1 ⟨rfl, same⟩) (fun c1 => br_c (fun c2 => br_f c1 (br_t c2 ⟨rfl, same⟩)) (fun c2 => br_c (fun c3 => br_f c1 (br_f c2 (br_t c3 ⟨rfl, same⟩))) (fun c3 => br_c (fun c4 => ?_) (fun c4 => br_f c1 (br_f c2 (br_f c3 (br_f c4 ⟨rfl, same⟩)))))))
  have hF : 0 < F := by
    rcases Nat.lt_or_ge 0 F with w | w
    · exact w
    · exact absurd (show nI F = 0 from by rw [show F = 0 by omega]; rfl) c1
  have hN : N < 64 := by
    rcases Nat.lt_or_ge N 64 with w | w
    · exact w
    · exact absurd (show nI N = 64 from by rw [show N = 64 by omega]; rfl) c2
  obtain ⟨q, hq, rfl⟩ := rl_nat (x := v1) (b := 7) (by omega) c3 c4
  have e : (nI N).toNatClampNeg = N := nI_clamp (by omega)
  have hv : vp_in (nI N) 64 := vp_in_nI hN (by omega)
  refine ⟨hv, ?_⟩
  rw [e, ed_nI]
  refine nm_e ⟨hv, nm_e (nm_r (nI_1 N) ?_)⟩
  exact vc_ynode hN c1 c2 c3 c4 rfl (rl_mk (k := k + 4) hM (ed_node hP hF hN hq _) hS rl_0)
-- results
theorem rl_F1 (hm : rl_mode M F N pc rt bs kd mk na f_code f_status f_depth f_fuelLimit f_currentNode f_waitingFunction f_currentValue a_parents a_childIndexes a_subtreeEnds a_scopeSizes a_waitingArgs a_callNodes a_levelValues a_nodeValues y_fuelLimit y_hasResult y_resVal y_vTop y_wTop y_envTop y_vals y_wNode y_wStep y_env y_actBase) (hs : f_status = 2) : 0 < F ∧ y_hasResult = 1 ∧ y_resVal = f_currentValue ∧ vl_V M (rt (F - 1)) f_currentValue := by
  obtain ⟨h1, h2, h3, h4⟩ := hm
  exact ⟨(h2 (h1 (Or.inr hs))).1, h4 hs⟩
theorem rl_Fm {F : Nat} (hF : 0 < F) : nI F - 1 = nI (F - 1) := pk_sub (b := 1) hF
theorem i_vc_resultNat {k : Nat} {u : SX} {v : SY} (I : i_Rel k u v) (hk : k + 4 ≤ 2049) : wpX_resultNat (fun r => wpY_resultNat (fun r' => r' = r ∧ i_Rel (k + 4) u v) v) u := by
  refine rl_el I (G := fun u v => wpX_resultNat (fun r => wpY_resultNat (fun r' => r' = r ∧ i_Rel (k + 4) u v) v) u) ?_
  intros
  rename_i M F N pc rt bs kd mk na hM hP hS hm sm
  have h6 := hP.1
  have same := sm (k + 4)
  refine br_c (fun c1 => ?_) (fun c1 => br_t rfl (br_f c1 ⟨rfl, same⟩))
  obtain ⟨f1, f2, f3, f4⟩ := rl_F1 hm c1
  subst f2 f3
  have e : (nI (F - 1)).toNatClampNeg = F - 1 := nI_clamp (by omega)
  have hv : vp_in (nI F - 1) 6 := by rw [rl_Fm f1]; exact vp_in_nI (by omega) (by omega)
  have c2 : ¬ nI F = 0 := nI_ne0 f1 (by omega)
  refine ⟨hv, ?_⟩
  rw [rl_Fm f1, e]
  refine br_c (fun c3 => br_f (by decide) (br_t c1 (br_f (by decide) (br_f c2 ⟨?_, ?_⟩)))) (fun c3 => br_t rfl (br_t c1 (br_f (by decide) (br_f c2 ⟨?_, ?_⟩))))
  · exact hv
  · rw [rl_Fm f1, e]; exact br_t c3 ⟨rfl, same⟩
  · exact hv
  · rw [rl_Fm f1, e]; exact br_f c3 ⟨rfl, same⟩
theorem i_vc_resultLength {k : Nat} {u : SX} {v : SY} (I : i_Rel k u v) (hk : k + 4 ≤ 2049) : wpX_resultLength (fun r => wpY_resultLength (fun r' => r' = r ∧ i_Rel (k + 4) u v) v) u := by
  refine rl_el I (G := fun u v => wpX_resultLength (fun r => wpY_resultLength (fun r' => r' = r ∧ i_Rel (k + 4) u v) v) u) ?_
  intros
  rename_i M F N pc rt bs kd mk na hM hP hS hm sm
  have h6 := hP.1
  have same := sm (k + 4)
  refine br_c (fun c1 => ?_) (fun c1 => br_t rfl (br_f c1 ⟨rfl, same⟩))
  obtain ⟨f1, f2, f3, f4⟩ := rl_F1 hm c1
  subst f2 f3
  have e : (nI (F - 1)).toNatClampNeg = F - 1 := nI_clamp (by omega)
  have hv : vp_in (nI F - 1) 6 := by rw [rl_Fm f1]; exact vp_in_nI (by omega) (by omega)
  have c2 : ¬ nI F = 0 := nI_ne0 f1 (by omega)
  refine ⟨hv, ?_⟩
  rw [rl_Fm f1, e]
  refine br_c (fun c3 => br_f (by decide) (br_t c1 (br_f (by decide) (br_f c2 ⟨?_, ?_⟩)))) (fun c3 => br_t rfl (br_t c1 (br_f (by decide) (br_f c2 ⟨?_, ?_⟩))))
  · exact hv
  · rw [rl_Fm f1, e]; exact br_t c3 ⟨rfl, same⟩
  · exact hv
  · rw [rl_Fm f1, e]; exact br_f c3 ⟨rfl, same⟩
theorem rl_sh (i : Int32) : 4 * (i + 1) = 4 + 4 * i := by grind
theorem i_vc_resultElem {k : Nat} {u : SX} {v : SY} (I : i_Rel k u v) (hk : k + 4 ≤ 2049) (v1 : Int32) : wpX_resultElem (fun r => wpY_resultElem (fun r' => r' = r ∧ i_Rel (k + 4) u v) v v1) u v1 := by
  refine rl_el I (G := fun u v => wpX_resultElem (fun r => wpY_resultElem (fun r' => r' = r ∧ i_Rel (k + 4) u v) v v1) u v1) ?_
  intros
  rename_i M F N pc rt bs kd mk na hM hP hS hm sm
  have h6 := hP.1
  have same := sm (k + 4)
  refine br_c (fun c1 => ?_) (fun c1 => br_t rfl (br_f c1 ⟨rfl, same⟩))
  obtain ⟨f1, f2, f3, f4⟩ := rl_F1 hm c1
  subst f2 f3
  have e : (nI (F - 1)).toNatClampNeg = F - 1 := nI_clamp (by omega)
  have hv : vp_in (nI F - 1) 6 := by rw [rl_Fm f1]; exact vp_in_nI (by omega) (by omega)
  have c2 : ¬ nI F = 0 := nI_ne0 f1 (by omega)
  refine ⟨hv, ?_⟩
  rw [rl_Fm f1, e]
  refine br_c (fun c3 => br_f (by decide) ?_) (fun c3 => br_t rfl (br_t c1 (br_f (by decide) (br_f c2 ⟨hv, ?_⟩))))
  · have hr : rt (F - 1) ≠ 0 := by
      intro y
      have c3' : nI (rt (F - 1)) = 1 := c3
      rw [y] at c3'
      exact absurd c3' (by decide)
    obtain ⟨l, l1, l2⟩ := f4.2 hr
    subst l2
    have hl : (lN (vl_enc l) &&& 15).toInt32 = nI l.length := vw_len hM.2 l1
    refine br_c (fun c4 => br_t c1 (br_f (by decide) (br_f c2 ⟨hv, ?_⟩))) (fun c4 => br_c (fun c5 => br_t c1 (br_f (by decide) (br_f c2 ⟨hv, ?_⟩))) (fun c5 => br_t c1 (br_f (by decide) (br_f c2 ⟨hv, ?_⟩))))
    · rw [rl_Fm f1, e]; exact br_t c3 (br_t c4 ⟨rfl, same⟩)
    · rw [rl_Fm f1, e]
      refine br_t c3 (br_f c4 (br_t c5 (br_f c4 (br_t ?_ ⟨?_, same⟩))))
      · obtain ⟨j, hj, rfl⟩ := nI_of c4
        have c5' : nI j < (lN (vl_enc l) &&& 15).toInt32 := c5
        rw [hl] at c5'
        have h1 := l1.1
        have h2 := (nI_ltI hj (by omega)).mp c5'
        exact nI_le (b := 11) (by omega) (by decide)
      · rw [rl_sh]
    · rw [rl_Fm f1, e]; exact br_t c3 (br_f c4 (br_f c5 ⟨rfl, same⟩))
  · rw [rl_Fm f1, e]; exact br_f c3 ⟨rfl, same⟩
end
