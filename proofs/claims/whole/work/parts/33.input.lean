section
variable {f_sizeCap f_functionCount f_nodeCount f_code f_faultFunction f_foundParam f_foundDrop f_status f_depth f_begun f_beginLimit f_waitingFunction f_currentNode f_valueKnown : Int32} {f_bound f_calls f_fuelLimit f_currentValue : Int64} {a_paramCounts a_listMasks a_resultTypes a_bodyStarts a_nodeKinds a_nodeArgs a_parents a_childIndexes a_subtreeEnds a_scopeSizes a_levelTypes a_levelParams a_levelDrops a_expectedTypes a_slotTypes a_callNodes : Nat → Int32} {a_totals a_slotValues a_waitingArgs a_levelValues a_nodeValues : Nat → Int64}
variable {y_m y_fCount y_nCount y_code y_fault y_status y_depth y_hasResult y_vTop y_wTop y_envTop y_runBegun y_runK y_factJ y_factK : Int32} {y_bound y_calls y_fuelLimit y_resVal : Int64} {y_fParams y_fMask y_fRes y_fStart y_nKind y_nArg y_slotList y_wNode y_wStep y_actBase : Nat → Int32} {y_tVal y_slotVal y_vals y_env : Nat → Int64}
variable {M F N k : Nat} {pc rt bs kd : Nat → Nat} {mk na : Nat → Int32}
theorem wx_cons {post : Int64 → Prop} {x : Nat} {l : List Nat} (hM : M ≤ 12) (h : vl_ok M l) (hx : x ≤ M) (hp : post (lN (vl_enc (x :: l)))) : wpX_cons post (lN x) (lN (vl_enc l)) := by
  refine nm_e ?_
  show post _
  rw [vw_len hM h, nI_1, vw_consX hM h hx]
  exact hp
theorem wy_consOf {post : Int64 → Prop} {x : Nat} {l : List Nat} (hM : M ≤ 12) (h : vl_ok M l) (hx : x ≤ M) (hp : post (lN (vl_enc (x :: l)))) : wpY_consOf post (y_m, y_fCount, y_nCount, y_code, y_fault, y_bound, y_status, y_calls, y_depth, y_fuelLimit, y_hasResult, y_resVal, y_vTop, y_wTop, y_envTop, y_runBegun, y_runK, y_factJ, y_factK, y_fParams, y_fMask, y_fRes, y_fStart, y_nKind, y_nArg, y_tVal, y_slotList, y_slotVal, y_vals, y_wNode, y_wStep, y_env, y_actBase) (lN x) (lN (vl_enc l)) := by
  refine nm_e ?_
  show post _
  rw [vw_len hM h, nI_1, vw_consY hM h hx]
  exact hp
theorem yi_2 {s : Nat} (hs : s < 3) : ¬ nI s < 0 ∧ ¬ 2 < nI s := ⟨nI_pos (by omega), fun y => absurd ((nI_ltI (a := 2) (by omega) (by omega)).mp y) (by omega)⟩
theorem yi_bad {post : Int32 → SY → Prop} {s : Nat} {l : List Nat} {v3 : Int32} (hM : 1 ≤ M ∧ M ≤ 12) (hs : s < 3) (ht : a_slotTypes s = 1) (hv : a_slotValues s = lN (vl_enc l)) (hl : vl_ok M l) (hb : v3 < 0 ∨ ¬ v3 ≤ nI M ∨ M ≤ l.length) (hp : post 0 ((nI M), (nI F), (nI N), f_code, f_faultFunction, f_bound, f_status, f_calls, f_depth, y_fuelLimit, y_hasResult, y_resVal, y_vTop, y_wTop, y_envTop, y_runBegun, y_runK, y_factJ, y_factK, (fun i => nI (pc i)), mk, (fun i => nI (rt i)), (fun i => nI (bs i)), (fun i => nI (kd i)), na, y_tVal, a_slotTypes, a_slotValues, y_vals, y_wNode, y_wStep, y_env, y_actBase)) : wpY_input post ((nI M), (nI F), (nI N), f_code, f_faultFunction, f_bound, f_status, f_calls, f_depth, y_fuelLimit, y_hasResult, y_resVal, y_vTop, y_wTop, y_envTop, y_runBegun, y_runK, y_factJ, y_factK, (fun i => nI (pc i)), mk, (fun i => nI (rt i)), (fun i => nI (bs i)), (fun i => nI (kd i)), na, y_tVal, a_slotTypes, a_slotValues, y_vals, y_wNode, y_wStep, y_env, y_actBase) (nI s) 2 v3 := by
  have e : (nI s).toNatClampNeg = s := nI_clamp (by omega)
  have hvi : vp_in (nI s) 3 := vp_in_nI hs (by omega)
  refine br_f (yi_2 hs).1 (br_f (yi_2 hs).2 (br_f (by decide) (br_t (by decide) (br_f (by decide) (br_f (by decide) ⟨hvi, ?_⟩)))))
  rw [e, ht]
  refine br_f (by decide) ⟨hvi, ?_⟩
  show (nI M ≤ (a_slotValues s &&& 15).toInt32 → _) ∧ _
  rw [hv, vw_len hM.2 hl]
  have h12 := hl.1
  refine pk_le M l.length (fun c => hp) (fun c => br_c (fun _ => hp) (fun c2 => br_f ?_ hp))
  rcases hb with w | w | w
  · exact absurd w c2
  · exact w
  · omega
theorem yi_good {post : Int32 → SY → Prop} {s q : Nat} {l : List Nat} (hM : 1 ≤ M ∧ M ≤ 12) (hs : s < 3) (ht : a_slotTypes s = 1) (hv : a_slotValues s = lN (vl_enc l)) (hl : vl_ok M l) (hq : q ≤ M) (hlen : l.length < M) (hp : post 1 ((nI M), (nI F), (nI N), f_code, f_faultFunction, f_bound, f_status, f_calls, f_depth, y_fuelLimit, y_hasResult, y_resVal, y_vTop, y_wTop, y_envTop, y_runBegun, y_runK, y_factJ, y_factK, (fun i => nI (pc i)), mk, (fun i => nI (rt i)), (fun i => nI (bs i)), (fun i => nI (kd i)), na, y_tVal, a_slotTypes, (vp_updL a_slotValues s (lN (vl_enc (q :: l)))), y_vals, y_wNode, y_wStep, y_env, y_actBase)) : wpY_input post ((nI M), (nI F), (nI N), f_code, f_faultFunction, f_bound, f_status, f_calls, f_depth, y_fuelLimit, y_hasResult, y_resVal, y_vTop, y_wTop, y_envTop, y_runBegun, y_runK, y_factJ, y_factK, (fun i => nI (pc i)), mk, (fun i => nI (rt i)), (fun i => nI (bs i)), (fun i => nI (kd i)), na, y_tVal, a_slotTypes, a_slotValues, y_vals, y_wNode, y_wStep, y_env, y_actBase) (nI s) 2 (nI q) := by
  have e : (nI s).toNatClampNeg = s := nI_clamp (by omega)
  have hvi : vp_in (nI s) 3 := vp_in_nI hs (by omega)
  refine br_f (yi_2 hs).1 (br_f (yi_2 hs).2 (br_f (by decide) (br_t (by decide) (br_f (by decide) (br_f (by decide) ⟨hvi, ?_⟩)))))
  rw [e, ht]
  refine br_f (by decide) ⟨hvi, ?_⟩
  show (nI M ≤ (a_slotValues s &&& 15).toInt32 → _) ∧ _
  rw [hv, vw_len hM.2 hl]
  have h12 := hl.1
  refine br_f (nI_ge hlen (by omega)) (br_f (nI_pos (by omega)) (br_t (nI_le hq (by omega)) ⟨hvi, ?_⟩))
  rw [nI_l (by omega)]
  exact wy_consOf hM.2 hl hq ⟨hvi, nm_e hp⟩
theorem rl_slu (hS : rl_sl M a_slotTypes a_slotValues) {s ty : Nat} {v : Int64} (h1 : ty ≤ 1) (h2 : vl_V M ty v) : rl_sl M (upd a_slotTypes s (nI ty)) (vp_updL a_slotValues s v) := by
  intro i hi
  by_cases e : i = s
  · subst e; exact ⟨ty, h1, pk_us, by rw [pk_uLs]; exact h2⟩
  · rw [pk_un e, pk_uLn e]; exact hS i hi
theorem rl_slv (hS : rl_sl M a_slotTypes a_slotValues) {s : Nat} {v : Int64} (h1 : a_slotTypes s = 1) (h2 : vl_V M 1 v) : rl_sl M a_slotTypes (vp_updL a_slotValues s v) := by
  intro i hi
  by_cases e : i = s
  · subst e; exact ⟨1, by omega, h1, by rw [pk_uLs]; exact h2⟩
  · rw [pk_uLn e]; exact hS i hi
theorem i_vc_input {k : Nat} {u : SX} {v : SY} (I : i_Rel k u v) (hk : k + 4 ≤ 2049) (v1 : Int32) (v2 : Int32) (v3 : Int32) : wpX_input (fun r u' => wpY_input (fun r' v' => r' = r ∧ i_Rel (k + 4) u' v') v v1 v2 v3) u v1 v2 v3 := by
  refine rl_el I (G := fun u v => wpX_input (fun r u' => wpY_input (fun r' v' => r' = r ∧ i_Rel (k + 4) u' v') v v1 v2 v3) u v1 v2 v3) ?_
  intros
  rename_i a_slotTypes a_slotValues _ _ _ _ _ _ _ _ _ _ _ _ _ _ _ _ _ _ _ _ M F N pc rt bs kd mk na hM hP hS hm sm
  have same := sm (k + 4)
  refine br_c (fun a1 => br_t a1 ⟨rfl, same⟩) (fun a1 => br_c (fun a2 => ?_) (fun a2 => br_f a1 (br_t ?_ ⟨rfl, same⟩)))
  · obtain ⟨s, hs', rfl⟩ := nI_of a1
    have hs : s < 3 := (nI_ltI (b := 3) hs' (by omega)).mp a2
    have a3 := (yi_2 hs).2
    have e : (nI s).toNatClampNeg = s := nI_clamp (by omega)
    have hvi : vp_in (nI s) 3 := vp_in_nI hs (by omega)
    refine br_c (fun b1 => br_f a1 (br_f a3 (br_t b1 ⟨rfl, same⟩))) (fun b1 => br_c (fun b2 => br_f a1 (br_f a3 (br_f b1 (br_f (Int32.not_le.mpr b2) ⟨rfl, same⟩)))) (fun b2 => ?_))
    have b3 : v2 ≤ 2 := Int32.not_lt.mp b2
    refine br_c (fun c0 => ?_) (fun c0 => br_c (fun c1 => ?_) (fun c1 => br_c (fun c2 => ?_) (fun c2 => trivial)))
    · refine br_c (fun d1 => ⟨rfl, br_f a1 (br_f a3 (br_f b1 (br_t b3 (br_t c0 (br_t d1 ⟨rfl, same⟩)))))⟩) (fun d1 => br_c (fun d2 => ?_) (fun d2 => ⟨rfl, br_f a1 (br_f a3 (br_f b1 (br_t b3 (br_t c0 (br_f d1 (br_f d2 ⟨rfl, same⟩))))))⟩))
      obtain ⟨q, hq, rfl⟩ := rl_nat (x := v3) (by omega) d1 d2
      refine ⟨hvi, ?_⟩
      rw [e, nI_l (by omega)]
      refine nm_e ⟨hvi, nm_e ⟨rfl, br_f a1 (br_f a3 (br_f b1 (br_t b3 (br_t c0 (br_f d1 (br_t d2 ⟨hvi, ?_⟩))))))⟩⟩
      rw [e, nI_l (by omega), rl_nb0]
      exact nm_e ⟨hvi, nm_e ⟨rfl, rl_mk (k := k + 4) hM hP (rl_slu hS (ty := 0) (by omega) (vl_nat hq)) hm⟩⟩
    · refine ⟨hvi, ?_⟩
      rw [e]
      refine nm_e ⟨hvi, nm_e (br_f a1 (br_f a3 (br_f b1 (br_t b3 (br_f c0 (br_t c1 ⟨hvi, ?_⟩))))))⟩
      rw [e, rl_nb1]
      exact nm_e ⟨hvi, nm_e ⟨rfl, rl_mk (k := k + 4) hM hP (rl_slu hS (ty := 1) (by omega) (vl_list (by omega) (vl_nil_ok M))) hm⟩⟩
    · subst c2
      obtain ⟨ty, t1, t2, t3⟩ := hS s hs
      refine ⟨hvi, ?_⟩
      rw [e]
      rcases (show ty = 0 ∨ ty = 1 by omega) with w | w
      · subst w
        have t2' : a_slotTypes s = 0 := t2
        refine br_f (by rw [t2']; decide) ⟨rfl, br_f a1 (br_f a3 (br_f b1 (br_t b3 (br_f c0 (br_f c1 ⟨hvi, ?_⟩)))))⟩
        rw [e]
        exact br_t t2' ⟨rfl, same⟩
      · subst w
        have t2' : a_slotTypes s = 1 := t2
        obtain ⟨l, l1, l2⟩ := t3.2 (by omega)
        have h12 := l1.1
        refine br_t t2' (br_c (fun d1 => ⟨rfl, yi_bad hM hs t2' l2 l1 (Or.inl d1) ⟨rfl, same⟩⟩) (fun d1 => br_c (fun d2 => ⟨hvi, ?_⟩) (fun d2 => ⟨rfl, yi_bad hM hs t2' l2 l1 (Or.inr (Or.inl d2)) ⟨rfl, same⟩⟩)))
        obtain ⟨q, hq, rfl⟩ := rl_nat (x := v3) (by omega) d1 d2
        show ((a_slotValues s &&& 15).toInt32 = nI M → _) ∧ _
        rw [l2, vw_len hM.2 l1]
        refine pk_eq l.length M (fun d3 => ⟨rfl, yi_bad hM hs t2' l2 l1 (Or.inr (Or.inr (by omega))) ⟨rfl, same⟩⟩) (fun d3 => ⟨hvi, ?_⟩)
        rw [nI_l (by omega)]
        refine wx_cons hM.2 l1 hq ⟨hvi, nm_e ⟨rfl, yi_good hM hs t2' l2 l1 hq (by omega) ⟨rfl, ?_⟩⟩⟩
        exact rl_mk (k := k + 4) hM hP (rl_slv hS t2' (vl_list (by omega) (vl_cons_ok l1 hq (by omega)))) hm
  · exact Int32.lt_of_lt_of_le (by decide) (Int32.not_lt.mp a2)
end
