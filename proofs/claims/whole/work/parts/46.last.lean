section
variable {M : Nat} {F : Nat} {N : Nat} {bl : Nat} {pc : Nat → Nat} {rt : Nat → Nat} {bs : Nat → Nat} {kd : Nat → Nat} {mk : Nat → Int32} {na : Nat → Int32} {f_code : Int32} {f_faultFunction : Int32} {f_bound : Int64} {f_foundParam : Int32} {f_foundDrop : Int32} {f_fuelLimit : Int64} {a_parents : Nat → Int32} {a_childIndexes : Nat → Int32} {a_subtreeEnds : Nat → Int32} {a_scopeSizes : Nat → Int32} {a_levelTypes : Nat → Int32} {a_levelParams : Nat → Int32} {a_levelDrops : Nat → Int32} {a_expectedTypes : Nat → Int32} {a_totals : Nat → Int64} {a_slotTypes : Nat → Int32} {a_slotValues : Nat → Int64} {y_hasResult : Int32} {y_resVal : Int64} {y_factJ : Int32} {y_factK : Int32} {y_tVal : Nat → Int64}
variable {m : Nat → Nat} {e : Nat} {n : Nat} {b : Nat} {wT : Nat} {vT : Nat} {eT : Nat} {f_calls : Int64} {f_waitingFunction : Int32} {f_currentValue : Int64} {a_waitingArgs : Nat → Int64} {a_callNodes : Nat → Int32} {a_levelValues : Nat → Int64} {a_nodeValues : Nat → Int64} {y_vals : Nat → Int64} {y_wNode : Nat → Int32} {y_wStep : Nat → Int32} {y_env : Nat → Int64} {y_actBase : Nat → Int32}
variable {f_valueKnown : Int32}
theorem rg_wait {d : Nat} {f_currentNode : Int32} (hM : 1 ≤ M ∧ M ≤ 12) (hP : pr_in F N pc rt bs kd mk na) (hS : rl_sl M a_slotTypes a_slotValues) (hc : f_code = 1 ∨ f_code = 6) (hl : rl_laid F N pc rt bs kd mk na a_parents a_childIndexes a_subtreeEnds a_scopeSizes) (hbl : bl ≤ 200) (hb1 : 1 ≤ bl) (hw : rl_wait M F N pc rt bs kd mk na d f_currentNode f_waitingFunction a_waitingArgs a_levelValues a_nodeValues a_callNodes y_vals y_env y_wNode y_wStep y_actBase wT vT eT) :
    rn_G ((nI M), (nI F), (nI N), f_code, f_faultFunction, f_bound, f_foundParam, f_foundDrop, 1, f_calls, (nI d), f_fuelLimit, 0, (nI bl), f_waitingFunction, f_currentNode, f_valueKnown, f_currentValue, (fun i => nI (pc i)), mk, (fun i => nI (rt i)), (fun i => nI (bs i)), (fun i => nI (kd i)), na, a_parents, a_childIndexes, a_subtreeEnds, a_scopeSizes, a_levelTypes, a_levelParams, a_levelDrops, a_expectedTypes, a_totals, a_slotTypes, a_slotValues, a_waitingArgs, a_callNodes, a_levelValues, a_nodeValues) ((nI M), (nI F), (nI N), f_code, f_faultFunction, f_bound, 1, f_calls, (nI d), f_fuelLimit, y_hasResult, y_resVal, (nI vT), (nI wT), (nI eT), 0, (nI bl), y_factJ, y_factK, (fun i => nI (pc i)), mk, (fun i => nI (rt i)), (fun i => nI (bs i)), (fun i => nI (kd i)), na, y_tVal, a_slotTypes, a_slotValues, y_vals, y_wNode, y_wStep, y_env, y_actBase) := by
  rcases hw with ⟨h1, h2, h3, h4, h5, h6, h7, h8, h9⟩ | ⟨m, e, n, h1, h2, h3, h4⟩
  · subst h1 h2 h3 h6 h7 h8
    exact rg_main hM hP hS hc hl hbl hb1 h4 h5 h9
  · subst h1 h2 h3
    exact rg_call hM hP hS hc hl hbl hb1 h4
end
section
theorem i_vc_run {k : Nat} {u : SX} {v : SY} (I : i_Rel k u v) (hk : k + 4 ≤ 2049) (v1 : Int32) : wpX_run (fun r u' => wpY_run (fun r' v' => r' = r ∧ i_Rel (k + 4) u' v') v v1) u v1 := by
  refine rl_el I (G := fun u v => wpX_run (fun r u' => wpY_run (fun r' v' => r' = r ∧ i_Rel (k + 4) u' v') v v1) u v1) ?_
  intros
  rename_i hM hP hS hm sm
  have same := sm (k + 4)
  refine br_c (fun c1 => ?_) (fun c1 => br_f c1 ⟨rfl, same⟩)
  subst c1
  have hc := hm.1 (Or.inl rfl)
  have hl := hm.2.1 hc
  obtain ⟨hfu, d, wT, vT, eT, hd, e1, e2, e3, e4, hw⟩ := hm.2.2.1 rfl
  subst hfu e1 e2 e3 e4
  refine br_c (fun d1 => br_c (fun d2 => ?_) (fun d2 => ?_)) (fun d1 => ?_)
  · obtain ⟨j, hj, rfl⟩ := nI_of (x := v1) (fun y => absurd (Int32.lt_of_lt_of_le y (Int32.le_trans (by decide) d1)) (Int32.lt_irrefl))
    have a1 : 1 ≤ j := (nI_leI (a := 1) (by omega) hj).mp d1
    have a2 : j ≤ 200 := (nI_leI (b := 200) hj (by omega)).mp d2
    obtain ⟨r, x', y', h1, h2, h3⟩ := rg_wait (bl := j) hM hP hS hc hl a2 a1 hw
    exact h2 _ (br_t rfl (br_t d1 (br_t d2 (h3 _ ⟨rfl, h1 (k + 4)⟩))))
  · obtain ⟨r, x', y', h1, h2, h3⟩ := rg_wait (bl := 200) hM hP hS hc hl (by omega) (by omega) hw
    exact h2 _ (br_t rfl (br_t d1 (br_f d2 (h3 _ ⟨rfl, h1 (k + 4)⟩))))
  · obtain ⟨r, x', y', h1, h2, h3⟩ := rg_wait (bl := 1) hM hP hS hc hl (by omega) (by omega) hw
    exact h2 _ (br_t rfl (br_f d1 (h3 _ ⟨rfl, h1 (k + 4)⟩)))
end
