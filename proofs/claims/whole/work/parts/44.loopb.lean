section
variable {M : Nat} {F : Nat} {N : Nat} {bl : Nat} {pc : Nat → Nat} {rt : Nat → Nat} {bs : Nat → Nat} {kd : Nat → Nat} {mk : Nat → Int32} {na : Nat → Int32} {f_code : Int32} {f_faultFunction : Int32} {f_bound : Int64} {f_foundParam : Int32} {f_foundDrop : Int32} {f_fuelLimit : Int64} {a_parents : Nat → Int32} {a_childIndexes : Nat → Int32} {a_subtreeEnds : Nat → Int32} {a_scopeSizes : Nat → Int32} {a_levelTypes : Nat → Int32} {a_levelParams : Nat → Int32} {a_levelDrops : Nat → Int32} {a_expectedTypes : Nat → Int32} {a_totals : Nat → Int64} {a_slotTypes : Nat → Int32} {a_slotValues : Nat → Int64} {y_hasResult : Int32} {y_resVal : Int64} {y_factJ : Int32} {y_factK : Int32} {y_tVal : Nat → Int64}
variable {m : Nat → Nat} {e : Nat} {n : Nat} {b : Nat} {wT : Nat} {vT : Nat} {eT : Nat} {f_calls : Int64} {f_waitingFunction : Int32} {f_currentValue : Int64} {a_waitingArgs : Nat → Int64} {a_callNodes : Nat → Int32} {a_levelValues : Nat → Int64} {a_nodeValues : Nat → Int64} {y_vals : Nat → Int64} {y_wNode : Nat → Int32} {y_wStep : Nat → Int32} {y_env : Nat → Int64} {y_actBase : Nat → Int32}
theorem rn_bl {b bl : Nat} (hb : b ≤ bl) (hbl : bl ≤ 200) : nI b = nI bl ↔ b = bl := nI_eq (by omega) (by omega)
theorem rn_begin {u p : Nat} (hM : 1 ≤ M ∧ M ≤ 12) (hP : pr_in F N pc rt bs kd mk na) (hS : rl_sl M a_slotTypes a_slotValues) (hc : f_code = 1 ∨ f_code = 6) (hl : rl_laid F N pc rt bs kd mk na a_parents a_childIndexes a_subtreeEnds a_scopeSizes) (hbl : bl ≤ 200) (IH : ∀ u1, u1 < u → rn_P M F N bl pc rt bs kd mk na f_code f_faultFunction f_bound f_foundParam f_foundDrop f_fuelLimit a_parents a_childIndexes a_subtreeEnds a_scopeSizes a_levelTypes a_levelParams a_levelDrops a_expectedTypes a_totals a_slotTypes a_slotValues y_hasResult y_resVal y_factJ y_factK y_tVal u1) (hb : b ≤ bl) (hK : mc_K F N M bs (pr_ar F pc kd na) kd (pr_ag na) (pr_z F bs pc) (pr_pt F bs mk) (pr_rt F bs rt) (pr_gt mk na) m e n f_currentValue y_wNode y_wStep y_vals y_env a_levelValues a_nodeValues a_callNodes y_actBase wT vT eT) (hm : ms_ms N (pr_ar F pc kd na) b (e + 1) n true ≤ u) (hp : tr_pa N (pr_ar F pc kd na) n = some p) (hk : kd p = 5) (hci : tr_ci N (pr_ar F pc kd na) n + 1 = pr_ar F pc kd na p) : rn_D ((nI M), (nI F), (nI N), f_code, f_faultFunction, f_bound, f_foundParam, f_foundDrop, 1, f_calls, (nI (e + 1)), f_fuelLimit, (nI b), (nI bl), f_waitingFunction, (nI n), 1, f_currentValue, (fun i => nI (pc i)), mk, (fun i => nI (rt i)), (fun i => nI (bs i)), (fun i => nI (kd i)), na, a_parents, a_childIndexes, a_subtreeEnds, a_scopeSizes, a_levelTypes, a_levelParams, a_levelDrops, a_expectedTypes, a_totals, a_slotTypes, a_slotValues, a_waitingArgs, a_callNodes, a_levelValues, a_nodeValues) ((nI M), (nI F), (nI N), f_code, f_faultFunction, f_bound, 1, f_calls, (nI (e + 1)), f_fuelLimit, y_hasResult, y_resVal, (nI vT), (nI wT), (nI eT), (nI b), (nI bl), y_factJ, y_factK, (fun i => nI (pc i)), mk, (fun i => nI (rt i)), (fun i => nI (bs i)), (fun i => nI (kd i)), na, y_tVal, a_slotTypes, a_slotValues, y_vals, y_wNode, y_wStep, y_env, y_actBase) u := by
  have hok := hl.2.1
  obtain ⟨r1, r2, r3, r4, r5, r6, r7, r8⟩ := mk_roomK hok hK
  obtain ⟨g1, g2, g3, g4, g5, g6⟩ := pw_fnpa hok r1 hp
  obtain ⟨t1, t2, t3⟩ := mk_topK hK hp
  obtain ⟨q1, q2, q3, q4⟩ := hl.2.2.2 n r1
  rw [tb_P_some hp] at q1
  obtain ⟨f1, f2, f3⟩ := pr_ar5 hok.1 hP hl.2.2.1 g1 hk
  have hp3 := hP.2.2.1 (pr_ag na p)
  have hW := mk_wait (wa := (rn_wf a_waitingArgs (fun i => i) (fun i => vp_updL a_nodeValues (64 * e + n) f_currentValue (64 * e + tr_ch N (pr_ar F pc kd na) p i)) (pc (pr_ag na p)))) hok hK hp hk hci (fun i hi => rn_wf_at (ix := fun i => i) (fun i j y => y) _ i (by omega))
  obtain ⟨w1, w2, w3, w4, w5, w6, w7, w8, w9, w10, w11, w12⟩ := mk_roomW hok hW
  have hwv := hW.2.2.2.2.2.2.2
  have hwV := hW.2.2.2.2.2.1
  obtain ⟨w, rfl⟩ : ∃ w, wT = w + 1 := ⟨wT - 1, by omega⟩
  have t2' : y_wStep w = nI (pc (pr_ag na p)) := by rw [← f2, ← hci]; exact t2
  have hch : ∀ c, c < pc (pr_ag na p) → tr_ch N (pr_ar F pc kd na) p c < N := fun c hc => (pg_ch hok.1 g1 (by omega)).1
  have HT : ∀ j, j < N → a_subtreeEnds j = nI (tr_se N (pr_ar F pc kd na) j) := fun j hj => (hl.2.2.2 j hj).2.2.1
  have hbl2 := rn_bl hb hbl
  by_cases c1 : f_calls = f_fuelLimit
  · refine rn_end (x' := ((nI M), (nI F), (nI N), f_code, f_faultFunction, f_bound, f_foundParam, f_foundDrop, 3, f_calls, (nI (e + 1)), f_fuelLimit, (nI b), (nI bl), (nI (pr_ag na p)), (nI p), 1, f_currentValue, (fun i => nI (pc i)), mk, (fun i => nI (rt i)), (fun i => nI (bs i)), (fun i => nI (kd i)), na, a_parents, a_childIndexes, a_subtreeEnds, a_scopeSizes, a_levelTypes, a_levelParams, a_levelDrops, a_expectedTypes, a_totals, a_slotTypes, a_slotValues, (rn_wf a_waitingArgs (fun i => i) (fun i => vp_updL a_nodeValues (64 * e + n) f_currentValue (64 * e + tr_ch N (pr_ar F pc kd na) p i)) (pc (pr_ag na p))), a_callNodes, a_levelValues, (vp_updL a_nodeValues (64 * e + n) f_currentValue))) (y' := ((nI M), (nI F), (nI N), f_code, f_faultFunction, f_bound, 3, f_calls, (nI (e + 1)), f_fuelLimit, y_hasResult, y_resVal, (nI vT), (nI (w + 1)), (nI eT), (nI b), (nI bl), y_factJ, y_factK, (fun i => nI (pc i)), mk, (fun i => nI (rt i)), (fun i => nI (bs i)), (fun i => nI (kd i)), na, y_tVal, a_slotTypes, a_slotValues, y_vals, y_wNode, y_wStep, y_env, y_actBase)) (fun j => rl_mk (k := j) hM hP hS (rl_idle (by decide) (by decide) (fun _ => hl))) rfl (fun post fu i hi h => ?_) (fun post fu i hi h => ?_)
    · exact rx_up hi (xh_call hP HT r1 g1 q1 hk r2 f1 f3 hch q2 (by omega) (fun y => by omega) (fun _ => xb_begin hP f1 (by omega) (fun _ => ⟨rfl, rfl, rx_end h⟩) (fun y => absurd c1 y) (fun y => absurd c1 y) (fun y => absurd c1 y)))
    · exact ry_in hi (by omega) hP.2.1 t1 g1 t2' (ye_call hP g1 hk f1 f3 (by omega) (by omega) (by omega) (by omega) (by omega) (fun _ => ry_end h) (fun y => absurd c1 y) (fun y => absurd c1 y) (fun y => absurd c1 y))
  by_cases c2 : e + 1 = 16
  · refine rn_end (x' := ((nI M), (nI F), (nI N), f_code, f_faultFunction, f_bound, f_foundParam, f_foundDrop, 5, f_calls, (nI (e + 1)), f_fuelLimit, (nI b), (nI bl), (nI (pr_ag na p)), (nI p), 1, f_currentValue, (fun i => nI (pc i)), mk, (fun i => nI (rt i)), (fun i => nI (bs i)), (fun i => nI (kd i)), na, a_parents, a_childIndexes, a_subtreeEnds, a_scopeSizes, a_levelTypes, a_levelParams, a_levelDrops, a_expectedTypes, a_totals, a_slotTypes, a_slotValues, (rn_wf a_waitingArgs (fun i => i) (fun i => vp_updL a_nodeValues (64 * e + n) f_currentValue (64 * e + tr_ch N (pr_ar F pc kd na) p i)) (pc (pr_ag na p))), a_callNodes, a_levelValues, (vp_updL a_nodeValues (64 * e + n) f_currentValue))) (y' := ((nI M), (nI F), (nI N), f_code, f_faultFunction, f_bound, 5, f_calls, (nI (e + 1)), f_fuelLimit, y_hasResult, y_resVal, (nI vT), (nI (w + 1)), (nI eT), (nI b), (nI bl), y_factJ, y_factK, (fun i => nI (pc i)), mk, (fun i => nI (rt i)), (fun i => nI (bs i)), (fun i => nI (kd i)), na, y_tVal, a_slotTypes, a_slotValues, y_vals, y_wNode, y_wStep, y_env, y_actBase)) (fun j => rl_mk (k := j) hM hP hS (rl_idle (by decide) (by decide) (fun _ => hl))) rfl (fun post fu i hi h => ?_) (fun post fu i hi h => ?_)
    · exact rx_up hi (xh_call hP HT r1 g1 q1 hk r2 f1 f3 hch q2 (by omega) (fun y => by omega) (fun _ => xb_begin hP f1 (by omega) (fun y => absurd y c1) (fun _ _ => ⟨rfl, rfl, rx_end h⟩) (fun _ y => by omega) (fun _ y => by omega)))
    · exact ry_in hi (by omega) hP.2.1 t1 g1 t2' (ye_call hP g1 hk f1 f3 (by omega) (by omega) (by omega) (by omega) (by omega) (fun y => absurd y c1) (fun _ _ => ry_end h) (fun _ y => by omega) (fun _ y => by omega))
  by_cases c3 : b = bl
  · have c3' : nI b = nI bl := by rw [c3]
    refine rn_end (x' := ((nI M), (nI F), (nI N), f_code, f_faultFunction, f_bound, f_foundParam, f_foundDrop, 1, f_calls, (nI (e + 1)), f_fuelLimit, (nI b), (nI bl), (nI (pr_ag na p)), (nI p), 1, f_currentValue, (fun i => nI (pc i)), mk, (fun i => nI (rt i)), (fun i => nI (bs i)), (fun i => nI (kd i)), na, a_parents, a_childIndexes, a_subtreeEnds, a_scopeSizes, a_levelTypes, a_levelParams, a_levelDrops, a_expectedTypes, a_totals, a_slotTypes, a_slotValues, (rn_wf a_waitingArgs (fun i => i) (fun i => vp_updL a_nodeValues (64 * e + n) f_currentValue (64 * e + tr_ch N (pr_ar F pc kd na) p i)) (pc (pr_ag na p))), a_callNodes, a_levelValues, (vp_updL a_nodeValues (64 * e + n) f_currentValue))) (y' := ((nI M), (nI F), (nI N), f_code, f_faultFunction, f_bound, 1, f_calls, (nI (e + 1)), f_fuelLimit, y_hasResult, y_resVal, (nI vT), (nI (w + 1)), (nI eT), (nI b), (nI bl), y_factJ, y_factK, (fun i => nI (pc i)), mk, (fun i => nI (rt i)), (fun i => nI (bs i)), (fun i => nI (kd i)), na, y_tVal, a_slotTypes, a_slotValues, y_vals, y_wNode, y_wStep, y_env, y_actBase)) (fun j => rl_mk (k := j) hM hP hS ⟨fun _ => hc, fun _ => hl, fun _ => ⟨rfl, e + 1, w + 1, vT, eT, by omega, rfl, rfl, rfl, rfl, Or.inr ⟨m, e, p, rfl, rfl, rfl, hW⟩⟩, fun y => absurd y (by decide)⟩) rfl (fun post fu i hi h => ?_) (fun post fu i hi h => ?_)
    · exact rx_up hi (xh_call hP HT r1 g1 q1 hk r2 f1 f3 hch q2 (by omega) (fun y => by omega) (fun _ => xb_begin hP f1 (by omega) (fun y => absurd y c1) (fun _ y => absurd y c2) (fun _ _ _ => ⟨rfl, rfl, rx_end h⟩) (fun _ _ y => absurd c3' y)))
    · exact ry_in hi (by omega) hP.2.1 t1 g1 t2' (ye_call hP g1 hk f1 f3 (by omega) (by omega) (by omega) (by omega) (by omega) (fun y => absurd y c1) (fun _ y => absurd y c2) (fun _ _ _ => ry_end h) (fun _ _ y => absurd c3' y))
  have c3' : ¬ nI b = nI bl := fun y => c3 (hbl2.mp y)
  have hU := mk_begin (m' := fun i => if i = e then p else m i) (env' := rn_wf y_env (fun i => eT + i) (fun i => y_vals (vT - pc (pr_ag na p) + i)) (pc (pr_ag na p))) (lv' := rn_wf a_levelValues (fun i => 45 * (e + 1) + i) (rn_wf a_waitingArgs (fun i => i) (fun i => vp_updL a_nodeValues (64 * e + n) f_currentValue (64 * e + tr_ch N (pr_ar F pc kd na) p i)) (pc (pr_ag na p))) (pc (pr_ag na p))) hok hW (by omega) (fun j hj => if_neg (by omega)) (if_pos rfl)
    (fun t ht => rn_wf_lo _ (fun i hi => by omega))
    (fun i hi => by
      have h1 := rn_wf_at (a := y_env) (ix := fun i => eT + i) (src := fun i => y_vals (vT - pc (pr_ag na p) + i)) (fun i j y => by omega) (pc (pr_ag na p)) i (by omega)
      have h2 := (hwv i hi).1
      refine h1.trans (Eq.trans ?_ h2)
      exact congrArg y_vals (by omega))
    (fun t ht => rn_wf_lo _ (fun i hi => by omega))
    (fun i hi => rn_wf_at (ix := fun i => 45 * (e + 1) + i) (fun i j y => by omega) _ i (by omega))
  rw [f2] at hU
  have hrN : bs (pr_ag na p) < N := hU.1.1
  have ms := ms_begin hok (b := b) (d := e + 1) r1 hrN (by omega) (mc_td_none (pg_root hok.1 f1))
  refine rn_step ((IH _ (by omega) (fun i => if i = e then p else m i) (e + 1) (bs (pr_ag na p)) (b + 1) (w + 2) (vT - pc (pr_ag na p)) (eT + pc (pr_ag na p)) (f_calls + 1) (nI (pr_ag na p)) f_currentValue (rn_wf a_waitingArgs (fun i => i) (fun i => vp_updL a_nodeValues (64 * e + n) f_currentValue (64 * e + tr_ch N (pr_ar F pc kd na) p i)) (pc (pr_ag na p))) (upd a_callNodes (e + 1) (nI p)) (rn_wf a_levelValues (fun i => 45 * (e + 1) + i) (rn_wf a_waitingArgs (fun i => i) (fun i => vp_updL a_nodeValues (64 * e + n) f_currentValue (64 * e + tr_ch N (pr_ar F pc kd na) p i)) (pc (pr_ag na p))) (pc (pr_ag na p))) (vp_updL a_nodeValues (64 * e + n) f_currentValue) y_vals (upd y_wNode (w + 1) (nI (bs (pr_ag na p)))) (upd (upd y_wStep w (nI (pc (pr_ag na p) + 1))) (w + 1) 0) (rn_wf y_env (fun i => eT + i) (fun i => y_vals (vT - pc (pr_ag na p) + i)) (pc (pr_ag na p))) (upd y_actBase (e + 1) (nI eT)) (by omega)).1 hU (Nat.le_refl _)) (by omega) (fun post fu i hi h => ?_) (fun post fu i hi h => ?_)
  · refine rx_up hi (xh_call hP HT r1 g1 q1 hk r2 f1 f3 hch q2 (by omega) (fun y => by omega) (fun _ => xb_begin hP f1 (by omega) (fun y => absurd y c1) (fun _ y => absurd y c2) (fun _ _ y => absurd y c3') (fun _ _ _ => ⟨rfl, rfl, ?_⟩)))
    rw [nI_1 b]
    exact rx_of h
  · refine ry_in hi (by omega) hP.2.1 t1 g1 t2' (ye_call hP g1 hk f1 f3 (by omega) (by omega) (by omega) (by omega) (by omega) (fun y => absurd y c1) (fun _ y => absurd y c2) (fun _ _ y => absurd y c3') (fun _ _ _ => ?_))
    rw [nI_1 b]
    exact ry_of h
theorem rn_all (hM : 1 ≤ M ∧ M ≤ 12) (hP : pr_in F N pc rt bs kd mk na) (hS : rl_sl M a_slotTypes a_slotValues) (hc : f_code = 1 ∨ f_code = 6) (hl : rl_laid F N pc rt bs kd mk na a_parents a_childIndexes a_subtreeEnds a_scopeSizes) (hbl : bl ≤ 200) : ∀ u, rn_P M F N bl pc rt bs kd mk na f_code f_faultFunction f_bound f_foundParam f_foundDrop f_fuelLimit a_parents a_childIndexes a_subtreeEnds a_scopeSizes a_levelTypes a_levelParams a_levelDrops a_expectedTypes a_totals a_slotTypes a_slotValues y_hasResult y_resVal y_factJ y_factK y_tVal u := by
  intro u
  induction u using Nat.strongRecOn with
  | _ u IH =>
    intro m e n b wT vT eT f_calls f_waitingFunction f_currentValue a_waitingArgs a_callNodes a_levelValues a_nodeValues y_vals y_wNode y_wStep y_env y_actBase hb
    have hok := hl.2.1
    refine ⟨fun hU hm => ?_, fun hK hm => ?_⟩
    · have h7 := hP.2.2.2.2.2.1 n
      by_cases k0 : kd n = 0
      · exact rn_var hM hP hS hc hl hbl IH hb hU hm k0
      · by_cases k13 : kd n = 1 ∨ kd n = 3
        · exact rn_leaf hM hP hS hc hl hbl IH hb hU hm k13
        · exact rn_down hM hP hS hc hl hbl IH hb hU hm ⟨k0, fun y => k13 (Or.inl y), fun y => k13 (Or.inr y)⟩
    · obtain ⟨r1, r2, _⟩ := mk_roomK hok hK
      cases hp : tr_pa N (pr_ar F pc kd na) n with
      | none =>
        by_cases he : e = 0
        · exact rn_done hM hP hS hc hl hbl hK hp he
        · exact rn_ret hM hP hS hc hl hbl IH hb hK hm hp he
      | some p =>
        obtain ⟨g1, g2, g3, g4, g5, g6⟩ := pw_fnpa hok r1 hp
        have h7 := hP.2.2.2.2.2.1 p
        have ha := (hok.2.1 p g1).2.1
        rcases (show kd p = 2 ∨ kd p = 4 ∨ kd p = 5 ∨ (kd p = 6 ∨ kd p = 7) ∨ (kd p = 0 ∨ kd p = 1 ∨ kd p = 3) by omega) with k | k | k | k | k
        · exact rn_succ hM hP hS hc hl hbl IH hb hK hm hp k
        · by_cases c : tr_ci N (pr_ar F pc kd na) n = 0
          · exact rn_cons0 hM hP hS hc hl hbl IH hb hK hm hp k c
          · exact rn_cons1 hM hP hS hc hl hbl IH hb hK hm hp k c
        · by_cases c : tr_ci N (pr_ar F pc kd na) n + 1 < pr_ar F pc kd na p
          · exact rn_next hM hP hS hc hl hbl IH hb hK hm hp k c
          · exact rn_begin hM hP hS hc hl hbl IH hb hK hm hp k (by omega)
        · by_cases c : tr_ci N (pr_ar F pc kd na) n = 0
          · exact rn_case0 hM hP hS hc hl hbl IH hb hK hm hp k c
          · exact rn_caseup hM hP hS hc hl hbl IH hb hK hm hp k c
        · have := ha k
          omega
end
