section
variable {y_m y_fCount y_nCount y_code y_fault y_status y_depth y_hasResult y_vTop y_wTop y_envTop y_runBegun y_runK y_factJ y_factK : Int32} {y_bound y_calls y_fuelLimit y_resVal : Int64} {y_fParams y_fMask y_fRes y_fStart y_nKind y_nArg y_slotList y_wNode y_wStep y_actBase : Nat → Int32} {y_tVal y_slotVal y_vals y_env : Nat → Int64}
variable {M F N k : Nat} {pc rt bs kd : Nat → Nat} {mk na : Nat → Int32}
variable {n w v E : Nat}
theorem ye_87 {Q : SY → Prop} (h : pr_in F N pc rt bs kd mk na) {g : Nat} (hg : g < F) (hv : v < 1200) (hvp : pc g ≤ v) (hE : E < 1190) (hw : w < 1200)
    (hp : Q ((nI M), (nI F), (nI N), y_code, y_fault, y_bound, y_status, y_calls, y_depth, y_fuelLimit, y_hasResult, y_resVal, (nI (v - pc g)), (nI (w + 1)), (nI (E + pc g)), y_runBegun, y_runK, y_factJ, y_factK, (fun i => nI (pc i)), mk, (fun i => nI (rt i)), (fun i => nI (bs i)), (fun i => nI (kd i)), na, y_tVal, y_slotList, y_slotVal, y_vals, (upd y_wNode w (nI (bs g))), (upd y_wStep w 0), (rn_wf y_env (fun i => E + i) (fun i => y_vals (v - pc g + i)) (pc g)), y_actBase)) :
    ∀ (r i fu : Nat), i + r = pc g → r < fu → wY_enter_87 Q (nI g) (nI (pc g)) fu (nI i) (nI M) (nI F) (nI N) y_code y_fault y_bound y_status y_calls y_depth y_fuelLimit y_hasResult y_resVal (nI v) (nI w) (nI (E + i)) y_runBegun y_runK y_factJ y_factK (fun i => nI (pc i)) mk (fun i => nI (rt i)) (fun i => nI (bs i)) (fun i => nI (kd i)) na y_tVal y_slotList y_slotVal y_vals y_wNode y_wStep (rn_wf y_env (fun i => E + i) (fun i => y_vals (v - pc g + i)) i) y_actBase := by
  have h6 := h.1
  have hp3 := h.2.2.1 g
  have hp1 := h.2.2.2.1 g hg
  have e1 : (nI g).toNatClampNeg = g := nI_clamp (by omega)
  intro r
  induction r with
  | zero =>
    intro i fu g1 g2
    obtain ⟨fu, rfl⟩ : ∃ f, fu = f + 1 := ⟨fu - 1, by omega⟩
    have ei : i = pc g := by omega
    subst ei
    refine br_t (nI_le (Nat.le_refl _) (by omega)) (br_f (nI_nlt hvp (by omega)) (br_f (nI_nle (by omega) (by omega)) ⟨vp_in_nI (by omega) (by omega), ?_⟩))
    rw [e1, pk_sub hvp]
    exact wy_pushWork hw hp
  | succ r ih =>
    intro i fu g1 g2
    obtain ⟨fu, rfl⟩ : ∃ f, fu = f + 1 := ⟨fu - 1, by omega⟩
    have e2 : (nI (v - pc g + i)).toNatClampNeg = v - pc g + i := nI_clamp (by omega)
    refine br_f (nI_ge (by omega) (by omega)) (br_f (nI_ge (b := 3) (by omega) (by decide)) (nm_r (e' := nI (v - pc g + i)) (by rw [pk_sub hvp, nI_add]) (br_f (nI_pos (by omega)) ⟨vp_in_nI (by omega) (by omega), ?_⟩)))
    rw [e2]
    unfold wY_enter_123
    exact wy_pushEnv (by omega) (nm_r (nI_1 i) (ih (i + 1) fu (by omega) (by omega)))
theorem ye_enter {Q : SY → Prop} (h : pr_in F N pc rt bs kd mk na) {g d : Nat} (hg : g < F) (hd : d < 16) (hv : v < 1200) (hvp : pc g ≤ v) (hE : E < 1190) (hw : w < 1200)
    (hp : Q ((nI M), (nI F), (nI N), y_code, y_fault, y_bound, y_status, (y_calls + 1), (nI (d + 1)), y_fuelLimit, y_hasResult, y_resVal, (nI (v - pc g)), (nI (w + 1)), (nI (E + pc g)), (y_runBegun + 1), y_runK, y_factJ, y_factK, (fun i => nI (pc i)), mk, (fun i => nI (rt i)), (fun i => nI (bs i)), (fun i => nI (kd i)), na, y_tVal, y_slotList, y_slotVal, y_vals, (upd y_wNode w (nI (bs g))), (upd y_wStep w 0), (rn_wf y_env (fun i => E + i) (fun i => y_vals (v - pc g + i)) (pc g)), (upd y_actBase d (nI E)))) :
    wpY_enter Q ((nI M), (nI F), (nI N), y_code, y_fault, y_bound, y_status, y_calls, (nI d), y_fuelLimit, y_hasResult, y_resVal, (nI v), (nI w), (nI E), y_runBegun, y_runK, y_factJ, y_factK, (fun i => nI (pc i)), mk, (fun i => nI (rt i)), (fun i => nI (bs i)), (fun i => nI (kd i)), na, y_tVal, y_slotList, y_slotVal, y_vals, y_wNode, y_wStep, y_env, y_actBase) (nI g) := by
  have h6 := h.1
  have hp3 := h.2.2.1 g
  have e1 : (nI g).toNatClampNeg = g := nI_clamp (by omega)
  have e2 : (nI d).toNatClampNeg = d := nI_clamp (by omega)
  refine br_f (nI_pos (by omega)) (br_f (nI_ge hg (by omega)) ⟨vp_in_nI (by omega) (by omega), ?_⟩)
  rw [e1]
  refine nm_e (nm_r (nI_1 d) (nm_e (br_f (nI_nlt (b := 1) (by omega) (by omega)) (br_f (fun y => absurd ((nI_ltI (a := 16) (by omega) (by omega)).mp y) (by omega)) ?_))))
  rw [nI_pred, e2]
  refine ⟨vp_in_nI (by omega) (by omega), nm_e ⟨4, ?_⟩⟩
  exact ye_87 (y_calls := y_calls + 1) (y_depth := nI (d + 1)) (y_runBegun := y_runBegun + 1) (y_actBase := upd y_actBase d (nI E)) h hg hv hvp hE hw hp (pc g) 0 4 (by omega) (by omega)
theorem ye_call {Q : Int32 → SY → Prop} (h : pr_in F N pc rt bs kd mk na) (hn : n < N) (hk : kd n = 5) {g d : Nat} (hg : g < F) (ha : na n = nI g) (hd : d ≤ 16) (hv : v < 1200) (hvp : pc g ≤ v) (hE : E < 1190) (hw : w < 1190)
    (h3 : y_calls = y_fuelLimit → Q 0 ((nI M), (nI F), (nI N), y_code, y_fault, y_bound, 3, y_calls, (nI d), y_fuelLimit, y_hasResult, y_resVal, (nI v), (nI (w + 1)), (nI E), y_runBegun, y_runK, y_factJ, y_factK, (fun i => nI (pc i)), mk, (fun i => nI (rt i)), (fun i => nI (bs i)), (fun i => nI (kd i)), na, y_tVal, y_slotList, y_slotVal, y_vals, y_wNode, y_wStep, y_env, y_actBase))
    (h5 : ¬ y_calls = y_fuelLimit → d = 16 → Q 0 ((nI M), (nI F), (nI N), y_code, y_fault, y_bound, 5, y_calls, (nI d), y_fuelLimit, y_hasResult, y_resVal, (nI v), (nI (w + 1)), (nI E), y_runBegun, y_runK, y_factJ, y_factK, (fun i => nI (pc i)), mk, (fun i => nI (rt i)), (fun i => nI (bs i)), (fun i => nI (kd i)), na, y_tVal, y_slotList, y_slotVal, y_vals, y_wNode, y_wStep, y_env, y_actBase))
    (hl : ¬ y_calls = y_fuelLimit → d < 16 → y_runBegun = y_runK → Q 0 ((nI M), (nI F), (nI N), y_code, y_fault, y_bound, y_status, y_calls, (nI d), y_fuelLimit, y_hasResult, y_resVal, (nI v), (nI (w + 1)), (nI E), y_runBegun, y_runK, y_factJ, y_factK, (fun i => nI (pc i)), mk, (fun i => nI (rt i)), (fun i => nI (bs i)), (fun i => nI (kd i)), na, y_tVal, y_slotList, y_slotVal, y_vals, y_wNode, y_wStep, y_env, y_actBase))
    (hp : ¬ y_calls = y_fuelLimit → d < 16 → ¬ y_runBegun = y_runK → Q 1 ((nI M), (nI F), (nI N), y_code, y_fault, y_bound, y_status, (y_calls + 1), (nI (d + 1)), y_fuelLimit, y_hasResult, y_resVal, (nI (v - pc g)), (nI (w + 2)), (nI (E + pc g)), (y_runBegun + 1), y_runK, y_factJ, y_factK, (fun i => nI (pc i)), mk, (fun i => nI (rt i)), (fun i => nI (bs i)), (fun i => nI (kd i)), na, y_tVal, y_slotList, y_slotVal, y_vals, (upd y_wNode (w + 1) (nI (bs g))), (upd (upd y_wStep w (nI (pc g + 1))) (w + 1) 0), (rn_wf y_env (fun i => E + i) (fun i => y_vals (v - pc g + i)) (pc g)), (upd y_actBase d (nI E)))) :
    wpY_step Q ((nI M), (nI F), (nI N), y_code, y_fault, y_bound, y_status, y_calls, (nI d), y_fuelLimit, y_hasResult, y_resVal, (nI v), (nI (w + 1)), (nI E), y_runBegun, y_runK, y_factJ, y_factK, (fun i => nI (pc i)), mk, (fun i => nI (rt i)), (fun i => nI (bs i)), (fun i => nI (kd i)), na, y_tVal, y_slotList, y_slotVal, y_vals, y_wNode, y_wStep, y_env, y_actBase) (nI w) (nI n) (nI (pc g)) := by
  have hp3 := h.2.2.1 g
  have e2 : (nI w).toNatClampNeg = w := nI_clamp (by omega)
  refine yt_call h hn hk hg ha (br_t (nI_le (Nat.le_refl _) (by omega)) (br_t rfl ?_))
  refine br_c (fun c1 => br_f (by decide) (h3 c1)) (fun c1 => pk_eq d 16 (fun c2 => br_f (by decide) (h5 c1 c2)) (fun c2 => br_c (fun c3 => br_f (by decide) (hl c1 (by omega) c3)) (fun c3 => br_t rfl ⟨vp_in_nI (by omega) (by omega), ?_⟩)))
  rw [e2, nI_1]
  exact nm_e (ye_enter h hg (by omega) hv hvp hE (by omega) (hp c1 (by omega) c3))
theorem ye_main {Q : Int32 → SY → Prop} (h : pr_in F N pc rt bs kd mk na) (hF : 0 < F) {v : Nat} (hv : v = pc (F - 1)) (hs : y_wStep 0 = 0)
    (h3 : y_calls = y_fuelLimit → Q 0 ((nI M), (nI F), (nI N), y_code, y_fault, y_bound, 3, y_calls, 0, y_fuelLimit, y_hasResult, y_resVal, (nI v), 1, 0, y_runBegun, y_runK, y_factJ, y_factK, (fun i => nI (pc i)), mk, (fun i => nI (rt i)), (fun i => nI (bs i)), (fun i => nI (kd i)), na, y_tVal, y_slotList, y_slotVal, y_vals, y_wNode, y_wStep, y_env, y_actBase))
    (hl : ¬ y_calls = y_fuelLimit → y_runBegun = y_runK → Q 0 ((nI M), (nI F), (nI N), y_code, y_fault, y_bound, y_status, y_calls, 0, y_fuelLimit, y_hasResult, y_resVal, (nI v), 1, 0, y_runBegun, y_runK, y_factJ, y_factK, (fun i => nI (pc i)), mk, (fun i => nI (rt i)), (fun i => nI (bs i)), (fun i => nI (kd i)), na, y_tVal, y_slotList, y_slotVal, y_vals, y_wNode, y_wStep, y_env, y_actBase))
    (hp : ¬ y_calls = y_fuelLimit → ¬ y_runBegun = y_runK → Q 1 ((nI M), (nI F), (nI N), y_code, y_fault, y_bound, y_status, (y_calls + 1), 1, y_fuelLimit, y_hasResult, y_resVal, (nI (v - pc (F - 1))), 2, (nI (0 + pc (F - 1))), (y_runBegun + 1), y_runK, y_factJ, y_factK, (fun i => nI (pc i)), mk, (fun i => nI (rt i)), (fun i => nI (bs i)), (fun i => nI (kd i)), na, y_tVal, y_slotList, y_slotVal, y_vals, (upd y_wNode 1 (nI (bs (F - 1)))), (upd (upd y_wStep 0 1) 1 0), (rn_wf y_env (fun i => 0 + i) (fun i => y_vals (v - pc (F - 1) + i)) (pc (F - 1))), (upd y_actBase 0 0))) :
    wpY_mainStep Q ((nI M), (nI F), (nI N), y_code, y_fault, y_bound, y_status, y_calls, 0, y_fuelLimit, y_hasResult, y_resVal, (nI v), 1, 0, y_runBegun, y_runK, y_factJ, y_factK, (fun i => nI (pc i)), mk, (fun i => nI (rt i)), (fun i => nI (bs i)), (fun i => nI (kd i)), na, y_tVal, y_slotList, y_slotVal, y_vals, y_wNode, y_wStep, y_env, y_actBase) 0 := by
  have hp3 := h.2.2.1 (F - 1)
  have e0 : (0 : Int32).toNatClampNeg = 0 := by decide
  refine ⟨vp_in_nI (n := 0) (by omega) (by omega), ?_⟩
  rw [e0]
  refine br_t hs (br_c (fun c1 => br_f (by decide) (h3 c1)) (fun c1 => br_f (by decide) (br_c (fun c3 => br_f (by decide) (hl c1 c3)) (fun c3 => br_t rfl ⟨vp_in_nI (n := 0) (by omega) (by omega), ?_⟩))))
  rw [rl_Fm hF]
  exact nm_e (ye_enter (d := 0) (E := 0) (w := 1) h (by omega) (by omega) (v := v) (by omega) (by omega) (by omega) (by omega) (hp c1 c3))
theorem ye_done {Q : Int32 → SY → Prop} (h : pr_in F N pc rt bs kd mk na) (hs : ¬ y_wStep 0 = 0) (hp : Q 0 ((nI M), (nI F), (nI N), y_code, y_fault, y_bound, 2, y_calls, 0, y_fuelLimit, 1, (y_vals 0), 0, 0, 0, y_runBegun, y_runK, y_factJ, y_factK, (fun i => nI (pc i)), mk, (fun i => nI (rt i)), (fun i => nI (bs i)), (fun i => nI (kd i)), na, y_tVal, y_slotList, y_slotVal, y_vals, y_wNode, y_wStep, y_env, y_actBase)) : wpY_mainStep Q ((nI M), (nI F), (nI N), y_code, y_fault, y_bound, y_status, y_calls, y_depth, y_fuelLimit, y_hasResult, y_resVal, 1, y_wTop, y_envTop, y_runBegun, y_runK, y_factJ, y_factK, (fun i => nI (pc i)), mk, (fun i => nI (rt i)), (fun i => nI (bs i)), (fun i => nI (kd i)), na, y_tVal, y_slotList, y_slotVal, y_vals, y_wNode, y_wStep, y_env, y_actBase) 0 := by
  have e0 : (0 : Int32).toNatClampNeg = 0 := by decide
  refine ⟨vp_in_nI (n := 0) (by omega) (by omega), ?_⟩
  rw [e0]
  exact br_f hs (wy_popVal (v := 0) (by omega) hp)
end
