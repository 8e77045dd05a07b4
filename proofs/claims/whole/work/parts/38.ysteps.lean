section
variable {y_m y_fCount y_nCount y_code y_fault y_status y_depth y_hasResult y_vTop y_wTop y_envTop y_runBegun y_runK y_factJ y_factK : Int32} {y_bound y_calls y_fuelLimit y_resVal : Int64} {y_fParams y_fMask y_fRes y_fStart y_nKind y_nArg y_slotList y_wNode y_wStep y_actBase : Nat → Int32} {y_tVal y_slotVal y_vals y_env : Nat → Int64}
variable {M F N k : Nat} {pc rt bs kd : Nat → Nat} {mk na : Nat → Int32}
variable {Q : Int32 → SY → Prop} {n w v E : Nat}
theorem yt_var (h : pr_in F N pc rt bs kd mk na) (hn : n < N) (hk : kd n = 0) {x e B : Nat} (ha : na n = nI x) (hab : y_actBase e = nI B) (hB : B + x < 1200) (he : e < 16) (hv : v < 1200) (hw : w < 2000)
    (hp : Q 1 ((nI M), (nI F), (nI N), y_code, y_fault, y_bound, y_status, y_calls, (nI (e + 1)), y_fuelLimit, y_hasResult, y_resVal, (nI (v + 1)), (nI w), y_envTop, y_runBegun, y_runK, y_factJ, y_factK, (fun i => nI (pc i)), mk, (fun i => nI (rt i)), (fun i => nI (bs i)), (fun i => nI (kd i)), na, y_tVal, y_slotList, y_slotVal, (vp_updL y_vals v (y_env (B + x))), y_wNode, y_wStep, y_env, y_actBase)) {st : Int32} {p0 : Int32} : wpY_step Q ((nI M), (nI F), (nI N), y_code, y_fault, y_bound, y_status, y_calls, (nI (e + 1)), y_fuelLimit, y_hasResult, y_resVal, (nI v), (nI (w + 1)), y_envTop, y_runBegun, y_runK, y_factJ, y_factK, (fun i => nI (pc i)), mk, (fun i => nI (rt i)), (fun i => nI (bs i)), (fun i => nI (kd i)), na, y_tVal, y_slotList, y_slotVal, y_vals, y_wNode, y_wStep, y_env, y_actBase) p0 (nI n) st := by
  have h64 := h.2.1
  have e1 : (nI n).toNatClampNeg = n := nI_clamp (by omega)
  have e2 : (nI e).toNatClampNeg = e := nI_clamp (by omega)
  have e3 : (nI (B + x)).toNatClampNeg = B + x := nI_clamp (by omega)
  have hvn : vp_in (nI n) 64 := vp_in_nI (by omega) (by omega)
  refine ⟨hvn, ?_⟩
  rw [e1]
  refine nm_r (e' := 0) (congrArg nI hk) (br_t rfl (br_f (nI_nle (by omega) (by omega)) ?_))
  unfold wY_step_34
  rw [nI_pred, nI_pred, e1, e2, hab, ha, nI_add]
  refine ⟨vp_in_nI (by omega) (by omega), hvn, nm_e (nm_e (br_f (nI_pos (by omega)) (br_f (nI_ge (b := 1200) (by omega) (by decide)) ⟨vp_in_nI (by omega) (by omega), ?_⟩)))⟩
  rw [e3]
  unfold wY_step_79
  exact wy_pushVal hv hp
theorem yt_leaf (h : pr_in F N pc rt bs kd mk na) (hn : n < N) (hk : kd n = 1 ∨ kd n = 3) (hv : v < 1200) (hp : Q 1 ((nI M), (nI F), (nI N), y_code, y_fault, y_bound, y_status, y_calls, y_depth, y_fuelLimit, y_hasResult, y_resVal, (nI (v + 1)), (nI w), y_envTop, y_runBegun, y_runK, y_factJ, y_factK, (fun i => nI (pc i)), mk, (fun i => nI (rt i)), (fun i => nI (bs i)), (fun i => nI (kd i)), na, y_tVal, y_slotList, y_slotVal, (vp_updL y_vals v 0), y_wNode, y_wStep, y_env, y_actBase)) {st : Int32} {p0 : Int32} : wpY_step Q ((nI M), (nI F), (nI N), y_code, y_fault, y_bound, y_status, y_calls, y_depth, y_fuelLimit, y_hasResult, y_resVal, (nI v), (nI (w + 1)), y_envTop, y_runBegun, y_runK, y_factJ, y_factK, (fun i => nI (pc i)), mk, (fun i => nI (rt i)), (fun i => nI (bs i)), (fun i => nI (kd i)), na, y_tVal, y_slotList, y_slotVal, y_vals, y_wNode, y_wStep, y_env, y_actBase) p0 (nI n) st := by
  have h64 := h.2.1
  have e1 : (nI n).toNatClampNeg = n := nI_clamp (by omega)
  have go : wY_step_97 Q (nI M) (nI F) (nI N) y_code y_fault y_bound y_status y_calls y_depth y_fuelLimit y_hasResult y_resVal (nI v) (nI (w + 1)) y_envTop y_runBegun y_runK y_factJ y_factK (fun i => nI (pc i)) mk (fun i => nI (rt i)) (fun i => nI (bs i)) (fun i => nI (kd i)) na y_tVal y_slotList y_slotVal y_vals y_wNode y_wStep y_env y_actBase := by
    unfold wY_step_97
    refine nm_r (nI_pred w) ?_
    exact wy_pushVal hv hp
  refine ⟨vp_in_nI (by omega) (by omega), ?_⟩
  rw [e1]
  rcases hk with k | k
  · exact nm_r (e' := 1) (congrArg nI k) (br_f (by decide) (br_t rfl go))
  · exact nm_r (e' := 3) (congrArg nI k) (br_f (by decide) (br_f (by decide) (br_t rfl go)))
/-- a child is pushed -/
theorem yt_push (h : pr_in F N pc rt bs kd mk na) (hn : n < N) {c : Nat} (hk : (kd n = 2 ∧ c < 1) ∨ (kd n = 4 ∧ c < 2)) (hw : w < 1100)
    (hp : Q 1 ((nI M), (nI F), (nI N), y_code, y_fault, y_bound, y_status, y_calls, y_depth, y_fuelLimit, y_hasResult, y_resVal, y_vTop, (nI (w + 2)), y_envTop, y_runBegun, y_runK, y_factJ, y_factK, (fun i => nI (pc i)), mk, (fun i => nI (rt i)), (fun i => nI (bs i)), (fun i => nI (kd i)), na, y_tVal, y_slotList, y_slotVal, y_vals, (upd y_wNode (w + 1) (nI (tr_ch N (pr_ar F pc kd na) n c))), (upd (upd y_wStep w (nI (c + 1))) (w + 1) 0), y_env, y_actBase)) : wpY_step Q ((nI M), (nI F), (nI N), y_code, y_fault, y_bound, y_status, y_calls, y_depth, y_fuelLimit, y_hasResult, y_resVal, y_vTop, (nI (w + 1)), y_envTop, y_runBegun, y_runK, y_factJ, y_factK, (fun i => nI (pc i)), mk, (fun i => nI (rt i)), (fun i => nI (bs i)), (fun i => nI (kd i)), na, y_tVal, y_slotList, y_slotVal, y_vals, y_wNode, y_wStep, y_env, y_actBase) (nI w) (nI n) (nI c) := by
  have h64 := h.2.1
  have e1 : (nI n).toNatClampNeg = n := nI_clamp (by omega)
  have e2 : (nI w).toNatClampNeg = w := nI_clamp (by omega)
  have go : ∀ x4 a, c < a → a ≤ 2 → wY_step_138 Q (nI w) (nI n) (nI c) x4 (nI a) (nI M) (nI F) (nI N) y_code y_fault y_bound y_status y_calls y_depth y_fuelLimit y_hasResult y_resVal y_vTop (nI (w + 1)) y_envTop y_runBegun y_runK y_factJ y_factK (fun i => nI (pc i)) mk (fun i => nI (rt i)) (fun i => nI (bs i)) (fun i => nI (kd i)) na y_tVal y_slotList y_slotVal y_vals y_wNode y_wStep y_env y_actBase := by
    intro x4 a ha ha2
    unfold wY_step_138
    rw [e2, nI_1]
    exact br_f (nI_ge ha (by omega)) ⟨vp_in_nI (by omega) (by omega), nm_e (wy_childAt h hn (by omega) (wy_pushWork (by omega) hp))⟩
  refine ⟨vp_in_nI (by omega) (by omega), ?_⟩
  rw [e1]
  rcases hk with ⟨k, kc⟩ | ⟨k, kc⟩
  · exact nm_r (e' := 2) (congrArg nI k) (br_f (by decide) (br_f (by decide) (br_f (by decide) (br_t rfl (br_t rfl (go 2 1 kc (by omega)))))))
  · exact nm_r (e' := 4) (congrArg nI k) (br_f (by decide) (br_f (by decide) (br_f (by decide) (br_f (by decide) (br_t rfl (br_f (by decide) (go 4 2 kc (by omega))))))))
theorem yt_call (h : pr_in F N pc rt bs kd mk na) (hn : n < N) (hk : kd n = 5) {g : Nat} (hg : g < F) (ha : na n = nI g) {st p0 : Int32} (hp : wY_step_316 Q p0 (nI n) st (nI g) (nI (pc g)) (nI M) (nI F) (nI N) y_code y_fault y_bound y_status y_calls y_depth y_fuelLimit y_hasResult y_resVal y_vTop y_wTop y_envTop y_runBegun y_runK y_factJ y_factK (fun i => nI (pc i)) mk (fun i => nI (rt i)) (fun i => nI (bs i)) (fun i => nI (kd i)) na y_tVal y_slotList y_slotVal y_vals y_wNode y_wStep y_env y_actBase) : wpY_step Q ((nI M), (nI F), (nI N), y_code, y_fault, y_bound, y_status, y_calls, y_depth, y_fuelLimit, y_hasResult, y_resVal, y_vTop, y_wTop, y_envTop, y_runBegun, y_runK, y_factJ, y_factK, (fun i => nI (pc i)), mk, (fun i => nI (rt i)), (fun i => nI (bs i)), (fun i => nI (kd i)), na, y_tVal, y_slotList, y_slotVal, y_vals, y_wNode, y_wStep, y_env, y_actBase) p0 (nI n) st := by
  have h6 := h.1
  have h64 := h.2.1
  have e1 : (nI n).toNatClampNeg = n := nI_clamp (by omega)
  have e2 : (nI g).toNatClampNeg = g := nI_clamp (by omega)
  have hvn : vp_in (nI n) 64 := vp_in_nI (by omega) (by omega)
  refine ⟨hvn, ?_⟩
  rw [e1]
  refine nm_r (e' := 5) (congrArg nI hk) (br_f (by decide) (br_f (by decide) (br_f (by decide) (br_f (by decide) (br_f (by decide) (br_t rfl ⟨hvn, nm_r ha ?_⟩))))))
  rw [e2]
  exact br_f (nI_pos (by omega)) (br_f (nI_ge hg (by omega)) ⟨vp_in_nI (by omega) (by omega), hp⟩)
theorem yt_push5 (h : pr_in F N pc rt bs kd mk na) (hn : n < N) (hk : kd n = 5) {g c : Nat} (hg : g < F) (ha : na n = nI g) (hc : c < pc g) (hw : w < 1100)
    (hp : Q 1 ((nI M), (nI F), (nI N), y_code, y_fault, y_bound, y_status, y_calls, y_depth, y_fuelLimit, y_hasResult, y_resVal, y_vTop, (nI (w + 2)), y_envTop, y_runBegun, y_runK, y_factJ, y_factK, (fun i => nI (pc i)), mk, (fun i => nI (rt i)), (fun i => nI (bs i)), (fun i => nI (kd i)), na, y_tVal, y_slotList, y_slotVal, y_vals, (upd y_wNode (w + 1) (nI (tr_ch N (pr_ar F pc kd na) n c))), (upd (upd y_wStep w (nI (c + 1))) (w + 1) 0), y_env, y_actBase)) : wpY_step Q ((nI M), (nI F), (nI N), y_code, y_fault, y_bound, y_status, y_calls, y_depth, y_fuelLimit, y_hasResult, y_resVal, y_vTop, (nI (w + 1)), y_envTop, y_runBegun, y_runK, y_factJ, y_factK, (fun i => nI (pc i)), mk, (fun i => nI (rt i)), (fun i => nI (bs i)), (fun i => nI (kd i)), na, y_tVal, y_slotList, y_slotVal, y_vals, y_wNode, y_wStep, y_env, y_actBase) (nI w) (nI n) (nI c) := by
  have hp3 := h.2.2.1 g
  have e2 : (nI w).toNatClampNeg = w := nI_clamp (by omega)
  refine yt_call h hn hk hg ha ?_
  unfold wY_step_316
  rw [e2, nI_1 c]
  exact br_f (nI_ge hc (by omega)) ⟨vp_in_nI (by omega) (by omega), nm_e (wy_childAt h hn (by omega) (wy_pushWork (by omega) hp))⟩
theorem yt_k67 (h : pr_in F N pc rt bs kd mk na) (hn : n < N) (hk : kd n = 6 ∨ kd n = 7) {st p0 : Int32}
    (hp : (st = 0 → (vp_in p0 1200 ∧ ∀ a : Nat → Int32, a = upd y_wStep p0.toNatClampNeg 1 → wpY_pushWork (fun u => match u with | (y_m, y_fCount, y_nCount, y_code, y_fault, y_bound, y_status, y_calls, y_depth, y_fuelLimit, y_hasResult, y_resVal, y_vTop, y_wTop, y_envTop, y_runBegun, y_runK, y_factJ, y_factK, y_fParams, y_fMask, y_fRes, y_fStart, y_nKind, y_nArg, y_tVal, y_slotList, y_slotVal, y_vals, y_wNode, y_wStep, y_env, y_actBase) => Q 1 (y_m, y_fCount, y_nCount, y_code, y_fault, y_bound, y_status, y_calls, y_depth, y_fuelLimit, y_hasResult, y_resVal, y_vTop, y_wTop, y_envTop, y_runBegun, y_runK, y_factJ, y_factK, y_fParams, y_fMask, y_fRes, y_fStart, y_nKind, y_nArg, y_tVal, y_slotList, y_slotVal, y_vals, y_wNode, y_wStep, y_env, y_actBase)) ((nI M), (nI F), (nI N), y_code, y_fault, y_bound, y_status, y_calls, y_depth, y_fuelLimit, y_hasResult, y_resVal, y_vTop, y_wTop, y_envTop, y_runBegun, y_runK, y_factJ, y_factK, (fun i => nI (pc i)), mk, (fun i => nI (rt i)), (fun i => nI (bs i)), (fun i => nI (kd i)), na, y_tVal, y_slotList, y_slotVal, y_vals, y_wNode, a, y_env, y_actBase) (nI n + 1))) ∧ (¬ st = 0 → (st = 1 → wpY_popVal (fun r u => match u with | (y_m, y_fCount, y_nCount, y_code, y_fault, y_bound, y_status, y_calls, y_depth, y_fuelLimit, y_hasResult, y_resVal, y_vTop, y_wTop, y_envTop, y_runBegun, y_runK, y_factJ, y_factK, y_fParams, y_fMask, y_fRes, y_fStart, y_nKind, y_nArg, y_tVal, y_slotList, y_slotVal, y_vals, y_wNode, y_wStep, y_env, y_actBase) => (((nI (kd n) = 6) → wY_step_471 Q p0 (nI n) r 1 y_m y_fCount y_nCount y_code y_fault y_bound y_status y_calls y_depth y_fuelLimit y_hasResult y_resVal y_vTop y_wTop y_envTop y_runBegun y_runK y_factJ y_factK y_fParams y_fMask y_fRes y_fStart y_nKind y_nArg y_tVal y_slotList y_slotVal y_vals y_wNode y_wStep y_env y_actBase) ∧ (¬ nI (kd n) = 6 → wY_step_471 Q p0 (nI n) r 0 y_m y_fCount y_nCount y_code y_fault y_bound y_status y_calls y_depth y_fuelLimit y_hasResult y_resVal y_vTop y_wTop y_envTop y_runBegun y_runK y_factJ y_factK y_fParams y_fMask y_fRes y_fStart y_nKind y_nArg y_tVal y_slotList y_slotVal y_vals y_wNode y_wStep y_env y_actBase))) ((nI M), (nI F), (nI N), y_code, y_fault, y_bound, y_status, y_calls, y_depth, y_fuelLimit, y_hasResult, y_resVal, y_vTop, y_wTop, y_envTop, y_runBegun, y_runK, y_factJ, y_factK, (fun i => nI (pc i)), mk, (fun i => nI (rt i)), (fun i => nI (bs i)), (fun i => nI (kd i)), na, y_tVal, y_slotList, y_slotVal, y_vals, y_wNode, y_wStep, y_env, y_actBase)) ∧ (¬ st = 1 → (st = 3 → ((nI (kd n) = 6 → wY_step_613 Q 1 y_envTop (nI M) (nI F) (nI N) y_code y_fault y_bound y_status y_calls y_depth y_fuelLimit y_hasResult y_resVal y_vTop y_wTop y_envTop y_runBegun y_runK y_factJ y_factK (fun i => nI (pc i)) mk (fun i => nI (rt i)) (fun i => nI (bs i)) (fun i => nI (kd i)) na y_tVal y_slotList y_slotVal y_vals y_wNode y_wStep y_env y_actBase) ∧ (¬ nI (kd n) = 6 → wY_step_613 Q 2 y_envTop (nI M) (nI F) (nI N) y_code y_fault y_bound y_status y_calls y_depth y_fuelLimit y_hasResult y_resVal y_vTop y_wTop y_envTop y_runBegun y_runK y_factJ y_factK (fun i => nI (pc i)) mk (fun i => nI (rt i)) (fun i => nI (bs i)) (fun i => nI (kd i)) na y_tVal y_slotList y_slotVal y_vals y_wNode y_wStep y_env y_actBase))) ∧ (¬ st = 3 → wY_step_617 Q (nI M) (nI F) (nI N) y_code y_fault y_bound y_status y_calls y_depth y_fuelLimit y_hasResult y_resVal y_vTop y_wTop y_envTop y_runBegun y_runK y_factJ y_factK (fun i => nI (pc i)) mk (fun i => nI (rt i)) (fun i => nI (bs i)) (fun i => nI (kd i)) na y_tVal y_slotList y_slotVal y_vals y_wNode y_wStep y_env y_actBase)))) : wpY_step Q ((nI M), (nI F), (nI N), y_code, y_fault, y_bound, y_status, y_calls, y_depth, y_fuelLimit, y_hasResult, y_resVal, y_vTop, y_wTop, y_envTop, y_runBegun, y_runK, y_factJ, y_factK, (fun i => nI (pc i)), mk, (fun i => nI (rt i)), (fun i => nI (bs i)), (fun i => nI (kd i)), na, y_tVal, y_slotList, y_slotVal, y_vals, y_wNode, y_wStep, y_env, y_actBase) p0 (nI n) st := by
  have h64 := h.2.1
  have e1 : (nI n).toNatClampNeg = n := nI_clamp (by omega)
  refine ⟨vp_in_nI (by omega) (by omega), ?_⟩
  rw [e1]
  refine nm_r (e' := nI (kd n)) rfl ?_
  rcases hk with k | k
  · rw [k] at hp ⊢
    exact br_f (by decide) (br_f (by decide) (br_f (by decide) (br_f (by decide) (br_f (by decide) (br_f (by decide) hp)))))
  · rw [k] at hp ⊢
    exact br_f (by decide) (br_f (by decide) (br_f (by decide) (br_f (by decide) (br_f (by decide) (br_f (by decide) hp)))))
theorem yt_push67 (h : pr_in F N pc rt bs kd mk na) (hn : n < N) (hk : kd n = 6 ∨ kd n = 7) (hw : w < 1100)
    (hp : Q 1 ((nI M), (nI F), (nI N), y_code, y_fault, y_bound, y_status, y_calls, y_depth, y_fuelLimit, y_hasResult, y_resVal, y_vTop, (nI (w + 2)), y_envTop, y_runBegun, y_runK, y_factJ, y_factK, (fun i => nI (pc i)), mk, (fun i => nI (rt i)), (fun i => nI (bs i)), (fun i => nI (kd i)), na, y_tVal, y_slotList, y_slotVal, y_vals, (upd y_wNode (w + 1) (nI (n + 1))), (upd (upd y_wStep w 1) (w + 1) 0), y_env, y_actBase)) : wpY_step Q ((nI M), (nI F), (nI N), y_code, y_fault, y_bound, y_status, y_calls, y_depth, y_fuelLimit, y_hasResult, y_resVal, y_vTop, (nI (w + 1)), y_envTop, y_runBegun, y_runK, y_factJ, y_factK, (fun i => nI (pc i)), mk, (fun i => nI (rt i)), (fun i => nI (bs i)), (fun i => nI (kd i)), na, y_tVal, y_slotList, y_slotVal, y_vals, y_wNode, y_wStep, y_env, y_actBase) (nI w) (nI n) 0 := by
  have e2 : (nI w).toNatClampNeg = w := nI_clamp (by omega)
  refine yt_k67 h hn hk (br_t rfl ⟨vp_in_nI (by omega) (by omega), ?_⟩)
  rw [e2, nI_1]
  exact nm_e (wy_pushWork (by omega) hp)
theorem yt_up67 (h : pr_in F N pc rt bs kd mk na) (hn : n < N) (hk : kd n = 6 ∨ kd n = 7) {c E2 : Nat} (hc : (c = 2 ∧ E2 = E) ∨ (c = 3 ∧ E2 + (if kd n = 6 then 1 else 2) = E)) (hE : E < 2000)
    (hp : Q 1 ((nI M), (nI F), (nI N), y_code, y_fault, y_bound, y_status, y_calls, y_depth, y_fuelLimit, y_hasResult, y_resVal, y_vTop, (nI w), (nI E2), y_runBegun, y_runK, y_factJ, y_factK, (fun i => nI (pc i)), mk, (fun i => nI (rt i)), (fun i => nI (bs i)), (fun i => nI (kd i)), na, y_tVal, y_slotList, y_slotVal, y_vals, y_wNode, y_wStep, y_env, y_actBase)) {p0 : Int32} : wpY_step Q ((nI M), (nI F), (nI N), y_code, y_fault, y_bound, y_status, y_calls, y_depth, y_fuelLimit, y_hasResult, y_resVal, y_vTop, (nI (w + 1)), (nI E), y_runBegun, y_runK, y_factJ, y_factK, (fun i => nI (pc i)), mk, (fun i => nI (rt i)), (fun i => nI (bs i)), (fun i => nI (kd i)), na, y_tVal, y_slotList, y_slotVal, y_vals, y_wNode, y_wStep, y_env, y_actBase) p0 (nI n) (nI c) := by
  rcases hc with ⟨c2, c3⟩ | ⟨c2, c3⟩
  · subst c2 c3
    exact yt_k67 h hn hk (br_f (by decide) (br_f (by decide) (br_f (by decide) (nm_r (nI_pred w) hp))))
  · subst c2
    refine yt_k67 h hn hk (br_f (by decide) (br_f (by decide) (br_t rfl ?_)))
    have hk7 := h.2.2.2.2.2.1 n
    refine pk_eq (kd n) 6 (fun k => ?_) (fun k => ?_)
    · rw [if_pos k] at c3
      exact nm_r (e' := nI E2) (by rw [← c3]; exact nI_pred E2) (nm_r (nI_pred w) hp)
    · rw [if_neg k] at c3
      exact nm_r (e' := nI E2) (by rw [← c3]; exact pk_sub (a := E2 + 2) (b := 2) (by omega)) (nm_r (nI_pred w) hp)
theorem yt_succ (h : pr_in F N pc rt bs kd mk na) (hn : n < N) (hk : kd n = 2) (hv : v < 1199) (h0 : ¬ y_vals v < (nI M).toInt64 → Q 0 ((nI M), (nI F), (nI N), y_code, y_fault, y_bound, 4, y_calls, y_depth, y_fuelLimit, y_hasResult, y_resVal, (nI v), (nI (w + 1)), y_envTop, y_runBegun, y_runK, y_factJ, y_factK, (fun i => nI (pc i)), mk, (fun i => nI (rt i)), (fun i => nI (bs i)), (fun i => nI (kd i)), na, y_tVal, y_slotList, y_slotVal, y_vals, y_wNode, y_wStep, y_env, y_actBase)) (h1 : y_vals v < (nI M).toInt64 → Q 1 ((nI M), (nI F), (nI N), y_code, y_fault, y_bound, y_status, y_calls, y_depth, y_fuelLimit, y_hasResult, y_resVal, (nI (v + 1)), (nI w), y_envTop, y_runBegun, y_runK, y_factJ, y_factK, (fun i => nI (pc i)), mk, (fun i => nI (rt i)), (fun i => nI (bs i)), (fun i => nI (kd i)), na, y_tVal, y_slotList, y_slotVal, (vp_updL y_vals v (y_vals v + 1)), y_wNode, y_wStep, y_env, y_actBase)) {p0 : Int32} : wpY_step Q ((nI M), (nI F), (nI N), y_code, y_fault, y_bound, y_status, y_calls, y_depth, y_fuelLimit, y_hasResult, y_resVal, (nI (v + 1)), (nI (w + 1)), y_envTop, y_runBegun, y_runK, y_factJ, y_factK, (fun i => nI (pc i)), mk, (fun i => nI (rt i)), (fun i => nI (bs i)), (fun i => nI (kd i)), na, y_tVal, y_slotList, y_slotVal, y_vals, y_wNode, y_wStep, y_env, y_actBase) p0 (nI n) 1 := by
  have h64 := h.2.1
  have e1 : (nI n).toNatClampNeg = n := nI_clamp (by omega)
  refine ⟨vp_in_nI (by omega) (by omega), ?_⟩
  rw [e1]
  refine nm_r (e' := 2) (congrArg nI hk) (br_f (by decide) (br_f (by decide) (br_f (by decide) (br_t rfl (br_t rfl ?_)))))
  unfold wY_step_138
  refine br_t (by decide) (wy_popVal (by omega) (br_t rfl (br_c (fun c => nm_r (nI_pred w) ?_) (fun c => h0 c))))
  exact wy_pushVal (by omega) (h1 c)
theorem yt_cons (h : pr_in F N pc rt bs kd mk na) (hM : M ≤ 12) (hn : n < N) (hk : kd n = 4) (hv : v < 1198) {l : List Nat} {x : Nat} (hl : vl_ok M l) (hx : x ≤ M) (hv1 : y_vals (v + 1) = lN (vl_enc l)) (hv2 : y_vals v = lN x)
    (h0 : l.length = M → Q 0 ((nI M), (nI F), (nI N), y_code, y_fault, y_bound, 4, y_calls, y_depth, y_fuelLimit, y_hasResult, y_resVal, (nI v), (nI (w + 1)), y_envTop, y_runBegun, y_runK, y_factJ, y_factK, (fun i => nI (pc i)), mk, (fun i => nI (rt i)), (fun i => nI (bs i)), (fun i => nI (kd i)), na, y_tVal, y_slotList, y_slotVal, y_vals, y_wNode, y_wStep, y_env, y_actBase)) (h1 : l.length ≠ M → Q 1 ((nI M), (nI F), (nI N), y_code, y_fault, y_bound, y_status, y_calls, y_depth, y_fuelLimit, y_hasResult, y_resVal, (nI (v + 1)), (nI w), y_envTop, y_runBegun, y_runK, y_factJ, y_factK, (fun i => nI (pc i)), mk, (fun i => nI (rt i)), (fun i => nI (bs i)), (fun i => nI (kd i)), na, y_tVal, y_slotList, y_slotVal, (vp_updL y_vals v (lN (vl_enc (x :: l)))), y_wNode, y_wStep, y_env, y_actBase)) {p0 : Int32} : wpY_step Q ((nI M), (nI F), (nI N), y_code, y_fault, y_bound, y_status, y_calls, y_depth, y_fuelLimit, y_hasResult, y_resVal, (nI (v + 2)), (nI (w + 1)), y_envTop, y_runBegun, y_runK, y_factJ, y_factK, (fun i => nI (pc i)), mk, (fun i => nI (rt i)), (fun i => nI (bs i)), (fun i => nI (kd i)), na, y_tVal, y_slotList, y_slotVal, y_vals, y_wNode, y_wStep, y_env, y_actBase) p0 (nI n) 2 := by
  have h64 := h.2.1
  have h12 := hl.1
  have e1 : (nI n).toNatClampNeg = n := nI_clamp (by omega)
  refine ⟨vp_in_nI (by omega) (by omega), ?_⟩
  rw [e1]
  refine nm_r (e' := 4) (congrArg nI hk) (br_f (by decide) (br_f (by decide) (br_f (by decide) (br_f (by decide) (br_t rfl (br_f (by decide) ?_))))))
  unfold wY_step_138
  refine br_t (by decide) (wy_popVal (v := v + 1) (by omega) (br_f (by decide) (wy_popVal (v := v) (by omega) ?_)))
  show ((y_vals (v + 1) &&& 15).toInt32 < nI M → _) ∧ _
  rw [hv1, hv2, vw_len hM hl]
  refine pk_lt l.length M (fun c => wy_consOf hM hl hx (nm_r (nI_pred w) ?_)) (fun c => h0 (by omega))
  exact wy_pushVal (by omega) (h1 (by omega))
theorem yt_ret (h : pr_in F N pc rt bs kd mk na) (hn : n < N) (hk : kd n = 5) {g d B : Nat} (hg : g < F) (ha : na n = nI g) (hd : d < 16) (hab : y_actBase (d + 1) = nI B)
    (hp : Q 1 ((nI M), (nI F), (nI N), y_code, y_fault, y_bound, y_status, y_calls, (nI (d + 1)), y_fuelLimit, y_hasResult, y_resVal, y_vTop, (nI w), (nI B), y_runBegun, y_runK, y_factJ, y_factK, (fun i => nI (pc i)), mk, (fun i => nI (rt i)), (fun i => nI (bs i)), (fun i => nI (kd i)), na, y_tVal, y_slotList, y_slotVal, y_vals, y_wNode, y_wStep, y_env, y_actBase)) {p0 : Int32} : wpY_step Q ((nI M), (nI F), (nI N), y_code, y_fault, y_bound, y_status, y_calls, (nI (d + 2)), y_fuelLimit, y_hasResult, y_resVal, y_vTop, (nI (w + 1)), y_envTop, y_runBegun, y_runK, y_factJ, y_factK, (fun i => nI (pc i)), mk, (fun i => nI (rt i)), (fun i => nI (bs i)), (fun i => nI (kd i)), na, y_tVal, y_slotList, y_slotVal, y_vals, y_wNode, y_wStep, y_env, y_actBase) p0 (nI n) (nI (pc g + 1)) := by
  have hp3 := h.2.2.1 g
  have e2 : (nI (d + 1)).toNatClampNeg = d + 1 := nI_clamp (by omega)
  refine yt_call h hn hk hg ha (br_t (nI_le (by omega) (by omega)) (br_f ?_ (br_f (nI_nle (by omega) (by omega)) (nm_r (nI_pred (d + 1)) ?_))))
  · exact fun y => absurd ((nI_eq (by omega) (by omega)).mp y) (by omega)
  · refine ⟨vp_in_nI (by omega) (by omega), ?_⟩
    rw [e2, hab]
    exact nm_e (nm_r (nI_pred w) hp)
-- cases
theorem yt_497 (h : pr_in F N pc rt bs kd mk na) (hn : n < N) (hw : w < 1100) (hp : Q 1 ((nI M), (nI F), (nI N), y_code, y_fault, y_bound, y_status, y_calls, y_depth, y_fuelLimit, y_hasResult, y_resVal, y_vTop, (nI (w + 2)), y_envTop, y_runBegun, y_runK, y_factJ, y_factK, (fun i => nI (pc i)), mk, (fun i => nI (rt i)), (fun i => nI (bs i)), (fun i => nI (kd i)), na, y_tVal, y_slotList, y_slotVal, y_vals, (upd y_wNode (w + 1) (nI (tr_ch N (pr_ar F pc kd na) n 1))), (upd (upd y_wStep w 2) (w + 1) 0), y_env, y_actBase)) : wY_step_497 Q (nI w) (nI n) (nI M) (nI F) (nI N) y_code y_fault y_bound y_status y_calls y_depth y_fuelLimit y_hasResult y_resVal y_vTop (nI (w + 1)) y_envTop y_runBegun y_runK y_factJ y_factK (fun i => nI (pc i)) mk (fun i => nI (rt i)) (fun i => nI (bs i)) (fun i => nI (kd i)) na y_tVal y_slotList y_slotVal y_vals y_wNode y_wStep y_env y_actBase := by
  have e2 : (nI w).toNatClampNeg = w := nI_clamp (by omega)
  unfold wY_step_497
  rw [e2]
  exact ⟨vp_in_nI (by omega) (by omega), nm_e (wy_childAt h hn (i := 1) (by omega) (wy_pushWork (by omega) hp))⟩
theorem yt_567 (h : pr_in F N pc rt bs kd mk na) (hn : n < N) (hw : w < 1100) (hp : Q 1 ((nI M), (nI F), (nI N), y_code, y_fault, y_bound, y_status, y_calls, y_depth, y_fuelLimit, y_hasResult, y_resVal, y_vTop, (nI (w + 2)), y_envTop, y_runBegun, y_runK, y_factJ, y_factK, (fun i => nI (pc i)), mk, (fun i => nI (rt i)), (fun i => nI (bs i)), (fun i => nI (kd i)), na, y_tVal, y_slotList, y_slotVal, y_vals, (upd y_wNode (w + 1) (nI (tr_ch N (pr_ar F pc kd na) n 2))), (upd (upd y_wStep w 3) (w + 1) 0), y_env, y_actBase)) : wY_step_567 Q (nI w) (nI n) (nI M) (nI F) (nI N) y_code y_fault y_bound y_status y_calls y_depth y_fuelLimit y_hasResult y_resVal y_vTop (nI (w + 1)) y_envTop y_runBegun y_runK y_factJ y_factK (fun i => nI (pc i)) mk (fun i => nI (rt i)) (fun i => nI (bs i)) (fun i => nI (kd i)) na y_tVal y_slotList y_slotVal y_vals y_wNode y_wStep y_env y_actBase := by
  have e2 : (nI w).toNatClampNeg = w := nI_clamp (by omega)
  unfold wY_step_567
  rw [e2]
  exact ⟨vp_in_nI (by omega) (by omega), nm_e (wy_childAt h hn (i := 2) (by omega) (wy_pushWork (by omega) hp))⟩
theorem yt_case_z (h : pr_in F N pc rt bs kd mk na) (hn : n < N) (hk : kd n = 6 ∨ kd n = 7) (hw : w < 1100) (hv : v < 1199) (hval : y_vals v = 0)
    (hp : Q 1 ((nI M), (nI F), (nI N), y_code, y_fault, y_bound, y_status, y_calls, y_depth, y_fuelLimit, y_hasResult, y_resVal, (nI v), (nI (w + 2)), y_envTop, y_runBegun, y_runK, y_factJ, y_factK, (fun i => nI (pc i)), mk, (fun i => nI (rt i)), (fun i => nI (bs i)), (fun i => nI (kd i)), na, y_tVal, y_slotList, y_slotVal, y_vals, (upd y_wNode (w + 1) (nI (tr_ch N (pr_ar F pc kd na) n 1))), (upd (upd y_wStep w 2) (w + 1) 0), y_env, y_actBase)) : wpY_step Q ((nI M), (nI F), (nI N), y_code, y_fault, y_bound, y_status, y_calls, y_depth, y_fuelLimit, y_hasResult, y_resVal, (nI (v + 1)), (nI (w + 1)), y_envTop, y_runBegun, y_runK, y_factJ, y_factK, (fun i => nI (pc i)), mk, (fun i => nI (rt i)), (fun i => nI (bs i)), (fun i => nI (kd i)), na, y_tVal, y_slotList, y_slotVal, y_vals, y_wNode, y_wStep, y_env, y_actBase) (nI w) (nI n) 1 := by
  have hk7 := h.2.2.2.2.2.1 n
  refine yt_k67 h hn hk (br_f (by decide) (br_t rfl (wy_popVal (by omega) ?_)))
  rw [hval]
  refine pk_eq (kd n) 6 (fun k => br_f (by decide) (br_t rfl (yt_497 h hn hw hp))) (fun k => br_t rfl (br_t (by decide) (yt_497 h hn hw hp)))
theorem yt_case_N (h : pr_in F N pc rt bs kd mk na) (hn : n < N) (hk : kd n = 6) (hw : w < 1100) (hv : v < 1199) (hE : E < 1199) {q : Nat} (hq : q < 1000) (hval : y_vals v = lN (q + 1))
    (hp : Q 1 ((nI M), (nI F), (nI N), y_code, y_fault, y_bound, y_status, y_calls, y_depth, y_fuelLimit, y_hasResult, y_resVal, (nI v), (nI (w + 2)), (nI (E + 1)), y_runBegun, y_runK, y_factJ, y_factK, (fun i => nI (pc i)), mk, (fun i => nI (rt i)), (fun i => nI (bs i)), (fun i => nI (kd i)), na, y_tVal, y_slotList, y_slotVal, y_vals, (upd y_wNode (w + 1) (nI (tr_ch N (pr_ar F pc kd na) n 2))), (upd (upd y_wStep w 3) (w + 1) 0), (vp_updL y_env E (lN q)), y_actBase)) : wpY_step Q ((nI M), (nI F), (nI N), y_code, y_fault, y_bound, y_status, y_calls, y_depth, y_fuelLimit, y_hasResult, y_resVal, (nI (v + 1)), (nI (w + 1)), (nI E), y_runBegun, y_runK, y_factJ, y_factK, (fun i => nI (pc i)), mk, (fun i => nI (rt i)), (fun i => nI (bs i)), (fun i => nI (kd i)), na, y_tVal, y_slotList, y_slotVal, y_vals, y_wNode, y_wStep, y_env, y_actBase) (nI w) (nI n) 1 := by
  have ev : lN (q + 1) - 1 = lN q := by rw [show (1 : Int64) = lN 1 from rfl, lN_sub (by omega)]; rfl
  refine yt_k67 h hn (Or.inl hk) (br_f (by decide) (br_t rfl (wy_popVal (by omega) ?_)))
  rw [hval]
  refine br_t (congrArg nI hk) (br_f (by decide) (br_f (fun y => absurd ((lN_eq (b := 0) (by omega) (by omega)).mp y) (by omega)) ?_))
  refine br_f (by decide) ?_
  rw [ev]
  exact wy_pushEnv (by omega) (yt_567 h hn hw hp)
theorem wy_elem0 {post : Int32 → Prop} {x : Nat} {l : List Nat} (hM : M ≤ 12) (hl : vl_ok M (x :: l)) (hp : post (nI x)) : wpY_elemOf post (y_m, y_fCount, y_nCount, y_code, y_fault, y_bound, y_status, y_calls, y_depth, y_fuelLimit, y_hasResult, y_resVal, y_vTop, y_wTop, y_envTop, y_runBegun, y_runK, y_factJ, y_factK, y_fParams, y_fMask, y_fRes, y_fStart, y_nKind, y_nArg, y_tVal, y_slotList, y_slotVal, y_vals, y_wNode, y_wStep, y_env, y_actBase) (lN (vl_enc (x :: l))) 0 := by
  have eh : (((lN (vl_enc (x :: l))).toUInt64 >>> ((4 : Int32).toInt64.toUInt64 &&& Int64.toUInt64 63)).toInt64 &&& 15).toInt32 = nI x := by
    rw [vw_head hM hl, lN_i]
  refine br_f (by decide) (br_t (by decide) ?_)
  rw [show (4 + 4 * (0 : Int32)) = 4 from rfl, eh]
  exact hp
theorem wy_tailOf {post : Int64 → Prop} {x : Nat} {l : List Nat} (hM : M ≤ 12) (hl : vl_ok M (x :: l)) (hp : post (lN (vl_enc l))) : wpY_tailOf post (y_m, y_fCount, y_nCount, y_code, y_fault, y_bound, y_status, y_calls, y_depth, y_fuelLimit, y_hasResult, y_resVal, y_vTop, y_wTop, y_envTop, y_runBegun, y_runK, y_factJ, y_factK, y_fParams, y_fMask, y_fRes, y_fStart, y_nKind, y_nArg, y_tVal, y_slotList, y_slotVal, y_vals, y_wNode, y_wStep, y_env, y_actBase) (lN (vl_enc (x :: l))) := by
  have hlen := vw_len hM hl
  simp only [List.length_cons] at hlen
  show post _
  rw [hlen, nI_pred, vw_tailY hM hl]
  exact hp
theorem yt_case_L (h : pr_in F N pc rt bs kd mk na) (hM : M ≤ 12) (hn : n < N) (hk : kd n = 7) (hw : w < 1100) (hv : v < 1199) (hE : E < 1198) {x : Nat} {l : List Nat} (hl : vl_ok M (x :: l)) (hval : y_vals v = lN (vl_enc (x :: l)))
    (hp : Q 1 ((nI M), (nI F), (nI N), y_code, y_fault, y_bound, y_status, y_calls, y_depth, y_fuelLimit, y_hasResult, y_resVal, (nI v), (nI (w + 2)), (nI (E + 2)), y_runBegun, y_runK, y_factJ, y_factK, (fun i => nI (pc i)), mk, (fun i => nI (rt i)), (fun i => nI (bs i)), (fun i => nI (kd i)), na, y_tVal, y_slotList, y_slotVal, y_vals, (upd y_wNode (w + 1) (nI (tr_ch N (pr_ar F pc kd na) n 2))), (upd (upd y_wStep w 3) (w + 1) 0), (vp_updL (vp_updL y_env E (lN x)) (E + 1) (lN (vl_enc l))), y_actBase)) : wpY_step Q ((nI M), (nI F), (nI N), y_code, y_fault, y_bound, y_status, y_calls, y_depth, y_fuelLimit, y_hasResult, y_resVal, (nI (v + 1)), (nI (w + 1)), (nI E), y_runBegun, y_runK, y_factJ, y_factK, (fun i => nI (pc i)), mk, (fun i => nI (rt i)), (fun i => nI (bs i)), (fun i => nI (kd i)), na, y_tVal, y_slotList, y_slotVal, y_vals, y_wNode, y_wStep, y_env, y_actBase) (nI w) (nI n) 1 := by
  have h12 := hl.1
  simp only [List.length_cons] at h12
  have hx := vl_head_le hl
  have hlen := vw_len hM hl
  simp only [List.length_cons] at hlen
  have hk6 : ¬ nI (kd n) = 6 := by rw [hk]; decide
  refine yt_k67 h hn (Or.inr hk) (br_f (by decide) (br_t rfl (wy_popVal (by omega) ?_)))
  rw [hval]
  refine br_f hk6 (br_t rfl ?_)
  show ((lN (vl_enc (x :: l)) &&& 15).toInt32 = 0 → _) ∧ _
  rw [hlen]
  refine br_f (nI_ne0 (by omega) (by omega)) (br_t rfl (wy_elem0 hM hl (wy_tailOf hM hl ?_)))
  rw [nI_l (by omega)]
  exact wy_pushEnv (by omega) (wy_pushEnv (by omega) (yt_567 h hn hw hp))
end
