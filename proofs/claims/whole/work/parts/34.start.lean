section
variable {f_sizeCap f_functionCount f_nodeCount f_code f_faultFunction f_foundParam f_foundDrop f_status f_depth f_begun f_beginLimit f_waitingFunction f_currentNode f_valueKnown : Int32} {f_bound f_calls f_fuelLimit f_currentValue : Int64} {a_paramCounts a_listMasks a_resultTypes a_bodyStarts a_nodeKinds a_nodeArgs a_parents a_childIndexes a_subtreeEnds a_scopeSizes a_levelTypes a_levelParams a_levelDrops a_expectedTypes a_slotTypes a_callNodes : Nat → Int32} {a_totals a_slotValues a_waitingArgs a_levelValues a_nodeValues : Nat → Int64}
variable {y_m y_fCount y_nCount y_code y_fault y_status y_depth y_hasResult y_vTop y_wTop y_envTop y_runBegun y_runK y_factJ y_factK : Int32} {y_bound y_calls y_fuelLimit y_resVal : Int64} {y_fParams y_fMask y_fRes y_fStart y_nKind y_nArg y_slotList y_wNode y_wStep y_actBase : Nat → Int32} {y_tVal y_slotVal y_vals y_env : Nat → Int64}
variable {M F N k : Nat} {pc rt bs kd : Nat → Nat} {mk na : Nat → Int32}
theorem wy_pushVal {post : SY → Prop} {v : Nat} {x : Int64} (hv : v < 1200) (hp : post (y_m, y_fCount, y_nCount, y_code, y_fault, y_bound, y_status, y_calls, y_depth, y_fuelLimit, y_hasResult, y_resVal, (nI (v + 1)), y_wTop, y_envTop, y_runBegun, y_runK, y_factJ, y_factK, y_fParams, y_fMask, y_fRes, y_fStart, y_nKind, y_nArg, y_tVal, y_slotList, y_slotVal, (vp_updL y_vals v x), y_wNode, y_wStep, y_env, y_actBase)) : wpY_pushVal post (y_m, y_fCount, y_nCount, y_code, y_fault, y_bound, y_status, y_calls, y_depth, y_fuelLimit, y_hasResult, y_resVal, (nI v), y_wTop, y_envTop, y_runBegun, y_runK, y_factJ, y_factK, y_fParams, y_fMask, y_fRes, y_fStart, y_nKind, y_nArg, y_tVal, y_slotList, y_slotVal, y_vals, y_wNode, y_wStep, y_env, y_actBase) x := by
  have e : (nI v).toNatClampNeg = v := nI_clamp (by omega)
  refine br_f (nI_ge (b := 1200) hv (by decide)) ⟨vp_in_nI hv (by omega), ?_⟩
  rw [e]
  exact nm_e (nm_r (nI_1 v) hp)
theorem wy_pushWork {post : SY → Prop} {w : Nat} {x : Int32} (hw : w < 1200) (hp : post (y_m, y_fCount, y_nCount, y_code, y_fault, y_bound, y_status, y_calls, y_depth, y_fuelLimit, y_hasResult, y_resVal, y_vTop, (nI (w + 1)), y_envTop, y_runBegun, y_runK, y_factJ, y_factK, y_fParams, y_fMask, y_fRes, y_fStart, y_nKind, y_nArg, y_tVal, y_slotList, y_slotVal, y_vals, (upd y_wNode w x), (upd y_wStep w 0), y_env, y_actBase)) : wpY_pushWork post (y_m, y_fCount, y_nCount, y_code, y_fault, y_bound, y_status, y_calls, y_depth, y_fuelLimit, y_hasResult, y_resVal, y_vTop, (nI w), y_envTop, y_runBegun, y_runK, y_factJ, y_factK, y_fParams, y_fMask, y_fRes, y_fStart, y_nKind, y_nArg, y_tVal, y_slotList, y_slotVal, y_vals, y_wNode, y_wStep, y_env, y_actBase) x := by
  have e : (nI w).toNatClampNeg = w := nI_clamp (by omega)
  refine br_f (nI_ge (b := 1200) hw (by decide)) ⟨vp_in_nI hw (by omega), ?_⟩
  rw [e]
  exact nm_e ⟨vp_in_nI hw (by omega), nm_e (nm_r (nI_1 w) hp)⟩
theorem wy_popVal {post : Int64 → SY → Prop} {v : Nat} (hv : v < 1200) (hp : post (y_vals v) (y_m, y_fCount, y_nCount, y_code, y_fault, y_bound, y_status, y_calls, y_depth, y_fuelLimit, y_hasResult, y_resVal, (nI v), y_wTop, y_envTop, y_runBegun, y_runK, y_factJ, y_factK, y_fParams, y_fMask, y_fRes, y_fStart, y_nKind, y_nArg, y_tVal, y_slotList, y_slotVal, y_vals, y_wNode, y_wStep, y_env, y_actBase)) : wpY_popVal post (y_m, y_fCount, y_nCount, y_code, y_fault, y_bound, y_status, y_calls, y_depth, y_fuelLimit, y_hasResult, y_resVal, (nI (v + 1)), y_wTop, y_envTop, y_runBegun, y_runK, y_factJ, y_factK, y_fParams, y_fMask, y_fRes, y_fStart, y_nKind, y_nArg, y_tVal, y_slotList, y_slotVal, y_vals, y_wNode, y_wStep, y_env, y_actBase) := by
  have e : (nI v).toNatClampNeg = v := nI_clamp (by omega)
  refine br_t (nI_lt (a := 0) (by omega) (by omega)) (nm_r (nI_pred v) ⟨vp_in_nI hv (by omega), ?_⟩)
  rw [e]
  exact hp
theorem wy_pushEnv {post : SY → Prop} {w : Nat} {x : Int64} (hw : w < 1200) (hp : post (y_m, y_fCount, y_nCount, y_code, y_fault, y_bound, y_status, y_calls, y_depth, y_fuelLimit, y_hasResult, y_resVal, y_vTop, y_wTop, (nI (w + 1)), y_runBegun, y_runK, y_factJ, y_factK, y_fParams, y_fMask, y_fRes, y_fStart, y_nKind, y_nArg, y_tVal, y_slotList, y_slotVal, y_vals, y_wNode, y_wStep, (vp_updL y_env w x), y_actBase)) : wpY_pushEnv post (y_m, y_fCount, y_nCount, y_code, y_fault, y_bound, y_status, y_calls, y_depth, y_fuelLimit, y_hasResult, y_resVal, y_vTop, y_wTop, (nI w), y_runBegun, y_runK, y_factJ, y_factK, y_fParams, y_fMask, y_fRes, y_fStart, y_nKind, y_nArg, y_tVal, y_slotList, y_slotVal, y_vals, y_wNode, y_wStep, y_env, y_actBase) x := by
  have e : (nI w).toNatClampNeg = w := nI_clamp (by omega)
  refine br_f (nI_pos (by omega)) (br_f (nI_ge (b := 1200) hw (by decide)) ⟨vp_in_nI hw (by omega), ?_⟩)
  rw [e]
  exact nm_e (nm_r (nI_1 w) hp)
def rl_fit (mk : Nat → Int32) (f n : Nat) (st : Nat → Int32) : Prop := ∀ i, i < n → st i = nI (pr_pty mk f i)
theorem wx_fit2 {post : Int32 → Prop} (h : pr_in F N pc rt bs kd mk na) {f : Nat} (hf : f < F) (h1 : rl_fit mk f (pc f) a_slotTypes → post 1) (h0 : ¬ rl_fit mk f (pc f) a_slotTypes → post 0) :
    ∀ (r i fu : Nat), i + r = pc f → r < fu → rl_fit mk f i a_slotTypes → wX_inputsFit_2 post (nI f) (nI M) (nI F) (nI N) f_code f_faultFunction f_bound f_foundParam f_foundDrop f_status f_calls f_depth f_fuelLimit f_begun f_beginLimit f_waitingFunction f_currentNode f_valueKnown f_currentValue (fun i => nI (pc i)) mk (fun i => nI (rt i)) (fun i => nI (bs i)) (fun i => nI (kd i)) na a_parents a_childIndexes a_subtreeEnds a_scopeSizes a_levelTypes a_levelParams a_levelDrops a_expectedTypes a_totals a_slotTypes a_slotValues a_waitingArgs a_callNodes a_levelValues a_nodeValues fu (nI i) := by
  have h6 := h.1
  have hp3 := h.2.2.1 f
  have e : (nI f).toNatClampNeg = f := nI_clamp (by omega)
  have hv : vp_in (nI f) 6 := vp_in_nI (by omega) (by omega)
  intro r
  induction r with
  | zero =>
    intro i fu g1 g2 g3
    obtain ⟨fu, rfl⟩ : ∃ f, fu = f + 1 := ⟨fu - 1, by omega⟩
    refine ⟨hv, ?_⟩
    rw [e]
    exact br_t (nI_le (by omega) (by omega)) (h1 (by rw [show pc f = i by omega]; exact g3))
  | succ r ih =>
    intro i fu g1 g2 g3
    obtain ⟨fu, rfl⟩ : ∃ f, fu = f + 1 := ⟨fu - 1, by omega⟩
    have ei : (nI i).toNatClampNeg = i := nI_clamp (by omega)
    refine ⟨hv, ?_⟩
    rw [e, ei]
    refine br_f (nI_ge (by omega) (by omega)) ⟨vp_in_nI (by omega) (by omega), wx_paramType h hf (br_c (fun c => nm_r (nI_1 i) (ih (i + 1) fu (by omega) (by omega) (fun j hj => ?_))) (fun c => h0 (fun y => c (y i (by omega)))))⟩
    rcases Nat.eq_or_lt_of_le (Nat.le_of_lt_succ hj) with z1 | z1
    · subst z1; exact c
    · exact g3 j z1
theorem wx_inputsFit {post : Int32 → Prop} (h : pr_in F N pc rt bs kd mk na) {f : Nat} (hf : f < F) (h1 : rl_fit mk f (pc f) a_slotTypes → post 1) (h0 : ¬ rl_fit mk f (pc f) a_slotTypes → post 0) : wpX_inputsFit post ((nI M), (nI F), (nI N), f_code, f_faultFunction, f_bound, f_foundParam, f_foundDrop, f_status, f_calls, f_depth, f_fuelLimit, f_begun, f_beginLimit, f_waitingFunction, f_currentNode, f_valueKnown, f_currentValue, (fun i => nI (pc i)), mk, (fun i => nI (rt i)), (fun i => nI (bs i)), (fun i => nI (kd i)), na, a_parents, a_childIndexes, a_subtreeEnds, a_scopeSizes, a_levelTypes, a_levelParams, a_levelDrops, a_expectedTypes, a_totals, a_slotTypes, a_slotValues, a_waitingArgs, a_callNodes, a_levelValues, a_nodeValues) (nI f) := by
  have hp3 := h.2.2.1 f
  exact ⟨4, wx_fit2 h hf h1 h0 (pc f) 0 4 (by omega) (by omega) (fun j hj => by omega)⟩
theorem wx_st69 {post : Int32 → SX → Prop} (h : pr_in F N pc rt bs kd mk na) {f : Nat} (hf : f < F) (hp : ∀ wa, (∀ i, i < pc f → wa i = a_slotValues i) → post 1 ((nI M), (nI F), (nI N), f_code, f_faultFunction, f_bound, f_foundParam, f_foundDrop, 1, f_calls, f_depth, f_fuelLimit, f_begun, f_beginLimit, (nI f), (-1), f_valueKnown, f_currentValue, (fun i => nI (pc i)), mk, (fun i => nI (rt i)), (fun i => nI (bs i)), (fun i => nI (kd i)), na, a_parents, a_childIndexes, a_subtreeEnds, a_scopeSizes, a_levelTypes, a_levelParams, a_levelDrops, a_expectedTypes, a_totals, a_slotTypes, a_slotValues, wa, a_callNodes, a_levelValues, a_nodeValues)) :
    ∀ (r i fu : Nat) (wa : Nat → Int64), i + r = pc f → r < fu → (∀ j, j < i → wa j = a_slotValues j) → wX_start_69 post (nI f) (nI M) (nI F) (nI N) f_code f_faultFunction f_bound f_foundParam f_foundDrop f_status f_calls f_depth f_fuelLimit f_begun f_beginLimit f_waitingFunction f_currentNode f_valueKnown f_currentValue fu (nI i) (fun i => nI (pc i)) mk (fun i => nI (rt i)) (fun i => nI (bs i)) (fun i => nI (kd i)) na a_parents a_childIndexes a_subtreeEnds a_scopeSizes a_levelTypes a_levelParams a_levelDrops a_expectedTypes a_totals a_slotTypes a_slotValues wa a_callNodes a_levelValues a_nodeValues := by
  have h6 := h.1
  have hp3 := h.2.2.1 f
  have e : (nI f).toNatClampNeg = f := nI_clamp (by omega)
  have hv : vp_in (nI f) 6 := vp_in_nI (by omega) (by omega)
  intro r
  induction r with
  | zero =>
    intro i fu wa g1 g2 g3
    obtain ⟨fu, rfl⟩ : ∃ f, fu = f + 1 := ⟨fu - 1, by omega⟩
    refine ⟨hv, ?_⟩
    rw [e]
    exact br_t (nI_le (by omega) (by omega)) (hp wa (fun j hj => g3 j (by omega)))
  | succ r ih =>
    intro i fu wa g1 g2 g3
    obtain ⟨fu, rfl⟩ : ∃ f, fu = f + 1 := ⟨fu - 1, by omega⟩
    have ei : (nI i).toNatClampNeg = i := nI_clamp (by omega)
    have hvi : vp_in (nI i) 3 := vp_in_nI (by omega) (by omega)
    refine ⟨hv, ?_⟩
    rw [e, ei]
    refine br_f (nI_ge (by omega) (by omega)) ⟨hvi, hvi, nm_e (nm_r (nI_1 i) (ih (i + 1) fu _ (by omega) (by omega) (fun j hj => ?_)))⟩
    rcases Nat.eq_or_lt_of_le (Nat.le_of_lt_succ hj) with z1 | z1
    · subst z1; exact pk_uLs
    · rw [pk_uLn (by omega)]; exact g3 j z1
theorem wy_st28 {post : Int32 → SY → Prop} (h : pr_in F N pc rt bs kd mk na) {f : Nat} {x1 : Int32} (hf : f < F) (h1 : rl_fit mk f (pc f) y_slotList → wY_start_79 post x1 (nI f) (nI M) (nI F) (nI N) y_code y_fault y_bound y_status y_calls y_depth y_fuelLimit y_hasResult y_resVal y_vTop y_wTop y_envTop y_runBegun y_runK y_factJ y_factK (fun i => nI (pc i)) mk (fun i => nI (rt i)) (fun i => nI (bs i)) (fun i => nI (kd i)) na y_tVal y_slotList y_slotVal y_vals y_wNode y_wStep y_env y_actBase) (h0 : ¬ rl_fit mk f (pc f) y_slotList → post 0 ((nI M), (nI F), (nI N), y_code, y_fault, y_bound, y_status, y_calls, y_depth, y_fuelLimit, y_hasResult, y_resVal, y_vTop, y_wTop, y_envTop, y_runBegun, y_runK, y_factJ, y_factK, (fun i => nI (pc i)), mk, (fun i => nI (rt i)), (fun i => nI (bs i)), (fun i => nI (kd i)), na, y_tVal, y_slotList, y_slotVal, y_vals, y_wNode, y_wStep, y_env, y_actBase)) :
    ∀ (r i fu : Nat), i + r = pc f → r < fu → rl_fit mk f i y_slotList → wY_start_28 post x1 (nI f) (nI M) (nI F) (nI N) y_code y_fault y_bound y_status y_calls y_depth y_fuelLimit y_hasResult y_resVal y_vTop y_wTop y_envTop y_runBegun y_runK y_factJ y_factK (fun i => nI (pc i)) mk (fun i => nI (rt i)) (fun i => nI (bs i)) (fun i => nI (kd i)) na y_tVal y_slotList y_slotVal y_vals y_wNode y_wStep y_env y_actBase fu (nI i) := by
  have h6 := h.1
  have hp3 := h.2.2.1 f
  have e : (nI f).toNatClampNeg = f := nI_clamp (by omega)
  have hv : vp_in (nI f) 6 := vp_in_nI (by omega) (by omega)
  intro r
  induction r with
  | zero =>
    intro i fu g1 g2 g3
    obtain ⟨fu, rfl⟩ : ∃ f, fu = f + 1 := ⟨fu - 1, by omega⟩
    refine ⟨hv, ?_⟩
    rw [e]
    exact br_t (nI_le (by omega) (by omega)) (h1 (by rw [show pc f = i by omega]; exact g3))
  | succ r ih =>
    intro i fu g1 g2 g3
    obtain ⟨fu, rfl⟩ : ∃ f, fu = f + 1 := ⟨fu - 1, by omega⟩
    have ei : (nI i).toNatClampNeg = i := nI_clamp (by omega)
    have hvi : vp_in (nI i) 3 := vp_in_nI (by omega) (by omega)
    have h2 := pr_pty2 (mk := mk) f i
    have s58 : wY_start_58 post (wY_start_28 post x1 (nI f) (nI M) (nI F) (nI N) y_code y_fault y_bound y_status y_calls y_depth y_fuelLimit y_hasResult y_resVal y_vTop y_wTop y_envTop y_runBegun y_runK y_factJ y_factK (fun i => nI (pc i)) mk (fun i => nI (rt i)) (fun i => nI (bs i)) (fun i => nI (kd i)) na y_tVal y_slotList y_slotVal y_vals y_wNode y_wStep y_env y_actBase fu) x1 (nI f) (nI i) (nI (pr_pty mk f i)) (nI M) (nI F) (nI N) y_code y_fault y_bound y_status y_calls y_depth y_fuelLimit y_hasResult y_resVal y_vTop y_wTop y_envTop y_runBegun y_runK y_factJ y_factK (fun i => nI (pc i)) mk (fun i => nI (rt i)) (fun i => nI (bs i)) (fun i => nI (kd i)) na y_tVal y_slotList y_slotVal y_vals y_wNode y_wStep y_env y_actBase := by
      unfold wY_start_58
      rw [ei]
      refine ⟨hvi, br_c (fun c => nm_r (nI_1 i) (ih (i + 1) fu (by omega) (by omega) (fun j hj => ?_))) (fun c => h0 (fun y => c (y i (by omega)).symm))⟩
      rcases Nat.eq_or_lt_of_le (Nat.le_of_lt_succ hj) with z1 | z1
      · subst z1; exact c.symm
      · exact g3 j z1
    refine ⟨hv, ?_⟩
    rw [e]
    refine br_f (nI_ge (by omega) (by omega)) (br_f (nI_ge (b := 3) (by omega) (by decide)) (wy_paramType h hf (by omega) (pk_eq (pr_pty mk f i) 1 (fun c => ?_) (fun c => ?_))))
    · rw [c] at s58; exact s58
    · rw [show pr_pty mk f i = 0 by omega] at s58; exact s58
theorem wy_st131 {post : Int32 → SY → Prop} (h : pr_in F N pc rt bs kd mk na) {f : Nat} (hf : f < F)
    (hp : ∀ vals, (∀ i, i < pc f → vals i = y_slotVal i) → post 1 ((nI M), (nI F), (nI N), y_code, y_fault, y_bound, y_status, y_calls, y_depth, y_fuelLimit, y_hasResult, y_resVal, (nI (pc f)), 1, y_envTop, y_runBegun, y_runK, y_factJ, y_factK, (fun i => nI (pc i)), mk, (fun i => nI (rt i)), (fun i => nI (bs i)), (fun i => nI (kd i)), na, y_tVal, y_slotList, y_slotVal, vals, (upd y_wNode 0 (-1)), (upd y_wStep 0 0), y_env, y_actBase)) :
    ∀ (r i fu : Nat) (vals : Nat → Int64), i + r = pc f → r < fu → (∀ j, j < i → vals j = y_slotVal j) → wY_start_131 post (nI f) fu (nI i) (nI M) (nI F) (nI N) y_code y_fault y_bound y_status y_calls y_depth y_fuelLimit y_hasResult y_resVal (nI i) 0 y_envTop y_runBegun y_runK y_factJ y_factK (fun i => nI (pc i)) mk (fun i => nI (rt i)) (fun i => nI (bs i)) (fun i => nI (kd i)) na y_tVal y_slotList y_slotVal vals y_wNode y_wStep y_env y_actBase := by
  have h6 := h.1
  have hp3 := h.2.2.1 f
  have e : (nI f).toNatClampNeg = f := nI_clamp (by omega)
  have hv : vp_in (nI f) 6 := vp_in_nI (by omega) (by omega)
  intro r
  induction r with
  | zero =>
    intro i fu vals g1 g2 g3
    obtain ⟨fu, rfl⟩ : ∃ f, fu = f + 1 := ⟨fu - 1, by omega⟩
    refine ⟨hv, ?_⟩
    rw [e]
    have ei : i = pc f := by omega
    subst ei
    refine br_t (nI_le (Nat.le_refl _) (by omega)) ?_
    unfold wY_start_162
    exact wy_pushWork (w := 0) (by omega) (hp vals g3)
  | succ r ih =>
    intro i fu vals g1 g2 g3
    obtain ⟨fu, rfl⟩ : ∃ f, fu = f + 1 := ⟨fu - 1, by omega⟩
    have ei : (nI i).toNatClampNeg = i := nI_clamp (by omega)
    have hvi : vp_in (nI i) 3 := vp_in_nI (by omega) (by omega)
    refine ⟨hv, ?_⟩
    rw [e, ei]
    refine br_f (nI_ge (by omega) (by omega)) (br_f (nI_ge (b := 3) (by omega) (by decide)) ⟨hvi, wy_pushVal (by omega) (nm_r (nI_1 i) (ih (i + 1) fu _ (by omega) (by omega) (fun j hj => ?_)))⟩)
    rcases Nat.eq_or_lt_of_le (Nat.le_of_lt_succ hj) with z1 | z1
    · subst z1; exact pk_uLs
    · rw [pk_uLn (by omega)]; exact g3 j z1
theorem wy_st117 {post : Int32 → SY → Prop} (h : pr_in F N pc rt bs kd mk na) {f : Nat} {fl : Int64} (hf : f < F)
    (hp : ∀ vals, (∀ i, i < pc f → vals i = y_slotVal i) → post 1 ((nI M), (nI F), (nI N), y_code, y_fault, y_bound, 1, 0, 0, fl, 0, y_resVal, (nI (pc f)), 1, 0, y_runBegun, y_runK, y_factJ, y_factK, (fun i => nI (pc i)), mk, (fun i => nI (rt i)), (fun i => nI (bs i)), (fun i => nI (kd i)), na, y_tVal, y_slotList, y_slotVal, vals, (upd y_wNode 0 (-1)), (upd y_wStep 0 0), y_env, y_actBase)) : wY_start_117 post (nI f) fl (nI M) (nI F) (nI N) y_code y_fault y_bound y_status y_calls y_depth y_fuelLimit y_hasResult y_resVal y_vTop y_wTop y_envTop y_runBegun y_runK y_factJ y_factK (fun i => nI (pc i)) mk (fun i => nI (rt i)) (fun i => nI (bs i)) (fun i => nI (kd i)) na y_tVal y_slotList y_slotVal y_vals y_wNode y_wStep y_env y_actBase := by
  have hp3 := h.2.2.1 f
  refine ⟨4, ?_⟩
  exact wy_st131 (y_status := 1) (y_calls := 0) (y_depth := 0) (y_hasResult := 0) (y_envTop := 0) (y_fuelLimit := fl) h hf hp (pc f) 0 4 _ (by omega) (by omega) (fun j hj => by omega)
theorem rl_ready (hF : 0 < F) (hP : pr_in F N pc rt bs kd mk na) (hM : M ≤ 12) (hS : rl_sl M a_slotTypes a_slotValues) (hfit : rl_fit mk (F - 1) (pc (F - 1)) a_slotTypes) {wa : Nat → Int64} (hc : f_code = 1 ∨ f_code = 6)
    (hl : rl_laid F N pc rt bs kd mk na a_parents a_childIndexes a_subtreeEnds a_scopeSizes) (h1 : ∀ i, i < pc (F - 1) → wa i = a_slotValues i) (h2 : ∀ i, i < pc (F - 1) → y_vals i = a_slotValues i) :
    rl_mode M F N pc rt bs kd mk na f_code 1 0 f_fuelLimit (-1) (nI (F - 1)) f_currentValue a_parents a_childIndexes a_subtreeEnds a_scopeSizes wa a_callNodes a_levelValues a_nodeValues f_fuelLimit 0 y_resVal (nI (pc (F - 1))) 1 0 y_vals (upd y_wNode 0 (-1)) (upd y_wStep 0 0) y_env y_actBase := by
  refine ⟨fun _ => hc, fun _ => hl, fun _ => ⟨rfl, 0, 1, pc (F - 1), 0, by omega, rfl, rfl, rfl, rfl, Or.inl ⟨rfl, rfl, rfl, pk_us, pk_us, rfl, rfl, rfl, fun i hi => ⟨(h2 i hi).trans (h1 i hi).symm, ?_⟩⟩⟩, fun y => absurd y (by decide)⟩
  have hp3 := hP.2.2.1 (F - 1)
  obtain ⟨ty, t1, t2, t3⟩ := hS i (by omega)
  have e := hfit i hi
  rw [t2] at e
  have h2 := pr_pty2 (mk := mk) (F - 1) i
  have : ty = pr_pty mk (F - 1) i := (nI_eq (by omega) (by omega)).mp e
  rw [← this, h1 i hi]
  exact t3
end
