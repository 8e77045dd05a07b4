section
variable {f_sizeCap f_functionCount f_nodeCount f_code f_faultFunction f_foundParam f_foundDrop f_status f_depth f_begun f_beginLimit f_waitingFunction f_currentNode f_valueKnown : Int32} {f_bound f_calls f_fuelLimit f_currentValue : Int64} {a_paramCounts a_listMasks a_resultTypes a_bodyStarts a_nodeKinds a_nodeArgs a_parents a_childIndexes a_subtreeEnds a_scopeSizes a_levelTypes a_levelParams a_levelDrops a_expectedTypes a_slotTypes a_callNodes : Nat → Int32} {a_totals a_slotValues a_waitingArgs a_levelValues a_nodeValues : Nat → Int64}
variable {M F N k : Nat} {pc rt bs kd : Nat → Nat} {mk na : Nat → Int32}
theorem wx_cons {post : Int64 → Prop} {x : Nat} {l : List Nat} (hM : M ≤ 12) (h : vl_ok M l) (hx : x ≤ M) (hp : post (lN (vl_enc (x :: l)))) : wpX_cons post () (lN x) (lN (vl_enc l)) := by
  refine nm_e ?_
  show post _
  rw [vw_len hM h, nI_1, vw_consX hM h hx]
  exact hp
theorem rl_slu (hS : rl_sl M a_slotTypes a_slotValues) {s ty : Nat} {v : Int64} (h1 : ty ≤ 1) (h2 : vl_V M ty v) : rl_sl M (upd a_slotTypes s (nI ty)) (vp_updL a_slotValues s v) := by
  intro i hi
  by_cases e : i = s
  · subst e; exact ⟨ty, h1, pk_us, by rw [pk_uLs]; exact h2⟩
  · rw [pk_un e, pk_uLn e]; exact hS i hi
theorem rl_slv (hS : rl_sl M a_slotTypes a_slotValues) {s : Nat} {v : Int64} (h1 : a_slotTypes s = 1) (h2 : vl_V M 1 v) : rl_sl M a_slotTypes (vp_updL a_slotValues s v) := by
  intro i hi
  by_cases e : i = s
  · subst e; exact ⟨1, by omega, h1, by rw [pk_uLs]; exact h2⟩
  · rw [pk_uLn e]; exact hS i hi
theorem rl_nat {x : Int32} {b : Nat} (hb : b < 2 ^ 31) (h1 : ¬ x < 0) (h2 : x ≤ nI b) : ∃ j, j ≤ b ∧ x = nI j := by
  obtain ⟨j, hj, rfl⟩ := nI_of h1
  exact ⟨j, (nI_leI hj hb).mp h2, rfl⟩
theorem rl_Fm {F : Nat} (hF : 0 < F) : nI F - 1 = nI (F - 1) := pk_sub (b := 1) hF
def rl_fit (mk : Nat → Int32) (f n : Nat) (st : Nat → Int32) : Prop := ∀ i, i < n → st i = nI (pr_pty mk f i)
theorem wx_fit2 {post : Int32 → Prop} (h : pr_in F N pc rt bs kd mk na) {f : Nat} (hf : f < F) (h1 : rl_fit mk f (pc f) a_slotTypes → post 1) (h0 : ¬ rl_fit mk f (pc f) a_slotTypes → post 0) :
    ∀ (r i fu : Nat), i + r = pc f → r < fu → rl_fit mk f i a_slotTypes → wX_inputsFit_2 post (nI f) (nI M) (nI F) (nI N) f_code f_faultFunction f_bound f_foundParam f_foundDrop f_status f_calls f_depth f_fuelLimit f_begun f_beginLimit f_waitingFunction f_currentNode f_valueKnown f_currentValue (fun i => nI (pc i)) mk (fun i => nI (rt i)) (fun i => nI (bs i)) (fun i => nI (kd i)) na a_parents a_childIndexes a_subtreeEnds a_scopeSizes a_levelTypes a_levelParams a_levelDrops a_expectedTypes a_totals a_slotTypes a_slotValues a_waitingArgs a_callNodes a_levelValues a_nodeValues fu (nI i) := by
  have h6 := h.1
  have hp3 := h.2.2.1 f
  have e : (nI f).toNatClampNeg = f := nI_clamp (by omega)
  have hv : vp_in (nI f) 6 := vp_in_nI (by omega) (by omega)
  intro r
  induction r with
  | zero =>
    intro i fu g1 g2 g3
    obtain ⟨fu, rfl⟩ : ∃ f, fu = f + 1 := ⟨fu - 1, by omega⟩
    refine ⟨hv, ?_⟩
    rw [e]
    exact br_t (nI_le (by omega) (by omega)) (h1 (by rw [show pc f = i by omega]; exact g3))
  | succ r ih =>
    intro i fu g1 g2 g3
    obtain ⟨fu, rfl⟩ : ∃ f, fu = f + 1 := ⟨fu - 1, by omega⟩
    have ei : (nI i).toNatClampNeg = i := nI_clamp (by omega)
    refine ⟨hv, ?_⟩
    rw [e, ei]
    refine br_f (nI_ge (by omega) (by omega)) ⟨vp_in_nI (by omega) (by omega), wx_paramType h hf (br_c (fun c => nm_r (nI_1 i) (ih (i + 1) fu (by omega) (by omega) (fun j hj => ?_))) (fun c => h0 (fun y => c (y i (by omega)))))⟩
    rcases Nat.eq_or_lt_of_le (Nat.le_of_lt_succ hj) with z1 | z1
    · subst z1; exact c
    · exact g3 j z1
theorem wx_inputsFit {post : Int32 → Prop} (h : pr_in F N pc rt bs kd mk na) {f : Nat} (hf : f < F) (h1 : rl_fit mk f (pc f) a_slotTypes → post 1) (h0 : ¬ rl_fit mk f (pc f) a_slotTypes → post 0) : wpX_inputsFit post ((nI M), (nI F), (nI N), f_code, f_faultFunction, f_bound, f_foundParam, f_foundDrop, f_status, f_calls, f_depth, f_fuelLimit, f_begun, f_beginLimit, f_waitingFunction, f_currentNode, f_valueKnown, f_currentValue, (fun i => nI (pc i)), mk, (fun i => nI (rt i)), (fun i => nI (bs i)), (fun i => nI (kd i)), na, a_parents, a_childIndexes, a_subtreeEnds, a_scopeSizes, a_levelTypes, a_levelParams, a_levelDrops, a_expectedTypes, a_totals, a_slotTypes, a_slotValues, a_waitingArgs, a_callNodes, a_levelValues, a_nodeValues) (nI f) := by
  have hp3 := h.2.2.1 f
  exact ⟨4, wx_fit2 h hf h1 h0 (pc f) 0 4 (by omega) (by omega) (fun j hj => by omega)⟩
theorem wx_st69 {post : Int32 → St2 → Prop} (h : pr_in F N pc rt bs kd mk na) {f : Nat} (hf : f < F) (hp : ∀ wa, (∀ i, i < pc f → wa i = a_slotValues i) → post 1 ((nI M), (nI F), (nI N), f_code, f_faultFunction, f_bound, f_foundParam, f_foundDrop, 1, f_calls, f_depth, f_fuelLimit, f_begun, f_beginLimit, (nI f), (-1), f_valueKnown, f_currentValue, (fun i => nI (pc i)), mk, (fun i => nI (rt i)), (fun i => nI (bs i)), (fun i => nI (kd i)), na, a_parents, a_childIndexes, a_subtreeEnds, a_scopeSizes, a_levelTypes, a_levelParams, a_levelDrops, a_expectedTypes, a_totals, a_slotTypes, a_slotValues, wa, a_callNodes, a_levelValues, a_nodeValues)) :
    ∀ (r i fu : Nat) (wa : Nat → Int64), i + r = pc f → r < fu → (∀ j, j < i → wa j = a_slotValues j) → wX_start_69 post (nI f) (nI M) (nI F) (nI N) f_code f_faultFunction f_bound f_foundParam f_foundDrop f_status f_calls f_depth f_fuelLimit f_begun f_beginLimit f_waitingFunction f_currentNode f_valueKnown f_currentValue fu (nI i) (fun i => nI (pc i)) mk (fun i => nI (rt i)) (fun i => nI (bs i)) (fun i => nI (kd i)) na a_parents a_childIndexes a_subtreeEnds a_scopeSizes a_levelTypes a_levelParams a_levelDrops a_expectedTypes a_totals a_slotTypes a_slotValues wa a_callNodes a_levelValues a_nodeValues := by
  have h6 := h.1
  have hp3 := h.2.2.1 f
  have e : (nI f).toNatClampNeg = f := nI_clamp (by omega)
  have hv : vp_in (nI f) 6 := vp_in_nI (by omega) (by omega)
  intro r
  induction r with
  | zero =>
    intro i fu wa g1 g2 g3
    obtain ⟨fu, rfl⟩ : ∃ f, fu = f + 1 := ⟨fu - 1, by omega⟩
    refine ⟨hv, ?_⟩
    rw [e]
    exact br_t (nI_le (by omega) (by omega)) (hp wa (fun j hj => g3 j (by omega)))
  | succ r ih =>
    intro i fu wa g1 g2 g3
    obtain ⟨fu, rfl⟩ : ∃ f, fu = f + 1 := ⟨fu - 1, by omega⟩
    have ei : (nI i).toNatClampNeg = i := nI_clamp (by omega)
    have hvi : vp_in (nI i) 3 := vp_in_nI (by omega) (by omega)
    refine ⟨hv, ?_⟩
    rw [e, ei]
    refine br_f (nI_ge (by omega) (by omega)) ⟨hvi, hvi, nm_e (nm_r (nI_1 i) (ih (i + 1) fu _ (by omega) (by omega) (fun j hj => ?_)))⟩
    rcases Nat.eq_or_lt_of_le (Nat.le_of_lt_succ hj) with z1 | z1
    · subst z1; exact pk_uLs
    · rw [pk_uLn (by omega)]; exact g3 j z1
end
