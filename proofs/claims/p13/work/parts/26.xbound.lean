section
def bd_C : Nat := 1000000000000
def bd_D : Nat := 1000000000001
theorem bp_sum {post : Int64 → Prop} {C a b : Nat} (hC : C < 2 ^ 62) (ha : a ≤ C) (hb : b ≤ C) (hp : post (lN (bd_c C (a + b)))) : (lN a ≤ lN C - lN b → post (lN a + lN b)) ∧ (¬ lN a ≤ lN C - lN b → post (lN C)) := by
  rw [lN_sub hb, pk_lLE (by omega) (by omega), lN_add]
  unfold bd_c at hp
  constructor
  · intro h; rw [if_pos (by omega)] at hp; exact hp
  · intro h; rw [if_neg (by omega)] at hp; exact hp
theorem bp_ne {b : Nat} (hb : b < 2 ^ 62) (h0 : b ≠ 0) : ¬ lN b = 0 := fun y => h0 ((pk_lEQ (b := 0) (by omega) (by omega)).mp y)
theorem bp_mul {post : Int64 → Prop} {C a b : Nat} (hC : C < 2 ^ 62) (ha : a ≤ C) (hb : b ≤ C) (h0 : 0 < b) (hp : post (lN (bd_c C (a * b)))) : (lN a ≤ lN C / lN b → post (lN a * lN b)) ∧ (¬ lN a ≤ lN C / lN b → post (lN C)) := by
  have h1 : C / b ≤ C := Nat.div_le_self _ _
  rw [pk_lDiv (by omega) h0 (by omega), pk_lLE (by omega) (by omega), lN_mul]
  have hd := bd_div (C := C) (a := a) h0
  unfold bd_c at hp
  constructor
  · intro h; rw [if_pos (by omega)] at hp; exact hp
  · intro h; rw [if_neg (by omega)] at hp; exact hp
theorem bd_C62 : bd_C < 2 ^ 62 := by decide
theorem bd_D62 : bd_D < 2 ^ 62 := by decide
theorem wx_cappedSum {post : Int64 → Prop} {a b : Nat} (ha : a ≤ bd_C) (hb : b ≤ bd_C) (hp : post (lN (bd_c bd_C (a + b)))) : wpX_cappedSum post () (lN a) (lN b) := bp_sum bd_C62 ha hb hp
theorem wx_cappedProduct {post : Int64 → Prop} {a b : Nat} (ha : a ≤ bd_C) (hb : b ≤ bd_C) (hp : post (lN (bd_c bd_C (a * b)))) : wpX_cappedProduct post () (lN a) (lN b) := by
  have hC := bd_C62
  by_cases h0 : b = 0
  · subst h0
    refine br_t rfl ?_
    rw [Nat.mul_zero, bd_c_of (Nat.zero_le _)] at hp
    exact hp
  · have hn := bp_ne (by omega) h0
    exact br_f hn ⟨hn, bp_mul hC ha hb (by omega) hp⟩
/-- how many of t nodes from n on are calls of g -/
def cd_ct (kd : Nat → Nat) (na : Nat → Int32) (g : Nat) : Nat → Nat → Nat
  | 0, _ => 0
  | t + 1, n => (if kd n = 5 ∧ na n = nI g then 1 else 0) + cd_ct kd na g t (n + 1)
theorem cd_ct_le (kd : Nat → Nat) (na : Nat → Int32) (g : Nat) : ∀ t n, cd_ct kd na g t n ≤ t
  | 0, _ => Nat.le_refl 0
  | t + 1, n => by
    have := cd_ct_le kd na g t (n + 1)
    rw [cd_ct]; split <;> omega
def pr_ct (F N : Nat) (bs kd : Nat → Nat) (na : Nat → Int32) (f g : Nat) : Nat := cd_ct kd na g (pg_be F N bs f - bs f) (bs f)
def pr_L (M : Nat) (pc : Nat → Nat) (f : Nat) : Nat := (M + 1) ^ pc f
def pr_T (M F N : Nat) (pc bs kd : Nat → Nat) (na : Nat → Int32) (f : Nat) : Nat := bd_T (pr_ct F N bs kd na) (pr_L M pc) f
variable {f_sizeCap f_functionCount f_nodeCount f_code f_faultFunction f_foundParam f_foundDrop f_status f_depth f_begun f_beginLimit f_waitingFunction f_currentNode f_valueKnown : Int32} {f_bound f_calls f_fuelLimit f_currentValue : Int64} {a_paramCounts a_listMasks a_resultTypes a_bodyStarts a_nodeKinds a_nodeArgs a_parents a_childIndexes a_subtreeEnds a_scopeSizes a_levelTypes a_levelParams a_levelDrops a_expectedTypes a_slotTypes a_callNodes : Nat → Int32} {a_totals a_slotValues a_waitingArgs a_levelValues a_nodeValues : Nat → Int64}
variable {M F N k : Nat} {pc rt bs kd : Nat → Nat} {mk na : Nat → Int32}
theorem pr_ct64 (h : pr_in F N pc rt bs kd mk na) {f : Nat} (hf : f < F) (g : Nat) : pr_ct F N bs kd na f g ≤ 64 := by
  have h64 := h.2.1
  have hb := pr_be_le h hf
  have := cd_ct_le kd na g (pg_be F N bs f - bs f) (bs f)
  unfold pr_ct
  omega
theorem wx_ct17 {post : Int32 → Prop} (h : pr_in F N pc rt bs kd mk na) {e g : Nat} (he : e ≤ N) : ∀ (r n c fu : Nat), n + r = e → r < fu → c + r ≤ 64 → post (nI (c + cd_ct kd na g r n)) → wX_countCalls_17 post (nI g) (nI e) (nI M) (nI F) (nI N) f_code f_faultFunction f_bound f_foundParam f_foundDrop f_status f_calls f_depth f_fuelLimit f_begun f_beginLimit f_waitingFunction f_currentNode f_valueKnown f_currentValue (fun i => nI (pc i)) mk (fun i => nI (rt i)) (fun i => nI (bs i)) (fun i => nI (kd i)) na a_parents a_childIndexes a_subtreeEnds a_scopeSizes a_levelTypes a_levelParams a_levelDrops a_expectedTypes a_totals a_slotTypes a_slotValues a_waitingArgs a_callNodes a_levelValues a_nodeValues fu (nI c) (nI n) := by
  have h64 := h.2.1
  intro r
  induction r with
  | zero =>
    intro n c fu h1 h2 h3 hp
    obtain ⟨fu, rfl⟩ : ∃ f, fu = f + 1 := ⟨fu - 1, by omega⟩
    exact br_t (nI_le (by omega) (by omega)) hp
  | succ r ih =>
    intro n c fu h1 h2 h3 hp
    obtain ⟨fu, rfl⟩ : ∃ f, fu = f + 1 := ⟨fu - 1, by omega⟩
    have hk := h.2.2.2.2.2.1 n
    have e1 : (nI n).toNatClampNeg = n := nI_clamp (by omega)
    have hv : vp_in (nI n) 64 := vp_in_nI (by omega) (by omega)
    rw [cd_ct] at hp
    refine br_f (nI_ge (by omega) (by omega)) ⟨hv, ?_⟩
    show ((fun i => nI (kd i)) (nI n).toNatClampNeg = 5 → _) ∧ _
    rw [e1]
    refine pk_eq (kd n) 5 (fun k => ⟨hv, br_c (fun y => ?_) (fun y => ?_)⟩) (fun k => ?_)
    · rw [if_pos ⟨k, y⟩, ← Nat.add_assoc] at hp
      exact nm_r (nI_1 c) (nm_r (nI_1 n) (ih (n + 1) (c + 1) fu (by omega) (by omega) (by omega) hp))
    · rw [if_neg (fun w => y w.2), Nat.zero_add] at hp
      exact nm_r (nI_1 n) (ih (n + 1) c fu (by omega) (by omega) (by omega) hp)
    · rw [if_neg (fun w => k w.1), Nat.zero_add] at hp
      exact nm_r (nI_1 n) (ih (n + 1) c fu (by omega) (by omega) (by omega) hp)
theorem wx_countCalls {post : Int32 → Prop} (h : pr_in F N pc rt bs kd mk na) {f g : Nat} (hf : f < F) (hp : post (nI (pr_ct F N bs kd na f g))) : wpX_countCalls post ((nI M), (nI F), (nI N), f_code, f_faultFunction, f_bound, f_foundParam, f_foundDrop, f_status, f_calls, f_depth, f_fuelLimit, f_begun, f_beginLimit, f_waitingFunction, f_currentNode, f_valueKnown, f_currentValue, (fun i => nI (pc i)), mk, (fun i => nI (rt i)), (fun i => nI (bs i)), (fun i => nI (kd i)), na, a_parents, a_childIndexes, a_subtreeEnds, a_scopeSizes, a_levelTypes, a_levelParams, a_levelDrops, a_expectedTypes, a_totals, a_slotTypes, a_slotValues, a_waitingArgs, a_callNodes, a_levelValues, a_nodeValues) (nI f) (nI g) := by
  have h6 := h.1
  have h64 := h.2.1
  have hb := pr_be_le h hf
  have e : (nI f).toNatClampNeg = f := nI_clamp (by omega)
  unfold wpX_countCalls
  refine wx_bodyEnd h hf ⟨vp_in_nI (by omega) (by omega), nm_r (e' := nI (bs f)) (by rw [e]) ⟨65, ?_⟩⟩
  refine wx_ct17 h hb.2 (pg_be F N bs f - bs f) (bs f) 0 65 (by omega) (by omega) (by omega) ?_
  rw [Nat.zero_add]
  exact hp
theorem pr_Lb (hM : M ≤ 12) : ∀ i, i ≤ 3 → (M + 1) ^ i ≤ 2197 := by
  intro i hi
  have h1 : (M + 1) ^ i ≤ 13 ^ i := Nat.pow_le_pow_left (by omega) i
  have h2 : 13 ^ i ≤ 13 ^ 3 := Nat.pow_le_pow_right (by omega) hi
  have h3 : (13 : Nat) ^ 3 = 2197 := by decide
  omega
theorem wx_st4 {post : Int32 → Prop} (h : pr_in F N pc rt bs kd mk na) (hM : M ≤ 12) {f : Nat} (hf : f < F) (hp : post (nI ((M + 1) ^ pc f))) : ∀ (r i fu : Nat), i + r = pc f → r < fu → wX_statesOf_4 post (nI f) (nI M) (nI F) (nI N) f_code f_faultFunction f_bound f_foundParam f_foundDrop f_status f_calls f_depth f_fuelLimit f_begun f_beginLimit f_waitingFunction f_currentNode f_valueKnown f_currentValue (fun i => nI (pc i)) mk (fun i => nI (rt i)) (fun i => nI (bs i)) (fun i => nI (kd i)) na a_parents a_childIndexes a_subtreeEnds a_scopeSizes a_levelTypes a_levelParams a_levelDrops a_expectedTypes a_totals a_slotTypes a_slotValues a_waitingArgs a_callNodes a_levelValues a_nodeValues fu (nI ((M + 1) ^ i)) (nI i) := by
  have h6 := h.1
  have hp3 := h.2.2.1 f
  have e : (nI f).toNatClampNeg = f := nI_clamp (by omega)
  have hv : vp_in (nI f) 6 := vp_in_nI (by omega) (by omega)
  intro r
  induction r with
  | zero =>
    intro i fu h1 h2
    obtain ⟨fu, rfl⟩ : ∃ f, fu = f + 1 := ⟨fu - 1, by omega⟩
    have ei : i = pc f := by omega
    subst ei
    refine ⟨hv, ?_⟩
    show ((fun i => nI (pc i)) (nI f).toNatClampNeg ≤ _ → _) ∧ _
    rw [e]
    exact br_t (nI_le (Nat.le_refl _) (by omega)) hp
  | succ r ih =>
    intro i fu h1 h2
    obtain ⟨fu, rfl⟩ : ∃ f, fu = f + 1 := ⟨fu - 1, by omega⟩
    refine ⟨hv, ?_⟩
    show ((fun i => nI (pc i)) (nI f).toNatClampNeg ≤ _ → _) ∧ _
    rw [e]
    refine br_f (nI_ge (by omega) (by omega)) (nm_r (e' := nI ((M + 1) ^ (i + 1))) (by rw [nI_1, pk_mul, Nat.pow_succ]) (nm_r (nI_1 i) (ih (i + 1) fu (by omega) (by omega))))
theorem wx_statesOf {post : Int32 → Prop} (h : pr_in F N pc rt bs kd mk na) (hM : M ≤ 12) {f : Nat} (hf : f < F) (hp : post (nI (pr_L M pc f))) : wpX_statesOf post ((nI M), (nI F), (nI N), f_code, f_faultFunction, f_bound, f_foundParam, f_foundDrop, f_status, f_calls, f_depth, f_fuelLimit, f_begun, f_beginLimit, f_waitingFunction, f_currentNode, f_valueKnown, f_currentValue, (fun i => nI (pc i)), mk, (fun i => nI (rt i)), (fun i => nI (bs i)), (fun i => nI (kd i)), na, a_parents, a_childIndexes, a_subtreeEnds, a_scopeSizes, a_levelTypes, a_levelParams, a_levelDrops, a_expectedTypes, a_totals, a_slotTypes, a_slotValues, a_waitingArgs, a_callNodes, a_levelValues, a_nodeValues) (nI f) := by
  have hp3 := h.2.2.1 f
  exact ⟨4, wx_st4 h hM hf hp (pc f) 0 4 (by omega) (by omega)⟩
theorem bd_lt63 {C a : Nat} (hC : C < 2 ^ 62) : bd_c C a < 2 ^ 62 := by have := bd_c_le C a; omega
theorem wx_ps8 {post : Int64 → Prop} {r L : Nat} (hr : r ≤ 64) (hL : L ≤ 2197) (hp : post (lN (bd_c bd_C (bd_S r L)))) : ∀ (t i fu : Nat), i + t = L → t < fu → wX_powerSum_8 post (nI r) (nI L) fu (lN (bd_c bd_C (bd_S r i))) (lN (bd_c bd_C (r ^ i))) (nI i) := by
  have c1 : 64 ≤ bd_C := by decide
  intro t
  induction t with
  | zero =>
    intro i fu h1 h2
    obtain ⟨fu, rfl⟩ : ∃ f, fu = f + 1 := ⟨fu - 1, by omega⟩
    have ei : i = L := by omega
    subst ei
    exact br_t (nI_le (Nat.le_refl _) (by omega)) hp
  | succ t ih =>
    intro i fu h1 h2
    obtain ⟨fu, rfl⟩ : ∃ f, fu = f + 1 := ⟨fu - 1, by omega⟩
    refine br_f (nI_ge (by omega) (by omega)) (wx_cappedSum (bd_c_le _ _) (bd_c_le _ _) ?_)
    rw [nI_l (by omega)]
    refine wx_cappedProduct (bd_c_le _ _) (by omega) (nm_r (nI_1 i) ?_)
    rw [bd_add, bd_add2, bd_mul, ← Nat.pow_succ]
    exact ih (i + 1) fu (by omega) (by omega)
theorem wx_powerSum {post : Int64 → Prop} {r L : Nat} (hr : r ≤ 64) (hL : L ≤ 2197) (hp : post (lN (bd_c bd_C (bd_S r L)))) : wpX_powerSum post () (nI r) (nI L) :=
  ⟨2198, wx_ps8 hr hL hp L 0 2198 (by omega) (by omega)⟩
theorem wx_to5 {post : Int64 → Prop} (h : pr_in F N pc rt bs kd mk na) (hM : M ≤ 12) {f : Nat} (hf : f < F) (hT : ∀ g, g < f → a_totals g = lN (bd_c bd_C (pr_T M F N pc bs kd na g))) (hp : post (lN (bd_c bd_C (pr_T M F N pc bs kd na f)))) :
    ∀ (t i fu : Nat), i + t = f → t < fu → wX_totalOf_5 post (nI f) (nI M) (nI F) (nI N) f_code f_faultFunction f_bound f_foundParam f_foundDrop f_status f_calls f_depth f_fuelLimit f_begun f_beginLimit f_waitingFunction f_currentNode f_valueKnown f_currentValue (fun i => nI (pc i)) mk (fun i => nI (rt i)) (fun i => nI (bs i)) (fun i => nI (kd i)) na a_parents a_childIndexes a_subtreeEnds a_scopeSizes a_levelTypes a_levelParams a_levelDrops a_expectedTypes a_totals a_slotTypes a_slotValues a_waitingArgs a_callNodes a_levelValues a_nodeValues fu (lN (bd_c bd_C (bd_in (pr_ct F N bs kd na f) (pr_T M F N pc bs kd na) i))) (nI i) := by
  have h6 := h.1
  have c1 : 64 ≤ bd_C := by decide
  intro t
  induction t with
  | zero =>
    intro i fu h1 h2
    obtain ⟨fu, rfl⟩ : ∃ f, fu = f + 1 := ⟨fu - 1, by omega⟩
    have ei : i = f := by omega
    subst ei
    have hp3 := h.2.2.1 i
    refine br_t (nI_le (Nat.le_refl _) (by omega)) (wx_countCalls h hf (wx_statesOf h hM hf (wx_powerSum (pr_ct64 h hf i) (pr_Lb hM _ hp3) (wx_cappedProduct (bd_c_le _ _) (bd_c_le _ _) ?_))))
    rw [bd_mul, bd_mul2]
    unfold pr_T at hp
    rw [bd_T_eq] at hp
    exact hp
  | succ t ih =>
    intro i fu h1 h2
    obtain ⟨fu, rfl⟩ : ∃ f, fu = f + 1 := ⟨fu - 1, by omega⟩
    have c64 := pr_ct64 h hf i
    have ei : (nI i).toNatClampNeg = i := nI_clamp (by omega)
    refine br_f (nI_ge (by omega) (by omega)) (wx_countCalls h hf ⟨vp_in_nI (by omega) (by omega), ?_⟩)
    rw [ei, hT i (by omega), nI_l (by omega)]
    refine wx_cappedProduct (bd_c_le _ _) (by omega) (wx_cappedSum (bd_c_le _ _) (bd_c_le _ _) (nm_r (nI_1 i) ?_))
    rw [bd_add, bd_mul, bd_add2, Nat.mul_comm]
    exact ih (i + 1) fu (by omega) (by omega)
theorem wx_totalOf {post : Int64 → Prop} (h : pr_in F N pc rt bs kd mk na) (hM : M ≤ 12) {f : Nat} (hf : f < F) (hT : ∀ g, g < f → a_totals g = lN (bd_c bd_C (pr_T M F N pc bs kd na g))) (hp : post (lN (bd_c bd_C (pr_T M F N pc bs kd na f)))) : wpX_totalOf post ((nI M), (nI F), (nI N), f_code, f_faultFunction, f_bound, f_foundParam, f_foundDrop, f_status, f_calls, f_depth, f_fuelLimit, f_begun, f_beginLimit, f_waitingFunction, f_currentNode, f_valueKnown, f_currentValue, (fun i => nI (pc i)), mk, (fun i => nI (rt i)), (fun i => nI (bs i)), (fun i => nI (kd i)), na, a_parents, a_childIndexes, a_subtreeEnds, a_scopeSizes, a_levelTypes, a_levelParams, a_levelDrops, a_expectedTypes, a_totals, a_slotTypes, a_slotValues, a_waitingArgs, a_callNodes, a_levelValues, a_nodeValues) (nI f) := by
  have h6 := h.1
  exact ⟨7, wx_to5 h hM hf hT hp f 0 7 (by omega) (by omega)⟩
theorem wx_ab2 {post : Int64 → St2 → Prop} (h : pr_in F N pc rt bs kd mk na) (hM : M ≤ 12) (hF : 0 < F) (hp : ∀ tt, post (lN (bd_c bd_C (pr_T M F N pc bs kd na (F - 1)))) ((nI M), (nI F), (nI N), f_code, f_faultFunction, f_bound, f_foundParam, f_foundDrop, f_status, f_calls, f_depth, f_fuelLimit, f_begun, f_beginLimit, f_waitingFunction, f_currentNode, f_valueKnown, f_currentValue, (fun i => nI (pc i)), mk, (fun i => nI (rt i)), (fun i => nI (bs i)), (fun i => nI (kd i)), na, a_parents, a_childIndexes, a_subtreeEnds, a_scopeSizes, a_levelTypes, a_levelParams, a_levelDrops, a_expectedTypes, tt, a_slotTypes, a_slotValues, a_waitingArgs, a_callNodes, a_levelValues, a_nodeValues)) :
    ∀ (t f fu : Nat) (tt : Nat → Int64), f + t = F → t < fu → (∀ g, g < f → tt g = lN (bd_c bd_C (pr_T M F N pc bs kd na g))) → wX_activationBound_2 post (nI M) (nI F) (nI N) f_code f_faultFunction f_bound f_foundParam f_foundDrop f_status f_calls f_depth f_fuelLimit f_begun f_beginLimit f_waitingFunction f_currentNode f_valueKnown f_currentValue fu (nI f) (fun i => nI (pc i)) mk (fun i => nI (rt i)) (fun i => nI (bs i)) (fun i => nI (kd i)) na a_parents a_childIndexes a_subtreeEnds a_scopeSizes a_levelTypes a_levelParams a_levelDrops a_expectedTypes tt a_slotTypes a_slotValues a_waitingArgs a_callNodes a_levelValues a_nodeValues := by
  have h6 := h.1
  intro t
  induction t with
  | zero =>
    intro f fu tt h1 h2 h3
    obtain ⟨fu, rfl⟩ : ∃ f, fu = f + 1 := ⟨fu - 1, by omega⟩
    have e1 : nI F - 1 = nI (F - 1) := pk_sub (b := 1) hF
    have e2 : (nI (F - 1)).toNatClampNeg = F - 1 := nI_clamp (by omega)
    refine br_t (nI_le (by omega) (by omega)) ?_
    rw [e1, e2, h3 (F - 1) (by omega)]
    exact ⟨vp_in_nI (by omega) (by omega), hp tt⟩
  | succ t ih =>
    intro f fu tt h1 h2 h3
    obtain ⟨fu, rfl⟩ : ∃ f, fu = f + 1 := ⟨fu - 1, by omega⟩
    have ef : (nI f).toNatClampNeg = f := nI_clamp (by omega)
    refine br_f (nI_ge (by omega) (by omega)) (wx_totalOf (a_totals := tt) h hM (by omega) h3 ⟨vp_in_nI (by omega) (by omega), ?_⟩)
    rw [ef]
    refine nm_e (nm_r (nI_1 f) (ih (f + 1) fu _ (by omega) (by omega) (fun g hg => ?_)))
    rcases Nat.eq_or_lt_of_le (Nat.le_of_lt_succ hg) with z1 | z1
    · subst z1; exact pk_uLs
    · rw [pk_uLn (by omega)]; exact h3 g z1
theorem wx_activationBound {post : Int64 → St2 → Prop} (h : pr_in F N pc rt bs kd mk na) (hM : M ≤ 12) (hF : 0 < F) (hp : ∀ tt, post (lN (bd_c bd_C (pr_T M F N pc bs kd na (F - 1)))) ((nI M), (nI F), (nI N), f_code, f_faultFunction, f_bound, f_foundParam, f_foundDrop, f_status, f_calls, f_depth, f_fuelLimit, f_begun, f_beginLimit, f_waitingFunction, f_currentNode, f_valueKnown, f_currentValue, (fun i => nI (pc i)), mk, (fun i => nI (rt i)), (fun i => nI (bs i)), (fun i => nI (kd i)), na, a_parents, a_childIndexes, a_subtreeEnds, a_scopeSizes, a_levelTypes, a_levelParams, a_levelDrops, a_expectedTypes, tt, a_slotTypes, a_slotValues, a_waitingArgs, a_callNodes, a_levelValues, a_nodeValues)) : wpX_activationBound post ((nI M), (nI F), (nI N), f_code, f_faultFunction, f_bound, f_foundParam, f_foundDrop, f_status, f_calls, f_depth, f_fuelLimit, f_begun, f_beginLimit, f_waitingFunction, f_currentNode, f_valueKnown, f_currentValue, (fun i => nI (pc i)), mk, (fun i => nI (rt i)), (fun i => nI (bs i)), (fun i => nI (kd i)), na, a_parents, a_childIndexes, a_subtreeEnds, a_scopeSizes, a_levelTypes, a_levelParams, a_levelDrops, a_expectedTypes, a_totals, a_slotTypes, a_slotValues, a_waitingArgs, a_callNodes, a_levelValues, a_nodeValues) := by
  have h6 := h.1
  exact ⟨7, wx_ab2 h hM hF hp F 0 7 _ (by omega) (by omega) (fun g hg => by omega)⟩
end
