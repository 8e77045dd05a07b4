section
/-- the case whose variables come into scope just at node n -/
def tb_bi (N : Nat) (ar kd : Nat → Nat) (n : Nat) : Option Nat := match tr_pa N ar n with
  | none => none
  | some p => if sq_cv N ar kd p n = 0 then none else some p
theorem tb_bi_none {N : Nat} {ar kd : Nat → Nat} {n : Nat} (h : tr_pa N ar n = none) : tb_bi N ar kd n = none := by unfold tb_bi; rw [h]
theorem tb_bi_0 {N : Nat} {ar kd : Nat → Nat} {n p : Nat} (h : tr_pa N ar n = some p) (hc : sq_cv N ar kd p n = 0) : tb_bi N ar kd n = none := by unfold tb_bi; rw [h]; exact if_pos hc
theorem tb_bi_s {N : Nat} {ar kd : Nat → Nat} {n p : Nat} (h : tr_pa N ar n = some p) (hc : sq_cv N ar kd p n ≠ 0) : tb_bi N ar kd n = some p := by unfold tb_bi; rw [h]; exact if_neg hc
theorem sq_cvk {N : Nat} {ar kd : Nat → Nat} {p n : Nat} (hc : sq_cv N ar kd p n ≠ 0) : tr_cx N ar p n = 2 ∧ ((kd p = 6 ∧ sq_cv N ar kd p n = 1) ∨ (kd p = 7 ∧ sq_cv N ar kd p n = 2)) := by
  unfold sq_cv at hc ⊢
  split at hc
  · rename_i e
    refine ⟨e, ?_⟩
    rw [if_pos e]
    split at hc
    · rename_i e2; exact Or.inl ⟨e2, by rw [if_pos e2]⟩
    · rename_i e2
      split at hc
      · rename_i e3; exact Or.inr ⟨e3, by rw [if_neg e2, if_pos e3]⟩
      · exact absurd rfl hc
  · exact absurd rfl hc
theorem sq_cv2 {N : Nat} {ar kd : Nat → Nat} {p n : Nat} (h : tr_cx N ar p n = 2) (hk : kd p = 6 ∨ kd p = 7) : sq_cv N ar kd p n ≠ 0 := by
  unfold sq_cv
  rw [if_pos h]
  rcases hk with k | k
  · rw [if_pos k]; decide
  · rw [if_neg (by omega), if_pos k]; decide
theorem tb_ci {N : Nat} {ar : Nat → Nat} {n p : Nat} (h : tr_pa N ar n = some p) : tr_ci N ar n = tr_cx N ar p n := by unfold tr_ci; rw [h]
variable {f_sizeCap f_functionCount f_nodeCount f_code f_faultFunction f_foundParam f_foundDrop f_status f_depth f_begun f_beginLimit f_waitingFunction f_currentNode f_valueKnown : Int32} {f_bound f_calls f_fuelLimit f_currentValue : Int64} {a_paramCounts a_listMasks a_resultTypes a_bodyStarts a_nodeKinds a_nodeArgs a_parents a_childIndexes a_subtreeEnds a_scopeSizes a_levelTypes a_levelParams a_levelDrops a_expectedTypes a_slotTypes a_callNodes : Nat → Int32} {a_totals a_slotValues a_waitingArgs a_levelValues a_nodeValues : Nat → Int64}
variable {M F N k : Nat} {pc rt bs kd : Nat → Nat} {mk na : Nat → Int32}
theorem wx_binderAt {post : Int32 → Prop} (h : pr_in F N pc rt bs kd mk na) {n : Nat} (hn : n < N) (hpa : a_parents n = tb_P N (pr_ar F pc kd na) n) (hci : a_childIndexes n = nI (tr_ci N (pr_ar F pc kd na) n)) (hp : post (tb_o (tb_bi N (pr_ar F pc kd na) kd n))) : wpX_binderAt post ((nI M), (nI F), (nI N), f_code, f_faultFunction, f_bound, f_foundParam, f_foundDrop, f_status, f_calls, f_depth, f_fuelLimit, f_begun, f_beginLimit, f_waitingFunction, f_currentNode, f_valueKnown, f_currentValue, (fun i => nI (pc i)), mk, (fun i => nI (rt i)), (fun i => nI (bs i)), (fun i => nI (kd i)), na, a_parents, a_childIndexes, a_subtreeEnds, a_scopeSizes, a_levelTypes, a_levelParams, a_levelDrops, a_expectedTypes, a_totals, a_slotTypes, a_slotValues, a_waitingArgs, a_callNodes, a_levelValues, a_nodeValues) (nI n) := by
  have h64 := h.2.1
  have e : (nI n).toNatClampNeg = n := nI_clamp (by omega)
  have hv : vp_in (nI n) 64 := vp_in_nI (by omega) (by omega)
  simp only [wpX_binderAt, e, hpa, hci]
  cases hpn : tr_pa N (pr_ar F pc kd na) n with
  | none =>
    rw [tb_bi_none hpn] at hp
    exact ⟨hv, nm_r (tb_P_none hpn) (br_t rfl hp)⟩
  | some p =>
    have hpl := (tr_pa_some hpn).1
    have hk := h.2.2.2.2.2.1 p
    have h3 := wy_cx3 (N := N) (pr_ar F pc kd na) p n
    rw [tb_ci hpn]
    have ep : (nI p).toNatClampNeg = p := nI_clamp (by omega)
    refine ⟨hv, nm_r (tb_P_some hpn) (br_f (fun y => absurd y (by have := nI_pos' (n := p) (by omega); intro y2; rw [y2] at this; exact absurd this (by decide))) ⟨hv, ?_⟩)⟩
    refine pk_eq (tr_cx N (pr_ar F pc kd na) p n) 2 (fun c => ⟨vp_in_nI (by omega) (by omega), nm_r (e' := nI (kd p)) (by rw [ep]) ?_⟩) (fun c => ?_)
    · refine pk_eq (kd p) 6 (fun k => ?_) (fun k6 => pk_eq (kd p) 7 (fun k => ?_) (fun k7 => ?_))
      · rw [tb_bi_s hpn (sq_cv2 c (Or.inl k))] at hp; exact hp
      · rw [tb_bi_s hpn (sq_cv2 c (Or.inr k))] at hp; exact hp
      · rw [tb_bi_0 hpn (sq_cv0 (Or.inr ⟨k6, k7⟩))] at hp; exact hp
    · rw [tb_bi_0 hpn (sq_cv0 (Or.inl c))] at hp; exact hp
theorem wx_no (p : Nat) (h : p < 1000) : ¬ nI p = -1 := by
  intro y
  have := nI_pos' (n := p) (by omega)
  rw [y] at this
  exact absurd this (by decide)
theorem wx_sc72 {post : St2 → Prop} (h : pr_in F N pc rt bs kd mk na) (hw : pg_wf F N bs (pr_ar F pc kd na)) {n p v : Nat} (hn : n < N) (hpa : a_parents n = nI p) (hpn : tr_pa N (pr_ar F pc kd na) n = some p) (hsp : a_scopeSizes p = nI (pr_sc F N pc bs kd na p)) (hv : v = sq_cv N (pr_ar F pc kd na) kd p n) {J} {x3 : Int32}
    (hJ : J (nI (n + 1)) (fun i => nI (pc i)) mk (fun i => nI (rt i)) (fun i => nI (bs i)) (fun i => nI (kd i)) na a_parents a_childIndexes a_subtreeEnds (upd a_scopeSizes n (nI (pr_sc F N pc bs kd na n))) a_levelTypes a_levelParams a_levelDrops a_expectedTypes a_totals a_slotTypes a_slotValues a_waitingArgs a_callNodes a_levelValues a_nodeValues) : wX_layOutScopes_72 post J x3 (nI n) (nI v) (nI M) (nI F) (nI N) f_code f_faultFunction f_bound f_foundParam f_foundDrop f_status f_calls f_depth f_fuelLimit f_begun f_beginLimit f_waitingFunction f_currentNode f_valueKnown f_currentValue (fun i => nI (pc i)) mk (fun i => nI (rt i)) (fun i => nI (bs i)) (fun i => nI (kd i)) na a_parents a_childIndexes a_subtreeEnds a_scopeSizes a_levelTypes a_levelParams a_levelDrops a_expectedTypes a_totals a_slotTypes a_slotValues a_waitingArgs a_callNodes a_levelValues a_nodeValues := by
  have h64 := h.2.1
  have hpl := (tr_pa_some hpn).1
  have e : (nI n).toNatClampNeg = n := nI_clamp (by omega)
  have ep : (nI p).toNatClampNeg = p := nI_clamp (by omega)
  have hvn : vp_in (nI n) 64 := vp_in_nI (by omega) (by omega)
  have es : pr_sc F N pc bs kd na n = pr_sc F N pc bs kd na p + sq_cv N (pr_ar F pc kd na) kd p n := by unfold pr_sc; exact sq_some hpn
  unfold wX_layOutScopes_72
  rw [e, hpa, ep, hsp, nI_add, hv, ← es]
  exact ⟨hvn, vp_in_nI (by omega) (by omega), hvn, nm_e (nm_r (nI_1 n) hJ)⟩
theorem wx_sc30 {post : St2 → Prop} (h : pr_in F N pc rt bs kd mk na) (hw : pg_wf F N bs (pr_ar F pc kd na)) {f : Nat} (hf : f < F) (hpa : ∀ j, bs f ≤ j → j < pg_be F N bs f → a_parents j = tb_P N (pr_ar F pc kd na) j ∧ a_childIndexes j = nI (tr_ci N (pr_ar F pc kd na) j))
    (hp : ∀ sc, (∀ j, j < pg_be F N bs f → sc j = nI (pr_sc F N pc bs kd na j)) → post ((nI M), (nI F), (nI N), f_code, f_faultFunction, f_bound, f_foundParam, f_foundDrop, f_status, f_calls, f_depth, f_fuelLimit, f_begun, f_beginLimit, f_waitingFunction, f_currentNode, f_valueKnown, f_currentValue, (fun i => nI (pc i)), mk, (fun i => nI (rt i)), (fun i => nI (bs i)), (fun i => nI (kd i)), na, a_parents, a_childIndexes, a_subtreeEnds, sc, a_levelTypes, a_levelParams, a_levelDrops, a_expectedTypes, a_totals, a_slotTypes, a_slotValues, a_waitingArgs, a_callNodes, a_levelValues, a_nodeValues)) :
    ∀ (r n fu : Nat) (sc : Nat → Int32), n + r = pg_be F N bs f → bs f < n → r < fu → (∀ j, j < n → sc j = nI (pr_sc F N pc bs kd na j)) → wX_layOutScopes_30 post (nI (pg_be F N bs f)) (nI M) (nI F) (nI N) f_code f_faultFunction f_bound f_foundParam f_foundDrop f_status f_calls f_depth f_fuelLimit f_begun f_beginLimit f_waitingFunction f_currentNode f_valueKnown f_currentValue fu (nI n) (fun i => nI (pc i)) mk (fun i => nI (rt i)) (fun i => nI (bs i)) (fun i => nI (kd i)) na a_parents a_childIndexes a_subtreeEnds sc a_levelTypes a_levelParams a_levelDrops a_expectedTypes a_totals a_slotTypes a_slotValues a_waitingArgs a_callNodes a_levelValues a_nodeValues := by
  have h64 := h.2.1
  have hN := pg_lastN hw hf
  intro r
  induction r with
  | zero =>
    intro n fu sc h1 h2 h3 h4
    obtain ⟨fu, rfl⟩ : ∃ f, fu = f + 1 := ⟨fu - 1, by omega⟩
    exact br_t (nI_le (by omega) (by omega)) (hp sc (fun j hj => h4 j (by omega)))
  | succ r ih =>
    intro n fu sc h1 h2 h3 h4
    obtain ⟨fu, rfl⟩ : ∃ f, fu = f + 1 := ⟨fu - 1, by omega⟩
    obtain ⟨p, p1, p2, p3⟩ := tr_pa_in (N := N) (hw.2.2.2.2 f hf) hN h2 (by omega)
    obtain ⟨q1, q2⟩ := hpa n (by omega) (by omega)
    have nxt : wX_layOutScopes_30 post (nI (pg_be F N bs f)) (nI M) (nI F) (nI N) f_code f_faultFunction f_bound f_foundParam f_foundDrop f_status f_calls f_depth f_fuelLimit f_begun f_beginLimit f_waitingFunction f_currentNode f_valueKnown f_currentValue fu (nI (n + 1)) (fun i => nI (pc i)) mk (fun i => nI (rt i)) (fun i => nI (bs i)) (fun i => nI (kd i)) na a_parents a_childIndexes a_subtreeEnds (upd sc n (nI (pr_sc F N pc bs kd na n))) a_levelTypes a_levelParams a_levelDrops a_expectedTypes a_totals a_slotTypes a_slotValues a_waitingArgs a_callNodes a_levelValues a_nodeValues := by
      refine ih (n + 1) fu _ (by omega) (by omega) (by omega) (fun j hj => ?_)
      rcases Nat.eq_or_lt_of_le (Nat.le_of_lt_succ hj) with e | e
      · subst e; exact pk_us
      · rw [pk_un (by omega)]; exact h4 j e
    refine br_f (nI_ge (by omega) (by omega)) (wx_binderAt h (by omega) q1 q2 ?_)
    rw [tb_P_some p1] at q1
    by_cases c0 : sq_cv N (pr_ar F pc kd na) kd p n = 0
    · rw [tb_bi_0 p1 c0]
      exact br_t rfl (wx_sc72 (v := 0) h hw (by omega) q1 p1 (h4 p p3) c0.symm nxt)
    · rw [tb_bi_s p1 c0, show tb_o (some p) = nI p from rfl]
      have ep : (nI p).toNatClampNeg = p := nI_clamp (by omega)
      have hk := h.2.2.2.2.2.1 p
      refine br_f (wx_no p (by omega)) ⟨vp_in_nI (by omega) (by omega), ?_⟩
      rw [ep]
      rcases (sq_cvk c0).2 with ⟨k1, k2⟩ | ⟨k1, k2⟩
      · refine pk_eq (kd p) 7 (fun k => by omega) (fun k => ?_)
        exact wx_sc72 (v := 1) h hw (by omega) q1 p1 (h4 p p3) k2.symm nxt
      · refine pk_eq (kd p) 7 (fun k => ?_) (fun k => by omega)
        exact wx_sc72 (v := 2) h hw (by omega) q1 p1 (h4 p p3) k2.symm nxt
theorem wx_layOutScopes {post : St2 → Prop} (h : pr_in F N pc rt bs kd mk na) (hw : pg_wf F N bs (pr_ar F pc kd na)) {f : Nat} (hf : f < F) (hpa : ∀ j, bs f ≤ j → j < pg_be F N bs f → a_parents j = tb_P N (pr_ar F pc kd na) j ∧ a_childIndexes j = nI (tr_ci N (pr_ar F pc kd na) j))
    (hs : ∀ j, j < bs f → a_scopeSizes j = nI (pr_sc F N pc bs kd na j))
    (hp : ∀ sc, (∀ j, j < pg_be F N bs f → sc j = nI (pr_sc F N pc bs kd na j)) → post ((nI M), (nI F), (nI N), f_code, f_faultFunction, f_bound, f_foundParam, f_foundDrop, f_status, f_calls, f_depth, f_fuelLimit, f_begun, f_beginLimit, f_waitingFunction, f_currentNode, f_valueKnown, f_currentValue, (fun i => nI (pc i)), mk, (fun i => nI (rt i)), (fun i => nI (bs i)), (fun i => nI (kd i)), na, a_parents, a_childIndexes, a_subtreeEnds, sc, a_levelTypes, a_levelParams, a_levelDrops, a_expectedTypes, a_totals, a_slotTypes, a_slotValues, a_waitingArgs, a_callNodes, a_levelValues, a_nodeValues)) : wpX_layOutScopes post ((nI M), (nI F), (nI N), f_code, f_faultFunction, f_bound, f_foundParam, f_foundDrop, f_status, f_calls, f_depth, f_fuelLimit, f_begun, f_beginLimit, f_waitingFunction, f_currentNode, f_valueKnown, f_currentValue, (fun i => nI (pc i)), mk, (fun i => nI (rt i)), (fun i => nI (bs i)), (fun i => nI (kd i)), na, a_parents, a_childIndexes, a_subtreeEnds, a_scopeSizes, a_levelTypes, a_levelParams, a_levelDrops, a_expectedTypes, a_totals, a_slotTypes, a_slotValues, a_waitingArgs, a_callNodes, a_levelValues, a_nodeValues) (nI f) := by
  have h6 := h.1
  have h64 := h.2.1
  have hN := pg_lastN hw hf
  have hlt := (hw.2.2.2.2 f hf).1
  have e : (nI f).toNatClampNeg = f := nI_clamp (by omega)
  have e2 : (nI (bs f)).toNatClampNeg = bs f := nI_clamp (by omega)
  have hv : vp_in (nI f) 6 := vp_in_nI (by omega) (by omega)
  have er : pr_sc F N pc bs kd na (bs f) = pc f := by
    unfold pr_sc; rw [sq_none (pg_root hw hf)]; unfold pr_z; rw [pr_root_fn hw hf]
  refine ⟨hv, nm_r (e' := nI (bs f)) (by rw [e]) (wx_bodyEnd h hf ⟨hv, vp_in_nI (by omega) (by omega), ?_⟩)⟩
  rw [e, e2]
  refine nm_e (nm_r (nI_1 (bs f)) ⟨65, ?_⟩)
  refine wx_sc30 h hw hf hpa hp (pg_be F N bs f - (bs f + 1)) (bs f + 1) 65 _ (by omega) (by omega) (by omega) (fun j hj => ?_)
  rcases Nat.eq_or_lt_of_le (Nat.le_of_lt_succ hj) with e3 | e3
  · subst e3; rw [pk_us, er]
  · rw [pk_un (by omega)]; exact hs j e3
theorem wx_nm53 {post : Int32 → Prop} (h : pr_in F N pc rt bs kd mk na) {n f : Nat} (hn : n < N) (hf : f < F) {J : Int32 → Prop} {x2 : Int32} (h4 : kd n = 5 ∧ (na n < 0 ∨ nI f < na n) → post 4) (hJ : ¬ (kd n = 5 ∧ (na n < 0 ∨ nI f < na n)) → J (nI (n + 1))) : wX_checkNames_53 post J (nI f) x2 (nI n) (na n) (nI M) (nI F) (nI N) f_code f_faultFunction f_bound f_foundParam f_foundDrop f_status f_calls f_depth f_fuelLimit f_begun f_beginLimit f_waitingFunction f_currentNode f_valueKnown f_currentValue (fun i => nI (pc i)) mk (fun i => nI (rt i)) (fun i => nI (bs i)) (fun i => nI (kd i)) na a_parents a_childIndexes a_subtreeEnds a_scopeSizes a_levelTypes a_levelParams a_levelDrops a_expectedTypes a_totals a_slotTypes a_slotValues a_waitingArgs a_callNodes a_levelValues a_nodeValues := by
  have h64 := h.2.1
  have hk := h.2.2.2.2.2.1 n
  have e : (nI n).toNatClampNeg = n := nI_clamp (by omega)
  unfold wX_checkNames_53
  rw [e]
  refine ⟨vp_in_nI (by omega) (by omega), pk_eq (kd n) 5 (fun k => ?_) (fun k => nm_r (nI_1 n) (hJ (fun y => k y.1)))⟩
  refine br_c (fun c => h4 ⟨k, Or.inl c⟩) (fun c => br_c (fun c2 => nm_r (nI_1 n) (hJ (fun y => ?_))) (fun c2 => h4 ⟨k, Or.inr (Int32.not_le.mp c2)⟩))
  rcases y.2 with y | y
  · exact c y
  · exact Int32.not_le.mpr y c2
theorem wx_nm13 {post : Int32 → Prop} (h : pr_in F N pc rt bs kd mk na) {f e : Nat} (hf : f < F) (he : e ≤ N) (hs : ∀ j, j < e → a_scopeSizes j = nI (pr_sc F N pc bs kd na j)) : ∀ (r n fu : Nat), n + r = e → r < fu → post (cd_nm kd na (pr_sc F N pc bs kd na) f r n) → wX_checkNames_13 post (nI f) (nI e) (nI M) (nI F) (nI N) f_code f_faultFunction f_bound f_foundParam f_foundDrop f_status f_calls f_depth f_fuelLimit f_begun f_beginLimit f_waitingFunction f_currentNode f_valueKnown f_currentValue (fun i => nI (pc i)) mk (fun i => nI (rt i)) (fun i => nI (bs i)) (fun i => nI (kd i)) na a_parents a_childIndexes a_subtreeEnds a_scopeSizes a_levelTypes a_levelParams a_levelDrops a_expectedTypes a_totals a_slotTypes a_slotValues a_waitingArgs a_callNodes a_levelValues a_nodeValues fu (nI n) := by
  have h64 := h.2.1
  intro r
  induction r with
  | zero =>
    intro n fu h1 h2 hp
    obtain ⟨fu, rfl⟩ : ∃ f, fu = f + 1 := ⟨fu - 1, by omega⟩
    exact br_t (nI_le (by omega) (by omega)) hp
  | succ r ih =>
    intro n fu h1 h2 hp
    obtain ⟨fu, rfl⟩ : ∃ f, fu = f + 1 := ⟨fu - 1, by omega⟩
    have hk := h.2.2.2.2.2.1 n
    have e1 : (nI n).toNatClampNeg = n := nI_clamp (by omega)
    have hv : vp_in (nI n) 64 := vp_in_nI (by omega) (by omega)
    rw [cd_nm] at hp
    have go : ¬ (kd n = 0 ∧ (na n < 0 ∨ nI (pr_sc F N pc bs kd na n) ≤ na n)) → wX_checkNames_53 post (wX_checkNames_13 post (nI f) (nI e) (nI M) (nI F) (nI N) f_code f_faultFunction f_bound f_foundParam f_foundDrop f_status f_calls f_depth f_fuelLimit f_begun f_beginLimit f_waitingFunction f_currentNode f_valueKnown f_currentValue (fun i => nI (pc i)) mk (fun i => nI (rt i)) (fun i => nI (bs i)) (fun i => nI (kd i)) na a_parents a_childIndexes a_subtreeEnds a_scopeSizes a_levelTypes a_levelParams a_levelDrops a_expectedTypes a_totals a_slotTypes a_slotValues a_waitingArgs a_callNodes a_levelValues a_nodeValues fu) (nI f) (nI e) (nI n) (na n) (nI M) (nI F) (nI N) f_code f_faultFunction f_bound f_foundParam f_foundDrop f_status f_calls f_depth f_fuelLimit f_begun f_beginLimit f_waitingFunction f_currentNode f_valueKnown f_currentValue (fun i => nI (pc i)) mk (fun i => nI (rt i)) (fun i => nI (bs i)) (fun i => nI (kd i)) na a_parents a_childIndexes a_subtreeEnds a_scopeSizes a_levelTypes a_levelParams a_levelDrops a_expectedTypes a_totals a_slotTypes a_slotValues a_waitingArgs a_callNodes a_levelValues a_nodeValues := by
      intro y
      rw [if_neg y] at hp
      refine wx_nm53 h (by omega) hf (fun y2 => by rw [if_pos y2] at hp; exact hp) (fun y2 => ?_)
      rw [if_neg y2] at hp
      exact ih (n + 1) fu (by omega) (by omega) hp
    refine br_f (nI_ge (by omega) (by omega)) ⟨hv, ?_⟩
    rw [e1]
    refine nm_e ⟨hv, pk_eq (kd n) 0 (fun k => ?_) (fun k => go (fun y => k y.1))⟩
    refine br_c (fun c => by rw [if_pos ⟨k, Or.inl c⟩] at hp; exact hp) (fun c => ⟨hv, ?_⟩)
    rw [hs n (by omega)]
    refine br_c (fun c2 => go (fun y => ?_)) (fun c2 => by rw [if_pos ⟨k, Or.inr (Int32.not_lt.mp c2)⟩] at hp; exact hp)
    rcases y.2 with y | y
    · exact c y
    · exact Int32.not_lt.mpr y c2
theorem wx_checkNames {post : Int32 → Prop} (h : pr_in F N pc rt bs kd mk na) {f : Nat} (hf : f < F) (hs : ∀ j, j < pg_be F N bs f → a_scopeSizes j = nI (pr_sc F N pc bs kd na j)) (hp : post (cd_nm kd na (pr_sc F N pc bs kd na) f (pg_be F N bs f - bs f) (bs f))) : wpX_checkNames post ((nI M), (nI F), (nI N), f_code, f_faultFunction, f_bound, f_foundParam, f_foundDrop, f_status, f_calls, f_depth, f_fuelLimit, f_begun, f_beginLimit, f_waitingFunction, f_currentNode, f_valueKnown, f_currentValue, (fun i => nI (pc i)), mk, (fun i => nI (rt i)), (fun i => nI (bs i)), (fun i => nI (kd i)), na, a_parents, a_childIndexes, a_subtreeEnds, a_scopeSizes, a_levelTypes, a_levelParams, a_levelDrops, a_expectedTypes, a_totals, a_slotTypes, a_slotValues, a_waitingArgs, a_callNodes, a_levelValues, a_nodeValues) (nI f) := by
  have h6 := h.1
  have h64 := h.2.1
  have hb := pr_be_le h hf
  have e : (nI f).toNatClampNeg = f := nI_clamp (by omega)
  unfold wpX_checkNames
  refine wx_bodyEnd h hf ⟨vp_in_nI (by omega) (by omega), nm_r (e' := nI (bs f)) (by rw [e]) ⟨65, ?_⟩⟩
  exact wx_nm13 h hf hb.2 hs _ (bs f) 65 (by omega) (by omega) hp
theorem wx_paramType {post : Int32 → Prop} (h : pr_in F N pc rt bs kd mk na) {g i : Nat} (hg : g < F) (hp : post (nI (pr_pty mk g i))) : wpX_paramType post ((nI M), (nI F), (nI N), f_code, f_faultFunction, f_bound, f_foundParam, f_foundDrop, f_status, f_calls, f_depth, f_fuelLimit, f_begun, f_beginLimit, f_waitingFunction, f_currentNode, f_valueKnown, f_currentValue, (fun i => nI (pc i)), mk, (fun i => nI (rt i)), (fun i => nI (bs i)), (fun i => nI (kd i)), na, a_parents, a_childIndexes, a_subtreeEnds, a_scopeSizes, a_levelTypes, a_levelParams, a_levelDrops, a_expectedTypes, a_totals, a_slotTypes, a_slotValues, a_waitingArgs, a_callNodes, a_levelValues, a_nodeValues) (nI g) (nI i) := by
  have h6 := h.1
  have e : (nI g).toNatClampNeg = g := nI_clamp (by omega)
  unfold pr_pty at hp
  simp only [wpX_paramType, e]
  refine ⟨vp_in_nI (by omega) (by omega), br_c (fun c => ?_) (fun c => ?_)⟩
  · rw [if_pos c] at hp; exact hp
  · rw [if_neg c] at hp; exact hp
end
