section
variable {f_sizeCap f_functionCount f_nodeCount f_code f_faultFunction f_foundParam f_foundDrop f_status f_depth f_begun f_beginLimit f_waitingFunction f_currentNode f_valueKnown : Int32} {f_bound f_calls f_fuelLimit f_currentValue : Int64} {a_paramCounts a_listMasks a_resultTypes a_bodyStarts a_nodeKinds a_nodeArgs a_parents a_childIndexes a_subtreeEnds a_scopeSizes a_levelTypes a_levelParams a_levelDrops a_expectedTypes a_slotTypes a_callNodes : Nat → Int32} {a_totals a_slotValues a_waitingArgs a_levelValues a_nodeValues : Nat → Int64}
variable {M F N k : Nat} {pc rt bs kd : Nat → Nat} {mk na : Nat → Int32}
def pr_ty (F N : Nat) (pc bs kd : Nat → Nat) (mk na : Nat → Int32) (n x : Nat) : Nat := ty_ty N (pr_ar F pc kd na) kd (pr_z F bs pc) (pr_pt F bs mk) n x
def pr_tp (F N : Nat) (pc bs kd : Nat → Nat) (mk na lt : Nat → Int32) (n : Nat) : Prop :=
  (tr_pa N (pr_ar F pc kd na) n = none → ∀ x, x < pr_z F bs pc n → lt x = nI (pr_pt F bs mk n x)) ∧ ∀ p, tr_pa N (pr_ar F pc kd na) n = some p → ∀ x, x < pr_sc F N pc bs kd na p → lt x = nI (pr_ty F N pc bs kd mk na p x)
theorem wx_bindTypes {post : St2 → Prop} (h : pr_in F N pc rt bs kd mk na) (hw : pg_wf F N bs (pr_ar F pc kd na)) (HT : tb_ok N (pr_ar F pc kd na) kd (pr_z F bs pc) a_parents a_childIndexes a_subtreeEnds a_scopeSizes N) {n : Nat} (hn : n < N) (hl : pr_tp F N pc bs kd mk na a_levelTypes n)
    (hp : ∀ lt, (∀ x, x < pr_sc F N pc bs kd na n → lt x = nI (pr_ty F N pc bs kd mk na n x)) → post ((nI M), (nI F), (nI N), f_code, f_faultFunction, f_bound, f_foundParam, f_foundDrop, f_status, f_calls, f_depth, f_fuelLimit, f_begun, f_beginLimit, f_waitingFunction, f_currentNode, f_valueKnown, f_currentValue, (fun i => nI (pc i)), mk, (fun i => nI (rt i)), (fun i => nI (bs i)), (fun i => nI (kd i)), na, a_parents, a_childIndexes, a_subtreeEnds, a_scopeSizes, lt, a_levelParams, a_levelDrops, a_expectedTypes, a_totals, a_slotTypes, a_slotValues, a_waitingArgs, a_callNodes, a_levelValues, a_nodeValues)) : wpX_bindTypes post ((nI M), (nI F), (nI N), f_code, f_faultFunction, f_bound, f_foundParam, f_foundDrop, f_status, f_calls, f_depth, f_fuelLimit, f_begun, f_beginLimit, f_waitingFunction, f_currentNode, f_valueKnown, f_currentValue, (fun i => nI (pc i)), mk, (fun i => nI (rt i)), (fun i => nI (bs i)), (fun i => nI (kd i)), na, a_parents, a_childIndexes, a_subtreeEnds, a_scopeSizes, a_levelTypes, a_levelParams, a_levelDrops, a_expectedTypes, a_totals, a_slotTypes, a_slotValues, a_waitingArgs, a_callNodes, a_levelValues, a_nodeValues) (nI n) := by
  have h64 := h.2.1
  unfold wpX_bindTypes
  refine wx_binderAt h hn (HT n hn).1 (HT n hn).2.1 ?_
  cases hpn : tr_pa N (pr_ar F pc kd na) n with
  | none =>
    rw [tb_bi_none hpn]
    refine br_t rfl (hp _ (fun x hx => ?_))
    unfold pr_sc at hx
    rw [sq_none hpn] at hx
    unfold pr_ty
    rw [ty_none hpn]
    exact hl.1 hpn x hx
  | some p =>
    have hpl := (tr_pa_some hpn).1
    have es : pr_sc F N pc bs kd na n = pr_sc F N pc bs kd na p + sq_cv N (pr_ar F pc kd na) kd p n := by unfold pr_sc; exact sq_some hpn
    have s45 := pr_sc_le h hw hn
    have hlow : ∀ x, x < pr_sc F N pc bs kd na p → a_levelTypes x = nI (pr_ty F N pc bs kd mk na n x) := fun x hx => by
      unfold pr_ty; rw [ty_pa hpn hx]; exact hl.2 p hpn x hx
    by_cases c0 : sq_cv N (pr_ar F pc kd na) kd p n = 0
    · rw [tb_bi_0 hpn c0]
      exact br_t rfl (hp _ (fun x hx => hlow x (by omega)))
    · rw [tb_bi_s hpn c0, show tb_o (some p) = nI p from rfl]
      have ep : (nI p).toNatClampNeg = p := nI_clamp (by omega)
      have el : (nI (pr_sc F N pc bs kd na p)).toNatClampNeg = pr_sc F N pc bs kd na p := nI_clamp (by omega)
      have el1 : (nI (pr_sc F N pc bs kd na p) + 1).toNatClampNeg = pr_sc F N pc bs kd na p + 1 := by rw [nI_1]; exact nI_clamp (by omega)
      have hvp : vp_in (nI p) 64 := vp_in_nI (by omega) (by omega)
      have hk := h.2.2.2.2.2.1 p
      have hsp : a_scopeSizes p = nI (pr_sc F N pc bs kd na p) := (HT p (by omega)).2.2.2
      have ety : ∀ x, pr_ty F N pc bs kd mk na n x = (if x = pr_sc F N pc bs kd na p then (0 : Nat) else if x = pr_sc F N pc bs kd na p + 1 then 1 else pr_ty F N pc bs kd mk na p x) := fun x => by
        unfold pr_ty; rw [ty_some hpn, if_neg c0]; rfl
      refine br_f (wx_no p (by omega)) ⟨hvp, ?_⟩
      rw [ep, hsp]
      refine nm_e ⟨vp_in_nI (by omega) (by omega), ?_⟩
      rw [el, el1]
      refine nm_e ⟨hvp, ?_⟩
      rcases (sq_cvk c0).2 with ⟨k1, k2⟩ | ⟨k1, k2⟩
      · refine pk_eq (kd p) 7 (fun k => by omega) (fun k => hp _ (fun x hx => ?_))
        by_cases ex : x = pr_sc F N pc bs kd na p
        · rw [ety, if_pos ex, ex]; exact pk_us
        · rw [pk_un ex]; exact hlow x (by omega)
      · refine pk_eq (kd p) 7 (fun k => ⟨by rw [nI_1]; exact vp_in_nI (by omega) (by omega), nm_e (hp _ (fun x hx => ?_))⟩) (fun k => by omega)
        by_cases ex1 : x = pr_sc F N pc bs kd na p + 1
        · rw [ety, if_neg (by omega), if_pos ex1, ex1]; exact pk_us
        · rw [pk_un ex1]
          by_cases ex : x = pr_sc F N pc bs kd na p
          · rw [ety, if_pos ex, ex]; exact pk_us
          · rw [pk_un ex]; exact hlow x (by omega)
theorem wx_expectedType {post : Int32 → Prop} (h : pr_in F N pc rt bs kd mk na) (hw : pg_wf F N bs (pr_ar F pc kd na)) (hnm : pr_nm F N pc bs kd na) (HT : tb_ok N (pr_ar F pc kd na) kd (pr_z F bs pc) a_parents a_childIndexes a_subtreeEnds a_scopeSizes N) {n f : Nat} (hn : n < N) (hf : pg_fn F bs n = f)
    (he : ∀ p, tr_pa N (pr_ar F pc kd na) n = some p → a_expectedTypes p = nI (pr_et F N pc rt bs kd mk na p)) (hp : post (nI (pr_et F N pc rt bs kd mk na n))) : wpX_expectedType post ((nI M), (nI F), (nI N), f_code, f_faultFunction, f_bound, f_foundParam, f_foundDrop, f_status, f_calls, f_depth, f_fuelLimit, f_begun, f_beginLimit, f_waitingFunction, f_currentNode, f_valueKnown, f_currentValue, (fun i => nI (pc i)), mk, (fun i => nI (rt i)), (fun i => nI (bs i)), (fun i => nI (kd i)), na, a_parents, a_childIndexes, a_subtreeEnds, a_scopeSizes, a_levelTypes, a_levelParams, a_levelDrops, a_expectedTypes, a_totals, a_slotTypes, a_slotValues, a_waitingArgs, a_callNodes, a_levelValues, a_nodeValues) (nI f) (nI n) := by
  have h6 := h.1
  have h64 := h.2.1
  have hb := pg_body hw hn
  rw [hf] at hb
  have e : (nI n).toNatClampNeg = n := nI_clamp (by omega)
  have ef : (nI f).toNatClampNeg = f := nI_clamp (by omega)
  have hv : vp_in (nI n) 64 := vp_in_nI (by omega) (by omega)
  simp only [wpX_expectedType, e, ef, (HT n hn).1, (HT n hn).2.1]
  unfold pr_et at hp
  cases hpn : tr_pa N (pr_ar F pc kd na) n with
  | none =>
    rw [et_none hpn] at hp
    unfold pr_rt at hp
    rw [hf] at hp
    exact ⟨hv, nm_r (tb_P_none hpn) (br_t rfl ⟨vp_in_nI (by omega) (by omega), hp⟩)⟩
  | some p =>
    have hpl := (tr_pa_some hpn).1
    have hk := h.2.2.2.2.2.1 p
    have h3 := wy_cx3 (N := N) (pr_ar F pc kd na) p n
    have ep : (nI p).toNatClampNeg = p := nI_clamp (by omega)
    have hvp : vp_in (nI p) 64 := vp_in_nI (by omega) (by omega)
    rw [et_some hpn] at hp
    rw [tb_ci hpn]
    refine ⟨hv, nm_r (tb_P_some hpn) (br_f (wx_no p (by omega)) ⟨hv, nm_e ⟨hvp, ?_⟩⟩)⟩
    rw [ep, he p hpn]
    have hcs : (kd p = 0 ∨ kd p = 1 ∨ kd p = 3) → False := fun y => by
      have g := pw_chk hw hn hpn
      unfold pr_ar at g
      rw [if_neg (by omega), if_neg (by omega), if_neg (by omega), if_neg (by omega)] at g
      omega
    refine nm_e (pk_lt (kd p) 4 (fun k => ?_) (fun k => pk_lt 7 (kd p) (fun k => by omega) (fun k => ?_)))
    · by_cases k2 : kd p = 2
      · rw [if_pos k2] at hp; exact hp
      · exact absurd (show kd p = 0 ∨ kd p = 1 ∨ kd p = 3 by omega) hcs
    rw [if_neg (by omega)] at hp
    refine pk_eq (kd p) 4 (fun k => ?_) (fun k4 => ?_)
    · rw [if_pos k] at hp
      exact pk_eq (tr_cx N (pr_ar F pc kd na) p n) 0 (fun k => by rw [if_pos k] at hp; exact hp) (fun k => by rw [if_neg k] at hp; exact hp)
    rw [if_neg k4] at hp
    refine pk_eq (kd p) 5 (fun k => ⟨hvp, ?_⟩) (fun k5 => ?_)
    · rw [if_pos k] at hp
      obtain ⟨a1, a2, a3⟩ := pr_ar5 hw h hnm (n := p) (by omega) k
      rw [a3]
      exact wx_paramType h a1 hp
    rw [if_neg k5] at hp
    refine pk_eq (kd p) 6 (fun k => ?_) (fun k6 => pk_eq (kd p) 7 (fun k => ?_) (fun k7 => trivial))
    · refine pk_eq (tr_cx N (pr_ar F pc kd na) p n) 0 (fun k0 => by rw [if_pos k0, if_neg (by omega)] at hp; exact hp) (fun k0 => ⟨hvp, ?_⟩)
      rw [if_neg k0] at hp; exact hp
    · refine pk_eq (tr_cx N (pr_ar F pc kd na) p n) 0 (fun k0 => by rw [if_pos k0, if_pos k] at hp; exact hp) (fun k0 => ⟨hvp, ?_⟩)
      rw [if_neg k0] at hp; exact hp
theorem wx_ownType {post : Int32 → Prop} (h : pr_in F N pc rt bs kd mk na) (hw : pg_wf F N bs (pr_ar F pc kd na)) (hnm : pr_nm F N pc bs kd na) {n : Nat} (hn : n < N)
    (hl : ∀ x, x < pr_sc F N pc bs kd na n → a_levelTypes x = nI (pr_ty F N pc bs kd mk na n x)) (he : a_expectedTypes n = nI (pr_et F N pc rt bs kd mk na n)) (hp : post (nI (pr_ow F N pc rt bs kd mk na n))) : wpX_ownType post ((nI M), (nI F), (nI N), f_code, f_faultFunction, f_bound, f_foundParam, f_foundDrop, f_status, f_calls, f_depth, f_fuelLimit, f_begun, f_beginLimit, f_waitingFunction, f_currentNode, f_valueKnown, f_currentValue, (fun i => nI (pc i)), mk, (fun i => nI (rt i)), (fun i => nI (bs i)), (fun i => nI (kd i)), na, a_parents, a_childIndexes, a_subtreeEnds, a_scopeSizes, a_levelTypes, a_levelParams, a_levelDrops, a_expectedTypes, a_totals, a_slotTypes, a_slotValues, a_waitingArgs, a_callNodes, a_levelValues, a_nodeValues) (nI n) := by
  have h6 := h.1
  have h64 := h.2.1
  have hk := h.2.2.2.2.2.1 n
  have e : (nI n).toNatClampNeg = n := nI_clamp (by omega)
  have hv : vp_in (nI n) 64 := vp_in_nI (by omega) (by omega)
  unfold pr_ow et_own at hp
  simp only [wpX_ownType, e, he]
  refine ⟨hv, nm_e (br_f (nI_pos (by omega)) (pk_lt 5 (kd n) (fun k => ⟨hv, ?_⟩) (fun k => ?_)))⟩
  · rw [if_neg (by omega), if_neg (by omega), if_neg (by omega), if_neg (by omega)] at hp; exact hp
  refine pk_eq (kd n) 0 (fun k => ⟨hv, ?_⟩) (fun k0 => ?_)
  · rw [if_pos k] at hp
    obtain ⟨x1, x2⟩ := (hnm n hn).1 k
    have s45 := pr_sc_le h hw hn
    rw [x2, nI_clamp (by omega), hl _ x1]
    exact ⟨vp_in_nI (by omega) (by omega), hp⟩
  rw [if_neg k0] at hp
  refine pk_eq (kd n) 1 (fun k => by rw [if_pos (Or.inl k)] at hp; exact hp) (fun k1 => ?_)
  refine pk_eq (kd n) 2 (fun k => by rw [if_pos (Or.inr k)] at hp; exact hp) (fun k2 => ?_)
  rw [if_neg (by omega)] at hp
  refine pk_eq (kd n) 3 (fun k => by rw [if_pos (Or.inl k)] at hp; exact hp) (fun k3 => ?_)
  refine pk_eq (kd n) 4 (fun k => by rw [if_pos (Or.inr k)] at hp; exact hp) (fun k4 => ?_)
  rw [if_neg (by omega)] at hp
  refine pk_eq (kd n) 5 (fun k => ⟨hv, ?_⟩) (fun k5 => trivial)
  rw [if_pos k] at hp
  obtain ⟨a1, a2, a3⟩ := pr_ar5 hw h hnm hn k
  rw [a3, nI_clamp (by omega)]
  exact ⟨vp_in_nI (by omega) (by omega), hp⟩
theorem wx_ty43 {post : Int32 → St2 → Prop} (h : pr_in F N pc rt bs kd mk na) (hw : pg_wf F N bs (pr_ar F pc kd na)) (hnm : pr_nm F N pc bs kd na) (HT : tb_ok N (pr_ar F pc kd na) kd (pr_z F bs pc) a_parents a_childIndexes a_subtreeEnds a_scopeSizes N) {f : Nat} (hf : f < F) :
    ∀ (r n fu : Nat) (lt ets : Nat → Int32), n + r = pg_be F N bs f → bs f ≤ n → r < fu → (0 < r → pr_tp F N pc bs kd mk na lt n) → (∀ j, bs f ≤ j → j < n → ets j = nI (pr_et F N pc rt bs kd mk na j)) →
      (∀ lt ets, post (cd_ty (pr_ow F N pc rt bs kd mk na) (pr_et F N pc rt bs kd mk na) r n) ((nI M), (nI F), (nI N), f_code, f_faultFunction, f_bound, f_foundParam, f_foundDrop, f_status, f_calls, f_depth, f_fuelLimit, f_begun, f_beginLimit, f_waitingFunction, f_currentNode, f_valueKnown, f_currentValue, (fun i => nI (pc i)), mk, (fun i => nI (rt i)), (fun i => nI (bs i)), (fun i => nI (kd i)), na, a_parents, a_childIndexes, a_subtreeEnds, a_scopeSizes, lt, a_levelParams, a_levelDrops, ets, a_totals, a_slotTypes, a_slotValues, a_waitingArgs, a_callNodes, a_levelValues, a_nodeValues)) → wX_checkTypes_43 post (nI f) (nI (pg_be F N bs f)) fu (nI n) (nI M) (nI F) (nI N) f_code f_faultFunction f_bound f_foundParam f_foundDrop f_status f_calls f_depth f_fuelLimit f_begun f_beginLimit f_waitingFunction f_currentNode f_valueKnown f_currentValue (fun i => nI (pc i)) mk (fun i => nI (rt i)) (fun i => nI (bs i)) (fun i => nI (kd i)) na a_parents a_childIndexes a_subtreeEnds a_scopeSizes lt a_levelParams a_levelDrops ets a_totals a_slotTypes a_slotValues a_waitingArgs a_callNodes a_levelValues a_nodeValues := by
  have h64 := h.2.1
  have hN := pg_lastN hw hf
  intro r
  induction r with
  | zero =>
    intro n fu lt ets h1 h2 h3 h4 h5 hp
    obtain ⟨fu, rfl⟩ : ∃ f, fu = f + 1 := ⟨fu - 1, by omega⟩
    exact br_t (nI_le (by omega) (by omega)) (hp lt ets)
  | succ r ih =>
    intro n fu lt ets h1 h2 h3 h4 h5 hp
    obtain ⟨fu, rfl⟩ : ∃ f, fu = f + 1 := ⟨fu - 1, by omega⟩
    have hn : n < N := by omega
    have hfn : pg_fn F bs n = f := pg_fn_is hw hf h2 (by omega)
    have e : (nI n).toNatClampNeg = n := nI_clamp (by omega)
    have hv : vp_in (nI n) 64 := vp_in_nI (by omega) (by omega)
    refine br_f (nI_ge (by omega) (by omega)) (wx_bindTypes h hw HT hn (h4 (by omega)) (fun lt' hlt' => ?_))
    refine wx_expectedType h hw hnm HT hn hfn (fun p hpn => ?_) ⟨hv, ?_⟩
    · obtain ⟨q, q1, q2, q3⟩ := tr_pa_in (N := N) (hw.2.2.2.2 f hf) hN (j := n) (by
        rcases Nat.eq_or_lt_of_le h2 with z1 | z1
        · rw [← z1, pg_root hw hf] at hpn; cases hpn
        · exact z1) (by omega)
      rw [hpn] at q1
      cases q1
      exact h5 p q2 q3
    rw [e]
    refine nm_e (wx_ownType h hw hnm hn hlt' pk_us ⟨hv, ?_⟩)
    have he' : ∀ j, bs f ≤ j → j < n + 1 → upd ets n (nI (pr_et F N pc rt bs kd mk na n)) j = nI (pr_et F N pc rt bs kd mk na j) := fun j j1 j2 => by
      rcases Nat.eq_or_lt_of_le (Nat.le_of_lt_succ j2) with z1 | z1
      · subst z1; exact pk_us
      · rw [pk_un (by omega)]; exact h5 j j1 z1
    rw [pk_us]
    have o1 := pr_ow2 (n := n) h
    have o2 := pr_et2 (n := n) h
    refine pk_eq (pr_ow F N pc rt bs kd mk na n) (pr_et F N pc rt bs kd mk na n) (fun c => nm_r (nI_1 n) ?_) (fun c => ?_)
    · refine ih (n + 1) fu lt' _ (by omega) (by omega) (by omega) (fun hr => ⟨fun hpn => ?_, fun p hpn x hx => ?_⟩) he' (fun l2 e2 => ?_)
      · obtain ⟨q, q1, _⟩ := tr_pa_in (N := N) (hw.2.2.2.2 f hf) hN (j := n + 1) (by omega) (by omega)
        rw [q1] at hpn; cases hpn
      · have ha := tb_anx hpn
        have hs : pr_sc F N pc bs kd na p ≤ pr_sc F N pc bs kd na n := sq_an n p hn ha
        rw [hlt' x (by omega)]
        exact congrArg nI (ty_an n p x hn ha hx)
      · have := hp l2 e2
        rw [cd_ty, if_pos c] at this
        exact this
    · have := hp lt' (upd ets n (nI (pr_et F N pc rt bs kd mk na n)))
      rw [cd_ty, if_neg c] at this
      exact this
theorem wx_ty2 {post : Int32 → St2 → Prop} (h : pr_in F N pc rt bs kd mk na) (hw : pg_wf F N bs (pr_ar F pc kd na)) (hnm : pr_nm F N pc bs kd na) (HT : tb_ok N (pr_ar F pc kd na) kd (pr_z F bs pc) a_parents a_childIndexes a_subtreeEnds a_scopeSizes N) {f : Nat} (hf : f < F)
    (hp : ∀ lt ets, post (cd_ty (pr_ow F N pc rt bs kd mk na) (pr_et F N pc rt bs kd mk na) (pg_be F N bs f - bs f) (bs f)) ((nI M), (nI F), (nI N), f_code, f_faultFunction, f_bound, f_foundParam, f_foundDrop, f_status, f_calls, f_depth, f_fuelLimit, f_begun, f_beginLimit, f_waitingFunction, f_currentNode, f_valueKnown, f_currentValue, (fun i => nI (pc i)), mk, (fun i => nI (rt i)), (fun i => nI (bs i)), (fun i => nI (kd i)), na, a_parents, a_childIndexes, a_subtreeEnds, a_scopeSizes, lt, a_levelParams, a_levelDrops, ets, a_totals, a_slotTypes, a_slotValues, a_waitingArgs, a_callNodes, a_levelValues, a_nodeValues)) :
    ∀ (r i fu : Nat) (lt : Nat → Int32), i + r = pc f → r < fu → (∀ x, x < i → lt x = nI (pr_pty mk f x)) → wX_checkTypes_2 post (nI f) (nI M) (nI F) (nI N) f_code f_faultFunction f_bound f_foundParam f_foundDrop f_status f_calls f_depth f_fuelLimit f_begun f_beginLimit f_waitingFunction f_currentNode f_valueKnown f_currentValue fu (nI i) (fun i => nI (pc i)) mk (fun i => nI (rt i)) (fun i => nI (bs i)) (fun i => nI (kd i)) na a_parents a_childIndexes a_subtreeEnds a_scopeSizes lt a_levelParams a_levelDrops a_expectedTypes a_totals a_slotTypes a_slotValues a_waitingArgs a_callNodes a_levelValues a_nodeValues := by
  have h6 := h.1
  have h64 := h.2.1
  have hp3 := h.2.2.1 f
  have hN := pg_lastN hw hf
  have hlt := (hw.2.2.2.2 f hf).1
  have e : (nI f).toNatClampNeg = f := nI_clamp (by omega)
  have hv : vp_in (nI f) 6 := vp_in_nI (by omega) (by omega)
  intro r
  induction r with
  | zero =>
    intro i fu lt h1 h2 h3
    obtain ⟨fu, rfl⟩ : ∃ f, fu = f + 1 := ⟨fu - 1, by omega⟩
    refine ⟨hv, ?_⟩
    show ((fun i => nI (pc i)) (nI f).toNatClampNeg ≤ nI i → _) ∧ _
    rw [e]
    refine br_t (nI_le (by omega) (by omega)) (wx_bodyEnd h hf ⟨hv, nm_e ⟨65, ?_⟩⟩)
    refine wx_ty43 h hw hnm HT hf (pg_be F N bs f - bs f) (bs f) 65 lt _ (by omega) (Nat.le_refl _) (by omega) (fun _ => ⟨fun _ x hx => ?_, fun p hpn => ?_⟩) (fun j j1 j2 => by omega) hp
    · unfold pr_z at hx
      rw [pr_root_fn hw hf] at hx
      unfold pr_pt
      rw [pr_root_fn hw hf]
      exact h3 x (by omega)
    · rw [pg_root hw hf] at hpn; cases hpn
  | succ r ih =>
    intro i fu lt h1 h2 h3
    obtain ⟨fu, rfl⟩ : ∃ f, fu = f + 1 := ⟨fu - 1, by omega⟩
    have ei : (nI i).toNatClampNeg = i := nI_clamp (by omega)
    refine ⟨hv, ?_⟩
    show ((fun i => nI (pc i)) (nI f).toNatClampNeg ≤ nI i → _) ∧ _
    rw [e]
    refine br_f (nI_ge (by omega) (by omega)) (wx_paramType h hf ⟨vp_in_nI (by omega) (by omega), ?_⟩)
    rw [ei]
    refine nm_e (nm_r (nI_1 i) (ih (i + 1) fu _ (by omega) (by omega) (fun x hx => ?_)))
    rcases Nat.eq_or_lt_of_le (Nat.le_of_lt_succ hx) with z1 | z1
    · subst z1; exact pk_us
    · rw [pk_un (by omega)]; exact h3 x z1
theorem wx_checkTypes {post : Int32 → St2 → Prop} (h : pr_in F N pc rt bs kd mk na) (hw : pg_wf F N bs (pr_ar F pc kd na)) (hnm : pr_nm F N pc bs kd na) (HT : tb_ok N (pr_ar F pc kd na) kd (pr_z F bs pc) a_parents a_childIndexes a_subtreeEnds a_scopeSizes N) {f : Nat} (hf : f < F)
    (hp : ∀ lt ets, post (cd_ty (pr_ow F N pc rt bs kd mk na) (pr_et F N pc rt bs kd mk na) (pg_be F N bs f - bs f) (bs f)) ((nI M), (nI F), (nI N), f_code, f_faultFunction, f_bound, f_foundParam, f_foundDrop, f_status, f_calls, f_depth, f_fuelLimit, f_begun, f_beginLimit, f_waitingFunction, f_currentNode, f_valueKnown, f_currentValue, (fun i => nI (pc i)), mk, (fun i => nI (rt i)), (fun i => nI (bs i)), (fun i => nI (kd i)), na, a_parents, a_childIndexes, a_subtreeEnds, a_scopeSizes, lt, a_levelParams, a_levelDrops, ets, a_totals, a_slotTypes, a_slotValues, a_waitingArgs, a_callNodes, a_levelValues, a_nodeValues)) : wpX_checkTypes post ((nI M), (nI F), (nI N), f_code, f_faultFunction, f_bound, f_foundParam, f_foundDrop, f_status, f_calls, f_depth, f_fuelLimit, f_begun, f_beginLimit, f_waitingFunction, f_currentNode, f_valueKnown, f_currentValue, (fun i => nI (pc i)), mk, (fun i => nI (rt i)), (fun i => nI (bs i)), (fun i => nI (kd i)), na, a_parents, a_childIndexes, a_subtreeEnds, a_scopeSizes, a_levelTypes, a_levelParams, a_levelDrops, a_expectedTypes, a_totals, a_slotTypes, a_slotValues, a_waitingArgs, a_callNodes, a_levelValues, a_nodeValues) (nI f) := by
  have hp3 := h.2.2.1 f
  exact ⟨4, wx_ty2 h hw hnm HT hf hp (pc f) 0 4 a_levelTypes (by omega) (by omega) (fun x hx => by omega)⟩
end
