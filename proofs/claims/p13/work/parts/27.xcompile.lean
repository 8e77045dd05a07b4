section
variable {f_sizeCap f_functionCount f_nodeCount f_code f_faultFunction f_foundParam f_foundDrop f_status f_depth f_begun f_beginLimit f_waitingFunction f_currentNode f_valueKnown : Int32} {f_bound f_calls f_fuelLimit f_currentValue : Int64} {a_paramCounts a_listMasks a_resultTypes a_bodyStarts a_nodeKinds a_nodeArgs a_parents a_childIndexes a_subtreeEnds a_scopeSizes a_levelTypes a_levelParams a_levelDrops a_expectedTypes a_slotTypes a_callNodes : Nat → Int32} {a_totals a_slotValues a_waitingArgs a_levelValues a_nodeValues : Nat → Int64}
variable {M F N k : Nat} {pc rt bs kd : Nat → Nat} {mk na : Nat → Int32}
/-- where the tables end once f functions are laid out -/
def pr_lim (F N : Nat) (bs : Nat → Nat) (f : Nat) : Nat := if f < F then bs f else N
theorem pr_lim_s {f : Nat} : pr_lim F N bs (f + 1) = pg_be F N bs f := rfl
theorem wx_cf1 {post : St2 → Prop} (h : pr_in F N pc rt bs kd mk na) : ∀ (r f fu : Nat), f + r = F → r < fu → post ((nI M), (nI F), (nI N), ((cd_r (pr_q1 F N pc bs kd na) r f).1), ((cd_r (pr_q1 F N pc bs kd na) r f).2), f_bound, f_foundParam, f_foundDrop, f_status, f_calls, f_depth, f_fuelLimit, f_begun, f_beginLimit, f_waitingFunction, f_currentNode, f_valueKnown, f_currentValue, (fun i => nI (pc i)), mk, (fun i => nI (rt i)), (fun i => nI (bs i)), (fun i => nI (kd i)), na, a_parents, a_childIndexes, a_subtreeEnds, a_scopeSizes, a_levelTypes, a_levelParams, a_levelDrops, a_expectedTypes, a_totals, a_slotTypes, a_slotValues, a_waitingArgs, a_callNodes, a_levelValues, a_nodeValues) → wX_checkFunctions_2 post 1 fu (nI f) (nI M) (nI F) (nI N) 1 (-1) f_bound f_foundParam f_foundDrop f_status f_calls f_depth f_fuelLimit f_begun f_beginLimit f_waitingFunction f_currentNode f_valueKnown f_currentValue (fun i => nI (pc i)) mk (fun i => nI (rt i)) (fun i => nI (bs i)) (fun i => nI (kd i)) na a_parents a_childIndexes a_subtreeEnds a_scopeSizes a_levelTypes a_levelParams a_levelDrops a_expectedTypes a_totals a_slotTypes a_slotValues a_waitingArgs a_callNodes a_levelValues a_nodeValues := by
  have h6 := h.1
  intro r
  induction r with
  | zero =>
    intro f fu h1 h2 hp
    obtain ⟨fu, rfl⟩ : ∃ f, fu = f + 1 := ⟨fu - 1, by omega⟩
    exact br_t (nI_le (by omega) (by omega)) hp
  | succ r ih =>
    intro f fu h1 h2 hp
    obtain ⟨fu, rfl⟩ : ∃ f, fu = f + 2 := ⟨fu - 2, by omega⟩
    rw [cd_r] at hp
    refine br_f (nI_ge (by omega) (by omega)) (br_t rfl (br_f (by decide) (br_f (by decide) (br_t rfl ?_))))
    refine wx_checkShape h (by omega) (fun y => ?_) (fun y => ?_)
    · rw [if_pos (pr_q1_t y)] at hp
      exact wx_99 (fun _ => ih (f + 1) (fu + 1) (by omega) (by omega) hp) (fun z => absurd rfl z)
    · rw [pr_q1_f y, if_neg (by decide)] at hp
      exact wx_99 (fun z => absurd z (by decide)) (fun z => wx_cfz z hp)
theorem wx_cf2 {post : St2 → Prop} (h : pr_in F N pc rt bs kd mk na) (hw : pg_wf F N bs (pr_ar F pc kd na)) :
    ∀ (r f fu : Nat) (par cx se sc : Nat → Int32), f + r = F → r < fu → tb_ok N (pr_ar F pc kd na) kd (pr_z F bs pc) par cx se sc (pr_lim F N bs f) →
      (∀ par cx se sc, ((cd_r (pr_q2 F N pc bs kd na) r f).1 = 1 → tb_ok N (pr_ar F pc kd na) kd (pr_z F bs pc) par cx se sc N) → post ((nI M), (nI F), (nI N), ((cd_r (pr_q2 F N pc bs kd na) r f).1), ((cd_r (pr_q2 F N pc bs kd na) r f).2), f_bound, f_foundParam, f_foundDrop, f_status, f_calls, f_depth, f_fuelLimit, f_begun, f_beginLimit, f_waitingFunction, f_currentNode, f_valueKnown, f_currentValue, (fun i => nI (pc i)), mk, (fun i => nI (rt i)), (fun i => nI (bs i)), (fun i => nI (kd i)), na, par, cx, se, sc, a_levelTypes, a_levelParams, a_levelDrops, a_expectedTypes, a_totals, a_slotTypes, a_slotValues, a_waitingArgs, a_callNodes, a_levelValues, a_nodeValues)) →
      wX_checkFunctions_2 post 2 fu (nI f) (nI M) (nI F) (nI N) 1 (-1) f_bound f_foundParam f_foundDrop f_status f_calls f_depth f_fuelLimit f_begun f_beginLimit f_waitingFunction f_currentNode f_valueKnown f_currentValue (fun i => nI (pc i)) mk (fun i => nI (rt i)) (fun i => nI (bs i)) (fun i => nI (kd i)) na par cx se sc a_levelTypes a_levelParams a_levelDrops a_expectedTypes a_totals a_slotTypes a_slotValues a_waitingArgs a_callNodes a_levelValues a_nodeValues := by
  have h6 := h.1
  intro r
  induction r with
  | zero =>
    intro f fu par cx se sc h1 h2 h3 hp
    obtain ⟨fu, rfl⟩ : ∃ f, fu = f + 1 := ⟨fu - 1, by omega⟩
    unfold pr_lim at h3
    rw [if_neg (by omega)] at h3
    exact br_t (nI_le (by omega) (by omega)) (hp par cx se sc (fun _ => h3))
  | succ r ih =>
    intro f fu par cx se sc h1 h2 h3 hp
    obtain ⟨fu, rfl⟩ : ∃ f, fu = f + 2 := ⟨fu - 2, by omega⟩
    have hf : f < F := by omega
    have hN := pg_lastN hw hf
    have hwf := hw.2.2.2.2 f hf
    unfold pr_lim at h3
    rw [if_pos hf] at h3
    refine br_f (nI_ge (by omega) (by omega)) (br_t rfl (br_f (by decide) (br_f (by decide) (br_f (by decide) (br_t rfl ?_)))))
    refine wx_layOutTree (a_parents := par) (a_childIndexes := cx) (a_subtreeEnds := se) h hf hwf (fun par1 cx1 se1 hlay => ?_)
    have hl := tb_lay_e hwf hN hw.2.2.1 (pg_root hw hf) hlay
    refine wx_layOutScopes (a_parents := par1) (a_childIndexes := cx1) (a_subtreeEnds := se1) (a_scopeSizes := sc) h hw hf (fun j j1 j2 => ⟨(hl j j1 j2).1, (hl j j1 j2).2.1⟩) (fun j hj => (h3 j hj).2.2.2) (fun sc1 hsc => ?_)
    refine wx_checkNames (a_scopeSizes := sc1) h hf hsc ?_
    have htb : tb_ok N (pr_ar F pc kd na) kd (pr_z F bs pc) par1 cx1 se1 sc1 (pr_lim F N bs (f + 1)) := by
      rw [pr_lim_s]
      intro j hj
      rcases Nat.lt_or_ge j (bs f) with c | c
      · obtain ⟨g1, g2, g3⟩ := hlay.2.2.2.2 j c
        obtain ⟨k1, k2, k3, k4⟩ := h3 j c
        exact ⟨g1.trans k1, g2.trans k2, g3.trans k3, hsc j hj⟩
      · obtain ⟨k1, k2, k3⟩ := hl j c hj
        exact ⟨k1, k2, k3, hsc j hj⟩
    rw [cd_r] at hp
    show wX_checkFunctions_99 post _ _ _ (nI M) (nI F) (nI N) (pr_q2 F N pc bs kd na f) (-1) f_bound f_foundParam f_foundDrop f_status f_calls f_depth f_fuelLimit f_begun f_beginLimit f_waitingFunction f_currentNode f_valueKnown f_currentValue (fun i => nI (pc i)) mk (fun i => nI (rt i)) (fun i => nI (bs i)) (fun i => nI (kd i)) na par1 cx1 se1 sc1 a_levelTypes a_levelParams a_levelDrops a_expectedTypes a_totals a_slotTypes a_slotValues a_waitingArgs a_callNodes a_levelValues a_nodeValues
    by_cases hq : pr_q2 F N pc bs kd na f = 1
    · rw [if_pos hq] at hp
      rw [hq]
      exact wx_99 (fun _ => ih (f + 1) (fu + 1) par1 cx1 se1 sc1 (by omega) (by omega) htb hp) (fun z => absurd rfl z)
    · rw [if_neg hq] at hp
      exact wx_99 (fun z => absurd z hq) (fun z => wx_cfz z (hp par1 cx1 se1 sc1 (fun y => absurd y hq)))
theorem wx_cf3 {post : St2 → Prop} (h : pr_in F N pc rt bs kd mk na) (hw : pg_wf F N bs (pr_ar F pc kd na)) (hnm : pr_nm F N pc bs kd na) (HT : tb_ok N (pr_ar F pc kd na) kd (pr_z F bs pc) a_parents a_childIndexes a_subtreeEnds a_scopeSizes N) :
    ∀ (r f fu : Nat) (lt ets : Nat → Int32), f + r = F → r < fu →
      (∀ lt ets, post ((nI M), (nI F), (nI N), ((cd_r (pr_q3 F N pc rt bs kd mk na) r f).1), ((cd_r (pr_q3 F N pc rt bs kd mk na) r f).2), f_bound, f_foundParam, f_foundDrop, f_status, f_calls, f_depth, f_fuelLimit, f_begun, f_beginLimit, f_waitingFunction, f_currentNode, f_valueKnown, f_currentValue, (fun i => nI (pc i)), mk, (fun i => nI (rt i)), (fun i => nI (bs i)), (fun i => nI (kd i)), na, a_parents, a_childIndexes, a_subtreeEnds, a_scopeSizes, lt, a_levelParams, a_levelDrops, ets, a_totals, a_slotTypes, a_slotValues, a_waitingArgs, a_callNodes, a_levelValues, a_nodeValues)) →
      wX_checkFunctions_2 post 3 fu (nI f) (nI M) (nI F) (nI N) 1 (-1) f_bound f_foundParam f_foundDrop f_status f_calls f_depth f_fuelLimit f_begun f_beginLimit f_waitingFunction f_currentNode f_valueKnown f_currentValue (fun i => nI (pc i)) mk (fun i => nI (rt i)) (fun i => nI (bs i)) (fun i => nI (kd i)) na a_parents a_childIndexes a_subtreeEnds a_scopeSizes lt a_levelParams a_levelDrops ets a_totals a_slotTypes a_slotValues a_waitingArgs a_callNodes a_levelValues a_nodeValues := by
  have h6 := h.1
  intro r
  induction r with
  | zero =>
    intro f fu lt ets h1 h2 hp
    obtain ⟨fu, rfl⟩ : ∃ f, fu = f + 1 := ⟨fu - 1, by omega⟩
    exact br_t (nI_le (by omega) (by omega)) (hp lt ets)
  | succ r ih =>
    intro f fu lt ets h1 h2 hp
    obtain ⟨fu, rfl⟩ : ∃ f, fu = f + 2 := ⟨fu - 2, by omega⟩
    have hf : f < F := by omega
    refine br_f (nI_ge (by omega) (by omega)) (br_t rfl (br_f (by decide) (br_f (by decide) (br_f (by decide) (br_f (by decide) (br_t rfl ?_))))))
    refine wx_checkTypes (a_levelTypes := lt) (a_expectedTypes := ets) h hw hnm HT hf (fun lt1 ets1 => ?_)
    rw [cd_r] at hp
    show wX_checkFunctions_99 post _ _ _ (nI M) (nI F) (nI N) (pr_q3 F N pc rt bs kd mk na f) (-1) f_bound f_foundParam f_foundDrop f_status f_calls f_depth f_fuelLimit f_begun f_beginLimit f_waitingFunction f_currentNode f_valueKnown f_currentValue (fun i => nI (pc i)) mk (fun i => nI (rt i)) (fun i => nI (bs i)) (fun i => nI (kd i)) na a_parents a_childIndexes a_subtreeEnds a_scopeSizes lt1 a_levelParams a_levelDrops ets1 a_totals a_slotTypes a_slotValues a_waitingArgs a_callNodes a_levelValues a_nodeValues
    by_cases hq : pr_q3 F N pc rt bs kd mk na f = 1
    · rw [if_pos hq] at hp
      rw [hq]
      exact wx_99 (fun _ => ih (f + 1) (fu + 1) lt1 ets1 (by omega) (by omega) hp) (fun z => absurd rfl z)
    · rw [if_neg hq] at hp
      exact wx_99 (fun z => absurd z hq) (fun z => wx_cfz z (hp lt1 ets1))
theorem wx_cf4 {post : St2 → Prop} (h : pr_in F N pc rt bs kd mk na) (hw : pg_wf F N bs (pr_ar F pc kd na)) (hnm : pr_nm F N pc bs kd na) (HT : tb_ok N (pr_ar F pc kd na) kd (pr_z F bs pc) a_parents a_childIndexes a_subtreeEnds a_scopeSizes N) :
    ∀ (r f fu : Nat) (a b : Int32) (lp ld : Nat → Int32), f + r = F → r < fu →
      (∀ a b lp ld, post ((nI M), (nI F), (nI N), ((cd_r (pr_q4 F N pc bs kd na) r f).1), ((cd_r (pr_q4 F N pc bs kd na) r f).2), f_bound, a, b, f_status, f_calls, f_depth, f_fuelLimit, f_begun, f_beginLimit, f_waitingFunction, f_currentNode, f_valueKnown, f_currentValue, (fun i => nI (pc i)), mk, (fun i => nI (rt i)), (fun i => nI (bs i)), (fun i => nI (kd i)), na, a_parents, a_childIndexes, a_subtreeEnds, a_scopeSizes, a_levelTypes, lp, ld, a_expectedTypes, a_totals, a_slotTypes, a_slotValues, a_waitingArgs, a_callNodes, a_levelValues, a_nodeValues)) →
      wX_checkFunctions_2 post 4 fu (nI f) (nI M) (nI F) (nI N) 1 (-1) f_bound a b f_status f_calls f_depth f_fuelLimit f_begun f_beginLimit f_waitingFunction f_currentNode f_valueKnown f_currentValue (fun i => nI (pc i)) mk (fun i => nI (rt i)) (fun i => nI (bs i)) (fun i => nI (kd i)) na a_parents a_childIndexes a_subtreeEnds a_scopeSizes a_levelTypes lp ld a_expectedTypes a_totals a_slotTypes a_slotValues a_waitingArgs a_callNodes a_levelValues a_nodeValues := by
  have h6 := h.1
  intro r
  induction r with
  | zero =>
    intro f fu a b lp ld h1 h2 hp
    obtain ⟨fu, rfl⟩ : ∃ f, fu = f + 1 := ⟨fu - 1, by omega⟩
    exact br_t (nI_le (by omega) (by omega)) (hp a b lp ld)
  | succ r ih =>
    intro f fu a b lp ld h1 h2 hp
    obtain ⟨fu, rfl⟩ : ∃ f, fu = f + 2 := ⟨fu - 2, by omega⟩
    have hf : f < F := by omega
    refine br_f (nI_ge (by omega) (by omega)) (br_t rfl (br_f (by decide) (br_t (by decide) ?_)))
    refine wx_checkDescent (f_foundParam := a) (f_foundDrop := b) (a_levelParams := lp) (a_levelDrops := ld) h hw hnm HT hf (fun a1 b1 lp1 ld1 => ?_)
    rw [cd_r] at hp
    show wX_checkFunctions_99 post _ _ _ (nI M) (nI F) (nI N) (pr_q4 F N pc bs kd na f) (-1) f_bound a1 b1 f_status f_calls f_depth f_fuelLimit f_begun f_beginLimit f_waitingFunction f_currentNode f_valueKnown f_currentValue (fun i => nI (pc i)) mk (fun i => nI (rt i)) (fun i => nI (bs i)) (fun i => nI (kd i)) na a_parents a_childIndexes a_subtreeEnds a_scopeSizes a_levelTypes lp1 ld1 a_expectedTypes a_totals a_slotTypes a_slotValues a_waitingArgs a_callNodes a_levelValues a_nodeValues
    by_cases hq : pr_q4 F N pc bs kd na f = 1
    · rw [if_pos hq] at hp
      rw [hq]
      exact wx_99 (fun _ => ih (f + 1) (fu + 1) a1 b1 lp1 ld1 (by omega) (by omega) hp) (fun z => absurd rfl z)
    · rw [if_neg hq] at hp
      exact wx_99 (fun z => absurd z hq) (fun z => wx_cfz z (hp a1 b1 lp1 ld1))
/-- code and fault of the whole check -/
noncomputable def pr_res (F N : Nat) (pc rt bs kd : Nat → Nat) (mk na : Nat → Int32) : Int32 × Int32 :=
  if (cd_r (pr_q1 F N pc bs kd na) F 0).1 = 1 then
    (if (cd_r (pr_q2 F N pc bs kd na) F 0).1 = 1 then
      (if (cd_r (pr_q3 F N pc rt bs kd mk na) F 0).1 = 1 then cd_r (pr_q4 F N pc bs kd na) F 0 else cd_r (pr_q3 F N pc rt bs kd mk na) F 0)
    else cd_r (pr_q2 F N pc bs kd na) F 0)
  else cd_r (pr_q1 F N pc bs kd na) F 0
def pr_bnd (M F N : Nat) (pc bs kd : Nat → Nat) (na : Nat → Int32) (c : Int32) : Int64 := if c = 1 then lN (bd_c bd_C (pr_T M F N pc bs kd na (F - 1))) else 0
theorem pr_wf1 (h : pr_in F N pc rt bs kd mk na) (hF : 0 < F) (h1 : (cd_r (pr_q1 F N pc bs kd na) F 0).1 = 1) : pg_wf F N bs (pr_ar F pc kd na) := by
  refine pr_wf h hF (fun f hf => ?_)
  have := (cd_r_1 F 0 h1).1 f hf
  rw [Nat.zero_add] at this
  exact pr_q1_1 this
theorem pr_nm1 (h : pr_in F N pc rt bs kd mk na) (hw : pg_wf F N bs (pr_ar F pc kd na)) (h2 : (cd_r (pr_q2 F N pc bs kd na) F 0).1 = 1) : pr_nm F N pc bs kd na := by
  refine pr_mknm h hw (fun f hf => ?_)
  have := (cd_r_1 F 0 h2).1 f hf
  rw [Nat.zero_add] at this
  exact this
theorem pr_ok1 (h : pr_in F N pc rt bs kd mk na) (hw : pg_wf F N bs (pr_ar F pc kd na)) (hnm : pr_nm F N pc bs kd na) (h3 : (cd_r (pr_q3 F N pc rt bs kd mk na) F 0).1 = 1) : pr_ok F N pc rt bs kd mk na := by
  refine pr_mk h hw hnm (fun f hf => ?_)
  have := (cd_r_1 F 0 h3).1 f hf
  rw [Nat.zero_add] at this
  exact this
theorem cd_rne {q : Nat → Int32} (hq : ∀ f, q f = 1 ∨ q f = 2 ∨ q f = 3 ∨ q f = 4 ∨ q f = 5) : ∀ t f, (cd_r q t f).1 = 1 ∨ ((cd_r q t f).1 ≠ 1 ∧ (cd_r q t f).1 ≠ 6)
  | 0, _ => Or.inl rfl
  | t + 1, f => by
    rw [cd_r]
    split
    · exact cd_rne hq t (f + 1)
    · rename_i e
      refine Or.inr ⟨e, ?_⟩
      show q f ≠ 6
      rcases hq f with z | z | z | z | z
      · exact absurd z e
      · rw [z]; decide
      · rw [z]; decide
      · rw [z]; decide
      · rw [z]; decide
theorem wx_c53 {post : Int32 → St2 → Prop} (h : pr_in F N pc rt bs kd mk na) (hM : M ≤ 12) (hF : 0 < F) {c ft : Int32} (hp : ∀ tt, post c ((nI M), (nI F), (nI N), c, ft, (pr_bnd M F N pc bs kd na c), f_foundParam, f_foundDrop, f_status, f_calls, f_depth, f_fuelLimit, f_begun, f_beginLimit, f_waitingFunction, f_currentNode, f_valueKnown, f_currentValue, (fun i => nI (pc i)), mk, (fun i => nI (rt i)), (fun i => nI (bs i)), (fun i => nI (kd i)), na, a_parents, a_childIndexes, a_subtreeEnds, a_scopeSizes, a_levelTypes, a_levelParams, a_levelDrops, a_expectedTypes, tt, a_slotTypes, a_slotValues, a_waitingArgs, a_callNodes, a_levelValues, a_nodeValues)) : wX_compile_53 post (nI M) (nI F) (nI N) c ft 0 f_foundParam f_foundDrop f_status f_calls f_depth f_fuelLimit f_begun f_beginLimit f_waitingFunction f_currentNode f_valueKnown f_currentValue (fun i => nI (pc i)) mk (fun i => nI (rt i)) (fun i => nI (bs i)) (fun i => nI (kd i)) na a_parents a_childIndexes a_subtreeEnds a_scopeSizes a_levelTypes a_levelParams a_levelDrops a_expectedTypes a_totals a_slotTypes a_slotValues a_waitingArgs a_callNodes a_levelValues a_nodeValues := by
  unfold pr_bnd at hp
  refine br_c (fun y => ?_) (fun y => ?_)
  · rw [if_pos y] at hp
    exact wx_activationBound (f_code := c) (f_faultFunction := ft) (f_bound := 0) h hM hF hp
  · rw [if_neg y] at hp
    exact hp _
theorem wx_czz {post : Int32 → St2 → Prop} (h : pr_in F N pc rt bs kd mk na) (hM : M ≤ 12) (hF : 0 < F) {c ft x1 : Int32} {fu : Nat} (hc : ¬ c = 1) (hp : ∀ tt, post c ((nI M), (nI F), (nI N), c, ft, (pr_bnd M F N pc bs kd na c), f_foundParam, f_foundDrop, f_status, f_calls, f_depth, f_fuelLimit, f_begun, f_beginLimit, f_waitingFunction, f_currentNode, f_valueKnown, f_currentValue, (fun i => nI (pc i)), mk, (fun i => nI (rt i)), (fun i => nI (bs i)), (fun i => nI (kd i)), na, a_parents, a_childIndexes, a_subtreeEnds, a_scopeSizes, a_levelTypes, a_levelParams, a_levelDrops, a_expectedTypes, tt, a_slotTypes, a_slotValues, a_waitingArgs, a_callNodes, a_levelValues, a_nodeValues)) : wX_compile_29 post (fu + 1) x1 (nI M) (nI F) (nI N) c ft 0 f_foundParam f_foundDrop f_status f_calls f_depth f_fuelLimit f_begun f_beginLimit f_waitingFunction f_currentNode f_valueKnown f_currentValue (fun i => nI (pc i)) mk (fun i => nI (rt i)) (fun i => nI (bs i)) (fun i => nI (kd i)) na a_parents a_childIndexes a_subtreeEnds a_scopeSizes a_levelTypes a_levelParams a_levelDrops a_expectedTypes a_totals a_slotTypes a_slotValues a_waitingArgs a_callNodes a_levelValues a_nodeValues :=
  br_c (fun _ => wx_c53 h hM hF hp) (fun _ => br_f hc (wx_c53 h hM hF hp))
theorem wx_compile {post : Int32 → St2 → Prop} (h : pr_in F N pc rt bs kd mk na) (hM : M ≤ 12) (hp7 : F = 0 → post 7 ((nI M), (nI F), (nI N), 7, (-1), 0, f_foundParam, f_foundDrop, 0, 0, 0, f_fuelLimit, f_begun, f_beginLimit, f_waitingFunction, f_currentNode, f_valueKnown, f_currentValue, (fun i => nI (pc i)), mk, (fun i => nI (rt i)), (fun i => nI (bs i)), (fun i => nI (kd i)), na, a_parents, a_childIndexes, a_subtreeEnds, a_scopeSizes, a_levelTypes, a_levelParams, a_levelDrops, a_expectedTypes, a_totals, a_slotTypes, a_slotValues, a_waitingArgs, a_callNodes, a_levelValues, a_nodeValues))
    (hp : 0 < F → ∀ (a b : Int32) (par cx se sc lt lp ld ets : Nat → Int32) (tt : Nat → Int64), ((pr_res F N pc rt bs kd mk na).1 = 1 ∨ (pr_res F N pc rt bs kd mk na).1 = 6 → rl_laid F N pc rt bs kd mk na par cx se sc) →
      post (pr_res F N pc rt bs kd mk na).1 ((nI M), (nI F), (nI N), ((pr_res F N pc rt bs kd mk na).1), ((pr_res F N pc rt bs kd mk na).2), (pr_bnd M F N pc bs kd na (pr_res F N pc rt bs kd mk na).1), a, b, 0, 0, 0, f_fuelLimit, f_begun, f_beginLimit, f_waitingFunction, f_currentNode, f_valueKnown, f_currentValue, (fun i => nI (pc i)), mk, (fun i => nI (rt i)), (fun i => nI (bs i)), (fun i => nI (kd i)), na, par, cx, se, sc, lt, lp, ld, ets, tt, a_slotTypes, a_slotValues, a_waitingArgs, a_callNodes, a_levelValues, a_nodeValues)) : wpX_compile post ((nI M), (nI F), (nI N), f_code, f_faultFunction, f_bound, f_foundParam, f_foundDrop, f_status, f_calls, f_depth, f_fuelLimit, f_begun, f_beginLimit, f_waitingFunction, f_currentNode, f_valueKnown, f_currentValue, (fun i => nI (pc i)), mk, (fun i => nI (rt i)), (fun i => nI (bs i)), (fun i => nI (kd i)), na, a_parents, a_childIndexes, a_subtreeEnds, a_scopeSizes, a_levelTypes, a_levelParams, a_levelDrops, a_expectedTypes, a_totals, a_slotTypes, a_slotValues, a_waitingArgs, a_callNodes, a_levelValues, a_nodeValues) := by
  have h6 := h.1
  refine pk_eq F 0 (fun z1 => hp7 z1) (fun z1 => ⟨6, ?_⟩)
  have hF : 0 < F := by omega
  have hp := hp hF
  have o1 := cd_rne (q := pr_q1 F N pc bs kd na) (fun f => by
    rcases Classical.em (tr_wf (pr_ar F pc kd na) (bs f) (pg_be F N bs f)) with y | y
    · exact Or.inl (pr_q1_t y)
    · exact Or.inr (Or.inl (pr_q1_f y))) F 0
  have o2 := cd_rne (q := pr_q2 F N pc bs kd na) (fun f => by
    rcases cd_nm_5 (kd := kd) (na := na) (sc := pr_sc F N pc bs kd na) (f := f) (pg_be F N bs f - bs f) (bs f) with y | y | y
    · exact Or.inl y
    · exact Or.inr (Or.inr (Or.inl y))
    · exact Or.inr (Or.inr (Or.inr (Or.inl y)))) F 0
  have o3 := cd_rne (q := pr_q3 F N pc rt bs kd mk na) (fun f => by
    rcases cd_ty_5 (own := pr_ow F N pc rt bs kd mk na) (et := pr_et F N pc rt bs kd mk na) (pg_be F N bs f - bs f) (bs f) with y | y
    · exact Or.inl y
    · exact Or.inr (Or.inr (Or.inr (Or.inr y)))) F 0
  refine br_f (by decide) (br_t rfl ⟨8, wx_cf1 h F 0 8 (by omega) (by omega) (nm_r (e' := 2) rfl ?_)⟩)
  by_cases e1 : (cd_r (pr_q1 F N pc bs kd na) F 0).1 = 1
  · have hw := pr_wf1 h hF e1
    rw [e1, (cd_r_1 F 0 e1).2]
    refine br_f (by decide) (br_t rfl ⟨8, wx_cf2 h hw F 0 8 _ _ _ _ (by omega) (by omega) (fun n hn => ?_) (fun par cx se sc htb => nm_r (e' := 3) rfl ?_)⟩)
    · unfold pr_lim at hn
      rw [if_pos hF, hw.2.2.2.1] at hn
      omega
    by_cases e2 : (cd_r (pr_q2 F N pc bs kd na) F 0).1 = 1
    · have hnm := pr_nm1 h hw e2
      have HT := htb e2
      rw [e2, (cd_r_1 F 0 e2).2]
      refine br_f (by decide) (br_t rfl ⟨8, wx_cf3 (a_parents := par) (a_childIndexes := cx) (a_subtreeEnds := se) (a_scopeSizes := sc) h hw hnm HT F 0 8 _ _ (by omega) (by omega) (fun lt ets => nm_r (e' := 4) rfl ?_)⟩)
      by_cases e3 : (cd_r (pr_q3 F N pc rt bs kd mk na) F 0).1 = 1
      · have hok := pr_ok1 h hw hnm e3
        have er : pr_res F N pc rt bs kd mk na = cd_r (pr_q4 F N pc bs kd na) F 0 := by unfold pr_res; rw [if_pos e1, if_pos e2, if_pos e3]
        rw [er] at hp
        rw [e3, (cd_r_1 F 0 e3).2]
        refine br_f (by decide) (br_t rfl ⟨8, wx_cf4 (a_parents := par) (a_childIndexes := cx) (a_subtreeEnds := se) (a_scopeSizes := sc) (a_levelTypes := lt) (a_expectedTypes := ets) h hw hnm HT F 0 8 _ _ _ _ (by omega) (by omega) (fun a b lp ld => nm_r (e' := 5) rfl ?_)⟩)
        exact br_t (by decide) (wx_c53 h hM hF (fun tt => hp a b par cx se sc lt lp ld ets tt (fun _ => ⟨hF, hok, hnm, HT⟩)))
      · have er : pr_res F N pc rt bs kd mk na = cd_r (pr_q3 F N pc rt bs kd mk na) F 0 := by unfold pr_res; rw [if_pos e1, if_pos e2, if_neg e3]
        rw [er] at hp
        refine wx_czz h hM hF e3 (fun tt => hp _ _ par cx se sc lt _ _ ets tt (fun y => ?_))
        rcases o3 with w | w
        · exact absurd w e3
        · rcases y with y | y
          · exact absurd y w.1
          · exact absurd y w.2
    · have er : pr_res F N pc rt bs kd mk na = cd_r (pr_q2 F N pc bs kd na) F 0 := by unfold pr_res; rw [if_pos e1, if_neg e2]
      rw [er] at hp
      refine wx_czz h hM hF e2 (fun tt => hp _ _ par cx se sc _ _ _ _ tt (fun y => ?_))
      rcases o2 with w | w
      · exact absurd w e2
      · rcases y with y | y
        · exact absurd y w.1
        · exact absurd y w.2
  · have er : pr_res F N pc rt bs kd mk na = cd_r (pr_q1 F N pc bs kd na) F 0 := by unfold pr_res; rw [if_neg e1]
    rw [er] at hp
    refine wx_czz h hM hF e1 (fun tt => hp _ _ _ _ _ _ _ _ _ _ tt (fun y => ?_))
    rcases o1 with w | w
    · exact absurd w e1
    · rcases y with y | y
      · exact absurd y w.1
      · exact absurd y w.2
end
