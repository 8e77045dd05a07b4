section
variable {f_sizeCap f_functionCount f_nodeCount f_code f_faultFunction f_foundParam f_foundDrop f_status f_depth f_begun f_beginLimit f_waitingFunction f_currentNode f_valueKnown : Int32} {f_bound f_calls f_fuelLimit f_currentValue : Int64} {a_paramCounts a_listMasks a_resultTypes a_bodyStarts a_nodeKinds a_nodeArgs a_parents a_childIndexes a_subtreeEnds a_scopeSizes a_levelTypes a_levelParams a_levelDrops a_expectedTypes a_slotTypes a_callNodes : Nat → Int32} {a_totals a_slotValues a_waitingArgs a_levelValues a_nodeValues : Nat → Int64}
variable {M F N k : Nat} {pc rt bs kd : Nat → Nat} {mk na : Nat → Int32}
variable {post : Int32 → Prop}
theorem wx_bodyEnd (h : pr_in F N pc rt bs kd mk na) {f : Nat} (hf : f < F) (hp : post (nI (pg_be F N bs f))) : wpX_bodyEnd post ((nI M), (nI F), (nI N), f_code, f_faultFunction, f_bound, f_foundParam, f_foundDrop, f_status, f_calls, f_depth, f_fuelLimit, f_begun, f_beginLimit, f_waitingFunction, f_currentNode, f_valueKnown, f_currentValue, (fun i => nI (pc i)), mk, (fun i => nI (rt i)), (fun i => nI (bs i)), (fun i => nI (kd i)), na, a_parents, a_childIndexes, a_subtreeEnds, a_scopeSizes, a_levelTypes, a_levelParams, a_levelDrops, a_expectedTypes, a_totals, a_slotTypes, a_slotValues, a_waitingArgs, a_callNodes, a_levelValues, a_nodeValues) (nI f) := by
  have h6 := h.1
  have h64 := h.2.1
  unfold pg_be at hp
  simp only [wpX_bodyEnd, nI_1]
  refine pk_le F (f + 1) (fun c => ?_) (fun c => ⟨vp_in_nI (by omega) (by omega), ?_⟩)
  · rw [if_neg (by omega)] at hp; exact hp
  · rw [if_pos (by omega)] at hp; rw [nI_clamp (by omega)]; exact hp
theorem wx_arityOf (h : pr_in F N pc rt bs kd mk na) {i : Nat} (hi : i < N) (hp : post (nI (pr_ar F pc kd na i))) : wpX_arityOf post ((nI M), (nI F), (nI N), f_code, f_faultFunction, f_bound, f_foundParam, f_foundDrop, f_status, f_calls, f_depth, f_fuelLimit, f_begun, f_beginLimit, f_waitingFunction, f_currentNode, f_valueKnown, f_currentValue, (fun i => nI (pc i)), mk, (fun i => nI (rt i)), (fun i => nI (bs i)), (fun i => nI (kd i)), na, a_parents, a_childIndexes, a_subtreeEnds, a_scopeSizes, a_levelTypes, a_levelParams, a_levelDrops, a_expectedTypes, a_totals, a_slotTypes, a_slotValues, a_waitingArgs, a_callNodes, a_levelValues, a_nodeValues) (nI i) := by
  have h6 := h.1
  have h64 := h.2.1
  have hk := h.2.2.2.2.2.1 i
  have e : (nI i).toNatClampNeg = i := nI_clamp (by omega)
  have hv : vp_in (nI i) 64 := vp_in_nI (by omega) (by omega)
  unfold pr_ar at hp
  simp only [wpX_arityOf, e]
  refine ⟨hv, nm_e ?_⟩
  refine pk_lt (kd i) 2 (fun c => by rw [if_neg (by omega), if_neg (by omega), if_neg (by omega), if_neg (by omega)] at hp; exact hp) (fun c => ?_)
  refine pk_lt 7 (kd i) (fun c => by omega) (fun c => ?_)
  refine pk_eq (kd i) 2 (fun c => by rw [if_pos c] at hp; exact hp) (fun c2 => ?_)
  rw [if_neg c2] at hp
  refine pk_eq (kd i) 3 (fun c => by rw [if_neg (by omega), if_neg (by omega), if_neg (by omega)] at hp; exact hp) (fun c3 => ?_)
  refine pk_eq (kd i) 4 (fun c => by rw [if_pos c] at hp; exact hp) (fun c4 => ?_)
  rw [if_neg c4] at hp
  refine pk_eq (kd i) 5 (fun c => ⟨hv, ?_⟩) (fun c5 => ?_)
  · rw [if_neg (by omega)] at hp
    refine br_c (fun c1 => ?_) (fun c1 => br_c (fun c2 => ?_) (fun c2 => ?_))
    · rw [if_neg (fun y => y.2.1 c1)] at hp
      exact br_t rfl hp
    · rw [if_neg (fun y => Int32.not_le.mpr y.2.2 c2)] at hp
      exact br_t rfl hp
    · refine br_f (by decide) ⟨hv, ?_, ?_⟩
      · obtain ⟨j, hj, e2⟩ := nI_of c1
        rw [e2, nI_leI (by omega) hj] at c2
        rw [e2]; exact vp_in_nI (by omega) (by omega)
      · rw [if_pos ⟨c, c1, Int32.not_le.mp c2⟩] at hp; exact hp
  · refine pk_eq (kd i) 6 (fun c => by rw [if_pos (Or.inl c)] at hp; exact hp) (fun c6 => ?_)
    exact pk_eq (kd i) 7 (fun c => by rw [if_pos (Or.inr c)] at hp; exact hp) (fun c7 => trivial)
theorem wx_checkShape_l (h : pr_in F N pc rt bs kd mk na) {e : Nat} (he : e ≤ N) : ∀ (t d n fu : Nat), n + t = e → t < fu → d + 3 * t ≤ 300 → (tr_shp (pr_ar F pc kd na) t d n → post 1) → (¬ tr_shp (pr_ar F pc kd na) t d n → post 2) → wX_checkShape_16 post (nI e) (nI M) (nI F) (nI N) f_code f_faultFunction f_bound f_foundParam f_foundDrop f_status f_calls f_depth f_fuelLimit f_begun f_beginLimit f_waitingFunction f_currentNode f_valueKnown f_currentValue (fun i => nI (pc i)) mk (fun i => nI (rt i)) (fun i => nI (bs i)) (fun i => nI (kd i)) na a_parents a_childIndexes a_subtreeEnds a_scopeSizes a_levelTypes a_levelParams a_levelDrops a_expectedTypes a_totals a_slotTypes a_slotValues a_waitingArgs a_callNodes a_levelValues a_nodeValues fu (nI d) (nI n) := by
  have h64 := h.2.1
  intro t
  induction t with
  | zero =>
    intro d n fu h1 h2 h3 h4 h5
    obtain ⟨fu, rfl⟩ : ∃ f, fu = f + 1 := ⟨fu - 1, by omega⟩
    refine br_t (nI_le (by omega) (by omega)) (pk_eq d 0 (fun c => h4 c) (fun c => h5 c))
  | succ t ih =>
    intro d n fu h1 h2 h3 h4 h5
    obtain ⟨fu, rfl⟩ : ∃ f, fu = f + 1 := ⟨fu - 1, by omega⟩
    refine br_f (nI_ge (by omega) (by omega)) (pk_eq d 0 (fun c => h5 (fun y => y.1 c)) (fun c => ?_))
    have ha := pr_ar3 h n
    obtain ⟨d, rfl⟩ : ∃ d', d = d' + 1 := ⟨d - 1, by omega⟩
    refine wx_arityOf h (by omega) (nm_r (e' := nI (d + pr_ar F pc kd na n)) (by rw [nI_pred, nI_add]) (nm_r (nI_1 n) ?_))
    exact ih _ (n + 1) fu (by omega) (by omega) (by omega) (fun y => h4 ⟨by omega, y⟩) (fun y => h5 (fun w => y w.2))
theorem pr_shp {ar : Nat → Nat} {s e : Nat} (hs : s ≤ e) : tr_shp ar (e - s) 1 s ↔ tr_wf ar s e := by
  constructor
  · intro y
    refine ⟨?_, y⟩
    rcases Nat.eq_or_lt_of_le hs with z1 | z1
    · subst z1
      rw [Nat.sub_self] at y
      exact absurd (show (1 : Nat) = 0 from y) (by decide)
    · exact z1
  · exact fun y => y.2
theorem wx_checkShape (h : pr_in F N pc rt bs kd mk na) {f : Nat} (hf : f < F) (h1 : tr_wf (pr_ar F pc kd na) (bs f) (pg_be F N bs f) → post 1) (h2 : ¬ tr_wf (pr_ar F pc kd na) (bs f) (pg_be F N bs f) → post 2) : wpX_checkShape post ((nI M), (nI F), (nI N), f_code, f_faultFunction, f_bound, f_foundParam, f_foundDrop, f_status, f_calls, f_depth, f_fuelLimit, f_begun, f_beginLimit, f_waitingFunction, f_currentNode, f_valueKnown, f_currentValue, (fun i => nI (pc i)), mk, (fun i => nI (rt i)), (fun i => nI (bs i)), (fun i => nI (kd i)), na, a_parents, a_childIndexes, a_subtreeEnds, a_scopeSizes, a_levelTypes, a_levelParams, a_levelDrops, a_expectedTypes, a_totals, a_slotTypes, a_slotValues, a_waitingArgs, a_callNodes, a_levelValues, a_nodeValues) (nI f) := by
  have h6 := h.1
  have h64 := h.2.1
  have hb := pr_be_le h hf
  have e : (nI f).toNatClampNeg = f := nI_clamp (by omega)
  unfold wpX_checkShape
  refine wx_bodyEnd h hf ⟨vp_in_nI (by omega) (by omega), nm_r (e' := nI (bs f)) (by rw [e]) ⟨65, ?_⟩⟩
  exact wx_checkShape_l h hb.2 (pg_be F N bs f - bs f) 1 (bs f) 65 (by omega) (by omega) (by omega) (fun y => h1 ((pr_shp hb.1).mp y)) (fun y => h2 (fun w => y ((pr_shp hb.1).mpr w)))
end
section
variable {f_sizeCap f_functionCount f_nodeCount f_code f_faultFunction f_foundParam f_foundDrop f_status f_depth f_begun f_beginLimit f_waitingFunction f_currentNode f_valueKnown : Int32} {f_bound f_calls f_fuelLimit f_currentValue : Int64} {a_paramCounts a_listMasks a_resultTypes a_bodyStarts a_nodeKinds a_nodeArgs a_parents a_childIndexes a_subtreeEnds a_scopeSizes a_levelTypes a_levelParams a_levelDrops a_expectedTypes a_slotTypes a_callNodes : Nat → Int32} {a_totals a_slotValues a_waitingArgs a_levelValues a_nodeValues : Nat → Int64}
variable {M F N k : Nat} {pc rt bs kd : Nat → Nat} {mk na : Nat → Int32}
theorem wx_lay55 {post : St2 → Prop} (h : pr_in F N pc rt bs kd mk na) {s e n : Nat} (hw : tr_wf (pr_ar F pc kd na) s e) (hN : e ≤ N) (hn1 : s ≤ n) (hn2 : n < e) (hse : ∀ j, n < j → j < e → a_subtreeEnds j = nI (tr_se N (pr_ar F pc kd na) j)) {J} {x2 : Int32} {par0 cx0 : Nat → Int32}
    (hJ : ∀ par' cx', tb_kids N (pr_ar F pc kd na) n (pr_ar F pc kd na n) par0 cx0 par' cx' → J (nI n + (-1)) (fun i => nI (pc i)) mk (fun i => nI (rt i)) (fun i => nI (bs i)) (fun i => nI (kd i)) na par' cx' (upd a_subtreeEnds n (nI (tr_se N (pr_ar F pc kd na) n))) a_scopeSizes a_levelTypes a_levelParams a_levelDrops a_expectedTypes a_totals a_slotTypes a_slotValues a_waitingArgs a_callNodes a_levelValues a_nodeValues) :
    ∀ (r k fu : Nat) (par cx : Nat → Int32), k + r = pr_ar F pc kd na n → r < fu → tb_kids N (pr_ar F pc kd na) n k par0 cx0 par cx → wX_layOutTree_55 post J x2 (nI e) (nI n) (nI (pr_ar F pc kd na n)) (nI M) (nI F) (nI N) f_code f_faultFunction f_bound f_foundParam f_foundDrop f_status f_calls f_depth f_fuelLimit f_begun f_beginLimit f_waitingFunction f_currentNode f_valueKnown f_currentValue fu (nI (tr_ch N (pr_ar F pc kd na) n k)) (nI k) (fun i => nI (pc i)) mk (fun i => nI (rt i)) (fun i => nI (bs i)) (fun i => nI (kd i)) na par cx a_subtreeEnds a_scopeSizes a_levelTypes a_levelParams a_levelDrops a_expectedTypes a_totals a_slotTypes a_slotValues a_waitingArgs a_callNodes a_levelValues a_nodeValues := by
  have h64 := h.2.1
  have ha := pr_ar3 h n
  have en : (nI n).toNatClampNeg = n := nI_clamp (by omega)
  intro r
  induction r with
  | zero =>
    intro k fu par cx h1 h2 h3
    obtain ⟨fu, rfl⟩ : ∃ f, fu = f + 1 := ⟨fu - 1, by omega⟩
    have ek : k = pr_ar F pc kd na n := by omega
    subst ek
    refine br_t (nI_le (Nat.le_refl _) (by omega)) ⟨vp_in_nI (by omega) (by omega), nm_r (e' := upd a_subtreeEnds n (nI (tr_se N (pr_ar F pc kd na) n))) (by rw [en, tr_se_ch (by omega)]) (nm_e (hJ par cx h3))⟩
  | succ r ih =>
    intro k fu par cx h1 h2 h3
    obtain ⟨fu, rfl⟩ : ∃ f, fu = f + 1 := ⟨fu - 1, by omega⟩
    have c1 := tr_wf_ch (N := N) hw hN hn1 hn2 (c := k) (by omega)
    have c2 := tr_wf_in (N := N) hw hN hn1 hn2
    have c3 := tr_ch_ge (N := N) (ar := (pr_ar F pc kd na)) n k
    have ec : (nI (tr_ch N (pr_ar F pc kd na) n k)).toNatClampNeg = tr_ch N (pr_ar F pc kd na) n k := nI_clamp (by omega)
    have hv : vp_in (nI (tr_ch N (pr_ar F pc kd na) n k)) 64 := vp_in_nI (by omega) (by omega)
    refine br_f (nI_ge (by omega) (by omega)) (br_f (nI_ge (by omega) (by omega)) ⟨hv, ?_⟩)
    rw [ec]
    refine nm_e ⟨hv, nm_e ⟨hv, nm_r (e' := nI (tr_ch N (pr_ar F pc kd na) n (k + 1))) (by rw [hse _ (by omega) (by omega), tr_ch_s]) (nm_r (nI_1 k) ?_)⟩⟩
    exact ih (k + 1) fu _ _ (by omega) (by omega) (tb_kids_s (tb_chs hw hN hn1 hn2 (by omega)) h3)
theorem wx_m1 (s : Nat) (hs : s < 1000) : nI s + (-1) < nI s := by
  cases s with
  | zero => decide
  | succ s => rw [pk_m1]; exact nI_lt (by omega) (by omega)
theorem wx_lay32 {post : St2 → Prop} (h : pr_in F N pc rt bs kd mk na) {s e : Nat} (hw : tr_wf (pr_ar F pc kd na) s e) (hN : e ≤ N) {par0 cx0 se0 : Nat → Int32}
    (hp : ∀ par cx se, tb_lay N (pr_ar F pc kd na) s e 0 par0 cx0 se0 par cx se → post ((nI M), (nI F), (nI N), f_code, f_faultFunction, f_bound, f_foundParam, f_foundDrop, f_status, f_calls, f_depth, f_fuelLimit, f_begun, f_beginLimit, f_waitingFunction, f_currentNode, f_valueKnown, f_currentValue, (fun i => nI (pc i)), mk, (fun i => nI (rt i)), (fun i => nI (bs i)), (fun i => nI (kd i)), na, par, cx, se, a_scopeSizes, a_levelTypes, a_levelParams, a_levelDrops, a_expectedTypes, a_totals, a_slotTypes, a_slotValues, a_waitingArgs, a_callNodes, a_levelValues, a_nodeValues)) :
    ∀ (k fu : Nat) (par cx se : Nat → Int32), s + k ≤ e → k < fu → tb_lay N (pr_ar F pc kd na) s e k par0 cx0 se0 par cx se → wX_layOutTree_32 post (nI s) (nI e) (nI M) (nI F) (nI N) f_code f_faultFunction f_bound f_foundParam f_foundDrop f_status f_calls f_depth f_fuelLimit f_begun f_beginLimit f_waitingFunction f_currentNode f_valueKnown f_currentValue fu (nI (s + k) + (-1)) (fun i => nI (pc i)) mk (fun i => nI (rt i)) (fun i => nI (bs i)) (fun i => nI (kd i)) na par cx se a_scopeSizes a_levelTypes a_levelParams a_levelDrops a_expectedTypes a_totals a_slotTypes a_slotValues a_waitingArgs a_callNodes a_levelValues a_nodeValues := by
  have h64 := h.2.1
  intro k
  induction k with
  | zero =>
    intro fu par cx se h1 h2 h3
    obtain ⟨fu, rfl⟩ : ∃ f, fu = f + 1 := ⟨fu - 1, by omega⟩
    exact br_t (wx_m1 s (by omega)) (hp par cx se h3)
  | succ k ih =>
    intro fu par cx se h1 h2 h3
    obtain ⟨fu, rfl⟩ : ∃ f, fu = f + 1 := ⟨fu - 1, by omega⟩
    rw [← Nat.add_assoc, pk_m1]
    have ha := pr_ar3 h (s + k)
    refine br_f (nI_nlt (by omega) (by omega)) (wx_arityOf h (by omega) (nm_r (e' := nI (tr_ch N (pr_ar F pc kd na) (s + k) 0)) (by rw [nI_1, tr_ch_0]) ⟨4, ?_⟩))
    exact wx_lay55 (n := s + k) h hw hN (by omega) (by omega) (fun j j1 j2 => h3.1 j (by omega) j2) (fun par' cx' K => ih fu par' cx' _ (by omega) (by omega) (tb_lay_s hw hN (pr_ar3 h) (by omega) h3 K)) (pr_ar F pc kd na (s + k)) 0 4 par cx (by omega) (by omega) (tb_kids_0 _)
theorem wx_layOutTree {post : St2 → Prop} (h : pr_in F N pc rt bs kd mk na) {f : Nat} (hf : f < F) (hw : tr_wf (pr_ar F pc kd na) (bs f) (pg_be F N bs f))
    (hp : ∀ par cx se, tb_lay N (pr_ar F pc kd na) (bs f) (pg_be F N bs f) 0 a_parents a_childIndexes a_subtreeEnds par cx se → post ((nI M), (nI F), (nI N), f_code, f_faultFunction, f_bound, f_foundParam, f_foundDrop, f_status, f_calls, f_depth, f_fuelLimit, f_begun, f_beginLimit, f_waitingFunction, f_currentNode, f_valueKnown, f_currentValue, (fun i => nI (pc i)), mk, (fun i => nI (rt i)), (fun i => nI (bs i)), (fun i => nI (kd i)), na, par, cx, se, a_scopeSizes, a_levelTypes, a_levelParams, a_levelDrops, a_expectedTypes, a_totals, a_slotTypes, a_slotValues, a_waitingArgs, a_callNodes, a_levelValues, a_nodeValues)) : wpX_layOutTree post ((nI M), (nI F), (nI N), f_code, f_faultFunction, f_bound, f_foundParam, f_foundDrop, f_status, f_calls, f_depth, f_fuelLimit, f_begun, f_beginLimit, f_waitingFunction, f_currentNode, f_valueKnown, f_currentValue, (fun i => nI (pc i)), mk, (fun i => nI (rt i)), (fun i => nI (bs i)), (fun i => nI (kd i)), na, a_parents, a_childIndexes, a_subtreeEnds, a_scopeSizes, a_levelTypes, a_levelParams, a_levelDrops, a_expectedTypes, a_totals, a_slotTypes, a_slotValues, a_waitingArgs, a_callNodes, a_levelValues, a_nodeValues) (nI f) := by
  have h6 := h.1
  have h64 := h.2.1
  have hb := pr_be_le h hf
  have hlt := hw.1
  have e : (nI f).toNatClampNeg = f := nI_clamp (by omega)
  have e2 : (nI (bs f)).toNatClampNeg = bs f := nI_clamp (by omega)
  have hv : vp_in (nI (bs f)) 64 := vp_in_nI (by omega) (by omega)
  refine ⟨vp_in_nI (by omega) (by omega), nm_r (e' := nI (bs f)) (by rw [e]) (wx_bodyEnd h hf ⟨hv, ?_⟩)⟩
  rw [e2]
  refine nm_e ⟨hv, nm_e (nm_r (e' := nI (bs f + (pg_be F N bs f - bs f)) + (-1)) (by rw [show bs f + (pg_be F N bs f - bs f) = pg_be F N bs f by omega, Int32.sub_eq_add_neg]) ⟨65, ?_⟩)⟩
  exact wx_lay32 h hw hb.2 hp (pg_be F N bs f - bs f) 65 _ _ _ (by omega) (by omega) (tb_lay_0 (by omega))
end
