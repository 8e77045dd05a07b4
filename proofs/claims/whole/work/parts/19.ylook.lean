section
variable {y_m y_fCount y_nCount y_code y_fault y_status y_depth y_hasResult y_vTop y_wTop y_envTop y_runBegun y_runK y_factJ y_factK : Int32} {y_bound y_calls y_fuelLimit y_resVal : Int64} {y_fParams y_fMask y_fRes y_fStart y_nKind y_nArg y_slotList y_wNode y_wStep y_actBase : Nat → Int32} {y_tVal y_slotVal y_vals y_env : Nat → Int64}
variable {M F N k : Nat} {pc rt bs kd : Nat → Nat} {mk na : Nat → Int32}
variable {post : Int32 → Prop}
theorem wy_childIndexOf (h : pr_in F N pc rt bs kd mk na) {p j : Nat} (hn : p < N) (hj : j < N) (hp : post (nI (tr_cx N (pr_ar F pc kd na) p j))) : wpY_childIndexOf post ((nI M), (nI F), (nI N), y_code, y_fault, y_bound, y_status, y_calls, y_depth, y_fuelLimit, y_hasResult, y_resVal, y_vTop, y_wTop, y_envTop, y_runBegun, y_runK, y_factJ, y_factK, (fun i => nI (pc i)), mk, (fun i => nI (rt i)), (fun i => nI (bs i)), (fun i => nI (kd i)), na, y_tVal, y_slotList, y_slotVal, y_vals, y_wNode, y_wStep, y_env, y_actBase) (nI p) (nI j) := by
  have h64 := h.2.1
  have c0 := wy_ch_le h hn 0
  have c1 := wy_ch_le h hn 1
  have c2 := wy_ch_le h hn 2
  unfold tr_cx at hp
  refine nm_r (e' := nI (tr_ch N (pr_ar F pc kd na) p 0)) (by rw [nI_1, tr_ch_0]) ⟨4, ?_⟩
  refine br_f (by decide) (pk_eq (tr_ch N (pr_ar F pc kd na) p 0) j (fun e => by rw [if_pos e] at hp; exact hp) (fun e => ?_))
  rw [if_neg e] at hp
  refine wy_subEnd h c0 (nm_r (nI_1 0) ?_)
  rw [← tr_ch_s]
  refine br_f (by decide) (pk_eq (tr_ch N (pr_ar F pc kd na) p 1) j (fun e => by rw [if_pos e] at hp; exact hp) (fun e => ?_))
  rw [if_neg e] at hp
  refine wy_subEnd h c1 (nm_r (nI_1 1) ?_)
  rw [← tr_ch_s]
  refine br_f (by decide) (pk_eq (tr_ch N (pr_ar F pc kd na) p 2) j (fun e => by rw [if_pos e] at hp; exact hp) (fun e => ?_))
  rw [if_neg e] at hp
  refine wy_subEnd h c2 (nm_r (nI_1 2) ?_)
  exact br_t (by decide) hp
theorem wy_cx3 (ar : Nat → Nat) (p j : Nat) : tr_cx N ar p j ≤ 3 := by
  unfold tr_cx
  split
  · omega
  · split
    · omega
    · split <;> omega
theorem wy_caseVars (h : pr_in F N pc rt bs kd mk na) {p j : Nat} (hn : p < N) (hj : j < N) (hp : post (nI (sq_cv N (pr_ar F pc kd na) kd p j))) : wpY_caseVars post ((nI M), (nI F), (nI N), y_code, y_fault, y_bound, y_status, y_calls, y_depth, y_fuelLimit, y_hasResult, y_resVal, y_vTop, y_wTop, y_envTop, y_runBegun, y_runK, y_factJ, y_factK, (fun i => nI (pc i)), mk, (fun i => nI (rt i)), (fun i => nI (bs i)), (fun i => nI (kd i)), na, y_tVal, y_slotList, y_slotVal, y_vals, y_wNode, y_wStep, y_env, y_actBase) (nI p) (nI j) := by
  have h64 := h.2.1
  have hk := h.2.2.2.2.2.1 p
  have e : (nI p).toNatClampNeg = p := nI_clamp (by omega)
  have hv : vp_in (nI p) 64 := vp_in_nI (by omega) (by omega)
  have h3 := wy_cx3 (N := N) (pr_ar F pc kd na) p j
  unfold sq_cv at hp
  unfold wpY_caseVars
  refine wy_childIndexOf h hn hj ?_
  rw [e]
  refine pk_eq (tr_cx N (pr_ar F pc kd na) p j) 2 (fun c => ⟨hv, ?_⟩) (fun c => by rw [if_neg c] at hp; exact hp)
  rw [if_pos c] at hp
  refine pk_eq (kd p) 6 (fun c => by rw [if_pos c] at hp; exact hp) (fun c6 => ⟨hv, ?_⟩)
  rw [if_neg c6] at hp
  exact pk_eq (kd p) 7 (fun c => by rw [if_pos c] at hp; exact hp) (fun c7 => by rw [if_neg c7] at hp; exact hp)
theorem wy_scopeSize_l (h : pr_in F N pc rt bs kd mk na) (hw : pg_wf F N bs (pr_ar F pc kd na)) {f S : Nat} (hS : S ≤ 45) (hp : post (nI S)) : ∀ (c s t fu : Nat), c < N → pg_fn F bs c = f → s + pr_sc F N pc bs kd na c = S + pc f → c < fu → t + c ≤ 63 → wY_scopeSize_13 post (nI f) (nI M) (nI F) (nI N) y_code y_fault y_bound y_status y_calls y_depth y_fuelLimit y_hasResult y_resVal y_vTop y_wTop y_envTop y_runBegun y_runK y_factJ y_factK (fun i => nI (pc i)) mk (fun i => nI (rt i)) (fun i => nI (bs i)) (fun i => nI (kd i)) na y_tVal y_slotList y_slotVal y_vals y_wNode y_wStep y_env y_actBase fu (nI s) (nI c) (nI t) := by
  have h6 := h.1
  have h64 := h.2.1
  intro c
  induction c using Nat.strongRecOn with
  | _ c ih =>
    intro s t fu hc hf hs h1 h2
    obtain ⟨fu, rfl⟩ : ∃ f, fu = f + 1 := ⟨fu - 1, by omega⟩
    have hb := pg_body hw hc
    rw [hf] at hb
    have e : (nI f).toNatClampNeg = f := nI_clamp (by omega)
    have hz3 := h.2.2.1 f
    refine br_f (nI_ge (b := 64) (by omega) (by decide)) ⟨vp_in_nI (by omega) (by omega), ?_⟩
    rw [e]
    refine wy_parentOf h hw hc hf ?_
    rcases pg_case hw hc with ⟨g1, g2, g3⟩ | ⟨p, g1, g2, g3, g4, g5, g6⟩
    · rw [tb_P_none g1]
      have e1 : pr_sc F N pc bs kd na c = pc f := by
        unfold pr_sc; rw [sq_none g1]; unfold pr_z; rw [hf]
      have e2 : s = S := by omega
      rw [e2]
      exact br_f (by decide) hp
    · rw [tb_P_some g1]
      refine br_t (nI_pos' (by omega)) (wy_caseVars h (by omega) hc ?_)
      have e1 : pr_sc F N pc bs kd na c = pr_sc F N pc bs kd na p + sq_cv N (pr_ar F pc kd na) kd p c := by
        unfold pr_sc; exact sq_some g1
      refine nm_r (nI_add _ _) (nm_r (nI_1 t) ?_)
      exact ih p g2 _ (t + 1) fu (by omega) (by rw [g3]; exact hf) (by omega) (by omega) (by omega)
theorem wy_scopeSize (h : pr_in F N pc rt bs kd mk na) (hw : pg_wf F N bs (pr_ar F pc kd na)) {j f : Nat} (hj : j < N) (hf : pg_fn F bs j = f) (hp : post (nI (pr_sc F N pc bs kd na j))) : wpY_scopeSize post ((nI M), (nI F), (nI N), y_code, y_fault, y_bound, y_status, y_calls, y_depth, y_fuelLimit, y_hasResult, y_resVal, y_vTop, y_wTop, y_envTop, y_runBegun, y_runK, y_factJ, y_factK, (fun i => nI (pc i)), mk, (fun i => nI (rt i)), (fun i => nI (bs i)), (fun i => nI (kd i)), na, y_tVal, y_slotList, y_slotVal, y_vals, y_wNode, y_wStep, y_env, y_actBase) (nI j) (nI f) := by
  have h6 := h.1
  have h64 := h.2.1
  have hb := pg_body hw hj
  rw [hf] at hb
  have e : (nI f).toNatClampNeg = f := nI_clamp (by omega)
  refine ⟨vp_in_nI (by omega) (by omega), nm_r (e' := nI (pc f)) (by rw [e]) ⟨64, ?_⟩⟩
  exact wy_scopeSize_l h hw (pr_sc_le h hw hj) hp j (pc f) 0 64 hj hf (by omega) (by omega) (by omega)
theorem wy_binderOf_l (h : pr_in F N pc rt bs kd mk na) (hw : pg_wf F N bs (pr_ar F pc kd na)) {f x : Nat} (hx : x < 45) : ∀ (c t fu : Nat), c < N → pg_fn F bs c = f → c < fu → t + c ≤ 63 → post (tb_o (fx_b N (pr_ar F pc kd na) kd (pr_z F bs pc) c x)) → wY_binderOf_14 post (nI f) (nI x) (nI M) (nI F) (nI N) y_code y_fault y_bound y_status y_calls y_depth y_fuelLimit y_hasResult y_resVal y_vTop y_wTop y_envTop y_runBegun y_runK y_factJ y_factK (fun i => nI (pc i)) mk (fun i => nI (rt i)) (fun i => nI (bs i)) (fun i => nI (kd i)) na y_tVal y_slotList y_slotVal y_vals y_wNode y_wStep y_env y_actBase fu (nI (pr_sc F N pc bs kd na c)) (nI c) (nI t) := by
  have h6 := h.1
  have h64 := h.2.1
  intro c
  induction c using Nat.strongRecOn with
  | _ c ih =>
    intro t fu hc hf h1 h2 hp
    obtain ⟨fu, rfl⟩ : ∃ f, fu = f + 1 := ⟨fu - 1, by omega⟩
    have hb := pg_body hw hc
    rw [hf] at hb
    have e : (nI f).toNatClampNeg = f := nI_clamp (by omega)
    refine br_f (nI_ge (b := 64) (by omega) (by decide)) ⟨vp_in_nI (by omega) (by omega), ?_⟩
    rw [e]
    refine wy_parentOf h hw hc hf ?_
    rcases pg_case hw hc with ⟨g1, g2, g3⟩ | ⟨p, g1, g2, g3, g4, g5, g6⟩
    · rw [tb_P_none g1]
      unfold fx_b at hp
      rw [tr_fold_none g1] at hp
      exact br_f (by decide) hp
    · rw [tb_P_some g1]
      refine br_t (nI_pos' (by omega)) (wy_caseVars h (by omega) hc ?_)
      have e1 : pr_sc F N pc bs kd na c = pr_sc F N pc bs kd na p + sq_cv N (pr_ar F pc kd na) kd p c := by
        unfold pr_sc; exact sq_some g1
      have s45 := pr_sc_le h hw hc
      have e0 : pr_sc F N pc bs kd na p = sq_sc N (pr_ar F pc kd na) kd (pr_z F bs pc) p := rfl
      have hcv := sq_cv_le (N := N) (ar := (pr_ar F pc kd na)) (kd := kd) p c
      have nx : (x ≠ pr_sc F N pc bs kd na p ∨ sq_cv N (pr_ar F pc kd na) kd p c = 0) → (x ≠ pr_sc F N pc bs kd na p + 1 ∨ sq_cv N (pr_ar F pc kd na) kd p c ≠ 2) → wY_binderOf_113 post (wY_binderOf_14 post (nI f) (nI x) (nI M) (nI F) (nI N) y_code y_fault y_bound y_status y_calls y_depth y_fuelLimit y_hasResult y_resVal y_vTop y_wTop y_envTop y_runBegun y_runK y_factJ y_factK (fun i => nI (pc i)) mk (fun i => nI (rt i)) (fun i => nI (bs i)) (fun i => nI (kd i)) na y_tVal y_slotList y_slotVal y_vals y_wNode y_wStep y_env y_actBase fu) (nI f) (nI x) (nI (pr_sc F N pc bs kd na c)) (nI t) (nI p) (nI (sq_cv N (pr_ar F pc kd na) kd p c)) (nI M) (nI F) (nI N) y_code y_fault y_bound y_status y_calls y_depth y_fuelLimit y_hasResult y_resVal y_vTop y_wTop y_envTop y_runBegun y_runK y_factJ y_factK (fun i => nI (pc i)) mk (fun i => nI (rt i)) (fun i => nI (bs i)) (fun i => nI (kd i)) na y_tVal y_slotList y_slotVal y_vals y_wNode y_wStep y_env y_actBase := by
        intro n1 n2
        refine nm_r (e' := nI (pr_sc F N pc bs kd na p)) (by rw [e1, pk_sub (by omega)]; exact congrArg nI (by omega)) (nm_r (nI_1 t) ?_)
        refine ih p g2 (t + 1) fu (by omega) (by rw [g3]; exact hf) (by omega) (by omega) ?_
        by_cases c0 : sq_cv N (pr_ar F pc kd na) kd p c = 0
        · rw [fx_b_0 g1 c0] at hp; exact hp
        · rw [fx_b_s g1 c0, if_neg (by omega), if_neg (by omega)] at hp
          exact hp
      have n92 : (x ≠ pr_sc F N pc bs kd na p ∨ sq_cv N (pr_ar F pc kd na) kd p c = 0) → wY_binderOf_92 post (wY_binderOf_14 post (nI f) (nI x) (nI M) (nI F) (nI N) y_code y_fault y_bound y_status y_calls y_depth y_fuelLimit y_hasResult y_resVal y_vTop y_wTop y_envTop y_runBegun y_runK y_factJ y_factK (fun i => nI (pc i)) mk (fun i => nI (rt i)) (fun i => nI (bs i)) (fun i => nI (kd i)) na y_tVal y_slotList y_slotVal y_vals y_wNode y_wStep y_env y_actBase fu) (nI f) (nI x) (nI (pr_sc F N pc bs kd na c)) (nI t) (nI p) (nI (sq_cv N (pr_ar F pc kd na) kd p c)) (nI M) (nI F) (nI N) y_code y_fault y_bound y_status y_calls y_depth y_fuelLimit y_hasResult y_resVal y_vTop y_wTop y_envTop y_runBegun y_runK y_factJ y_factK (fun i => nI (pc i)) mk (fun i => nI (rt i)) (fun i => nI (bs i)) (fun i => nI (kd i)) na y_tVal y_slotList y_slotVal y_vals y_wNode y_wStep y_env y_actBase := by
        intro n1
        refine pk_eq (sq_cv N (pr_ar F pc kd na) kd p c) 2 (fun c2 => pk_eq x (pr_sc F N pc bs kd na p + 1) (fun ex => ?_) (fun ex => nx n1 (Or.inl ex)) (hy := by rw [e1, c2]; exact (pk_sub (a := pr_sc F N pc bs kd na p + 2) (b := 1) (by omega)))) (fun c2 => nx n1 (Or.inr c2))
        rw [fx_b_s g1 (by omega), if_neg (by omega), if_pos ⟨by omega, c2⟩] at hp
        rw [show nI p * 4 + 2 = nI (p * 4 + 2) from by rw [show (4 : Int32) = nI 4 from rfl, pk_mul]; exact nI_add _ 2]
        exact hp
      have n71 : (x ≠ pr_sc F N pc bs kd na p ∨ sq_cv N (pr_ar F pc kd na) kd p c ≠ 1) → wY_binderOf_71 post (wY_binderOf_14 post (nI f) (nI x) (nI M) (nI F) (nI N) y_code y_fault y_bound y_status y_calls y_depth y_fuelLimit y_hasResult y_resVal y_vTop y_wTop y_envTop y_runBegun y_runK y_factJ y_factK (fun i => nI (pc i)) mk (fun i => nI (rt i)) (fun i => nI (bs i)) (fun i => nI (kd i)) na y_tVal y_slotList y_slotVal y_vals y_wNode y_wStep y_env y_actBase fu) (nI f) (nI x) (nI (pr_sc F N pc bs kd na c)) (nI t) (nI p) (nI (sq_cv N (pr_ar F pc kd na) kd p c)) (nI M) (nI F) (nI N) y_code y_fault y_bound y_status y_calls y_depth y_fuelLimit y_hasResult y_resVal y_vTop y_wTop y_envTop y_runBegun y_runK y_factJ y_factK (fun i => nI (pc i)) mk (fun i => nI (rt i)) (fun i => nI (bs i)) (fun i => nI (kd i)) na y_tVal y_slotList y_slotVal y_vals y_wNode y_wStep y_env y_actBase := by
        intro n1
        refine pk_eq (sq_cv N (pr_ar F pc kd na) kd p c) 2 (fun c2 => pk_eq x (pr_sc F N pc bs kd na p) (fun ex => ?_) (fun ex => n92 (Or.inl ex)) (hy := by rw [e1, c2]; exact (pk_sub (a := pr_sc F N pc bs kd na p + 2) (b := 2) (by omega)))) (fun c2 => n92 (by omega))
        rw [fx_b_s g1 (by omega), if_pos (by omega), if_neg (by omega)] at hp
        rw [show nI p * 4 + 1 = nI (p * 4 + 1) from by rw [show (4 : Int32) = nI 4 from rfl, pk_mul]; exact nI_add _ 1]
        exact hp
      refine pk_eq (sq_cv N (pr_ar F pc kd na) kd p c) 1 (fun c1 => pk_eq x (pr_sc F N pc bs kd na p) (fun ex => ?_) (fun ex => n71 (Or.inl ex)) (hy := by rw [e1, c1]; exact (pk_sub (a := pr_sc F N pc bs kd na p + 1) (b := 1) (by omega)))) (fun c1 => n71 (Or.inr c1))
      rw [fx_b_s g1 (by omega), if_pos (by omega), if_pos c1] at hp
      rw [show nI p * 4 = nI (p * 4) from by rw [show (4 : Int32) = nI 4 from rfl, pk_mul]]
      exact hp
theorem wy_binderOf (h : pr_in F N pc rt bs kd mk na) (hw : pg_wf F N bs (pr_ar F pc kd na)) {j f x : Nat} (hj : j < N) (hf : pg_fn F bs j = f) (hx : x < 45) (hp : post (tb_o (fx_b N (pr_ar F pc kd na) kd (pr_z F bs pc) j x))) : wpY_binderOf post ((nI M), (nI F), (nI N), y_code, y_fault, y_bound, y_status, y_calls, y_depth, y_fuelLimit, y_hasResult, y_resVal, y_vTop, y_wTop, y_envTop, y_runBegun, y_runK, y_factJ, y_factK, (fun i => nI (pc i)), mk, (fun i => nI (rt i)), (fun i => nI (bs i)), (fun i => nI (kd i)), na, y_tVal, y_slotList, y_slotVal, y_vals, y_wNode, y_wStep, y_env, y_actBase) (nI j) (nI f) (nI x) := by
  have h64 := h.2.1
  refine wy_scopeSize h hw hj hf ⟨64, ?_⟩
  exact wy_binderOf_l h hw hx j 0 64 hj hf (by omega) (by omega) hp
theorem wy_bit (x : Int32) : x &&& 1 = nI (if x &&& 1 = 1 then 1 else 0) := by
  have e := pk_and x (m := 1) 1 (by decide)
  have h2 : x.toBitVec.toNat % 2 ^ 1 < 2 := Nat.mod_lt _ (by decide)
  rw [e]
  generalize x.toBitVec.toNat % 2 ^ 1 = b at h2
  rcases (show b = 0 ∨ b = 1 by omega) with z1 | z1
  · subst z1; decide
  · subst z1; decide
theorem wy_paramType (h : pr_in F N pc rt bs kd mk na) {g i : Nat} (hg : g < F) (hi : i < 3) (hp : post (nI (pr_pty mk g i))) : wpY_paramType post ((nI M), (nI F), (nI N), y_code, y_fault, y_bound, y_status, y_calls, y_depth, y_fuelLimit, y_hasResult, y_resVal, y_vTop, y_wTop, y_envTop, y_runBegun, y_runK, y_factJ, y_factK, (fun i => nI (pc i)), mk, (fun i => nI (rt i)), (fun i => nI (bs i)), (fun i => nI (kd i)), na, y_tVal, y_slotList, y_slotVal, y_vals, y_wNode, y_wStep, y_env, y_actBase) (nI g) (nI i) := by
  have h6 := h.1
  have e : (nI g).toNatClampNeg = g := nI_clamp (by omega)
  refine br_f (nI_pos (by omega)) (br_f (nI_ge hg (by omega)) (br_f (nI_pos (by omega)) (br_t (nI_le (b := 2) (by omega) (by decide)) ⟨vp_in_nI (by omega) (by omega), ?_⟩)))
  rw [e, wy_bit]
  exact hp
end
