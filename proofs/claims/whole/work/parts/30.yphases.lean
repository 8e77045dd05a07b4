section
variable {y_m y_fCount y_nCount y_code y_fault y_status y_depth y_hasResult y_vTop y_wTop y_envTop y_runBegun y_runK y_factJ y_factK : Int32} {y_bound y_calls y_fuelLimit y_resVal : Int64} {y_fParams y_fMask y_fRes y_fStart y_nKind y_nArg y_slotList y_wNode y_wStep y_actBase : Nat → Int32} {y_tVal y_slotVal y_vals y_env : Nat → Int64}
variable {M F N k : Nat} {pc rt bs kd : Nat → Nat} {mk na : Nat → Int32}
theorem wy_p4 {post : Int32 → SY → Prop} (h : pr_in F N pc rt bs kd mk na) (hM : M ≤ 12) (hF : 0 < F) (hw : pg_wf F N bs (pr_ar F pc kd na)) (hnm : pr_nm F N pc bs kd na) :
    ∀ (r f fu : Nat) (a b : Int32), f + r = F → r < fu →
      (∀ a b tv, post (cd_r (pr_q4 F N pc bs kd na) r f).1 ((nI M), (nI F), (nI N), ((cd_r (pr_q4 F N pc bs kd na) r f).1), ((cd_r (pr_q4 F N pc bs kd na) r f).2), (pr_bnd M F N pc bs kd na (cd_r (pr_q4 F N pc bs kd na) r f).1), y_status, y_calls, y_depth, y_fuelLimit, y_hasResult, y_resVal, y_vTop, y_wTop, y_envTop, y_runBegun, y_runK, a, b, (fun i => nI (pc i)), mk, (fun i => nI (rt i)), (fun i => nI (bs i)), (fun i => nI (kd i)), na, tv, y_slotList, y_slotVal, y_vals, y_wNode, y_wStep, y_env, y_actBase)) →
      wY_compile_259 post fu (nI f) (nI M) (nI F) (nI N) y_code (-1) 0 y_status y_calls y_depth y_fuelLimit y_hasResult y_resVal y_vTop y_wTop y_envTop y_runBegun y_runK a b (fun i => nI (pc i)) mk (fun i => nI (rt i)) (fun i => nI (bs i)) (fun i => nI (kd i)) na y_tVal y_slotList y_slotVal y_vals y_wNode y_wStep y_env y_actBase := by
  have h6 := h.1
  have h64 := h.2.1
  intro r
  induction r with
  | zero =>
    intro f fu a b h1 h2 hp
    obtain ⟨fu, rfl⟩ : ∃ f, fu = f + 1 := ⟨fu - 1, by omega⟩
    refine br_t (nI_le (by omega) (by omega)) (wy_computeBound (y_fault := -1) (y_bound := 0) (y_factJ := a) (y_factK := b) h hM hF (fun tv => ?_))
    have := hp a b tv
    unfold pr_bnd at this
    rw [if_pos (show (cd_r (pr_q4 F N pc bs kd na) 0 f).1 = 1 from rfl)] at this
    exact this
  | succ r ih =>
    intro f fu a b h1 h2 hp
    obtain ⟨fu, rfl⟩ : ∃ f, fu = f + 1 := ⟨fu - 1, by omega⟩
    have hf : f < F := by omega
    have hlt := (hw.2.2.2.2 f hf).1
    have hN := pg_lastN hw hf
    have e : (nI f).toNatClampNeg = f := nI_clamp (by omega)
    rw [cd_r] at hp
    refine br_f (nI_ge (by omega) (by omega)) ⟨vp_in_nI (by omega) (by omega), nm_r (e' := nI (bs f)) (by rw [e]) ⟨65, ?_⟩⟩
    refine wy_c274 (y_fault := -1) (y_bound := 0) h hw hnm hf (pg_be F N bs f - bs f) (bs f) 65 a b (by omega) (Nat.le_refl _) (by omega) (fun y a b => ?_) (fun y y6 a b => ?_)
    · rw [if_pos (show pr_q4 F N pc bs kd na f = 1 from y)] at hp
      exact ih (f + 1) fu a b (by omega) (by omega) hp
    · rw [if_neg (show ¬ pr_q4 F N pc bs kd na f = 1 from y), show pr_q4 F N pc bs kd na f = 6 from y6] at hp
      have := hp a b y_tVal
      unfold pr_bnd at this
      dsimp only at this
      rw [if_neg (by decide)] at this
      exact this
-- phase 3
theorem wy_c202 {post : Int32 → SY → Prop} (h : pr_in F N pc rt bs kd mk na) (hw : pg_wf F N bs (pr_ar F pc kd na)) (hnm : pr_nm F N pc bs kd na) {f : Nat} (hf : f < F) {J : Int32 → Prop} :
    ∀ (r n fu : Nat), n + r = pg_be F N bs f → bs f ≤ n → r < fu → (cd_ty (pr_ow F N pc rt bs kd mk na) (pr_et F N pc rt bs kd mk na) r n = 1 → J (nI (f + 1))) →
      (cd_ty (pr_ow F N pc rt bs kd mk na) (pr_et F N pc rt bs kd mk na) r n = 5 → post 5 ((nI M), (nI F), (nI N), 5, (nI f), y_bound, y_status, y_calls, y_depth, y_fuelLimit, y_hasResult, y_resVal, y_vTop, y_wTop, y_envTop, y_runBegun, y_runK, y_factJ, y_factK, (fun i => nI (pc i)), mk, (fun i => nI (rt i)), (fun i => nI (bs i)), (fun i => nI (kd i)), na, y_tVal, y_slotList, y_slotVal, y_vals, y_wNode, y_wStep, y_env, y_actBase)) → wY_compile_202 post J (nI f) (nI M) (nI F) (nI N) y_code y_fault y_bound y_status y_calls y_depth y_fuelLimit y_hasResult y_resVal y_vTop y_wTop y_envTop y_runBegun y_runK y_factJ y_factK (fun i => nI (pc i)) mk (fun i => nI (rt i)) (fun i => nI (bs i)) (fun i => nI (kd i)) na y_tVal y_slotList y_slotVal y_vals y_wNode y_wStep y_env y_actBase fu (nI n) := by
  have h6 := h.1
  have h64 := h.2.1
  have hN := pg_lastN hw hf
  intro r
  induction r with
  | zero =>
    intro n fu h1 h2 h3 hJ hp
    obtain ⟨fu, rfl⟩ : ∃ f, fu = f + 1 := ⟨fu - 1, by omega⟩
    unfold wY_compile_202
    exact wy_bodyEnd h hf (br_t (nI_le (by omega) (by omega)) (nm_r (nI_1 f) (hJ rfl)))
  | succ r ih =>
    intro n fu h1 h2 h3 hJ hp
    obtain ⟨fu, rfl⟩ : ∃ f, fu = f + 1 := ⟨fu - 1, by omega⟩
    have hn : n < N := by omega
    have hfn : pg_fn F bs n = f := pg_fn_is hw hf h2 (by omega)
    rw [cd_ty] at hJ hp
    have o1 := pr_ow2 (n := n) h
    have o2 := pr_et2 (n := n) h
    unfold wY_compile_202
    refine wy_bodyEnd h hf (br_f (nI_ge (by omega) (by omega)) (br_f (nI_ge (b := 64) (by omega) (by decide)) (wy_ownType h hw hnm hn hfn (wy_expectedType h hw hnm hn hfn ?_))))
    refine pk_eq (pr_ow F N pc rt bs kd mk na n) (pr_et F N pc rt bs kd mk na n) (fun c => nm_r (nI_1 n) ?_) (fun c => ?_)
    · rw [if_pos c] at hJ hp
      exact ih (n + 1) fu (by omega) (by omega) (by omega) hJ hp
    · rw [if_neg c] at hp
      exact hp rfl
theorem wy_p3 {post : Int32 → SY → Prop} (h : pr_in F N pc rt bs kd mk na) (hw : pg_wf F N bs (pr_ar F pc kd na)) (hnm : pr_nm F N pc bs kd na) :
    ∀ (r f fu : Nat), f + r = F → r < fu → ((cd_r (pr_q3 F N pc rt bs kd mk na) r f).1 = 1 → ∃ n259, wY_compile_259 post n259 0 (nI M) (nI F) (nI N) y_code y_fault y_bound y_status y_calls y_depth y_fuelLimit y_hasResult y_resVal y_vTop y_wTop y_envTop y_runBegun y_runK y_factJ y_factK (fun i => nI (pc i)) mk (fun i => nI (rt i)) (fun i => nI (bs i)) (fun i => nI (kd i)) na y_tVal y_slotList y_slotVal y_vals y_wNode y_wStep y_env y_actBase) →
      (¬ (cd_r (pr_q3 F N pc rt bs kd mk na) r f).1 = 1 → post (cd_r (pr_q3 F N pc rt bs kd mk na) r f).1 ((nI M), (nI F), (nI N), ((cd_r (pr_q3 F N pc rt bs kd mk na) r f).1), ((cd_r (pr_q3 F N pc rt bs kd mk na) r f).2), y_bound, y_status, y_calls, y_depth, y_fuelLimit, y_hasResult, y_resVal, y_vTop, y_wTop, y_envTop, y_runBegun, y_runK, y_factJ, y_factK, (fun i => nI (pc i)), mk, (fun i => nI (rt i)), (fun i => nI (bs i)), (fun i => nI (kd i)), na, y_tVal, y_slotList, y_slotVal, y_vals, y_wNode, y_wStep, y_env, y_actBase)) → wY_compile_187 post (nI M) (nI F) (nI N) y_code y_fault y_bound y_status y_calls y_depth y_fuelLimit y_hasResult y_resVal y_vTop y_wTop y_envTop y_runBegun y_runK y_factJ y_factK (fun i => nI (pc i)) mk (fun i => nI (rt i)) (fun i => nI (bs i)) (fun i => nI (kd i)) na y_tVal y_slotList y_slotVal y_vals y_wNode y_wStep y_env y_actBase fu (nI f) := by
  have h6 := h.1
  have h64 := h.2.1
  intro r
  induction r with
  | zero =>
    intro f fu h1 h2 hg hp
    obtain ⟨fu, rfl⟩ : ∃ f, fu = f + 1 := ⟨fu - 1, by omega⟩
    exact br_t (nI_le (by omega) (by omega)) (hg rfl)
  | succ r ih =>
    intro f fu h1 h2 hg hp
    obtain ⟨fu, rfl⟩ : ∃ f, fu = f + 1 := ⟨fu - 1, by omega⟩
    have hf : f < F := by omega
    have hlt := (hw.2.2.2.2 f hf).1
    have hN := pg_lastN hw hf
    have e : (nI f).toNatClampNeg = f := nI_clamp (by omega)
    rw [cd_r] at hg hp
    refine br_f (nI_ge (by omega) (by omega)) ⟨vp_in_nI (by omega) (by omega), nm_r (e' := nI (bs f)) (by rw [e]) ⟨65, ?_⟩⟩
    refine wy_c202 h hw hnm hf (pg_be F N bs f - bs f) (bs f) 65 (by omega) (Nat.le_refl _) (by omega) (fun y => ?_) (fun y => ?_)
    · rw [if_pos (show pr_q3 F N pc rt bs kd mk na f = 1 from y)] at hg hp
      exact ih (f + 1) fu (by omega) (by omega) hg hp
    · have y' : pr_q3 F N pc rt bs kd mk na f = 5 := y
      rw [y', if_neg (by decide)] at hp
      exact hp (show ¬ (5 : Int32) = 1 by decide)
-- phase 2
theorem wy_c80 {post : Int32 → SY → Prop} (h : pr_in F N pc rt bs kd mk na) (hw : pg_wf F N bs (pr_ar F pc kd na)) {f : Nat} (hf : f < F) {J : Int32 → Prop} :
    ∀ (r n fu : Nat), n + r = pg_be F N bs f → bs f ≤ n → r < fu → (cd_nm kd na (pr_sc F N pc bs kd na) f r n = 1 → J (nI (f + 1))) →
      (∀ c, cd_nm kd na (pr_sc F N pc bs kd na) f r n = c → ¬ c = 1 → post c ((nI M), (nI F), (nI N), c, (nI f), y_bound, y_status, y_calls, y_depth, y_fuelLimit, y_hasResult, y_resVal, y_vTop, y_wTop, y_envTop, y_runBegun, y_runK, y_factJ, y_factK, (fun i => nI (pc i)), mk, (fun i => nI (rt i)), (fun i => nI (bs i)), (fun i => nI (kd i)), na, y_tVal, y_slotList, y_slotVal, y_vals, y_wNode, y_wStep, y_env, y_actBase)) → wY_compile_80 post J (nI f) (nI M) (nI F) (nI N) y_code y_fault y_bound y_status y_calls y_depth y_fuelLimit y_hasResult y_resVal y_vTop y_wTop y_envTop y_runBegun y_runK y_factJ y_factK (fun i => nI (pc i)) mk (fun i => nI (rt i)) (fun i => nI (bs i)) (fun i => nI (kd i)) na y_tVal y_slotList y_slotVal y_vals y_wNode y_wStep y_env y_actBase fu (nI n) := by
  have h6 := h.1
  have h64 := h.2.1
  have hN := pg_lastN hw hf
  intro r
  induction r with
  | zero =>
    intro n fu h1 h2 h3 hJ hp
    obtain ⟨fu, rfl⟩ : ∃ f, fu = f + 1 := ⟨fu - 1, by omega⟩
    unfold wY_compile_80
    exact wy_bodyEnd h hf (br_t (nI_le (by omega) (by omega)) (nm_r (nI_1 f) (hJ rfl)))
  | succ r ih =>
    intro n fu h1 h2 h3 hJ hp
    obtain ⟨fu, rfl⟩ : ∃ f, fu = f + 1 := ⟨fu - 1, by omega⟩
    have hn : n < N := by omega
    have hk := h.2.2.2.2.2.1 n
    have hfn : pg_fn F bs n = f := pg_fn_is hw hf h2 (by omega)
    have e : (nI n).toNatClampNeg = n := nI_clamp (by omega)
    have hv : vp_in (nI n) 64 := vp_in_nI (by omega) (by omega)
    rw [cd_nm] at hJ hp
    have go : ¬ (kd n = 0 ∧ (na n < 0 ∨ nI (pr_sc F N pc bs kd na n) ≤ na n)) → wY_compile_137 post J (wY_compile_80 post J (nI f) (nI M) (nI F) (nI N) y_code y_fault y_bound y_status y_calls y_depth y_fuelLimit y_hasResult y_resVal y_vTop y_wTop y_envTop y_runBegun y_runK y_factJ y_factK (fun i => nI (pc i)) mk (fun i => nI (rt i)) (fun i => nI (bs i)) (fun i => nI (kd i)) na y_tVal y_slotList y_slotVal y_vals y_wNode y_wStep y_env y_actBase fu) (nI f) (nI n) (nI M) (nI F) (nI N) y_code y_fault y_bound y_status y_calls y_depth y_fuelLimit y_hasResult y_resVal y_vTop y_wTop y_envTop y_runBegun y_runK y_factJ y_factK (fun i => nI (pc i)) mk (fun i => nI (rt i)) (fun i => nI (bs i)) (fun i => nI (kd i)) na y_tVal y_slotList y_slotVal y_vals y_wNode y_wStep y_env y_actBase := by
      intro y
      rw [if_neg y] at hJ hp
      unfold wY_compile_137
      rw [e]
      have nx : ¬ (kd n = 5 ∧ (na n < 0 ∨ nI f < na n)) → wY_compile_80 post J (nI f) (nI M) (nI F) (nI N) y_code y_fault y_bound y_status y_calls y_depth y_fuelLimit y_hasResult y_resVal y_vTop y_wTop y_envTop y_runBegun y_runK y_factJ y_factK (fun i => nI (pc i)) mk (fun i => nI (rt i)) (fun i => nI (bs i)) (fun i => nI (kd i)) na y_tVal y_slotList y_slotVal y_vals y_wNode y_wStep y_env y_actBase fu (nI (n + 1)) := by
        intro y2
        rw [if_neg y2] at hJ hp
        exact ih (n + 1) fu (by omega) (by omega) (by omega) hJ hp
      have bad : (kd n = 5 ∧ (na n < 0 ∨ nI f < na n)) → wY_compile_166 post (nI f) (nI M) (nI F) (nI N) y_code y_fault y_bound y_status y_calls y_depth y_fuelLimit y_hasResult y_resVal y_vTop y_wTop y_envTop y_runBegun y_runK y_factJ y_factK (fun i => nI (pc i)) mk (fun i => nI (rt i)) (fun i => nI (bs i)) (fun i => nI (kd i)) na y_tVal y_slotList y_slotVal y_vals y_wNode y_wStep y_env y_actBase := by
        intro y2
        rw [if_pos y2] at hp
        exact hp 4 rfl (by decide)
      refine ⟨hv, pk_eq (kd n) 5 (fun k => ⟨hv, br_c (fun c => bad ⟨k, Or.inl c⟩) (fun c => ⟨hv, br_c (fun c2 => nm_r (nI_1 n) (nx (fun y2 => ?_))) (fun c2 => bad ⟨k, Or.inr (Int32.not_le.mp c2)⟩)⟩)⟩) (fun k => nm_r (nI_1 n) (nx (fun y2 => k y2.1)))⟩
      rcases y2.2 with w | w
      · exact c w
      · exact Int32.not_le.mpr w c2
    have bad : (kd n = 0 ∧ (na n < 0 ∨ nI (pr_sc F N pc bs kd na n) ≤ na n)) → wY_compile_130 post (nI f) (nI M) (nI F) (nI N) y_code y_fault y_bound y_status y_calls y_depth y_fuelLimit y_hasResult y_resVal y_vTop y_wTop y_envTop y_runBegun y_runK y_factJ y_factK (fun i => nI (pc i)) mk (fun i => nI (rt i)) (fun i => nI (bs i)) (fun i => nI (kd i)) na y_tVal y_slotList y_slotVal y_vals y_wNode y_wStep y_env y_actBase := by
      intro y
      rw [if_pos y] at hp
      exact hp 3 rfl (by decide)
    unfold wY_compile_80
    refine wy_bodyEnd h hf (br_f (nI_ge (by omega) (by omega)) (br_f (nI_ge (b := 64) (by omega) (by decide)) ⟨hv, ?_⟩))
    rw [e]
    refine pk_eq (kd n) 0 (fun k => wy_scopeSize h hw hn hfn ⟨hv, br_c (fun c => bad ⟨k, Or.inl c⟩) (fun c => ⟨hv, br_c (fun c2 => go (fun y => ?_)) (fun c2 => bad ⟨k, Or.inr (Int32.not_lt.mp c2)⟩)⟩)⟩) (fun k => go (fun y => k y.1))
    rcases y.2 with w | w
    · exact c w
    · exact Int32.not_lt.mpr w c2
theorem wy_p2 {post : Int32 → SY → Prop} (h : pr_in F N pc rt bs kd mk na) (hw : pg_wf F N bs (pr_ar F pc kd na)) :
    ∀ (r f fu : Nat), f + r = F → r < fu → ((cd_r (pr_q2 F N pc bs kd na) r f).1 = 1 → ∃ n187, wY_compile_187 post (nI M) (nI F) (nI N) y_code y_fault y_bound y_status y_calls y_depth y_fuelLimit y_hasResult y_resVal y_vTop y_wTop y_envTop y_runBegun y_runK y_factJ y_factK (fun i => nI (pc i)) mk (fun i => nI (rt i)) (fun i => nI (bs i)) (fun i => nI (kd i)) na y_tVal y_slotList y_slotVal y_vals y_wNode y_wStep y_env y_actBase n187 0) →
      (¬ (cd_r (pr_q2 F N pc bs kd na) r f).1 = 1 → post (cd_r (pr_q2 F N pc bs kd na) r f).1 ((nI M), (nI F), (nI N), ((cd_r (pr_q2 F N pc bs kd na) r f).1), ((cd_r (pr_q2 F N pc bs kd na) r f).2), y_bound, y_status, y_calls, y_depth, y_fuelLimit, y_hasResult, y_resVal, y_vTop, y_wTop, y_envTop, y_runBegun, y_runK, y_factJ, y_factK, (fun i => nI (pc i)), mk, (fun i => nI (rt i)), (fun i => nI (bs i)), (fun i => nI (kd i)), na, y_tVal, y_slotList, y_slotVal, y_vals, y_wNode, y_wStep, y_env, y_actBase)) → wY_compile_65 post (nI M) (nI F) (nI N) y_code y_fault y_bound y_status y_calls y_depth y_fuelLimit y_hasResult y_resVal y_vTop y_wTop y_envTop y_runBegun y_runK y_factJ y_factK (fun i => nI (pc i)) mk (fun i => nI (rt i)) (fun i => nI (bs i)) (fun i => nI (kd i)) na y_tVal y_slotList y_slotVal y_vals y_wNode y_wStep y_env y_actBase fu (nI f) := by
  have h6 := h.1
  have h64 := h.2.1
  intro r
  induction r with
  | zero =>
    intro f fu h1 h2 hg hp
    obtain ⟨fu, rfl⟩ : ∃ f, fu = f + 1 := ⟨fu - 1, by omega⟩
    exact br_t (nI_le (by omega) (by omega)) (hg rfl)
  | succ r ih =>
    intro f fu h1 h2 hg hp
    obtain ⟨fu, rfl⟩ : ∃ f, fu = f + 1 := ⟨fu - 1, by omega⟩
    have hf : f < F := by omega
    have hlt := (hw.2.2.2.2 f hf).1
    have hN := pg_lastN hw hf
    have e : (nI f).toNatClampNeg = f := nI_clamp (by omega)
    rw [cd_r] at hg hp
    refine br_f (nI_ge (by omega) (by omega)) ⟨vp_in_nI (by omega) (by omega), nm_r (e' := nI (bs f)) (by rw [e]) ⟨65, ?_⟩⟩
    refine wy_c80 h hw hf (pg_be F N bs f - bs f) (bs f) 65 (by omega) (Nat.le_refl _) (by omega) (fun y => ?_) (fun c y yc => ?_)
    · rw [if_pos (show pr_q2 F N pc bs kd na f = 1 from y)] at hg hp
      exact ih (f + 1) fu (by omega) (by omega) hg hp
    · have y' : pr_q2 F N pc bs kd na f = c := y
      rw [y', if_neg yc] at hp
      exact hp yc
theorem wy_p1 {post : Int32 → SY → Prop} (h : pr_in F N pc rt bs kd mk na) :
    ∀ (r f fu : Nat), f + r = F → r < fu → ((cd_r (pr_q1 F N pc bs kd na) r f).1 = 1 → ∃ n65, wY_compile_65 post (nI M) (nI F) (nI N) y_code y_fault y_bound y_status y_calls y_depth y_fuelLimit y_hasResult y_resVal y_vTop y_wTop y_envTop y_runBegun y_runK y_factJ y_factK (fun i => nI (pc i)) mk (fun i => nI (rt i)) (fun i => nI (bs i)) (fun i => nI (kd i)) na y_tVal y_slotList y_slotVal y_vals y_wNode y_wStep y_env y_actBase n65 0) →
      (¬ (cd_r (pr_q1 F N pc bs kd na) r f).1 = 1 → post (cd_r (pr_q1 F N pc bs kd na) r f).1 ((nI M), (nI F), (nI N), ((cd_r (pr_q1 F N pc bs kd na) r f).1), ((cd_r (pr_q1 F N pc bs kd na) r f).2), y_bound, y_status, y_calls, y_depth, y_fuelLimit, y_hasResult, y_resVal, y_vTop, y_wTop, y_envTop, y_runBegun, y_runK, y_factJ, y_factK, (fun i => nI (pc i)), mk, (fun i => nI (rt i)), (fun i => nI (bs i)), (fun i => nI (kd i)), na, y_tVal, y_slotList, y_slotVal, y_vals, y_wNode, y_wStep, y_env, y_actBase)) → wY_compile_34 post (nI M) (nI F) (nI N) y_code y_fault y_bound y_status y_calls y_depth y_fuelLimit y_hasResult y_resVal y_vTop y_wTop y_envTop y_runBegun y_runK y_factJ y_factK (fun i => nI (pc i)) mk (fun i => nI (rt i)) (fun i => nI (bs i)) (fun i => nI (kd i)) na y_tVal y_slotList y_slotVal y_vals y_wNode y_wStep y_env y_actBase fu (nI f) := by
  have h6 := h.1
  intro r
  induction r with
  | zero =>
    intro f fu h1 h2 hg hp
    obtain ⟨fu, rfl⟩ : ∃ f, fu = f + 1 := ⟨fu - 1, by omega⟩
    exact br_t (nI_le (by omega) (by omega)) (hg rfl)
  | succ r ih =>
    intro f fu h1 h2 hg hp
    obtain ⟨fu, rfl⟩ : ∃ f, fu = f + 1 := ⟨fu - 1, by omega⟩
    rw [cd_r] at hg hp
    refine br_f (nI_ge (by omega) (by omega)) (wy_shapeOk h (by omega) (fun y => ?_) (fun y => ?_))
    · rw [if_pos (pr_q1_t y)] at hg hp
      exact br_f (by decide) (nm_r (nI_1 f) (ih (f + 1) fu (by omega) (by omega) hg hp))
    · rw [pr_q1_f y, if_neg (by decide)] at hp
      exact br_t rfl (hp (show ¬ (2 : Int32) = 1 by decide))
theorem wy_compile {post : Int32 → SY → Prop} (h : pr_in F N pc rt bs kd mk na) (hM : M ≤ 12) (hp7 : F = 0 → post 7 ((nI M), (nI F), (nI N), 7, (-1), 0, 0, 0, 0, y_fuelLimit, 0, y_resVal, 0, 0, 0, y_runBegun, y_runK, y_factJ, y_factK, (fun i => nI (pc i)), mk, (fun i => nI (rt i)), (fun i => nI (bs i)), (fun i => nI (kd i)), na, y_tVal, y_slotList, y_slotVal, y_vals, y_wNode, y_wStep, y_env, y_actBase))
    (hp : 0 < F → ∀ a b tv, post (pr_res F N pc rt bs kd mk na).1 ((nI M), (nI F), (nI N), ((pr_res F N pc rt bs kd mk na).1), ((pr_res F N pc rt bs kd mk na).2), (pr_bnd M F N pc bs kd na (pr_res F N pc rt bs kd mk na).1), 0, 0, 0, y_fuelLimit, 0, y_resVal, 0, 0, 0, y_runBegun, y_runK, a, b, (fun i => nI (pc i)), mk, (fun i => nI (rt i)), (fun i => nI (bs i)), (fun i => nI (kd i)), na, tv, y_slotList, y_slotVal, y_vals, y_wNode, y_wStep, y_env, y_actBase)) : wpY_compile post ((nI M), (nI F), (nI N), y_code, y_fault, y_bound, y_status, y_calls, y_depth, y_fuelLimit, y_hasResult, y_resVal, y_vTop, y_wTop, y_envTop, y_runBegun, y_runK, y_factJ, y_factK, (fun i => nI (pc i)), mk, (fun i => nI (rt i)), (fun i => nI (bs i)), (fun i => nI (kd i)), na, y_tVal, y_slotList, y_slotVal, y_vals, y_wNode, y_wStep, y_env, y_actBase) := by
  have h6 := h.1
  refine pk_eq F 0 (fun z1 => hp7 z1) (fun z1 => ⟨8, ?_⟩)
  have hF : 0 < F := by omega
  have hp := hp hF
  have nb : ∀ c, ¬ c = 1 → pr_bnd M F N pc bs kd na c = 0 := fun c hc => by unfold pr_bnd; rw [if_neg hc]
  refine wy_p1 (y_fault := -1) (y_bound := 0) (y_status := 0) (y_calls := 0) (y_depth := 0) (y_hasResult := 0) (y_vTop := 0) (y_wTop := 0) (y_envTop := 0) h F 0 8 (by omega) (by omega) (fun e1 => ⟨8, ?_⟩) (fun e1 => ?_)
  · have hw := pr_wf1 h hF e1
    refine wy_p2 (y_fault := -1) (y_bound := 0) (y_status := 0) (y_calls := 0) (y_depth := 0) (y_hasResult := 0) (y_vTop := 0) (y_wTop := 0) (y_envTop := 0) h hw F 0 8 (by omega) (by omega) (fun e2 => ⟨8, ?_⟩) (fun e2 => ?_)
    · have hnm := pr_nm1 h hw e2
      refine wy_p3 (y_fault := -1) (y_bound := 0) (y_status := 0) (y_calls := 0) (y_depth := 0) (y_hasResult := 0) (y_vTop := 0) (y_wTop := 0) (y_envTop := 0) h hw hnm F 0 8 (by omega) (by omega) (fun e3 => ⟨8, ?_⟩) (fun e3 => ?_)
      · have er : pr_res F N pc rt bs kd mk na = cd_r (pr_q4 F N pc bs kd na) F 0 := by unfold pr_res; rw [if_pos e1, if_pos e2, if_pos e3]
        rw [er] at hp
        exact wy_p4 (y_status := 0) (y_calls := 0) (y_depth := 0) (y_hasResult := 0) (y_vTop := 0) (y_wTop := 0) (y_envTop := 0) h hM hF hw hnm F 0 8 _ _ (by omega) (by omega) hp
      · have er : pr_res F N pc rt bs kd mk na = cd_r (pr_q3 F N pc rt bs kd mk na) F 0 := by unfold pr_res; rw [if_pos e1, if_pos e2, if_neg e3]
        rw [er, nb _ e3] at hp
        exact hp _ _ _
    · have er : pr_res F N pc rt bs kd mk na = cd_r (pr_q2 F N pc bs kd na) F 0 := by unfold pr_res; rw [if_pos e1, if_neg e2]
      rw [er, nb _ e2] at hp
      exact hp _ _ _
  · have er : pr_res F N pc rt bs kd mk na = cd_r (pr_q1 F N pc bs kd na) F 0 := by unfold pr_res; rw [if_neg e1]
    rw [er, nb _ e1] at hp
    exact hp _ _ _
end
