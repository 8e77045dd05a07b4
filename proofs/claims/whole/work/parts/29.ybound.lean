section
variable {y_m y_fCount y_nCount y_code y_fault y_status y_depth y_hasResult y_vTop y_wTop y_envTop y_runBegun y_runK y_factJ y_factK : Int32} {y_bound y_calls y_fuelLimit y_resVal : Int64} {y_fParams y_fMask y_fRes y_fStart y_nKind y_nArg y_slotList y_wNode y_wStep y_actBase : Nat → Int32} {y_tVal y_slotVal y_vals y_env : Nat → Int64}
variable {M F N k : Nat} {pc rt bs kd : Nat → Nat} {mk na : Nat → Int32}
theorem wy_satAdd {post : Int64 → Prop} {a b : Nat} (ha : a ≤ bd_D) (hb : b ≤ bd_D) (hp : post (lN (bd_c bd_D (a + b)))) : wpY_satAdd post ((nI M), (nI F), (nI N), y_code, y_fault, y_bound, y_status, y_calls, y_depth, y_fuelLimit, y_hasResult, y_resVal, y_vTop, y_wTop, y_envTop, y_runBegun, y_runK, y_factJ, y_factK, (fun i => nI (pc i)), mk, (fun i => nI (rt i)), (fun i => nI (bs i)), (fun i => nI (kd i)), na, y_tVal, y_slotList, y_slotVal, y_vals, y_wNode, y_wStep, y_env, y_actBase) (lN a) (lN b) := by
  have hD : bd_D < 2 ^ 62 := bd_D62
  refine nm_r (lN_add a b) ?_
  show (lN (a + b) ≤ lN bd_D → post (lN (a + b))) ∧ (¬ lN (a + b) ≤ lN bd_D → post (lN bd_D))
  rw [pk_lLE (by omega) (by omega)]
  unfold bd_c at hp
  constructor
  · intro h; rw [if_pos h] at hp; exact hp
  · intro h; rw [if_neg h] at hp; exact hp
theorem wy_satMul {post : Int64 → Prop} {a b : Nat} (ha : a ≤ bd_D) (hb : b ≤ bd_D) (hp : post (lN (bd_c bd_D (a * b)))) : wpY_satMul post ((nI M), (nI F), (nI N), y_code, y_fault, y_bound, y_status, y_calls, y_depth, y_fuelLimit, y_hasResult, y_resVal, y_vTop, y_wTop, y_envTop, y_runBegun, y_runK, y_factJ, y_factK, (fun i => nI (pc i)), mk, (fun i => nI (rt i)), (fun i => nI (bs i)), (fun i => nI (kd i)), na, y_tVal, y_slotList, y_slotVal, y_vals, y_wNode, y_wStep, y_env, y_actBase) (lN a) (lN b) := by
  have hD : bd_D < 2 ^ 62 := bd_D62
  by_cases h1 : a = 0
  · subst h1
    rw [Nat.zero_mul, bd_c_of (Nat.zero_le _)] at hp
    exact br_t rfl hp
  · refine br_f (bp_ne (by omega) h1) ?_
    by_cases h0 : b = 0
    · subst h0
      rw [Nat.mul_zero, bd_c_of (Nat.zero_le _)] at hp
      exact br_t rfl hp
    · have hn := bp_ne (b := b) (by omega) h0
      refine br_f hn ⟨hn, ?_⟩
      show (lN a ≤ lN bd_D / lN b → _) ∧ (¬ lN a ≤ lN bd_D / lN b → _)
      have hq : bd_D / b ≤ bd_D := Nat.div_le_self _ _
      have hd := bd_div (C := bd_D) (a := a) (b := b) (by omega)
      rw [pk_lDiv (by omega) (by omega) (by omega), pk_lLE (by omega) (by omega)]
      unfold bd_c at hp
      refine ⟨fun c => nm_r (lN_mul a b) ?_, fun c => ?_⟩
      · show (lN (a * b) ≤ lN bd_D → post (lN (a * b))) ∧ (¬ lN (a * b) ≤ lN bd_D → post (lN bd_D))
        have hab : a * b ≤ bd_D := by omega
        rw [if_pos hab] at hp
        exact br_t ((pk_lLE (by omega) (by omega)).mpr hab) hp
      · rw [if_neg (by omega)] at hp; exact hp
theorem wy_ct10 {post : Int64 → Prop} (h : pr_in F N pc rt bs kd mk na) {f g : Nat} (hf : f < F) : ∀ (r n c fu : Nat), n + r = pg_be F N bs f → r < fu → c + r ≤ 64 → post (lN (c + cd_ct kd na g r n)) → wY_countCalls_10 post (nI f) (nI g) (nI M) (nI F) (nI N) y_code y_fault y_bound y_status y_calls y_depth y_fuelLimit y_hasResult y_resVal y_vTop y_wTop y_envTop y_runBegun y_runK y_factJ y_factK (fun i => nI (pc i)) mk (fun i => nI (rt i)) (fun i => nI (bs i)) (fun i => nI (kd i)) na y_tVal y_slotList y_slotVal y_vals y_wNode y_wStep y_env y_actBase fu (lN c) (nI n) := by
  have h64 := h.2.1
  have hb := pr_be_le h hf
  intro r
  induction r with
  | zero =>
    intro n c fu h1 h2 h3 hp
    obtain ⟨fu, rfl⟩ : ∃ f, fu = f + 1 := ⟨fu - 1, by omega⟩
    unfold wY_countCalls_10
    exact wy_bodyEnd h hf (br_t (nI_le (by omega) (by omega)) hp)
  | succ r ih =>
    intro n c fu h1 h2 h3 hp
    obtain ⟨fu, rfl⟩ : ∃ f, fu = f + 1 := ⟨fu - 1, by omega⟩
    have hk := h.2.2.2.2.2.1 n
    have e1 : (nI n).toNatClampNeg = n := nI_clamp (by omega)
    have hv : vp_in (nI n) 64 := vp_in_nI (by omega) (by omega)
    rw [cd_ct] at hp
    unfold wY_countCalls_10
    refine wy_bodyEnd h hf (br_f (nI_ge (by omega) (by omega)) (br_f (nI_ge (b := 64) (by omega) (by decide)) ⟨hv, ?_⟩))
    rw [e1]
    refine pk_eq (kd n) 5 (fun k => ⟨hv, br_c (fun y => ?_) (fun y => ?_)⟩) (fun k => ?_)
    · rw [if_pos ⟨k, y⟩, ← Nat.add_assoc] at hp
      exact nm_r (lN_1 c) (nm_r (nI_1 n) (ih (n + 1) (c + 1) fu (by omega) (by omega) (by omega) hp))
    · rw [if_neg (fun w => y w.2), Nat.zero_add] at hp
      exact nm_r (nI_1 n) (ih (n + 1) c fu (by omega) (by omega) (by omega) hp)
    · rw [if_neg (fun w => k w.1), Nat.zero_add] at hp
      exact nm_r (nI_1 n) (ih (n + 1) c fu (by omega) (by omega) (by omega) hp)
theorem wy_countCalls {post : Int64 → Prop} (h : pr_in F N pc rt bs kd mk na) {f g : Nat} (hf : f < F) (hp : post (lN (pr_ct F N bs kd na f g))) : wpY_countCalls post ((nI M), (nI F), (nI N), y_code, y_fault, y_bound, y_status, y_calls, y_depth, y_fuelLimit, y_hasResult, y_resVal, y_vTop, y_wTop, y_envTop, y_runBegun, y_runK, y_factJ, y_factK, (fun i => nI (pc i)), mk, (fun i => nI (rt i)), (fun i => nI (bs i)), (fun i => nI (kd i)), na, y_tVal, y_slotList, y_slotVal, y_vals, y_wNode, y_wStep, y_env, y_actBase) (nI f) (nI g) := by
  have h6 := h.1
  have h64 := h.2.1
  have hb := pr_be_le h hf
  have e : (nI f).toNatClampNeg = f := nI_clamp (by omega)
  refine ⟨vp_in_nI (by omega) (by omega), nm_r (e' := nI (bs f)) (by rw [e]) ⟨65, ?_⟩⟩
  refine wy_ct10 h hf (pg_be F N bs f - bs f) (bs f) 0 65 (by omega) (by omega) (by omega) ?_
  rw [Nat.zero_add]
  exact hp
theorem wy_cb115 {post : SY → Prop} (h : pr_in F N pc rt bs kd mk na) {J} {f : Nat} (hf : f < F) (hT : ∀ g, g < f → y_tVal g = lN (bd_c bd_D (pr_T M F N pc bs kd na g)))
    (hJ : J (nI (f + 1)) (fun i => nI (pc i)) mk (fun i => nI (rt i)) (fun i => nI (bs i)) (fun i => nI (kd i)) na (vp_updL y_tVal f (lN (bd_c bd_D (pr_T M F N pc bs kd na f)))) y_slotList y_slotVal y_vals y_wNode y_wStep y_env y_actBase) :
    ∀ (t i fu : Nat), i + t = f → t < fu → wY_computeBound_115 post J (nI f) (lN (bd_c bd_D (bd_S (pr_ct F N bs kd na f f) (pr_L M pc f)))) (nI M) (nI F) (nI N) y_code y_fault y_bound y_status y_calls y_depth y_fuelLimit y_hasResult y_resVal y_vTop y_wTop y_envTop y_runBegun y_runK y_factJ y_factK (fun i => nI (pc i)) mk (fun i => nI (rt i)) (fun i => nI (bs i)) (fun i => nI (kd i)) na y_tVal y_slotList y_slotVal y_vals y_wNode y_wStep y_env y_actBase fu (lN (bd_c bd_D (bd_in (pr_ct F N bs kd na f) (pr_T M F N pc bs kd na) i))) (nI i) := by
  have h6 := h.1
  have c1 : 64 ≤ bd_D := by decide
  have ef : (nI f).toNatClampNeg = f := nI_clamp (by omega)
  intro t
  induction t with
  | zero =>
    intro i fu h1 h2
    obtain ⟨fu, rfl⟩ : ∃ f, fu = f + 1 := ⟨fu - 1, by omega⟩
    have ei : i = f := by omega
    subst ei
    refine br_t (nI_le (Nat.le_refl _) (by omega)) (wy_satMul (bd_c_le _ _) (bd_c_le _ _) ⟨vp_in_nI (by omega) (by omega), ?_⟩)
    rw [ef, bd_mul, bd_mul2]
    unfold pr_T at hJ ⊢
    rw [← bd_T_eq]
    exact nm_e (nm_r (nI_1 i) hJ)
  | succ t ih =>
    intro i fu h1 h2
    obtain ⟨fu, rfl⟩ : ∃ f, fu = f + 1 := ⟨fu - 1, by omega⟩
    have c64 := pr_ct64 h hf i
    have ei : (nI i).toNatClampNeg = i := nI_clamp (by omega)
    refine br_f (nI_ge (by omega) (by omega)) (wy_countCalls h hf ⟨vp_in_nI (by omega) (by omega), ?_⟩)
    rw [ei, hT i (by omega)]
    refine wy_satMul (by omega) (bd_c_le _ _) (wy_satAdd (bd_c_le _ _) (bd_c_le _ _) (nm_r (nI_1 i) ?_))
    rw [bd_add, bd_mul2, bd_add2]
    exact ih (i + 1) fu (by omega) (by omega)
theorem wy_cb67 {post : SY → Prop} (h : pr_in F N pc rt bs kd mk na) (hM : M ≤ 12) {J} {f : Nat} (hf : f < F) (hT : ∀ g, g < f → y_tVal g = lN (bd_c bd_D (pr_T M F N pc bs kd na g)))
    (hJ : J (nI (f + 1)) (fun i => nI (pc i)) mk (fun i => nI (rt i)) (fun i => nI (bs i)) (fun i => nI (kd i)) na (vp_updL y_tVal f (lN (bd_c bd_D (pr_T M F N pc bs kd na f)))) y_slotList y_slotVal y_vals y_wNode y_wStep y_env y_actBase) :
    ∀ (t i fu : Nat), i + t = pr_L M pc f → t < fu → wY_computeBound_67 post J (nI f) (lN (pr_ct F N bs kd na f f)) (lN (pr_L M pc f)) (nI M) (nI F) (nI N) y_code y_fault y_bound y_status y_calls y_depth y_fuelLimit y_hasResult y_resVal y_vTop y_wTop y_envTop y_runBegun y_runK y_factJ y_factK (fun i => nI (pc i)) mk (fun i => nI (rt i)) (fun i => nI (bs i)) (fun i => nI (kd i)) na y_tVal y_slotList y_slotVal y_vals y_wNode y_wStep y_env y_actBase fu (lN (bd_c bd_D (bd_S (pr_ct F N bs kd na f f) i))) (lN (bd_c bd_D (pr_ct F N bs kd na f f ^ i))) (nI i) := by
  have h6 := h.1
  have hL : pr_L M pc f ≤ 2197 := pr_Lb hM _ (h.2.2.1 f)
  have c64 := pr_ct64 h hf f
  have c1 : 64 ≤ bd_D := by decide
  intro t
  induction t with
  | zero =>
    intro i fu h1 h2
    obtain ⟨fu, rfl⟩ : ∃ f, fu = f + 1 := ⟨fu - 1, by omega⟩
    have ei : i = pr_L M pc f := by omega
    rw [ei]
    have go : ∃ n115, wY_computeBound_115 post J (nI f) (lN (bd_c bd_D (bd_S (pr_ct F N bs kd na f f) (pr_L M pc f)))) (nI M) (nI F) (nI N) y_code y_fault y_bound y_status y_calls y_depth y_fuelLimit y_hasResult y_resVal y_vTop y_wTop y_envTop y_runBegun y_runK y_factJ y_factK (fun i => nI (pc i)) mk (fun i => nI (rt i)) (fun i => nI (bs i)) (fun i => nI (kd i)) na y_tVal y_slotList y_slotVal y_vals y_wNode y_wStep y_env y_actBase n115 1 0 := ⟨7, wy_cb115 h hf hT hJ f 0 7 (by omega) (by omega)⟩
    refine br_c (fun _ => go) (fun _ => br_t ?_ go)
    rw [nI_l (by omega)]
    exact Int64.le_refl _
  | succ t ih =>
    intro i fu h1 h2
    obtain ⟨fu, rfl⟩ : ∃ f, fu = f + 1 := ⟨fu - 1, by omega⟩
    refine br_f (nI_ge (b := 2197) (by omega) (by decide)) (br_f ?_ (wy_satAdd (bd_c_le _ _) (bd_c_le _ _) (wy_satMul (bd_c_le _ _) (by omega) (nm_r (nI_1 i) ?_))))
    · rw [nI_l (by omega), lN_le (by omega) (by omega)]
      omega
    · rw [bd_add, bd_add2, bd_mul, ← Nat.pow_succ]
      exact ih (i + 1) fu (by omega) (by omega)
theorem wy_cb23 {post : SY → Prop} (h : pr_in F N pc rt bs kd mk na) (hM : M ≤ 12) {J} {f : Nat} (hf : f < F) (hT : ∀ g, g < f → y_tVal g = lN (bd_c bd_D (pr_T M F N pc bs kd na g)))
    (hJ : J (nI (f + 1)) (fun i => nI (pc i)) mk (fun i => nI (rt i)) (fun i => nI (bs i)) (fun i => nI (kd i)) na (vp_updL y_tVal f (lN (bd_c bd_D (pr_T M F N pc bs kd na f)))) y_slotList y_slotVal y_vals y_wNode y_wStep y_env y_actBase) :
    ∀ (t i fu : Nat), i + t = pc f → t < fu → wY_computeBound_23 post J (nI f) (lN (pr_ct F N bs kd na f f)) (nI M) (nI F) (nI N) y_code y_fault y_bound y_status y_calls y_depth y_fuelLimit y_hasResult y_resVal y_vTop y_wTop y_envTop y_runBegun y_runK y_factJ y_factK (fun i => nI (pc i)) mk (fun i => nI (rt i)) (fun i => nI (bs i)) (fun i => nI (kd i)) na y_tVal y_slotList y_slotVal y_vals y_wNode y_wStep y_env y_actBase fu (lN ((M + 1) ^ i)) (nI i) := by
  have h6 := h.1
  have hp3 := h.2.2.1 f
  have hL : pr_L M pc f ≤ 2197 := pr_Lb hM _ hp3
  have e : (nI f).toNatClampNeg = f := nI_clamp (by omega)
  have hv : vp_in (nI f) 6 := vp_in_nI (by omega) (by omega)
  intro t
  induction t with
  | zero =>
    intro i fu h1 h2
    obtain ⟨fu, rfl⟩ : ∃ f, fu = f + 1 := ⟨fu - 1, by omega⟩
    have ei : i = pc f := by omega
    refine ⟨hv, ?_⟩
    show ((fun i => nI (pc i)) (nI f).toNatClampNeg ≤ _ → _) ∧ _
    rw [e, ei]
    exact br_t (nI_le (Nat.le_refl _) (by omega)) ⟨2198, wy_cb67 h hM hf hT hJ (pr_L M pc f) 0 2198 (by omega) (by omega)⟩
  | succ t ih =>
    intro i fu h1 h2
    obtain ⟨fu, rfl⟩ : ∃ f, fu = f + 1 := ⟨fu - 1, by omega⟩
    refine ⟨hv, ?_⟩
    show ((fun i => nI (pc i)) (nI f).toNatClampNeg ≤ _ → _) ∧ _
    rw [e]
    refine br_f (nI_ge (by omega) (by omega)) (br_f (nI_ge (b := 3) (by omega) (by decide)) (nm_r (e' := lN ((M + 1) ^ (i + 1))) (by rw [nI_1, nI_l (by omega), lN_mul, Nat.pow_succ]) (nm_r (nI_1 i) (ih (i + 1) fu (by omega) (by omega)))))
theorem wy_cb2 {post : SY → Prop} (h : pr_in F N pc rt bs kd mk na) (hM : M ≤ 12) (hF : 0 < F) (hp : ∀ tv, post ((nI M), (nI F), (nI N), y_code, y_fault, (lN (bd_c bd_C (pr_T M F N pc bs kd na (F - 1)))), y_status, y_calls, y_depth, y_fuelLimit, y_hasResult, y_resVal, y_vTop, y_wTop, y_envTop, y_runBegun, y_runK, y_factJ, y_factK, (fun i => nI (pc i)), mk, (fun i => nI (rt i)), (fun i => nI (bs i)), (fun i => nI (kd i)), na, tv, y_slotList, y_slotVal, y_vals, y_wNode, y_wStep, y_env, y_actBase)) :
    ∀ (t f fu : Nat) (tv : Nat → Int64), f + t = F → t < fu → (∀ g, g < f → tv g = lN (bd_c bd_D (pr_T M F N pc bs kd na g))) → wY_computeBound_2 post (nI M) (nI F) (nI N) y_code y_fault y_bound y_status y_calls y_depth y_fuelLimit y_hasResult y_resVal y_vTop y_wTop y_envTop y_runBegun y_runK y_factJ y_factK fu (nI f) (fun i => nI (pc i)) mk (fun i => nI (rt i)) (fun i => nI (bs i)) (fun i => nI (kd i)) na tv y_slotList y_slotVal y_vals y_wNode y_wStep y_env y_actBase := by
  have h6 := h.1
  intro t
  induction t with
  | zero =>
    intro f fu tv h1 h2 h3
    obtain ⟨fu, rfl⟩ : ∃ f, fu = f + 1 := ⟨fu - 1, by omega⟩
    have e1 : nI F - 1 = nI (F - 1) := pk_sub (b := 1) hF
    have e2 : (nI (F - 1)).toNatClampNeg = F - 1 := nI_clamp (by omega)
    have hC : bd_C < 2 ^ 62 := bd_C62
    have hD : bd_D < 2 ^ 62 := bd_D62
    have hDC : bd_D = bd_C + 1 := rfl
    refine br_t (nI_le (by omega) (by omega)) ?_
    rw [e1, e2, h3 (F - 1) (by omega)]
    refine ⟨vp_in_nI (by omega) (by omega), nm_e ?_⟩
    show (lN (bd_c bd_D (pr_T M F N pc bs kd na (F - 1))) ≤ lN bd_C → _) ∧ (¬ lN (bd_c bd_D (pr_T M F N pc bs kd na (F - 1))) ≤ lN bd_C → post ((nI M), (nI F), (nI N), y_code, y_fault, (lN bd_C), y_status, y_calls, y_depth, y_fuelLimit, y_hasResult, y_resVal, y_vTop, y_wTop, y_envTop, y_runBegun, y_runK, y_factJ, y_factK, (fun i => nI (pc i)), mk, (fun i => nI (rt i)), (fun i => nI (bs i)), (fun i => nI (kd i)), na, tv, y_slotList, y_slotVal, y_vals, y_wNode, y_wStep, y_env, y_actBase))
    have hp' := hp tv
    generalize pr_T M F N pc bs kd na (F - 1) = T at hp' ⊢
    have hle := bd_c_le bd_D T
    rw [pk_lLE (by omega) (by omega)]
    unfold bd_c at hp' ⊢
    constructor
    · intro c
      by_cases hT : T ≤ bd_C
      · rw [if_pos hT] at hp'
        rw [if_pos (by omega)]
        exact hp'
      · exfalso
        split at c <;> omega
    · intro c
      rw [if_neg (by intro y; rw [if_pos (by omega)] at c; omega)] at hp'
      exact hp'
  | succ t ih =>
    intro f fu tv h1 h2 h3
    obtain ⟨fu, rfl⟩ : ∃ f, fu = f + 1 := ⟨fu - 1, by omega⟩
    refine br_f (nI_ge (by omega) (by omega)) (wy_countCalls (y_tVal := tv) h (by omega) ⟨4, ?_⟩)
    refine wy_cb23 (y_tVal := tv) h hM (by omega) h3 (ih (f + 1) fu _ (by omega) (by omega) (fun g hg => ?_)) (pc f) 0 4 (by omega) (by have := h.2.2.1 f; omega)
    rcases Nat.eq_or_lt_of_le (Nat.le_of_lt_succ hg) with z1 | z1
    · subst z1; exact pk_uLs
    · rw [pk_uLn (by omega)]; exact h3 g z1
theorem wy_computeBound {post : SY → Prop} (h : pr_in F N pc rt bs kd mk na) (hM : M ≤ 12) (hF : 0 < F) (hp : ∀ tv, post ((nI M), (nI F), (nI N), y_code, y_fault, (lN (bd_c bd_C (pr_T M F N pc bs kd na (F - 1)))), y_status, y_calls, y_depth, y_fuelLimit, y_hasResult, y_resVal, y_vTop, y_wTop, y_envTop, y_runBegun, y_runK, y_factJ, y_factK, (fun i => nI (pc i)), mk, (fun i => nI (rt i)), (fun i => nI (bs i)), (fun i => nI (kd i)), na, tv, y_slotList, y_slotVal, y_vals, y_wNode, y_wStep, y_env, y_actBase)) : wpY_computeBound post ((nI M), (nI F), (nI N), y_code, y_fault, y_bound, y_status, y_calls, y_depth, y_fuelLimit, y_hasResult, y_resVal, y_vTop, y_wTop, y_envTop, y_runBegun, y_runK, y_factJ, y_factK, (fun i => nI (pc i)), mk, (fun i => nI (rt i)), (fun i => nI (bs i)), (fun i => nI (kd i)), na, y_tVal, y_slotList, y_slotVal, y_vals, y_wNode, y_wStep, y_env, y_actBase) := by
  have h6 := h.1
  exact ⟨7, wy_cb2 h hM hF hp F 0 7 _ (by omega) (by omega) (fun g hg => by omega)⟩
end
