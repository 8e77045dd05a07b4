section
variable {y_m y_fCount y_nCount y_code y_fault y_status y_depth y_hasResult y_vTop y_wTop y_envTop y_runBegun y_runK y_factJ y_factK : Int32} {y_bound y_calls y_fuelLimit y_resVal : Int64} {y_fParams y_fMask y_fRes y_fStart y_nKind y_nArg y_slotList y_wNode y_wStep y_actBase : Nat → Int32} {y_tVal y_slotVal y_vals y_env : Nat → Int64}
variable {M F N k : Nat} {pc rt bs kd : Nat → Nat} {mk na : Nat → Int32}
theorem wy_ds2 {post : Int32 → SY → Prop} (h : pr_in F N pc rt bs kd mk na) (hw : pg_wf F N bs (pr_ar F pc kd na)) (hnm : pr_nm F N pc bs kd na) {n f : Nat} (hn : n < N) (hfn : pg_fn F bs n = f) (k5 : kd n = 5) (ha : na n = nI f) :
    ∀ (t i fu : Nat) (a b : Int32), i + t = pc f → t < fu → (∀ a b, post (cd_b (cd_dn (fun i => pr_fe F N pc bs kd na n (tr_ch N (pr_ar F pc kd na) n i)) t i)) ((nI M), (nI F), (nI N), y_code, y_fault, y_bound, y_status, y_calls, y_depth, y_fuelLimit, y_hasResult, y_resVal, y_vTop, y_wTop, y_envTop, y_runBegun, y_runK, a, b, (fun i => nI (pc i)), mk, (fun i => nI (rt i)), (fun i => nI (bs i)), (fun i => nI (kd i)), na, y_tVal, y_slotList, y_slotVal, y_vals, y_wNode, y_wStep, y_env, y_actBase)) → wY_descends_2 post (nI n) (nI f) fu (nI i) (nI M) (nI F) (nI N) y_code y_fault y_bound y_status y_calls y_depth y_fuelLimit y_hasResult y_resVal y_vTop y_wTop y_envTop y_runBegun y_runK a b (fun i => nI (pc i)) mk (fun i => nI (rt i)) (fun i => nI (bs i)) (fun i => nI (kd i)) na y_tVal y_slotList y_slotVal y_vals y_wNode y_wStep y_env y_actBase := by
  have h6 := h.1
  have h64 := h.2.1
  have hp3 := h.2.2.1 f
  have hb := pg_body hw hn
  rw [hfn] at hb
  have e : (nI f).toNatClampNeg = f := nI_clamp (by omega)
  have hv : vp_in (nI f) 6 := vp_in_nI (by omega) (by omega)
  have eag : pr_ag na n = f := by unfold pr_ag; rw [ha]; exact e
  have har := (pr_ar5 hw h hnm hn k5).2.1
  rw [eag] at har
  intro t
  induction t with
  | zero =>
    intro i fu a b h1 h2 hp
    obtain ⟨fu, rfl⟩ : ∃ f, fu = f + 1 := ⟨fu - 1, by omega⟩
    refine ⟨hv, ?_⟩
    show ((fun i => nI (pc i)) (nI f).toNatClampNeg ≤ nI i → _) ∧ _
    rw [e]
    exact br_t (nI_le (by omega) (by omega)) (hp a b)
  | succ t ih =>
    intro i fu a b h1 h2 hp
    obtain ⟨fu, rfl⟩ : ∃ f, fu = f + 1 := ⟨fu - 1, by omega⟩
    obtain ⟨a1, a2, a3, a4, a5, a6, a7⟩ := pg_ch hw (n := n) (c := i) hn (by omega)
    have ef : pr_fe F N pc bs kd na (tr_ch N (pr_ar F pc kd na) n i) (tr_ch N (pr_ar F pc kd na) n i) = pr_fe F N pc bs kd na n (tr_ch N (pr_ar F pc kd na) n i) := by
      have : pr_fl F N pc bs kd na (tr_ch N (pr_ar F pc kd na) n i) = pr_fl F N pc bs kd na n := fx_l_0 a3 (sq_cv0 (Or.inr ⟨by omega, by omega⟩))
      unfold pr_fe
      rw [this]
    refine ⟨hv, ?_⟩
    show ((fun i => nI (pc i)) (nI f).toNatClampNeg ≤ nI i → _) ∧ _
    rw [e]
    refine br_f (nI_ge (by omega) (by omega)) (br_f (nI_ge (b := 3) (by omega) (by decide)) (wy_childAt (y_factJ := a) (y_factK := b) h hn (by omega) (wy_fact (y_factJ := a) (y_factK := b) h hw hnm a1 (by rw [a7]; exact hfn) (fun a' b' hab => ?_))))
    rw [ef] at hab
    have hp' := hp a' b'
    rw [cd_dn] at hp'
    have one : ∀ d : Int32, ¬ d < 1 ↔ 0 < d := fun d => by
      rw [Int32.not_lt, Int32.le_iff_toInt_le, Int32.lt_iff_toInt_lt, show (1 : Int32).toInt = 1 from by decide, show (0 : Int32).toInt = 0 from by decide]
      omega
    cases ho : pr_fe F N pc bs kd na n (tr_ch N (pr_ar F pc kd na) n i) with
    | none =>
      rw [ho] at hp' hab
      rw [hab.1 rfl] at hp' ⊢
      exact br_f (fun y => wx_no i (by omega) y.symm) (br_f (fun y => wx_no i (by omega) y.symm) hp')
    | some jk =>
      obtain ⟨j, kk⟩ := jk
      rw [ho] at hp' hab
      obtain ⟨q1, q2⟩ := hab.2 j kk rfl
      rw [q1, q2] at hp' ⊢
      dsimp only at hp'
      refine br_c (fun c1 => br_c (fun c2 => br_t c1 (br_c (fun c3 => ?_) (fun c3 => ?_))) (fun c2 => ?_)) (fun c1 => br_f c1 ?_)
      · have hih := ih (i + 1) fu (nI j) (Int32.ofInt kk) (by omega) (by omega) (fun a'' b'' => ?_)
        · exact nm_r (nI_1 i) hih
        · have := hp a'' b''
          rw [cd_dn, ho] at this
          dsimp only at this
          rw [if_neg (fun y => y c1), if_neg (Int32.not_lt.mpr c3), if_neg (fun y => (one _).mpr y c2)] at this
          exact this
      · rw [if_neg (fun y => y c1), if_pos (Int32.not_le.mp c3)] at hp'
        exact hp'
      · have c2' := (one _).mp c2
        rw [if_neg (fun y => y c1), if_neg (fun y => Int32.lt_irrefl (Int32.lt_trans y c2')), if_pos c2'] at hp'
        exact hp'
      · rw [if_pos c1] at hp'
        exact hp'
theorem wy_descends {post : Int32 → SY → Prop} (h : pr_in F N pc rt bs kd mk na) (hw : pg_wf F N bs (pr_ar F pc kd na)) (hnm : pr_nm F N pc bs kd na) {n f : Nat} (hn : n < N) (hfn : pg_fn F bs n = f) (k5 : kd n = 5) (ha : na n = nI f)
    (hp : ∀ a b, post (cd_b (pr_dn F N pc bs kd na f n)) ((nI M), (nI F), (nI N), y_code, y_fault, y_bound, y_status, y_calls, y_depth, y_fuelLimit, y_hasResult, y_resVal, y_vTop, y_wTop, y_envTop, y_runBegun, y_runK, a, b, (fun i => nI (pc i)), mk, (fun i => nI (rt i)), (fun i => nI (bs i)), (fun i => nI (kd i)), na, y_tVal, y_slotList, y_slotVal, y_vals, y_wNode, y_wStep, y_env, y_actBase)) : wpY_descends post ((nI M), (nI F), (nI N), y_code, y_fault, y_bound, y_status, y_calls, y_depth, y_fuelLimit, y_hasResult, y_resVal, y_vTop, y_wTop, y_envTop, y_runBegun, y_runK, y_factJ, y_factK, (fun i => nI (pc i)), mk, (fun i => nI (rt i)), (fun i => nI (bs i)), (fun i => nI (kd i)), na, y_tVal, y_slotList, y_slotVal, y_vals, y_wNode, y_wStep, y_env, y_actBase) (nI n) (nI f) := by
  have hp3 := h.2.2.1 f
  exact ⟨4, wy_ds2 h hw hnm hn hfn k5 ha (pc f) 0 4 _ _ (by omega) (by omega) hp⟩
theorem wy_sh26 {post : Int32 → Prop} (h : pr_in F N pc rt bs kd mk na) {e : Nat} (he : e ≤ N) : ∀ (t d n fu : Nat), n + t = e → t < fu → d + 3 * t ≤ 300 → (tr_shp (pr_ar F pc kd na) t d n → post 1) → (¬ tr_shp (pr_ar F pc kd na) t d n → post 0) → wY_shapeOk_26 post (nI e) (nI M) (nI F) (nI N) y_code y_fault y_bound y_status y_calls y_depth y_fuelLimit y_hasResult y_resVal y_vTop y_wTop y_envTop y_runBegun y_runK y_factJ y_factK (fun i => nI (pc i)) mk (fun i => nI (rt i)) (fun i => nI (bs i)) (fun i => nI (kd i)) na y_tVal y_slotList y_slotVal y_vals y_wNode y_wStep y_env y_actBase fu (nI d) (nI n) := by
  have h64 := h.2.1
  intro t
  induction t with
  | zero =>
    intro d n fu h1 h2 h3 h4 h5
    obtain ⟨fu, rfl⟩ : ∃ f, fu = f + 1 := ⟨fu - 1, by omega⟩
    refine br_t (nI_le (by omega) (by omega)) (pk_eq d 0 (fun c => h4 c) (fun c => h5 c))
  | succ t ih =>
    intro d n fu h1 h2 h3 h4 h5
    obtain ⟨fu, rfl⟩ : ∃ f, fu = f + 1 := ⟨fu - 1, by omega⟩
    refine br_f (nI_ge (by omega) (by omega)) (br_f (nI_ge (b := 64) (by omega) (by decide)) (pk_eq d 0 (fun c => h5 (fun y => y.1 c)) (fun c => ?_)))
    have ha := pr_ar3 h n
    obtain ⟨d, rfl⟩ : ∃ d', d = d' + 1 := ⟨d - 1, by omega⟩
    refine wy_arity h (by omega) (nm_r (e' := nI (d + pr_ar F pc kd na n)) (by rw [nI_pred, nI_add]) (nm_r (nI_1 n) ?_))
    exact ih _ (n + 1) fu (by omega) (by omega) (by omega) (fun y => h4 ⟨by omega, y⟩) (fun y => h5 (fun w => y w.2))
theorem wy_shapeOk {post : Int32 → Prop} (h : pr_in F N pc rt bs kd mk na) {f : Nat} (hf : f < F) (h1 : tr_wf (pr_ar F pc kd na) (bs f) (pg_be F N bs f) → post 1) (h2 : ¬ tr_wf (pr_ar F pc kd na) (bs f) (pg_be F N bs f) → post 0) : wpY_shapeOk post ((nI M), (nI F), (nI N), y_code, y_fault, y_bound, y_status, y_calls, y_depth, y_fuelLimit, y_hasResult, y_resVal, y_vTop, y_wTop, y_envTop, y_runBegun, y_runK, y_factJ, y_factK, (fun i => nI (pc i)), mk, (fun i => nI (rt i)), (fun i => nI (bs i)), (fun i => nI (kd i)), na, y_tVal, y_slotList, y_slotVal, y_vals, y_wNode, y_wStep, y_env, y_actBase) (nI f) := by
  have h6 := h.1
  have h64 := h.2.1
  have hb := pr_be_le h hf
  have e : (nI f).toNatClampNeg = f := nI_clamp (by omega)
  refine ⟨vp_in_nI (by omega) (by omega), nm_r (e' := nI (bs f)) (by rw [e]) (wy_bodyEnd h hf (pk_lt (bs f) (pg_be F N bs f) (fun c => ⟨65, ?_⟩) (fun c => h2 (fun y => by have := y.1; omega))))⟩
  exact wy_sh26 h hb.2 (pg_be F N bs f - bs f) 1 (bs f) 65 (by omega) (by omega) (by omega) (fun y => h1 ((pr_shp hb.1).mp y)) (fun y => h2 (fun w => y ((pr_shp hb.1).mpr w)))
-- phase 4
theorem wy_c274 {post : Int32 → SY → Prop} (h : pr_in F N pc rt bs kd mk na) (hw : pg_wf F N bs (pr_ar F pc kd na)) (hnm : pr_nm F N pc bs kd na) {f : Nat} (hf : f < F) {J} :
    ∀ (r n fu : Nat) (a b : Int32), n + r = pg_be F N bs f → bs f ≤ n → r < fu → (cd_ds kd na (pr_dn F N pc bs kd na f) f r n = 1 → ∀ a b, J (nI (f + 1)) (nI M) (nI F) (nI N) y_code y_fault y_bound y_status y_calls y_depth y_fuelLimit y_hasResult y_resVal y_vTop y_wTop y_envTop y_runBegun y_runK a b (fun i => nI (pc i)) mk (fun i => nI (rt i)) (fun i => nI (bs i)) (fun i => nI (kd i)) na y_tVal y_slotList y_slotVal y_vals y_wNode y_wStep y_env y_actBase) →
      (¬ cd_ds kd na (pr_dn F N pc bs kd na f) f r n = 1 → cd_ds kd na (pr_dn F N pc bs kd na f) f r n = 6 → ∀ a b, post 6 ((nI M), (nI F), (nI N), 6, (nI f), y_bound, y_status, y_calls, y_depth, y_fuelLimit, y_hasResult, y_resVal, y_vTop, y_wTop, y_envTop, y_runBegun, y_runK, a, b, (fun i => nI (pc i)), mk, (fun i => nI (rt i)), (fun i => nI (bs i)), (fun i => nI (kd i)), na, y_tVal, y_slotList, y_slotVal, y_vals, y_wNode, y_wStep, y_env, y_actBase)) → wY_compile_274 post J (nI f) fu (nI n) (nI M) (nI F) (nI N) y_code y_fault y_bound y_status y_calls y_depth y_fuelLimit y_hasResult y_resVal y_vTop y_wTop y_envTop y_runBegun y_runK a b (fun i => nI (pc i)) mk (fun i => nI (rt i)) (fun i => nI (bs i)) (fun i => nI (kd i)) na y_tVal y_slotList y_slotVal y_vals y_wNode y_wStep y_env y_actBase := by
  have h6 := h.1
  have h64 := h.2.1
  have hN := pg_lastN hw hf
  intro r
  induction r with
  | zero =>
    intro n fu a b h1 h2 h3 hJ hp
    obtain ⟨fu, rfl⟩ : ∃ f, fu = f + 1 := ⟨fu - 1, by omega⟩
    unfold wY_compile_274
    exact wy_bodyEnd (y_factJ := a) (y_factK := b) h hf (br_t (nI_le (by omega) (by omega)) (nm_r (nI_1 f) (hJ rfl a b)))
  | succ r ih =>
    intro n fu a b h1 h2 h3 hJ hp
    obtain ⟨fu, rfl⟩ : ∃ f, fu = f + 1 := ⟨fu - 1, by omega⟩
    have hn : n < N := by omega
    have hk := h.2.2.2.2.2.1 n
    have hfn : pg_fn F bs n = f := pg_fn_is hw hf h2 (by omega)
    have e : (nI n).toNatClampNeg = n := nI_clamp (by omega)
    have hv : vp_in (nI n) 64 := vp_in_nI (by omega) (by omega)
    rw [cd_ds] at hJ hp
    have nxt : ¬ (kd n = 5 ∧ na n = nI f ∧ pr_dn F N pc bs kd na f n = false) → ∀ a b, wY_compile_274 post J (nI f) fu (nI (n + 1)) (nI M) (nI F) (nI N) y_code y_fault y_bound y_status y_calls y_depth y_fuelLimit y_hasResult y_resVal y_vTop y_wTop y_envTop y_runBegun y_runK a b (fun i => nI (pc i)) mk (fun i => nI (rt i)) (fun i => nI (bs i)) (fun i => nI (kd i)) na y_tVal y_slotList y_slotVal y_vals y_wNode y_wStep y_env y_actBase := by
      intro y a b
      rw [if_neg y] at hJ hp
      exact ih (n + 1) fu a b (by omega) (by omega) (by omega) hJ hp
    unfold wY_compile_274
    refine wy_bodyEnd (y_factJ := a) (y_factK := b) h hf (br_f (nI_ge (by omega) (by omega)) (br_f (nI_ge (b := 64) (by omega) (by decide)) ⟨hv, ?_⟩))
    rw [e]
    refine pk_eq (kd n) 5 (fun k => ⟨hv, br_c (fun c => ?_) (fun c => nm_r (nI_1 n) (nxt (fun y => c y.2.1) a b))⟩) (fun k => nm_r (nI_1 n) (nxt (fun y => k y.1) a b))
    refine wy_descends (y_factJ := a) (y_factK := b) h hw hnm hn hfn k c (fun a2 b2 => ?_)
    by_cases hd : pr_dn F N pc bs kd na f n = false
    · rw [hd]
      rw [if_pos ⟨k, c, hd⟩] at hp
      exact br_t rfl (hp (by decide) rfl a2 b2)
    · have hd' : pr_dn F N pc bs kd na f n = true := by
        cases hq : pr_dn F N pc bs kd na f n with
        | true => rfl
        | false => exact absurd hq hd
      rw [hd']
      exact br_f (by decide) (nm_r (nI_1 n) (nxt (fun y => hd y.2.2) a2 b2))
theorem cd_ds_6 {dn : Nat → Bool} {f : Nat} : ∀ t n, cd_ds kd na dn f t n = 1 ∨ cd_ds kd na dn f t n = 6
  | 0, _ => Or.inl rfl
  | t + 1, n => by
    rw [cd_ds]
    split
    · exact Or.inr rfl
    · exact cd_ds_6 t (n + 1)
end
