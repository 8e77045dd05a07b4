section
variable {y_m y_fCount y_nCount y_code y_fault y_status y_depth y_hasResult y_vTop y_wTop y_envTop y_runBegun y_runK y_factJ y_factK : Int32} {y_bound y_calls y_fuelLimit y_resVal : Int64} {y_fParams y_fMask y_fRes y_fStart y_nKind y_nArg y_slotList y_wNode y_wStep y_actBase : Nat → Int32} {y_tVal y_slotVal y_vals y_env : Nat → Int64}
variable {M F N k : Nat} {pc rt bs kd : Nat → Nat} {mk na : Nat → Int32}
variable {post : Int32 → Prop}
theorem wy_bodyEnd (h : pr_in F N pc rt bs kd mk na) {f : Nat} (hf : f < F) (hp : post (nI (pg_be F N bs f))) : wpY_bodyEnd post ((nI M), (nI F), (nI N), y_code, y_fault, y_bound, y_status, y_calls, y_depth, y_fuelLimit, y_hasResult, y_resVal, y_vTop, y_wTop, y_envTop, y_runBegun, y_runK, y_factJ, y_factK, (fun i => nI (pc i)), mk, (fun i => nI (rt i)), (fun i => nI (bs i)), (fun i => nI (kd i)), na, y_tVal, y_slotList, y_slotVal, y_vals, y_wNode, y_wStep, y_env, y_actBase) (nI f) := by
  have h6 := h.1
  have h64 := h.2.1
  unfold pg_be at hp
  simp only [wpY_bodyEnd, nI_1]
  refine pk_le F (f + 1) (fun c => ?_) (fun c => ⟨vp_in_nI (by omega) (by omega), ?_⟩)
  · rw [if_neg (by omega)] at hp; exact hp
  · rw [if_pos (by omega)] at hp; rw [nI_clamp (by omega)]; exact hp
theorem wy_arity (h : pr_in F N pc rt bs kd mk na) {i : Nat} (hi : i < N) (hp : post (nI (pr_ar F pc kd na i))) : wpY_arity post ((nI M), (nI F), (nI N), y_code, y_fault, y_bound, y_status, y_calls, y_depth, y_fuelLimit, y_hasResult, y_resVal, y_vTop, y_wTop, y_envTop, y_runBegun, y_runK, y_factJ, y_factK, (fun i => nI (pc i)), mk, (fun i => nI (rt i)), (fun i => nI (bs i)), (fun i => nI (kd i)), na, y_tVal, y_slotList, y_slotVal, y_vals, y_wNode, y_wStep, y_env, y_actBase) (nI i) := by
  have h6 := h.1
  have h64 := h.2.1
  have hk := h.2.2.2.2.2.1 i
  have e : (nI i).toNatClampNeg = i := nI_clamp (by omega)
  have hv : vp_in (nI i) 64 := vp_in_nI (by omega) (by omega)
  unfold pr_ar at hp
  simp only [wpY_arity, e]
  refine br_f (nI_pos (by omega)) (br_t (nI_lt hi (by omega)) ⟨hv, nm_e ?_⟩)
  refine pk_eq (kd i) 2 (fun c => by rw [if_pos c] at hp; exact hp) (fun c2 => ?_)
  rw [if_neg c2] at hp
  refine pk_eq (kd i) 4 (fun c => by rw [if_pos c] at hp; exact hp) (fun c4 => ?_)
  rw [if_neg c4] at hp
  refine pk_eq (kd i) 6 (fun c => by rw [if_pos (Or.inl c)] at hp; exact hp) (fun c6 => ?_)
  refine pk_eq (kd i) 7 (fun c => by rw [if_pos (Or.inr c)] at hp; exact hp) (fun c7 => ?_)
  rw [if_neg (by omega)] at hp
  refine pk_eq (kd i) 5 (fun c => ⟨hv, ?_⟩) (fun c => by rw [if_neg (by omega)] at hp; exact hp)
  refine br_c (fun c1 => by rw [if_neg (fun y => y.2.1 c1)] at hp; exact hp) (fun c1 => ⟨hv, br_c (fun c2 => ?_) (fun c2 => ⟨hv, ?_, ?_⟩)⟩)
  · rw [if_neg (fun y => Int32.not_le.mpr y.2.2 c2)] at hp; exact hp
  · obtain ⟨j, hj, e2⟩ := nI_of c1
    rw [e2, nI_leI (by omega) hj] at c2
    rw [e2]; exact vp_in_nI (by omega) (by omega)
  · rw [if_pos ⟨c, c1, Int32.not_le.mp c2⟩] at hp; exact hp
theorem wy_subEnd_l (h : pr_in F N pc rt bs kd mk na) : ∀ (r j d c fu : Nat), N - j ≤ r → r < fu → j ≤ N → d + 3 * r ≤ 300 → c + (N - j) ≤ 64 → post (nI (tr_skip N (pr_ar F pc kd na) d j)) → wY_subEnd_7 post (nI M) (nI F) (nI N) y_code y_fault y_bound y_status y_calls y_depth y_fuelLimit y_hasResult y_resVal y_vTop y_wTop y_envTop y_runBegun y_runK y_factJ y_factK (fun i => nI (pc i)) mk (fun i => nI (rt i)) (fun i => nI (bs i)) (fun i => nI (kd i)) na y_tVal y_slotList y_slotVal y_vals y_wNode y_wStep y_env y_actBase fu (nI d) (nI j) (nI c) := by
  have h64 := h.2.1
  intro r
  induction r with
  | zero =>
    intro j d c fu h1 h2 h3 h4 h5 hp
    obtain ⟨fu, rfl⟩ : ∃ f, fu = f + 1 := ⟨fu - 1, by omega⟩
    rw [tr_skip_N d (by omega)] at hp
    refine br_c (fun _ => hp) (fun _ => br_c (fun _ => hp) (fun _ => br_c (fun _ => hp) (fun _ => br_t (nI_le (by omega) (by omega)) hp)))
  | succ r ih =>
    intro j d c fu h1 h2 h3 h4 h5 hp
    obtain ⟨fu, rfl⟩ : ∃ f, fu = f + 1 := ⟨fu - 1, by omega⟩
    rcases Nat.lt_or_ge j N with hj | hj
    · cases d with
      | zero =>
        rw [tr_skip_0] at hp
        exact br_c (fun _ => hp) (fun _ => br_t (show nI 0 ≤ 0 by decide) hp)
      | succ d =>
        rw [tr_skip_s d hj] at hp
        have ha := pr_ar3 h j
        refine br_f (nI_ge (b := 64) (by omega) (by decide)) (br_f (nI_nle (by omega) (by omega)) (br_f (nI_pos (by omega)) (br_f (nI_ge hj (by omega)) ?_)))
        refine wy_arity h hj ?_
        refine nm_r (e' := nI (d + pr_ar F pc kd na j)) (by rw [nI_pred, nI_add]) (nm_r (nI_1 j) (nm_r (nI_1 c) ?_))
        exact ih (j + 1) _ (c + 1) fu (by omega) (by omega) (by omega) (by omega) (by omega) hp
    · rw [tr_skip_N d hj] at hp
      refine br_c (fun _ => hp) (fun _ => br_c (fun _ => hp) (fun _ => br_c (fun _ => hp) (fun _ => br_t (nI_le (by omega) (by omega)) hp)))
theorem wy_subEnd (h : pr_in F N pc rt bs kd mk na) {i : Nat} (hi : i ≤ N) (hp : post (nI (tr_se N (pr_ar F pc kd na) i))) : wpY_subEnd post ((nI M), (nI F), (nI N), y_code, y_fault, y_bound, y_status, y_calls, y_depth, y_fuelLimit, y_hasResult, y_resVal, y_vTop, y_wTop, y_envTop, y_runBegun, y_runK, y_factJ, y_factK, (fun i => nI (pc i)), mk, (fun i => nI (rt i)), (fun i => nI (bs i)), (fun i => nI (kd i)), na, y_tVal, y_slotList, y_slotVal, y_vals, y_wNode, y_wStep, y_env, y_actBase) (nI i) := by
  have h64 := h.2.1
  exact ⟨65, wy_subEnd_l h (N - i) i 1 0 65 (Nat.le_refl _) (by omega) hi (by omega) (by omega) hp⟩
theorem wy_ch_le (h : pr_in F N pc rt bs kd mk na) {n : Nat} (hn : n < N) (c : Nat) : tr_ch N (pr_ar F pc kd na) n c ≤ N := tr_skip_le c (by omega)
theorem wy_childAt_l (h : pr_in F N pc rt bs kd mk na) {n i : Nat} (hn : n < N) (hi : i ≤ 3) (hp : post (nI (tr_ch N (pr_ar F pc kd na) n i))) : ∀ (r k fu : Nat), k + r = i → r < fu → wY_childAt_7 post (nI i) (nI M) (nI F) (nI N) y_code y_fault y_bound y_status y_calls y_depth y_fuelLimit y_hasResult y_resVal y_vTop y_wTop y_envTop y_runBegun y_runK y_factJ y_factK (fun i => nI (pc i)) mk (fun i => nI (rt i)) (fun i => nI (bs i)) (fun i => nI (kd i)) na y_tVal y_slotList y_slotVal y_vals y_wNode y_wStep y_env y_actBase fu (nI (tr_ch N (pr_ar F pc kd na) n k)) (nI k) := by
  have h64 := h.2.1
  intro r
  induction r with
  | zero =>
    intro k fu h1 h2
    obtain ⟨fu, rfl⟩ : ∃ f, fu = f + 1 := ⟨fu - 1, by omega⟩
    have e : k = i := by omega
    subst e
    exact br_c (fun _ => hp) (fun _ => br_t (nI_le (by omega) (by omega)) hp)
  | succ r ih =>
    intro k fu h1 h2
    obtain ⟨fu, rfl⟩ : ∃ f, fu = f + 1 := ⟨fu - 1, by omega⟩
    refine br_f (nI_ge (b := 3) (by omega) (by decide)) (br_f (nI_ge (by omega) (by omega)) ?_)
    refine wy_subEnd h (wy_ch_le h hn k) (nm_r (nI_1 k) ?_)
    rw [← tr_ch_s]
    exact ih (k + 1) fu (by omega) (by omega)
theorem wy_childAt (h : pr_in F N pc rt bs kd mk na) {n i : Nat} (hn : n < N) (hi : i ≤ 3) (hp : post (nI (tr_ch N (pr_ar F pc kd na) n i))) : wpY_childAt post ((nI M), (nI F), (nI N), y_code, y_fault, y_bound, y_status, y_calls, y_depth, y_fuelLimit, y_hasResult, y_resVal, y_vTop, y_wTop, y_envTop, y_runBegun, y_runK, y_factJ, y_factK, (fun i => nI (pc i)), mk, (fun i => nI (rt i)), (fun i => nI (bs i)), (fun i => nI (kd i)), na, y_tVal, y_slotList, y_slotVal, y_vals, y_wNode, y_wStep, y_env, y_actBase) (nI n) (nI i) := by
  have := wy_childAt_l (post := post) (y_code := y_code) (y_fault := y_fault) (y_bound := y_bound) (y_status := y_status) (y_calls := y_calls) (y_depth := y_depth) (y_fuelLimit := y_fuelLimit) (y_hasResult := y_hasResult) (y_resVal := y_resVal) (y_vTop := y_vTop) (y_wTop := y_wTop) (y_envTop := y_envTop) (y_runBegun := y_runBegun) (y_runK := y_runK) (y_factJ := y_factJ) (y_factK := y_factK) (y_tVal := y_tVal) (y_slotList := y_slotList) (y_slotVal := y_slotVal) (y_vals := y_vals) (y_wNode := y_wNode) (y_wStep := y_wStep) (y_env := y_env) (y_actBase := y_actBase) (M := M) (rt := rt) (mk := mk) h hn hi hp i 0 4 (by omega) (by omega)
  rw [tr_ch_0] at this
  exact nm_r (nI_1 n) ⟨4, this⟩
theorem wy_parentOf_l (h : pr_in F N pc rt bs kd mk na) {j s : Nat} (hj : j < N) (hs0 : s ≤ j) : ∀ (k fu : Nat), k ≤ j → k < fu → (∀ p, tr_pd N (pr_ar F pc kd na) j k = some p → s ≤ p) → post (tb_o (tr_pd N (pr_ar F pc kd na) j k)) → wY_parentOf_2 post (nI j) (nI s) (nI M) (nI F) (nI N) y_code y_fault y_bound y_status y_calls y_depth y_fuelLimit y_hasResult y_resVal y_vTop y_wTop y_envTop y_runBegun y_runK y_factJ y_factK (fun i => nI (pc i)) mk (fun i => nI (rt i)) (fun i => nI (bs i)) (fun i => nI (kd i)) na y_tVal y_slotList y_slotVal y_vals y_wNode y_wStep y_env y_actBase fu (nI (j - k + 1)) := by
  have h64 := h.2.1
  intro k
  induction k with
  | zero =>
    intro fu h1 h2 hs hp
    obtain ⟨fu, rfl⟩ : ∃ f, fu = f + 1 := ⟨fu - 1, by omega⟩
    refine br_f (fun y => absurd ((nI_ltI (a := 64) (by omega) (by omega)).mp y) (by omega)) (fun x ex => ?_)
    have e : x = -1 := by
      rw [ex, Nat.sub_zero, ← nI_1]
      have : ∀ a : Int32, a - (a + 1) = -1 := fun a => by grind
      exact this _
    subst e
    exact br_t (Int32.lt_of_lt_of_le (by decide) (nI_pos' (by omega))) hp
  | succ i ih =>
    intro fu h1 h2 hs hp
    obtain ⟨fu, rfl⟩ : ∃ f, fu = f + 1 := ⟨fu - 1, by omega⟩
    refine br_f (fun y => absurd ((nI_ltI (a := 64) (by omega) (by omega)).mp y) (by omega)) (nm_r (e' := nI i) (by rw [pk_sub (by omega)]; exact congrArg nI (by omega)) ?_)
    refine pk_lt i s (fun c => ?_) (fun c => br_t (nI_pos' (by omega)) ?_)
    · cases hpd : tr_pd N (pr_ar F pc kd na) j (i + 1) with
      | none => rw [hpd] at hp; exact hp
      | some p =>
        have a := hs p hpd
        have b := (tr_pd_some _ _ _ hpd).1
        omega
    · refine wy_subEnd h (by omega) ?_
      have hse := tr_se_le (N := N) (ar := (pr_ar F pc kd na)) (n := i) (by omega)
      refine pk_le (tr_se N (pr_ar F pc kd na) i) j (fun c2 => ?_) (fun c2 => ?_)
      · have e1 : tr_pd N (pr_ar F pc kd na) j (i + 1) = tr_pd N (pr_ar F pc kd na) j i := by rw [tr_pd, if_neg (by omega)]
        rw [e1] at hs hp
        have := ih fu (by omega) (by omega) hs hp
        exact nm_r (e' := nI (j - i + 1)) (by rw [nI_1]; exact congrArg nI (by omega)) this
      · have e1 : tr_pd N (pr_ar F pc kd na) j (i + 1) = some i := by rw [tr_pd, if_pos (by omega)]
        rw [e1] at hp
        exact hp
theorem wy_parentOf (h : pr_in F N pc rt bs kd mk na) (hw : pg_wf F N bs (pr_ar F pc kd na)) {j f : Nat} (hj : j < N) (hf : pg_fn F bs j = f) (hp : post (tb_P N (pr_ar F pc kd na) j)) : wpY_parentOf post ((nI M), (nI F), (nI N), y_code, y_fault, y_bound, y_status, y_calls, y_depth, y_fuelLimit, y_hasResult, y_resVal, y_vTop, y_wTop, y_envTop, y_runBegun, y_runK, y_factJ, y_factK, (fun i => nI (pc i)), mk, (fun i => nI (rt i)), (fun i => nI (bs i)), (fun i => nI (kd i)), na, y_tVal, y_slotList, y_slotVal, y_vals, y_wNode, y_wStep, y_env, y_actBase) (nI j) (nI (bs f)) := by
  have h64 := h.2.1
  have hb := pg_body hw hj
  rw [hf] at hb
  refine ⟨65, ?_⟩
  have := wy_parentOf_l (post := post) (y_code := y_code) (y_fault := y_fault) (y_bound := y_bound) (y_status := y_status) (y_calls := y_calls) (y_depth := y_depth) (y_fuelLimit := y_fuelLimit) (y_hasResult := y_hasResult) (y_resVal := y_resVal) (y_vTop := y_vTop) (y_wTop := y_wTop) (y_envTop := y_envTop) (y_runBegun := y_runBegun) (y_runK := y_runK) (y_factJ := y_factJ) (y_factK := y_factK) (y_tVal := y_tVal) (y_slotList := y_slotList) (y_slotVal := y_slotVal) (y_vals := y_vals) (y_wNode := y_wNode) (y_wStep := y_wStep) (y_env := y_env) (y_actBase := y_actBase) (M := M) (rt := rt) (mk := mk) h hj (s := bs f) (by omega) j 65 (Nat.le_refl _) (by omega) (fun p hpd => ?_) hp
  · rw [Nat.sub_self] at this; exact this
  · rcases pg_case hw hj with ⟨g1, _⟩ | ⟨p', g1, g2, g3, _⟩
    · unfold tr_pa at g1; rw [hpd] at g1; cases g1
    · unfold tr_pa at g1
      rw [hpd] at g1
      cases g1
      have hb2 := pg_body hw (j := p) (by omega)
      rw [g3, hf] at hb2
      exact hb2.2.1
end
