section
variable {y_m y_fCount y_nCount y_code y_fault y_status y_depth y_hasResult y_vTop y_wTop y_envTop y_runBegun y_runK y_factJ y_factK : Int32} {y_bound y_calls y_fuelLimit y_resVal : Int64} {y_fParams y_fMask y_fRes y_fStart y_nKind y_nArg y_slotList y_wNode y_wStep y_actBase : Nat → Int32} {y_tVal y_slotVal y_vals y_env : Nat → Int64}
variable {M F N k : Nat} {pc rt bs kd : Nat → Nat} {mk na : Nat → Int32}
variable {post : Int32 → Prop}
theorem wy_expectedType_l (h : pr_in F N pc rt bs kd mk na) (hw : pg_wf F N bs (pr_ar F pc kd na)) (hn : pr_nm F N pc bs kd na) {f : Nat} : ∀ (c t fu : Nat), c < N → pg_fn F bs c = f → c < fu → t + c ≤ 63 → post (nI (pr_et F N pc rt bs kd mk na c)) → wY_expectedType_5 post (nI f) (nI M) (nI F) (nI N) y_code y_fault y_bound y_status y_calls y_depth y_fuelLimit y_hasResult y_resVal y_vTop y_wTop y_envTop y_runBegun y_runK y_factJ y_factK (fun i => nI (pc i)) mk (fun i => nI (rt i)) (fun i => nI (bs i)) (fun i => nI (kd i)) na y_tVal y_slotList y_slotVal y_vals y_wNode y_wStep y_env y_actBase fu (nI c) (nI t) := by
  have h6 := h.1
  have h64 := h.2.1
  intro c
  induction c using Nat.strongRecOn with
  | _ c ih =>
    intro t fu hc hf h1 h2 hp
    obtain ⟨fu, rfl⟩ : ∃ f, fu = f + 1 := ⟨fu - 1, by omega⟩
    have hb := pg_body hw hc
    rw [hf] at hb
    have e : (nI f).toNatClampNeg = f := nI_clamp (by omega)
    have hvf : vp_in (nI f) 6 := vp_in_nI (by omega) (by omega)
    refine br_f (nI_ge (b := 64) (by omega) (by decide)) ⟨hvf, ?_⟩
    rw [e]
    refine wy_parentOf h hw hc hf ?_
    rcases pg_case hw hc with ⟨g1, g2, g3⟩ | ⟨p, g1, g2, g3, g4, g5, g6⟩
    · rw [tb_P_none g1]
      unfold pr_et at hp
      rw [et_none g1] at hp
      unfold pr_rt at hp
      rw [hf] at hp
      exact br_f (by decide) ⟨hvf, hp⟩
    · rw [tb_P_some g1]
      refine br_t (nI_pos' (by omega)) (wy_childIndexOf h (by omega) hc ?_)
      have ep : (nI p).toNatClampNeg = p := nI_clamp (by omega)
      have hvp : vp_in (nI p) 64 := vp_in_nI (by omega) (by omega)
      have hk := h.2.2.2.2.2.1 p
      have h3 := wy_cx3 (N := N) (pr_ar F pc kd na) p c
      have ha3 := pr_ar3 h p
      unfold pr_et at hp
      rw [et_some g1] at hp
      refine ⟨hvp, ?_⟩
      rw [ep]
      refine nm_e ?_
      refine pk_eq (kd p) 2 (fun k => by rw [if_pos k] at hp; exact hp) (fun k2 => ?_)
      rw [if_neg k2] at hp
      refine pk_eq (kd p) 4 (fun k => ?_) (fun k4 => ?_)
      · rw [if_pos k] at hp
        exact pk_eq (tr_cx N (pr_ar F pc kd na) p c) 0 (fun k => by rw [if_pos k] at hp; exact hp) (fun k => by rw [if_neg k] at hp; exact hp)
      rw [if_neg k4] at hp
      refine pk_eq (kd p) 5 (fun k => ⟨hvp, ?_⟩) (fun k5 => ?_)
      · rw [if_pos k] at hp
        obtain ⟨a1, a2, a3⟩ := pr_ar5 hw h hn (n := p) (by omega) k
        rw [a3]
        exact wy_paramType h a1 (by omega) hp
      rw [if_neg k5] at hp
      refine pk_eq (tr_cx N (pr_ar F pc kd na) p c) 0 (fun k => ?_) (fun k0 => ?_)
      · rw [if_pos k] at hp
        exact pk_eq (kd p) 7 (fun k => by rw [if_pos k] at hp; exact hp) (fun k => by rw [if_neg k] at hp; exact hp)
      rw [if_neg k0] at hp
      exact nm_r (nI_1 t) (ih p g2 (t + 1) fu (by omega) (by rw [g3]; exact hf) (by omega) (by omega) hp)
theorem wy_expectedType (h : pr_in F N pc rt bs kd mk na) (hw : pg_wf F N bs (pr_ar F pc kd na)) (hn : pr_nm F N pc bs kd na) {j f : Nat} (hj : j < N) (hf : pg_fn F bs j = f) (hp : post (nI (pr_et F N pc rt bs kd mk na j))) : wpY_expectedType post ((nI M), (nI F), (nI N), y_code, y_fault, y_bound, y_status, y_calls, y_depth, y_fuelLimit, y_hasResult, y_resVal, y_vTop, y_wTop, y_envTop, y_runBegun, y_runK, y_factJ, y_factK, (fun i => nI (pc i)), mk, (fun i => nI (rt i)), (fun i => nI (bs i)), (fun i => nI (kd i)), na, y_tVal, y_slotList, y_slotVal, y_vals, y_wNode, y_wStep, y_env, y_actBase) (nI j) (nI f) := by
  have h64 := h.2.1
  exact ⟨64, wy_expectedType_l h hw hn j 0 64 hj hf (by omega) (by omega) hp⟩
theorem wy_ownType (h : pr_in F N pc rt bs kd mk na) (hw : pg_wf F N bs (pr_ar F pc kd na)) (hn : pr_nm F N pc bs kd na) {j f : Nat} (hj : j < N) (hf : pg_fn F bs j = f) (hp : post (nI (pr_ow F N pc rt bs kd mk na j))) : wpY_ownType post ((nI M), (nI F), (nI N), y_code, y_fault, y_bound, y_status, y_calls, y_depth, y_fuelLimit, y_hasResult, y_resVal, y_vTop, y_wTop, y_envTop, y_runBegun, y_runK, y_factJ, y_factK, (fun i => nI (pc i)), mk, (fun i => nI (rt i)), (fun i => nI (bs i)), (fun i => nI (kd i)), na, y_tVal, y_slotList, y_slotVal, y_vals, y_wNode, y_wStep, y_env, y_actBase) (nI j) (nI f) := by
  have h6 := h.1
  have h64 := h.2.1
  have hb := pg_body hw hj
  rw [hf] at hb
  have hk := h.2.2.2.2.2.1 j
  have e : (nI j).toNatClampNeg = j := nI_clamp (by omega)
  have ef : (nI f).toNatClampNeg = f := nI_clamp (by omega)
  have hv : vp_in (nI j) 64 := vp_in_nI (by omega) (by omega)
  have hvf : vp_in (nI f) 6 := vp_in_nI (by omega) (by omega)
  unfold pr_ow et_own at hp
  simp only [wpY_ownType, e, ef]
  refine ⟨hv, nm_e ?_⟩
  refine pk_eq (kd j) 0 (fun k => ⟨hv, ?_⟩) (fun k0 => ?_)
  · rw [if_pos k] at hp
    obtain ⟨x1, x2⟩ := (hn j hj).1 k
    have s45 := pr_sc_le h hw hj
    have hz3 := h.2.2.1 f
    have hty := ty_bind (kd := kd) (z := (pr_z F bs pc)) (pt := pr_pt F bs mk) hw j (pr_ag na j) hj x1
    rw [hf] at hty
    have e1 : (pr_z F bs pc) (bs f) = pc f := by unfold pr_z; rw [pr_root_fn hw hb.1]
    have e2 : pr_pt F bs mk (bs f) (pr_ag na j) = pr_pty mk f (pr_ag na j) := by unfold pr_pt; rw [pr_root_fn hw hb.1]
    rw [e1, e2] at hty
    refine nm_r x2 (br_f (nI_pos (by omega)) ⟨hvf, ?_⟩)
    refine pk_le (pc f) (pr_ag na j) (fun c => ?_) (fun c => ?_)
    · obtain ⟨b, b1, b2, b3⟩ := hty.2 c
      refine wy_binderOf h hw hj hf (by omega) ?_
      rw [b1]
      refine br_f (nI_pos (by omega)) ⟨by decide, ?_⟩
      rw [b3] at hp
      refine pk_eq (b % 4) 2 (fun k => by rw [if_pos k] at hp; exact hp) (fun k => by rw [if_neg k] at hp; exact hp) (hx := pk_rem (d := 4) (by omega) (by omega) (by omega))
    · rw [hty.1 c] at hp
      exact wy_paramType h hb.1 (by omega) hp
  rw [if_neg k0] at hp
  refine pk_eq (kd j) 1 (fun k => by rw [if_pos (Or.inl k)] at hp; exact hp) (fun k1 => ?_)
  refine pk_eq (kd j) 2 (fun k => by rw [if_pos (Or.inr k)] at hp; exact hp) (fun k2 => ?_)
  rw [if_neg (by omega)] at hp
  refine pk_eq (kd j) 3 (fun k => by rw [if_pos (Or.inl k)] at hp; exact hp) (fun k3 => ?_)
  refine pk_eq (kd j) 4 (fun k => by rw [if_pos (Or.inr k)] at hp; exact hp) (fun k4 => ?_)
  rw [if_neg (by omega)] at hp
  refine pk_eq (kd j) 5 (fun k => ⟨hv, ?_⟩) (fun k5 => ?_)
  · rw [if_pos k] at hp
    obtain ⟨a1, a2, a3⟩ := pr_ar5 hw h hn hj k
    have ea : (nI (pr_ag na j)).toNatClampNeg = pr_ag na j := nI_clamp (by omega)
    rw [a3, ea]
    exact br_f (nI_pos (by omega)) ⟨hv, br_f (nI_ge a1 (by omega)) ⟨hv, vp_in_nI (by omega) (by omega), hp⟩⟩
  · rw [if_neg k5] at hp
    exact wy_expectedType h hw hn hj hf hp
end
section
variable {y_m y_fCount y_nCount y_code y_fault y_status y_depth y_hasResult y_vTop y_wTop y_envTop y_runBegun y_runK y_factJ y_factK : Int32} {y_bound y_calls y_fuelLimit y_resVal : Int64} {y_fParams y_fMask y_fRes y_fStart y_nKind y_nArg y_slotList y_wNode y_wStep y_actBase : Nat → Int32} {y_tVal y_slotVal y_vals y_env : Nat → Int64}
variable {M F N k : Nat} {pc rt bs kd : Nat → Nat} {mk na : Nat → Int32}
theorem fx_pcl (h : pr_in F N pc rt bs kd mk na) (hw : pg_wf F N bs (pr_ar F pc kd na)) : fx_cl N (pr_ar F pc kd na) kd := by
  intro d hd
  refine ⟨fun k => ?_, fun k => ?_⟩
  · have ha : pr_ar F pc kd na d = 1 := by unfold pr_ar; rw [if_pos k]
    have := (pg_ch hw (c := 0) hd (by omega)).1
    rw [tr_ch_0] at this
    exact this
  · have ha : pr_ar F pc kd na d = 2 := by unfold pr_ar; rw [if_neg (by omega), if_pos k]
    exact (pg_ch hw (c := 1) hd (by omega)).1
theorem fx_k3 (n : Nat) (k : kd n = 6 ∨ kd n = 7) : pr_ar F pc kd na n = 3 := by
  unfold pr_ar
  rw [if_neg (by omega), if_neg (by omega), if_pos k]
def pr_fl (F N : Nat) (pc bs kd : Nat → Nat) (na : Nat → Int32) (n : Nat) : Nat → Option (Nat × Int) := fx_l N (pr_ar F pc kd na) kd (pr_ag na) (pr_z F bs pc) n
def pr_fe (F N : Nat) (pc bs kd : Nat → Nat) (na : Nat → Int32) (n c : Nat) : Option (Nat × Int) := fx_e N (pr_ar F pc kd na) kd (pr_ag na) (pr_fl F N pc bs kd na n) c
theorem fx_er {b r : Nat} (hb : b < 100) (hr : r < 4) : nI (b * 4 + r) - nI (b * 4 + r) / 4 * 4 = nI r := by
  have := pk_rem (a := b * 4 + r) (d := 4) (by omega) (by omega) (by omega)
  rw [show (b * 4 + r) % 4 = r by omega] at this
  exact this
theorem fx_ed {b r : Nat} (hb : b < 100) (hr : r < 4) : nI (b * 4 + r) / 4 + 1 = nI (b + 1) := by
  have := pk_div (a := b * 4 + r) (d := 4) (by omega) (by omega) (by omega)
  rw [show (b * 4 + r) / 4 = b by omega] at this
  rw [show (nI (b * 4 + r) / 4 : Int32) = nI b from this, nI_1]
theorem wy_fact_l {post : SY → Prop} (h : pr_in F N pc rt bs kd mk na) (hw : pg_wf F N bs (pr_ar F pc kd na)) (hn : pr_nm F N pc bs kd na) {f : Nat} : ∀ (u s c t fu : Nat) (d : Int), fx_I N (pr_ar F pc kd na) kd (pr_z F bs pc) s c → pg_fn F bs c = f → fx_mu N (pr_ar F pc kd na) s c ≤ u → t + u ≤ 127 → u < fu →
    (∀ a b, fx_rs (fx_sh d (pr_fe F N pc bs kd na c c)) a b → post ((nI M), (nI F), (nI N), y_code, y_fault, y_bound, y_status, y_calls, y_depth, y_fuelLimit, y_hasResult, y_resVal, y_vTop, y_wTop, y_envTop, y_runBegun, y_runK, a, b, (fun i => nI (pc i)), mk, (fun i => nI (rt i)), (fun i => nI (bs i)), (fun i => nI (kd i)), na, y_tVal, y_slotList, y_slotVal, y_vals, y_wNode, y_wStep, y_env, y_actBase)) → wY_computeFact_18 post (nI f) (nI M) (nI F) (nI N) y_code y_fault y_bound y_status y_calls y_depth y_fuelLimit y_hasResult y_resVal y_vTop y_wTop y_envTop y_runBegun y_runK (-1) 0 (fun i => nI (pc i)) mk (fun i => nI (rt i)) (fun i => nI (bs i)) (fun i => nI (kd i)) na y_tVal y_slotList y_slotVal y_vals y_wNode y_wStep y_env y_actBase fu (Int32.ofInt d) (nI c) (nI t) := by
  have h6 := h.1
  have h64 := h.2.1
  have hcl := fx_pcl h hw
  intro u
  induction u with
  | zero =>
    intro s c t fu d hI hf hu
    unfold fx_mu at hu
    have := hI.2.1
    omega
  | succ u ih =>
    intro s c t fu d hI hf hu ht hfu hp
    obtain ⟨fu, rfl⟩ : ∃ f, fu = f + 1 := ⟨fu - 1, by omega⟩
    have hc : c < N := hI.2.2.1
    have hb := pg_body hw hc
    rw [hf] at hb
    have hk := h.2.2.2.2.2.1 c
    have e : (nI c).toNatClampNeg = c := nI_clamp (by omega)
    have ef : (nI f).toNatClampNeg = f := nI_clamp (by omega)
    have hv : vp_in (nI c) 64 := vp_in_nI (by omega) (by omega)
    have hvf : vp_in (nI f) 6 := vp_in_nI (by omega) (by omega)
    have hz3 := h.2.2.1 f
    unfold pr_fe at hp
    rw [fx_e_u hcl _ hc] at hp
    refine br_f (nI_ge (b := 128) (by omega) (by decide)) (br_f (nI_pos (by omega)) (br_t (nI_lt hc (by omega)) ⟨hv, ?_⟩))
    rw [e, ef]
    refine nm_e ?_
    refine pk_eq (kd c) 0 (fun k => ⟨hv, ?_⟩) (fun k0 => ?_)
    · rw [if_pos k] at hp
      obtain ⟨x1, x2⟩ := (hn c hc).1 k
      have s45 := pr_sc_le h hw hc
      have e1 : (pr_z F bs pc) (bs f) = pc f := by unfold pr_z; rw [pr_root_fn hw hb.1]
      refine nm_r x2 (br_f (nI_pos (by omega)) ⟨hvf, ?_⟩)
      refine pk_le (pc f) (pr_ag na c) (fun cz => ?_) (fun cz => ?_)
      · obtain ⟨b, b1, b2, b3, b4, b5, b6, b7⟩ := fx_hop (ag := pr_ag na) hw (fun n _ k => fx_k3 n k) hI x1 (by rw [hf, e1]; exact cz)
        refine wy_binderOf h hw hc hf (by omega) ?_
        have go : pr_fl F N pc bs kd na c (pr_ag na c) = fx_sh 1 (fx_e N (pr_ar F pc kd na) kd (pr_ag na) (pr_fl F N pc bs kd na b) (b + 1)) → wY_computeFact_18 post (nI f) (nI M) (nI F) (nI N) y_code y_fault y_bound y_status y_calls y_depth y_fuelLimit y_hasResult y_resVal y_vTop y_wTop y_envTop y_runBegun y_runK (-1) 0 (fun i => nI (pc i)) mk (fun i => nI (rt i)) (fun i => nI (bs i)) (fun i => nI (kd i)) na y_tVal y_slotList y_slotVal y_vals y_wNode y_wStep y_env y_actBase fu (Int32.ofInt (d + 1)) (nI (b + 1)) (nI (t + 1)) := by
          intro el
          refine ih (b + 1) (b + 1) (t + 1) fu (d + 1) b4 (by rw [b3]; exact hf) (by omega) (by omega) (by omega) (fun a' b' hab => hp a' b' ?_)
          show fx_rs (fx_sh d (pr_fl F N pc bs kd na c (pr_ag na c))) a' b'
          rw [el, fx_sh_sh]
          unfold pr_fe at hab
          have : pr_fl F N pc bs kd na (b + 1) = pr_fl F N pc bs kd na b := b6
          rw [this] at hab
          exact hab
        rcases b7 with ⟨q1, q2⟩ | ⟨q1, q2⟩ | ⟨q1, q2⟩
        · rw [q1]
          show (nI (b * 4 + 0) < 0 → _) ∧ _
          refine br_f (nI_pos (by omega)) ⟨by decide, br_f ?_ (nm_r (e' := Int32.ofInt (d + 1)) (by rw [Int32.ofInt_add]; rfl) ⟨by decide, nm_r (fx_ed (r := 0) (by omega) (by omega)) (nm_r (nI_1 t) (go q2))⟩)⟩
          exact fun y => absurd ((fx_er (b := b) (r := 0) (by omega) (by omega)).symm.trans y) (by decide)
        · rw [q1]
          show (nI (b * 4 + 1) < 0 → _) ∧ _
          refine br_f (nI_pos (by omega)) ⟨by decide, br_t (fx_er (b := b) (r := 1) (by omega) (by omega)) (hp _ _ ?_)⟩
          show fx_rs (fx_sh d (fx_l N (pr_ar F pc kd na) kd (pr_ag na) (pr_z F bs pc) c (pr_ag na c))) _ _
          rw [q2]
          exact fx_rs_none _
        · rw [q1]
          show (nI (b * 4 + 2) < 0 → _) ∧ _
          refine br_f (nI_pos (by omega)) ⟨by decide, br_f ?_ (nm_r (e' := Int32.ofInt (d + 1)) (by rw [Int32.ofInt_add]; rfl) ⟨by decide, nm_r (fx_ed (r := 2) (by omega) (by omega)) (nm_r (nI_1 t) (go q2))⟩)⟩
          exact fun y => absurd ((fx_er (b := b) (r := 2) (by omega) (by omega)).symm.trans y) (by decide)
      · refine hp _ _ ?_
        have hbd := (fx_bind (kd := kd) (ag := pr_ag na) (z := (pr_z F bs pc)) hw c (pr_ag na c) hc x1).1 (by rw [hf, e1]; exact cz)
        show fx_rs (fx_sh d (fx_l N (pr_ar F pc kd na) kd (pr_ag na) (pr_z F bs pc) c (pr_ag na c))) _ _
        rw [hbd.1]
        refine ⟨fun y => (by cases y), fun j k y => ?_⟩
        cases y
        exact ⟨rfl, by rw [Int.zero_add]⟩
    rw [if_neg k0] at hp
    refine pk_eq (kd c) 2 (fun k => ?_) (fun k2 => ?_)
    · rw [if_pos k] at hp
      have ha : pr_ar F pc kd na c = 1 := by unfold pr_ar; rw [if_pos k]
      obtain ⟨i1, i2, i3, i4⟩ := fx_in (ag := pr_ag na) (z := (pr_z F bs pc)) (i := 0) hw hI ⟨by omega, by omega⟩ (by omega)
      rw [tr_ch_0] at i1 i2 i3 i4
      refine nm_r (e' := Int32.ofInt (d + -1)) (by rw [Int32.ofInt_add]; rfl) (nm_r (nI_1 c) (nm_r (nI_1 t) ?_))
      refine ih s (c + 1) (t + 1) fu (d + -1) i1 (by rw [i4]; exact hf) (by omega) (by omega) (by omega) (fun a' b' hab => hp a' b' ?_)
      rw [fx_sh_sh]
      unfold pr_fe at hab
      have : pr_fl F N pc bs kd na (c + 1) = pr_fl F N pc bs kd na c := i3
      rw [this] at hab
      exact hab
    rw [if_neg k2] at hp
    refine pk_eq (kd c) 4 (fun k => ?_) (fun k4 => ?_)
    · rw [if_pos k] at hp
      have ha : pr_ar F pc kd na c = 2 := by unfold pr_ar; rw [if_neg k2, if_pos k]
      obtain ⟨i1, i2, i3, i4⟩ := fx_in (ag := pr_ag na) (z := (pr_z F bs pc)) (i := 1) hw hI ⟨by omega, by omega⟩ (by omega)
      refine nm_r (e' := Int32.ofInt (d + -1)) (by rw [Int32.ofInt_add]; rfl) (wy_childAt h hc (i := 1) (by omega) (nm_r (nI_1 t) ?_))
      refine ih s (tr_ch N (pr_ar F pc kd na) c 1) (t + 1) fu (d + -1) i1 (by rw [i4]; exact hf) (by omega) (by omega) (by omega) (fun a' b' hab => hp a' b' ?_)
      rw [fx_sh_sh]
      unfold pr_fe at hab
      have : pr_fl F N pc bs kd na (tr_ch N (pr_ar F pc kd na) c 1) = pr_fl F N pc bs kd na c := i3
      rw [this] at hab
      exact hab
    rw [if_neg k4] at hp
    exact hp _ _ (fx_rs_none _)
theorem wy_fact {post : SY → Prop} (h : pr_in F N pc rt bs kd mk na) (hw : pg_wf F N bs (pr_ar F pc kd na)) (hn : pr_nm F N pc bs kd na) {c f : Nat} (hc : c < N) (hf : pg_fn F bs c = f)
    (hp : ∀ a b, fx_rs (pr_fe F N pc bs kd na c c) a b → post ((nI M), (nI F), (nI N), y_code, y_fault, y_bound, y_status, y_calls, y_depth, y_fuelLimit, y_hasResult, y_resVal, y_vTop, y_wTop, y_envTop, y_runBegun, y_runK, a, b, (fun i => nI (pc i)), mk, (fun i => nI (rt i)), (fun i => nI (bs i)), (fun i => nI (kd i)), na, y_tVal, y_slotList, y_slotVal, y_vals, y_wNode, y_wStep, y_env, y_actBase)) : wpY_computeFact post ((nI M), (nI F), (nI N), y_code, y_fault, y_bound, y_status, y_calls, y_depth, y_fuelLimit, y_hasResult, y_resVal, y_vTop, y_wTop, y_envTop, y_runBegun, y_runK, y_factJ, y_factK, (fun i => nI (pc i)), mk, (fun i => nI (rt i)), (fun i => nI (bs i)), (fun i => nI (kd i)), na, y_tVal, y_slotList, y_slotVal, y_vals, y_wNode, y_wStep, y_env, y_actBase) (nI c) (nI f) := by
  have h64 := h.2.1
  have hs := tr_se_le (N := N) (ar := (pr_ar F pc kd na)) (n := c) (by omega)
  refine ⟨66, ?_⟩
  exact wy_fact_l h hw hn 64 c c 0 66 0 (fx_I0 hc) hf (by unfold fx_mu; omega) (by omega) (by omega) (fun a b hab => hp a b (by rw [fx_sh_0] at hab; exact hab))
end
