section
variable {f_sizeCap f_functionCount f_nodeCount f_code f_faultFunction f_foundParam f_foundDrop f_status f_depth f_begun f_beginLimit f_waitingFunction f_currentNode f_valueKnown : Int32} {f_bound f_calls f_fuelLimit f_currentValue : Int64} {a_paramCounts a_listMasks a_resultTypes a_bodyStarts a_nodeKinds a_nodeArgs a_parents a_childIndexes a_subtreeEnds a_scopeSizes a_levelTypes a_levelParams a_levelDrops a_expectedTypes a_slotTypes a_callNodes : Nat → Int32} {a_totals a_slotValues a_waitingArgs a_levelValues a_nodeValues : Nat → Int64}
variable {M F N k : Nat} {pc rt bs kd : Nat → Nat} {mk na : Nat → Int32}
/-- the tables of facts are right for S levels -/
def fx_tb (g : Nat → Option (Nat × Int)) (S : Nat) (lp ld : Nat → Int32) : Prop := ∀ x, x < S → fx_rs (g x) (lp x) (ld x)
theorem fx_neg (i : Nat) : Int32.ofInt (-(i : Int)) = -nI i := by
  rw [Int32.ofInt_neg, Int32.ofInt_eq_ofNat]; rfl
theorem wx_ff68 {post : St2 → Prop} (h : pr_in F N pc rt bs kd mk na) (hw : pg_wf F N bs (pr_ar F pc kd na)) (hnm : pr_nm F N pc bs kd na) {g : Nat → Option (Nat × Int)} {S c i : Nat} (hc : c < N) (hS : pr_sc F N pc bs kd na c ≤ S) (hT : fx_tb g S a_levelParams a_levelDrops) (h2 : kd c ≠ 2) (h4 : kd c ≠ 4)
    (hp : ∀ a b, fx_rs (fx_sh (-(i : Int)) (fx_e N (pr_ar F pc kd na) kd (pr_ag na) g c)) a b → post ((nI M), (nI F), (nI N), f_code, f_faultFunction, f_bound, a, b, f_status, f_calls, f_depth, f_fuelLimit, f_begun, f_beginLimit, f_waitingFunction, f_currentNode, f_valueKnown, f_currentValue, (fun i => nI (pc i)), mk, (fun i => nI (rt i)), (fun i => nI (bs i)), (fun i => nI (kd i)), na, a_parents, a_childIndexes, a_subtreeEnds, a_scopeSizes, a_levelTypes, a_levelParams, a_levelDrops, a_expectedTypes, a_totals, a_slotTypes, a_slotValues, a_waitingArgs, a_callNodes, a_levelValues, a_nodeValues)) : wX_findFact_68 post (nI c) (nI i) (nI M) (nI F) (nI N) f_code f_faultFunction f_bound f_foundParam f_foundDrop f_status f_calls f_depth f_fuelLimit f_begun f_beginLimit f_waitingFunction f_currentNode f_valueKnown f_currentValue (fun i => nI (pc i)) mk (fun i => nI (rt i)) (fun i => nI (bs i)) (fun i => nI (kd i)) na a_parents a_childIndexes a_subtreeEnds a_scopeSizes a_levelTypes a_levelParams a_levelDrops a_expectedTypes a_totals a_slotTypes a_slotValues a_waitingArgs a_callNodes a_levelValues a_nodeValues := by
  have h64 := h.2.1
  have hk := h.2.2.2.2.2.1 c
  have e : (nI c).toNatClampNeg = c := nI_clamp (by omega)
  have hv : vp_in (nI c) 64 := vp_in_nI (by omega) (by omega)
  rw [fx_e_u (fx_pcl h hw) g hc] at hp
  unfold wX_findFact_68
  rw [e]
  refine ⟨hv, pk_eq (kd c) 0 (fun k => ⟨hv, ?_⟩) (fun k0 => ?_)⟩
  · rw [if_pos k] at hp
    obtain ⟨x1, x2⟩ := (hnm c hc).1 k
    have s45 := pr_sc_le h hw hc
    have hva : vp_in (nI (pr_ag na c)) 45 := vp_in_nI (by omega) (by omega)
    rw [x2, nI_clamp (by omega)]
    refine ⟨hva, nm_e ⟨hv, hva, nm_e (hp _ _ ?_)⟩⟩
    have := fx_rs_sh (hT (pr_ag na c) (by omega)) (-(i : Int))
    rw [fx_neg, ← Int32.sub_eq_add_neg] at this
    exact this
  · rw [if_neg k0, if_neg h2, if_neg h4] at hp
    exact hp _ _ (fx_rs_none _)
theorem wx_ff7 {post : St2 → Prop} (h : pr_in F N pc rt bs kd mk na) (hw : pg_wf F N bs (pr_ar F pc kd na)) (hnm : pr_nm F N pc bs kd na) (HT : tb_ok N (pr_ar F pc kd na) kd (pr_z F bs pc) a_parents a_childIndexes a_subtreeEnds a_scopeSizes N) {g : Nat → Option (Nat × Int)} {S : Nat} (hT : fx_tb g S a_levelParams a_levelDrops) :
    ∀ (r c i fu : Nat), N - c ≤ r → i + r ≤ 64 → r < fu → c < N → pr_sc F N pc bs kd na c ≤ S → (∀ a b, fx_rs (fx_sh (-(i : Int)) (fx_e N (pr_ar F pc kd na) kd (pr_ag na) g c)) a b → post ((nI M), (nI F), (nI N), f_code, f_faultFunction, f_bound, a, b, f_status, f_calls, f_depth, f_fuelLimit, f_begun, f_beginLimit, f_waitingFunction, f_currentNode, f_valueKnown, f_currentValue, (fun i => nI (pc i)), mk, (fun i => nI (rt i)), (fun i => nI (bs i)), (fun i => nI (kd i)), na, a_parents, a_childIndexes, a_subtreeEnds, a_scopeSizes, a_levelTypes, a_levelParams, a_levelDrops, a_expectedTypes, a_totals, a_slotTypes, a_slotValues, a_waitingArgs, a_callNodes, a_levelValues, a_nodeValues)) → wX_findFact_7 post (nI M) (nI F) (nI N) f_code f_faultFunction f_bound f_foundParam f_foundDrop f_status f_calls f_depth f_fuelLimit f_begun f_beginLimit f_waitingFunction f_currentNode f_valueKnown f_currentValue (fun i => nI (pc i)) mk (fun i => nI (rt i)) (fun i => nI (bs i)) (fun i => nI (kd i)) na a_parents a_childIndexes a_subtreeEnds a_scopeSizes a_levelTypes a_levelParams a_levelDrops a_expectedTypes a_totals a_slotTypes a_slotValues a_waitingArgs a_callNodes a_levelValues a_nodeValues fu (nI c) (nI i) (nI i) := by
  have h64 := h.2.1
  have hcl := fx_pcl h hw
  intro r
  induction r with
  | zero => intro c i fu h1 h2 h3 h4; omega
  | succ r ih =>
    intro c i fu h1 h2 h3 hc hS hp
    obtain ⟨fu, rfl⟩ : ∃ f, fu = f + 1 := ⟨fu - 1, by omega⟩
    have hk := h.2.2.2.2.2.1 c
    have e : (nI c).toNatClampNeg = c := nI_clamp (by omega)
    have hv : vp_in (nI c) 64 := vp_in_nI (by omega) (by omega)
    have nxt : ∀ j, j < pr_ar F pc kd na c → kd c ≠ 6 ∧ kd c ≠ 7 → (fx_e N (pr_ar F pc kd na) kd (pr_ag na) g c = fx_sh (-1) (fx_e N (pr_ar F pc kd na) kd (pr_ag na) g (tr_ch N (pr_ar F pc kd na) c j))) → wX_findFact_7 post (nI M) (nI F) (nI N) f_code f_faultFunction f_bound f_foundParam f_foundDrop f_status f_calls f_depth f_fuelLimit f_begun f_beginLimit f_waitingFunction f_currentNode f_valueKnown f_currentValue (fun i => nI (pc i)) mk (fun i => nI (rt i)) (fun i => nI (bs i)) (fun i => nI (kd i)) na a_parents a_childIndexes a_subtreeEnds a_scopeSizes a_levelTypes a_levelParams a_levelDrops a_expectedTypes a_totals a_slotTypes a_slotValues a_waitingArgs a_callNodes a_levelValues a_nodeValues fu (nI (tr_ch N (pr_ar F pc kd na) c j)) (nI (i + 1)) (nI (i + 1)) := by
      intro j hj hk67 he
      obtain ⟨a1, a2, a3, a4, a5, a6, a7⟩ := pg_ch hw hc hj
      have es : pr_sc F N pc bs kd na (tr_ch N (pr_ar F pc kd na) c j) = pr_sc F N pc bs kd na c := by
        unfold pr_sc; rw [sq_some a3, sq_cv0 (Or.inr hk67)]; rfl
      refine ih _ (i + 1) fu (by omega) (by omega) (by omega) a1 (by omega) (fun a b hab => hp a b ?_)
      rw [he, fx_sh_sh]
      have : (-(i : Int) + -1) = -((i + 1 : Nat) : Int) := by omega
      rw [this]
      exact hab
    refine br_f (nI_ge (b := 64) (by omega) (by decide)) ⟨hv, ?_⟩
    show ((fun i => nI (kd i)) (nI c).toNatClampNeg = 2 → _) ∧ _
    rw [e]
    have x34 : (kd c = 2 ∨ kd c = 4) → wX_findFact_34 post (wX_findFact_7 post (nI M) (nI F) (nI N) f_code f_faultFunction f_bound f_foundParam f_foundDrop f_status f_calls f_depth f_fuelLimit f_begun f_beginLimit f_waitingFunction f_currentNode f_valueKnown f_currentValue (fun i => nI (pc i)) mk (fun i => nI (rt i)) (fun i => nI (bs i)) (fun i => nI (kd i)) na a_parents a_childIndexes a_subtreeEnds a_scopeSizes a_levelTypes a_levelParams a_levelDrops a_expectedTypes a_totals a_slotTypes a_slotValues a_waitingArgs a_callNodes a_levelValues a_nodeValues fu) (nI c) (nI i) (nI i) (nI M) (nI F) (nI N) f_code f_faultFunction f_bound f_foundParam f_foundDrop f_status f_calls f_depth f_fuelLimit f_begun f_beginLimit f_waitingFunction f_currentNode f_valueKnown f_currentValue (fun i => nI (pc i)) mk (fun i => nI (rt i)) (fun i => nI (bs i)) (fun i => nI (kd i)) na a_parents a_childIndexes a_subtreeEnds a_scopeSizes a_levelTypes a_levelParams a_levelDrops a_expectedTypes a_totals a_slotTypes a_slotValues a_waitingArgs a_callNodes a_levelValues a_nodeValues := by
      intro hor
      unfold wX_findFact_34
      rw [e]
      refine ⟨hv, pk_eq (kd c) 2 (fun k => nm_r (nI_1 c) (nm_r (nI_1 i) (nm_r (nI_1 i) ?_))) (fun k => ?_)⟩
      · have ha : pr_ar F pc kd na c = 1 := by unfold pr_ar; rw [if_pos k]
        have := nxt 0 (by omega) ⟨by omega, by omega⟩ (by rw [fx_e_u hcl g hc, if_neg (by omega), if_pos k, tr_ch_0])
        rw [tr_ch_0] at this
        exact this
      · have k4 : kd c = 4 := by omega
        have ha : pr_ar F pc kd na c = 2 := by unfold pr_ar; rw [if_neg k, if_pos k4]
        have hc1 : c + 1 < N := by
          have := (pg_ch hw (c := 0) hc (by omega)).1
          rw [tr_ch_0] at this; exact this
        have e1 : (nI c + 1).toNatClampNeg = c + 1 := by rw [nI_1]; exact nI_clamp (by omega)
        rw [e1, (HT (c + 1) hc1).2.2.1]
        have ec : tr_se N (pr_ar F pc kd na) (c + 1) = tr_ch N (pr_ar F pc kd na) c 1 := by rw [show (1 : Nat) = 0 + 1 from rfl, tr_ch_s, tr_ch_0]
        rw [ec]
        refine ⟨by rw [nI_1]; exact vp_in_nI (by omega) (by omega), nm_e (nm_r (nI_1 i) (nm_r (nI_1 i) ?_))⟩
        exact nxt 1 (by omega) ⟨by omega, by omega⟩ (by rw [fx_e_u hcl g hc, if_neg (by omega), if_neg k, if_pos k4])
    refine pk_eq (kd c) 2 (fun k => x34 (Or.inl k)) (fun k2 => ⟨hv, pk_eq (kd c) 4 (fun k => x34 (Or.inr k)) (fun k4 => ?_)⟩)
    exact wx_ff68 h hw hnm hc hS hT k2 k4 hp
theorem wx_findFact {post : St2 → Prop} (h : pr_in F N pc rt bs kd mk na) (hw : pg_wf F N bs (pr_ar F pc kd na)) (hnm : pr_nm F N pc bs kd na) (HT : tb_ok N (pr_ar F pc kd na) kd (pr_z F bs pc) a_parents a_childIndexes a_subtreeEnds a_scopeSizes N) {g : Nat → Option (Nat × Int)} {S c : Nat} (hT : fx_tb g S a_levelParams a_levelDrops) (hc : c < N) (hS : pr_sc F N pc bs kd na c ≤ S)
    (hp : ∀ a b, fx_rs (fx_e N (pr_ar F pc kd na) kd (pr_ag na) g c) a b → post ((nI M), (nI F), (nI N), f_code, f_faultFunction, f_bound, a, b, f_status, f_calls, f_depth, f_fuelLimit, f_begun, f_beginLimit, f_waitingFunction, f_currentNode, f_valueKnown, f_currentValue, (fun i => nI (pc i)), mk, (fun i => nI (rt i)), (fun i => nI (bs i)), (fun i => nI (kd i)), na, a_parents, a_childIndexes, a_subtreeEnds, a_scopeSizes, a_levelTypes, a_levelParams, a_levelDrops, a_expectedTypes, a_totals, a_slotTypes, a_slotValues, a_waitingArgs, a_callNodes, a_levelValues, a_nodeValues)) : wpX_findFact post ((nI M), (nI F), (nI N), f_code, f_faultFunction, f_bound, f_foundParam, f_foundDrop, f_status, f_calls, f_depth, f_fuelLimit, f_begun, f_beginLimit, f_waitingFunction, f_currentNode, f_valueKnown, f_currentValue, (fun i => nI (pc i)), mk, (fun i => nI (rt i)), (fun i => nI (bs i)), (fun i => nI (kd i)), na, a_parents, a_childIndexes, a_subtreeEnds, a_scopeSizes, a_levelTypes, a_levelParams, a_levelDrops, a_expectedTypes, a_totals, a_slotTypes, a_slotValues, a_waitingArgs, a_callNodes, a_levelValues, a_nodeValues) (nI c) := by
  have h64 := h.2.1
  have e : (-((0 : Nat) : Int)) = 0 := by omega
  refine ⟨65, ?_⟩
  refine wx_ff7 h hw hnm HT hT 64 c 0 65 (by omega) (by omega) (by omega) hc hS (fun a b hab => hp a b ?_)
  rw [e, fx_sh_0] at hab
  exact hab
def pr_fp (F N : Nat) (pc bs kd : Nat → Nat) (na lp ld : Nat → Int32) (n : Nat) : Prop :=
  (tr_pa N (pr_ar F pc kd na) n = none → fx_tb (pr_fl F N pc bs kd na n) (pr_sc F N pc bs kd na n) lp ld) ∧ ∀ p, tr_pa N (pr_ar F pc kd na) n = some p → fx_tb (pr_fl F N pc bs kd na p) (pr_sc F N pc bs kd na p) lp ld
theorem wx_bindFacts {post : St2 → Prop} (h : pr_in F N pc rt bs kd mk na) (hw : pg_wf F N bs (pr_ar F pc kd na)) (hnm : pr_nm F N pc bs kd na) (HT : tb_ok N (pr_ar F pc kd na) kd (pr_z F bs pc) a_parents a_childIndexes a_subtreeEnds a_scopeSizes N) {n : Nat} (hn : n < N) (hl : pr_fp F N pc bs kd na a_levelParams a_levelDrops n)
    (hp : ∀ a b lp ld, fx_tb (pr_fl F N pc bs kd na n) (pr_sc F N pc bs kd na n) lp ld → post ((nI M), (nI F), (nI N), f_code, f_faultFunction, f_bound, a, b, f_status, f_calls, f_depth, f_fuelLimit, f_begun, f_beginLimit, f_waitingFunction, f_currentNode, f_valueKnown, f_currentValue, (fun i => nI (pc i)), mk, (fun i => nI (rt i)), (fun i => nI (bs i)), (fun i => nI (kd i)), na, a_parents, a_childIndexes, a_subtreeEnds, a_scopeSizes, a_levelTypes, lp, ld, a_expectedTypes, a_totals, a_slotTypes, a_slotValues, a_waitingArgs, a_callNodes, a_levelValues, a_nodeValues)) : wpX_bindFacts post ((nI M), (nI F), (nI N), f_code, f_faultFunction, f_bound, f_foundParam, f_foundDrop, f_status, f_calls, f_depth, f_fuelLimit, f_begun, f_beginLimit, f_waitingFunction, f_currentNode, f_valueKnown, f_currentValue, (fun i => nI (pc i)), mk, (fun i => nI (rt i)), (fun i => nI (bs i)), (fun i => nI (kd i)), na, a_parents, a_childIndexes, a_subtreeEnds, a_scopeSizes, a_levelTypes, a_levelParams, a_levelDrops, a_expectedTypes, a_totals, a_slotTypes, a_slotValues, a_waitingArgs, a_callNodes, a_levelValues, a_nodeValues) (nI n) := by
  have h64 := h.2.1
  unfold wpX_bindFacts
  refine wx_binderAt h hn (HT n hn).1 (HT n hn).2.1 ?_
  cases hpn : tr_pa N (pr_ar F pc kd na) n with
  | none =>
    rw [tb_bi_none hpn]
    exact br_t rfl (hp _ _ _ _ (hl.1 hpn))
  | some p =>
    have hpl := (tr_pa_some hpn).1
    have es : pr_sc F N pc bs kd na n = pr_sc F N pc bs kd na p + sq_cv N (pr_ar F pc kd na) kd p n := by unfold pr_sc; exact sq_some hpn
    have s45 := pr_sc_le h hw hn
    have hlp := hl.2 p hpn
    by_cases c0 : sq_cv N (pr_ar F pc kd na) kd p n = 0
    · rw [tb_bi_0 hpn c0]
      refine br_t rfl (hp _ _ _ _ (fun x hx => ?_))
      have : pr_fl F N pc bs kd na n = pr_fl F N pc bs kd na p := fx_l_0 hpn c0
      rw [this]
      exact hlp x (by omega)
    · rw [tb_bi_s hpn c0, show tb_o (some p) = nI p from rfl]
      have ep : (nI p).toNatClampNeg = p := nI_clamp (by omega)
      have hvp : vp_in (nI p) 64 := vp_in_nI (by omega) (by omega)
      have hk := h.2.2.2.2.2.1 p
      have hsp : a_scopeSizes p = nI (pr_sc F N pc bs kd na p) := (HT p (by omega)).2.2.2
      have ha3 : pr_ar F pc kd na p = 3 := fx_k3 p (by rcases (sq_cvk c0).2 with ⟨k1, _⟩ | ⟨k1, _⟩; exact Or.inl k1; exact Or.inr k1)
      obtain ⟨a1, a2, a3, a4, a5, a6, a7⟩ := pg_ch hw (n := p) (c := 0) (by omega) (by omega)
      rw [tr_ch_0] at a1 a3 a5
      have e0 : pr_sc F N pc bs kd na (p + 1) = pr_sc F N pc bs kd na p := by
        unfold pr_sc; rw [sq_some a3, sq_cv0 (Or.inl (by omega))]; rfl
      have efl : ∀ x, pr_fl F N pc bs kd na n x = (if x = pr_sc F N pc bs kd na p then (if sq_cv N (pr_ar F pc kd na) kd p n = 1 then fx_sh 1 (fx_e N (pr_ar F pc kd na) kd (pr_ag na) (pr_fl F N pc bs kd na p) (p + 1)) else none)
          else if x = pr_sc F N pc bs kd na p + 1 then fx_sh 1 (fx_e N (pr_ar F pc kd na) kd (pr_ag na) (pr_fl F N pc bs kd na p) (p + 1)) else pr_fl F N pc bs kd na p x) := fun x => fx_l_s hpn c0 x
      have b40 : ∀ (lp : Nat → Int32) (l : Nat), l < 45 → l < pr_sc F N pc bs kd na n → pr_sc F N pc bs kd na p ≤ l → fx_tb (pr_fl F N pc bs kd na p) (pr_sc F N pc bs kd na p) lp a_levelDrops →
          pr_fl F N pc bs kd na n l = fx_sh 1 (fx_e N (pr_ar F pc kd na) kd (pr_ag na) (pr_fl F N pc bs kd na p) (p + 1)) → (∀ x, x < pr_sc F N pc bs kd na n → x ≠ l → ∀ b, fx_rs (pr_fl F N pc bs kd na n x) (lp x) b ∨ x < pr_sc F N pc bs kd na p) →
          wX_bindFacts_40 post (nI p) (nI l) (nI M) (nI F) (nI N) f_code f_faultFunction f_bound f_foundParam f_foundDrop f_status f_calls f_depth f_fuelLimit f_begun f_beginLimit f_waitingFunction f_currentNode f_valueKnown f_currentValue (fun i => nI (pc i)) mk (fun i => nI (rt i)) (fun i => nI (bs i)) (fun i => nI (kd i)) na a_parents a_childIndexes a_subtreeEnds a_scopeSizes a_levelTypes lp a_levelDrops a_expectedTypes a_totals a_slotTypes a_slotValues a_waitingArgs a_callNodes a_levelValues a_nodeValues := by
        intro lp l hl1 hl2 hl3 hT hfl hoth
        have el : (nI l).toNatClampNeg = l := nI_clamp (by omega)
        unfold wX_bindFacts_40
        rw [nI_1]
        refine wx_findFact (a_levelParams := lp) h hw hnm HT hT a1 (by omega) (fun a b hab => ⟨vp_in_nI (by omega) (by omega), ?_⟩)
        rw [el]
        refine nm_e ⟨vp_in_nI (by omega) (by omega), nm_e (hp _ _ _ _ (fun x hx => ?_))⟩
        by_cases ex : x = l
        · subst ex
          rw [pk_us, pk_us, hfl]
          exact fx_rs_sh hab 1
        · rw [pk_un ex, pk_un ex]
          rcases hoth x hx ex (a_levelDrops x) with y | y
          · exact y
          · have : pr_fl F N pc bs kd na n x = pr_fl F N pc bs kd na p x := by rw [efl, if_neg (by omega), if_neg (by omega)]
            rw [this]
            exact hT x y
      refine br_f (wx_no p (by omega)) ⟨hvp, ?_⟩
      rw [ep, hsp]
      refine nm_e ⟨hvp, ?_⟩
      rcases (sq_cvk c0).2 with ⟨k1, k2⟩ | ⟨k1, k2⟩
      · refine pk_eq (kd p) 7 (fun k => by omega) (fun k => ?_)
        refine b40 a_levelParams _ (by omega) (by omega) (Nat.le_refl _) hlp (by rw [efl, if_pos rfl, if_pos k2]) (fun x hx hne b => Or.inr (by omega))
      · have el : (nI (pr_sc F N pc bs kd na p)).toNatClampNeg = pr_sc F N pc bs kd na p := nI_clamp (by omega)
        refine pk_eq (kd p) 7 (fun k => ⟨vp_in_nI (by omega) (by omega), ?_⟩) (fun k => by omega)
        rw [el]
        refine nm_e (nm_r (nI_1 _) ?_)
        refine b40 _ _ (by omega) (by omega) (by omega) (fun x hx => by rw [pk_un (by omega)]; exact hlp x hx) (by rw [efl, if_neg (by omega), if_pos rfl]) (fun x hx hne b => ?_)
        by_cases ex : x = pr_sc F N pc bs kd na p
        · refine Or.inl ?_
          rw [efl, if_pos ex, if_neg (by omega), ex, pk_us]
          exact fx_rs_none _
        · exact Or.inr (by omega)
/-- whether the self call n descends -/
def pr_dn (F N : Nat) (pc bs kd : Nat → Nat) (na : Nat → Int32) (f n : Nat) : Bool := cd_dn (fun i => pr_fe F N pc bs kd na n (tr_ch N (pr_ar F pc kd na) n i)) (pc f) 0
def cd_b (b : Bool) : Int32 := if b then 1 else 0
theorem wx_ds7 {post : Int32 → St2 → Prop} (h : pr_in F N pc rt bs kd mk na) (hw : pg_wf F N bs (pr_ar F pc kd na)) (hnm : pr_nm F N pc bs kd na) (HT : tb_ok N (pr_ar F pc kd na) kd (pr_z F bs pc) a_parents a_childIndexes a_subtreeEnds a_scopeSizes N) {n f : Nat} (hn : n < N) (hf : f < F) (k5 : kd n = 5) (ha : na n = nI f)
    (hT : fx_tb (pr_fl F N pc bs kd na n) (pr_sc F N pc bs kd na n) a_levelParams a_levelDrops) :
    ∀ (t i fu : Nat) (a b : Int32), i + t = pc f → t < fu → (∀ a b, post (cd_b (cd_dn (fun i => pr_fe F N pc bs kd na n (tr_ch N (pr_ar F pc kd na) n i)) t i)) ((nI M), (nI F), (nI N), f_code, f_faultFunction, f_bound, a, b, f_status, f_calls, f_depth, f_fuelLimit, f_begun, f_beginLimit, f_waitingFunction, f_currentNode, f_valueKnown, f_currentValue, (fun i => nI (pc i)), mk, (fun i => nI (rt i)), (fun i => nI (bs i)), (fun i => nI (kd i)), na, a_parents, a_childIndexes, a_subtreeEnds, a_scopeSizes, a_levelTypes, a_levelParams, a_levelDrops, a_expectedTypes, a_totals, a_slotTypes, a_slotValues, a_waitingArgs, a_callNodes, a_levelValues, a_nodeValues)) → wX_descends_7 post (nI f) fu (nI (tr_ch N (pr_ar F pc kd na) n i)) (nI i) (nI M) (nI F) (nI N) f_code f_faultFunction f_bound a b f_status f_calls f_depth f_fuelLimit f_begun f_beginLimit f_waitingFunction f_currentNode f_valueKnown f_currentValue (fun i => nI (pc i)) mk (fun i => nI (rt i)) (fun i => nI (bs i)) (fun i => nI (kd i)) na a_parents a_childIndexes a_subtreeEnds a_scopeSizes a_levelTypes a_levelParams a_levelDrops a_expectedTypes a_totals a_slotTypes a_slotValues a_waitingArgs a_callNodes a_levelValues a_nodeValues := by
  have h6 := h.1
  have h64 := h.2.1
  have hp3 := h.2.2.1 f
  have e : (nI f).toNatClampNeg = f := nI_clamp (by omega)
  have hv : vp_in (nI f) 6 := vp_in_nI (by omega) (by omega)
  have eag : pr_ag na n = f := by unfold pr_ag; rw [ha]; exact e
  have har := (pr_ar5 hw h hnm hn k5).2.1
  rw [eag] at har
  intro t
  induction t with
  | zero =>
    intro i fu a b h1 h2 hp
    obtain ⟨fu, rfl⟩ : ∃ f, fu = f + 1 := ⟨fu - 1, by omega⟩
    refine ⟨hv, ?_⟩
    show ((fun i => nI (pc i)) (nI f).toNatClampNeg ≤ nI i → _) ∧ _
    rw [e]
    exact br_t (nI_le (by omega) (by omega)) (hp a b)
  | succ t ih =>
    intro i fu a b h1 h2 hp
    obtain ⟨fu, rfl⟩ : ∃ f, fu = f + 1 := ⟨fu - 1, by omega⟩
    obtain ⟨a1, a2, a3, a4, a5, a6, a7⟩ := pg_ch hw (n := n) (c := i) hn (by omega)
    have es : pr_sc F N pc bs kd na (tr_ch N (pr_ar F pc kd na) n i) = pr_sc F N pc bs kd na n := by
      unfold pr_sc; rw [sq_some a3, sq_cv0 (Or.inr ⟨by omega, by omega⟩)]; rfl
    have ec : (nI (tr_ch N (pr_ar F pc kd na) n i)).toNatClampNeg = tr_ch N (pr_ar F pc kd na) n i := nI_clamp (by omega)
    refine ⟨hv, ?_⟩
    show ((fun i => nI (pc i)) (nI f).toNatClampNeg ≤ nI i → _) ∧ _
    rw [e]
    refine br_f (nI_ge (by omega) (by omega)) (wx_findFact (f_foundParam := a) (f_foundDrop := b) h hw hnm HT hT a1 (by omega) (fun a' b' hab => ?_))
    have hp' := hp a' b'
    rw [cd_dn] at hp'
    have hab' : fx_rs (pr_fe F N pc bs kd na n (tr_ch N (pr_ar F pc kd na) n i)) a' b' := hab
    cases ho : pr_fe F N pc bs kd na n (tr_ch N (pr_ar F pc kd na) n i) with
    | none =>
      rw [ho] at hp' hab'
      rw [hab'.1 rfl] at hp' ⊢
      exact br_f (fun y => wx_no i (by omega) y.symm) hp'
    | some jk =>
      obtain ⟨j, kk⟩ := jk
      rw [ho] at hp' hab'
      obtain ⟨q1, q2⟩ := hab'.2 j kk rfl
      rw [q1, q2] at hp' ⊢
      dsimp only at hp'
      refine br_c (fun c1 => br_c (fun c2 => br_c (fun c3 => ?_) (fun c3 => ?_)) (fun c2 => ?_)) (fun c1 => ?_)
      · have hih := ih (i + 1) fu (nI j) (Int32.ofInt kk) (by omega) (by omega) (fun a'' b'' => ?_)
        · show vp_in _ 64 ∧ _
          rw [ec, (HT _ a1).2.2.1, ← tr_ch_s]
          exact ⟨vp_in_nI (by omega) (by omega), nm_e (nm_r (nI_1 i) hih)⟩
        · have := hp a'' b''
          rw [cd_dn, ho] at this
          dsimp only at this
          rw [if_neg (fun y => y c1), if_neg (Int32.not_lt.mpr c2), if_neg (Int32.not_lt.mpr c3)] at this
          exact this
      · rw [if_neg (fun y => y c1), if_neg (Int32.not_lt.mpr c2), if_pos (Int32.not_le.mp c3)] at hp'
        exact hp'
      · rw [if_neg (fun y => y c1), if_pos (Int32.not_le.mp c2)] at hp'
        exact hp'
      · rw [if_pos c1] at hp'
        exact hp'
theorem wx_descends {post : Int32 → St2 → Prop} (h : pr_in F N pc rt bs kd mk na) (hw : pg_wf F N bs (pr_ar F pc kd na)) (hnm : pr_nm F N pc bs kd na) (HT : tb_ok N (pr_ar F pc kd na) kd (pr_z F bs pc) a_parents a_childIndexes a_subtreeEnds a_scopeSizes N) {n f : Nat} (hn : n < N) (hf : f < F) (k5 : kd n = 5) (ha : na n = nI f)
    (hT : fx_tb (pr_fl F N pc bs kd na n) (pr_sc F N pc bs kd na n) a_levelParams a_levelDrops) (hp : ∀ a b, post (cd_b (pr_dn F N pc bs kd na f n)) ((nI M), (nI F), (nI N), f_code, f_faultFunction, f_bound, a, b, f_status, f_calls, f_depth, f_fuelLimit, f_begun, f_beginLimit, f_waitingFunction, f_currentNode, f_valueKnown, f_currentValue, (fun i => nI (pc i)), mk, (fun i => nI (rt i)), (fun i => nI (bs i)), (fun i => nI (kd i)), na, a_parents, a_childIndexes, a_subtreeEnds, a_scopeSizes, a_levelTypes, a_levelParams, a_levelDrops, a_expectedTypes, a_totals, a_slotTypes, a_slotValues, a_waitingArgs, a_callNodes, a_levelValues, a_nodeValues)) : wpX_descends post ((nI M), (nI F), (nI N), f_code, f_faultFunction, f_bound, f_foundParam, f_foundDrop, f_status, f_calls, f_depth, f_fuelLimit, f_begun, f_beginLimit, f_waitingFunction, f_currentNode, f_valueKnown, f_currentValue, (fun i => nI (pc i)), mk, (fun i => nI (rt i)), (fun i => nI (bs i)), (fun i => nI (kd i)), na, a_parents, a_childIndexes, a_subtreeEnds, a_scopeSizes, a_levelTypes, a_levelParams, a_levelDrops, a_expectedTypes, a_totals, a_slotTypes, a_slotValues, a_waitingArgs, a_callNodes, a_levelValues, a_nodeValues) (nI f) (nI n) := by
  have hp3 := h.2.2.1 f
  refine nm_r (e' := nI (tr_ch N (pr_ar F pc kd na) n 0)) (by rw [nI_1, tr_ch_0]) ⟨4, ?_⟩
  exact wx_ds7 h hw hnm HT hn hf k5 ha hT (pc f) 0 4 _ _ (by omega) (by omega) hp
end
