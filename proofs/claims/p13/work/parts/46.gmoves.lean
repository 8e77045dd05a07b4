section
variable {M F N k : Nat} {pc rt bs kd : Nat → Nat} {mk na : Nat → Int32}
variable {m m' : Nat → Nat} {ps : Nat → Nat → Nat} {e n q p c : Nat} {lv nv : Nat → Int64} {v v' w w' : Int64}
theorem gt_leaf (hok : pr_ok F N pc rt bs kd mk na) (hm : ∀ i, i < e → m i < N) (I : gz_I M F N pc rt bs kd mk na m ps e n (gz_o M F N pc rt bs kd mk na m ps e n n) lv nv c) : gz_I M F N pc rt bs kd mk na m ps e n (gz_o M F N pc rt bs kd mk na m ps e n (tr_se N (pr_ar F pc kd na) n)) lv nv c :=
  gz_mv hok hm I (fun _ _ => rfl) (fun _ _ => rfl) I.2.1 I.2.2.1 po_leaf
theorem gt_first (hok : pr_ok F N pc rt bs kd mk na) (hm : ∀ i, i < e → m i < N) (hn : n < N) (ha : 0 < pr_ar F pc kd na n) (I : gz_I M F N pc rt bs kd mk na m ps e n (gz_o M F N pc rt bs kd mk na m ps e n n) lv nv c) : gz_I M F N pc rt bs kd mk na m ps e (n + 1) (gz_o M F N pc rt bs kd mk na m ps e (n + 1) (n + 1)) lv nv c := by
  obtain ⟨a1, a2, a3, a4, a5, a6, a7⟩ := pg_ch hok.1 hn ha
  rw [tr_ch_0] at a1 a3 a4 a5
  exact gz_mv hok hm I (fun _ _ => rfl) (fun _ _ => rfl) (fa_L_dn a3 (sq_cv0 (Or.inl (by omega))) I.2.1) (fa_V_dn a1 a3 I.2.2.1 (fun _ c hc => by omega)) po_first
theorem gt_up (hok : pr_ok F N pc rt bs kd mk na) (hm : ∀ i, i < e → m i < N) (hq : q < N) (hp : tr_pa N (pr_ar F pc kd na) q = some p) (I : gz_I M F N pc rt bs kd mk na m ps e q (gz_o M F N pc rt bs kd mk na m ps e q (tr_se N (pr_ar F pc kd na) q)) lv nv c) : gz_I M F N pc rt bs kd mk na m ps e p (gz_o M F N pc rt bs kd mk na m ps e p (tr_se N (pr_ar F pc kd na) p)) lv nv c :=
  gz_mv hok hm I (fun _ _ => rfl) (fun _ _ => rfl) (fa_L_up hp I.2.1) (fa_V_up hq hp I.2.2.1) (po_up hq hp)
/-- the facts of the arguments in hand, the last one's value just stored -/
theorem gt_keep (hok : pr_ok F N pc rt bs kd mk na) (hq : q < N) (hp : tr_pa N (pr_ar F pc kd na) q = some p) (hk : kd p = 5) (hV : fa_V N (pr_ar F pc kd na) kd (pr_ag na) (pr_z F bs pc) (pr_et F N pc rt bs kd mk na) (ps e) nv (64 * e) q) (hK : fa_K N (pr_ar F pc kd na) kd (pr_ag na) (pr_z F bs pc) (pr_et F N pc rt bs kd mk na) (ps e) q v) : ∀ i, i < tr_ci N (pr_ar F pc kd na) q + 1 → ∀ j k, fx_e N (pr_ar F pc kd na) kd (pr_ag na) (fx_l N (pr_ar F pc kd na) kd (pr_ag na) (pr_z F bs pc) p) (tr_ch N (pr_ar F pc kd na) p i) = some (j, k) → (sz_sz (pr_et F N pc rt bs kd mk na (tr_ch N (pr_ar F pc kd na) p i)) (vp_updL nv (64 * e + q) v (64 * e + tr_ch N (pr_ar F pc kd na) p i)) : Int) + k = ps e j := by
  obtain ⟨g1, g2, g3, g4, g5, g6⟩ := pw_fnpa hok hq hp
  intro i hi j k hf
  have el : fx_l N (pr_ar F pc kd na) kd (pr_ag na) (pr_z F bs pc) q = fx_l N (pr_ar F pc kd na) kd (pr_ag na) (pr_z F bs pc) p := fx_l_0 hp (sq_cv0 (Or.inr ⟨by omega, by omega⟩))
  rcases Nat.eq_or_lt_of_le (Nat.le_of_lt_succ hi) with y | y
  · have e1 : tr_ch N (pr_ar F pc kd na) p i = q := by rw [y]; exact g5.symm
    rw [e1] at hf ⊢
    rw [pk_uLs]
    unfold fa_K at hK
    rw [el] at hK
    exact hK j k hf
  · have hl : tr_ch N (pr_ar F pc kd na) p i < q := by
      have b1 := pg_ch hok.1 g1 (c := i) (by omega)
      have b2 := tr_se_gt (N := N) (ar := (pr_ar F pc kd na)) b1.1
      rw [← tr_ch_s] at b2
      have b3 := tr_ch_le (N := N) (ar := (pr_ar F pc kd na)) p (i + 1) (tr_ci N (pr_ar F pc kd na) q) (by omega)
      omega
    rw [pk_uLn (by omega)]
    exact hV q p i (tr_an_self hq) hp hk y j k hf
theorem gt_next (hok : pr_ok F N pc rt bs kd mk na) (hm : ∀ i, i < e → m i < N) (hq : q < N) (hp : tr_pa N (pr_ar F pc kd na) q = some p) (hk : kd p = 4 ∨ kd p = 5) (hc : tr_ci N (pr_ar F pc kd na) q + 1 < pr_ar F pc kd na p) (I : gz_I M F N pc rt bs kd mk na m ps e q (gz_o M F N pc rt bs kd mk na m ps e q (tr_se N (pr_ar F pc kd na) q)) lv nv c) (hK : fa_K N (pr_ar F pc kd na) kd (pr_ag na) (pr_z F bs pc) (pr_et F N pc rt bs kd mk na) (ps e) q v) :
    gz_I M F N pc rt bs kd mk na m ps e (tr_se N (pr_ar F pc kd na) q) (gz_o M F N pc rt bs kd mk na m ps e (tr_se N (pr_ar F pc kd na) q) (tr_se N (pr_ar F pc kd na) q)) lv (vp_updL nv (64 * e + q) v) c := by
  obtain ⟨g1, g2, g3, g4, g5, g6⟩ := pw_fnpa hok hq hp
  have ec : tr_ch N (pr_ar F pc kd na) p (tr_ci N (pr_ar F pc kd na) q + 1) = tr_se N (pr_ar F pc kd na) q := by rw [tr_ch_s, ← g5]
  obtain ⟨a1, a2, a3, a4, a5, a6, a7⟩ := pg_ch hok.1 g1 hc
  rw [ec] at a1 a3 a4 a5
  have hV1 : fa_V N (pr_ar F pc kd na) kd (pr_ag na) (pr_z F bs pc) (pr_et F N pc rt bs kd mk na) (ps e) (vp_updL nv (64 * e + q) v) (64 * e) p := fa_V_fr hok.1 g1 (fa_V_up hq hp I.2.2.1) (fun k hk => pk_uLn (by omega))
  refine gz_mv hok hm I (fun _ _ => rfl) (fun t ht => pk_uLn (by omega)) (fa_L_dn a3 (sq_cv0 (Or.inr ⟨by omega, by omega⟩)) (fa_L_up hp I.2.1)) (fa_V_dn a1 a3 hV1 (fun h5 i hi => ?_)) (po_sib hq a1 hp a3 (Nat.le_refl _))
  exact gt_keep hok hq hp h5 I.2.2.1 hK i (by omega)
theorem gt_wait (hok : pr_ok F N pc rt bs kd mk na) (hm : ∀ i, i < e → m i < N) (hq : q < N) (hp : tr_pa N (pr_ar F pc kd na) q = some p) (hk : kd p = 5) (hc : tr_ci N (pr_ar F pc kd na) q + 1 = pr_ar F pc kd na p) (I : gz_I M F N pc rt bs kd mk na m ps e q (gz_o M F N pc rt bs kd mk na m ps e q (tr_se N (pr_ar F pc kd na) q)) lv nv c) :
    gz_I M F N pc rt bs kd mk na m ps e p (gz_o M F N pc rt bs kd mk na m ps e (p + 1) (tr_se N (pr_ar F pc kd na) p)) lv (vp_updL nv (64 * e + q) v) c := by
  obtain ⟨g1, g2, g3, g4, g5, g6⟩ := pw_fnpa hok hq hp
  obtain ⟨a1, a2, a3, a4, a5, a6, a7⟩ := pg_ch hok.1 (n := p) (c := 0) g1 (by omega)
  rw [tr_ch_0] at a1 a3
  have es : tr_se N (pr_ar F pc kd na) q = tr_se N (pr_ar F pc kd na) p := by
    rw [tr_se_ch (n := p) g1, ← hc, tr_ch_s, ← g5]
  exact gz_mv hok hm I (fun _ _ => rfl) (fun t ht => pk_uLn (by omega)) (fa_L_up hp I.2.1) (fa_V_fr hok.1 g1 (fa_V_up hq hp I.2.2.1) (fun k hk => pk_uLn (by omega))) (po_wait hq hp a1 a3 es)
theorem gt_case1 (hok : pr_ok F N pc rt bs kd mk na) (hm : ∀ i, i < e → m i < N) (hq : q < N) (hp : tr_pa N (pr_ar F pc kd na) q = some p) (hk : kd p = 6 ∨ kd p = 7) (h0 : tr_ci N (pr_ar F pc kd na) q = 0) (I : gz_I M F N pc rt bs kd mk na m ps e q (gz_o M F N pc rt bs kd mk na m ps e q (tr_se N (pr_ar F pc kd na) q)) lv nv c) :
    gz_I M F N pc rt bs kd mk na m ps e (tr_se N (pr_ar F pc kd na) q) (gz_o M F N pc rt bs kd mk na m ps e (tr_se N (pr_ar F pc kd na) q) (tr_se N (pr_ar F pc kd na) q)) lv nv c := by
  obtain ⟨g1, g2, g3, g4, g5, g6⟩ := pw_fnpa hok hq hp
  have har := (hok.2.1 p g1).2.2.2.2 hk
  have ec : tr_ch N (pr_ar F pc kd na) p 1 = tr_se N (pr_ar F pc kd na) q := by rw [show (1 : Nat) = 0 + 1 from rfl, tr_ch_s, ← h0, ← g5]
  obtain ⟨a1, a2, a3, a4, a5, a6, a7⟩ := pg_ch hok.1 (n := p) (c := 1) g1 (by omega)
  rw [ec] at a1 a3 a4 a5
  exact gz_mv hok hm I (fun _ _ => rfl) (fun _ _ => rfl) (fa_L_dn a3 (sq_cv0 (Or.inl (by omega))) (fa_L_up hp I.2.1)) (fa_V_dn a1 a3 (fa_V_up hq hp I.2.2.1) (fun h5 => by omega)) (po_sib hq a1 hp a3 (Nat.le_refl _))
theorem gt_caseN (h : pr_in F N pc rt bs kd mk na) (hok : pr_ok F N pc rt bs kd mk na) (hm : ∀ i, i < e → m i < N) (hq : q < N) (hp : tr_pa N (pr_ar F pc kd na) q = some p) (hk : kd p = 6) (h0 : tr_ci N (pr_ar F pc kd na) q = 0) (I : gz_I M F N pc rt bs kd mk na m ps e q (gz_o M F N pc rt bs kd mk na m ps e q (tr_se N (pr_ar F pc kd na) q)) lv nv c) (hK : fa_K N (pr_ar F pc kd na) kd (pr_ag na) (pr_z F bs pc) (pr_et F N pc rt bs kd mk na) (ps e) q v) (hs : sz_sz (pr_et F N pc rt bs kd mk na q) v = sz_sz 0 w + 1) :
    gz_I M F N pc rt bs kd mk na m ps e (tr_se N (pr_ar F pc kd na) (tr_se N (pr_ar F pc kd na) q)) (gz_o M F N pc rt bs kd mk na m ps e (tr_se N (pr_ar F pc kd na) (tr_se N (pr_ar F pc kd na) q)) (tr_se N (pr_ar F pc kd na) (tr_se N (pr_ar F pc kd na) q))) (vp_updL lv (45 * e + sq_sc N (pr_ar F pc kd na) kd (pr_z F bs pc) p) w) nv c := by
  obtain ⟨g1, g2, g3, g4, g5, g6⟩ := pw_fnpa hok hq hp
  obtain ⟨c1, c2, c3, c4⟩ := mk_ch2 hok hq hp (Or.inl hk) h0
  rw [if_pos hk] at c3
  rw [← c1] at c2 c3 c4
  have eq1 : q = p + 1 := by rw [g5, h0, tr_ch_0]
  have g := tr_se_ge (N := N) (ar := (pr_ar F pc kd na)) (tr_se N (pr_ar F pc kd na) q)
  refine gz_mv hok hm I (fun t ht => pk_uLn (by omega)) (fun _ _ => rfl) (fa_L_nat (et := pr_et F N pc rt bs kd mk na) (v := v) (fx_pcl h hok.1) (by omega) c2 (by rw [← eq1]; exact hp) (by rw [← eq1]; exact sq_cv0 (Or.inl (by omega))) c3 (fa_L_up hp I.2.1) (by rw [← eq1]; exact hK) (by rw [← eq1]; exact hs)) (fa_V_dn c4 c2 (fa_V_up hq hp I.2.2.1) (fun h5 => by omega)) (po_sib hq c4 hp c2 g)
theorem gt_caseL (h : pr_in F N pc rt bs kd mk na) (hok : pr_ok F N pc rt bs kd mk na) (hm : ∀ i, i < e → m i < N) (hq : q < N) (hp : tr_pa N (pr_ar F pc kd na) q = some p) (hk : kd p = 7) (h0 : tr_ci N (pr_ar F pc kd na) q = 0) (I : gz_I M F N pc rt bs kd mk na m ps e q (gz_o M F N pc rt bs kd mk na m ps e q (tr_se N (pr_ar F pc kd na) q)) lv nv c) (hK : fa_K N (pr_ar F pc kd na) kd (pr_ag na) (pr_z F bs pc) (pr_et F N pc rt bs kd mk na) (ps e) q v) (hs : sz_sz (pr_et F N pc rt bs kd mk na q) v = sz_sz 1 w' + 1) :
    gz_I M F N pc rt bs kd mk na m ps e (tr_se N (pr_ar F pc kd na) (tr_se N (pr_ar F pc kd na) q)) (gz_o M F N pc rt bs kd mk na m ps e (tr_se N (pr_ar F pc kd na) (tr_se N (pr_ar F pc kd na) q)) (tr_se N (pr_ar F pc kd na) (tr_se N (pr_ar F pc kd na) q))) (vp_updL (vp_updL lv (45 * e + sq_sc N (pr_ar F pc kd na) kd (pr_z F bs pc) p) w) (45 * e + sq_sc N (pr_ar F pc kd na) kd (pr_z F bs pc) p + 1) w') nv c := by
  obtain ⟨g1, g2, g3, g4, g5, g6⟩ := pw_fnpa hok hq hp
  obtain ⟨c1, c2, c3, c4⟩ := mk_ch2 hok hq hp (Or.inr hk) h0
  rw [if_neg (by omega)] at c3
  rw [← c1] at c2 c3 c4
  have eq1 : q = p + 1 := by rw [g5, h0, tr_ch_0]
  have g := tr_se_ge (N := N) (ar := (pr_ar F pc kd na)) (tr_se N (pr_ar F pc kd na) q)
  refine gz_mv hok hm I (fun t ht => by rw [pk_uLn (by omega), pk_uLn (by omega)]) (fun _ _ => rfl) (fa_L_list (et := pr_et F N pc rt bs kd mk na) (v := v) (fx_pcl h hok.1) (by omega) c2 (by rw [← eq1]; exact hp) (by rw [← eq1]; exact sq_cv0 (Or.inl (by omega))) c3 (fa_L_up hp I.2.1) (by rw [← eq1]; exact hK) (by rw [← eq1]; exact hs)) (fa_V_dn c4 c2 (fa_V_up hq hp I.2.2.1) (fun h5 => by omega)) (po_sib hq c4 hp c2 g)
theorem gt_ret {o : Nat} (I : gz_I M F N pc rt bs kd mk na m ps (e + 1) n o lv nv c) : gz_I M F N pc rt bs kd mk na m ps e (m e) (gz_o M F N pc rt bs kd mk na m ps e (m e) (tr_se N (pr_ar F pc kd na) (m e))) lv nv c := by
  obtain ⟨i1, i2, i3, i4, i5⟩ := I
  have s1 : gz_S M F N pc rt bs kd mk na m ps (e + 1) = gz_S M F N pc rt bs kd mk na m ps e + gz_o M F N pc rt bs kd mk na m ps e (m e) (tr_se N (pr_ar F pc kd na) (m e)) := rfl
  rw [s1] at i5
  exact ⟨fun i hi => i1 i (by omega), (i1 e (by omega)).1, (i1 e (by omega)).2, fun i hi => i4 i (by omega), by omega⟩
/-- the main function begins -/
theorem gt_main (h : pr_in F N pc rt bs kd mk na) (hM : M ≤ 12) (hok : pr_ok F N pc rt bs kd mk na) (hnm : pr_nm F N pc bs kd na) {wa lv' : Nat → Int64} (hV : ∀ i, i < pc (F - 1) → vl_V M (pr_pty mk (F - 1) i) (wa i)) (hL : ∀ i, i < pc (F - 1) → lv' i = wa i) (hps : ∀ j, ps 0 j = if j < pc (F - 1) then sz_sz (pr_pty mk (F - 1) j) (wa j) else 0) :
    gz_I M F N pc rt bs kd mk na m ps 0 (bs (F - 1)) (gz_o M F N pc rt bs kd mk na m ps 0 (bs (F - 1)) (bs (F - 1))) lv' nv 1 := by
  have hF : F - 1 < F := by have := hok.1.1; omega
  have hb := (hok.1.2.2.2.2 _ hF).1
  have hN := pg_lastN hok.1 hF
  have hr := pg_root hok.1 hF
  have szM : ∀ j, ps 0 j ≤ M := fun j => by
    rw [hps]
    split
    · rename_i hj
      exact sz_le hM (hV j hj)
    · omega
  have rk1 : rk_r (M + 1) (ps 0) (pc (F - 1)) < pr_L M pc (F - 1) := rk_lt _ (fun i _ => by have := szM i; omega)
  have q2 := po_new (M := M) (r := rk_r (M + 1) (ps 0) (pc (F - 1))) h hok.1 hnm hF
  have q3 := po_le_T (F := F) (N := N) (bs := bs) (kd := kd) (na := na) rk1
  have root := fa_root (kd := kd) (ag := pr_ag na) (z := (pr_z F bs pc)) (pt := pr_pt F bs mk) (et := pr_et F N pc rt bs kd mk na) (ps := ps 0) (lv := lv') (nv := nv) (lb := 45 * 0) (nb := 64 * 0) (show bs (F - 1) < N by omega) hr (fun x hx => by
    have hx' : x < pc (F - 1) := by
      unfold pr_z at hx
      rw [pr_root_fn hok.1 hF] at hx
      exact hx
    show sz_sz (pr_pty mk (pg_fn F bs (bs (F - 1))) x) (lv' (45 * 0 + x)) = ps 0 x
    rw [pr_root_fn hok.1 hF, hps, if_pos hx', show 45 * 0 + x = x by omega, hL x hx'])
  refine ⟨fun i hi => by omega, root.1, root.2, fun i hi j => ?_, ?_⟩
  · rw [show i = 0 by omega]; exact szM j
  · have s0 : gz_S M F N pc rt bs kd mk na m ps 0 = 0 := rfl
    have o1 : gz_o M F N pc rt bs kd mk na m ps 0 (bs (F - 1)) (bs (F - 1)) = po_p F N bs (pr_ar F pc kd na) kd (pr_ag na) (po_w M F N pc bs kd na (F - 1) (rk_r (M + 1) (ps 0) (pc (F - 1)))) (F - 1) (bs (F - 1)) (bs (F - 1)) := rfl
    rw [s0, o1]
    omega
end
