section
variable {F N M : Nat} {bs ar kd ag z rt : Nat → Nat} {pt gt : Nat → Nat → Nat}
variable {m m' : Nat → Nat} {e n : Nat} {wN wS wN' wS' cn ab cn' ab' : Nat → Int32} {vals env lv nv vals' env' lv' nv' wa : Nat → Int64} {wT vT eT : Nat} {v v' : Int64}
theorem sq_cv0 {p q : Nat} (h : tr_cx N ar p q ≠ 2 ∨ (kd p ≠ 6 ∧ kd p ≠ 7)) : sq_cv N ar kd p q = 0 := by
  unfold sq_cv
  rcases h with h | ⟨h1, h2⟩
  · rw [if_neg h]
  · by_cases hx : tr_cx N ar p q = 2
    · rw [if_pos hx, if_neg h1, if_neg h2]
    · rw [if_neg hx]
theorem mk_leaf (h : pw_ok F N bs ar kd ag z pt rt gt) (H : mc_U F N M bs ar kd ag z pt rt gt m e n wN wS vals env lv nv cn ab wT vT eT) (hv : vl_V M (et_et N ar kd rt gt n) v) :
    mc_K F N M bs ar kd ag z pt rt gt m e n v wN wS (vp_updL vals vT v) env lv nv cn ab (wT - 1) (vT + 1) eT := by
  obtain ⟨hs, h1, h2, h3, h4, h5⟩ := H
  refine ⟨mc_st_fr h hs ⟨fun _ _ => ⟨rfl, rfl⟩, fun t ht => pk_uLn (by omega), fun _ _ => rfl, fun _ _ => rfl, fun _ _ => rfl⟩, by omega, by omega, h5, ?_, hv⟩
  rw [← h4]; exact pk_uLs
/-- from a node into its child c -/
theorem mk_down (h : pw_ok F N bs ar kd ag z pt rt gt) {p c q : Nat} (hs : mc_st F N M bs ar kd ag z pt rt gt m e p wN wS vals env lv nv cn ab) (hw : wN (mc_wb N ar m e + mc_td N ar p) = nI p) (hc : c < ar p) (hq : q = tr_ch N ar p c)
    (hv : (kd p = 4 ∨ kd p = 5) → ∀ i, i < c → vals (mc_vb N ar kd m e + mc_pn N ar kd p + i) = nv (64 * e + tr_ch N ar p i) ∧ vl_V M (et_et N ar kd rt gt (tr_ch N ar p i)) (nv (64 * e + tr_ch N ar p i)))
    (he : ∀ x, sq_sc N ar kd z p ≤ x → x < sq_sc N ar kd z q → env (mc_eb N ar kd z m e + x) = lv (45 * e + x) ∧ vl_V M (ty_ty N ar kd z pt q x) (lv (45 * e + x)))
    (hT : wT = mc_wb N ar m e + mc_td N ar p + 1) (hV : vT = mc_vb N ar kd m e + mc_pn N ar kd p + (if kd p = 4 ∨ kd p = 5 then c else 0)) (hE : eT = mc_eb N ar kd z m e + sq_sc N ar kd z q) :
    mc_U F N M bs ar kd ag z pt rt gt m e q (upd wN wT (nI q)) (upd (upd wS (wT - 1) (nI (c + 1))) wT 0) vals env lv nv cn ab (wT + 1) vT eT := by
  subst hq
  obtain ⟨a1, a2, a3, a4, a5, a6, a7⟩ := pg_ch h.1 hs.1 hc
  have t1 := mc_td_some a3
  have t2 := mc_pn_some (kd := kd) a3
  unfold mc_pw at t2
  rw [a5] at t2
  have b1 := mc_st_fr (cn := cn) (ab := ab) (wN' := upd wN wT (nI (tr_ch N ar p c))) (wS' := upd (upd wS (wT - 1) (nI (c + 1))) wT 0) h hs ⟨fun t ht => ⟨pk_un (by omega), by rw [pk_un (by omega), pk_un (by omega)]⟩, fun _ _ => rfl, fun _ _ => rfl, fun _ _ => rfl, fun _ _ => rfl⟩
  have eT1 : mc_wb N ar m e + mc_td N ar p = wT - 1 := by omega
  have eT2 : mc_wb N ar m e + mc_td N ar (tr_ch N ar p c) = wT := by omega
  refine ⟨mc_st_dn h b1 a1 a3 ⟨?_, ?_⟩ ?_ he, ?_, ?_, ?_, ?_, hE⟩
  · rw [pk_un (by omega)]; exact hw
  · rw [a4, eT1, pk_un (by omega)]; exact pk_us
  · intro k i hi; rw [a4] at hi; exact hv k i hi
  · rw [eT2]; exact pk_us
  · rw [eT2]; exact pk_us
  · omega
  · rw [t2, hV]; omega
/-- into the first child -/
theorem mk_first (h : pw_ok F N bs ar kd ag z pt rt gt) (H : mc_U F N M bs ar kd ag z pt rt gt m e n wN wS vals env lv nv cn ab wT vT eT) (ha : 0 < ar n) :
    mc_U F N M bs ar kd ag z pt rt gt m e (n + 1) (upd wN wT (nI (n + 1))) (upd (upd wS (wT - 1) 1) wT 0) vals env lv nv cn ab (wT + 1) vT eT := by
  obtain ⟨hs, h1, h2, h3, h4, h5⟩ := H
  have e0 : n + 1 = tr_ch N ar n 0 := (tr_ch_0 n).symm
  obtain ⟨a1, a2, a3, a4, a5, a6, a7⟩ := pg_ch h.1 hs.1 ha
  rw [← e0] at a3 a5
  have s0 : sq_sc N ar kd z (n + 1) = sq_sc N ar kd z n := by rw [sq_some a3, sq_cv0 (Or.inl (by omega))]; rfl
  exact mk_down h hs h1 ha e0 (fun _ i hi => by omega) (fun x x1 x2 => by omega) h3 (by split <;> omega) (by omega)
/-- a value goes up one node, changed -/
theorem mk_up (h : pw_ok F N bs ar kd ag z pt rt gt) {q p : Nat} (H : mc_K F N M bs ar kd ag z pt rt gt m e q v wN wS vals env lv nv cn ab wT vT eT) (hp : tr_pa N ar q = some p) (hv : vl_V M (et_et N ar kd rt gt p) v') {k : Nat} (hk : k = mc_vb N ar kd m e + mc_pn N ar kd p) (hE : eT = mc_eb N ar kd z m e + sq_sc N ar kd z p) :
    mc_K F N M bs ar kd ag z pt rt gt m e p v' wN wS (vp_updL vals k v') env lv nv cn ab (wT - 1) (k + 1) eT := by
  obtain ⟨hs, h1, h2, h3, h4, h5⟩ := H
  have t1 := mc_td_some hp
  refine ⟨mc_st_fr h (mc_st_up h hs hp) ⟨fun _ _ => ⟨rfl, rfl⟩, fun t ht => pk_uLn (by omega), fun _ _ => rfl, fun _ _ => rfl, fun _ _ => rfl⟩, by omega, by omega, hE, ?_, hv⟩
  rw [← hk]; exact pk_uLs
/-- a value goes up from a branch of a case -/
theorem mk_upc (h : pw_ok F N bs ar kd ag z pt rt gt) {q p : Nat} (H : mc_K F N M bs ar kd ag z pt rt gt m e q v wN wS vals env lv nv cn ab wT vT eT) (hp : tr_pa N ar q = some p) (hk : kd p = 6 ∨ kd p = 7) (hc : tr_ci N ar q ≠ 0) {eT' : Nat} (hE : eT' + sq_cv N ar kd p q = eT) :
    mc_K F N M bs ar kd ag z pt rt gt m e p v wN wS vals env lv nv cn ab (wT - 1) vT eT' := by
  obtain ⟨hs, h1, h2, h3, h4, h5⟩ := H
  obtain ⟨g1, g2, g3, g4, g5, g6⟩ := pw_fnpa h hs.1 hp
  have t1 := mc_td_some hp
  have t2 := mc_pn_some (kd := kd) hp
  unfold mc_pw at t2
  rw [if_neg (by omega)] at t2
  have t3 := sq_some (kd := kd) (z := z) hp
  have t4 := et_some (kd := kd) (rt := rt) (gt := gt) hp
  rw [if_neg (by omega), if_neg (by omega), if_neg (by omega), if_neg (by rw [g6]; exact hc)] at t4
  rw [t4] at h5
  rw [t2] at h4 h2
  exact ⟨mc_st_up h hs hp, by omega, by omega, by omega, h4, h5⟩
/-- to the next child, the value kept -/
theorem mk_keep (h : pw_ok F N bs ar kd ag z pt rt gt) {q p : Nat} (H : mc_K F N M bs ar kd ag z pt rt gt m e q v wN wS vals env lv nv cn ab wT vT eT) (hp : tr_pa N ar q = some p) (hk : kd p = 4 ∨ kd p = 5) :
    ∀ i, i < tr_ci N ar q + 1 → vals (mc_vb N ar kd m e + mc_pn N ar kd p + i) = vp_updL nv (64 * e + q) v (64 * e + tr_ch N ar p i) ∧ vl_V M (et_et N ar kd rt gt (tr_ch N ar p i)) (vp_updL nv (64 * e + q) v (64 * e + tr_ch N ar p i)) := by
  obtain ⟨hs, h1, h2, h3, h4, h5⟩ := H
  obtain ⟨g1, g2, g3, g4, g5, g6⟩ := pw_fnpa h hs.1 hp
  have t2 := mc_ci_pw h.1 hs.1 hp hk
  intro i hi
  rcases Nat.eq_or_lt_of_le (Nat.le_of_lt_succ hi) with z1 | z1
  · have e1 : tr_ch N ar p i = q := by rw [z1]; exact g5.symm
    rw [e1, pk_uLs]
    refine ⟨?_, h5⟩
    rw [← h4, t2, z1, Nat.add_assoc]
  · have hl : tr_ch N ar p i < q := by
      have b1 := pg_ch h.1 g1 (c := i) (by omega)
      have b2 := tr_se_gt (N := N) (ar := ar) b1.1
      rw [← tr_ch_s] at b2
      have b3 := tr_ch_le (N := N) (ar := ar) p (i + 1) (tr_ci N ar q) (by omega)
      omega
    rw [pk_uLn (by omega)]
    exact hs.2.2.2.2.2.2.2.2.1 q p i (tr_an_self hs.1) hp hk z1
theorem mk_next (h : pw_ok F N bs ar kd ag z pt rt gt) {q p : Nat} (H : mc_K F N M bs ar kd ag z pt rt gt m e q v wN wS vals env lv nv cn ab wT vT eT) (hp : tr_pa N ar q = some p) (hk : kd p = 4 ∨ kd p = 5) (hc : tr_ci N ar q + 1 < ar p) :
    mc_U F N M bs ar kd ag z pt rt gt m e (tr_se N ar q) (upd wN wT (nI (tr_se N ar q))) (upd (upd wS (wT - 1) (nI (tr_ci N ar q + 2))) wT 0) vals env lv (vp_updL nv (64 * e + q) v) cn ab (wT + 1) vT eT := by
  have hkeep := mk_keep h H hp hk
  obtain ⟨hs, h1, h2, h3, h4, h5⟩ := H
  obtain ⟨g1, g2, g3, g4, g5, g6⟩ := pw_fnpa h hs.1 hp
  have t1 := mc_td_some hp
  have t2 := mc_ci_pw h.1 hs.1 hp hk
  have hwp := hs.2.2.2.2.2.2.2.1 q p (tr_an_self hs.1) hp
  have eq1 : tr_se N ar q = tr_ch N ar p (tr_ci N ar q + 1) := by
    rw [tr_ch_s, ← g5]
  obtain ⟨a1, a2, a3, a4, a5, a6, a7⟩ := pg_ch h.1 g1 hc
  rw [← eq1] at a1 a2 a3 a4 a5
  have s1 : sq_sc N ar kd z q = sq_sc N ar kd z p := by rw [sq_some hp, sq_cv0 (Or.inr ⟨by omega, by omega⟩)]; rfl
  have s2 : sq_sc N ar kd z (tr_se N ar q) = sq_sc N ar kd z p := by rw [sq_some a3, sq_cv0 (Or.inr ⟨by omega, by omega⟩)]; rfl
  have st := mc_st_fr (nv' := vp_updL nv (64 * e + q) v) h (mc_st_up h hs hp) ⟨fun _ _ => ⟨rfl, rfl⟩, fun _ _ => rfl, fun _ _ => rfl, fun _ _ => rfl, fun t ht => pk_uLn (by omega)⟩
  exact mk_down h st hwp.1 hc eq1 (fun _ => hkeep) (fun x x1 x2 => by omega) (by omega) (by rw [if_pos hk]; omega) (by omega)
/-- the last argument is there: the call waits -/
theorem mk_wait (h : pw_ok F N bs ar kd ag z pt rt gt) {q p : Nat} (H : mc_K F N M bs ar kd ag z pt rt gt m e q v wN wS vals env lv nv cn ab wT vT eT) (hp : tr_pa N ar q = some p) (hk : kd p = 5) (hc : tr_ci N ar q + 1 = ar p)
    (hwa : ∀ i, i < ar p → wa i = vp_updL nv (64 * e + q) v (64 * e + tr_ch N ar p i)) :
    mc_W F N M bs ar kd ag z pt rt gt m e p wa wN wS vals env lv (vp_updL nv (64 * e + q) v) cn ab wT vT eT := by
  have hkeep := mk_keep h H hp (Or.inr hk)
  obtain ⟨hs, h1, h2, h3, h4, h5⟩ := H
  obtain ⟨g1, g2, g3, g4, g5, g6⟩ := pw_fnpa h hs.1 hp
  have t1 := mc_td_some hp
  have t2 := mc_ci_pw h.1 hs.1 hp (Or.inr hk)
  have hwp := hs.2.2.2.2.2.2.2.1 q p (tr_an_self hs.1) hp
  have s1 : sq_sc N ar kd z q = sq_sc N ar kd z p := by rw [sq_some hp, sq_cv0 (Or.inr ⟨by omega, by omega⟩)]; rfl
  refine ⟨mc_st_fr h (mc_st_up h hs hp) ⟨fun _ _ => ⟨rfl, rfl⟩, fun _ _ => rfl, fun _ _ => rfl, fun _ _ => rfl, fun t ht => pk_uLn (by omega)⟩, hk, hwp.1, ?_, by omega, by omega, by omega, ?_⟩
  · rw [hwp.2, hc]
  · intro i hi
    have k1 := hkeep i (by omega)
    rw [hwa i hi]
    refine ⟨k1.1, ?_⟩
    obtain ⟨a1, a2, a3, a4, a5, a6, a7⟩ := pg_ch h.1 g1 hi
    have t4 := et_some (kd := kd) (rt := rt) (gt := gt) a3
    rw [if_neg (by omega), if_neg (by omega), if_pos hk, a5, (h.2.2.2.1 p g1 hk).2.2 i hi] at t4
    rw [← t4]; exact k1.2
/-- the running activation has its value: its caller goes on -/
theorem mk_ret (h : pw_ok F N bs ar kd ag z pt rt gt) {r : Nat} (H : mc_K F N M bs ar kd ag z pt rt gt m (e + 1) r v wN wS vals env lv nv cn ab wT vT eT) (hp : tr_pa N ar r = none) :
    mc_K F N M bs ar kd ag z pt rt gt m e (m e) v wN wS vals env lv nv cn ab (wT - 1) vT (mc_eb N ar kd z m (e + 1)) := by
  obtain ⟨⟨s1, s2, s3, s4, s5, s6, s7, s8⟩, h1, h2, h3, h4, h5⟩ := H
  obtain ⟨c1, c2, c3, c4, c5, c6, c7, c8⟩ := s7 e (by omega)
  have t1 := mc_td_none (N := N) (ar := ar) hp
  have t2 := mc_pn_none (N := N) (ar := ar) (kd := kd) hp
  rw [t1] at h1
  rw [t2] at h2 h4
  rw [mc_wb] at h1
  rw [mc_vb] at h2 h4
  have hr : r = bs (ag (m e)) := by
    rcases pg_case h.1 s1 with ⟨g1, g2, g3⟩ | ⟨p', g1, _⟩
    · rw [s6] at g2; exact g2
    · rw [hp] at g1; cases g1
  have t4 := et_none (kd := kd) (rt := rt) (gt := gt) hp
  have t5 := h.2.2.2.2.1 (m e) c1
  unfold et_own at t5
  rw [if_neg (by omega), if_neg (by omega), if_neg (by omega), if_pos c2] at t5
  refine ⟨⟨c1, by omega, s3, s4, c4, c5, fun i hi => s7 i (by omega), c8⟩, by omega, by omega, rfl, h4, ?_⟩
  rw [← t5]
  show vl_V M (rt (bs (ag (m e)))) v
  rw [← hr, ← t4]; exact h5
/-- a waiting call begins -/
theorem mk_begin (h : pw_ok F N bs ar kd ag z pt rt gt) {p : Nat} (H : mc_W F N M bs ar kd ag z pt rt gt m e p wa wN wS vals env lv nv cn ab wT vT eT) (he : e + 1 < 16) (hm : ∀ j, j < e → m' j = m j) (he' : m' e = p)
    (hE1 : ∀ t, t < eT → env' t = env t) (hE2 : ∀ i, i < ar p → env' (eT + i) = wa i)
    (hL1 : ∀ t, t < 45 * (e + 1) → lv' t = lv t) (hL2 : ∀ i, i < ar p → lv' (45 * (e + 1) + i) = wa i) :
    mc_U F N M bs ar kd ag z pt rt gt m' (e + 1) (bs (ag p)) (upd wN wT (nI (bs (ag p)))) (upd (upd wS (wT - 1) (nI (ar p + 1))) wT 0) vals env' lv' nv (upd cn (e + 1) (nI p)) (upd ab (e + 1) (nI eT)) (wT + 1) (vT - ar p) (eT + ar p) := by
  obtain ⟨⟨s1, s2, s3, s4, s5, s6, s7, s8⟩, hk, h1, h2, h3, h4, h5, h6⟩ := H
  obtain ⟨k1, k2, k3⟩ := h.2.2.2.1 p s1 hk
  have hb := h.1.2.2.2.2 _ k1
  have hN := pg_lastN h.1 k1
  have hr := pg_root h.1 k1
  have hp1 := mc_wb_pos (N := N) (ar := ar) m e
  have n64 := h.1.2.1
  have sc45 := pw_sc45 h s1
  have w1 : mc_wb N ar m' (e + 1) = wT := by
    rw [mc_wb, mc_wb_ext e hm, he']; omega
  have w2 : mc_vb N ar kd m' (e + 1) = mc_vb N ar kd m e + mc_pn N ar kd p := by
    rw [mc_vb, mc_vb_ext e hm, he']
  have w3 : mc_eb N ar kd z m' (e + 1) = eT := by
    rw [mc_eb, mc_eb_ext e hm, he']; omega
  have sus : mc_sus F N M bs ar kd ag z pt rt gt m' (e + 1) (upd wN wT (nI (bs (ag p)))) (upd (upd wS (wT - 1) (nI (ar p + 1))) wT 0) vals env' lv' nv (upd cn (e + 1) (nI p)) (upd ab (e + 1) (nI eT)) := by
    intro i hi
    rcases Nat.eq_or_lt_of_le (Nat.le_of_lt_succ hi) with z1 | z1
    · subst z1
      rw [he', mc_wb_ext i hm, mc_vb_ext i hm, mc_eb_ext i hm, mc_fn_ext i hm]
      refine ⟨s1, hk, pk_us, ?_, s6, ?_, ?_, ?_⟩
      · rw [pk_un (by omega)]; exact s5
      · rw [pk_un (by omega)]; exact h1
      · rw [pk_un (by omega), show mc_wb N ar m i + mc_td N ar p = wT - 1 by omega]; exact pk_us
      · exact mc_frame h.1 s1 s8 (fun t ht => ⟨pk_un (by omega), by rw [pk_un (by omega), pk_un (by omega)]⟩) (fun t ht => rfl) (fun x hx => ⟨hE1 _ (by omega), hL1 _ (by omega)⟩) (fun k hk => rfl)
    · exact mc_sus_ext (mc_sus_fr h s7 ⟨fun t ht => ⟨pk_un (by omega), by rw [pk_un (by omega), pk_un (by omega)]⟩, fun _ _ => rfl, fun t ht => hE1 t (by omega), fun t ht => hL1 t (by omega), fun _ _ => rfl⟩ (fun t ht => pk_un (by omega)) (fun t ht => pk_un (by omega))) hm i z1
  have t1 := mc_td_none (N := N) (ar := ar) hr
  have t2 := mc_pn_none (N := N) (ar := ar) (kd := kd) hr
  have t3 := sq_none (kd := kd) (z := z) hr
  have hrN : bs (ag p) < N := by have := hb.1; omega
  refine ⟨⟨hrN, he, ?_, ?_, ?_, ?_, sus, ?_⟩, ?_, ?_, ?_, ?_, ?_⟩
  · rw [pk_un (by omega)]; exact s3
  · rw [pk_un (by omega), pk_un (by omega)]; exact s4
  · rw [w3]; exact pk_us
  · rw [mc_fn, he']; exact pg_fn_is h.1 k1 (Nat.le_refl _) hb.1
  · refine mc_root hrN hr (fun x hx => ?_)
    rw [w3, hE2 x (by omega), hL2 x (by omega)]
    exact ⟨rfl, (h6 x (by omega)).2⟩
  · rw [w1, t1]; exact pk_us
  · rw [w1, t1]; exact pk_us
  · rw [w1, t1]
  · rw [w2, t2]; omega
  · rw [w3, t3]; omega
/-- the main function begins -/
theorem mk_main (h : pw_ok F N bs ar kd ag z pt rt gt) (hn : wN 0 = -1) (hV : ∀ i, i < z (bs (F - 1)) → vl_V M (pt (bs (F - 1)) i) (wa i))
    (hE2 : ∀ i, i < z (bs (F - 1)) → env' i = wa i) (hL2 : ∀ i, i < z (bs (F - 1)) → lv' i = wa i) :
    mc_U F N M bs ar kd ag z pt rt gt m 0 (bs (F - 1)) (upd wN 1 (nI (bs (F - 1)))) (upd (upd wS 0 1) 1 0) vals env' lv' nv cn (upd ab 0 0) 2 0 (z (bs (F - 1))) := by
  have k1 : F - 1 < F := by have := h.1.1; omega
  have hb := h.1.2.2.2.2 _ k1
  have hN := pg_lastN h.1 k1
  have hr := pg_root h.1 k1
  have t1 := mc_td_none (N := N) (ar := ar) hr
  have t2 := mc_pn_none (N := N) (ar := ar) (kd := kd) hr
  have t3 := sq_none (kd := kd) (z := z) hr
  have hrN : bs (F - 1) < N := by have := hb.1; omega
  refine ⟨⟨hrN, by omega, ?_, ?_, ?_, ?_, fun i hi => by omega, ?_⟩, ?_, ?_, ?_, ?_, ?_⟩
  · rw [pk_un (by omega)]; exact hn
  · rw [pk_un (by omega)]; exact pk_us
  · exact pk_us
  · exact pg_fn_is h.1 k1 (Nat.le_refl _) hb.1
  · refine mc_root hrN hr (fun x hx => ?_)
    show env' (0 + x) = lv' (0 + x) ∧ vl_V M _ (lv' (0 + x))
    rw [Nat.zero_add, hE2 x hx, hL2 x hx]
    exact ⟨rfl, hV x hx⟩
  · rw [t1]; exact pk_us
  · rw [t1]; exact pk_us
  · rw [t1]; rfl
  · rw [t2]; rfl
  · rw [t3]; exact (Nat.zero_add _).symm
end
