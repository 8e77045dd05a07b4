section
variable {F N M : Nat} {bs ar kd ag z rt : Nat → Nat} {pt gt : Nat → Nat → Nat}
variable {m m' : Nat → Nat} {e n : Nat} {wN wS wN' wS' cn ab cn' ab' : Nat → Int32} {vals env lv nv vals' env' lv' nv' wa : Nat → Int64} {wT vT eT : Nat} {v v' : Int64}
-- types around a node
theorem pw_e2 (h : pw_ok F N bs ar kd ag z pt rt gt) {p q : Nat} (hq : q < N) (hp : tr_pa N ar q = some p) (hk : kd p = 2) : et_et N ar kd rt gt q = 0 ∧ et_et N ar kd rt gt p = 0 := by
  obtain ⟨g1, g2, g3, g4, g5, g6⟩ := pw_fnpa h hq hp
  have t5 := h.2.2.2.2.1 p g1
  unfold et_own at t5
  rw [if_neg (by omega), if_pos (by omega)] at t5
  exact ⟨by rw [et_some hp, if_pos hk], t5.symm⟩
theorem pw_e4 (h : pw_ok F N bs ar kd ag z pt rt gt) {p q : Nat} (hq : q < N) (hp : tr_pa N ar q = some p) (hk : kd p = 4) : et_et N ar kd rt gt q = (if tr_ci N ar q = 0 then 0 else 1) ∧ et_et N ar kd rt gt p = 1 := by
  obtain ⟨g1, g2, g3, g4, g5, g6⟩ := pw_fnpa h hq hp
  have t5 := h.2.2.2.2.1 p g1
  unfold et_own at t5
  rw [if_neg (by omega), if_neg (by omega), if_pos (by omega)] at t5
  exact ⟨by rw [et_some hp, if_neg (by omega), if_pos hk, g6], t5.symm⟩
theorem pw_e67 (h : pw_ok F N bs ar kd ag z pt rt gt) {p q : Nat} (hq : q < N) (hp : tr_pa N ar q = some p) (hk : kd p = 6 ∨ kd p = 7) (hc : tr_ci N ar q = 0) : et_et N ar kd rt gt q = (if kd p = 7 then 1 else 0) := by
  obtain ⟨g1, g2, g3, g4, g5, g6⟩ := pw_fnpa h hq hp
  rw [et_some hp, if_neg (by omega), if_neg (by omega), if_neg (by omega), g6, if_pos hc]
theorem pw_e0 (h : pw_ok F N bs ar kd ag z pt rt gt) {n : Nat} (hn : n < N) (hk : kd n = 0) : et_et N ar kd rt gt n = ty_ty N ar kd z pt n (ag n) := by
  have t5 := h.2.2.2.2.1 n hn
  unfold et_own at t5
  rw [if_pos hk] at t5
  exact t5.symm
theorem pw_e1 (h : pw_ok F N bs ar kd ag z pt rt gt) {n : Nat} (hn : n < N) (hk : kd n = 1) : et_et N ar kd rt gt n = 0 := by
  have t5 := h.2.2.2.2.1 n hn
  unfold et_own at t5
  rw [if_neg (by omega), if_pos (by omega)] at t5
  exact t5.symm
theorem pw_e3 (h : pw_ok F N bs ar kd ag z pt rt gt) {n : Nat} (hn : n < N) (hk : kd n = 3) : et_et N ar kd rt gt n = 1 := by
  have t5 := h.2.2.2.2.1 n hn
  unfold et_own at t5
  rw [if_neg (by omega), if_neg (by omega), if_pos (by omega)] at t5
  exact t5.symm
-- what lies on top
theorem mk_topU (H : mc_U F N M bs ar kd ag z pt rt gt m e n wN wS vals env lv nv cn ab wT vT eT) : wN (wT - 1) = nI n ∧ wS (wT - 1) = 0 ∧ 1 < wT := by
  obtain ⟨hs, h1, h2, h3, h4, h5⟩ := H
  have hp := mc_wb_pos (N := N) (ar := ar) m e
  rw [show wT - 1 = mc_wb N ar m e + mc_td N ar n by omega]
  exact ⟨h1, h2, by omega⟩
theorem mk_topK {q p : Nat} (H : mc_K F N M bs ar kd ag z pt rt gt m e q v wN wS vals env lv nv cn ab wT vT eT) (hp : tr_pa N ar q = some p) : wN (wT - 1) = nI p ∧ wS (wT - 1) = nI (tr_ci N ar q + 1) ∧ 1 < wT := by
  obtain ⟨hs, h1, h2, h3, h4, h5⟩ := H
  have hb := mc_wb_pos (N := N) (ar := ar) m e
  have hwp := hs.2.2.2.2.2.2.2.1 q p (tr_an_self hs.1) hp
  have t1 := mc_td_some hp
  rw [show wT - 1 = mc_wb N ar m e + mc_td N ar p by omega]
  exact ⟨hwp.1, hwp.2, by omega⟩
theorem mk_topR {r : Nat} (H : mc_K F N M bs ar kd ag z pt rt gt m (e + 1) r v wN wS vals env lv nv cn ab wT vT eT) (hp : tr_pa N ar r = none) : wN (wT - 1) = nI (m e) ∧ wS (wT - 1) = nI (ar (m e) + 1) ∧ 1 < wT ∧ m e < N ∧ kd (m e) = 5 ∧ cn (e + 1) = nI (m e) ∧ ab (e + 1) = nI (mc_eb N ar kd z m (e + 1)) := by
  obtain ⟨hs, h1, h2, h3, h4, h5⟩ := H
  obtain ⟨c1, c2, c3, c4, c5, c6, c7, c8⟩ := hs.2.2.2.2.2.2.1 e (by omega)
  have hb := mc_wb_pos (N := N) (ar := ar) m e
  have t1 := mc_td_none (N := N) (ar := ar) hp
  rw [t1, mc_wb] at h1
  rw [show wT - 1 = mc_wb N ar m e + mc_td N ar (m e) by omega]
  exact ⟨c6, c7, by omega, c1, c2, c3, hs.2.2.2.2.1⟩
theorem mk_topM (h : pw_ok F N bs ar kd ag z pt rt gt) {r : Nat} (H : mc_K F N M bs ar kd ag z pt rt gt m 0 r v wN wS vals env lv nv cn ab wT vT eT) (hp : tr_pa N ar r = none) : wN 0 = -1 ∧ wS 0 = 1 ∧ wT = 1 ∧ vT = 1 ∧ vals 0 = v ∧ r = bs (F - 1) := by
  obtain ⟨hs, h1, h2, h3, h4, h5⟩ := H
  have t1 := mc_td_none (N := N) (ar := ar) hp
  have t2 := mc_pn_none (N := N) (ar := ar) (kd := kd) hp
  rw [t1] at h1
  rw [t2] at h2 h4
  have hr : r = bs (F - 1) := by
    rcases pg_case h.1 hs.1 with ⟨g1, g2, g3⟩ | ⟨p', g1, _⟩
    · rw [hs.2.2.2.2.2.1] at g2; exact g2
    · rw [hp] at g1; cases g1
  exact ⟨hs.2.2.1, hs.2.2.2.1, h1, h2, h4, hr⟩
-- room
theorem mk_sm (H : mc_sus F N M bs ar kd ag z pt rt gt m e wN wS vals env lv nv cn ab) : ∀ i, i < e → m i < N := fun i hi => (H i hi).1
theorem mk_roomU (h : pw_ok F N bs ar kd ag z pt rt gt) (H : mc_U F N M bs ar kd ag z pt rt gt m e n wN wS vals env lv nv cn ab wT vT eT) : n < N ∧ e < 16 ∧ wT ≤ 1025 ∧ vT ≤ 1023 ∧ eT ≤ 720 ∧ mc_eb N ar kd z m e ≤ 675 ∧ sq_sc N ar kd z n ≤ 45 := by
  obtain ⟨hs, h1, h2, h3, h4, h5⟩ := H
  have b1 := mc_wb_le h m e (mk_sm hs.2.2.2.2.2.2.1)
  have b2 := mc_vb_le h m e (mk_sm hs.2.2.2.2.2.2.1)
  have b3 := mc_eb_le h m e (mk_sm hs.2.2.2.2.2.2.1)
  have b4 := pw_fit h hs.1
  have b5 := pw_sc45 h hs.1
  have b6 := hs.2.1
  exact ⟨hs.1, b6, by omega, by omega, by omega, by omega, b5⟩
theorem mk_roomK (h : pw_ok F N bs ar kd ag z pt rt gt) (H : mc_K F N M bs ar kd ag z pt rt gt m e n v wN wS vals env lv nv cn ab wT vT eT) : n < N ∧ e < 16 ∧ wT ≤ 1024 ∧ vT ≤ 1024 ∧ eT ≤ 720 ∧ mc_eb N ar kd z m e ≤ 675 ∧ sq_sc N ar kd z n ≤ 45 ∧ 0 < vT := by
  obtain ⟨hs, h1, h2, h3, h4, h5⟩ := H
  have b1 := mc_wb_le h m e (mk_sm hs.2.2.2.2.2.2.1)
  have b2 := mc_vb_le h m e (mk_sm hs.2.2.2.2.2.2.1)
  have b3 := mc_eb_le h m e (mk_sm hs.2.2.2.2.2.2.1)
  have b4 := pw_fit h hs.1
  have b5 := pw_sc45 h hs.1
  have b6 := hs.2.1
  exact ⟨hs.1, b6, by omega, by omega, by omega, by omega, b5, by omega⟩
theorem mk_roomW (h : pw_ok F N bs ar kd ag z pt rt gt) (H : mc_W F N M bs ar kd ag z pt rt gt m e n wa wN wS vals env lv nv cn ab wT vT eT) : n < N ∧ e < 16 ∧ 1 < wT ∧ wT ≤ 1025 ∧ vT ≤ 1026 ∧ eT ≤ 720 ∧ ar n ≤ vT ∧ ag n < F ∧ 1 ≤ ar n ∧ ar n ≤ 3 ∧ wN (wT - 1) = nI n ∧ wS (wT - 1) = nI (ar n) := by
  obtain ⟨hs, hk, h1, h2, h3, h4, h5, h6⟩ := H
  have b0 := mc_wb_pos (N := N) (ar := ar) m e
  have b1 := mc_wb_le h m e (mk_sm hs.2.2.2.2.2.2.1)
  have b2 := mc_vb_le h m e (mk_sm hs.2.2.2.2.2.2.1)
  have b3 := mc_eb_le h m e (mk_sm hs.2.2.2.2.2.2.1)
  have b4 := pw_fit h hs.1
  have b5 := pw_sc45 h hs.1
  have b6 := hs.2.1
  obtain ⟨k1, k2, k3⟩ := h.2.2.2.1 n hs.1 hk
  have k4 := h.2.2.2.2.2 _ k1
  rw [show wT - 1 = mc_wb N ar m e + mc_td N ar n by omega]
  exact ⟨hs.1, b6, by omega, by omega, by omega, by omega, by omega, k1, by omega, by omega, h1, h2⟩
-- cases
theorem mk_case (h : pw_ok F N bs ar kd ag z pt rt gt) {q p c : Nat} (H : mc_K F N M bs ar kd ag z pt rt gt m e q v wN wS vals env lv nv cn ab wT vT eT) (hp : tr_pa N ar q = some p) (hk : kd p = 6 ∨ kd p = 7) (h0 : tr_ci N ar q = 0) (hc : c < 3) (hc0 : c ≠ 0)
    (hE1 : ∀ t, t < eT → env' t = env t) (hL1 : ∀ t, t < 45 * e + sq_sc N ar kd z p → lv' t = lv t)
    (he : ∀ x, sq_sc N ar kd z p ≤ x → x < sq_sc N ar kd z (tr_ch N ar p c) → env' (mc_eb N ar kd z m e + x) = lv' (45 * e + x) ∧ vl_V M (ty_ty N ar kd z pt (tr_ch N ar p c) x) (lv' (45 * e + x))) :
    mc_U F N M bs ar kd ag z pt rt gt m e (tr_ch N ar p c) (upd wN wT (nI (tr_ch N ar p c))) (upd (upd wS (wT - 1) (nI (c + 1))) wT 0) vals env' lv' nv cn ab (wT + 1) (vT - 1) (eT + sq_cv N ar kd p (tr_ch N ar p c)) := by
  obtain ⟨hs, h1, h2, h3, h4, h5⟩ := H
  obtain ⟨g1, g2, g3, g4, g5, g6⟩ := pw_fnpa h hs.1 hp
  have hwp := hs.2.2.2.2.2.2.2.1 q p (tr_an_self hs.1) hp
  have t1 := mc_td_some hp
  have t2 := mc_pn_some (kd := kd) hp
  unfold mc_pw at t2
  rw [if_neg (by omega)] at t2
  have s1 : sq_sc N ar kd z q = sq_sc N ar kd z p := by rw [sq_some hp, sq_cv0 (Or.inl (by omega))]; rfl
  have har := (h.2.1 p g1).2.2.2.2 hk
  obtain ⟨a1, a2, a3, a4, a5, a6, a7⟩ := pg_ch h.1 g1 (c := c) (by omega)
  have s2 := sq_some (kd := kd) (z := z) a3
  have st := mc_st_fr (env' := env') (lv' := lv') h (mc_st_up h hs hp) ⟨fun _ _ => ⟨rfl, rfl⟩, fun _ _ => rfl, fun t ht => hE1 t (by omega), fun t ht => hL1 t ht, fun _ _ => rfl⟩
  exact mk_down h st hwp.1 (by omega) rfl (fun hk2 => by omega) he (by omega) (by rw [if_neg (by omega)]; omega) (by omega)
theorem mk_case1 (h : pw_ok F N bs ar kd ag z pt rt gt) {q p : Nat} (H : mc_K F N M bs ar kd ag z pt rt gt m e q v wN wS vals env lv nv cn ab wT vT eT) (hp : tr_pa N ar q = some p) (hk : kd p = 6 ∨ kd p = 7) (h0 : tr_ci N ar q = 0) :
    mc_U F N M bs ar kd ag z pt rt gt m e (tr_se N ar q) (upd wN wT (nI (tr_se N ar q))) (upd (upd wS (wT - 1) 2) wT 0) vals env lv nv cn ab (wT + 1) (vT - 1) eT := by
  obtain ⟨g1, g2, g3, g4, g5, g6⟩ := pw_fnpa h H.1.1 hp
  have har := (h.2.1 p g1).2.2.2.2 hk
  obtain ⟨a1, a2, a3, a4, a5, a6, a7⟩ := pg_ch h.1 g1 (c := 1) (by omega)
  have e1 : tr_se N ar q = tr_ch N ar p 1 := by rw [tr_ch_s, ← h0, ← g5]
  have c0 : sq_cv N ar kd p (tr_ch N ar p 1) = 0 := sq_cv0 (Or.inl (by omega))
  have s2 := sq_some (kd := kd) (z := z) a3
  have r := mk_case (env' := env) (lv' := lv) (c := 1) h H hp hk h0 (by omega) (by omega) (fun _ _ => rfl) (fun _ _ => rfl) (fun x x1 x2 => by omega)
  rw [c0] at r
  rw [e1]
  exact r
theorem mk_ch2 (h : pw_ok F N bs ar kd ag z pt rt gt) {q p : Nat} (hq : q < N) (hp : tr_pa N ar q = some p) (hk : kd p = 6 ∨ kd p = 7) (h0 : tr_ci N ar q = 0) :
    tr_se N ar (tr_se N ar q) = tr_ch N ar p 2 ∧ tr_pa N ar (tr_ch N ar p 2) = some p ∧ sq_cv N ar kd p (tr_ch N ar p 2) = (if kd p = 6 then 1 else 2) ∧ tr_ch N ar p 2 < N := by
  obtain ⟨g1, g2, g3, g4, g5, g6⟩ := pw_fnpa h hq hp
  have har := (h.2.1 p g1).2.2.2.2 hk
  obtain ⟨a1, a2, a3, a4, a5, a6, a7⟩ := pg_ch h.1 g1 (c := 2) (by omega)
  refine ⟨?_, a3, ?_, a1⟩
  · rw [show (2 : Nat) = 1 + 1 from rfl, tr_ch_s, show (1 : Nat) = 0 + 1 from rfl, tr_ch_s, ← h0, ← g5]
  · unfold sq_cv
    rw [if_pos a5]
    rcases hk with k | k
    · rw [if_pos k, if_pos k]
    · rw [if_neg (by omega), if_pos k, if_neg (by omega)]
theorem mk_caseN (h : pw_ok F N bs ar kd ag z pt rt gt) {q p : Nat} (H : mc_K F N M bs ar kd ag z pt rt gt m e q v wN wS vals env lv nv cn ab wT vT eT) (hp : tr_pa N ar q = some p) (hk : kd p = 6) (h0 : tr_ci N ar q = 0) {w : Int64} (hw : vl_V M 0 w) :
    mc_U F N M bs ar kd ag z pt rt gt m e (tr_se N ar (tr_se N ar q)) (upd wN wT (nI (tr_se N ar (tr_se N ar q)))) (upd (upd wS (wT - 1) 3) wT 0) vals (vp_updL env eT w) (vp_updL lv (45 * e + sq_sc N ar kd z p) w) nv cn ab (wT + 1) (vT - 1) (eT + 1) := by
  obtain ⟨c1, c2, c3, c4⟩ := mk_ch2 h H.1.1 hp (Or.inl hk) h0
  rw [if_pos hk] at c3
  have s1 : sq_sc N ar kd z q = sq_sc N ar kd z p := by
    rw [sq_some hp, sq_cv0 (Or.inl (by have := (pw_fnpa h H.1.1 hp).2.2.2.2.2; omega))]; rfl
  have s2 := sq_some (kd := kd) (z := z) c2
  have hE := H.2.2.2.1
  have r := mk_case (env' := vp_updL env eT w) (lv' := vp_updL lv (45 * e + sq_sc N ar kd z p) w) (c := 2) h H hp (Or.inl hk) h0 (by omega) (by omega) (fun t ht => pk_uLn (by omega)) (fun t ht => pk_uLn (by omega)) (fun x x1 x2 => by
    have ex : x = sq_sc N ar kd z p := by omega
    subst ex
    rw [show mc_eb N ar kd z m e + sq_sc N ar kd z p = eT by omega, pk_uLs, pk_uLs]
    refine ⟨rfl, ?_⟩
    rw [ty_some c2, if_neg (by omega), if_pos rfl]
    exact hw)
  rw [c3] at r
  rw [c1]
  exact r
theorem mk_caseL (h : pw_ok F N bs ar kd ag z pt rt gt) {q p : Nat} (H : mc_K F N M bs ar kd ag z pt rt gt m e q v wN wS vals env lv nv cn ab wT vT eT) (hp : tr_pa N ar q = some p) (hk : kd p = 7) (h0 : tr_ci N ar q = 0) {w w' : Int64} (hw : vl_V M 0 w) (hw' : vl_V M 1 w') :
    mc_U F N M bs ar kd ag z pt rt gt m e (tr_se N ar (tr_se N ar q)) (upd wN wT (nI (tr_se N ar (tr_se N ar q)))) (upd (upd wS (wT - 1) 3) wT 0) vals (vp_updL (vp_updL env eT w) (eT + 1) w') (vp_updL (vp_updL lv (45 * e + sq_sc N ar kd z p) w) (45 * e + sq_sc N ar kd z p + 1) w') nv cn ab (wT + 1) (vT - 1) (eT + 2) := by
  obtain ⟨c1, c2, c3, c4⟩ := mk_ch2 h H.1.1 hp (Or.inr hk) h0
  rw [if_neg (by omega)] at c3
  have s1 : sq_sc N ar kd z q = sq_sc N ar kd z p := by
    rw [sq_some hp, sq_cv0 (Or.inl (by have := (pw_fnpa h H.1.1 hp).2.2.2.2.2; omega))]; rfl
  have s2 := sq_some (kd := kd) (z := z) c2
  have hE := H.2.2.2.1
  have r := mk_case (env' := vp_updL (vp_updL env eT w) (eT + 1) w') (lv' := vp_updL (vp_updL lv (45 * e + sq_sc N ar kd z p) w) (45 * e + sq_sc N ar kd z p + 1) w') (c := 2) h H hp (Or.inr hk) h0 (by omega) (by omega) (fun t ht => by rw [pk_uLn (by omega), pk_uLn (by omega)]) (fun t ht => by rw [pk_uLn (by omega), pk_uLn (by omega)]) (fun x x1 x2 => by
    rw [ty_some c2, if_neg (by omega)]
    rcases (show x = sq_sc N ar kd z p ∨ x = sq_sc N ar kd z p + 1 by omega) with ex | ex
    · subst ex
      have q1 : vp_updL (vp_updL env eT w) (eT + 1) w' eT = w := by rw [pk_uLn (by omega), pk_uLs]
      have q2 : vp_updL (vp_updL lv (45 * e + sq_sc N ar kd z p) w) (45 * e + sq_sc N ar kd z p + 1) w' (45 * e + sq_sc N ar kd z p) = w := by rw [pk_uLn (by omega), pk_uLs]
      rw [show mc_eb N ar kd z m e + sq_sc N ar kd z p = eT by omega, q1, q2, if_pos rfl]
      exact ⟨rfl, hw⟩
    · subst ex
      rw [show mc_eb N ar kd z m e + (sq_sc N ar kd z p + 1) = eT + 1 by omega, ← Nat.add_assoc, pk_uLs, pk_uLs, if_neg (by omega), if_pos rfl]
      exact ⟨rfl, hw'⟩)
  rw [c3] at r
  rw [c1]
  exact r
end
