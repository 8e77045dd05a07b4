section
/-- the program is well shaped, well named and well typed -/
def pw_ok (F N : Nat) (bs ar kd ag z : Nat → Nat) (pt : Nat → Nat → Nat) (rt : Nat → Nat) (gt : Nat → Nat → Nat) : Prop :=
  pg_wf F N bs ar ∧
  (∀ n, n < N → kd n ≤ 7 ∧ (kd n = 0 ∨ kd n = 1 ∨ kd n = 3 → ar n = 0) ∧ (kd n = 2 → ar n = 1) ∧ (kd n = 4 → ar n = 2) ∧ (kd n = 6 ∨ kd n = 7 → ar n = 3)) ∧
  (∀ n, n < N → kd n = 0 → ag n < sq_sc N ar kd z n) ∧
  (∀ n, n < N → kd n = 5 → ag n < F ∧ ar n = z (bs (ag n)) ∧ ∀ c, c < ar n → gt n c = pt (bs (ag n)) c) ∧
  (∀ n, n < N → et_own N ar kd ag z rt gt pt (fun n => rt (bs (ag n))) n = et_et N ar kd rt gt n) ∧
  (∀ f, f < F → 1 ≤ z (bs f) ∧ z (bs f) ≤ 3)
def mc_wb (N : Nat) (ar m : Nat → Nat) : Nat → Nat
  | 0 => 1
  | i + 1 => mc_wb N ar m i + mc_td N ar (m i) + 1
def mc_vb (N : Nat) (ar kd m : Nat → Nat) : Nat → Nat
  | 0 => 0
  | i + 1 => mc_vb N ar kd m i + mc_pn N ar kd (m i)
def mc_eb (N : Nat) (ar kd z m : Nat → Nat) : Nat → Nat
  | 0 => 0
  | i + 1 => mc_eb N ar kd z m i + sq_sc N ar kd z (m i)
def mc_fn (F : Nat) (ag m : Nat → Nat) : Nat → Nat
  | 0 => F - 1
  | i + 1 => ag (m i)
variable {F N M : Nat} {bs ar kd ag z rt : Nat → Nat} {pt gt : Nat → Nat → Nat}
theorem pw_sc45 (h : pw_ok F N bs ar kd ag z pt rt gt) {n : Nat} (hn : n < N) : sq_sc N ar kd z n ≤ 45 := by
  have hb := pg_body h.1 hn
  have h1 := sq_le (kd := kd) (z := z) h.1 n hn
  have h2 := (h.2.2.2.2.2 _ hb.1).2
  have h3 := h.1.2.1
  omega
theorem pw_fit (h : pw_ok F N bs ar kd ag z pt rt gt) {n : Nat} (hn : n < N) : mc_td N ar n + mc_pn N ar kd n ≤ 63 := by
  have hb := pg_body h.1 hn
  have h1 := mc_fit (kd := kd) h.1 n hn
  have h3 := h.1.2.1
  omega
theorem mc_wb_mono (m : Nat → Nat) : ∀ (e i : Nat), i ≤ e → mc_wb N ar m i ≤ mc_wb N ar m e := by
  intro e
  induction e with
  | zero => intro i h; rw [Nat.le_zero.mp h]; exact Nat.le_refl _
  | succ e ih =>
    intro i h
    rcases Nat.eq_or_lt_of_le h with z1 | z1
    · rw [z1]; exact Nat.le_refl _
    · have := ih i (by omega); rw [mc_wb]; omega
theorem mc_vb_mono (m : Nat → Nat) : ∀ (e i : Nat), i ≤ e → mc_vb N ar kd m i ≤ mc_vb N ar kd m e := by
  intro e
  induction e with
  | zero => intro i h; rw [Nat.le_zero.mp h]; exact Nat.le_refl _
  | succ e ih =>
    intro i h
    rcases Nat.eq_or_lt_of_le h with z1 | z1
    · rw [z1]; exact Nat.le_refl _
    · have := ih i (by omega); rw [mc_vb]; omega
theorem mc_eb_mono (m : Nat → Nat) : ∀ (e i : Nat), i ≤ e → mc_eb N ar kd z m i ≤ mc_eb N ar kd z m e := by
  intro e
  induction e with
  | zero => intro i h; rw [Nat.le_zero.mp h]; exact Nat.le_refl _
  | succ e ih =>
    intro i h
    rcases Nat.eq_or_lt_of_le h with z1 | z1
    · rw [z1]; exact Nat.le_refl _
    · have := ih i (by omega); rw [mc_eb]; omega
theorem mc_wb_pos (m : Nat → Nat) (e : Nat) : 1 ≤ mc_wb N ar m e := mc_wb_mono m e 0 (Nat.zero_le e)
theorem mc_wb_le (h : pw_ok F N bs ar kd ag z pt rt gt) (m : Nat → Nat) : ∀ e, (∀ i, i < e → m i < N) → mc_wb N ar m e ≤ 1 + 64 * e := by
  intro e
  induction e with
  | zero => intro _; exact Nat.le_refl _
  | succ e ih =>
    intro hm
    have h1 := ih (fun i hi => hm i (by omega))
    have h2 := pw_fit h (hm e (by omega))
    rw [mc_wb]; omega
theorem mc_vb_le (h : pw_ok F N bs ar kd ag z pt rt gt) (m : Nat → Nat) : ∀ e, (∀ i, i < e → m i < N) → mc_vb N ar kd m e ≤ 64 * e := by
  intro e
  induction e with
  | zero => intro _; exact Nat.le_refl _
  | succ e ih =>
    intro hm
    have h1 := ih (fun i hi => hm i (by omega))
    have h2 := pw_fit h (hm e (by omega))
    rw [mc_vb]; omega
theorem mc_eb_le (h : pw_ok F N bs ar kd ag z pt rt gt) (m : Nat → Nat) : ∀ e, (∀ i, i < e → m i < N) → mc_eb N ar kd z m e ≤ 45 * e := by
  intro e
  induction e with
  | zero => intro _; exact Nat.le_refl _
  | succ e ih =>
    intro hm
    have h1 := ih (fun i hi => hm i (by omega))
    have h2 := pw_sc45 h (hm e (by omega))
    rw [mc_eb]; omega
theorem mc_wb_ext {m m' : Nat → Nat} : ∀ e, (∀ j, j < e → m' j = m j) → mc_wb N ar m' e = mc_wb N ar m e := by
  intro e
  induction e with
  | zero => intro _; rfl
  | succ e ih => intro hm; rw [mc_wb, mc_wb, ih (fun j hj => hm j (by omega)), hm e (by omega)]
theorem mc_vb_ext {m m' : Nat → Nat} : ∀ e, (∀ j, j < e → m' j = m j) → mc_vb N ar kd m' e = mc_vb N ar kd m e := by
  intro e
  induction e with
  | zero => intro _; rfl
  | succ e ih => intro hm; rw [mc_vb, mc_vb, ih (fun j hj => hm j (by omega)), hm e (by omega)]
theorem mc_eb_ext {m m' : Nat → Nat} : ∀ e, (∀ j, j < e → m' j = m j) → mc_eb N ar kd z m' e = mc_eb N ar kd z m e := by
  intro e
  induction e with
  | zero => intro _; rfl
  | succ e ih => intro hm; rw [mc_eb, mc_eb, ih (fun j hj => hm j (by omega)), hm e (by omega)]
theorem mc_fn_ext {m m' : Nat → Nat} (e : Nat) (hm : ∀ j, j < e → m' j = m j) : mc_fn F ag m' e = mc_fn F ag m e := by
  cases e with
  | zero => rfl
  | succ e => rw [mc_fn, mc_fn, hm e (by omega)]
/-- six arrays agree below these places -/
def mc_ag (w v x l k : Nat) (wN wS : Nat → Int32) (vals env lv nv : Nat → Int64) (wN' wS' : Nat → Int32) (vals' env' lv' nv' : Nat → Int64) : Prop :=
  (∀ t, t < w → wN' t = wN t ∧ wS' t = wS t) ∧ (∀ t, t < v → vals' t = vals t) ∧ (∀ t, t < x → env' t = env t) ∧ (∀ t, t < l → lv' t = lv t) ∧ (∀ t, t < k → nv' t = nv t)
/-- the suspended activations 0 .. e - 1, each at its call node m i -/
def mc_sus (F N M : Nat) (bs ar kd ag z : Nat → Nat) (pt : Nat → Nat → Nat) (rt : Nat → Nat) (gt : Nat → Nat → Nat) (m : Nat → Nat) (e : Nat) (wN wS : Nat → Int32) (vals env lv nv : Nat → Int64) (cn ab : Nat → Int32) : Prop :=
  ∀ i, i < e → m i < N ∧ kd (m i) = 5 ∧ cn (i + 1) = nI (m i) ∧ ab i = nI (mc_eb N ar kd z m i) ∧ pg_fn F bs (m i) = mc_fn F ag m i ∧
    wN (mc_wb N ar m i + mc_td N ar (m i)) = nI (m i) ∧ wS (mc_wb N ar m i + mc_td N ar (m i)) = nI (ar (m i) + 1) ∧
    mc_path N M ar kd z pt (et_et N ar kd rt gt) wN wS vals env lv nv (mc_wb N ar m i) (mc_vb N ar kd m i) (mc_eb N ar kd z m i) (45 * i) (64 * i) (m i)
/-- e suspended activations, the running one at node n -/
def mc_st (F N M : Nat) (bs ar kd ag z : Nat → Nat) (pt : Nat → Nat → Nat) (rt : Nat → Nat) (gt : Nat → Nat → Nat) (m : Nat → Nat) (e n : Nat) (wN wS : Nat → Int32) (vals env lv nv : Nat → Int64) (cn ab : Nat → Int32) : Prop :=
  n < N ∧ e < 16 ∧ wN 0 = -1 ∧ wS 0 = 1 ∧ ab e = nI (mc_eb N ar kd z m e) ∧ pg_fn F bs n = mc_fn F ag m e ∧ mc_sus F N M bs ar kd ag z pt rt gt m e wN wS vals env lv nv cn ab ∧
    mc_path N M ar kd z pt (et_et N ar kd rt gt) wN wS vals env lv nv (mc_wb N ar m e) (mc_vb N ar kd m e) (mc_eb N ar kd z m e) (45 * e) (64 * e) n
/-- node n is entered -/
def mc_U (F N M : Nat) (bs ar kd ag z : Nat → Nat) (pt : Nat → Nat → Nat) (rt : Nat → Nat) (gt : Nat → Nat → Nat) (m : Nat → Nat) (e n : Nat) (wN wS : Nat → Int32) (vals env lv nv : Nat → Int64) (cn ab : Nat → Int32) (wT vT eT : Nat) : Prop :=
  mc_st F N M bs ar kd ag z pt rt gt m e n wN wS vals env lv nv cn ab ∧ wN (mc_wb N ar m e + mc_td N ar n) = nI n ∧ wS (mc_wb N ar m e + mc_td N ar n) = 0 ∧ wT = mc_wb N ar m e + mc_td N ar n + 1 ∧ vT = mc_vb N ar kd m e + mc_pn N ar kd n ∧ eT = mc_eb N ar kd z m e + sq_sc N ar kd z n
/-- node n has the value v -/
def mc_K (F N M : Nat) (bs ar kd ag z : Nat → Nat) (pt : Nat → Nat → Nat) (rt : Nat → Nat) (gt : Nat → Nat → Nat) (m : Nat → Nat) (e n : Nat) (v : Int64) (wN wS : Nat → Int32) (vals env lv nv : Nat → Int64) (cn ab : Nat → Int32) (wT vT eT : Nat) : Prop :=
  mc_st F N M bs ar kd ag z pt rt gt m e n wN wS vals env lv nv cn ab ∧ wT = mc_wb N ar m e + mc_td N ar n ∧ vT = mc_vb N ar kd m e + mc_pn N ar kd n + 1 ∧ eT = mc_eb N ar kd z m e + sq_sc N ar kd z n ∧ vals (mc_vb N ar kd m e + mc_pn N ar kd n) = v ∧ vl_V M (et_et N ar kd rt gt n) v
/-- the call n waits to begin, its arguments are wa -/
def mc_W (F N M : Nat) (bs ar kd ag z : Nat → Nat) (pt : Nat → Nat → Nat) (rt : Nat → Nat) (gt : Nat → Nat → Nat) (m : Nat → Nat) (e n : Nat) (wa : Nat → Int64) (wN wS : Nat → Int32) (vals env lv nv : Nat → Int64) (cn ab : Nat → Int32) (wT vT eT : Nat) : Prop :=
  mc_st F N M bs ar kd ag z pt rt gt m e n wN wS vals env lv nv cn ab ∧ kd n = 5 ∧ wN (mc_wb N ar m e + mc_td N ar n) = nI n ∧ wS (mc_wb N ar m e + mc_td N ar n) = nI (ar n) ∧ wT = mc_wb N ar m e + mc_td N ar n + 1 ∧ vT = mc_vb N ar kd m e + mc_pn N ar kd n + ar n ∧ eT = mc_eb N ar kd z m e + sq_sc N ar kd z n ∧
    ∀ i, i < ar n → vals (mc_vb N ar kd m e + mc_pn N ar kd n + i) = wa i ∧ vl_V M (pt (bs (ag n)) i) (wa i)
variable {m m' : Nat → Nat} {e n : Nat} {wN wS wN' wS' cn ab cn' ab' : Nat → Int32} {vals env lv nv vals' env' lv' nv' wa : Nat → Int64} {wT vT eT : Nat}
theorem mc_sus_fr (h : pw_ok F N bs ar kd ag z pt rt gt) (H : mc_sus F N M bs ar kd ag z pt rt gt m e wN wS vals env lv nv cn ab)
    (hg : mc_ag (mc_wb N ar m e) (mc_vb N ar kd m e) (mc_eb N ar kd z m e) (45 * e) (64 * e) wN wS vals env lv nv wN' wS' vals' env' lv' nv')
    (hc : ∀ t, t ≤ e → cn' t = cn t) (ha : ∀ t, t < e → ab' t = ab t) : mc_sus F N M bs ar kd ag z pt rt gt m e wN' wS' vals' env' lv' nv' cn' ab' := by
  intro i hi
  obtain ⟨h1, h2, h3, h4, h5, h6, h7, h8⟩ := H i hi
  obtain ⟨g1, g2, g3, g4, g5⟩ := hg
  have w1 := mc_wb_mono (N := N) (ar := ar) m e (i + 1) (by omega)
  have w2 := mc_vb_mono (N := N) (ar := ar) (kd := kd) m e (i + 1) (by omega)
  have w3 := mc_eb_mono (N := N) (ar := ar) (kd := kd) (z := z) m e (i + 1) (by omega)
  rw [mc_wb] at w1
  rw [mc_vb] at w2
  rw [mc_eb] at w3
  have s45 := pw_sc45 h h1
  have n64 := h.1.2.1
  refine ⟨h1, h2, ?_, ?_, h5, ?_, ?_, ?_⟩
  · rw [hc (i + 1) (by omega)]; exact h3
  · rw [ha i hi]; exact h4
  · rw [(g1 _ (by omega)).1]; exact h6
  · rw [(g1 _ (by omega)).2]; exact h7
  · exact mc_frame h.1 h1 h8 (fun t ht => g1 _ (by omega)) (fun t ht => g2 _ (by omega)) (fun x hx => ⟨g3 _ (by omega), g4 _ (by omega)⟩) (fun k hk => g5 _ (by omega))
theorem mc_sus_ext (H : mc_sus F N M bs ar kd ag z pt rt gt m e wN wS vals env lv nv cn ab) (hm : ∀ j, j < e → m' j = m j) : mc_sus F N M bs ar kd ag z pt rt gt m' e wN wS vals env lv nv cn ab := by
  intro i hi
  have hm' : ∀ j, j < i → m' j = m j := fun j hj => hm j (by omega)
  rw [hm i hi, mc_wb_ext i hm', mc_vb_ext i hm', mc_eb_ext i hm', mc_fn_ext i hm']
  exact H i hi
theorem mc_st_fr (h : pw_ok F N bs ar kd ag z pt rt gt) (H : mc_st F N M bs ar kd ag z pt rt gt m e n wN wS vals env lv nv cn ab)
    (hg : mc_ag (mc_wb N ar m e + mc_td N ar n) (mc_vb N ar kd m e + mc_pn N ar kd n) (mc_eb N ar kd z m e + sq_sc N ar kd z n) (45 * e + sq_sc N ar kd z n) (64 * e + n) wN wS vals env lv nv wN' wS' vals' env' lv' nv') : mc_st F N M bs ar kd ag z pt rt gt m e n wN' wS' vals' env' lv' nv' cn ab := by
  obtain ⟨h1, h2, h3, h4, h5, h6, h7, h8⟩ := H
  obtain ⟨g1, g2, g3, g4, g5⟩ := hg
  have hp := mc_wb_pos (N := N) (ar := ar) m e
  refine ⟨h1, h2, ?_, ?_, h5, h6, mc_sus_fr h h7 ⟨fun t ht => g1 t (by omega), fun t ht => g2 t (by omega), fun t ht => g3 t (by omega), fun t ht => g4 t (by omega), fun t ht => g5 t (by omega)⟩ (fun _ _ => rfl) (fun _ _ => rfl), ?_⟩
  · rw [(g1 0 (by omega)).1]; exact h3
  · rw [(g1 0 (by omega)).2]; exact h4
  · exact mc_frame h.1 h1 h8 (fun t ht => g1 _ (by omega)) (fun t ht => g2 _ (by omega)) (fun x hx => ⟨g3 _ (by omega), g4 _ (by omega)⟩) (fun k hk => g5 _ (by omega))
theorem pw_fnpa (h : pw_ok F N bs ar kd ag z pt rt gt) {q p : Nat} (hq : q < N) (hp : tr_pa N ar q = some p) : p < N ∧ p < q ∧ pg_fn F bs p = pg_fn F bs q ∧ tr_ci N ar q < ar p ∧ q = tr_ch N ar p (tr_ci N ar q) ∧ tr_cx N ar p q = tr_ci N ar q := by
  rcases pg_case h.1 hq with ⟨g1, _⟩ | ⟨p', g1, g2, g3, g4, g5, g6⟩
  · rw [hp] at g1; cases g1
  · rw [hp] at g1
    cases g1
    exact ⟨by omega, g2, g3, g4, g5, g6⟩
theorem mc_st_up (h : pw_ok F N bs ar kd ag z pt rt gt) {q p : Nat} (H : mc_st F N M bs ar kd ag z pt rt gt m e q wN wS vals env lv nv cn ab) (hp : tr_pa N ar q = some p) : mc_st F N M bs ar kd ag z pt rt gt m e p wN wS vals env lv nv cn ab := by
  obtain ⟨h1, h2, h3, h4, h5, h6, h7, h8⟩ := H
  obtain ⟨g1, g2, g3, _⟩ := pw_fnpa h h1 hp
  exact ⟨g1, h2, h3, h4, h5, by rw [g3]; exact h6, h7, mc_up h1 hp h8⟩
theorem mc_st_dn (h : pw_ok F N bs ar kd ag z pt rt gt) {q p : Nat} (H : mc_st F N M bs ar kd ag z pt rt gt m e p wN wS vals env lv nv cn ab) (hq : q < N) (hp : tr_pa N ar q = some p)
    (hw : wN (mc_wb N ar m e + mc_td N ar p) = nI p ∧ wS (mc_wb N ar m e + mc_td N ar p) = nI (tr_ci N ar q + 1))
    (hv : (kd p = 4 ∨ kd p = 5) → ∀ c, c < tr_ci N ar q → vals (mc_vb N ar kd m e + mc_pn N ar kd p + c) = nv (64 * e + tr_ch N ar p c) ∧ vl_V M (et_et N ar kd rt gt (tr_ch N ar p c)) (nv (64 * e + tr_ch N ar p c)))
    (he : ∀ x, sq_sc N ar kd z p ≤ x → x < sq_sc N ar kd z q → env (mc_eb N ar kd z m e + x) = lv (45 * e + x) ∧ vl_V M (ty_ty N ar kd z pt q x) (lv (45 * e + x))) : mc_st F N M bs ar kd ag z pt rt gt m e q wN wS vals env lv nv cn ab := by
  obtain ⟨h1, h2, h3, h4, h5, h6, h7, h8⟩ := H
  obtain ⟨g1, g2, g3, _⟩ := pw_fnpa h hq hp
  exact ⟨hq, h2, h3, h4, h5, by rw [← g3]; exact h6, h7, mc_down h.1 hq hp h8 hw hv he⟩
end
