section
/-- what activation i owes at node n from t on -/
def gz_o (M F N : Nat) (pc rt bs kd : Nat → Nat) (mk na : Nat → Int32) (m : Nat → Nat) (ps : Nat → Nat → Nat) (i n t : Nat) : Nat :=
  po_p F N bs (pr_ar F pc kd na) kd (pr_ag na) (po_w M F N pc bs kd na (mc_fn F (pr_ag na) m i) (rk_r (M + 1) (ps i) (pc (mc_fn F (pr_ag na) m i)))) (mc_fn F (pr_ag na) m i) n t
def gz_S (M F N : Nat) (pc rt bs kd : Nat → Nat) (mk na : Nat → Int32) (m : Nat → Nat) (ps : Nat → Nat → Nat) (e : Nat) : Nat :=
  ps_s (fun i => gz_o M F N pc rt bs kd mk na m ps i (m i) (tr_se N (pr_ar F pc kd na) (m i))) e
/-- sizes ps of the parameters of each activation, the facts of what they hold, and what is owed: c calls are begun -/
def gz_I (M F N : Nat) (pc rt bs kd : Nat → Nat) (mk na : Nat → Int32) (m : Nat → Nat) (ps : Nat → Nat → Nat) (e n o : Nat) (lv nv : Nat → Int64) (c : Nat) : Prop :=
  (∀ i, i < e → fa_L N (pr_ar F pc kd na) kd (pr_ag na) (pr_z F bs pc) (pr_pt F bs mk) (ps i) lv (45 * i) (m i) ∧ fa_V N (pr_ar F pc kd na) kd (pr_ag na) (pr_z F bs pc) (pr_et F N pc rt bs kd mk na) (ps i) nv (64 * i) (m i)) ∧ fa_L N (pr_ar F pc kd na) kd (pr_ag na) (pr_z F bs pc) (pr_pt F bs mk) (ps e) lv (45 * e) n ∧ fa_V N (pr_ar F pc kd na) kd (pr_ag na) (pr_z F bs pc) (pr_et F N pc rt bs kd mk na) (ps e) nv (64 * e) n ∧ (∀ i, i ≤ e → ∀ j, ps i j ≤ M) ∧ c + gz_S M F N pc rt bs kd mk na m ps e + o ≤ pr_T M F N pc bs kd na (F - 1)
variable {M F N k : Nat} {pc rt bs kd : Nat → Nat} {mk na : Nat → Int32}
variable {m m' : Nat → Nat} {ps ps' : Nat → Nat → Nat} {e n n' o o' c : Nat} {lv nv lv' nv' : Nat → Int64}
theorem gz_mv (hok : pr_ok F N pc rt bs kd mk na) (hm : ∀ i, i < e → m i < N) (I : gz_I M F N pc rt bs kd mk na m ps e n o lv nv c) (h1 : ∀ t, t < 45 * e → lv' t = lv t) (h2 : ∀ t, t < 64 * e → nv' t = nv t) (hL : fa_L N (pr_ar F pc kd na) kd (pr_ag na) (pr_z F bs pc) (pr_pt F bs mk) (ps e) lv' (45 * e) n') (hV : fa_V N (pr_ar F pc kd na) kd (pr_ag na) (pr_z F bs pc) (pr_et F N pc rt bs kd mk na) (ps e) nv' (64 * e) n') (ho : o' ≤ o) : gz_I M F N pc rt bs kd mk na m ps e n' o' lv' nv' c := by
  obtain ⟨i1, i2, i3, i4, i5⟩ := I
  have n64 := hok.1.2.1
  refine ⟨fun i hi => ⟨fa_L_fr (i1 i hi).1 (fun x hx => h1 _ ?_), fa_V_fr hok.1 (hm i hi) (i1 i hi).2 (fun k hk => h2 _ ?_)⟩, hL, hV, i4, by omega⟩
  · have := pw_sc45 hok (hm i hi)
    omega
  · have := hm i hi
    omega
theorem gz_S_ext {k : Nat} (hm : ∀ i, i < k → m' i = m i) (hps : ∀ i, i < k → ps' i = ps i) : gz_S M F N pc rt bs kd mk na m' ps' k = gz_S M F N pc rt bs kd mk na m ps k := by
  refine ps_eq k (fun i hi => ?_)
  show gz_o M F N pc rt bs kd mk na m' ps' i (m' i) (tr_se N (pr_ar F pc kd na) (m' i)) = gz_o M F N pc rt bs kd mk na m ps i (m i) (tr_se N (pr_ar F pc kd na) (m i))
  unfold gz_o
  rw [hm i hi, hps i hi, mc_fn_ext i (fun j hj => hm j (by omega))]
/-- a call begins -/
theorem gz_begin (h : pr_in F N pc rt bs kd mk na) (hM : M ≤ 12) (hok : pr_ok F N pc rt bs kd mk na) (hnm : pr_nm F N pc bs kd na) {p : Nat} {wa : Nat → Int64} (hms : ∀ i, i < e → m i < N) (hp : p < N) (hk : kd p = 5) (hf : pg_fn F bs p = mc_fn F (pr_ag na) m e)
    (I : gz_I M F N pc rt bs kd mk na m ps e p (gz_o M F N pc rt bs kd mk na m ps e (p + 1) (tr_se N (pr_ar F pc kd na) p)) lv nv c)
    (hV : ∀ i, i < pr_ar F pc kd na p → vl_V M (pr_pt F bs mk (bs (pr_ag na p)) i) (wa i))
    (hfa : ∀ i, i < pr_ar F pc kd na p → ∀ j k, fx_e N (pr_ar F pc kd na) kd (pr_ag na) (fx_l N (pr_ar F pc kd na) kd (pr_ag na) (pr_z F bs pc) p) (tr_ch N (pr_ar F pc kd na) p i) = some (j, k) → (sz_sz (pr_pt F bs mk (bs (pr_ag na p)) i) (wa i) : Int) + k = ps e j)
    (hd : pr_ag na p = pg_fn F bs p → pr_dn F N pc bs kd na (pg_fn F bs p) p = true)
    (hm : ∀ j, j < e → m' j = m j) (he' : m' e = p) (hps : ∀ i, i < e + 1 → ps' i = ps i) (hps' : ∀ j, ps' (e + 1) j = if j < pc (pr_ag na p) then sz_sz (pr_pt F bs mk (bs (pr_ag na p)) j) (wa j) else 0)
    (hL1 : ∀ t, t < 45 * (e + 1) → lv' t = lv t) (hL2 : ∀ i, i < pr_ar F pc kd na p → lv' (45 * (e + 1) + i) = wa i) :
    c < pr_T M F N pc bs kd na (F - 1) ∧ gz_I M F N pc rt bs kd mk na m' ps' (e + 1) (bs (pr_ag na p)) (gz_o M F N pc rt bs kd mk na m' ps' (e + 1) (bs (pr_ag na p)) (bs (pr_ag na p))) lv' nv (c + 1) := by
  obtain ⟨i1, i2, i3, i4, i5⟩ := I
  obtain ⟨a1, a2, a3⟩ := pr_ar5 hok.1 h hnm hp hk
  have n64 := hok.1.2.1
  have hp3 := h.2.2.1 (pr_ag na p)
  have hp1 := h.2.2.2.1 _ a1
  have hle := ((hnm p hp).2 hk).1
  obtain ⟨c1, c2, c3, c4, c5, c6, c7⟩ := pg_ch hok.1 (n := p) (c := 0) hp (by omega)
  rw [tr_ch_0] at c6
  have hbg := (hok.1.2.2.2.2 _ a1).1
  have hNg := pg_lastN hok.1 a1
  have hrN : bs (pr_ag na p) < N := by omega
  have hr := pg_root hok.1 a1
  have fe1 : mc_fn F (pr_ag na) m' (e + 1) = pr_ag na p := by rw [mc_fn, he']
  have fe : mc_fn F (pr_ag na) m' e = mc_fn F (pr_ag na) m e := mc_fn_ext e hm
  have szM : ∀ j, ps' (e + 1) j ≤ M := fun j => by
    rw [hps']
    split
    · rename_i hj'
      exact sz_le hM (hV j (by omega))
    · omega
  -- ranks
  have rk1 : rk_r (M + 1) (ps' (e + 1)) (pc (pr_ag na p)) < pr_L M pc (pr_ag na p) := rk_lt _ (fun i _ => by have := szM i; omega)
  have rk2 : pr_ag na p < mc_fn F (pr_ag na) m e ∨ (pr_ag na p = mc_fn F (pr_ag na) m e ∧ rk_r (M + 1) (ps' (e + 1)) (pc (pr_ag na p)) < rk_r (M + 1) (ps e) (pc (mc_fn F (pr_ag na) m e))) := by
    rw [hf] at hle
    rcases Nat.eq_or_lt_of_le hle with y | y
    · refine Or.inr ⟨y, ?_⟩
      have dn := hd (by rw [hf]; exact y)
      unfold pr_dn at dn
      rw [hf] at dn
      rw [← y] at dn ⊢
      refine cd_dn_true (b := M + 1) (by omega) (by omega) (fun j => by have := i4 e (Nat.le_refl e) j; omega) (fun j => by have := szM j; omega) (pc (pr_ag na p)) 0 (by omega) (fun q hq j k hq2 => ⟨by have := fx_e_j (z := (pr_z F bs pc)) (fun j => h.2.2.1 _) hq2; omega, ?_⟩) (fun q hq => by omega) dn
      have := hfa q (by omega) j k hq2
      rw [hps', if_pos hq]
      exact this
    · exact Or.inl y
  have q1 := po_begin (F := F) (bs := bs) (ag := pr_ag na) (w := po_w M F N pc bs kd na (mc_fn F (pr_ag na) m e) (rk_r (M + 1) (ps e) (pc (mc_fn F (pr_ag na) m e)))) hp hf hk c6
  have q2 := po_new (M := M) (r := rk_r (M + 1) (ps' (e + 1)) (pc (pr_ag na p))) h hok.1 hnm a1
  have q3 := po_fits (F := F) (N := N) (bs := bs) (kd := kd) (na := na) (f := mc_fn F (pr_ag na) m e) (r := rk_r (M + 1) (ps e) (pc (mc_fn F (pr_ag na) m e))) rk1 rk2
  have s1 : gz_S M F N pc rt bs kd mk na m' ps' (e + 1) = gz_S M F N pc rt bs kd mk na m ps e + gz_o M F N pc rt bs kd mk na m ps e p (tr_se N (pr_ar F pc kd na) p) := by
    have x1 := gz_S_ext (M := M) (F := F) (N := N) (pc := pc) (rt := rt) (bs := bs) (kd := kd) (mk := mk) (na := na) (k := e) hm (fun i hi => hps i (by omega))
    have x2 : gz_S M F N pc rt bs kd mk na m' ps' (e + 1) = gz_S M F N pc rt bs kd mk na m' ps' e + gz_o M F N pc rt bs kd mk na m' ps' e (m' e) (tr_se N (pr_ar F pc kd na) (m' e)) := rfl
    have x3 : gz_o M F N pc rt bs kd mk na m' ps' e (m' e) (tr_se N (pr_ar F pc kd na) (m' e)) = gz_o M F N pc rt bs kd mk na m ps e p (tr_se N (pr_ar F pc kd na) p) := by
      unfold gz_o
      rw [fe, he', hps e (by omega)]
    rw [x2, x1, x3]
  have o1 : gz_o M F N pc rt bs kd mk na m' ps' (e + 1) (bs (pr_ag na p)) (bs (pr_ag na p)) = po_p F N bs (pr_ar F pc kd na) kd (pr_ag na) (po_w M F N pc bs kd na (pr_ag na p) (rk_r (M + 1) (ps' (e + 1)) (pc (pr_ag na p)))) (pr_ag na p) (bs (pr_ag na p)) (bs (pr_ag na p)) := by
    unfold gz_o
    rw [fe1]
  have o2 : gz_o M F N pc rt bs kd mk na m ps e p (tr_se N (pr_ar F pc kd na) p) + po_w M F N pc bs kd na (mc_fn F (pr_ag na) m e) (rk_r (M + 1) (ps e) (pc (mc_fn F (pr_ag na) m e))) (pr_ag na p) ≤ gz_o M F N pc rt bs kd mk na m ps e (p + 1) (tr_se N (pr_ar F pc kd na) p) := q1
  have root := fa_root (kd := kd) (ag := pr_ag na) (z := (pr_z F bs pc)) (pt := pr_pt F bs mk) (et := pr_et F N pc rt bs kd mk na) (ps := ps' (e + 1)) (lv := lv') (nv := nv) (lb := 45 * (e + 1)) (nb := 64 * (e + 1)) hrN hr (fun x hx => by
    have hx' : x < pc (pr_ag na p) := by
      unfold pr_z at hx
      rw [pr_root_fn hok.1 a1] at hx
      exact hx
    rw [hL2 x (by omega), hps', if_pos hx'])
  refine ⟨by omega, fun i hi => ?_, root.1, root.2, fun i hi j => ?_, by rw [s1, o1]; omega⟩
  · rcases Nat.eq_or_lt_of_le (Nat.le_of_lt_succ hi) with y | y
    · subst y
      rw [he', hps i (by omega)]
      refine ⟨fa_L_fr i2 (fun x hx => hL1 _ ?_), i3⟩
      have := pw_sc45 hok hp
      omega
    · rw [hm i y, hps i (by omega)]
      refine ⟨fa_L_fr (i1 i y).1 (fun x hx => hL1 _ ?_), (i1 i y).2⟩
      have := pw_sc45 hok (hms i y)
      omega
  · rcases Nat.eq_or_lt_of_le hi with y | y
    · subst y; exact szM j
    · rw [hps i (by omega)]; exact i4 i (by omega) j
end
