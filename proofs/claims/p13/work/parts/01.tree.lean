section
def tr_sk (ar : Nat → Nat) : Nat → Nat → Nat → Nat
  | 0, _, j => j
  | t + 1, d, j => if d = 0 then j else tr_sk ar t (d - 1 + ar j) (j + 1)
/-- where d trees that begin at j end, cut at N -/
def tr_skip (N : Nat) (ar : Nat → Nat) (d j : Nat) : Nat := tr_sk ar (N - j) d j
def tr_se (N : Nat) (ar : Nat → Nat) (j : Nat) : Nat := tr_skip N ar 1 j
def tr_ch (N : Nat) (ar : Nat → Nat) (n c : Nat) : Nat := tr_skip N ar c (n + 1)
/-- t nodes from j on are exactly d trees -/
def tr_shp (ar : Nat → Nat) : Nat → Nat → Nat → Prop
  | 0, d, _ => d = 0
  | t + 1, d, j => d ≠ 0 ∧ tr_shp ar t (d - 1 + ar j) (j + 1)
def tr_pd (N : Nat) (ar : Nat → Nat) (j : Nat) : Nat → Option Nat
  | 0 => none
  | i + 1 => if j < tr_se N ar i then some i else tr_pd N ar j i
def tr_pa (N : Nat) (ar : Nat → Nat) (j : Nat) : Option Nat := tr_pd N ar j j
def tr_cx (N : Nat) (ar : Nat → Nat) (p j : Nat) : Nat :=
  if tr_ch N ar p 0 = j then 0 else if tr_ch N ar p 1 = j then 1 else if tr_ch N ar p 2 = j then 2 else 3
def tr_ci (N : Nat) (ar : Nat → Nat) (j : Nat) : Nat := match tr_pa N ar j with
  | none => 0
  | some p => tr_cx N ar p j
def tr_an (N : Nat) (ar : Nat → Nat) (a n : Nat) : Prop := a ≤ n ∧ n < tr_se N ar a
variable {N : Nat} {ar : Nat → Nat}
theorem tr_sk_ge : ∀ (t d j : Nat), j ≤ tr_sk ar t d j
  | 0, _, j => Nat.le_refl j
  | t + 1, d, j => by
    rw [tr_sk]
    split
    · exact Nat.le_refl j
    · have := tr_sk_ge t (d - 1 + ar j) (j + 1); omega
theorem tr_sk_le : ∀ (t d j : Nat), tr_sk ar t d j ≤ j + t
  | 0, _, j => Nat.le_refl j
  | t + 1, d, j => by
    rw [tr_sk]
    split
    · omega
    · have := tr_sk_le t (d - 1 + ar j) (j + 1); omega
theorem tr_skip_0 (j : Nat) : tr_skip N ar 0 j = j := by
  unfold tr_skip
  cases N - j with
  | zero => rfl
  | succ t => rw [tr_sk, if_pos rfl]
theorem tr_skip_N (d : Nat) {j : Nat} (h : N ≤ j) : tr_skip N ar d j = j := by
  unfold tr_skip
  rw [show N - j = 0 by omega]; rfl
theorem tr_skip_s (d : Nat) {j : Nat} (h : j < N) : tr_skip N ar (d + 1) j = tr_skip N ar (d + ar j) (j + 1) := by
  unfold tr_skip
  rw [show N - j = (N - (j + 1)) + 1 by omega, tr_sk, if_neg (by omega)]
  rfl
theorem tr_skip_ge (d j : Nat) : j ≤ tr_skip N ar d j := tr_sk_ge _ _ _
theorem tr_skip_le (d : Nat) {j : Nat} (h : j ≤ N) : tr_skip N ar d j ≤ N := by
  have := tr_sk_le (ar := ar) (N - j) d j
  unfold tr_skip; omega
theorem tr_add : ∀ (t a b j : Nat), N - j ≤ t → tr_skip N ar (a + b) j = tr_skip N ar b (tr_skip N ar a j) := by
  intro t
  induction t with
  | zero =>
    intro a b j h
    rw [tr_skip_N (a + b) (by omega), tr_skip_N a (by omega), tr_skip_N b (by omega)]
  | succ t ih =>
    intro a b j h
    cases a with
    | zero => rw [Nat.zero_add, tr_skip_0]
    | succ a =>
      rcases Nat.lt_or_ge j N with hj | hj
      · rw [show a + 1 + b = (a + b) + 1 by omega, tr_skip_s _ hj, tr_skip_s _ hj, show a + b + ar j = (a + ar j) + b by omega]
        exact ih _ _ _ (by omega)
      · rw [tr_skip_N _ hj, tr_skip_N _ hj, tr_skip_N _ hj]
theorem tr_ch_0 (n : Nat) : tr_ch N ar n 0 = n + 1 := tr_skip_0 _
theorem tr_ch_s (n c : Nat) : tr_ch N ar n (c + 1) = tr_se N ar (tr_ch N ar n c) := tr_add _ c 1 (n + 1) (Nat.le_refl _)
theorem tr_se_ch {n : Nat} (h : n < N) : tr_se N ar n = tr_ch N ar n (ar n) := by
  unfold tr_se tr_ch
  rw [show (1 : Nat) = 0 + 1 from rfl, tr_skip_s 0 h, Nat.zero_add]
theorem tr_se_gt {n : Nat} (h : n < N) : n < tr_se N ar n := by
  have := tr_skip_ge (N := N) (ar := ar) (ar n) (n + 1)
  rw [tr_se_ch h]; unfold tr_ch; omega
theorem tr_se_N {n : Nat} (h : N ≤ n) : tr_se N ar n = n := tr_skip_N _ h
theorem tr_se_le {n : Nat} (h : n ≤ N) : tr_se N ar n ≤ N := tr_skip_le _ h
theorem tr_se_ge (n : Nat) : n ≤ tr_se N ar n := tr_skip_ge _ _
theorem tr_in : ∀ (t d j n : Nat), N - j ≤ t → j ≤ n → n < tr_skip N ar d j → tr_se N ar n ≤ tr_skip N ar d j := by
  intro t
  induction t with
  | zero =>
    intro d j n h h1 h2
    rw [tr_skip_N d (by omega)] at h2
    omega
  | succ t ih =>
    intro d j n h h1 h2
    rcases Nat.lt_or_ge j N with hj | hj
    · cases d with
      | zero => rw [tr_skip_0] at h2; omega
      | succ d =>
        rcases Nat.eq_or_lt_of_le h1 with e | e
        · subst e
          rw [show d + 1 = 1 + d by omega, tr_add _ 1 d j (Nat.le_refl _)]
          exact tr_skip_ge _ _
        · rw [tr_skip_s _ hj] at h2 ⊢
          exact ih _ _ _ (by omega) e h2
    · rw [tr_skip_N d hj] at h2; omega
theorem tr_in_se {a n : Nat} (h1 : a ≤ n) (h2 : n < tr_se N ar a) : tr_se N ar n ≤ tr_se N ar a := tr_in _ 1 a n (Nat.le_refl _) h1 h2
theorem tr_ch_ge (n c : Nat) : n + 1 ≤ tr_ch N ar n c := tr_skip_ge _ _
theorem tr_ch_le (n : Nat) : ∀ (c d : Nat), c ≤ d → tr_ch N ar n c ≤ tr_ch N ar n d := by
  intro c d h
  unfold tr_ch
  rw [show d = c + (d - c) by omega, tr_add _ c (d - c) (n + 1) (Nat.le_refl _)]
  exact tr_skip_ge _ _
-- shapes
theorem tr_shp_end : ∀ (t d j : Nat), tr_shp ar t d j → j + t ≤ N → tr_skip N ar d j = j + t := by
  intro t
  induction t with
  | zero => intro d j h _; rw [show d = 0 from h, tr_skip_0]; rfl
  | succ t ih =>
    intro d j h hN
    obtain ⟨h0, h1⟩ := h
    rw [show d = (d - 1) + 1 by omega, tr_skip_s _ (by omega), ih _ _ h1 (by omega)]; omega
theorem tr_shp_lt : ∀ (t d j a : Nat), tr_shp ar t d j → j + t ≤ N → a < d → tr_skip N ar a j < j + t := by
  intro t
  induction t with
  | zero => intro d j a h _ ha; rw [show d = 0 from h] at ha; omega
  | succ t ih =>
    intro d j a h hN ha
    obtain ⟨h0, h1⟩ := h
    cases a with
    | zero => rw [tr_skip_0]; omega
    | succ a =>
      rw [tr_skip_s _ (by omega)]
      have := ih _ _ (a + ar j) h1 (by omega) (by omega)
      omega
theorem tr_shp_fst : ∀ (t d j a : Nat), tr_shp ar t d j → j + t ≤ N → a ≤ d → tr_shp ar (tr_skip N ar a j - j) a j := by
  intro t
  induction t with
  | zero =>
    intro d j a h _ ha
    rw [show d = 0 from h] at ha
    rw [show a = 0 by omega, tr_skip_0, Nat.sub_self]
    exact rfl
  | succ t ih =>
    intro d j a h hN ha
    obtain ⟨h0, h1⟩ := h
    cases a with
    | zero => rw [tr_skip_0, Nat.sub_self]; exact rfl
    | succ a =>
      have g := tr_skip_ge (N := N) (ar := ar) (a + ar j) (j + 1)
      rw [tr_skip_s _ (by omega), show tr_skip N ar (a + ar j) (j + 1) - j = (tr_skip N ar (a + ar j) (j + 1) - (j + 1)) + 1 by omega]
      refine ⟨by omega, ?_⟩
      rw [show a + 1 - 1 + ar j = a + ar j by omega]
      exact ih _ _ _ h1 (by omega) (by omega)
theorem tr_shp_sub : ∀ (t d j n : Nat), tr_shp ar t d j → j + t ≤ N → j ≤ n → n < j + t → tr_shp ar (tr_se N ar n - n) 1 n := by
  intro t
  induction t with
  | zero => intro d j n _ _ h1 h2; omega
  | succ t ih =>
    intro d j n h hN h1 h2
    rcases Nat.eq_or_lt_of_le h1 with e | e
    · subst e
      have h0 : d ≠ 0 := h.1
      exact tr_shp_fst _ d j 1 h hN (by omega)
    · exact ih _ _ _ h.2 (by omega) e (by omega)
/-- the region [s, e) is one whole tree -/
def tr_wf (ar : Nat → Nat) (s e : Nat) : Prop := s < e ∧ tr_shp ar (e - s) 1 s
theorem tr_wf_se {s e : Nat} (h : tr_wf ar s e) (hN : e ≤ N) : tr_se N ar s = e := by
  have := tr_shp_end (N := N) _ _ _ h.2 (by have := h.1; omega)
  unfold tr_se; rw [this]; have := h.1; omega
theorem tr_wf_in {s e n : Nat} (h : tr_wf ar s e) (hN : e ≤ N) (h1 : s ≤ n) (h2 : n < e) : tr_se N ar n ≤ e := by
  rw [← tr_wf_se h hN]; exact tr_in_se h1 (by rw [tr_wf_se h hN]; exact h2)
theorem tr_wf_ch {s e n c : Nat} (h : tr_wf ar s e) (hN : e ≤ N) (h1 : s ≤ n) (h2 : n < e) (hc : c < ar n) : tr_ch N ar n c < tr_se N ar n := by
  have hs := tr_shp_sub (N := N) _ _ _ n h.2 (by have := h.1; omega) h1 (by omega)
  have hg := tr_se_gt (N := N) (ar := ar) (n := n) (by omega)
  have hl := tr_se_le (N := N) (ar := ar) (n := n) (by omega)
  rw [show tr_se N ar n - n = (tr_se N ar n - (n + 1)) + 1 by omega] at hs
  have h3 := tr_shp_lt (N := N) _ _ _ c hs.2 (by omega) (by omega)
  unfold tr_ch; omega
theorem tr_wf_ch_lt {s e n c : Nat} (h : tr_wf ar s e) (hN : e ≤ N) (h1 : s ≤ n) (h2 : n < e) (hc : c < ar n) : tr_ch N ar n c < tr_ch N ar n (c + 1) := by
  have h3 := tr_wf_ch h hN h1 h2 hc
  have h4 := tr_wf_in h hN h1 h2
  rw [tr_ch_s]; exact tr_se_gt (by omega)
-- parents
theorem tr_pd_some : ∀ (k j p : Nat), tr_pd N ar j k = some p → p < k ∧ j < tr_se N ar p ∧ ∀ i, p < i → i < k → tr_se N ar i ≤ j := by
  intro k
  induction k with
  | zero => intro j p h; cases h
  | succ k ih =>
    intro j p h
    rw [tr_pd] at h
    split at h
    · rename_i hk
      cases h
      exact ⟨by omega, hk, fun i h1 h2 => by omega⟩
    · rename_i hk
      obtain ⟨h1, h2, h3⟩ := ih _ _ h
      refine ⟨by omega, h2, fun i hi hik => ?_⟩
      rcases Nat.eq_or_lt_of_le (Nat.le_of_lt_succ hik) with e | e
      · subst e; omega
      · exact h3 i hi e
theorem tr_pd_none : ∀ (k j : Nat), tr_pd N ar j k = none → ∀ i, i < k → tr_se N ar i ≤ j := by
  intro k
  induction k with
  | zero => intro j _ i hi; omega
  | succ k ih =>
    intro j h i hi
    rw [tr_pd] at h
    split at h
    · cases h
    · rename_i hk
      rcases Nat.eq_or_lt_of_le (Nat.le_of_lt_succ hi) with e | e
      · subst e; omega
      · exact ih _ h i e
theorem tr_pa_some {j p : Nat} (h : tr_pa N ar j = some p) : p < j ∧ j < tr_se N ar p ∧ ∀ i, p < i → i < j → tr_se N ar i ≤ j := tr_pd_some _ _ _ h
theorem tr_pa_none {j : Nat} (h : tr_pa N ar j = none) : ∀ i, i < j → tr_se N ar i ≤ j := tr_pd_none _ _ h
theorem tr_pa_mk {j p : Nat} (h1 : p < j) (h2 : j < tr_se N ar p) (h3 : ∀ i, p < i → i < j → tr_se N ar i ≤ j) : tr_pa N ar j = some p := by
  cases h : tr_pa N ar j with
  | none => have := tr_pa_none h p h1; omega
  | some q =>
    obtain ⟨g1, g2, g3⟩ := tr_pa_some h
    rcases Nat.lt_trichotomy p q with e | e | e
    · have := h3 q e g1; omega
    · rw [e]
    · have := g3 p e h1; omega
theorem tr_pa_no {j : Nat} (h : ∀ i, i < j → tr_se N ar i ≤ j) : tr_pa N ar j = none := by
  cases e : tr_pa N ar j with
  | none => rfl
  | some q =>
    obtain ⟨g1, g2, _⟩ := tr_pa_some e
    have := h q g1; omega
theorem tr_pa_ch {s e n c : Nat} (h : tr_wf ar s e) (hN : e ≤ N) (h1 : s ≤ n) (h2 : n < e) (hc : c < ar n) : tr_pa N ar (tr_ch N ar n c) = some n := by
  refine tr_pa_mk ?_ (tr_wf_ch h hN h1 h2 hc) ?_
  · have := tr_ch_ge (N := N) (ar := ar) n c; omega
  · intro i hi hj
    exact tr_in _ c (n + 1) i (Nat.le_refl _) hi hj
theorem tr_find (n j : Nat) (h : n < j) : ∀ k, j < tr_ch N ar n k → ∃ c, c < k ∧ tr_ch N ar n c ≤ j ∧ j < tr_ch N ar n (c + 1) := by
  intro k
  induction k with
  | zero => intro hk; rw [tr_ch_0] at hk; omega
  | succ k ih =>
    intro hk
    rcases Nat.lt_or_ge j (tr_ch N ar n k) with e | e
    · obtain ⟨c, hc, h1, h2⟩ := ih e
      exact ⟨c, by omega, h1, h2⟩
    · exact ⟨k, by omega, e, hk⟩
theorem tr_pa_is {j p : Nat} (hp : p < N) (h : tr_pa N ar j = some p) : ∃ c, c < ar p ∧ j = tr_ch N ar p c := by
  obtain ⟨h1, h2, h3⟩ := tr_pa_some h
  obtain ⟨c, hc, g1, g2⟩ := tr_find p j h1 (ar p) (by rw [← tr_se_ch hp]; exact h2)
  refine ⟨c, hc, ?_⟩
  rcases Nat.eq_or_lt_of_le g1 with e | e
  · exact e.symm
  · have := h3 (tr_ch N ar p c) (by have := tr_ch_ge (N := N) (ar := ar) p c; omega) e
    rw [← tr_ch_s] at this; omega
theorem tr_pa_in {s e j : Nat} (h : tr_wf ar s e) (hN : e ≤ N) (h1 : s < j) (h2 : j < e) : ∃ p, tr_pa N ar j = some p ∧ s ≤ p ∧ p < j := by
  cases hp : tr_pa N ar j with
  | none => have := tr_pa_none hp s h1; rw [tr_wf_se h hN] at this; omega
  | some p =>
    obtain ⟨g1, g2, g3⟩ := tr_pa_some hp
    refine ⟨p, rfl, ?_, g1⟩
    rcases Nat.lt_or_ge p s with e' | e'
    · have := g3 s e' h1; rw [tr_wf_se h hN] at this; omega
    · exact e'
theorem tr_cx_ch {s e n c : Nat} (h : tr_wf ar s e) (hN : e ≤ N) (h1 : s ≤ n) (h2 : n < e) (hc : c < ar n) (h3 : ar n ≤ 3) : tr_cx N ar n (tr_ch N ar n c) = c := by
  have m : ∀ a b, a < b → b < ar n → tr_ch N ar n a < tr_ch N ar n b := fun a b hab hb => by
    have := tr_wf_ch_lt h hN h1 h2 (c := a) (by omega)
    have := tr_ch_le (N := N) (ar := ar) n (a + 1) b (by omega)
    omega
  unfold tr_cx
  rcases (show c = 0 ∨ c = 1 ∨ c = 2 by omega) with e | e | e <;> subst e
  · rw [if_pos rfl]
  · rw [if_neg (by have := m 0 1 (by omega) hc; omega), if_pos rfl]
  · rw [if_neg (by have := m 0 2 (by omega) hc; omega), if_neg (by have := m 1 2 (by omega) hc; omega), if_pos rfl]
theorem tr_ci_ch {s e n c : Nat} (h : tr_wf ar s e) (hN : e ≤ N) (h1 : s ≤ n) (h2 : n < e) (hc : c < ar n) (h3 : ar n ≤ 3) : tr_ci N ar (tr_ch N ar n c) = c := by
  unfold tr_ci
  rw [tr_pa_ch h hN h1 h2 hc]
  exact tr_cx_ch h hN h1 h2 hc h3
/-- a node below the root: its parent, its place there -/
theorem tr_pa_ci {s e j : Nat} (h : tr_wf ar s e) (hN : e ≤ N) (ha : ∀ n, ar n ≤ 3) (h1 : s < j) (h2 : j < e) :
    ∃ p, tr_pa N ar j = some p ∧ s ≤ p ∧ p < j ∧ tr_ci N ar j < ar p ∧ j = tr_ch N ar p (tr_ci N ar j) := by
  obtain ⟨p, hp, g1, g2⟩ := tr_pa_in h hN h1 h2
  obtain ⟨c, hc, e1⟩ := tr_pa_is (by omega) hp
  have e2 := tr_ci_ch h hN g1 (by omega) hc (ha p)
  rw [← e1] at e2
  exact ⟨p, hp, g1, g2, by rw [e2]; exact hc, by rw [e2]; exact e1⟩
-- ancestors
theorem tr_an_self {n : Nat} (h : n < N) : tr_an N ar n n := ⟨Nat.le_refl n, tr_se_gt h⟩
theorem tr_an_pa {p q a : Nat} (hq : q < N) (h : tr_pa N ar q = some p) : tr_an N ar a q ↔ (a = q ∨ tr_an N ar a p) := by
  obtain ⟨h1, h2, h3⟩ := tr_pa_some h
  constructor
  · rintro ⟨g1, g2⟩
    rcases Nat.eq_or_lt_of_le g1 with e | e
    · exact Or.inl e
    · refine Or.inr ⟨?_, by omega⟩
      rcases Nat.lt_or_ge p a with z | z
      · have := h3 a z e; omega
      · exact z
  · rintro (e | ⟨g1, g2⟩)
    · subst e; exact tr_an_self hq
    · have := tr_in_se g1 g2
      exact ⟨by omega, by omega⟩
theorem tr_an_root {q a : Nat} (hq : q < N) (h : tr_pa N ar q = none) : tr_an N ar a q ↔ a = q := by
  constructor
  · rintro ⟨g1, g2⟩
    rcases Nat.eq_or_lt_of_le g1 with e | e
    · exact e
    · have := tr_pa_none h a e; omega
  · intro e; subst e; exact tr_an_self hq
theorem tr_an_tr {a b c : Nat} (h1 : tr_an N ar a b) (h2 : tr_an N ar b c) : tr_an N ar a c := by
  have := tr_in_se h1.1 h1.2
  exact ⟨Nat.le_trans h1.1 h2.1, by have := h2.2; omega⟩
-- folds along the way up
def tr_up {α : Type} (N : Nat) (ar : Nat → Nat) (z : Nat → α) (w : Nat → Nat → α → α) : Nat → Nat → α
  | 0, j => z j
  | t + 1, j => match tr_pa N ar j with
    | none => z j
    | some p => w p j (tr_up N ar z w t p)
def tr_fold {α : Type} (N : Nat) (ar : Nat → Nat) (z : Nat → α) (w : Nat → Nat → α → α) (j : Nat) : α := tr_up N ar z w j j
theorem tr_up_eq {α : Type} (z : Nat → α) (w : Nat → Nat → α → α) : ∀ (t s j : Nat), j ≤ t → j ≤ s → tr_up N ar z w t j = tr_up N ar z w s j := by
  intro t
  induction t with
  | zero =>
    intro s j h1 h2
    have e : j = 0 := by omega
    subst e
    cases s <;> rfl
  | succ t ih =>
    intro s j h1 h2
    cases s with
    | zero =>
      have e : j = 0 := by omega
      subst e
      rfl
    | succ s =>
      rw [tr_up, tr_up]
      cases h : tr_pa N ar j with
      | none => rfl
      | some p =>
        have hp := (tr_pa_some h).1
        show w p j _ = w p j _
        rw [ih s p (by omega) (by omega)]
theorem tr_fold_none {α : Type} {z : Nat → α} {w : Nat → Nat → α → α} {j : Nat} (h : tr_pa N ar j = none) : tr_fold N ar z w j = z j := by
  unfold tr_fold
  cases j with
  | zero => rfl
  | succ j => rw [tr_up, h]
theorem tr_fold_some {α : Type} {z : Nat → α} {w : Nat → Nat → α → α} {j p : Nat} (h : tr_pa N ar j = some p) : tr_fold N ar z w j = w p j (tr_fold N ar z w p) := by
  have hp := (tr_pa_some h).1
  cases j with
  | zero => omega
  | succ j =>
    unfold tr_fold
    rw [tr_up_eq z w p j p (by omega) (by omega), tr_up, h]
end
