section
theorem ps_split (g : Nat → Nat) (a : Nat) : ∀ b, ps_s g (a + b) = ps_s g a + ps_s (fun i => g (a + i)) b
  | 0 => rfl
  | b + 1 => by
    rw [← Nat.add_assoc, ps_s, ps_split g a b, ps_s]
    omega
theorem ps_front (g : Nat → Nat) (n t : Nat) : ps_s (fun i => g (n + i)) (t + 1) = g n + ps_s (fun i => g (n + 1 + i)) t := by
  rw [Nat.add_comm t 1, ps_split (fun i => g (n + i)) 1 t]
  have h1 : ps_s (fun i => g (n + i)) 1 = g n := by
    show 0 + g (n + 0) = g n
    rw [Nat.zero_add, Nat.add_zero]
  rw [h1]
  exact congrArg (fun q => g n + q) (ps_eq t (fun i _ => by rw [Nat.add_assoc]))
/-- what the call node c still owes: the calls from t on, and those that the node n lies in -/
def po_t (F N : Nat) (bs ar kd ag : Nat → Nat) (w : Nat → Nat) (f n t c : Nat) : Nat := if pg_fn F bs c = f ∧ kd c = 5 ∧ (t ≤ c ∨ (c < n ∧ n < tr_se N ar c)) then w (ag c) else 0
def po_p (F N : Nat) (bs ar kd ag : Nat → Nat) (w : Nat → Nat) (f n t : Nat) : Nat := ps_s (po_t F N bs ar kd ag w f n t) N
variable {F N : Nat} {bs ar kd ag : Nat → Nat} {w : Nat → Nat} {f : Nat}
theorem po_mono {n t n' t' : Nat} (h : ∀ c, c < N → (t' ≤ c ∨ (c < n' ∧ n' < tr_se N ar c)) → (t ≤ c ∨ (c < n ∧ n < tr_se N ar c))) : po_p F N bs ar kd ag w f n' t' ≤ po_p F N bs ar kd ag w f n t := by
  refine ps_le N (fun c hc => ?_)
  unfold po_t
  by_cases h1 : pg_fn F bs c = f ∧ kd c = 5 ∧ (t' ≤ c ∨ (c < n' ∧ n' < tr_se N ar c))
  · rw [if_pos h1, if_pos ⟨h1.1, h1.2.1, h c hc h1.2.2⟩]
    exact Nat.le_refl _
  · rw [if_neg h1]
    exact Nat.zero_le _
theorem po_first {n : Nat} : po_p F N bs ar kd ag w f (n + 1) (n + 1) ≤ po_p F N bs ar kd ag w f n n := by
  refine po_mono (fun c hc h => ?_)
  rcases h with h | ⟨h1, h2⟩
  · exact Or.inl (by omega)
  · rcases Nat.eq_or_lt_of_le (Nat.le_of_lt_succ h1) with e | e
    · exact Or.inl (by omega)
    · exact Or.inr ⟨e, by omega⟩
theorem po_leaf {n : Nat} : po_p F N bs ar kd ag w f n (tr_se N ar n) ≤ po_p F N bs ar kd ag w f n n := by
  refine po_mono (fun c hc h => ?_)
  rcases h with h | h
  · have := tr_se_ge (N := N) (ar := ar) n
    exact Or.inl (by omega)
  · exact Or.inr h
theorem po_up {q p : Nat} (hq : q < N) (hp : tr_pa N ar q = some p) : po_p F N bs ar kd ag w f p (tr_se N ar p) ≤ po_p F N bs ar kd ag w f q (tr_se N ar q) := by
  obtain ⟨g1, g2, g3⟩ := tr_pa_some hp
  have hs := tr_in_se (N := N) (ar := ar) (Nat.le_of_lt g1) g2
  refine po_mono (fun c hc h => ?_)
  rcases h with h | ⟨h1, h2⟩
  · exact Or.inl (by omega)
  · have := tr_in_se (N := N) (ar := ar) (Nat.le_of_lt h1) h2
    exact Or.inr ⟨by omega, by omega⟩
theorem po_anc {q p c : Nat} (hq : q < N) (hp : tr_pa N ar q = some p) (h1 : c < q) (h2 : q < tr_se N ar c) : c ≤ p ∧ p < tr_se N ar c := by
  rcases (tr_an_pa hq hp).mp ⟨Nat.le_of_lt h1, h2⟩ with e | e
  · omega
  · exact e
theorem po_sib {q r p : Nat} (hq : q < N) (hr : r < N) (hp : tr_pa N ar q = some p) (hp' : tr_pa N ar r = some p) (hl : tr_se N ar q ≤ r) : po_p F N bs ar kd ag w f r r ≤ po_p F N bs ar kd ag w f q (tr_se N ar q) := by
  obtain ⟨g1, g2, g3⟩ := tr_pa_some hp
  refine po_mono (fun c hc h => ?_)
  rcases h with h | ⟨h1, h2⟩
  · exact Or.inl (by omega)
  · obtain ⟨a1, a2⟩ := po_anc hr hp' h1 h2
    have := tr_in_se (N := N) (ar := ar) a1 a2
    exact Or.inr ⟨by omega, by omega⟩
/-- the last argument of the call p is known -/
theorem po_wait {q p : Nat} (hq : q < N) (hp : tr_pa N ar q = some p) (hq1 : p + 1 < N) (hp1 : tr_pa N ar (p + 1) = some p) (hl : tr_se N ar q = tr_se N ar p) : po_p F N bs ar kd ag w f (p + 1) (tr_se N ar p) ≤ po_p F N bs ar kd ag w f q (tr_se N ar q) := by
  obtain ⟨g1, g2, g3⟩ := tr_pa_some hp
  refine po_mono (fun c hc h => ?_)
  rcases h with h | ⟨h1, h2⟩
  · exact Or.inl (by omega)
  · obtain ⟨a1, a2⟩ := po_anc hq1 hp1 h1 h2
    have := tr_in_se (N := N) (ar := ar) a1 a2
    exact Or.inr ⟨by omega, by omega⟩
theorem po_begin {p : Nat} (hpN : p < N) (hf : pg_fn F bs p = f) (hk : kd p = 5) (h1 : p + 1 < tr_se N ar p) : po_p F N bs ar kd ag w f p (tr_se N ar p) + w (ag p) ≤ po_p F N bs ar kd ag w f (p + 1) (tr_se N ar p) := by
  refine ps_rem N (fun c hc hne => ?_) hpN ?_
  · unfold po_t
    by_cases hh : pg_fn F bs c = f ∧ kd c = 5 ∧ (tr_se N ar p ≤ c ∨ (c < p ∧ p < tr_se N ar c))
    · rw [if_pos hh]
      have h2 : tr_se N ar p ≤ c ∨ (c < p + 1 ∧ p + 1 < tr_se N ar c) := by
        rcases hh.2.2 with y | ⟨y1, y2⟩
        · exact Or.inl y
        · have := tr_in_se (N := N) (ar := ar) (Nat.le_of_lt y1) y2
          exact Or.inr ⟨by omega, by omega⟩
      rw [if_pos ⟨hh.1, hh.2.1, h2⟩]
      exact Nat.le_refl _
    · rw [if_neg hh]
      exact Nat.zero_le _
  · unfold po_t
    rw [if_neg (by intro y; rcases y.2.2 with y | y <;> omega), if_pos ⟨hf, hk, Or.inr ⟨by omega, h1⟩⟩]
    omega
-- all calls of a body
def po_b (kd ag : Nat → Nat) (w : Nat → Nat) (c : Nat) : Nat := if kd c = 5 then w (ag c) else 0
theorem po_root (h : pg_wf F N bs ar) (hf : f < F) : po_p F N bs ar kd ag w f (bs f) (bs f) ≤ ps_s (fun i => po_b kd ag w (bs f + i)) (pg_be F N bs f - bs f) := by
  have hlt := (h.2.2.2.2 f hf).1
  have hN := pg_lastN h hf
  have zero : ∀ c, c < N → ¬ (bs f ≤ c ∧ c < pg_be F N bs f) → po_t F N bs ar kd ag w f (bs f) (bs f) c = 0 := by
    intro c hc hn
    unfold po_t
    rw [if_neg]
    intro y
    have hb := pg_body h hc
    rw [y.1] at hb
    exact hn ⟨hb.2.1, hb.2.2.1⟩
  unfold po_p
  have e1 : ps_s (po_t F N bs ar kd ag w f (bs f) (bs f)) N = ps_s (po_t F N bs ar kd ag w f (bs f) (bs f)) (bs f + ((pg_be F N bs f - bs f) + (N - pg_be F N bs f))) := congrArg _ (by omega)
  rw [e1, ps_split, ps_split]
  have z1 : ps_s (po_t F N bs ar kd ag w f (bs f) (bs f)) (bs f) = 0 := ps_0 _ (fun i hi => zero i (by omega) (by omega))
  have z2 : ps_s (fun i => po_t F N bs ar kd ag w f (bs f) (bs f) (bs f + (pg_be F N bs f - bs f + i))) (N - pg_be F N bs f) = 0 := ps_0 _ (fun i hi => zero _ (by omega) (by omega))
  rw [z1, z2]
  have le := ps_le (g := fun i => po_t F N bs ar kd ag w f (bs f) (bs f) (bs f + i)) (h := fun i => po_b kd ag w (bs f + i)) (pg_be F N bs f - bs f) (fun i hi => by
    show po_t F N bs ar kd ag w f (bs f) (bs f) (bs f + i) ≤ po_b kd ag w (bs f + i)
    unfold po_t po_b
    by_cases k : kd (bs f + i) = 5
    · rw [if_pos k]
      split
      · exact Nat.le_refl _
      · exact Nat.zero_le _
    · rw [if_neg k, if_neg (fun y => k y.2.1)]
      exact Nat.le_refl _)
  omega
theorem po_cnt {na : Nat → Int32} {T : Nat → Nat} (hT : ∀ g, g < f → w g = T g) : ∀ (t n : Nat), (∀ i, i < t → kd (n + i) = 5 → ag (n + i) ≤ f ∧ na (n + i) = nI (ag (n + i))) → f < 1000 → ps_s (fun i => po_b kd ag w (n + i)) t + 1 = bd_in (fun h => cd_ct kd na h t n) T f + cd_ct kd na f t n * w f := by
  intro t
  induction t with
  | zero =>
    intro n _ _
    have e : ∀ k, bd_in (fun h => cd_ct kd na h 0 n) T k = 1 := by
      intro k
      induction k with
      | zero => rfl
      | succ k ih => rw [bd_in, ih]; show 1 + 0 * T k = 1; omega
    rw [e]
    show 0 + 1 = 1 + 0 * w f
    omega
  | succ t ih =>
    intro n hn hf
    rw [ps_front (po_b kd ag w) n t]
    have i1 := ih (n + 1) (fun i hi k => by
      have := hn (i + 1) (by omega)
      rw [show n + (i + 1) = n + 1 + i by omega] at this
      exact this k) hf
    by_cases k : kd n = 5
    · obtain ⟨a1, a2⟩ := hn 0 (by omega) (by rw [Nat.add_zero]; exact k)
      rw [Nat.add_zero] at a1 a2
      have cq : ∀ h, h < 1000 → (na n = nI h ↔ ag n = h) := fun h hh => by
        rw [a2]
        exact nI_eq (by omega) (by omega)
      have e0 : po_b kd ag w n = w (ag n) := by unfold po_b; rw [if_pos k]
      rw [e0]
      have cs : ∀ h, cd_ct kd na h (t + 1) n = (if kd n = 5 ∧ na n = nI h then 1 else 0) + cd_ct kd na h t (n + 1) := fun h => rfl
      rcases Nat.eq_or_lt_of_le a1 with e | e
      · have c1 : cd_ct kd na f (t + 1) n = cd_ct kd na f t (n + 1) + 1 := by
          rw [cs, if_pos ⟨k, (cq f hf).mpr e⟩, Nat.add_comm]
        have c2 : bd_in (fun h => cd_ct kd na h (t + 1) n) T f = bd_in (fun h => cd_ct kd na h t (n + 1)) T f := bd_in_same f (fun g hg => by
          show cd_ct kd na g (t + 1) n = cd_ct kd na g t (n + 1)
          rw [cs, if_neg (fun y => by have := (cq g (by omega)).mp y.2; omega), Nat.zero_add])
        rw [c1, c2, Nat.add_mul, Nat.one_mul, e]
        omega
      · have c1 : cd_ct kd na f (t + 1) n = cd_ct kd na f t (n + 1) := by
          rw [cs, if_neg (fun y => by have := (cq f hf).mp y.2; omega), Nat.zero_add]
        have c2 : bd_in (fun h => cd_ct kd na h (t + 1) n) T f = bd_in (fun h => cd_ct kd na h t (n + 1)) T f + T (ag n) := by
          have q : bd_in (fun h => if h < f then cd_ct kd na h (t + 1) n else cd_ct kd na h t (n + 1)) T f = bd_in (fun h => cd_ct kd na h t (n + 1)) T f + T (ag n) := by
            refine bd_in_add f (fun g hg => ?_) ?_ e
            · show (if g < f then cd_ct kd na g (t + 1) n else cd_ct kd na g t (n + 1)) = cd_ct kd na g t (n + 1)
              by_cases hgf : g < f
              · rw [if_pos hgf, cs, if_neg (fun y => hg ((cq g (by omega)).mp y.2).symm), Nat.zero_add]
              · rw [if_neg hgf]
            · show (if ag n < f then cd_ct kd na (ag n) (t + 1) n else cd_ct kd na (ag n) t (n + 1)) = cd_ct kd na (ag n) t (n + 1) + 1
              rw [if_pos e, cs, if_pos ⟨k, a2⟩, Nat.add_comm]
          rw [← q]
          exact bd_in_same f (fun g hg => by
            show cd_ct kd na g (t + 1) n = (if g < f then cd_ct kd na g (t + 1) n else cd_ct kd na g t (n + 1))
            rw [if_pos hg])
        rw [c1, c2, ← hT (ag n) e]
        omega
    · have e0 : po_b kd ag w n = 0 := by unfold po_b; rw [if_neg k]
      have cs : ∀ h, cd_ct kd na h (t + 1) n = cd_ct kd na h t (n + 1) := fun h => by
        rw [cd_ct, if_neg (fun y => k y.1), Nat.zero_add]
      rw [e0, bd_in_same (cc := fun h => cd_ct kd na h t (n + 1)) f (fun g _ => cs g), cs f]
      omega
end
