section
theorem wb_tb (n : Nat) : (lN n).toBitVec = BitVec.ofNat 64 n := rfl
theorem wb_inj {a b : Int64} (h : a.toBitVec = b.toBitVec) : a = b := Int64.toBitVec_inj.mp h
theorem wb_tn {n : Nat} (h : n < 2 ^ 64) : (lN n).toBitVec.toNat = n := by rw [wb_tb, BitVec.toNat_ofNat, Nat.mod_eq_of_lt h]
theorem wb_of (x : Int64) : ∃ n, n < 2 ^ 64 ∧ x = lN n := ⟨x.toBitVec.toNat, x.toBitVec.isLt, wb_inj (by rw [wb_tb]; simp)⟩
theorem wb_of32 (x : Int32) : ∃ n, n < 2 ^ 32 ∧ x = nI n := ⟨x.toBitVec.toNat, x.toBitVec.isLt, Int32.toBitVec_inj.mp (by show _ = BitVec.ofNat 32 _; simp)⟩
theorem wb_c : ∀ k, k < 64 → ((nI k).toInt64 &&& 63) = lN k := by decide +kernel
theorem wb_cu : ∀ k, k < 64 → ((nI k).toInt64.toUInt64 &&& Int64.toUInt64 63) = UInt64.ofNat k := by decide +kernel
theorem wb_sm : ∀ k, k < 64 → (BitVec.ofNat 64 k).smod 64 = BitVec.ofNat 64 k := by decide +kernel
theorem wb_pw {a b : Nat} (h : a ≤ b) : 2 ^ b = 2 ^ a * 2 ^ (b - a) := by rw [← Nat.pow_add]; congr 1; omega
theorem wb_lt2 {a b : Nat} (h : a < b) : 2 ^ a < 2 ^ b := Nat.pow_lt_pow_right (by decide) h
theorem wb_mod (n : Nat) : lN n = lN (n % 2 ^ 64) := wb_inj (by rw [wb_tb, wb_tb]; apply BitVec.eq_of_toNat_eq; rw [BitVec.toNat_ofNat, BitVec.toNat_ofNat, Nat.mod_mod])
theorem wb_shr {n k : Nat} (hn : n < 2 ^ 64) (hk : k < 64) : ((lN n).toUInt64 >>> ((nI k).toInt64.toUInt64 &&& Int64.toUInt64 63)).toInt64 = lN (n / 2 ^ k) := by
  rw [wb_cu k hk]
  apply wb_inj
  apply BitVec.eq_of_toNat_eq
  show ((lN n).toUInt64 >>> UInt64.ofNat k).toNat = (BitVec.ofNat 64 _).toNat
  have h1 : (UInt64.ofNat k).toNat = k := by
    show (BitVec.ofNat 64 k).toNat = k
    rw [BitVec.toNat_ofNat, Nat.mod_eq_of_lt (by omega)]
  have h2 : (lN n).toUInt64.toNat = n := wb_tn hn
  rw [UInt64.toNat_shiftRight, h1, h2, Nat.mod_eq_of_lt hk, Nat.shiftRight_eq_div_pow, BitVec.toNat_ofNat, Nat.mod_eq_of_lt (Nat.lt_of_le_of_lt (Nat.div_le_self _ _) hn)]
theorem wb_shl (n : Nat) {k : Nat} (hk : k < 64) : lN n <<< ((nI k).toInt64 &&& 63) = lN (n * 2 ^ k) := by
  rw [wb_c k hk]
  apply wb_inj
  rw [Int64.toBitVec_shiftLeft, wb_tb, wb_tb, wb_tb, wb_sm k hk]
  apply BitVec.eq_of_toNat_eq
  rw [BitVec.shiftLeft_eq', BitVec.toNat_shiftLeft, BitVec.toNat_ofNat, BitVec.toNat_ofNat, BitVec.toNat_ofNat, Nat.mod_eq_of_lt (show k < 2 ^ 64 by omega), Nat.shiftLeft_eq, Nat.mul_mod, Nat.mod_mod, ← Nat.mul_mod]
theorem wb_and {a b : Nat} (ha : a < 2 ^ 64) (hb : b < 2 ^ 64) : lN a &&& lN b = lN (a &&& b) := by
  apply wb_inj
  rw [Int64.toBitVec_and, wb_tb, wb_tb, wb_tb]
  apply BitVec.eq_of_toNat_eq
  rw [BitVec.toNat_and, BitVec.toNat_ofNat, BitVec.toNat_ofNat, BitVec.toNat_ofNat, Nat.mod_eq_of_lt ha, Nat.mod_eq_of_lt hb, Nat.mod_eq_of_lt (Nat.and_lt_two_pow _ hb)]
theorem wb_or {a b : Nat} (ha : a < 2 ^ 64) (hb : b < 2 ^ 64) : lN a ||| lN b = lN (a ||| b) := by
  apply wb_inj
  rw [Int64.toBitVec_or, wb_tb, wb_tb, wb_tb]
  apply BitVec.eq_of_toNat_eq
  rw [BitVec.toNat_or, BitVec.toNat_ofNat, BitVec.toNat_ofNat, BitVec.toNat_ofNat, Nat.mod_eq_of_lt ha, Nat.mod_eq_of_lt hb, Nat.mod_eq_of_lt (Nat.or_lt_two_pow ha hb)]
theorem wb_mask {n k : Nat} (hn : n < 2 ^ 64) (hk : k < 64) : lN n &&& lN (2 ^ k - 1) = lN (n % 2 ^ k) := by
  rw [wb_and hn (by have := wb_lt2 hk; omega), Nat.and_two_pow_sub_one_eq_mod]
theorem wb_a1 {n : Nat} (hn : n < 2 ^ 64) : lN n &&& 1 = lN (n % 2) := wb_mask (k := 1) hn (by decide)
theorem wb_bit {n k : Nat} (hn : n < 2 ^ 64) (hk : k < 64) : ((lN n).toUInt64 >>> ((nI k).toInt64.toUInt64 &&& Int64.toUInt64 63)).toInt64 &&& 1 = lN (n / 2 ^ k % 2) := by
  rw [wb_shr hn hk, wb_a1 (Nat.lt_of_le_of_lt (Nat.div_le_self _ _) hn)]
theorem wb_xor {q k : Nat} (hk : k < 63) (h : 2 ^ k ≤ q) (h2 : q < 2 ^ (k + 1)) : lN q ^^^ lN (2 ^ k) = lN (q - 2 ^ k) := by
  obtain ⟨r, rfl⟩ : ∃ r, q = 2 ^ k + r := ⟨q - 2 ^ k, by omega⟩
  have hr : r < 2 ^ k := by rw [Nat.pow_succ] at h2; omega
  have hx : (2 ^ k + r) ^^^ 2 ^ k = r := by
    apply Nat.eq_of_testBit_eq
    intro i
    rw [Nat.testBit_xor, Nat.testBit_two_pow]
    rcases Nat.lt_trichotomy i k with h | h | h
    · rw [Nat.testBit_two_pow_add_gt h]
      simp [show ¬ k = i by omega]
    · subst h
      rw [Nat.testBit_two_pow_add_eq]
      simp
    · have a1 : 2 ^ (k + 1) ≤ 2 ^ i := Nat.pow_le_pow_right (by decide) h
      rw [Nat.testBit_lt_two_pow (show 2 ^ k + r < 2 ^ i by omega), Nat.testBit_lt_two_pow (show r < 2 ^ i by omega)]
      simp [show ¬ k = i by omega]
  have b1 := wb_lt2 (show k + 1 < 64 by omega)
  have b2 := wb_lt2 (show k < 64 by omega)
  apply wb_inj
  rw [Int64.toBitVec_xor, wb_tb, wb_tb, wb_tb]
  apply BitVec.eq_of_toNat_eq
  rw [BitVec.toNat_xor, BitVec.toNat_ofNat, BitVec.toNat_ofNat, BitVec.toNat_ofNat, Nat.mod_eq_of_lt (by omega : 2 ^ k + r < 2 ^ 64), Nat.mod_eq_of_lt b2, hx, Nat.add_sub_cancel_left, Nat.mod_eq_of_lt (by omega)]
/-! ===== lN: masks, 'or' of parts that don't overlap is a sum ===== -/
theorem u_tn {n : Nat} (h : n < 2 ^ 64) : (UInt64.ofNat n).toNat = n := Nat.mod_eq_of_lt h
theorem g_and {a b c : Nat} (ha : a < 2 ^ 64) (hb : b < 2 ^ 64) (hc : a &&& b = c) : lN a &&& lN b = lN c := by
  subst hc
  have h : UInt64.ofNat a &&& UInt64.ofNat b = UInt64.ofNat (a &&& b) := UInt64.toNat_inj.mp (by rw [UInt64.toNat_and, u_tn ha, u_tn hb, u_tn (Nat.and_lt_two_pow a hb)])
  have h2 := congrArg UInt64.toInt64 h
  exact h2
theorem g_and1 {a : Nat} (ha : a < 2 ^ 64) : lN a &&& 1 = lN (a % 2) := g_and (b := 1) ha (by decide) (Nat.and_two_pow_sub_one_eq_mod a 1)
theorem g_mask {a s p : Nat} (hp : 2 ^ s = p) (hs : s < 64) (ha : a < 2 ^ 64) : lN a &&& lN (p - 1) = lN (a % p) := by
  subst hp
  have := Nat.pow_lt_pow_right (show 1 < 2 by decide) hs
  exact g_and ha (by omega) (Nat.and_two_pow_sub_one_eq_mod a s)
theorem g_or {k p a b : Nat} (hp : 2 ^ k = p) (ha : a < p) (h : b * p + a < 2 ^ 64) : lN (b * p) ||| lN a = lN (b * p + a) := by
  subst hp
  have h1 : b * 2 ^ k ||| a = b * 2 ^ k + a := by rw [← Nat.shiftLeft_eq, Nat.shiftLeft_add_eq_or_of_lt ha]
  have h3 : UInt64.ofNat (b * 2 ^ k) ||| UInt64.ofNat a = UInt64.ofNat (b * 2 ^ k + a) := UInt64.toNat_inj.mp (by rw [UInt64.toNat_or, u_tn (by omega), u_tn (by omega), u_tn h, h1])
  have h2 := congrArg UInt64.toInt64 h3
  exact h2
theorem g_or' {k p a b : Nat} (hp : 2 ^ k = p) (ha : a < p) (h : a + b * p < 2 ^ 64) : lN a ||| lN (b * p) = lN (a + b * p) := by
  rw [Int64.or_comm, g_or hp ha (by omega), Nat.add_comm]
theorem g_ushr {a k p : Nat} {y : UInt64} (hy : y = UInt64.ofNat k) (hk : k < 64) (hp : 2 ^ k = p) (ha : a < 2 ^ 64) : ((lN a).toUInt64 >>> y).toInt64 = lN (a / p) := by
  subst hy hp
  have h : UInt64.ofNat a >>> UInt64.ofNat k = UInt64.ofNat (a / 2 ^ k) := UInt64.toNat_inj.mp (by rw [UInt64.toNat_shiftRight, u_tn ha, u_tn (by omega), u_tn (Nat.lt_of_le_of_lt (Nat.div_le_self _ _) ha), Nat.mod_eq_of_lt hk, Nat.shiftRight_eq_div_pow])
  have h2 := congrArg UInt64.toInt64 h
  exact h2
theorem g_shl {a k p : Nat} {y : Int64} (hy : y.toBitVec.smod 64 = BitVec.ofNat 64 k) (hk : k < 64) (hp : 2 ^ k = p) (ha : a < 2 ^ 64) : lN a <<< y = lN (a * p) := by
  subst hp
  apply Int64.toBitVec_inj.mp
  rw [Int64.toBitVec_shiftLeft, hy]
  apply BitVec.eq_of_toNat_eq
  have hb : (lN a).toBitVec.toNat = a := Nat.mod_eq_of_lt ha
  have hk' : (BitVec.ofNat 64 k).toNat = k := Nat.mod_eq_of_lt (by omega)
  have h : ((lN a).toBitVec <<< BitVec.ofNat 64 k).toNat = (a * 2 ^ k) % 2 ^ 64 := by simp only [BitVec.shiftLeft_eq', BitVec.toNat_shiftLeft, hb, hk', Nat.shiftLeft_eq]
  exact h
/-! ===== lN to 2^62 under >> and >>> ===== -/
end
section
section
def tr_sk (ar : Nat → Nat) : Nat → Nat → Nat → Nat
  | 0, _, j => j
  | t + 1, d, j => if d = 0 then j else tr_sk ar t (d - 1 + ar j) (j + 1)
/-- where d trees that begin at j end, cut at N -/
def tr_skip (N : Nat) (ar : Nat → Nat) (d j : Nat) : Nat := tr_sk ar (N - j) d j
def tr_se (N : Nat) (ar : Nat → Nat) (j : Nat) : Nat := tr_skip N ar 1 j
def tr_ch (N : Nat) (ar : Nat → Nat) (n c : Nat) : Nat := tr_skip N ar c (n + 1)
/-- t nodes from j on are exactly d trees -/
def tr_shp (ar : Nat → Nat) : Nat → Nat → Nat → Prop
  | 0, d, _ => d = 0
  | t + 1, d, j => d ≠ 0 ∧ tr_shp ar t (d - 1 + ar j) (j + 1)
def tr_pd (N : Nat) (ar : Nat → Nat) (j : Nat) : Nat → Option Nat
  | 0 => none
  | i + 1 => if j < tr_se N ar i then some i else tr_pd N ar j i
def tr_pa (N : Nat) (ar : Nat → Nat) (j : Nat) : Option Nat := tr_pd N ar j j
def tr_cx (N : Nat) (ar : Nat → Nat) (p j : Nat) : Nat :=
  if tr_ch N ar p 0 = j then 0 else if tr_ch N ar p 1 = j then 1 else if tr_ch N ar p 2 = j then 2 else 3
def tr_ci (N : Nat) (ar : Nat → Nat) (j : Nat) : Nat := match tr_pa N ar j with
  | none => 0
  | some p => tr_cx N ar p j
def tr_an (N : Nat) (ar : Nat → Nat) (a n : Nat) : Prop := a ≤ n ∧ n < tr_se N ar a
variable {N : Nat} {ar : Nat → Nat}
theorem tr_sk_ge : ∀ (t d j : Nat), j ≤ tr_sk ar t d j
  | 0, _, j => Nat.le_refl j
  | t + 1, d, j => by
    rw [tr_sk]
    split
    · exact Nat.le_refl j
    · have := tr_sk_ge t (d - 1 + ar j) (j + 1); omega
theorem tr_sk_le : ∀ (t d j : Nat), tr_sk ar t d j ≤ j + t
  | 0, _, j => Nat.le_refl j
  | t + 1, d, j => by
    rw [tr_sk]
    split
    · omega
    · have := tr_sk_le t (d - 1 + ar j) (j + 1); omega
theorem tr_skip_0 (j : Nat) : tr_skip N ar 0 j = j := by
  unfold tr_skip
  cases N - j with
  | zero => rfl
  | succ t => rw [tr_sk, if_pos rfl]
theorem tr_skip_N (d : Nat) {j : Nat} (h : N ≤ j) : tr_skip N ar d j = j := by
  unfold tr_skip
  rw [show N - j = 0 by omega]; rfl
theorem tr_skip_s (d : Nat) {j : Nat} (h : j < N) : tr_skip N ar (d + 1) j = tr_skip N ar (d + ar j) (j + 1) := by
  unfold tr_skip
  rw [show N - j = (N - (j + 1)) + 1 by omega, tr_sk, if_neg (by omega)]
  rfl
theorem tr_skip_ge (d j : Nat) : j ≤ tr_skip N ar d j := tr_sk_ge _ _ _
theorem tr_skip_le (d : Nat) {j : Nat} (h : j ≤ N) : tr_skip N ar d j ≤ N := by
  have := tr_sk_le (ar := ar) (N - j) d j
  unfold tr_skip; omega
theorem tr_add : ∀ (t a b j : Nat), N - j ≤ t → tr_skip N ar (a + b) j = tr_skip N ar b (tr_skip N ar a j) := by
  intro t
  induction t with
  | zero =>
    intro a b j h
    rw [tr_skip_N (a + b) (by omega), tr_skip_N a (by omega), tr_skip_N b (by omega)]
  | succ t ih =>
    intro a b j h
    cases a with
    | zero => rw [Nat.zero_add, tr_skip_0]
    | succ a =>
      rcases Nat.lt_or_ge j N with hj | hj
      · rw [show a + 1 + b = (a + b) + 1 by omega, tr_skip_s _ hj, tr_skip_s _ hj, show a + b + ar j = (a + ar j) + b by omega]
        exact ih _ _ _ (by omega)
      · rw [tr_skip_N _ hj, tr_skip_N _ hj, tr_skip_N _ hj]
theorem tr_ch_0 (n : Nat) : tr_ch N ar n 0 = n + 1 := tr_skip_0 _
theorem tr_ch_s (n c : Nat) : tr_ch N ar n (c + 1) = tr_se N ar (tr_ch N ar n c) := tr_add _ c 1 (n + 1) (Nat.le_refl _)
theorem tr_se_ch {n : Nat} (h : n < N) : tr_se N ar n = tr_ch N ar n (ar n) := by
  unfold tr_se tr_ch
  rw [show (1 : Nat) = 0 + 1 from rfl, tr_skip_s 0 h, Nat.zero_add]
theorem tr_se_gt {n : Nat} (h : n < N) : n < tr_se N ar n := by
  have := tr_skip_ge (N := N) (ar := ar) (ar n) (n + 1)
  rw [tr_se_ch h]; unfold tr_ch; omega
theorem tr_se_N {n : Nat} (h : N ≤ n) : tr_se N ar n = n := tr_skip_N _ h
theorem tr_se_le {n : Nat} (h : n ≤ N) : tr_se N ar n ≤ N := tr_skip_le _ h
theorem tr_se_ge (n : Nat) : n ≤ tr_se N ar n := tr_skip_ge _ _
theorem tr_in : ∀ (t d j n : Nat), N - j ≤ t → j ≤ n → n < tr_skip N ar d j → tr_se N ar n ≤ tr_skip N ar d j := by
  intro t
  induction t with
  | zero =>
    intro d j n h h1 h2
    rw [tr_skip_N d (by omega)] at h2
    omega
  | succ t ih =>
    intro d j n h h1 h2
    rcases Nat.lt_or_ge j N with hj | hj
    · cases d with
      | zero => rw [tr_skip_0] at h2; omega
      | succ d =>
        rcases Nat.eq_or_lt_of_le h1 with e | e
        · subst e
          rw [show d + 1 = 1 + d by omega, tr_add _ 1 d j (Nat.le_refl _)]
          exact tr_skip_ge _ _
        · rw [tr_skip_s _ hj] at h2 ⊢
          exact ih _ _ _ (by omega) e h2
    · rw [tr_skip_N d hj] at h2; omega
theorem tr_in_se {a n : Nat} (h1 : a ≤ n) (h2 : n < tr_se N ar a) : tr_se N ar n ≤ tr_se N ar a := tr_in _ 1 a n (Nat.le_refl _) h1 h2
theorem tr_ch_ge (n c : Nat) : n + 1 ≤ tr_ch N ar n c := tr_skip_ge _ _
theorem tr_ch_le (n : Nat) : ∀ (c d : Nat), c ≤ d → tr_ch N ar n c ≤ tr_ch N ar n d := by
  intro c d h
  unfold tr_ch
  rw [show d = c + (d - c) by omega, tr_add _ c (d - c) (n + 1) (Nat.le_refl _)]
  exact tr_skip_ge _ _
-- shapes
theorem tr_shp_end : ∀ (t d j : Nat), tr_shp ar t d j → j + t ≤ N → tr_skip N ar d j = j + t := by
  intro t
  induction t with
  | zero => intro d j h _; rw [show d = 0 from h, tr_skip_0]; rfl
  | succ t ih =>
    intro d j h hN
    obtain ⟨h0, h1⟩ := h
    rw [show d = (d - 1) + 1 by omega, tr_skip_s _ (by omega), ih _ _ h1 (by omega)]; omega
theorem tr_shp_lt : ∀ (t d j a : Nat), tr_shp ar t d j → j + t ≤ N → a < d → tr_skip N ar a j < j + t := by
  intro t
  induction t with
  | zero => intro d j a h _ ha; rw [show d = 0 from h] at ha; omega
  | succ t ih =>
    intro d j a h hN ha
    obtain ⟨h0, h1⟩ := h
    cases a with
    | zero => rw [tr_skip_0]; omega
    | succ a =>
      rw [tr_skip_s _ (by omega)]
      have := ih _ _ (a + ar j) h1 (by omega) (by omega)
      omega
theorem tr_shp_fst : ∀ (t d j a : Nat), tr_shp ar t d j → j + t ≤ N → a ≤ d → tr_shp ar (tr_skip N ar a j - j) a j := by
  intro t
  induction t with
  | zero =>
    intro d j a h _ ha
    rw [show d = 0 from h] at ha
    rw [show a = 0 by omega, tr_skip_0, Nat.sub_self]
    exact rfl
  | succ t ih =>
    intro d j a h hN ha
    obtain ⟨h0, h1⟩ := h
    cases a with
    | zero => rw [tr_skip_0, Nat.sub_self]; exact rfl
    | succ a =>
      have g := tr_skip_ge (N := N) (ar := ar) (a + ar j) (j + 1)
      rw [tr_skip_s _ (by omega), show tr_skip N ar (a + ar j) (j + 1) - j = (tr_skip N ar (a + ar j) (j + 1) - (j + 1)) + 1 by omega]
      refine ⟨by omega, ?_⟩
      rw [show a + 1 - 1 + ar j = a + ar j by omega]
      exact ih _ _ _ h1 (by omega) (by omega)
theorem tr_shp_sub : ∀ (t d j n : Nat), tr_shp ar t d j → j + t ≤ N → j ≤ n → n < j + t → tr_shp ar (tr_se N ar n - n) 1 n := by
  intro t
  induction t with
  | zero => intro d j n _ _ h1 h2; omega
  | succ t ih =>
    intro d j n h hN h1 h2
    rcases Nat.eq_or_lt_of_le h1 with e | e
    · subst e
      have h0 : d ≠ 0 := h.1
      exact tr_shp_fst _ d j 1 h hN (by omega)
    · exact ih _ _ _ h.2 (by omega) e (by omega)
/-- the region [s, e) is one whole tree -/
def tr_wf (ar : Nat → Nat) (s e : Nat) : Prop := s < e ∧ tr_shp ar (e - s) 1 s
theorem tr_wf_se {s e : Nat} (h : tr_wf ar s e) (hN : e ≤ N) : tr_se N ar s = e := by
  have := tr_shp_end (N := N) _ _ _ h.2 (by have := h.1; omega)
  unfold tr_se; rw [this]; have := h.1; omega
theorem tr_wf_in {s e n : Nat} (h : tr_wf ar s e) (hN : e ≤ N) (h1 : s ≤ n) (h2 : n < e) : tr_se N ar n ≤ e := by
  rw [← tr_wf_se h hN]; exact tr_in_se h1 (by rw [tr_wf_se h hN]; exact h2)
theorem tr_wf_ch {s e n c : Nat} (h : tr_wf ar s e) (hN : e ≤ N) (h1 : s ≤ n) (h2 : n < e) (hc : c < ar n) : tr_ch N ar n c < tr_se N ar n := by
  have hs := tr_shp_sub (N := N) _ _ _ n h.2 (by have := h.1; omega) h1 (by omega)
  have hg := tr_se_gt (N := N) (ar := ar) (n := n) (by omega)
  have hl := tr_se_le (N := N) (ar := ar) (n := n) (by omega)
  rw [show tr_se N ar n - n = (tr_se N ar n - (n + 1)) + 1 by omega] at hs
  have h3 := tr_shp_lt (N := N) _ _ _ c hs.2 (by omega) (by omega)
  unfold tr_ch; omega
theorem tr_wf_ch_lt {s e n c : Nat} (h : tr_wf ar s e) (hN : e ≤ N) (h1 : s ≤ n) (h2 : n < e) (hc : c < ar n) : tr_ch N ar n c < tr_ch N ar n (c + 1) := by
  have h3 := tr_wf_ch h hN h1 h2 hc
  have h4 := tr_wf_in h hN h1 h2
  rw [tr_ch_s]; exact tr_se_gt (by omega)
-- parents
theorem tr_pd_some : ∀ (k j p : Nat), tr_pd N ar j k = some p → p < k ∧ j < tr_se N ar p ∧ ∀ i, p < i → i < k → tr_se N ar i ≤ j := by
  intro k
  induction k with
  | zero => intro j p h; cases h
  | succ k ih =>
    intro j p h
    rw [tr_pd] at h
    split at h
    · rename_i hk
      cases h
      exact ⟨by omega, hk, fun i h1 h2 => by omega⟩
    · rename_i hk
      obtain ⟨h1, h2, h3⟩ := ih _ _ h
      refine ⟨by omega, h2, fun i hi hik => ?_⟩
      rcases Nat.eq_or_lt_of_le (Nat.le_of_lt_succ hik) with e | e
      · subst e; omega
      · exact h3 i hi e
theorem tr_pd_none : ∀ (k j : Nat), tr_pd N ar j k = none → ∀ i, i < k → tr_se N ar i ≤ j := by
  intro k
  induction k with
  | zero => intro j _ i hi; omega
  | succ k ih =>
    intro j h i hi
    rw [tr_pd] at h
    split at h
    · cases h
    · rename_i hk
      rcases Nat.eq_or_lt_of_le (Nat.le_of_lt_succ hi) with e | e
      · subst e; omega
      · exact ih _ h i e
theorem tr_pa_some {j p : Nat} (h : tr_pa N ar j = some p) : p < j ∧ j < tr_se N ar p ∧ ∀ i, p < i → i < j → tr_se N ar i ≤ j := tr_pd_some _ _ _ h
theorem tr_pa_none {j : Nat} (h : tr_pa N ar j = none) : ∀ i, i < j → tr_se N ar i ≤ j := tr_pd_none _ _ h
theorem tr_pa_mk {j p : Nat} (h1 : p < j) (h2 : j < tr_se N ar p) (h3 : ∀ i, p < i → i < j → tr_se N ar i ≤ j) : tr_pa N ar j = some p := by
  cases h : tr_pa N ar j with
  | none => have := tr_pa_none h p h1; omega
  | some q =>
    obtain ⟨g1, g2, g3⟩ := tr_pa_some h
    rcases Nat.lt_trichotomy p q with e | e | e
    · have := h3 q e g1; omega
    · rw [e]
    · have := g3 p e h1; omega
theorem tr_pa_no {j : Nat} (h : ∀ i, i < j → tr_se N ar i ≤ j) : tr_pa N ar j = none := by
  cases e : tr_pa N ar j with
  | none => rfl
  | some q =>
    obtain ⟨g1, g2, _⟩ := tr_pa_some e
    have := h q g1; omega
theorem tr_pa_ch {s e n c : Nat} (h : tr_wf ar s e) (hN : e ≤ N) (h1 : s ≤ n) (h2 : n < e) (hc : c < ar n) : tr_pa N ar (tr_ch N ar n c) = some n := by
  refine tr_pa_mk ?_ (tr_wf_ch h hN h1 h2 hc) ?_
  · have := tr_ch_ge (N := N) (ar := ar) n c; omega
  · intro i hi hj
    exact tr_in _ c (n + 1) i (Nat.le_refl _) hi hj
theorem tr_find (n j : Nat) (h : n < j) : ∀ k, j < tr_ch N ar n k → ∃ c, c < k ∧ tr_ch N ar n c ≤ j ∧ j < tr_ch N ar n (c + 1) := by
  intro k
  induction k with
  | zero => intro hk; rw [tr_ch_0] at hk; omega
  | succ k ih =>
    intro hk
    rcases Nat.lt_or_ge j (tr_ch N ar n k) with e | e
    · obtain ⟨c, hc, h1, h2⟩ := ih e
      exact ⟨c, by omega, h1, h2⟩
    · exact ⟨k, by omega, e, hk⟩
theorem tr_pa_is {j p : Nat} (hp : p < N) (h : tr_pa N ar j = some p) : ∃ c, c < ar p ∧ j = tr_ch N ar p c := by
  obtain ⟨h1, h2, h3⟩ := tr_pa_some h
  obtain ⟨c, hc, g1, g2⟩ := tr_find p j h1 (ar p) (by rw [← tr_se_ch hp]; exact h2)
  refine ⟨c, hc, ?_⟩
  rcases Nat.eq_or_lt_of_le g1 with e | e
  · exact e.symm
  · have := h3 (tr_ch N ar p c) (by have := tr_ch_ge (N := N) (ar := ar) p c; omega) e
    rw [← tr_ch_s] at this; omega
theorem tr_pa_in {s e j : Nat} (h : tr_wf ar s e) (hN : e ≤ N) (h1 : s < j) (h2 : j < e) : ∃ p, tr_pa N ar j = some p ∧ s ≤ p ∧ p < j := by
  cases hp : tr_pa N ar j with
  | none => have := tr_pa_none hp s h1; rw [tr_wf_se h hN] at this; omega
  | some p =>
    obtain ⟨g1, g2, g3⟩ := tr_pa_some hp
    refine ⟨p, rfl, ?_, g1⟩
    rcases Nat.lt_or_ge p s with e' | e'
    · have := g3 s e' h1; rw [tr_wf_se h hN] at this; omega
    · exact e'
theorem tr_cx_ch {s e n c : Nat} (h : tr_wf ar s e) (hN : e ≤ N) (h1 : s ≤ n) (h2 : n < e) (hc : c < ar n) (h3 : ar n ≤ 3) : tr_cx N ar n (tr_ch N ar n c) = c := by
  have m : ∀ a b, a < b → b < ar n → tr_ch N ar n a < tr_ch N ar n b := fun a b hab hb => by
    have := tr_wf_ch_lt h hN h1 h2 (c := a) (by omega)
    have := tr_ch_le (N := N) (ar := ar) n (a + 1) b (by omega)
    omega
  unfold tr_cx
  rcases (show c = 0 ∨ c = 1 ∨ c = 2 by omega) with e | e | e <;> subst e
  · rw [if_pos rfl]
  · rw [if_neg (by have := m 0 1 (by omega) hc; omega), if_pos rfl]
  · rw [if_neg (by have := m 0 2 (by omega) hc; omega), if_neg (by have := m 1 2 (by omega) hc; omega), if_pos rfl]
theorem tr_ci_ch {s e n c : Nat} (h : tr_wf ar s e) (hN : e ≤ N) (h1 : s ≤ n) (h2 : n < e) (hc : c < ar n) (h3 : ar n ≤ 3) : tr_ci N ar (tr_ch N ar n c) = c := by
  unfold tr_ci
  rw [tr_pa_ch h hN h1 h2 hc]
  exact tr_cx_ch h hN h1 h2 hc h3
/-- a node below the root: its parent, its place there -/
theorem tr_pa_ci {s e j : Nat} (h : tr_wf ar s e) (hN : e ≤ N) (ha : ∀ n, ar n ≤ 3) (h1 : s < j) (h2 : j < e) :
    ∃ p, tr_pa N ar j = some p ∧ s ≤ p ∧ p < j ∧ tr_ci N ar j < ar p ∧ j = tr_ch N ar p (tr_ci N ar j) := by
  obtain ⟨p, hp, g1, g2⟩ := tr_pa_in h hN h1 h2
  obtain ⟨c, hc, e1⟩ := tr_pa_is (by omega) hp
  have e2 := tr_ci_ch h hN g1 (by omega) hc (ha p)
  rw [← e1] at e2
  exact ⟨p, hp, g1, g2, by rw [e2]; exact hc, by rw [e2]; exact e1⟩
-- ancestors
theorem tr_an_self {n : Nat} (h : n < N) : tr_an N ar n n := ⟨Nat.le_refl n, tr_se_gt h⟩
theorem tr_an_pa {p q a : Nat} (hq : q < N) (h : tr_pa N ar q = some p) : tr_an N ar a q ↔ (a = q ∨ tr_an N ar a p) := by
  obtain ⟨h1, h2, h3⟩ := tr_pa_some h
  constructor
  · rintro ⟨g1, g2⟩
    rcases Nat.eq_or_lt_of_le g1 with e | e
    · exact Or.inl e
    · refine Or.inr ⟨?_, by omega⟩
      rcases Nat.lt_or_ge p a with z | z
      · have := h3 a z e; omega
      · exact z
  · rintro (e | ⟨g1, g2⟩)
    · subst e; exact tr_an_self hq
    · have := tr_in_se g1 g2
      exact ⟨by omega, by omega⟩
theorem tr_an_root {q a : Nat} (hq : q < N) (h : tr_pa N ar q = none) : tr_an N ar a q ↔ a = q := by
  constructor
  · rintro ⟨g1, g2⟩
    rcases Nat.eq_or_lt_of_le g1 with e | e
    · exact e
    · have := tr_pa_none h a e; omega
  · intro e; subst e; exact tr_an_self hq
theorem tr_an_tr {a b c : Nat} (h1 : tr_an N ar a b) (h2 : tr_an N ar b c) : tr_an N ar a c := by
  have := tr_in_se h1.1 h1.2
  exact ⟨Nat.le_trans h1.1 h2.1, by have := h2.2; omega⟩
-- folds along the way up
def tr_up {α : Type} (N : Nat) (ar : Nat → Nat) (z : Nat → α) (w : Nat → Nat → α → α) : Nat → Nat → α
  | 0, j => z j
  | t + 1, j => match tr_pa N ar j with
    | none => z j
    | some p => w p j (tr_up N ar z w t p)
def tr_fold {α : Type} (N : Nat) (ar : Nat → Nat) (z : Nat → α) (w : Nat → Nat → α → α) (j : Nat) : α := tr_up N ar z w j j
theorem tr_up_eq {α : Type} (z : Nat → α) (w : Nat → Nat → α → α) : ∀ (t s j : Nat), j ≤ t → j ≤ s → tr_up N ar z w t j = tr_up N ar z w s j := by
  intro t
  induction t with
  | zero =>
    intro s j h1 h2
    have e : j = 0 := by omega
    subst e
    cases s <;> rfl
  | succ t ih =>
    intro s j h1 h2
    cases s with
    | zero =>
      have e : j = 0 := by omega
      subst e
      rfl
    | succ s =>
      rw [tr_up, tr_up]
      cases h : tr_pa N ar j with
      | none => rfl
      | some p =>
        have hp := (tr_pa_some h).1
        show w p j _ = w p j _
        rw [ih s p (by omega) (by omega)]
theorem tr_fold_none {α : Type} {z : Nat → α} {w : Nat → Nat → α → α} {j : Nat} (h : tr_pa N ar j = none) : tr_fold N ar z w j = z j := by
  unfold tr_fold
  cases j with
  | zero => rfl
  | succ j => rw [tr_up, h]
theorem tr_fold_some {α : Type} {z : Nat → α} {w : Nat → Nat → α → α} {j p : Nat} (h : tr_pa N ar j = some p) : tr_fold N ar z w j = w p j (tr_fold N ar z w p) := by
  have hp := (tr_pa_some h).1
  cases j with
  | zero => omega
  | succ j =>
    unfold tr_fold
    rw [tr_up_eq z w p j p (by omega) (by omega), tr_up, h]
end
end
section
section
-- the program: F functions, N nodes, starts bs, arities ar
def pg_be (F N : Nat) (bs : Nat → Nat) (f : Nat) : Nat := if f + 1 < F then bs (f + 1) else N
def pg_wf (F N : Nat) (bs ar : Nat → Nat) : Prop :=
  0 < F ∧ N ≤ 64 ∧ (∀ n, ar n ≤ 3) ∧ bs 0 = 0 ∧ ∀ f, f < F → tr_wf ar (bs f) (pg_be F N bs f)
def pg_fd (bs : Nat → Nat) (j : Nat) : Nat → Nat
  | 0 => 0
  | k + 1 => if bs k ≤ j then k else pg_fd bs j k
def pg_fn (F : Nat) (bs : Nat → Nat) (j : Nat) : Nat := pg_fd bs j F
variable {F N : Nat} {bs ar : Nat → Nat}
theorem pg_mono (h : pg_wf F N bs ar) : ∀ (g f : Nat), f < g → g < F → pg_be F N bs f ≤ bs g := by
  intro g
  induction g with
  | zero => intro f h1 _; omega
  | succ g ih =>
    intro f h1 h2
    rcases Nat.eq_or_lt_of_le (Nat.le_of_lt_succ h1) with e | e
    · subst e; unfold pg_be; rw [if_pos h2]; exact Nat.le_refl _
    · have h3 := ih f e (by omega)
      have h4 := (h.2.2.2.2 g (by omega)).1
      unfold pg_be at h4; rw [if_pos h2] at h4
      omega
theorem pg_lastN (h : pg_wf F N bs ar) {f : Nat} (hf : f < F) : pg_be F N bs f ≤ N := by
  have h1 := (h.2.2.2.2 (F - 1) (by omega)).1
  have e1 : pg_be F N bs (F - 1) = N := by unfold pg_be; rw [if_neg (by omega)]
  rcases Nat.lt_or_ge f (F - 1) with e | e
  · have := pg_mono h (F - 1) f e (by omega); omega
  · rw [show f = F - 1 by omega, e1]; exact Nat.le_refl _
theorem pg_fd_lt {j : Nat} : ∀ k, 0 < k → pg_fd bs j k < k
  | 0, h => by omega
  | k + 1, _ => by
    rw [pg_fd]
    split
    · omega
    · cases k with
      | zero => exact Nat.zero_lt_one
      | succ k => have := pg_fd_lt (j := j) (k + 1) (by omega); omega
theorem pg_fd_is {j f : Nat} (h1 : bs f ≤ j) : ∀ k, f < k → (∀ g, f < g → g < k → j < bs g) → pg_fd bs j k = f := by
  intro k
  induction k with
  | zero => intro h; omega
  | succ k ih =>
    intro h2 h3
    rw [pg_fd]
    rcases Nat.eq_or_lt_of_le (Nat.le_of_lt_succ h2) with e | e
    · subst e; rw [if_pos h1]
    · rw [if_neg (by have := h3 k e (by omega); omega)]
      exact ih e (fun g g1 g2 => h3 g g1 (by omega))
theorem pg_fn_is (h : pg_wf F N bs ar) {f j : Nat} (hf : f < F) (h1 : bs f ≤ j) (h2 : j < pg_be F N bs f) : pg_fn F bs j = f :=
  pg_fd_is h1 F hf (fun g g1 g2 => Nat.lt_of_lt_of_le h2 (pg_mono h g f g1 g2))
theorem pg_in (h : pg_wf F N bs ar) {j : Nat} (hj : j < N) : ∃ f, f < F ∧ bs f ≤ j ∧ j < pg_be F N bs f ∧ pg_fn F bs j = f := by
  have key : ∀ k, 0 < k → k ≤ F → ∃ f, f < k ∧ bs f ≤ j ∧ (f + 1 < k → j < bs (f + 1)) := by
    intro k
    induction k with
    | zero => intro h; omega
    | succ k ih =>
      intro _ hk
      cases k with
      | zero => exact ⟨0, by omega, by rw [h.2.2.2.1]; omega, fun z => by omega⟩
      | succ k =>
        rcases Nat.lt_or_ge j (bs (k + 1)) with e | e
        · obtain ⟨f, f1, f2, f3⟩ := ih (by omega) (by omega)
          refine ⟨f, by omega, f2, fun z => ?_⟩
          rcases Nat.lt_or_ge (f + 1) (k + 1) with e2 | e2
          · exact f3 e2
          · rw [show f + 1 = k + 1 by omega]; exact e
        · exact ⟨k + 1, by omega, e, fun z => by omega⟩
  obtain ⟨f, f1, f2, f3⟩ := key F h.1 (Nat.le_refl F)
  have f4 : j < pg_be F N bs f := by
    unfold pg_be
    split
    · rename_i z; exact f3 z
    · exact hj
  exact ⟨f, f1, f2, f4, pg_fn_is h f1 f2 f4⟩
theorem pg_root (h : pg_wf F N bs ar) {f : Nat} (hf : f < F) : tr_pa N ar (bs f) = none := by
  refine tr_pa_no fun i hi => ?_
  have hb := (h.2.2.2.2 f hf).1
  have hN := pg_lastN h hf
  obtain ⟨g, g1, g2, g3, _⟩ := pg_in h (j := i) (by omega)
  have g5 := tr_wf_in (N := N) (h.2.2.2.2 g g1) (pg_lastN h g1) g2 g3
  rcases Nat.lt_or_ge g f with e | e
  · have := pg_mono h f g e hf; omega
  · rcases Nat.eq_or_lt_of_le e with e | e
    · subst e; omega
    · have := pg_mono h g f e g1; omega
/-- a node is its function's root, or the child of a node of the same function -/
theorem pg_case (h : pg_wf F N bs ar) {j : Nat} (hj : j < N) :
    (tr_pa N ar j = none ∧ j = bs (pg_fn F bs j) ∧ pg_fn F bs j < F) ∨
    (∃ p, tr_pa N ar j = some p ∧ p < j ∧ pg_fn F bs p = pg_fn F bs j ∧ tr_ci N ar j < ar p ∧ j = tr_ch N ar p (tr_ci N ar j) ∧ tr_cx N ar p j = tr_ci N ar j) := by
  obtain ⟨f, f1, f2, f3, f4⟩ := pg_in h hj
  have hw := h.2.2.2.2 f f1
  have hN := pg_lastN h f1
  rcases Nat.eq_or_lt_of_le f2 with e | e
  · refine Or.inl ⟨?_, ?_, ?_⟩
    · rw [← e]; exact pg_root h f1
    · rw [f4, e]
    · rw [f4]; exact f1
  · obtain ⟨p, p1, p2, p3, p4, p5⟩ := tr_pa_ci hw hN h.2.2.1 e f3
    refine Or.inr ⟨p, p1, p3, ?_, p4, p5, ?_⟩
    · rw [f4]; exact pg_fn_is h f1 p2 (by omega)
    · unfold tr_ci; rw [p1]
theorem pg_body (h : pg_wf F N bs ar) {j : Nat} (hj : j < N) : pg_fn F bs j < F ∧ bs (pg_fn F bs j) ≤ j ∧ j < pg_be F N bs (pg_fn F bs j) ∧ pg_be F N bs (pg_fn F bs j) ≤ N := by
  obtain ⟨f, f1, f2, f3, f4⟩ := pg_in h hj
  rw [f4]; exact ⟨f1, f2, f3, pg_lastN h f1⟩
/-- the child c of a node -/
theorem pg_ch (h : pg_wf F N bs ar) {n c : Nat} (hn : n < N) (hc : c < ar n) :
    tr_ch N ar n c < N ∧ n < tr_ch N ar n c ∧ tr_pa N ar (tr_ch N ar n c) = some n ∧ tr_ci N ar (tr_ch N ar n c) = c ∧ tr_cx N ar n (tr_ch N ar n c) = c ∧ tr_ch N ar n c < tr_se N ar n ∧ pg_fn F bs (tr_ch N ar n c) = pg_fn F bs n := by
  obtain ⟨f1, f2, f3, f4⟩ := pg_body h hn
  have hw := h.2.2.2.2 _ f1
  have a1 := tr_wf_ch hw f4 f2 f3 hc
  have a2 := tr_wf_in hw f4 f2 f3
  have a3 := tr_ch_ge (N := N) (ar := ar) n c
  exact ⟨by omega, by omega, tr_pa_ch hw f4 f2 f3 hc, tr_ci_ch hw f4 f2 f3 hc (h.2.2.1 n), tr_cx_ch hw f4 f2 f3 hc (h.2.2.1 n), a1, pg_fn_is h f1 (by omega) (by omega)⟩
-- scopes
def sq_cv (N : Nat) (ar kd : Nat → Nat) (p j : Nat) : Nat :=
  if tr_cx N ar p j = 2 then (if kd p = 6 then 1 else if kd p = 7 then 2 else 0) else 0
def sq_sc (N : Nat) (ar kd z : Nat → Nat) (j : Nat) : Nat := tr_fold N ar z (fun p j s => s + sq_cv N ar kd p j) j
variable {kd z : Nat → Nat}
theorem sq_none {j : Nat} (h : tr_pa N ar j = none) : sq_sc N ar kd z j = z j := tr_fold_none h
theorem sq_some {j p : Nat} (h : tr_pa N ar j = some p) : sq_sc N ar kd z j = sq_sc N ar kd z p + sq_cv N ar kd p j := tr_fold_some h
theorem sq_cv_le (p j : Nat) : sq_cv N ar kd p j ≤ 2 := by
  unfold sq_cv
  split
  · split
    · omega
    · split <;> omega
  · omega
theorem sq_an : ∀ (n a : Nat), n < N → tr_an N ar a n → sq_sc N ar kd z a ≤ sq_sc N ar kd z n := by
  intro n
  induction n using Nat.strongRecOn with
  | _ n ih =>
    intro a hn h
    cases hp : tr_pa N ar n with
    | none => rw [(tr_an_root hn hp).mp h]; exact Nat.le_refl _
    | some p =>
      rcases (tr_an_pa hn hp).mp h with e | e
      · rw [e]; exact Nat.le_refl _
      · have h1 := (tr_pa_some hp).1
        have := ih p h1 a (by omega) e
        rw [sq_some hp]; omega
/-- the levels fit: three nodes for two levels -/
theorem sq_le (h : pg_wf F N bs ar) : ∀ (n : Nat), n < N → 3 * sq_sc N ar kd z n ≤ 3 * z (bs (pg_fn F bs n)) + 2 * (n - bs (pg_fn F bs n)) := by
  intro n
  induction n using Nat.strongRecOn with
  | _ n ih =>
    intro hn
    rcases pg_case h hn with ⟨h1, h2, h3⟩ | ⟨p, h1, h2, h3, h4, h5, h6⟩
    · rw [sq_none h1, ← h2]; omega
    · have hi := ih p h2 (by omega)
      have hb := pg_body h (j := p) (by omega)
      rw [sq_some h1]
      rw [h3] at hi hb
      unfold sq_cv
      rw [h6]
      split
      · rename_i e
        have a1 := pg_ch h (n := p) (c := 0) (by omega) (by omega)
        have a2 := pg_ch h (n := p) (c := 1) (by omega) (by omega)
        have e0 : tr_ch N ar p 1 = tr_se N ar (tr_ch N ar p 0) := tr_ch_s p 0
        have e1 : tr_ch N ar p 2 = tr_se N ar (tr_ch N ar p 1) := tr_ch_s p 1
        have g0 := tr_se_gt (N := N) (ar := ar) a1.1
        have g1 := tr_se_gt (N := N) (ar := ar) a2.1
        rw [e] at h5
        have : p + 3 ≤ n := by omega
        split
        · omega
        · split <;> omega
      · omega
-- types of levels
def ty_ty (N : Nat) (ar kd z : Nat → Nat) (pt : Nat → Nat → Nat) (j : Nat) : Nat → Nat :=
  tr_fold N ar pt (fun p j g => if sq_cv N ar kd p j = 0 then g else fun x => if x = sq_sc N ar kd z p then (0 : Nat) else if x = sq_sc N ar kd z p + 1 then 1 else g x) j
variable {pt : Nat → Nat → Nat}
theorem ty_none {j : Nat} (h : tr_pa N ar j = none) : ty_ty N ar kd z pt j = pt j := tr_fold_none h
theorem ty_some {j p : Nat} (h : tr_pa N ar j = some p) : ty_ty N ar kd z pt j = (if sq_cv N ar kd p j = 0 then ty_ty N ar kd z pt p else fun x => if x = sq_sc N ar kd z p then (0 : Nat) else if x = sq_sc N ar kd z p + 1 then 1 else ty_ty N ar kd z pt p x) := tr_fold_some h
theorem ty_pa {j p x : Nat} (h : tr_pa N ar j = some p) (hx : x < sq_sc N ar kd z p) : ty_ty N ar kd z pt j x = ty_ty N ar kd z pt p x := by
  rw [ty_some h]
  split
  · rfl
  · show (if x = _ then (0 : Nat) else if x = _ then 1 else _) = _
    rw [if_neg (by omega), if_neg (by omega)]
theorem ty_an : ∀ (n a x : Nat), n < N → tr_an N ar a n → x < sq_sc N ar kd z a → ty_ty N ar kd z pt n x = ty_ty N ar kd z pt a x := by
  intro n
  induction n using Nat.strongRecOn with
  | _ n ih =>
    intro a x hn h hx
    cases hp : tr_pa N ar n with
    | none => rw [(tr_an_root hn hp).mp h]
    | some p =>
      rcases (tr_an_pa hn hp).mp h with e | e
      · rw [e]
      · have h1 := (tr_pa_some hp).1
        have h2 := sq_an (kd := kd) (z := z) p a (by omega) e
        rw [ty_pa hp (by omega)]
        exact ih p h1 a x (by omega) e hx
end
end
section
section
-- a list as the number that both sides keep: its length lowest, then its elements, four bits each
def vl_dig : List Nat → Nat
  | [] => 0
  | h :: t => h + 16 * vl_dig t
def vl_enc (l : List Nat) : Nat := l.length + 16 * vl_dig l
def vl_ok (M : Nat) (l : List Nat) : Prop := l.length ≤ M ∧ ∀ x, x ∈ l → x ≤ M
/-- a value of a type: 0 for numbers, else lists -/
def vl_V (M ty : Nat) (v : Int64) : Prop := (ty = 0 → ∃ k, k ≤ M ∧ v = lN k) ∧ (ty ≠ 0 → ∃ l, vl_ok M l ∧ v = lN (vl_enc l))
theorem vl_nat {M k : Nat} (h : k ≤ M) : vl_V M 0 (lN k) := ⟨fun _ => ⟨k, h, rfl⟩, fun z => absurd rfl z⟩
theorem vl_list {M ty : Nat} {l : List Nat} (ht : ty ≠ 0) (h : vl_ok M l) : vl_V M ty (lN (vl_enc l)) := ⟨fun z => absurd z ht, fun _ => ⟨l, h, rfl⟩⟩
theorem vl_nil_ok (M : Nat) : vl_ok M [] := ⟨Nat.zero_le _, fun x hx => by cases hx⟩
theorem vl_tail_ok {M h : Nat} {t : List Nat} (H : vl_ok M (h :: t)) : vl_ok M t :=
  ⟨by have := H.1; simp only [List.length_cons] at this; omega, fun x hx => H.2 x (List.mem_cons_of_mem _ hx)⟩
theorem vl_head_le {M h : Nat} {t : List Nat} (H : vl_ok M (h :: t)) : h ≤ M := H.2 h (List.mem_cons_self)
theorem vl_cons_ok {M h : Nat} {t : List Nat} (H : vl_ok M t) (h1 : h ≤ M) (h2 : t.length < M) : vl_ok M (h :: t) := by
  refine ⟨by simp only [List.length_cons]; omega, fun x hx => ?_⟩
  rcases List.mem_cons.mp hx with e | e
  · rw [e]; exact h1
  · exact H.2 x e
theorem vl_dig_lt : ∀ (l : List Nat), (∀ x, x ∈ l → x < 16) → vl_dig l < 16 ^ l.length
  | [], _ => by simp [vl_dig]
  | h :: t, H => by
    have h1 := H h List.mem_cons_self
    have h2 := vl_dig_lt t (fun x hx => H x (List.mem_cons_of_mem _ hx))
    rw [vl_dig, List.length_cons, Nat.pow_succ]
    generalize 16 ^ t.length = q at h2 ⊢
    omega
theorem vl_enc_lt {M : Nat} (hM : M ≤ 12) {l : List Nat} (h : vl_ok M l) : vl_enc l < 2 ^ 53 := by
  have h1 := vl_dig_lt l (fun x hx => by have := h.2 x hx; omega)
  have h2 : 16 ^ l.length ≤ 16 ^ 12 := Nat.pow_le_pow_right (by omega) (by have := h.1; omega)
  have h3 := h.1
  have e : (16 : Nat) ^ 12 = 281474976710656 := by decide
  unfold vl_enc
  rw [e] at h2
  have : (2 : Nat) ^ 53 = 9007199254740992 := by decide
  omega
theorem vl_len {M : Nat} (hM : M ≤ 12) {l : List Nat} (h : vl_ok M l) : vl_enc l % 16 = l.length := by
  have := h.1; unfold vl_enc; omega
theorem vl_cons_n {M x : Nat} (hM : M ≤ 12) {l : List Nat} (h : vl_ok M l) : (vl_enc l / 16 * 16 + x) * 16 + (vl_enc l % 16 + 1) = vl_enc (x :: l) := by
  have := h.1
  rw [vl_len hM h]
  unfold vl_enc
  rw [List.length_cons, vl_dig]
  omega
theorem vl_head_n {M x : Nat} (hM : M ≤ 12) {l : List Nat} (h : vl_ok M (x :: l)) : vl_enc (x :: l) / 16 % 16 = x := by
  have h1 := vl_head_le h
  have h2 := h.1
  unfold vl_enc
  rw [vl_dig]
  omega
theorem vl_tail_n {M x : Nat} (hM : M ≤ 12) {l : List Nat} (h : vl_ok M (x :: l)) : vl_enc (x :: l) / 256 * 16 + (vl_enc (x :: l) % 16 - 1) = vl_enc l := by
  have h1 := vl_head_le h
  have h2 := h.1
  rw [vl_len hM h]
  unfold vl_enc
  rw [vl_dig]
  simp only [List.length_cons] at h2 ⊢
  omega
end
end
section
section
-- numbers cut at C
def bd_c (C a : Nat) : Nat := if a ≤ C then a else C
theorem bd_c_le (C a : Nat) : bd_c C a ≤ C := by unfold bd_c; split <;> omega
theorem bd_c_of {C a : Nat} (h : a ≤ C) : bd_c C a = a := by unfold bd_c; rw [if_pos h]
theorem bd_c_top {C a : Nat} (h : C ≤ a) : bd_c C a = C := by unfold bd_c; split <;> omega
theorem bd_add (C a b : Nat) : bd_c C (bd_c C a + b) = bd_c C (a + b) := by
  unfold bd_c; split <;> (try split) <;> (try split) <;> omega
theorem bd_add2 (C a b : Nat) : bd_c C (a + bd_c C b) = bd_c C (a + b) := by
  rw [Nat.add_comm, bd_add, Nat.add_comm]
theorem bd_mul (C a b : Nat) : bd_c C (bd_c C a * b) = bd_c C (a * b) := by
  rcases Nat.lt_or_ge C a with h | h
  · cases b with
    | zero => rfl
    | succ b =>
      have h1 : C ≤ C * (b + 1) := Nat.le_mul_of_pos_right _ (by omega)
      have h2 : a ≤ a * (b + 1) := Nat.le_mul_of_pos_right _ (by omega)
      rw [bd_c_top (Nat.le_of_lt h), bd_c_top h1, bd_c_top (by omega)]
  · rw [bd_c_of h]
theorem bd_mul2 (C a b : Nat) : bd_c C (a * bd_c C b) = bd_c C (a * b) := by
  rw [Nat.mul_comm, bd_mul, Nat.mul_comm]
theorem bd_cc (C a : Nat) : bd_c C (bd_c (C + 1) a) = bd_c C a := by
  by_cases h : a ≤ C + 1
  · rw [bd_c_of h]
  · rw [bd_c_top (C := C + 1) (a := a) (by omega), bd_c_top (C := C) (a := C + 1) (by omega), bd_c_top (C := C) (a := a) (by omega)]
/-- the sum of the first i powers of r -/
def bd_S (r : Nat) : Nat → Nat
  | 0 => 0
  | i + 1 => bd_S r i + r ^ i
theorem bd_S_pos (r i : Nat) (h : 0 < i) : 0 < bd_S r i := by
  induction i with
  | zero => omega
  | succ i ih =>
    rw [bd_S]
    cases i with
    | zero => simp [bd_S]
    | succ i => have := ih (by omega); omega
def bd_in (cc T : Nat → Nat) : Nat → Nat
  | 0 => 1
  | k + 1 => bd_in cc T k + cc k * T k
theorem bd_in_pos (cc T : Nat → Nat) : ∀ k, 0 < bd_in cc T k
  | 0 => Nat.zero_lt_one
  | k + 1 => by have := bd_in_pos cc T k; rw [bd_in]; omega
def bd_tab (cnt : Nat → Nat → Nat) (L : Nat → Nat) : Nat → Nat → Nat
  | 0, _ => 0
  | f + 1, g => if g = f then bd_S (cnt f f) (L f) * bd_in (cnt f) (bd_tab cnt L f) f else bd_tab cnt L f g
end
end
section
section
def fx_sh (d : Int) (o : Option (Nat × Int)) : Option (Nat × Int) := match o with
  | none => none
  | some (j, k) => some (j, k + d)
/-- the fact of the expression at c, by the facts g of the levels -/
def fx_ex (N : Nat) (ar kd ag : Nat → Nat) (g : Nat → Option (Nat × Int)) : Nat → Nat → Option (Nat × Int)
  | 0, _ => none
  | t + 1, c => if kd c = 0 then g (ag c) else if kd c = 2 then fx_sh (-1) (fx_ex N ar kd ag g t (c + 1)) else if kd c = 4 then fx_sh (-1) (fx_ex N ar kd ag g t (tr_ch N ar c 1)) else none
def fx_e (N : Nat) (ar kd ag : Nat → Nat) (g : Nat → Option (Nat × Int)) (c : Nat) : Option (Nat × Int) := fx_ex N ar kd ag g (N - c) c
/-- the facts of the levels at a node -/
def fx_l (N : Nat) (ar kd ag z : Nat → Nat) (j : Nat) : Nat → Option (Nat × Int) :=
  tr_fold N ar (fun j x => if x < z j then some (x, (0 : Int)) else none)
    (fun p j g => if sq_cv N ar kd p j = 0 then g else fun x =>
      if x = sq_sc N ar kd z p then (if sq_cv N ar kd p j = 1 then fx_sh 1 (fx_e N ar kd ag g (p + 1)) else none)
      else if x = sq_sc N ar kd z p + 1 then fx_sh 1 (fx_e N ar kd ag g (p + 1)) else g x) j
/-- the binder of a level: 4 * its node + which of its variables -/
def fx_b (N : Nat) (ar kd z : Nat → Nat) (j : Nat) : Nat → Option Nat :=
  tr_fold N ar (fun _ _ => none)
    (fun p j g => if sq_cv N ar kd p j = 0 then g else fun x =>
      if x = sq_sc N ar kd z p then (if sq_cv N ar kd p j = 1 then some (p * 4) else some (p * 4 + 1))
      else if x = sq_sc N ar kd z p + 1 ∧ sq_cv N ar kd p j = 2 then some (p * 4 + 2) else g x) j
variable {F N : Nat} {bs ar kd ag z : Nat → Nat}
theorem fx_ex_t (g : Nat → Option (Nat × Int)) : ∀ (t s c : Nat), N - c ≤ t → N - c ≤ s → c < N → (∀ d, c ≤ d → d < N → (kd d = 2 → d + 1 < N) ∧ (kd d = 4 → tr_ch N ar d 1 < N)) → fx_ex N ar kd ag g t c = fx_ex N ar kd ag g s c := by
  intro t
  induction t with
  | zero => intro s c h1 _ h3 _; omega
  | succ t ih =>
    intro s c h1 h2 h3 h4
    cases s with
    | zero => omega
    | succ s =>
      rw [fx_ex, fx_ex]
      have g1 := tr_ch_ge (N := N) (ar := ar) c 1
      split
      · rfl
      · split
        · rename_i k
          have := (h4 c (Nat.le_refl c) h3).1 k
          rw [ih s (c + 1) (by omega) (by omega) this (fun d d1 d2 => h4 d (by omega) d2)]
        · split
          · rename_i k
            have := (h4 c (Nat.le_refl c) h3).2 k
            rw [ih s (tr_ch N ar c 1) (by omega) (by omega) this (fun d d1 d2 => h4 d (by omega) d2)]
          · rfl
theorem fx_l_none {j : Nat} (h : tr_pa N ar j = none) (x : Nat) : fx_l N ar kd ag z j x = if x < z j then some (x, (0 : Int)) else none := by
  unfold fx_l; rw [tr_fold_none h]
theorem fx_l_0 {j p : Nat} (h : tr_pa N ar j = some p) (hc : sq_cv N ar kd p j = 0) : fx_l N ar kd ag z j = fx_l N ar kd ag z p := by
  unfold fx_l; rw [tr_fold_some h]; simp only [hc, if_true]
theorem fx_b_0 {j p : Nat} (h : tr_pa N ar j = some p) (hc : sq_cv N ar kd p j = 0) : fx_b N ar kd z j = fx_b N ar kd z p := by
  unfold fx_b; rw [tr_fold_some h]; simp only [hc, if_true]
theorem fx_l_s {j p : Nat} (h : tr_pa N ar j = some p) (hc : sq_cv N ar kd p j ≠ 0) (x : Nat) : fx_l N ar kd ag z j x =
    (if x = sq_sc N ar kd z p then (if sq_cv N ar kd p j = 1 then fx_sh 1 (fx_e N ar kd ag (fx_l N ar kd ag z p) (p + 1)) else none)
      else if x = sq_sc N ar kd z p + 1 then fx_sh 1 (fx_e N ar kd ag (fx_l N ar kd ag z p) (p + 1)) else fx_l N ar kd ag z p x) := by
  conv => lhs; unfold fx_l
  rw [tr_fold_some h]; simp only [hc, if_false]; rfl
theorem fx_b_s {j p : Nat} (h : tr_pa N ar j = some p) (hc : sq_cv N ar kd p j ≠ 0) (x : Nat) : fx_b N ar kd z j x =
    (if x = sq_sc N ar kd z p then (if sq_cv N ar kd p j = 1 then some (p * 4) else some (p * 4 + 1))
      else if x = sq_sc N ar kd z p + 1 ∧ sq_cv N ar kd p j = 2 then some (p * 4 + 2) else fx_b N ar kd z p x) := by
  conv => lhs; unfold fx_b
  rw [tr_fold_some h]; simp only [hc, if_false]; rfl
/-- what a level's binder says of its fact -/
theorem fx_bind (h : pg_wf F N bs ar) : ∀ (n x : Nat), n < N → x < sq_sc N ar kd z n →
    (x < z (bs (pg_fn F bs n)) → fx_l N ar kd ag z n x = some (x, 0) ∧ fx_b N ar kd z n x = none) ∧
    (z (bs (pg_fn F bs n)) ≤ x → ∃ b q, tr_pa N ar q = some b ∧ tr_cx N ar b q = 2 ∧ tr_an N ar q n ∧
      ((kd b = 6 ∧ fx_b N ar kd z n x = some (b * 4) ∧ fx_l N ar kd ag z n x = fx_sh 1 (fx_e N ar kd ag (fx_l N ar kd ag z b) (b + 1))) ∨
       (kd b = 7 ∧ fx_b N ar kd z n x = some (b * 4 + 1) ∧ fx_l N ar kd ag z n x = none) ∨
       (kd b = 7 ∧ fx_b N ar kd z n x = some (b * 4 + 2) ∧ fx_l N ar kd ag z n x = fx_sh 1 (fx_e N ar kd ag (fx_l N ar kd ag z b) (b + 1))))) := by
  intro n
  induction n using Nat.strongRecOn with
  | _ n ih =>
    intro x hn hx
    rcases pg_case h hn with ⟨h1, h2, h3⟩ | ⟨p, h1, h2, h3, h4, h5, h6⟩
    · rw [sq_none h1, h2] at hx
      rw [← h2] at hx
      refine ⟨fun z1 => ⟨?_, ?_⟩, fun z1 => ?_⟩
      · rw [fx_l_none h1, if_pos (by rw [← h2] at z1; exact z1)]
      · unfold fx_b; rw [tr_fold_none h1]
      · rw [← h2] at z1; omega
    · have hs := sq_some (kd := kd) (z := z) h1
      have hzp : z (bs (pg_fn F bs p)) ≤ sq_sc N ar kd z p := by
        have hb := pg_body h (j := p) (by omega)
        have hr := pg_root h hb.1
        have ha : tr_an N ar (bs (pg_fn F bs p)) p := ⟨hb.2.1, by rw [tr_wf_se (h.2.2.2.2 _ hb.1) hb.2.2.2]; exact hb.2.2.1⟩
        have := sq_an (kd := kd) (z := z) p _ (by omega) ha
        rw [sq_none hr] at this; exact this
      rcases Nat.lt_or_ge x (sq_sc N ar kd z p) with hxp | hxp
      · have hi := ih p h2 x (by omega) hxp
        rw [h3] at hi
        have el : fx_l N ar kd ag z n x = fx_l N ar kd ag z p x := by
          by_cases hc : sq_cv N ar kd p n = 0
          · rw [fx_l_0 h1 hc]
          · rw [fx_l_s h1 hc, if_neg (by omega), if_neg (by omega)]
        have eb : fx_b N ar kd z n x = fx_b N ar kd z p x := by
          by_cases hc : sq_cv N ar kd p n = 0
          · rw [fx_b_0 h1 hc]
          · rw [fx_b_s h1 hc, if_neg (by omega), if_neg (by omega)]
        rw [el, eb]
        refine ⟨hi.1, fun z1 => ?_⟩
        obtain ⟨b, q, b1, b2, b3, b4⟩ := hi.2 z1
        exact ⟨b, q, b1, b2, (tr_an_pa hn h1).mpr (Or.inr b3), b4⟩
      · rw [h3] at hzp
        refine ⟨fun z1 => by omega, fun _ => ?_⟩
        have hc : sq_cv N ar kd p n ≠ 0 := by omega
        rw [fx_l_s h1 hc, fx_b_s h1 hc]
        refine ⟨p, n, h1, ?_, tr_an_self hn, ?_⟩
        · unfold sq_cv at hc
          split at hc
          · assumption
          · exact absurd rfl hc
        · have hk : (kd p = 6 ∧ sq_cv N ar kd p n = 1) ∨ (kd p = 7 ∧ sq_cv N ar kd p n = 2) := by
            unfold sq_cv at hc ⊢
            split at hc
            · rename_i e; rw [if_pos e]
              split at hc
              · rename_i e2; exact Or.inl ⟨e2, by rw [if_pos e2]⟩
              · rename_i e2
                split at hc
                · rename_i e3; exact Or.inr ⟨e3, by rw [if_neg e2, if_pos e3]⟩
                · exact absurd rfl hc
            · exact absurd rfl hc
          rcases hk with ⟨k1, k2⟩ | ⟨k1, k2⟩
          · have ex : x = sq_sc N ar kd z p := by omega
            rw [if_pos ex, if_pos ex, if_pos k2, if_pos k2]
            exact Or.inl ⟨k1, rfl, rfl⟩
          · rcases (show x = sq_sc N ar kd z p ∨ x = sq_sc N ar kd z p + 1 by omega) with ex | ex
            · rw [if_pos ex, if_pos ex, if_neg (by omega), if_neg (by omega)]
              exact Or.inr (Or.inl ⟨k1, rfl, rfl⟩)
            · have hne : ¬ x = sq_sc N ar kd z p := by omega
              have h12 : x = sq_sc N ar kd z p + 1 ∧ sq_cv N ar kd p n = 2 := ⟨ex, k2⟩
              simp only [if_neg hne, if_pos ex, if_pos h12]
              exact Or.inr (Or.inr ⟨k1, by trivial, by trivial⟩)
end
end
section
section
def mc_td (N : Nat) (ar : Nat → Nat) (j : Nat) : Nat := tr_fold N ar (fun _ => 0) (fun _ _ s => s + 1) j
def mc_pw (N : Nat) (ar kd : Nat → Nat) (p j : Nat) : Nat := if kd p = 4 ∨ kd p = 5 then tr_cx N ar p j else 0
def mc_pn (N : Nat) (ar kd : Nat → Nat) (j : Nat) : Nat := tr_fold N ar (fun _ => 0) (fun p j s => s + mc_pw N ar kd p j) j
variable {F N M : Nat} {bs ar kd z : Nat → Nat} {pt : Nat → Nat → Nat} {et : Nat → Nat}
theorem mc_td_none {j : Nat} (h : tr_pa N ar j = none) : mc_td N ar j = 0 := tr_fold_none h
theorem mc_td_some {j p : Nat} (h : tr_pa N ar j = some p) : mc_td N ar j = mc_td N ar p + 1 := tr_fold_some h
theorem mc_pn_none {j : Nat} (h : tr_pa N ar j = none) : mc_pn N ar kd j = 0 := tr_fold_none h
theorem mc_pn_some {j p : Nat} (h : tr_pa N ar j = some p) : mc_pn N ar kd j = mc_pn N ar kd p + mc_pw N ar kd p j := tr_fold_some h
/-- the stacks stay small: a node on the path or a value in hand has a node of its own -/
theorem mc_fit (h : pg_wf F N bs ar) : ∀ n, n < N → mc_td N ar n + mc_pn N ar kd n ≤ n - bs (pg_fn F bs n) := by
  intro n
  induction n using Nat.strongRecOn with
  | _ n ih =>
    intro hn
    rcases pg_case h hn with ⟨h1, h2, h3⟩ | ⟨p, h1, h2, h3, h4, h5, h6⟩
    · rw [mc_td_none h1, mc_pn_none h1]; omega
    · have hi := ih p h2 (by omega)
      have hb := pg_body h (j := p) (by omega)
      rw [h3] at hi hb
      rw [mc_td_some h1, mc_pn_some h1]
      have hc : ∀ c, c < ar p → p + 1 + c ≤ tr_ch N ar p c := by
        intro c
        induction c with
        | zero => intro _; rw [tr_ch_0]; omega
        | succ c ihc =>
          intro hc
          have a1 := pg_ch h (n := p) (c := c) (by omega) (by omega)
          have a2 := tr_se_gt (N := N) (ar := ar) a1.1
          have a3 := ihc (by omega)
          rw [tr_ch_s]; omega
      have h7 := hc _ h4
      rw [← h5] at h7
      unfold mc_pw
      rw [h6]
      split <;> omega
theorem mc_td_an : ∀ (n a : Nat), n < N → tr_an N ar a n → mc_td N ar a ≤ mc_td N ar n := by
  intro n
  induction n using Nat.strongRecOn with
  | _ n ih =>
    intro a hn h
    cases hp : tr_pa N ar n with
    | none => rw [(tr_an_root hn hp).mp h]; exact Nat.le_refl _
    | some p =>
      rcases (tr_an_pa hn hp).mp h with e | e
      · rw [e]; exact Nat.le_refl _
      · have h1 := (tr_pa_some hp).1
        have := ih p h1 a (by omega) e
        rw [mc_td_some hp]; omega
theorem mc_pn_an : ∀ (n a : Nat), n < N → tr_an N ar a n → mc_pn N ar kd a ≤ mc_pn N ar kd n := by
  intro n
  induction n using Nat.strongRecOn with
  | _ n ih =>
    intro a hn h
    cases hp : tr_pa N ar n with
    | none => rw [(tr_an_root hn hp).mp h]; exact Nat.le_refl _
    | some p =>
      rcases (tr_an_pa hn hp).mp h with e | e
      · rw [e]; exact Nat.le_refl _
      · have h1 := (tr_pa_some hp).1
        have := ih p h1 a (by omega) e
        rw [mc_pn_some hp]; omega
/-- one activation at its node n: the reference's stacks (from wb, vb, eb on) against the cells of the class (lb, nb), and the types of what they hold -/
def mc_path (N M : Nat) (ar kd z : Nat → Nat) (pt : Nat → Nat → Nat) (et : Nat → Nat) (wN wS : Nat → Int32) (vals env lv nv : Nat → Int64) (wb vb eb lb nb n : Nat) : Prop :=
  (∀ a p, tr_an N ar a n → tr_pa N ar a = some p → wN (wb + mc_td N ar p) = nI p ∧ wS (wb + mc_td N ar p) = nI (tr_ci N ar a + 1)) ∧
  (∀ a p c, tr_an N ar a n → tr_pa N ar a = some p → (kd p = 4 ∨ kd p = 5) → c < tr_ci N ar a →
    vals (vb + mc_pn N ar kd p + c) = nv (nb + tr_ch N ar p c) ∧ vl_V M (et (tr_ch N ar p c)) (nv (nb + tr_ch N ar p c))) ∧
  (∀ x, x < sq_sc N ar kd z n → env (eb + x) = lv (lb + x) ∧ vl_V M (ty_ty N ar kd z pt n x) (lv (lb + x)))
variable {wN wS wN' wS' : Nat → Int32} {vals env lv nv vals' env' lv' nv' : Nat → Int64} {wb vb eb lb nb : Nat}
theorem mc_up {q p : Nat} (hq : q < N) (h : tr_pa N ar q = some p) (H : mc_path N M ar kd z pt et wN wS vals env lv nv wb vb eb lb nb q) : mc_path N M ar kd z pt et wN wS vals env lv nv wb vb eb lb nb p := by
  obtain ⟨h1, h2, h3⟩ := H
  refine ⟨fun a b ha hb => h1 a b ((tr_an_pa hq h).mpr (Or.inr ha)) hb, fun a b c ha hb => h2 a b c ((tr_an_pa hq h).mpr (Or.inr ha)) hb, fun x hx => ?_⟩
  have := h3 x (by rw [sq_some h]; omega)
  rw [ty_pa h hx] at this
  exact this
theorem mc_ci_pw (h : pg_wf F N bs ar) {a p : Nat} (ha : a < N) (hp : tr_pa N ar a = some p) (hk : kd p = 4 ∨ kd p = 5) : mc_pn N ar kd a = mc_pn N ar kd p + tr_ci N ar a := by
  rw [mc_pn_some hp]
  unfold mc_pw tr_ci
  rw [if_pos hk, hp]
/-- what lies elsewhere may change -/
theorem mc_frame (h : pg_wf F N bs ar) {n : Nat} (hn : n < N) (H : mc_path N M ar kd z pt et wN wS vals env lv nv wb vb eb lb nb n)
    (e1 : ∀ t, t < mc_td N ar n → wN' (wb + t) = wN (wb + t) ∧ wS' (wb + t) = wS (wb + t))
    (e2 : ∀ t, t < mc_pn N ar kd n → vals' (vb + t) = vals (vb + t))
    (e3 : ∀ x, x < sq_sc N ar kd z n → env' (eb + x) = env (eb + x) ∧ lv' (lb + x) = lv (lb + x))
    (e4 : ∀ m, m < n → nv' (nb + m) = nv (nb + m)) : mc_path N M ar kd z pt et wN' wS' vals' env' lv' nv' wb vb eb lb nb n := by
  obtain ⟨h1, h2, h3⟩ := H
  refine ⟨fun a p ha hp => ?_, fun a p c ha hp hk hc => ?_, fun x hx => ?_⟩
  · have g := mc_td_an n a hn ha
    rw [mc_td_some hp] at g
    have := e1 (mc_td N ar p) (by omega)
    rw [this.1, this.2]
    exact h1 a p ha hp
  · have haN : a < N := Nat.lt_of_le_of_lt ha.1 hn
    have g := mc_pn_an (kd := kd) n a hn ha
    rw [mc_ci_pw h haN hp hk] at g
    have hi := h2 a p c ha hp hk hc
    have hpa := (tr_pa_some hp).1
    have hcs : tr_ch N ar p c < a := by
      rcases pg_case h haN with ⟨g1, _⟩ | ⟨p', g1, g2, g3, g4, g5, g6⟩
      · rw [hp] at g1; cases g1
      · rw [hp] at g1
        cases g1
        have a1 := pg_ch h (n := p) (c := c) (by omega) (by omega)
        have a2 := tr_se_gt (N := N) (ar := ar) a1.1
        rw [← tr_ch_s] at a2
        have a3 := tr_ch_le (N := N) (ar := ar) p (c + 1) (tr_ci N ar a) (by omega)
        omega
    have e5 := e4 (tr_ch N ar p c) (by have := ha.1; omega)
    have e6 := e2 (mc_pn N ar kd p + c) (by omega)
    rw [← Nat.add_assoc] at e6
    rw [e5, e6]; exact hi
  · have := e3 x hx
    rw [this.1, this.2]; exact h3 x hx
/-- into a child -/
theorem mc_down (h : pg_wf F N bs ar) {q p : Nat} (hq : q < N) (hp : tr_pa N ar q = some p) (H : mc_path N M ar kd z pt et wN wS vals env lv nv wb vb eb lb nb p)
    (hw : wN (wb + mc_td N ar p) = nI p ∧ wS (wb + mc_td N ar p) = nI (tr_ci N ar q + 1))
    (hv : (kd p = 4 ∨ kd p = 5) → ∀ c, c < tr_ci N ar q → vals (vb + mc_pn N ar kd p + c) = nv (nb + tr_ch N ar p c) ∧ vl_V M (et (tr_ch N ar p c)) (nv (nb + tr_ch N ar p c)))
    (he : ∀ x, sq_sc N ar kd z p ≤ x → x < sq_sc N ar kd z q → env (eb + x) = lv (lb + x) ∧ vl_V M (ty_ty N ar kd z pt q x) (lv (lb + x))) :
    mc_path N M ar kd z pt et wN wS vals env lv nv wb vb eb lb nb q := by
  obtain ⟨h1, h2, h3⟩ := H
  refine ⟨fun a b ha hb => ?_, fun a b c ha hb hk hc => ?_, fun x hx => ?_⟩
  · rcases (tr_an_pa hq hp).mp ha with e | e
    · subst e; rw [hp] at hb; cases hb; exact hw
    · exact h1 a b e hb
  · rcases (tr_an_pa hq hp).mp ha with e | e
    · subst e; rw [hp] at hb; cases hb; exact hv hk c hc
    · exact h2 a b c e hb hk hc
  · rcases Nat.lt_or_ge x (sq_sc N ar kd z p) with e | e
    · rw [ty_pa hp e]; exact h3 x e
    · exact he x e hx
/-- at a root -/
theorem mc_root {r : Nat} (hr : r < N) (hp : tr_pa N ar r = none)
    (he : ∀ x, x < z r → env (eb + x) = lv (lb + x) ∧ vl_V M (pt r x) (lv (lb + x))) :
    mc_path N M ar kd z pt et wN wS vals env lv nv wb vb eb lb nb r := by
  refine ⟨fun a b ha hb => ?_, fun a b c ha hb => ?_, fun x hx => ?_⟩
  · rw [(tr_an_root hr hp).mp ha, hp] at hb; cases hb
  · rw [(tr_an_root hr hp).mp ha, hp] at hb; cases hb
  · rw [sq_none hp] at hx
    rw [ty_none hp]; exact he x hx
end
end
section
section
/-- the type that is asked at a node: rt j of a root, gt p c of the place c of a call p -/
def et_et (N : Nat) (ar kd rt : Nat → Nat) (gt : Nat → Nat → Nat) (j : Nat) : Nat :=
  tr_fold N ar rt (fun p j e => if kd p = 2 then 0 else if kd p = 4 then (if tr_cx N ar p j = 0 then 0 else 1) else if kd p = 5 then gt p (tr_cx N ar p j)
    else if tr_cx N ar p j = 0 then (if kd p = 7 then 1 else 0) else e) j
variable {F N M : Nat} {bs ar kd ag z rt : Nat → Nat} {gt pt : Nat → Nat → Nat}
theorem et_none {j : Nat} (h : tr_pa N ar j = none) : et_et N ar kd rt gt j = rt j := tr_fold_none h
theorem et_some {j p : Nat} (h : tr_pa N ar j = some p) : et_et N ar kd rt gt j = (if kd p = 2 then 0 else if kd p = 4 then (if tr_cx N ar p j = 0 then 0 else 1) else if kd p = 5 then gt p (tr_cx N ar p j)
    else if tr_cx N ar p j = 0 then (if kd p = 7 then 1 else 0) else et_et N ar kd rt gt p) := tr_fold_some h
/-- a node's own type: ro n is the result type of the function that a call n names -/
def et_own (N : Nat) (ar kd ag z rt : Nat → Nat) (gt pt : Nat → Nat → Nat) (ro : Nat → Nat) (n : Nat) : Nat :=
  if kd n = 0 then ty_ty N ar kd z pt n (ag n) else if kd n = 1 ∨ kd n = 2 then 0 else if kd n = 3 ∨ kd n = 4 then 1 else if kd n = 5 then ro n else et_et N ar kd rt gt n
/-- how many of the nodes s, s + 1 .. (t of them) fulfil P -/
def ct_ct (P : Nat → Bool) (s : Nat) : Nat → Nat
  | 0 => 0
  | t + 1 => ct_ct P s t + (if P (s + t) then 1 else 0)
theorem ct_le (P : Nat → Bool) (s : Nat) : ∀ t, ct_ct P s t ≤ t
  | 0 => Nat.le_refl 0
  | t + 1 => by
    have := ct_le P s t
    rw [ct_ct]; split <;> omega
/-- the measure of a run: u for 'the value is not yet known' -/
def ms_ms (N : Nat) (ar : Nat → Nat) (b d n : Nat) (known : Bool) : Nat :=
  400 * (200 - b) + 200 * d + (if known then 2 * (64 - tr_se N ar n) + mc_td N ar n + 1 else 2 * (64 - n) + mc_td N ar n)
end
end
section
section
/-- the program is well shaped, well named and well typed -/
def pw_ok (F N : Nat) (bs ar kd ag z : Nat → Nat) (pt : Nat → Nat → Nat) (rt : Nat → Nat) (gt : Nat → Nat → Nat) : Prop :=
  pg_wf F N bs ar ∧
  (∀ n, n < N → kd n ≤ 7 ∧ (kd n = 0 ∨ kd n = 1 ∨ kd n = 3 → ar n = 0) ∧ (kd n = 2 → ar n = 1) ∧ (kd n = 4 → ar n = 2) ∧ (kd n = 6 ∨ kd n = 7 → ar n = 3)) ∧
  (∀ n, n < N → kd n = 0 → ag n < sq_sc N ar kd z n) ∧
  (∀ n, n < N → kd n = 5 → ag n < F ∧ ar n = z (bs (ag n)) ∧ ∀ c, c < ar n → gt n c = pt (bs (ag n)) c) ∧
  (∀ n, n < N → et_own N ar kd ag z rt gt pt (fun n => rt (bs (ag n))) n = et_et N ar kd rt gt n) ∧
  (∀ f, f < F → 1 ≤ z (bs f) ∧ z (bs f) ≤ 3)
def mc_wb (N : Nat) (ar m : Nat → Nat) : Nat → Nat
  | 0 => 1
  | i + 1 => mc_wb N ar m i + mc_td N ar (m i) + 1
def mc_vb (N : Nat) (ar kd m : Nat → Nat) : Nat → Nat
  | 0 => 0
  | i + 1 => mc_vb N ar kd m i + mc_pn N ar kd (m i)
def mc_eb (N : Nat) (ar kd z m : Nat → Nat) : Nat → Nat
  | 0 => 0
  | i + 1 => mc_eb N ar kd z m i + sq_sc N ar kd z (m i)
def mc_fn (F : Nat) (ag m : Nat → Nat) : Nat → Nat
  | 0 => F - 1
  | i + 1 => ag (m i)
variable {F N M : Nat} {bs ar kd ag z rt : Nat → Nat} {pt gt : Nat → Nat → Nat}
theorem pw_sc45 (h : pw_ok F N bs ar kd ag z pt rt gt) {n : Nat} (hn : n < N) : sq_sc N ar kd z n ≤ 45 := by
  have hb := pg_body h.1 hn
  have h1 := sq_le (kd := kd) (z := z) h.1 n hn
  have h2 := (h.2.2.2.2.2 _ hb.1).2
  have h3 := h.1.2.1
  omega
theorem pw_fit (h : pw_ok F N bs ar kd ag z pt rt gt) {n : Nat} (hn : n < N) : mc_td N ar n + mc_pn N ar kd n ≤ 63 := by
  have hb := pg_body h.1 hn
  have h1 := mc_fit (kd := kd) h.1 n hn
  have h3 := h.1.2.1
  omega
theorem mc_wb_mono (m : Nat → Nat) : ∀ (e i : Nat), i ≤ e → mc_wb N ar m i ≤ mc_wb N ar m e := by
  intro e
  induction e with
  | zero => intro i h; rw [Nat.le_zero.mp h]; exact Nat.le_refl _
  | succ e ih =>
    intro i h
    rcases Nat.eq_or_lt_of_le h with z1 | z1
    · rw [z1]; exact Nat.le_refl _
    · have := ih i (by omega); rw [mc_wb]; omega
theorem mc_vb_mono (m : Nat → Nat) : ∀ (e i : Nat), i ≤ e → mc_vb N ar kd m i ≤ mc_vb N ar kd m e := by
  intro e
  induction e with
  | zero => intro i h; rw [Nat.le_zero.mp h]; exact Nat.le_refl _
  | succ e ih =>
    intro i h
    rcases Nat.eq_or_lt_of_le h with z1 | z1
    · rw [z1]; exact Nat.le_refl _
    · have := ih i (by omega); rw [mc_vb]; omega
theorem mc_eb_mono (m : Nat → Nat) : ∀ (e i : Nat), i ≤ e → mc_eb N ar kd z m i ≤ mc_eb N ar kd z m e := by
  intro e
  induction e with
  | zero => intro i h; rw [Nat.le_zero.mp h]; exact Nat.le_refl _
  | succ e ih =>
    intro i h
    rcases Nat.eq_or_lt_of_le h with z1 | z1
    · rw [z1]; exact Nat.le_refl _
    · have := ih i (by omega); rw [mc_eb]; omega
theorem mc_wb_pos (m : Nat → Nat) (e : Nat) : 1 ≤ mc_wb N ar m e := mc_wb_mono m e 0 (Nat.zero_le e)
theorem mc_wb_le (h : pw_ok F N bs ar kd ag z pt rt gt) (m : Nat → Nat) : ∀ e, (∀ i, i < e → m i < N) → mc_wb N ar m e ≤ 1 + 64 * e := by
  intro e
  induction e with
  | zero => intro _; exact Nat.le_refl _
  | succ e ih =>
    intro hm
    have h1 := ih (fun i hi => hm i (by omega))
    have h2 := pw_fit h (hm e (by omega))
    rw [mc_wb]; omega
theorem mc_vb_le (h : pw_ok F N bs ar kd ag z pt rt gt) (m : Nat → Nat) : ∀ e, (∀ i, i < e → m i < N) → mc_vb N ar kd m e ≤ 64 * e := by
  intro e
  induction e with
  | zero => intro _; exact Nat.le_refl _
  | succ e ih =>
    intro hm
    have h1 := ih (fun i hi => hm i (by omega))
    have h2 := pw_fit h (hm e (by omega))
    rw [mc_vb]; omega
theorem mc_eb_le (h : pw_ok F N bs ar kd ag z pt rt gt) (m : Nat → Nat) : ∀ e, (∀ i, i < e → m i < N) → mc_eb N ar kd z m e ≤ 45 * e := by
  intro e
  induction e with
  | zero => intro _; exact Nat.le_refl _
  | succ e ih =>
    intro hm
    have h1 := ih (fun i hi => hm i (by omega))
    have h2 := pw_sc45 h (hm e (by omega))
    rw [mc_eb]; omega
theorem mc_wb_ext {m m' : Nat → Nat} : ∀ e, (∀ j, j < e → m' j = m j) → mc_wb N ar m' e = mc_wb N ar m e := by
  intro e
  induction e with
  | zero => intro _; rfl
  | succ e ih => intro hm; rw [mc_wb, mc_wb, ih (fun j hj => hm j (by omega)), hm e (by omega)]
theorem mc_vb_ext {m m' : Nat → Nat} : ∀ e, (∀ j, j < e → m' j = m j) → mc_vb N ar kd m' e = mc_vb N ar kd m e := by
  intro e
  induction e with
  | zero => intro _; rfl
  | succ e ih => intro hm; rw [mc_vb, mc_vb, ih (fun j hj => hm j (by omega)), hm e (by omega)]
theorem mc_eb_ext {m m' : Nat → Nat} : ∀ e, (∀ j, j < e → m' j = m j) → mc_eb N ar kd z m' e = mc_eb N ar kd z m e := by
  intro e
  induction e with
  | zero => intro _; rfl
  | succ e ih => intro hm; rw [mc_eb, mc_eb, ih (fun j hj => hm j (by omega)), hm e (by omega)]
theorem mc_fn_ext {m m' : Nat → Nat} (e : Nat) (hm : ∀ j, j < e → m' j = m j) : mc_fn F ag m' e = mc_fn F ag m e := by
  cases e with
  | zero => rfl
  | succ e => rw [mc_fn, mc_fn, hm e (by omega)]
/-- six arrays agree below these places -/
def mc_ag (w v x l k : Nat) (wN wS : Nat → Int32) (vals env lv nv : Nat → Int64) (wN' wS' : Nat → Int32) (vals' env' lv' nv' : Nat → Int64) : Prop :=
  (∀ t, t < w → wN' t = wN t ∧ wS' t = wS t) ∧ (∀ t, t < v → vals' t = vals t) ∧ (∀ t, t < x → env' t = env t) ∧ (∀ t, t < l → lv' t = lv t) ∧ (∀ t, t < k → nv' t = nv t)
/-- the suspended activations 0 .. e - 1, each at its call node m i -/
def mc_sus (F N M : Nat) (bs ar kd ag z : Nat → Nat) (pt : Nat → Nat → Nat) (rt : Nat → Nat) (gt : Nat → Nat → Nat) (m : Nat → Nat) (e : Nat) (wN wS : Nat → Int32) (vals env lv nv : Nat → Int64) (cn ab : Nat → Int32) : Prop :=
  ∀ i, i < e → m i < N ∧ kd (m i) = 5 ∧ cn (i + 1) = nI (m i) ∧ ab i = nI (mc_eb N ar kd z m i) ∧ pg_fn F bs (m i) = mc_fn F ag m i ∧
    wN (mc_wb N ar m i + mc_td N ar (m i)) = nI (m i) ∧ wS (mc_wb N ar m i + mc_td N ar (m i)) = nI (ar (m i) + 1) ∧
    mc_path N M ar kd z pt (et_et N ar kd rt gt) wN wS vals env lv nv (mc_wb N ar m i) (mc_vb N ar kd m i) (mc_eb N ar kd z m i) (45 * i) (64 * i) (m i)
/-- e suspended activations, the running one at node n -/
def mc_st (F N M : Nat) (bs ar kd ag z : Nat → Nat) (pt : Nat → Nat → Nat) (rt : Nat → Nat) (gt : Nat → Nat → Nat) (m : Nat → Nat) (e n : Nat) (wN wS : Nat → Int32) (vals env lv nv : Nat → Int64) (cn ab : Nat → Int32) : Prop :=
  n < N ∧ e < 16 ∧ wN 0 = -1 ∧ wS 0 = 1 ∧ ab e = nI (mc_eb N ar kd z m e) ∧ pg_fn F bs n = mc_fn F ag m e ∧ mc_sus F N M bs ar kd ag z pt rt gt m e wN wS vals env lv nv cn ab ∧
    mc_path N M ar kd z pt (et_et N ar kd rt gt) wN wS vals env lv nv (mc_wb N ar m e) (mc_vb N ar kd m e) (mc_eb N ar kd z m e) (45 * e) (64 * e) n
/-- node n is entered -/
def mc_U (F N M : Nat) (bs ar kd ag z : Nat → Nat) (pt : Nat → Nat → Nat) (rt : Nat → Nat) (gt : Nat → Nat → Nat) (m : Nat → Nat) (e n : Nat) (wN wS : Nat → Int32) (vals env lv nv : Nat → Int64) (cn ab : Nat → Int32) (wT vT eT : Nat) : Prop :=
  mc_st F N M bs ar kd ag z pt rt gt m e n wN wS vals env lv nv cn ab ∧ wN (mc_wb N ar m e + mc_td N ar n) = nI n ∧ wS (mc_wb N ar m e + mc_td N ar n) = 0 ∧ wT = mc_wb N ar m e + mc_td N ar n + 1 ∧ vT = mc_vb N ar kd m e + mc_pn N ar kd n ∧ eT = mc_eb N ar kd z m e + sq_sc N ar kd z n
/-- node n has the value v -/
def mc_K (F N M : Nat) (bs ar kd ag z : Nat → Nat) (pt : Nat → Nat → Nat) (rt : Nat → Nat) (gt : Nat → Nat → Nat) (m : Nat → Nat) (e n : Nat) (v : Int64) (wN wS : Nat → Int32) (vals env lv nv : Nat → Int64) (cn ab : Nat → Int32) (wT vT eT : Nat) : Prop :=
  mc_st F N M bs ar kd ag z pt rt gt m e n wN wS vals env lv nv cn ab ∧ wT = mc_wb N ar m e + mc_td N ar n ∧ vT = mc_vb N ar kd m e + mc_pn N ar kd n + 1 ∧ eT = mc_eb N ar kd z m e + sq_sc N ar kd z n ∧ vals (mc_vb N ar kd m e + mc_pn N ar kd n) = v ∧ vl_V M (et_et N ar kd rt gt n) v
/-- the call n waits to begin, its arguments are wa -/
def mc_W (F N M : Nat) (bs ar kd ag z : Nat → Nat) (pt : Nat → Nat → Nat) (rt : Nat → Nat) (gt : Nat → Nat → Nat) (m : Nat → Nat) (e n : Nat) (wa : Nat → Int64) (wN wS : Nat → Int32) (vals env lv nv : Nat → Int64) (cn ab : Nat → Int32) (wT vT eT : Nat) : Prop :=
  mc_st F N M bs ar kd ag z pt rt gt m e n wN wS vals env lv nv cn ab ∧ kd n = 5 ∧ wN (mc_wb N ar m e + mc_td N ar n) = nI n ∧ wS (mc_wb N ar m e + mc_td N ar n) = nI (ar n) ∧ wT = mc_wb N ar m e + mc_td N ar n + 1 ∧ vT = mc_vb N ar kd m e + mc_pn N ar kd n + ar n ∧ eT = mc_eb N ar kd z m e + sq_sc N ar kd z n ∧
    ∀ i, i < ar n → vals (mc_vb N ar kd m e + mc_pn N ar kd n + i) = wa i ∧ vl_V M (pt (bs (ag n)) i) (wa i)
variable {m m' : Nat → Nat} {e n : Nat} {wN wS wN' wS' cn ab cn' ab' : Nat → Int32} {vals env lv nv vals' env' lv' nv' wa : Nat → Int64} {wT vT eT : Nat}
theorem mc_sus_fr (h : pw_ok F N bs ar kd ag z pt rt gt) (H : mc_sus F N M bs ar kd ag z pt rt gt m e wN wS vals env lv nv cn ab)
    (hg : mc_ag (mc_wb N ar m e) (mc_vb N ar kd m e) (mc_eb N ar kd z m e) (45 * e) (64 * e) wN wS vals env lv nv wN' wS' vals' env' lv' nv')
    (hc : ∀ t, t ≤ e → cn' t = cn t) (ha : ∀ t, t < e → ab' t = ab t) : mc_sus F N M bs ar kd ag z pt rt gt m e wN' wS' vals' env' lv' nv' cn' ab' := by
  intro i hi
  obtain ⟨h1, h2, h3, h4, h5, h6, h7, h8⟩ := H i hi
  obtain ⟨g1, g2, g3, g4, g5⟩ := hg
  have w1 := mc_wb_mono (N := N) (ar := ar) m e (i + 1) (by omega)
  have w2 := mc_vb_mono (N := N) (ar := ar) (kd := kd) m e (i + 1) (by omega)
  have w3 := mc_eb_mono (N := N) (ar := ar) (kd := kd) (z := z) m e (i + 1) (by omega)
  rw [mc_wb] at w1
  rw [mc_vb] at w2
  rw [mc_eb] at w3
  have s45 := pw_sc45 h h1
  have n64 := h.1.2.1
  refine ⟨h1, h2, ?_, ?_, h5, ?_, ?_, ?_⟩
  · rw [hc (i + 1) (by omega)]; exact h3
  · rw [ha i hi]; exact h4
  · rw [(g1 _ (by omega)).1]; exact h6
  · rw [(g1 _ (by omega)).2]; exact h7
  · exact mc_frame h.1 h1 h8 (fun t ht => g1 _ (by omega)) (fun t ht => g2 _ (by omega)) (fun x hx => ⟨g3 _ (by omega), g4 _ (by omega)⟩) (fun k hk => g5 _ (by omega))
theorem mc_sus_ext (H : mc_sus F N M bs ar kd ag z pt rt gt m e wN wS vals env lv nv cn ab) (hm : ∀ j, j < e → m' j = m j) : mc_sus F N M bs ar kd ag z pt rt gt m' e wN wS vals env lv nv cn ab := by
  intro i hi
  have hm' : ∀ j, j < i → m' j = m j := fun j hj => hm j (by omega)
  rw [hm i hi, mc_wb_ext i hm', mc_vb_ext i hm', mc_eb_ext i hm', mc_fn_ext i hm']
  exact H i hi
theorem mc_st_fr (h : pw_ok F N bs ar kd ag z pt rt gt) (H : mc_st F N M bs ar kd ag z pt rt gt m e n wN wS vals env lv nv cn ab)
    (hg : mc_ag (mc_wb N ar m e + mc_td N ar n) (mc_vb N ar kd m e + mc_pn N ar kd n) (mc_eb N ar kd z m e + sq_sc N ar kd z n) (45 * e + sq_sc N ar kd z n) (64 * e + n) wN wS vals env lv nv wN' wS' vals' env' lv' nv') : mc_st F N M bs ar kd ag z pt rt gt m e n wN' wS' vals' env' lv' nv' cn ab := by
  obtain ⟨h1, h2, h3, h4, h5, h6, h7, h8⟩ := H
  obtain ⟨g1, g2, g3, g4, g5⟩ := hg
  have hp := mc_wb_pos (N := N) (ar := ar) m e
  refine ⟨h1, h2, ?_, ?_, h5, h6, mc_sus_fr h h7 ⟨fun t ht => g1 t (by omega), fun t ht => g2 t (by omega), fun t ht => g3 t (by omega), fun t ht => g4 t (by omega), fun t ht => g5 t (by omega)⟩ (fun _ _ => rfl) (fun _ _ => rfl), ?_⟩
  · rw [(g1 0 (by omega)).1]; exact h3
  · rw [(g1 0 (by omega)).2]; exact h4
  · exact mc_frame h.1 h1 h8 (fun t ht => g1 _ (by omega)) (fun t ht => g2 _ (by omega)) (fun x hx => ⟨g3 _ (by omega), g4 _ (by omega)⟩) (fun k hk => g5 _ (by omega))
theorem pw_fnpa (h : pw_ok F N bs ar kd ag z pt rt gt) {q p : Nat} (hq : q < N) (hp : tr_pa N ar q = some p) : p < N ∧ p < q ∧ pg_fn F bs p = pg_fn F bs q ∧ tr_ci N ar q < ar p ∧ q = tr_ch N ar p (tr_ci N ar q) ∧ tr_cx N ar p q = tr_ci N ar q := by
  rcases pg_case h.1 hq with ⟨g1, _⟩ | ⟨p', g1, g2, g3, g4, g5, g6⟩
  · rw [hp] at g1; cases g1
  · rw [hp] at g1
    cases g1
    exact ⟨by omega, g2, g3, g4, g5, g6⟩
theorem mc_st_up (h : pw_ok F N bs ar kd ag z pt rt gt) {q p : Nat} (H : mc_st F N M bs ar kd ag z pt rt gt m e q wN wS vals env lv nv cn ab) (hp : tr_pa N ar q = some p) : mc_st F N M bs ar kd ag z pt rt gt m e p wN wS vals env lv nv cn ab := by
  obtain ⟨h1, h2, h3, h4, h5, h6, h7, h8⟩ := H
  obtain ⟨g1, g2, g3, _⟩ := pw_fnpa h h1 hp
  exact ⟨g1, h2, h3, h4, h5, by rw [g3]; exact h6, h7, mc_up h1 hp h8⟩
theorem mc_st_dn (h : pw_ok F N bs ar kd ag z pt rt gt) {q p : Nat} (H : mc_st F N M bs ar kd ag z pt rt gt m e p wN wS vals env lv nv cn ab) (hq : q < N) (hp : tr_pa N ar q = some p)
    (hw : wN (mc_wb N ar m e + mc_td N ar p) = nI p ∧ wS (mc_wb N ar m e + mc_td N ar p) = nI (tr_ci N ar q + 1))
    (hv : (kd p = 4 ∨ kd p = 5) → ∀ c, c < tr_ci N ar q → vals (mc_vb N ar kd m e + mc_pn N ar kd p + c) = nv (64 * e + tr_ch N ar p c) ∧ vl_V M (et_et N ar kd rt gt (tr_ch N ar p c)) (nv (64 * e + tr_ch N ar p c)))
    (he : ∀ x, sq_sc N ar kd z p ≤ x → x < sq_sc N ar kd z q → env (mc_eb N ar kd z m e + x) = lv (45 * e + x) ∧ vl_V M (ty_ty N ar kd z pt q x) (lv (45 * e + x))) : mc_st F N M bs ar kd ag z pt rt gt m e q wN wS vals env lv nv cn ab := by
  obtain ⟨h1, h2, h3, h4, h5, h6, h7, h8⟩ := H
  obtain ⟨g1, g2, g3, _⟩ := pw_fnpa h hq hp
  exact ⟨hq, h2, h3, h4, h5, by rw [← g3]; exact h6, h7, mc_down h.1 hq hp h8 hw hv he⟩
end
end
section
section
variable {F N M : Nat} {bs ar kd ag z rt : Nat → Nat} {pt gt : Nat → Nat → Nat}
variable {m m' : Nat → Nat} {e n : Nat} {wN wS wN' wS' cn ab cn' ab' : Nat → Int32} {vals env lv nv vals' env' lv' nv' wa : Nat → Int64} {wT vT eT : Nat} {v v' : Int64}
theorem sq_cv0 {p q : Nat} (h : tr_cx N ar p q ≠ 2 ∨ (kd p ≠ 6 ∧ kd p ≠ 7)) : sq_cv N ar kd p q = 0 := by
  unfold sq_cv
  rcases h with h | ⟨h1, h2⟩
  · rw [if_neg h]
  · by_cases hx : tr_cx N ar p q = 2
    · rw [if_pos hx, if_neg h1, if_neg h2]
    · rw [if_neg hx]
theorem mk_leaf (h : pw_ok F N bs ar kd ag z pt rt gt) (H : mc_U F N M bs ar kd ag z pt rt gt m e n wN wS vals env lv nv cn ab wT vT eT) (hv : vl_V M (et_et N ar kd rt gt n) v) :
    mc_K F N M bs ar kd ag z pt rt gt m e n v wN wS (vp_updL vals vT v) env lv nv cn ab (wT - 1) (vT + 1) eT := by
  obtain ⟨hs, h1, h2, h3, h4, h5⟩ := H
  refine ⟨mc_st_fr h hs ⟨fun _ _ => ⟨rfl, rfl⟩, fun t ht => pk_uLn (by omega), fun _ _ => rfl, fun _ _ => rfl, fun _ _ => rfl⟩, by omega, by omega, h5, ?_, hv⟩
  rw [← h4]; exact pk_uLs
/-- from a node into its child c -/
theorem mk_down (h : pw_ok F N bs ar kd ag z pt rt gt) {p c q : Nat} (hs : mc_st F N M bs ar kd ag z pt rt gt m e p wN wS vals env lv nv cn ab) (hw : wN (mc_wb N ar m e + mc_td N ar p) = nI p) (hc : c < ar p) (hq : q = tr_ch N ar p c)
    (hv : (kd p = 4 ∨ kd p = 5) → ∀ i, i < c → vals (mc_vb N ar kd m e + mc_pn N ar kd p + i) = nv (64 * e + tr_ch N ar p i) ∧ vl_V M (et_et N ar kd rt gt (tr_ch N ar p i)) (nv (64 * e + tr_ch N ar p i)))
    (he : ∀ x, sq_sc N ar kd z p ≤ x → x < sq_sc N ar kd z q → env (mc_eb N ar kd z m e + x) = lv (45 * e + x) ∧ vl_V M (ty_ty N ar kd z pt q x) (lv (45 * e + x)))
    (hT : wT = mc_wb N ar m e + mc_td N ar p + 1) (hV : vT = mc_vb N ar kd m e + mc_pn N ar kd p + (if kd p = 4 ∨ kd p = 5 then c else 0)) (hE : eT = mc_eb N ar kd z m e + sq_sc N ar kd z q) :
    mc_U F N M bs ar kd ag z pt rt gt m e q (upd wN wT (nI q)) (upd (upd wS (wT - 1) (nI (c + 1))) wT 0) vals env lv nv cn ab (wT + 1) vT eT := by
  subst hq
  obtain ⟨a1, a2, a3, a4, a5, a6, a7⟩ := pg_ch h.1 hs.1 hc
  have t1 := mc_td_some a3
  have t2 := mc_pn_some (kd := kd) a3
  unfold mc_pw at t2
  rw [a5] at t2
  have b1 := mc_st_fr (cn := cn) (ab := ab) (wN' := upd wN wT (nI (tr_ch N ar p c))) (wS' := upd (upd wS (wT - 1) (nI (c + 1))) wT 0) h hs ⟨fun t ht => ⟨pk_un (by omega), by rw [pk_un (by omega), pk_un (by omega)]⟩, fun _ _ => rfl, fun _ _ => rfl, fun _ _ => rfl, fun _ _ => rfl⟩
  have eT1 : mc_wb N ar m e + mc_td N ar p = wT - 1 := by omega
  have eT2 : mc_wb N ar m e + mc_td N ar (tr_ch N ar p c) = wT := by omega
  refine ⟨mc_st_dn h b1 a1 a3 ⟨?_, ?_⟩ ?_ he, ?_, ?_, ?_, ?_, hE⟩
  · rw [pk_un (by omega)]; exact hw
  · rw [a4, eT1, pk_un (by omega)]; exact pk_us
  · intro k i hi; rw [a4] at hi; exact hv k i hi
  · rw [eT2]; exact pk_us
  · rw [eT2]; exact pk_us
  · omega
  · rw [t2, hV]; omega
/-- into the first child -/
theorem mk_first (h : pw_ok F N bs ar kd ag z pt rt gt) (H : mc_U F N M bs ar kd ag z pt rt gt m e n wN wS vals env lv nv cn ab wT vT eT) (ha : 0 < ar n) :
    mc_U F N M bs ar kd ag z pt rt gt m e (n + 1) (upd wN wT (nI (n + 1))) (upd (upd wS (wT - 1) 1) wT 0) vals env lv nv cn ab (wT + 1) vT eT := by
  obtain ⟨hs, h1, h2, h3, h4, h5⟩ := H
  have e0 : n + 1 = tr_ch N ar n 0 := (tr_ch_0 n).symm
  obtain ⟨a1, a2, a3, a4, a5, a6, a7⟩ := pg_ch h.1 hs.1 ha
  rw [← e0] at a3 a5
  have s0 : sq_sc N ar kd z (n + 1) = sq_sc N ar kd z n := by rw [sq_some a3, sq_cv0 (Or.inl (by omega))]; rfl
  exact mk_down h hs h1 ha e0 (fun _ i hi => by omega) (fun x x1 x2 => by omega) h3 (by split <;> omega) (by omega)
/-- a value goes up one node, changed -/
theorem mk_up (h : pw_ok F N bs ar kd ag z pt rt gt) {q p : Nat} (H : mc_K F N M bs ar kd ag z pt rt gt m e q v wN wS vals env lv nv cn ab wT vT eT) (hp : tr_pa N ar q = some p) (hv : vl_V M (et_et N ar kd rt gt p) v') {k : Nat} (hk : k = mc_vb N ar kd m e + mc_pn N ar kd p) (hE : eT = mc_eb N ar kd z m e + sq_sc N ar kd z p) :
    mc_K F N M bs ar kd ag z pt rt gt m e p v' wN wS (vp_updL vals k v') env lv nv cn ab (wT - 1) (k + 1) eT := by
  obtain ⟨hs, h1, h2, h3, h4, h5⟩ := H
  have t1 := mc_td_some hp
  refine ⟨mc_st_fr h (mc_st_up h hs hp) ⟨fun _ _ => ⟨rfl, rfl⟩, fun t ht => pk_uLn (by omega), fun _ _ => rfl, fun _ _ => rfl, fun _ _ => rfl⟩, by omega, by omega, hE, ?_, hv⟩
  rw [← hk]; exact pk_uLs
/-- a value goes up from a branch of a case -/
theorem mk_upc (h : pw_ok F N bs ar kd ag z pt rt gt) {q p : Nat} (H : mc_K F N M bs ar kd ag z pt rt gt m e q v wN wS vals env lv nv cn ab wT vT eT) (hp : tr_pa N ar q = some p) (hk : kd p = 6 ∨ kd p = 7) (hc : tr_ci N ar q ≠ 0) {eT' : Nat} (hE : eT' + sq_cv N ar kd p q = eT) :
    mc_K F N M bs ar kd ag z pt rt gt m e p v wN wS vals env lv nv cn ab (wT - 1) vT eT' := by
  obtain ⟨hs, h1, h2, h3, h4, h5⟩ := H
  obtain ⟨g1, g2, g3, g4, g5, g6⟩ := pw_fnpa h hs.1 hp
  have t1 := mc_td_some hp
  have t2 := mc_pn_some (kd := kd) hp
  unfold mc_pw at t2
  rw [if_neg (by omega)] at t2
  have t3 := sq_some (kd := kd) (z := z) hp
  have t4 := et_some (kd := kd) (rt := rt) (gt := gt) hp
  rw [if_neg (by omega), if_neg (by omega), if_neg (by omega), if_neg (by rw [g6]; exact hc)] at t4
  rw [t4] at h5
  rw [t2] at h4 h2
  exact ⟨mc_st_up h hs hp, by omega, by omega, by omega, h4, h5⟩
/-- to the next child, the value kept -/
theorem mk_keep (h : pw_ok F N bs ar kd ag z pt rt gt) {q p : Nat} (H : mc_K F N M bs ar kd ag z pt rt gt m e q v wN wS vals env lv nv cn ab wT vT eT) (hp : tr_pa N ar q = some p) (hk : kd p = 4 ∨ kd p = 5) :
    ∀ i, i < tr_ci N ar q + 1 → vals (mc_vb N ar kd m e + mc_pn N ar kd p + i) = vp_updL nv (64 * e + q) v (64 * e + tr_ch N ar p i) ∧ vl_V M (et_et N ar kd rt gt (tr_ch N ar p i)) (vp_updL nv (64 * e + q) v (64 * e + tr_ch N ar p i)) := by
  obtain ⟨hs, h1, h2, h3, h4, h5⟩ := H
  obtain ⟨g1, g2, g3, g4, g5, g6⟩ := pw_fnpa h hs.1 hp
  have t2 := mc_ci_pw h.1 hs.1 hp hk
  intro i hi
  rcases Nat.eq_or_lt_of_le (Nat.le_of_lt_succ hi) with z1 | z1
  · have e1 : tr_ch N ar p i = q := by rw [z1]; exact g5.symm
    rw [e1, pk_uLs]
    refine ⟨?_, h5⟩
    rw [← h4, t2, z1, Nat.add_assoc]
  · have hl : tr_ch N ar p i < q := by
      have b1 := pg_ch h.1 g1 (c := i) (by omega)
      have b2 := tr_se_gt (N := N) (ar := ar) b1.1
      rw [← tr_ch_s] at b2
      have b3 := tr_ch_le (N := N) (ar := ar) p (i + 1) (tr_ci N ar q) (by omega)
      omega
    rw [pk_uLn (by omega)]
    exact hs.2.2.2.2.2.2.2.2.1 q p i (tr_an_self hs.1) hp hk z1
theorem mk_next (h : pw_ok F N bs ar kd ag z pt rt gt) {q p : Nat} (H : mc_K F N M bs ar kd ag z pt rt gt m e q v wN wS vals env lv nv cn ab wT vT eT) (hp : tr_pa N ar q = some p) (hk : kd p = 4 ∨ kd p = 5) (hc : tr_ci N ar q + 1 < ar p) :
    mc_U F N M bs ar kd ag z pt rt gt m e (tr_se N ar q) (upd wN wT (nI (tr_se N ar q))) (upd (upd wS (wT - 1) (nI (tr_ci N ar q + 2))) wT 0) vals env lv (vp_updL nv (64 * e + q) v) cn ab (wT + 1) vT eT := by
  have hkeep := mk_keep h H hp hk
  obtain ⟨hs, h1, h2, h3, h4, h5⟩ := H
  obtain ⟨g1, g2, g3, g4, g5, g6⟩ := pw_fnpa h hs.1 hp
  have t1 := mc_td_some hp
  have t2 := mc_ci_pw h.1 hs.1 hp hk
  have hwp := hs.2.2.2.2.2.2.2.1 q p (tr_an_self hs.1) hp
  have eq1 : tr_se N ar q = tr_ch N ar p (tr_ci N ar q + 1) := by
    rw [tr_ch_s, ← g5]
  obtain ⟨a1, a2, a3, a4, a5, a6, a7⟩ := pg_ch h.1 g1 hc
  rw [← eq1] at a1 a2 a3 a4 a5
  have s1 : sq_sc N ar kd z q = sq_sc N ar kd z p := by rw [sq_some hp, sq_cv0 (Or.inr ⟨by omega, by omega⟩)]; rfl
  have s2 : sq_sc N ar kd z (tr_se N ar q) = sq_sc N ar kd z p := by rw [sq_some a3, sq_cv0 (Or.inr ⟨by omega, by omega⟩)]; rfl
  have st := mc_st_fr (nv' := vp_updL nv (64 * e + q) v) h (mc_st_up h hs hp) ⟨fun _ _ => ⟨rfl, rfl⟩, fun _ _ => rfl, fun _ _ => rfl, fun _ _ => rfl, fun t ht => pk_uLn (by omega)⟩
  exact mk_down h st hwp.1 hc eq1 (fun _ => hkeep) (fun x x1 x2 => by omega) (by omega) (by rw [if_pos hk]; omega) (by omega)
/-- the last argument is there: the call waits -/
theorem mk_wait (h : pw_ok F N bs ar kd ag z pt rt gt) {q p : Nat} (H : mc_K F N M bs ar kd ag z pt rt gt m e q v wN wS vals env lv nv cn ab wT vT eT) (hp : tr_pa N ar q = some p) (hk : kd p = 5) (hc : tr_ci N ar q + 1 = ar p)
    (hwa : ∀ i, i < ar p → wa i = vp_updL nv (64 * e + q) v (64 * e + tr_ch N ar p i)) :
    mc_W F N M bs ar kd ag z pt rt gt m e p wa wN wS vals env lv (vp_updL nv (64 * e + q) v) cn ab wT vT eT := by
  have hkeep := mk_keep h H hp (Or.inr hk)
  obtain ⟨hs, h1, h2, h3, h4, h5⟩ := H
  obtain ⟨g1, g2, g3, g4, g5, g6⟩ := pw_fnpa h hs.1 hp
  have t1 := mc_td_some hp
  have t2 := mc_ci_pw h.1 hs.1 hp (Or.inr hk)
  have hwp := hs.2.2.2.2.2.2.2.1 q p (tr_an_self hs.1) hp
  have s1 : sq_sc N ar kd z q = sq_sc N ar kd z p := by rw [sq_some hp, sq_cv0 (Or.inr ⟨by omega, by omega⟩)]; rfl
  refine ⟨mc_st_fr h (mc_st_up h hs hp) ⟨fun _ _ => ⟨rfl, rfl⟩, fun _ _ => rfl, fun _ _ => rfl, fun _ _ => rfl, fun t ht => pk_uLn (by omega)⟩, hk, hwp.1, ?_, by omega, by omega, by omega, ?_⟩
  · rw [hwp.2, hc]
  · intro i hi
    have k1 := hkeep i (by omega)
    rw [hwa i hi]
    refine ⟨k1.1, ?_⟩
    obtain ⟨a1, a2, a3, a4, a5, a6, a7⟩ := pg_ch h.1 g1 hi
    have t4 := et_some (kd := kd) (rt := rt) (gt := gt) a3
    rw [if_neg (by omega), if_neg (by omega), if_pos hk, a5, (h.2.2.2.1 p g1 hk).2.2 i hi] at t4
    rw [← t4]; exact k1.2
/-- the running activation has its value: its caller goes on -/
theorem mk_ret (h : pw_ok F N bs ar kd ag z pt rt gt) {r : Nat} (H : mc_K F N M bs ar kd ag z pt rt gt m (e + 1) r v wN wS vals env lv nv cn ab wT vT eT) (hp : tr_pa N ar r = none) :
    mc_K F N M bs ar kd ag z pt rt gt m e (m e) v wN wS vals env lv nv cn ab (wT - 1) vT (mc_eb N ar kd z m (e + 1)) := by
  obtain ⟨⟨s1, s2, s3, s4, s5, s6, s7, s8⟩, h1, h2, h3, h4, h5⟩ := H
  obtain ⟨c1, c2, c3, c4, c5, c6, c7, c8⟩ := s7 e (by omega)
  have t1 := mc_td_none (N := N) (ar := ar) hp
  have t2 := mc_pn_none (N := N) (ar := ar) (kd := kd) hp
  rw [t1] at h1
  rw [t2] at h2 h4
  rw [mc_wb] at h1
  rw [mc_vb] at h2 h4
  have hr : r = bs (ag (m e)) := by
    rcases pg_case h.1 s1 with ⟨g1, g2, g3⟩ | ⟨p', g1, _⟩
    · rw [s6] at g2; exact g2
    · rw [hp] at g1; cases g1
  have t4 := et_none (kd := kd) (rt := rt) (gt := gt) hp
  have t5 := h.2.2.2.2.1 (m e) c1
  unfold et_own at t5
  rw [if_neg (by omega), if_neg (by omega), if_neg (by omega), if_pos c2] at t5
  refine ⟨⟨c1, by omega, s3, s4, c4, c5, fun i hi => s7 i (by omega), c8⟩, by omega, by omega, rfl, h4, ?_⟩
  rw [← t5]
  show vl_V M (rt (bs (ag (m e)))) v
  rw [← hr, ← t4]; exact h5
/-- a waiting call begins -/
theorem mk_begin (h : pw_ok F N bs ar kd ag z pt rt gt) {p : Nat} (H : mc_W F N M bs ar kd ag z pt rt gt m e p wa wN wS vals env lv nv cn ab wT vT eT) (he : e + 1 < 16) (hm : ∀ j, j < e → m' j = m j) (he' : m' e = p)
    (hE1 : ∀ t, t < eT → env' t = env t) (hE2 : ∀ i, i < ar p → env' (eT + i) = wa i)
    (hL1 : ∀ t, t < 45 * (e + 1) → lv' t = lv t) (hL2 : ∀ i, i < ar p → lv' (45 * (e + 1) + i) = wa i) :
    mc_U F N M bs ar kd ag z pt rt gt m' (e + 1) (bs (ag p)) (upd wN wT (nI (bs (ag p)))) (upd (upd wS (wT - 1) (nI (ar p + 1))) wT 0) vals env' lv' nv (upd cn (e + 1) (nI p)) (upd ab (e + 1) (nI eT)) (wT + 1) (vT - ar p) (eT + ar p) := by
  obtain ⟨⟨s1, s2, s3, s4, s5, s6, s7, s8⟩, hk, h1, h2, h3, h4, h5, h6⟩ := H
  obtain ⟨k1, k2, k3⟩ := h.2.2.2.1 p s1 hk
  have hb := h.1.2.2.2.2 _ k1
  have hN := pg_lastN h.1 k1
  have hr := pg_root h.1 k1
  have hp1 := mc_wb_pos (N := N) (ar := ar) m e
  have n64 := h.1.2.1
  have sc45 := pw_sc45 h s1
  have w1 : mc_wb N ar m' (e + 1) = wT := by
    rw [mc_wb, mc_wb_ext e hm, he']; omega
  have w2 : mc_vb N ar kd m' (e + 1) = mc_vb N ar kd m e + mc_pn N ar kd p := by
    rw [mc_vb, mc_vb_ext e hm, he']
  have w3 : mc_eb N ar kd z m' (e + 1) = eT := by
    rw [mc_eb, mc_eb_ext e hm, he']; omega
  have sus : mc_sus F N M bs ar kd ag z pt rt gt m' (e + 1) (upd wN wT (nI (bs (ag p)))) (upd (upd wS (wT - 1) (nI (ar p + 1))) wT 0) vals env' lv' nv (upd cn (e + 1) (nI p)) (upd ab (e + 1) (nI eT)) := by
    intro i hi
    rcases Nat.eq_or_lt_of_le (Nat.le_of_lt_succ hi) with z1 | z1
    · subst z1
      rw [he', mc_wb_ext i hm, mc_vb_ext i hm, mc_eb_ext i hm, mc_fn_ext i hm]
      refine ⟨s1, hk, pk_us, ?_, s6, ?_, ?_, ?_⟩
      · rw [pk_un (by omega)]; exact s5
      · rw [pk_un (by omega)]; exact h1
      · rw [pk_un (by omega), show mc_wb N ar m i + mc_td N ar p = wT - 1 by omega]; exact pk_us
      · exact mc_frame h.1 s1 s8 (fun t ht => ⟨pk_un (by omega), by rw [pk_un (by omega), pk_un (by omega)]⟩) (fun t ht => rfl) (fun x hx => ⟨hE1 _ (by omega), hL1 _ (by omega)⟩) (fun k hk => rfl)
    · exact mc_sus_ext (mc_sus_fr h s7 ⟨fun t ht => ⟨pk_un (by omega), by rw [pk_un (by omega), pk_un (by omega)]⟩, fun _ _ => rfl, fun t ht => hE1 t (by omega), fun t ht => hL1 t (by omega), fun _ _ => rfl⟩ (fun t ht => pk_un (by omega)) (fun t ht => pk_un (by omega))) hm i z1
  have t1 := mc_td_none (N := N) (ar := ar) hr
  have t2 := mc_pn_none (N := N) (ar := ar) (kd := kd) hr
  have t3 := sq_none (kd := kd) (z := z) hr
  have hrN : bs (ag p) < N := by have := hb.1; omega
  refine ⟨⟨hrN, he, ?_, ?_, ?_, ?_, sus, ?_⟩, ?_, ?_, ?_, ?_, ?_⟩
  · rw [pk_un (by omega)]; exact s3
  · rw [pk_un (by omega), pk_un (by omega)]; exact s4
  · rw [w3]; exact pk_us
  · rw [mc_fn, he']; exact pg_fn_is h.1 k1 (Nat.le_refl _) hb.1
  · refine mc_root hrN hr (fun x hx => ?_)
    rw [w3, hE2 x (by omega), hL2 x (by omega)]
    exact ⟨rfl, (h6 x (by omega)).2⟩
  · rw [w1, t1]; exact pk_us
  · rw [w1, t1]; exact pk_us
  · rw [w1, t1]
  · rw [w2, t2]; omega
  · rw [w3, t3]; omega
/-- the main function begins -/
theorem mk_main (h : pw_ok F N bs ar kd ag z pt rt gt) (hn : wN 0 = -1) (hV : ∀ i, i < z (bs (F - 1)) → vl_V M (pt (bs (F - 1)) i) (wa i))
    (hE2 : ∀ i, i < z (bs (F - 1)) → env' i = wa i) (hL2 : ∀ i, i < z (bs (F - 1)) → lv' i = wa i) :
    mc_U F N M bs ar kd ag z pt rt gt m 0 (bs (F - 1)) (upd wN 1 (nI (bs (F - 1)))) (upd (upd wS 0 1) 1 0) vals env' lv' nv cn (upd ab 0 0) 2 0 (z (bs (F - 1))) := by
  have k1 : F - 1 < F := by have := h.1.1; omega
  have hb := h.1.2.2.2.2 _ k1
  have hN := pg_lastN h.1 k1
  have hr := pg_root h.1 k1
  have t1 := mc_td_none (N := N) (ar := ar) hr
  have t2 := mc_pn_none (N := N) (ar := ar) (kd := kd) hr
  have t3 := sq_none (kd := kd) (z := z) hr
  have hrN : bs (F - 1) < N := by have := hb.1; omega
  refine ⟨⟨hrN, by omega, ?_, ?_, ?_, ?_, fun i hi => by omega, ?_⟩, ?_, ?_, ?_, ?_, ?_⟩
  · rw [pk_un (by omega)]; exact hn
  · rw [pk_un (by omega)]; exact pk_us
  · exact pk_us
  · exact pg_fn_is h.1 k1 (Nat.le_refl _) hb.1
  · refine mc_root hrN hr (fun x hx => ?_)
    show env' (0 + x) = lv' (0 + x) ∧ vl_V M _ (lv' (0 + x))
    rw [Nat.zero_add, hE2 x hx, hL2 x hx]
    exact ⟨rfl, hV x hx⟩
  · rw [t1]; exact pk_us
  · rw [t1]; exact pk_us
  · rw [t1]; rfl
  · rw [t2]; rfl
  · rw [t3]; exact (Nat.zero_add _).symm
end
end
section
section
variable {F N M : Nat} {bs ar kd ag z rt : Nat → Nat} {pt gt : Nat → Nat → Nat}
variable {m m' : Nat → Nat} {e n : Nat} {wN wS wN' wS' cn ab cn' ab' : Nat → Int32} {vals env lv nv vals' env' lv' nv' wa : Nat → Int64} {wT vT eT : Nat} {v v' : Int64}
-- types around a node
theorem pw_e2 (h : pw_ok F N bs ar kd ag z pt rt gt) {p q : Nat} (hq : q < N) (hp : tr_pa N ar q = some p) (hk : kd p = 2) : et_et N ar kd rt gt q = 0 ∧ et_et N ar kd rt gt p = 0 := by
  obtain ⟨g1, g2, g3, g4, g5, g6⟩ := pw_fnpa h hq hp
  have t5 := h.2.2.2.2.1 p g1
  unfold et_own at t5
  rw [if_neg (by omega), if_pos (by omega)] at t5
  exact ⟨by rw [et_some hp, if_pos hk], t5.symm⟩
theorem pw_e4 (h : pw_ok F N bs ar kd ag z pt rt gt) {p q : Nat} (hq : q < N) (hp : tr_pa N ar q = some p) (hk : kd p = 4) : et_et N ar kd rt gt q = (if tr_ci N ar q = 0 then 0 else 1) ∧ et_et N ar kd rt gt p = 1 := by
  obtain ⟨g1, g2, g3, g4, g5, g6⟩ := pw_fnpa h hq hp
  have t5 := h.2.2.2.2.1 p g1
  unfold et_own at t5
  rw [if_neg (by omega), if_neg (by omega), if_pos (by omega)] at t5
  exact ⟨by rw [et_some hp, if_neg (by omega), if_pos hk, g6], t5.symm⟩
theorem pw_e67 (h : pw_ok F N bs ar kd ag z pt rt gt) {p q : Nat} (hq : q < N) (hp : tr_pa N ar q = some p) (hk : kd p = 6 ∨ kd p = 7) (hc : tr_ci N ar q = 0) : et_et N ar kd rt gt q = (if kd p = 7 then 1 else 0) := by
  obtain ⟨g1, g2, g3, g4, g5, g6⟩ := pw_fnpa h hq hp
  rw [et_some hp, if_neg (by omega), if_neg (by omega), if_neg (by omega), g6, if_pos hc]
theorem pw_e0 (h : pw_ok F N bs ar kd ag z pt rt gt) {n : Nat} (hn : n < N) (hk : kd n = 0) : et_et N ar kd rt gt n = ty_ty N ar kd z pt n (ag n) := by
  have t5 := h.2.2.2.2.1 n hn
  unfold et_own at t5
  rw [if_pos hk] at t5
  exact t5.symm
theorem pw_e1 (h : pw_ok F N bs ar kd ag z pt rt gt) {n : Nat} (hn : n < N) (hk : kd n = 1) : et_et N ar kd rt gt n = 0 := by
  have t5 := h.2.2.2.2.1 n hn
  unfold et_own at t5
  rw [if_neg (by omega), if_pos (by omega)] at t5
  exact t5.symm
theorem pw_e3 (h : pw_ok F N bs ar kd ag z pt rt gt) {n : Nat} (hn : n < N) (hk : kd n = 3) : et_et N ar kd rt gt n = 1 := by
  have t5 := h.2.2.2.2.1 n hn
  unfold et_own at t5
  rw [if_neg (by omega), if_neg (by omega), if_pos (by omega)] at t5
  exact t5.symm
-- what lies on top
theorem mk_topU (H : mc_U F N M bs ar kd ag z pt rt gt m e n wN wS vals env lv nv cn ab wT vT eT) : wN (wT - 1) = nI n ∧ wS (wT - 1) = 0 ∧ 1 < wT := by
  obtain ⟨hs, h1, h2, h3, h4, h5⟩ := H
  have hp := mc_wb_pos (N := N) (ar := ar) m e
  rw [show wT - 1 = mc_wb N ar m e + mc_td N ar n by omega]
  exact ⟨h1, h2, by omega⟩
theorem mk_topK {q p : Nat} (H : mc_K F N M bs ar kd ag z pt rt gt m e q v wN wS vals env lv nv cn ab wT vT eT) (hp : tr_pa N ar q = some p) : wN (wT - 1) = nI p ∧ wS (wT - 1) = nI (tr_ci N ar q + 1) ∧ 1 < wT := by
  obtain ⟨hs, h1, h2, h3, h4, h5⟩ := H
  have hb := mc_wb_pos (N := N) (ar := ar) m e
  have hwp := hs.2.2.2.2.2.2.2.1 q p (tr_an_self hs.1) hp
  have t1 := mc_td_some hp
  rw [show wT - 1 = mc_wb N ar m e + mc_td N ar p by omega]
  exact ⟨hwp.1, hwp.2, by omega⟩
theorem mk_topR {r : Nat} (H : mc_K F N M bs ar kd ag z pt rt gt m (e + 1) r v wN wS vals env lv nv cn ab wT vT eT) (hp : tr_pa N ar r = none) : wN (wT - 1) = nI (m e) ∧ wS (wT - 1) = nI (ar (m e) + 1) ∧ 1 < wT ∧ m e < N ∧ kd (m e) = 5 ∧ cn (e + 1) = nI (m e) ∧ ab (e + 1) = nI (mc_eb N ar kd z m (e + 1)) := by
  obtain ⟨hs, h1, h2, h3, h4, h5⟩ := H
  obtain ⟨c1, c2, c3, c4, c5, c6, c7, c8⟩ := hs.2.2.2.2.2.2.1 e (by omega)
  have hb := mc_wb_pos (N := N) (ar := ar) m e
  have t1 := mc_td_none (N := N) (ar := ar) hp
  rw [t1, mc_wb] at h1
  rw [show wT - 1 = mc_wb N ar m e + mc_td N ar (m e) by omega]
  exact ⟨c6, c7, by omega, c1, c2, c3, hs.2.2.2.2.1⟩
theorem mk_topM (h : pw_ok F N bs ar kd ag z pt rt gt) {r : Nat} (H : mc_K F N M bs ar kd ag z pt rt gt m 0 r v wN wS vals env lv nv cn ab wT vT eT) (hp : tr_pa N ar r = none) : wN 0 = -1 ∧ wS 0 = 1 ∧ wT = 1 ∧ vT = 1 ∧ vals 0 = v ∧ r = bs (F - 1) := by
  obtain ⟨hs, h1, h2, h3, h4, h5⟩ := H
  have t1 := mc_td_none (N := N) (ar := ar) hp
  have t2 := mc_pn_none (N := N) (ar := ar) (kd := kd) hp
  rw [t1] at h1
  rw [t2] at h2 h4
  have hr : r = bs (F - 1) := by
    rcases pg_case h.1 hs.1 with ⟨g1, g2, g3⟩ | ⟨p', g1, _⟩
    · rw [hs.2.2.2.2.2.1] at g2; exact g2
    · rw [hp] at g1; cases g1
  exact ⟨hs.2.2.1, hs.2.2.2.1, h1, h2, h4, hr⟩
-- room
theorem mk_sm (H : mc_sus F N M bs ar kd ag z pt rt gt m e wN wS vals env lv nv cn ab) : ∀ i, i < e → m i < N := fun i hi => (H i hi).1
theorem mk_roomU (h : pw_ok F N bs ar kd ag z pt rt gt) (H : mc_U F N M bs ar kd ag z pt rt gt m e n wN wS vals env lv nv cn ab wT vT eT) : n < N ∧ e < 16 ∧ wT ≤ 1025 ∧ vT ≤ 1023 ∧ eT ≤ 720 ∧ mc_eb N ar kd z m e ≤ 675 ∧ sq_sc N ar kd z n ≤ 45 := by
  obtain ⟨hs, h1, h2, h3, h4, h5⟩ := H
  have b1 := mc_wb_le h m e (mk_sm hs.2.2.2.2.2.2.1)
  have b2 := mc_vb_le h m e (mk_sm hs.2.2.2.2.2.2.1)
  have b3 := mc_eb_le h m e (mk_sm hs.2.2.2.2.2.2.1)
  have b4 := pw_fit h hs.1
  have b5 := pw_sc45 h hs.1
  have b6 := hs.2.1
  exact ⟨hs.1, b6, by omega, by omega, by omega, by omega, b5⟩
theorem mk_roomK (h : pw_ok F N bs ar kd ag z pt rt gt) (H : mc_K F N M bs ar kd ag z pt rt gt m e n v wN wS vals env lv nv cn ab wT vT eT) : n < N ∧ e < 16 ∧ wT ≤ 1024 ∧ vT ≤ 1024 ∧ eT ≤ 720 ∧ mc_eb N ar kd z m e ≤ 675 ∧ sq_sc N ar kd z n ≤ 45 ∧ 0 < vT := by
  obtain ⟨hs, h1, h2, h3, h4, h5⟩ := H
  have b1 := mc_wb_le h m e (mk_sm hs.2.2.2.2.2.2.1)
  have b2 := mc_vb_le h m e (mk_sm hs.2.2.2.2.2.2.1)
  have b3 := mc_eb_le h m e (mk_sm hs.2.2.2.2.2.2.1)
  have b4 := pw_fit h hs.1
  have b5 := pw_sc45 h hs.1
  have b6 := hs.2.1
  exact ⟨hs.1, b6, by omega, by omega, by omega, by omega, b5, by omega⟩
theorem mk_roomW (h : pw_ok F N bs ar kd ag z pt rt gt) (H : mc_W F N M bs ar kd ag z pt rt gt m e n wa wN wS vals env lv nv cn ab wT vT eT) : n < N ∧ e < 16 ∧ 1 < wT ∧ wT ≤ 1025 ∧ vT ≤ 1026 ∧ eT ≤ 720 ∧ ar n ≤ vT ∧ ag n < F ∧ 1 ≤ ar n ∧ ar n ≤ 3 ∧ wN (wT - 1) = nI n ∧ wS (wT - 1) = nI (ar n) := by
  obtain ⟨hs, hk, h1, h2, h3, h4, h5, h6⟩ := H
  have b0 := mc_wb_pos (N := N) (ar := ar) m e
  have b1 := mc_wb_le h m e (mk_sm hs.2.2.2.2.2.2.1)
  have b2 := mc_vb_le h m e (mk_sm hs.2.2.2.2.2.2.1)
  have b3 := mc_eb_le h m e (mk_sm hs.2.2.2.2.2.2.1)
  have b4 := pw_fit h hs.1
  have b5 := pw_sc45 h hs.1
  have b6 := hs.2.1
  obtain ⟨k1, k2, k3⟩ := h.2.2.2.1 n hs.1 hk
  have k4 := h.2.2.2.2.2 _ k1
  rw [show wT - 1 = mc_wb N ar m e + mc_td N ar n by omega]
  exact ⟨hs.1, b6, by omega, by omega, by omega, by omega, by omega, k1, by omega, by omega, h1, h2⟩
-- cases
theorem mk_case (h : pw_ok F N bs ar kd ag z pt rt gt) {q p c : Nat} (H : mc_K F N M bs ar kd ag z pt rt gt m e q v wN wS vals env lv nv cn ab wT vT eT) (hp : tr_pa N ar q = some p) (hk : kd p = 6 ∨ kd p = 7) (h0 : tr_ci N ar q = 0) (hc : c < 3) (hc0 : c ≠ 0)
    (hE1 : ∀ t, t < eT → env' t = env t) (hL1 : ∀ t, t < 45 * e + sq_sc N ar kd z p → lv' t = lv t)
    (he : ∀ x, sq_sc N ar kd z p ≤ x → x < sq_sc N ar kd z (tr_ch N ar p c) → env' (mc_eb N ar kd z m e + x) = lv' (45 * e + x) ∧ vl_V M (ty_ty N ar kd z pt (tr_ch N ar p c) x) (lv' (45 * e + x))) :
    mc_U F N M bs ar kd ag z pt rt gt m e (tr_ch N ar p c) (upd wN wT (nI (tr_ch N ar p c))) (upd (upd wS (wT - 1) (nI (c + 1))) wT 0) vals env' lv' nv cn ab (wT + 1) (vT - 1) (eT + sq_cv N ar kd p (tr_ch N ar p c)) := by
  obtain ⟨hs, h1, h2, h3, h4, h5⟩ := H
  obtain ⟨g1, g2, g3, g4, g5, g6⟩ := pw_fnpa h hs.1 hp
  have hwp := hs.2.2.2.2.2.2.2.1 q p (tr_an_self hs.1) hp
  have t1 := mc_td_some hp
  have t2 := mc_pn_some (kd := kd) hp
  unfold mc_pw at t2
  rw [if_neg (by omega)] at t2
  have s1 : sq_sc N ar kd z q = sq_sc N ar kd z p := by rw [sq_some hp, sq_cv0 (Or.inl (by omega))]; rfl
  have har := (h.2.1 p g1).2.2.2.2 hk
  obtain ⟨a1, a2, a3, a4, a5, a6, a7⟩ := pg_ch h.1 g1 (c := c) (by omega)
  have s2 := sq_some (kd := kd) (z := z) a3
  have st := mc_st_fr (env' := env') (lv' := lv') h (mc_st_up h hs hp) ⟨fun _ _ => ⟨rfl, rfl⟩, fun _ _ => rfl, fun t ht => hE1 t (by omega), fun t ht => hL1 t ht, fun _ _ => rfl⟩
  exact mk_down h st hwp.1 (by omega) rfl (fun hk2 => by omega) he (by omega) (by rw [if_neg (by omega)]; omega) (by omega)
theorem mk_case1 (h : pw_ok F N bs ar kd ag z pt rt gt) {q p : Nat} (H : mc_K F N M bs ar kd ag z pt rt gt m e q v wN wS vals env lv nv cn ab wT vT eT) (hp : tr_pa N ar q = some p) (hk : kd p = 6 ∨ kd p = 7) (h0 : tr_ci N ar q = 0) :
    mc_U F N M bs ar kd ag z pt rt gt m e (tr_se N ar q) (upd wN wT (nI (tr_se N ar q))) (upd (upd wS (wT - 1) 2) wT 0) vals env lv nv cn ab (wT + 1) (vT - 1) eT := by
  obtain ⟨g1, g2, g3, g4, g5, g6⟩ := pw_fnpa h H.1.1 hp
  have har := (h.2.1 p g1).2.2.2.2 hk
  obtain ⟨a1, a2, a3, a4, a5, a6, a7⟩ := pg_ch h.1 g1 (c := 1) (by omega)
  have e1 : tr_se N ar q = tr_ch N ar p 1 := by rw [tr_ch_s, ← h0, ← g5]
  have c0 : sq_cv N ar kd p (tr_ch N ar p 1) = 0 := sq_cv0 (Or.inl (by omega))
  have s2 := sq_some (kd := kd) (z := z) a3
  have r := mk_case (env' := env) (lv' := lv) (c := 1) h H hp hk h0 (by omega) (by omega) (fun _ _ => rfl) (fun _ _ => rfl) (fun x x1 x2 => by omega)
  rw [c0] at r
  rw [e1]
  exact r
theorem mk_ch2 (h : pw_ok F N bs ar kd ag z pt rt gt) {q p : Nat} (hq : q < N) (hp : tr_pa N ar q = some p) (hk : kd p = 6 ∨ kd p = 7) (h0 : tr_ci N ar q = 0) :
    tr_se N ar (tr_se N ar q) = tr_ch N ar p 2 ∧ tr_pa N ar (tr_ch N ar p 2) = some p ∧ sq_cv N ar kd p (tr_ch N ar p 2) = (if kd p = 6 then 1 else 2) ∧ tr_ch N ar p 2 < N := by
  obtain ⟨g1, g2, g3, g4, g5, g6⟩ := pw_fnpa h hq hp
  have har := (h.2.1 p g1).2.2.2.2 hk
  obtain ⟨a1, a2, a3, a4, a5, a6, a7⟩ := pg_ch h.1 g1 (c := 2) (by omega)
  refine ⟨?_, a3, ?_, a1⟩
  · rw [show (2 : Nat) = 1 + 1 from rfl, tr_ch_s, show (1 : Nat) = 0 + 1 from rfl, tr_ch_s, ← h0, ← g5]
  · unfold sq_cv
    rw [if_pos a5]
    rcases hk with k | k
    · rw [if_pos k, if_pos k]
    · rw [if_neg (by omega), if_pos k, if_neg (by omega)]
theorem mk_caseN (h : pw_ok F N bs ar kd ag z pt rt gt) {q p : Nat} (H : mc_K F N M bs ar kd ag z pt rt gt m e q v wN wS vals env lv nv cn ab wT vT eT) (hp : tr_pa N ar q = some p) (hk : kd p = 6) (h0 : tr_ci N ar q = 0) {w : Int64} (hw : vl_V M 0 w) :
    mc_U F N M bs ar kd ag z pt rt gt m e (tr_se N ar (tr_se N ar q)) (upd wN wT (nI (tr_se N ar (tr_se N ar q)))) (upd (upd wS (wT - 1) 3) wT 0) vals (vp_updL env eT w) (vp_updL lv (45 * e + sq_sc N ar kd z p) w) nv cn ab (wT + 1) (vT - 1) (eT + 1) := by
  obtain ⟨c1, c2, c3, c4⟩ := mk_ch2 h H.1.1 hp (Or.inl hk) h0
  rw [if_pos hk] at c3
  have s1 : sq_sc N ar kd z q = sq_sc N ar kd z p := by
    rw [sq_some hp, sq_cv0 (Or.inl (by have := (pw_fnpa h H.1.1 hp).2.2.2.2.2; omega))]; rfl
  have s2 := sq_some (kd := kd) (z := z) c2
  have hE := H.2.2.2.1
  have r := mk_case (env' := vp_updL env eT w) (lv' := vp_updL lv (45 * e + sq_sc N ar kd z p) w) (c := 2) h H hp (Or.inl hk) h0 (by omega) (by omega) (fun t ht => pk_uLn (by omega)) (fun t ht => pk_uLn (by omega)) (fun x x1 x2 => by
    have ex : x = sq_sc N ar kd z p := by omega
    subst ex
    rw [show mc_eb N ar kd z m e + sq_sc N ar kd z p = eT by omega, pk_uLs, pk_uLs]
    refine ⟨rfl, ?_⟩
    rw [ty_some c2, if_neg (by omega), if_pos rfl]
    exact hw)
  rw [c3] at r
  rw [c1]
  exact r
theorem mk_caseL (h : pw_ok F N bs ar kd ag z pt rt gt) {q p : Nat} (H : mc_K F N M bs ar kd ag z pt rt gt m e q v wN wS vals env lv nv cn ab wT vT eT) (hp : tr_pa N ar q = some p) (hk : kd p = 7) (h0 : tr_ci N ar q = 0) {w w' : Int64} (hw : vl_V M 0 w) (hw' : vl_V M 1 w') :
    mc_U F N M bs ar kd ag z pt rt gt m e (tr_se N ar (tr_se N ar q)) (upd wN wT (nI (tr_se N ar (tr_se N ar q)))) (upd (upd wS (wT - 1) 3) wT 0) vals (vp_updL (vp_updL env eT w) (eT + 1) w') (vp_updL (vp_updL lv (45 * e + sq_sc N ar kd z p) w) (45 * e + sq_sc N ar kd z p + 1) w') nv cn ab (wT + 1) (vT - 1) (eT + 2) := by
  obtain ⟨c1, c2, c3, c4⟩ := mk_ch2 h H.1.1 hp (Or.inr hk) h0
  rw [if_neg (by omega)] at c3
  have s1 : sq_sc N ar kd z q = sq_sc N ar kd z p := by
    rw [sq_some hp, sq_cv0 (Or.inl (by have := (pw_fnpa h H.1.1 hp).2.2.2.2.2; omega))]; rfl
  have s2 := sq_some (kd := kd) (z := z) c2
  have hE := H.2.2.2.1
  have r := mk_case (env' := vp_updL (vp_updL env eT w) (eT + 1) w') (lv' := vp_updL (vp_updL lv (45 * e + sq_sc N ar kd z p) w) (45 * e + sq_sc N ar kd z p + 1) w') (c := 2) h H hp (Or.inr hk) h0 (by omega) (by omega) (fun t ht => by rw [pk_uLn (by omega), pk_uLn (by omega)]) (fun t ht => by rw [pk_uLn (by omega), pk_uLn (by omega)]) (fun x x1 x2 => by
    rw [ty_some c2, if_neg (by omega)]
    rcases (show x = sq_sc N ar kd z p ∨ x = sq_sc N ar kd z p + 1 by omega) with ex | ex
    · subst ex
      have q1 : vp_updL (vp_updL env eT w) (eT + 1) w' eT = w := by rw [pk_uLn (by omega), pk_uLs]
      have q2 : vp_updL (vp_updL lv (45 * e + sq_sc N ar kd z p) w) (45 * e + sq_sc N ar kd z p + 1) w' (45 * e + sq_sc N ar kd z p) = w := by rw [pk_uLn (by omega), pk_uLs]
      rw [show mc_eb N ar kd z m e + sq_sc N ar kd z p = eT by omega, q1, q2, if_pos rfl]
      exact ⟨rfl, hw⟩
    · subst ex
      rw [show mc_eb N ar kd z m e + (sq_sc N ar kd z p + 1) = eT + 1 by omega, ← Nat.add_assoc, pk_uLs, pk_uLs, if_neg (by omega), if_pos rfl]
      exact ⟨rfl, hw'⟩)
  rw [c3] at r
  rw [c1]
  exact r
end
end
section
section
variable {F N : Nat} {bs ar kd ag z : Nat → Nat} {pt : Nat → Nat → Nat}
theorem fx_sh_0 (o : Option (Nat × Int)) : fx_sh 0 o = o := by
  cases o with
  | none => rfl
  | some a => obtain ⟨j, k⟩ := a; simp [fx_sh]
theorem fx_sh_sh (a b : Int) (o : Option (Nat × Int)) : fx_sh a (fx_sh b o) = fx_sh (a + b) o := by
  cases o with
  | none => rfl
  | some c => obtain ⟨j, k⟩ := c; simp [fx_sh]; omega
/-- every SUCC and CONS has its children -/
def fx_cl (N : Nat) (ar kd : Nat → Nat) : Prop := ∀ d, d < N → (kd d = 2 → d + 1 < N) ∧ (kd d = 4 → tr_ch N ar d 1 < N)
theorem fx_e_u (hcl : fx_cl N ar kd) (g : Nat → Option (Nat × Int)) {c : Nat} (hc : c < N) : fx_e N ar kd ag g c =
    (if kd c = 0 then g (ag c) else if kd c = 2 then fx_sh (-1) (fx_e N ar kd ag g (c + 1)) else if kd c = 4 then fx_sh (-1) (fx_e N ar kd ag g (tr_ch N ar c 1)) else none) := by
  conv => lhs; unfold fx_e
  rw [show N - c = (N - (c + 1)) + 1 by omega, fx_ex]
  split
  · rfl
  · split
    · rfl
    · split
      · rename_i k4
        have h1 := (hcl c hc).2 k4
        have h2 := tr_ch_ge (N := N) (ar := ar) c 1
        rw [fx_ex_t g (N - (c + 1)) (N - tr_ch N ar c 1) (tr_ch N ar c 1) (by omega) (Nat.le_refl _) h1 (fun d _ d2 => hcl d d2)]
        rfl
      · rfl
theorem fx_l_an : ∀ (n a x : Nat), n < N → tr_an N ar a n → x < sq_sc N ar kd z a → fx_l N ar kd ag z n x = fx_l N ar kd ag z a x := by
  intro n
  induction n using Nat.strongRecOn with
  | _ n ih =>
    intro a x hn h hx
    cases hp : tr_pa N ar n with
    | none => rw [(tr_an_root hn hp).mp h]
    | some p =>
      rcases (tr_an_pa hn hp).mp h with e | e
      · rw [e]
      · have h1 := (tr_pa_some hp).1
        have h2 := sq_an (kd := kd) (z := z) p a (by omega) e
        rw [← ih p h1 a x (by omega) e hx]
        by_cases hc : sq_cv N ar kd p n = 0
        · rw [fx_l_0 hp hc]
        · rw [fx_l_s hp hc, if_neg (by omega), if_neg (by omega)]
theorem fx_b_an : ∀ (n a x : Nat), n < N → tr_an N ar a n → x < sq_sc N ar kd z a → fx_b N ar kd z n x = fx_b N ar kd z a x := by
  intro n
  induction n using Nat.strongRecOn with
  | _ n ih =>
    intro a x hn h hx
    cases hp : tr_pa N ar n with
    | none => rw [(tr_an_root hn hp).mp h]
    | some p =>
      rcases (tr_an_pa hn hp).mp h with e | e
      · rw [e]
      · have h1 := (tr_pa_some hp).1
        have h2 := sq_an (kd := kd) (z := z) p a (by omega) e
        rw [← ih p h1 a x (by omega) e hx]
        by_cases hc : sq_cv N ar kd p n = 0
        · rw [fx_b_0 hp hc]
        · rw [fx_b_s hp hc, if_neg (by omega), if_neg (by omega)]
/-- a level's type by its binder -/
theorem ty_bind (h : pg_wf F N bs ar) : ∀ (n x : Nat), n < N → x < sq_sc N ar kd z n →
    (x < z (bs (pg_fn F bs n)) → ty_ty N ar kd z pt n x = pt (bs (pg_fn F bs n)) x) ∧
    (z (bs (pg_fn F bs n)) ≤ x → ∃ k, fx_b N ar kd z n x = some k ∧ k / 4 < n ∧ ty_ty N ar kd z pt n x = (if k % 4 = 2 then 1 else 0)) := by
  intro n
  induction n using Nat.strongRecOn with
  | _ n ih =>
    intro x hn hx
    rcases pg_case h hn with ⟨h1, h2, h3⟩ | ⟨p, h1, h2, h3, h4, h5, h6⟩
    · rw [sq_none h1] at hx
      rw [← h2]
      exact ⟨fun z1 => by rw [ty_none h1], fun z1 => by omega⟩
    · have hs := sq_some (kd := kd) (z := z) h1
      have hzp : z (bs (pg_fn F bs p)) ≤ sq_sc N ar kd z p := by
        have hb := pg_body h (j := p) (by omega)
        have hr := pg_root h hb.1
        have ha : tr_an N ar (bs (pg_fn F bs p)) p := ⟨hb.2.1, by rw [tr_wf_se (h.2.2.2.2 _ hb.1) hb.2.2.2]; exact hb.2.2.1⟩
        have := sq_an (kd := kd) (z := z) p _ (by omega) ha
        rw [sq_none hr] at this; exact this
      rw [h3] at hzp
      rcases Nat.lt_or_ge x (sq_sc N ar kd z p) with hxp | hxp
      · have hi := ih p h2 x (by omega) hxp
        rw [h3] at hi
        have eb : fx_b N ar kd z n x = fx_b N ar kd z p x := by
          by_cases hc : sq_cv N ar kd p n = 0
          · rw [fx_b_0 h1 hc]
          · rw [fx_b_s h1 hc, if_neg (by omega), if_neg (by omega)]
        rw [ty_pa h1 hxp, eb]
        refine ⟨hi.1, fun z1 => ?_⟩
        obtain ⟨k, k1, k2, k3⟩ := hi.2 z1
        exact ⟨k, k1, by omega, k3⟩
      · refine ⟨fun z1 => by omega, fun _ => ?_⟩
        have hc : sq_cv N ar kd p n ≠ 0 := by omega
        have hc2 := sq_cv_le (N := N) (ar := ar) (kd := kd) p n
        rw [fx_b_s h1 hc, ty_some h1, if_neg hc]
        rcases (show x = sq_sc N ar kd z p ∨ x = sq_sc N ar kd z p + 1 by omega) with ex | ex
        · rw [if_pos ex]
          show ∃ k, _ ∧ _ ∧ (if x = sq_sc N ar kd z p then 0 else if x = sq_sc N ar kd z p + 1 then 1 else ty_ty N ar kd z pt p x) = _
          rw [if_pos ex]
          by_cases k2 : sq_cv N ar kd p n = 1
          · exact ⟨p * 4, by rw [if_pos k2], by omega, by rw [if_neg (by omega)]⟩
          · exact ⟨p * 4 + 1, by rw [if_neg k2], by omega, by rw [if_neg (by omega)]⟩
        · rw [if_neg (by omega), if_pos ⟨ex, by omega⟩]
          show ∃ k, _ ∧ _ ∧ (if x = sq_sc N ar kd z p then 0 else if x = sq_sc N ar kd z p + 1 then 1 else ty_ty N ar kd z pt p x) = _
          rw [if_neg (by omega), if_pos ex]
          exact ⟨p * 4 + 2, rfl, by omega, by rw [if_pos (by omega)]⟩
-- the way of the reference's search for a fact
def fx_I (N : Nat) (ar kd z : Nat → Nat) (s c : Nat) : Prop := s ≤ c ∧ c < tr_se N ar s ∧ c < N ∧ sq_sc N ar kd z c = sq_sc N ar kd z s
def fx_mu (N : Nat) (ar : Nat → Nat) (s c : Nat) : Nat := s + (tr_se N ar s - c)
theorem fx_I0 {c : Nat} (h : c < N) : fx_I N ar kd z c c := ⟨Nat.le_refl c, tr_se_gt h, h, rfl⟩
theorem fx_in (h : pg_wf F N bs ar) {s c i : Nat} (H : fx_I N ar kd z s c) (hk : kd c ≠ 6 ∧ kd c ≠ 7) (hi : i < ar c) :
    fx_I N ar kd z s (tr_ch N ar c i) ∧ fx_mu N ar s (tr_ch N ar c i) < fx_mu N ar s c ∧ fx_l N ar kd ag z (tr_ch N ar c i) = fx_l N ar kd ag z c ∧ pg_fn F bs (tr_ch N ar c i) = pg_fn F bs c := by
  obtain ⟨i1, i2, i3, i4⟩ := H
  obtain ⟨a1, a2, a3, a4, a5, a6, a7⟩ := pg_ch h i3 hi
  have cv : sq_cv N ar kd c (tr_ch N ar c i) = 0 := sq_cv0 (Or.inr hk)
  have hse := tr_in_se (N := N) (ar := ar) i1 i2
  refine ⟨⟨by omega, by omega, a1, ?_⟩, ?_, fx_l_0 a3 cv, a7⟩
  · rw [sq_some a3, cv]; exact i4
  · unfold fx_mu; omega
theorem fx_hop (h : pg_wf F N bs ar) (hk3 : ∀ n, n < N → kd n = 6 ∨ kd n = 7 → ar n = 3) {s c x : Nat} (H : fx_I N ar kd z s c) (hx : x < sq_sc N ar kd z c) (hz : z (bs (pg_fn F bs c)) ≤ x) :
    ∃ b, b + 1 < N ∧ b < s ∧ pg_fn F bs (b + 1) = pg_fn F bs c ∧ fx_I N ar kd z (b + 1) (b + 1) ∧ fx_mu N ar (b + 1) (b + 1) < fx_mu N ar s c ∧ fx_l N ar kd ag z (b + 1) = fx_l N ar kd ag z b ∧
      ((fx_b N ar kd z c x = some (b * 4) ∧ fx_l N ar kd ag z c x = fx_sh 1 (fx_e N ar kd ag (fx_l N ar kd ag z b) (b + 1))) ∨
       (fx_b N ar kd z c x = some (b * 4 + 1) ∧ fx_l N ar kd ag z c x = none) ∨
       (fx_b N ar kd z c x = some (b * 4 + 2) ∧ fx_l N ar kd ag z c x = fx_sh 1 (fx_e N ar kd ag (fx_l N ar kd ag z b) (b + 1)))) := by
  obtain ⟨i1, i2, i3, i4⟩ := H
  have hs : s < N := by omega
  have hfn : pg_fn F bs s = pg_fn F bs c := by
    obtain ⟨f1, f2, f3, f4⟩ := pg_body h hs
    have a2 := tr_wf_in (N := N) (h.2.2.2.2 _ f1) f4 f2 f3
    exact (pg_fn_is h f1 (by omega) (by omega)).symm
  have han : tr_an N ar s c := ⟨i1, i2⟩
  rw [fx_l_an c s x i3 han (by omega), fx_b_an c s x i3 han (by omega)]
  obtain ⟨b, q, b1, b2, b3, b4⟩ := (fx_bind (kd := kd) (z := z) (ag := ag) h s x hs (by omega)).2 (by rw [hfn]; exact hz)
  have hq : q < N := by have := b3.1; omega
  have hb := tr_pa_some b1
  have kb : kd b = 6 ∨ kd b = 7 := by
    rcases b4 with ⟨k, _⟩ | ⟨k, _⟩ | ⟨k, _⟩
    · exact Or.inl k
    · exact Or.inr k
    · exact Or.inr k
  have h3 := hk3 b (by omega) kb
  obtain ⟨a1, a2, a3, a4, a5, a6, a7⟩ := pg_ch h (n := b) (c := 0) (by omega) (by omega)
  rw [tr_ch_0] at a1 a2 a3 a4 a5 a6 a7
  have cq : tr_ch N ar b 1 ≤ q := by
    rcases pg_case h hq with ⟨g1, _⟩ | ⟨p', g1, g2, g3, g4, g5, g6⟩
    · rw [b1] at g1; cases g1
    · rw [b1] at g1
      cases g1
      rw [g5, ← g6, b2]
      exact tr_ch_le _ _ _ (by omega)
  have e1 : tr_se N ar (b + 1) = tr_ch N ar b 1 := by rw [show (1 : Nat) = 0 + 1 from rfl, tr_ch_s, tr_ch_0]
  have hbs : pg_fn F bs b = pg_fn F bs s := by
    obtain ⟨f1, f2, f3, f4⟩ := pg_body h (j := b) (by omega)
    have w2 := tr_wf_in (N := N) (h.2.2.2.2 _ f1) f4 f2 f3
    have q2 := tr_in_se (N := N) (ar := ar) (Nat.le_of_lt hb.1) hb.2.1
    have := b3.2
    have := b3.1
    exact (pg_fn_is h f1 (by omega) (by omega)).symm
  refine ⟨b, a1, by have := b3.1; omega, by rw [a7, hbs, hfn], fx_I0 a1, ?_, fx_l_0 a3 (sq_cv0 (Or.inl (by omega))), ?_⟩
  · unfold fx_mu
    have := b3.1
    have g := tr_se_gt (N := N) (ar := ar) a1
    rw [e1] at g ⊢
    omega
  · rcases b4 with ⟨k, k2⟩ | ⟨k, k2⟩ | ⟨k, k2⟩
    · exact Or.inl k2
    · exact Or.inr (Or.inl k2)
    · exact Or.inr (Or.inr k2)
-- how the two words hold a fact
def fx_rs (o : Option (Nat × Int)) (a b : Int32) : Prop := (o = none → a = -1) ∧ ∀ j k, o = some (j, k) → a = nI j ∧ b = Int32.ofInt k
theorem fx_rs_none (b : Int32) : fx_rs none (-1) b := ⟨fun _ => rfl, fun j k h => by cases h⟩
theorem fx_rs_sh {o : Option (Nat × Int)} {a b : Int32} (h : fx_rs o a b) (d : Int) : fx_rs (fx_sh d o) a (b + Int32.ofInt d) := by
  cases o with
  | none => exact ⟨fun _ => h.1 rfl, fun j k e => by cases e⟩
  | some c =>
    obtain ⟨j0, k0⟩ := c
    refine ⟨fun e => (by cases e), fun j k e => ?_⟩
    have h2 := h.2 j0 k0 rfl
    cases e
    exact ⟨h2.1, by rw [h2.2, Int32.ofInt_add]⟩
end
end
section
section
-- what is read off the declared program: F functions with pc parameters, masks mk, result types rt, starts bs; N nodes of kinds kd with args na
def pr_ar (F : Nat) (pc kd : Nat → Nat) (na : Nat → Int32) (n : Nat) : Nat :=
  if kd n = 2 then 1 else if kd n = 4 then 2 else if kd n = 6 ∨ kd n = 7 then 3 else if kd n = 5 ∧ ¬ na n < 0 ∧ na n < nI F then pc (na n).toNatClampNeg else 0
def pr_ag (na : Nat → Int32) (n : Nat) : Nat := (na n).toNatClampNeg
def pr_z (F : Nat) (bs pc : Nat → Nat) (j : Nat) : Nat := pc (pg_fn F bs j)
def pr_pty (mk : Nat → Int32) (f i : Nat) : Nat := if (mk f >>> (nI i &&& 31)) &&& 1 = 1 then 1 else 0
def pr_pt (F : Nat) (bs : Nat → Nat) (mk : Nat → Int32) (j x : Nat) : Nat := pr_pty mk (pg_fn F bs j) x
def pr_rt (F : Nat) (bs rt : Nat → Nat) (j : Nat) : Nat := rt (pg_fn F bs j)
def pr_gt (mk na : Nat → Int32) (p c : Nat) : Nat := pr_pty mk (pr_ag na p) c
/-- what every declared program keeps -/
def pr_in (F N : Nat) (pc rt bs kd : Nat → Nat) (mk na : Nat → Int32) : Prop :=
  F ≤ 6 ∧ N ≤ 64 ∧ (∀ i, pc i ≤ 3) ∧ (∀ i, i < F → 1 ≤ pc i) ∧ (∀ i, rt i ≤ 1) ∧ (∀ i, kd i ≤ 7) ∧ (0 < F → bs 0 = 0) ∧ (∀ i, i < F → bs i ≤ N) ∧ (∀ i, i + 1 < F → bs i ≤ bs (i + 1)) ∧ (F = 0 → N = 0)
variable {F N : Nat} {pc rt bs kd : Nat → Nat} {mk na : Nat → Int32}
theorem pr_ar3 (h : pr_in F N pc rt bs kd mk na) (n : Nat) : pr_ar F pc kd na n ≤ 3 := by
  unfold pr_ar
  split
  · omega
  · split
    · omega
    · split
      · omega
      · split
        · exact h.2.2.1 _
        · omega
theorem pr_be_le (h : pr_in F N pc rt bs kd mk na) {f : Nat} (hf : f < F) : bs f ≤ pg_be F N bs f ∧ pg_be F N bs f ≤ N := by
  unfold pg_be
  split
  · rename_i z1
    exact ⟨h.2.2.2.2.2.2.2.2.1 f z1, h.2.2.2.2.2.2.2.1 (f + 1) z1⟩
  · exact ⟨h.2.2.2.2.2.2.2.1 f hf, Nat.le_refl _⟩
/-- the first function whose code isn't 1, and that code -/
def cd_r (q : Nat → Int32) : Nat → Nat → Int32 × Int32
  | 0, _ => (1, -1)
  | t + 1, f => if q f = 1 then cd_r q t (f + 1) else (q f, nI f)
theorem cd_r_1 {q : Nat → Int32} : ∀ t f, (cd_r q t f).1 = 1 → (∀ i, i < t → q (f + i) = 1) ∧ (cd_r q t f).2 = -1
  | 0, _, _ => ⟨fun i hi => by omega, rfl⟩
  | t + 1, f, h => by
    rw [cd_r] at h ⊢
    split at h
    · rename_i e
      rw [if_pos e]
      have := cd_r_1 t (f + 1) h
      refine ⟨fun i hi => ?_, this.2⟩
      cases i with
      | zero => exact e
      | succ i => have := this.1 i (by omega); rw [show f + 1 + i = f + (i + 1) by omega] at this; exact this
    · rename_i e
      exact absurd h e
def cd_sh (ar : Nat → Nat) (s e : Nat) : Prop := tr_wf ar s e
/-- the first of t nodes from n on that isn't well named, and its code -/
def cd_nm (kd : Nat → Nat) (na : Nat → Int32) (sc : Nat → Nat) (f : Nat) : Nat → Nat → Int32
  | 0, _ => 1
  | t + 1, n => if kd n = 0 ∧ (na n < 0 ∨ nI (sc n) ≤ na n) then 3 else if kd n = 5 ∧ (na n < 0 ∨ nI f < na n) then 4 else cd_nm kd na sc f t (n + 1)
theorem cd_nm_1 {sc : Nat → Nat} {f : Nat} : ∀ t n, cd_nm kd na sc f t n = 1 → ∀ i, i < t → ¬ (kd (n + i) = 0 ∧ (na (n + i) < 0 ∨ nI (sc (n + i)) ≤ na (n + i))) ∧ ¬ (kd (n + i) = 5 ∧ (na (n + i) < 0 ∨ nI f < na (n + i)))
  | 0, _, _, i, hi => by omega
  | t + 1, n, h, i, hi => by
    rw [cd_nm] at h
    split at h
    · exact absurd h (by decide)
    · rename_i e1
      split at h
      · exact absurd h (by decide)
      · rename_i e2
        cases i with
        | zero => exact ⟨e1, e2⟩
        | succ i => have := cd_nm_1 t (n + 1) h i (by omega); rw [show n + 1 + i = n + (i + 1) by omega] at this; exact this
theorem cd_nm_5 {sc : Nat → Nat} {f : Nat} : ∀ t n, cd_nm kd na sc f t n = 1 ∨ cd_nm kd na sc f t n = 3 ∨ cd_nm kd na sc f t n = 4
  | 0, _ => Or.inl rfl
  | t + 1, n => by
    rw [cd_nm]
    split
    · exact Or.inr (Or.inl rfl)
    · split
      · exact Or.inr (Or.inr rfl)
      · exact cd_nm_5 t (n + 1)
/-- 1 if all of t nodes from n on have the asked type -/
def cd_ty (own et : Nat → Nat) : Nat → Nat → Int32
  | 0, _ => 1
  | t + 1, n => if own n = et n then cd_ty own et t (n + 1) else 5
theorem cd_ty_1 {own et : Nat → Nat} : ∀ t n, cd_ty own et t n = 1 → ∀ i, i < t → own (n + i) = et (n + i)
  | 0, _, _, i, hi => by omega
  | t + 1, n, h, i, hi => by
    rw [cd_ty] at h
    split at h
    · rename_i e
      cases i with
      | zero => exact e
      | succ i => have := cd_ty_1 t (n + 1) h i (by omega); rw [show n + 1 + i = n + (i + 1) by omega] at this; exact this
    · exact absurd h (by decide)
theorem cd_ty_5 {own et : Nat → Nat} : ∀ t n, cd_ty own et t n = 1 ∨ cd_ty own et t n = 5
  | 0, _ => Or.inl rfl
  | t + 1, n => by
    rw [cd_ty]
    split
    · exact cd_ty_5 t (n + 1)
    · exact Or.inr rfl
/-- whether the facts o 0, o 1 .. say that a call descends -/
def cd_dn (o : Nat → Option (Nat × Int)) : Nat → Nat → Bool
  | 0, _ => false
  | t + 1, i => match o i with
    | none => false
    | some (j, k) => if ¬ nI j = nI i then false else if Int32.ofInt k < 0 then false else if 0 < Int32.ofInt k then true else cd_dn o t (i + 1)
def cd_ds (kd : Nat → Nat) (na : Nat → Int32) (dn : Nat → Bool) (f : Nat) : Nat → Nat → Int32
  | 0, _ => 1
  | t + 1, n => if kd n = 5 ∧ na n = nI f ∧ dn n = false then 6 else cd_ds kd na dn f t (n + 1)
-- from the codes to the well typed program
theorem pr_wf (h : pr_in F N pc rt bs kd mk na) (hF : 0 < F) (hs : ∀ f, f < F → tr_wf (pr_ar F pc kd na) (bs f) (pg_be F N bs f)) : pg_wf F N bs (pr_ar F pc kd na) :=
  ⟨hF, h.2.1, pr_ar3 h, h.2.2.2.2.2.2.1 hF, hs⟩
theorem pr_bn {x : Int32} {b : Nat} (hb : b < 2 ^ 31) (h1 : ¬ x < 0) (h2 : ¬ nI b ≤ x) : x.toNatClampNeg < b ∧ x = nI x.toNatClampNeg := by
  obtain ⟨j, hj, rfl⟩ := nI_of h1
  rw [nI_leI hb hj] at h2
  rw [nI_clamp hj]
  exact ⟨by omega, rfl⟩
theorem pr_bn2 {x : Int32} {b : Nat} (hb : b < 2 ^ 31) (h1 : ¬ x < 0) (h2 : ¬ nI b < x) : x.toNatClampNeg ≤ b ∧ x = nI x.toNatClampNeg := by
  obtain ⟨j, hj, rfl⟩ := nI_of h1
  rw [nI_ltI hb hj] at h2
  rw [nI_clamp hj]
  exact ⟨by omega, rfl⟩
def pr_sc (F N : Nat) (pc bs kd : Nat → Nat) (na : Nat → Int32) (n : Nat) : Nat := sq_sc N (pr_ar F pc kd na) kd (pr_z F bs pc) n
def pr_et (F N : Nat) (pc rt bs kd : Nat → Nat) (mk na : Nat → Int32) (n : Nat) : Nat := et_et N (pr_ar F pc kd na) kd (pr_rt F bs rt) (pr_gt mk na) n
def pr_ow (F N : Nat) (pc rt bs kd : Nat → Nat) (mk na : Nat → Int32) (n : Nat) : Nat :=
  et_own N (pr_ar F pc kd na) kd (pr_ag na) (pr_z F bs pc) (pr_rt F bs rt) (pr_gt mk na) (pr_pt F bs mk) (fun n => rt (pr_ag na n)) n
def pr_ok (F N : Nat) (pc rt bs kd : Nat → Nat) (mk na : Nat → Int32) : Prop := pw_ok F N bs (pr_ar F pc kd na) kd (pr_ag na) (pr_z F bs pc) (pr_pt F bs mk) (pr_rt F bs rt) (pr_gt mk na)
/-- names are well at node n of function f -/
def pr_nm (F N : Nat) (pc bs kd : Nat → Nat) (na : Nat → Int32) : Prop := ∀ n, n < N → (kd n = 0 → pr_ag na n < pr_sc F N pc bs kd na n ∧ na n = nI (pr_ag na n)) ∧ (kd n = 5 → pr_ag na n ≤ pg_fn F bs n ∧ na n = nI (pr_ag na n))
theorem pr_sc_le (h : pr_in F N pc rt bs kd mk na) (hw : pg_wf F N bs (pr_ar F pc kd na)) {n : Nat} (hn : n < N) : pr_sc F N pc bs kd na n ≤ 45 := by
  have hb := pg_body hw hn
  have h1 := sq_le (kd := kd) (z := pr_z F bs pc) hw n hn
  have h2 : pr_z F bs pc (bs (pg_fn F bs n)) ≤ 3 := h.2.2.1 _
  have h3 := h.2.1
  unfold pr_sc
  omega
theorem pr_mknm (h : pr_in F N pc rt bs kd mk na) (hw : pg_wf F N bs (pr_ar F pc kd na))
    (hn : ∀ f, f < F → cd_nm kd na (pr_sc F N pc bs kd na) f (pg_be F N bs f - bs f) (bs f) = 1) : pr_nm F N pc bs kd na := by
  intro n hnN
  obtain ⟨f1, f2, f3, f4⟩ := pg_body hw hnN
  have k := cd_nm_1 _ _ (hn _ f1) (n - bs (pg_fn F bs n)) (by omega)
  rw [show bs (pg_fn F bs n) + (n - bs (pg_fn F bs n)) = n by omega] at k
  have s45 := pr_sc_le h hw hnN
  have f6 := h.1
  refine ⟨fun k0 => ?_, fun k5 => ?_⟩
  · have k1 : ¬ na n < 0 := fun y => k.1 ⟨k0, Or.inl y⟩
    have k2 : ¬ nI (pr_sc F N pc bs kd na n) ≤ na n := fun y => k.1 ⟨k0, Or.inr y⟩
    exact pr_bn (by omega) k1 k2
  · have k1 : ¬ na n < 0 := fun y => k.2 ⟨k5, Or.inl y⟩
    have k2 : ¬ nI (pg_fn F bs n) < na n := fun y => k.2 ⟨k5, Or.inr y⟩
    exact pr_bn2 (by omega) k1 k2
theorem pr_root_fn (hw : pg_wf F N bs (pr_ar F pc kd na)) {g : Nat} (hg : g < F) : pg_fn F bs (bs g) = g :=
  pg_fn_is hw hg (Nat.le_refl _) (hw.2.2.2.2 g hg).1
theorem pr_ar5 (hw : pg_wf F N bs (pr_ar F pc kd na)) (h : pr_in F N pc rt bs kd mk na) (hn : pr_nm F N pc bs kd na) {n : Nat} (hnN : n < N) (k5 : kd n = 5) : pr_ag na n < F ∧ pr_ar F pc kd na n = pc (pr_ag na n) ∧ na n = nI (pr_ag na n) := by
  obtain ⟨f1, f2, f3, f4⟩ := pg_body hw hnN
  have k := (hn n hnN).2 k5
  have hF := h.1
  have hl : pr_ag na n < F := by omega
  refine ⟨hl, ?_, k.2⟩
  unfold pr_ar
  rw [if_neg (by omega), if_neg (by omega), if_neg (by omega), if_pos]
  · rfl
  · refine ⟨k5, ?_, ?_⟩
    · rw [k.2]; exact nI_pos (by omega)
    · rw [k.2]; exact nI_lt hl (by omega)
theorem pr_mk (h : pr_in F N pc rt bs kd mk na) (hw : pg_wf F N bs (pr_ar F pc kd na)) (hn : pr_nm F N pc bs kd na)
    (ht : ∀ f, f < F → cd_ty (pr_ow F N pc rt bs kd mk na) (pr_et F N pc rt bs kd mk na) (pg_be F N bs f - bs f) (bs f) = 1) : pr_ok F N pc rt bs kd mk na := by
  refine ⟨hw, fun n hnN => ?_, fun n hnN k0 => ((hn n hnN).1 k0).1, fun n hnN k5 => ?_, fun n hnN => ?_, fun f hf => ?_⟩
  · refine ⟨h.2.2.2.2.2.1 n, fun k => ?_, fun k => ?_, fun k => ?_, fun k => ?_⟩
    · unfold pr_ar
      rw [if_neg (by omega), if_neg (by omega), if_neg (by omega), if_neg (by omega)]
    · unfold pr_ar
      rw [if_pos k]
    · unfold pr_ar
      rw [if_neg (by omega), if_pos k]
    · unfold pr_ar
      rw [if_neg (by omega), if_neg (by omega), if_pos k]
  · obtain ⟨a1, a2, a3⟩ := pr_ar5 hw h hn hnN k5
    refine ⟨a1, ?_, fun c hc => ?_⟩
    · rw [a2]
      show _ = pc (pg_fn F bs (bs (pr_ag na n)))
      rw [pr_root_fn hw a1]
    · show pr_pty mk (pr_ag na n) c = pr_pty mk (pg_fn F bs (bs (pr_ag na n))) c
      rw [pr_root_fn hw a1]
  · obtain ⟨f1, f2, f3, f4⟩ := pg_body hw hnN
    have k := cd_ty_1 _ _ (ht _ f1) (n - bs (pg_fn F bs n)) (by omega)
    rw [show bs (pg_fn F bs n) + (n - bs (pg_fn F bs n)) = n by omega] at k
    unfold pr_ow pr_et at k
    rw [← k]
    unfold et_own
    by_cases k5 : kd n = 5
    · rw [if_neg (by omega), if_neg (by omega), if_neg (by omega), if_pos k5, if_neg (by omega), if_neg (by omega), if_neg (by omega), if_pos k5]
      show rt (pg_fn F bs (bs (pr_ag na n))) = rt (pr_ag na n)
      rw [pr_root_fn hw (pr_ar5 hw h hn hnN k5).1]
    · rw [if_neg k5, if_neg k5]
  · show 1 ≤ pc (pg_fn F bs (bs f)) ∧ pc (pg_fn F bs (bs f)) ≤ 3
    rw [pr_root_fn hw hf]
    exact ⟨h.2.2.2.1 f hf, h.2.2.1 f⟩
theorem pw_chk (hw : pg_wf F N bs (pr_ar F pc kd na)) {n p : Nat} (hn : n < N) (hp : tr_pa N (pr_ar F pc kd na) n = some p) : 0 < pr_ar F pc kd na p := by
  rcases pg_case hw hn with ⟨g1, _⟩ | ⟨p', g1, g2, g3, g4, _⟩
  · rw [hp] at g1; cases g1
  · rw [hp] at g1
    cases g1
    omega
theorem pr_pty2 (f i : Nat) : pr_pty mk f i ≤ 1 := by unfold pr_pty; split <;> omega
theorem pr_et2 (h : pr_in F N pc rt bs kd mk na) {n : Nat} : pr_et F N pc rt bs kd mk na n ≤ 1 := by
  unfold pr_et et_et tr_fold
  have key : ∀ t j, tr_up N (pr_ar F pc kd na) (pr_rt F bs rt) (fun p j e => if kd p = 2 then 0 else if kd p = 4 then (if tr_cx N (pr_ar F pc kd na) p j = 0 then 0 else 1) else if kd p = 5 then pr_gt mk na p (tr_cx N (pr_ar F pc kd na) p j) else if tr_cx N (pr_ar F pc kd na) p j = 0 then (if kd p = 7 then 1 else 0) else e) t j ≤ 1 := by
    intro t
    induction t with
    | zero => intro j; exact h.2.2.2.2.1 _
    | succ t ih =>
      intro j
      rw [tr_up]
      split
      · exact h.2.2.2.2.1 _
      · rename_i p _
        split
        · omega
        · split
          · split <;> omega
          · split
            · exact pr_pty2 _ _
            · split
              · split <;> omega
              · exact ih p
  exact key n n
theorem pr_ty2 {z kd' : Nat → Nat} {ar : Nat → Nat} {pt : Nat → Nat → Nat} (hpt : ∀ j x, pt j x ≤ 1) (x : Nat) : ∀ n, ty_ty N ar kd' z pt n x ≤ 1 := by
  intro n
  induction n using Nat.strongRecOn with
  | _ n ih =>
    cases hp : tr_pa N ar n with
    | none => rw [ty_none hp]; exact hpt _ _
    | some p =>
      have hl := (tr_pa_some hp).1
      rw [ty_some hp]
      by_cases c : sq_cv N ar kd' p n = 0
      · rw [if_pos c]; exact ih p hl
      · rw [if_neg c]
        show (if x = _ then (0 : Nat) else if x = _ then 1 else _) ≤ 1
        split
        · omega
        · split
          · omega
          · exact ih p hl
theorem pr_ow2 (h : pr_in F N pc rt bs kd mk na) {n : Nat} : pr_ow F N pc rt bs kd mk na n ≤ 1 := by
  unfold pr_ow et_own
  split
  · exact pr_ty2 (fun j x => pr_pty2 _ _) _ _
  · split
    · omega
    · split
      · omega
      · split
        · exact h.2.2.2.2.1 _
        · exact pr_et2 h
end
end
section
section
theorem vw_m16b : ∀ i : Fin 64, (-16 : Int64).toBitVec.getLsbD i.val = decide (4 ≤ i.val) := by decide +kernel
theorem vw_m16 {a : Nat} (ha : a < 2 ^ 64) : lN a &&& (-16) = lN (a / 16 * 16) := by
  apply wb_inj
  rw [Int64.toBitVec_and, wb_tb, wb_tb]
  apply BitVec.eq_of_getLsbD_eq
  intro i hi
  rw [BitVec.getLsbD_and, vw_m16b ⟨i, hi⟩, BitVec.getLsbD_ofNat, BitVec.getLsbD_ofNat]
  show (decide (i < 64) && a.testBit i && decide (4 ≤ i)) = (decide (i < 64) && (a / 16 * 16).testBit i)
  rw [show a / 16 * 16 = a / 2 ^ 4 * 2 ^ 4 from rfl, Nat.testBit_mul_two_pow, Nat.testBit_div_two_pow]
  by_cases h4 : 4 ≤ i
  · rw [show i - 4 + 4 = i by omega]
    simp [h4]
  · simp [h4]
variable {M x : Nat} {l : List Nat}
theorem vw_len (hM : M ≤ 12) (h : vl_ok M l) : (lN (vl_enc l) &&& 15).toInt32 = nI l.length := by
  have h1 := vl_enc_lt hM h
  rw [show (15 : Int64) = lN (16 - 1) from rfl, g_mask (s := 4) (by decide) (by decide) (by omega), vl_len hM h, lN_i]
theorem vw_lenV {n : Nat} (hn : n < 2 ^ 31) : (nI n).toInt64 = lN n := nI_l hn
theorem vw_s4 (a : Nat) : lN a <<< ((4 : Int32).toInt64 &&& 63) = lN (a * 16) := wb_shl a (k := 4) (by decide)
theorem vw_r4 {a : Nat} (ha : a < 2 ^ 64) : ((lN a).toUInt64 >>> ((4 : Int32).toInt64.toUInt64 &&& Int64.toUInt64 63)).toInt64 = lN (a / 16) := wb_shr (k := 4) ha (by decide)
theorem vw_r8 {a : Nat} (ha : a < 2 ^ 64) : ((lN a).toUInt64 >>> ((8 : Int32).toInt64.toUInt64 &&& Int64.toUInt64 63)).toInt64 = lN (a / 256) := wb_shr (k := 8) ha (by decide)
theorem vw_or {a b : Nat} (ha : a < 16) (hb : b * 16 + a < 2 ^ 64) : lN (b * 16) ||| lN a = lN (b * 16 + a) := g_or (k := 4) (by decide) ha hb
theorem vw_a15 {a : Nat} (ha : a < 2 ^ 64) : lN a &&& 15 = lN (a % 16) := g_mask (p := 16) (s := 4) (by decide) (by decide) ha
theorem vw_consX (hM : M ≤ 12) (h : vl_ok M l) (hx : x ≤ M) : (((lN (vl_enc l) &&& (-16)) ||| lN x) <<< ((4 : Int32).toInt64 &&& 63)) ||| (nI (l.length + 1)).toInt64 = lN (vl_enc (x :: l)) := by
  have h1 := vl_enc_lt hM h
  have h2 := h.1
  rw [vw_m16 (by omega), vw_or (by omega) (by omega), vw_s4, nI_l (by omega), vw_or (by omega) (by omega), ← vl_len hM h, vl_cons_n hM h]
theorem vw_consY (hM : M ≤ 12) (h : vl_ok M l) (hx : x ≤ M) : (((((lN (vl_enc l)).toUInt64 >>> ((4 : Int32).toInt64.toUInt64 &&& Int64.toUInt64 63)).toInt64 <<< ((4 : Int32).toInt64 &&& 63)) ||| lN x) <<< ((4 : Int32).toInt64 &&& 63)) ||| (nI (l.length + 1)).toInt64 = lN (vl_enc (x :: l)) := by
  have h1 := vl_enc_lt hM h
  have h2 := h.1
  rw [vw_r4 (by omega), vw_s4, vw_or (by omega) (by omega), vw_s4, nI_l (by omega), vw_or (by omega) (by omega), ← vl_len hM h, vl_cons_n hM h]
theorem vw_head (hM : M ≤ 12) (h : vl_ok M (x :: l)) : ((lN (vl_enc (x :: l))).toUInt64 >>> ((4 : Int32).toInt64.toUInt64 &&& Int64.toUInt64 63)).toInt64 &&& 15 = lN x := by
  have h1 := vl_enc_lt hM h
  rw [vw_r4 (by omega), vw_a15 (by omega), vl_head_n hM h]
theorem vw_tailX (hM : M ≤ 12) (h : vl_ok M (x :: l)) : (((lN (vl_enc (x :: l))).toUInt64 >>> ((4 : Int32).toInt64.toUInt64 &&& Int64.toUInt64 63)).toInt64 &&& (-16)) ||| (nI l.length).toInt64 = lN (vl_enc l) := by
  have h1 := vl_enc_lt hM h
  have h2 := h.1
  have h3 := vl_tail_n hM h
  have h4 := vl_len hM h
  simp only [List.length_cons] at h2 h4
  rw [vw_r4 (by omega), vw_m16 (by omega), nI_l (by omega), vw_or (by omega) (by omega)]
  rw [h4] at h3
  exact congrArg lN (by omega)
theorem vw_tailY (hM : M ≤ 12) (h : vl_ok M (x :: l)) : (((lN (vl_enc (x :: l))).toUInt64 >>> ((8 : Int32).toInt64.toUInt64 &&& Int64.toUInt64 63)).toInt64 <<< ((4 : Int32).toInt64 &&& 63)) ||| (nI l.length).toInt64 = lN (vl_enc l) := by
  have h1 := vl_enc_lt hM h
  have h2 := h.1
  have h3 := vl_tail_n hM h
  have h4 := vl_len hM h
  simp only [List.length_cons] at h2 h4
  rw [vw_r8 (by omega), vw_s4, nI_l (by omega), vw_or (by omega) (by omega)]
  rw [h4] at h3
  exact congrArg lN (by omega)
-- the bound's numbers
theorem bd_sumX {C a b : Nat} (hC : C < 2 ^ 62) (ha : a ≤ C) (hb : b ≤ C) : (lN C - lN b < lN a → lN C = lN (bd_c C (a + b))) ∧ (¬ lN C - lN b < lN a → lN a + lN b = lN (bd_c C (a + b))) := by
  rw [lN_sub hb, pk_lLT (by omega) (by omega), lN_add]
  unfold bd_c
  constructor
  · intro h; rw [if_neg (by omega)]
  · intro h; rw [if_pos (by omega)]
theorem bd_div {C a b : Nat} (hb : 0 < b) : C / b < a ↔ C < a * b := Nat.div_lt_iff_lt_mul hb
theorem bd_mulX {C a b : Nat} (hC : C < 2 ^ 62) (ha : a ≤ C) (hb : b ≤ C) (h0 : 0 < b) : (lN C / lN b < lN a → lN C = lN (bd_c C (a * b))) ∧ (¬ lN C / lN b < lN a → lN a * lN b = lN (bd_c C (a * b))) := by
  have h1 : C / b ≤ C := Nat.div_le_self _ _
  rw [pk_lDiv (by omega) h0 (by omega), pk_lLT (by omega) (by omega), lN_mul, bd_div h0]
  unfold bd_c
  constructor
  · intro h; rw [if_neg (by omega)]
  · intro h; rw [if_pos (by omega)]
def bd_T (cnt : Nat → Nat → Nat) (L : Nat → Nat) (f : Nat) : Nat := bd_tab cnt L (f + 1) f
theorem bd_tab_lt (cnt : Nat → Nat → Nat) (L : Nat → Nat) : ∀ f g, g < f → bd_tab cnt L f g = bd_T cnt L g := by
  intro f
  induction f with
  | zero => intro g h; omega
  | succ f ih =>
    intro g h
    rcases Nat.eq_or_lt_of_le (Nat.le_of_lt_succ h) with e | e
    · subst e; rfl
    · rw [bd_tab, if_neg (by omega)]; exact ih g e
theorem bd_in_ext {cc T T' : Nat → Nat} : ∀ k, (∀ g, g < k → T' g = T g) → bd_in cc T' k = bd_in cc T k := by
  intro k
  induction k with
  | zero => intro _; rfl
  | succ k ih => intro h; rw [bd_in, bd_in, ih (fun g hg => h g (by omega)), h k (by omega)]
theorem bd_T_eq (cnt : Nat → Nat → Nat) (L : Nat → Nat) (f : Nat) : bd_T cnt L f = bd_S (cnt f f) (L f) * bd_in (cnt f) (bd_T cnt L) f := by
  unfold bd_T
  rw [bd_tab, if_pos rfl, bd_in_ext f (fun g hg => bd_tab_lt cnt L f g hg)]
  rfl
end
end
section
section
def tb_o : Option Nat → Int32
  | none => -1
  | some p => nI p
def tb_P (N : Nat) (ar : Nat → Nat) (n : Nat) : Int32 := tb_o (tr_pa N ar n)
variable {F N : Nat} {bs ar kd z : Nat → Nat}
theorem tb_P_none {n : Nat} (h : tr_pa N ar n = none) : tb_P N ar n = -1 := by unfold tb_P; rw [h]; rfl
theorem tb_P_some {n p : Nat} (h : tr_pa N ar n = some p) : tb_P N ar n = nI p := by unfold tb_P; rw [h]; rfl
/-- k children of n are entered -/
def tb_kids (N : Nat) (ar : Nat → Nat) (n k : Nat) (par cx par' cx' : Nat → Int32) : Prop :=
  (∀ c, c < k → par' (tr_ch N ar n c) = nI n ∧ cx' (tr_ch N ar n c) = nI c) ∧ ∀ j, (∀ c, c < k → j ≠ tr_ch N ar n c) → par' j = par j ∧ cx' j = cx j
variable {par cx par' cx' par0 cx0 se se0 : Nat → Int32}
theorem tb_kids_0 (n : Nat) : tb_kids N ar n 0 par cx par cx := ⟨fun c hc => by omega, fun j _ => ⟨rfl, rfl⟩⟩
theorem tb_kids_s {n k : Nat} (hd : ∀ c, c < k → tr_ch N ar n c < tr_ch N ar n k) (H : tb_kids N ar n k par cx par' cx') :
    tb_kids N ar n (k + 1) par cx (upd par' (tr_ch N ar n k) (nI n)) (upd cx' (tr_ch N ar n k) (nI k)) := by
  refine ⟨fun c hc => ?_, fun j hj => ?_⟩
  · rcases Nat.eq_or_lt_of_le (Nat.le_of_lt_succ hc) with e | e
    · subst e; exact ⟨pk_us, pk_us⟩
    · have h1 := hd c e
      rw [pk_un (by omega), pk_un (by omega)]
      exact H.1 c e
  · have h1 := hj k (by omega)
    rw [pk_un h1, pk_un h1]
    exact H.2 j (fun c hc => hj c (by omega))
/-- the body from s to e is laid out down to node s + k -/
def tb_lay (N : Nat) (ar : Nat → Nat) (s e k : Nat) (par0 cx0 se0 par cx se : Nat → Int32) : Prop :=
  (∀ j, s + k ≤ j → j < e → se j = nI (tr_se N ar j)) ∧ (∀ j p, s < j → j < e → tr_pa N ar j = some p → s + k ≤ p → par j = nI p ∧ cx j = nI (tr_ci N ar j)) ∧ par s = -1 ∧ cx s = 0 ∧
    ∀ j, j < s → par j = par0 j ∧ cx j = cx0 j ∧ se j = se0 j
theorem tb_lay_0 {s e k : Nat} (hk : s + k = e) : tb_lay N ar s e k par0 cx0 se0 (upd par0 s (-1)) (upd cx0 s 0) se0 := by
  refine ⟨fun j h1 h2 => by omega, fun j p h1 h2 h3 h4 => ?_, pk_us, pk_us, fun j hj => ⟨pk_un (by omega), pk_un (by omega), rfl⟩⟩
  have := (tr_pa_some h3).1
  omega
theorem tb_chs {s e n : Nat} (hw : tr_wf ar s e) (hN : e ≤ N) (h1 : s ≤ n) (h2 : n < e) {k : Nat} (hk : k < ar n) : ∀ c, c < k → tr_ch N ar n c < tr_ch N ar n k := by
  intro c hc
  have a1 := tr_wf_ch_lt hw hN h1 h2 (c := c) (by omega)
  have a2 := tr_ch_le (N := N) (ar := ar) n (c + 1) k (by omega)
  omega
theorem tb_lay_s {s e k : Nat} (hw : tr_wf ar s e) (hN : e ≤ N) (ha : ∀ n, ar n ≤ 3) (hk : s + k < e) (H : tb_lay N ar s e (k + 1) par0 cx0 se0 par cx se) (K : tb_kids N ar (s + k) (ar (s + k)) par cx par' cx') :
    tb_lay N ar s e k par0 cx0 se0 par' cx' (upd se (s + k) (nI (tr_se N ar (s + k)))) := by
  obtain ⟨h1, h2, h3, h4, h5⟩ := H
  have hne : ∀ j, j ≤ s + k → ∀ c, c < ar (s + k) → j ≠ tr_ch N ar (s + k) c := fun j hj c _ => by
    have := tr_ch_ge (N := N) (ar := ar) (s + k) c
    omega
  refine ⟨fun j g1 g2 => ?_, fun j p g1 g2 g3 g4 => ?_, ?_, ?_, fun j hj => ?_⟩
  · rcases Nat.eq_or_lt_of_le g1 with e1 | e1
    · subst e1; exact pk_us
    · rw [pk_un (by omega)]; exact h1 j (by omega) g2
  · obtain ⟨p', p1, p2, p3, p4, p5⟩ := tr_pa_ci hw hN ha g1 g2
    rw [g3] at p1
    cases p1
    rcases Nat.eq_or_lt_of_le g4 with e1 | e1
    · have := K.1 (tr_ci N ar j) (by rw [e1]; exact p4)
      rw [e1, ← p5] at this
      exact this
    · have : par' j = par j ∧ cx' j = cx j := K.2 j (fun c hc hj => by
        have q := tr_pa_ch hw hN (by omega) hk hc
        rw [← hj, g3] at q
        cases q
        omega)
      rw [this.1, this.2]
      exact h2 j p g1 g2 g3 (by omega)
  · rw [(K.2 s (hne s (by omega))).1]; exact h3
  · rw [(K.2 s (hne s (by omega))).2]; exact h4
  · have := K.2 j (hne j (by omega))
    rw [this.1, this.2, pk_un (by omega)]
    exact h5 j hj
theorem tb_lay_e {s e : Nat} (hw : tr_wf ar s e) (hN : e ≤ N) (ha : ∀ n, ar n ≤ 3) (hr : tr_pa N ar s = none) (H : tb_lay N ar s e 0 par0 cx0 se0 par cx se) :
    ∀ j, s ≤ j → j < e → par j = tb_P N ar j ∧ cx j = nI (tr_ci N ar j) ∧ se j = nI (tr_se N ar j) := by
  obtain ⟨h1, h2, h3, h4, h5⟩ := H
  intro j g1 g2
  refine ⟨?_, ?_, h1 j (by omega) g2⟩
  · rcases Nat.eq_or_lt_of_le g1 with e1 | e1
    · subst e1; rw [tb_P_none hr]; exact h3
    · obtain ⟨p', p1, p2, p3, p4, p5⟩ := tr_pa_ci hw hN ha e1 g2
      rw [tb_P_some p1]
      exact (h2 j p' e1 g2 p1 (by omega)).1
  · rcases Nat.eq_or_lt_of_le g1 with e1 | e1
    · subst e1
      have : tr_ci N ar s = 0 := by unfold tr_ci; rw [hr]
      rw [this]; exact h4
    · obtain ⟨p', p1, p2, p3, p4, p5⟩ := tr_pa_ci hw hN ha e1 g2
      exact (h2 j p' e1 g2 p1 (by omega)).2
/-- the four tables are right below lim -/
def tb_ok (N : Nat) (ar kd z : Nat → Nat) (par cx se sc : Nat → Int32) (lim : Nat) : Prop :=
  ∀ n, n < lim → par n = tb_P N ar n ∧ cx n = nI (tr_ci N ar n) ∧ se n = nI (tr_se N ar n) ∧ sc n = nI (sq_sc N ar kd z n)
theorem tb_anx {n p : Nat} (h : tr_pa N ar (n + 1) = some p) : tr_an N ar p n := by
  obtain ⟨h1, h2, _⟩ := tr_pa_some h
  exact ⟨by omega, by omega⟩
end
end
section
section
variable {F N : Nat} {bs ar kd ag z rt : Nat → Nat} {pt gt : Nat → Nat → Nat}
theorem ms_bd (h : pw_ok F N bs ar kd ag z pt rt gt) {n : Nat} (hn : n < N) : n < tr_se N ar n ∧ tr_se N ar n ≤ 64 ∧ mc_td N ar n ≤ 63 := by
  have h1 := tr_se_gt (N := N) (ar := ar) hn
  have h2 := tr_se_le (N := N) (ar := ar) (n := n) (by omega)
  have h3 := pw_fit h hn
  have h4 := h.1.2.1
  exact ⟨h1, by omega, by omega⟩
theorem ms_max (h : pw_ok F N bs ar kd ag z pt rt gt) {b d n : Nat} (hn : n < N) (hd : d ≤ 16) (k : Bool) : ms_ms N ar b d n k ≤ 83400 := by
  have := ms_bd h hn
  unfold ms_ms
  split <;> omega
theorem ms_leaf (h : pw_ok F N bs ar kd ag z pt rt gt) {b d n : Nat} (hn : n < N) : ms_ms N ar b d n true < ms_ms N ar b d n false := by
  have := ms_bd h hn
  unfold ms_ms
  rw [if_pos rfl, if_neg (by decide)]
  omega
theorem ms_first (h : pw_ok F N bs ar kd ag z pt rt gt) {b d n : Nat} (hn : n < N) (ha : 0 < ar n) : ms_ms N ar b d (n + 1) false < ms_ms N ar b d n false := by
  obtain ⟨a1, a2, a3, a4, a5, a6, a7⟩ := pg_ch h.1 hn ha
  rw [tr_ch_0] at a1 a3
  have := ms_bd h hn
  have t := mc_td_some a3
  have h4 := h.1.2.1
  unfold ms_ms
  rw [if_neg (by decide), if_neg (by decide)]
  omega
theorem ms_up (h : pw_ok F N bs ar kd ag z pt rt gt) {b d q p : Nat} (hq : q < N) (hp : tr_pa N ar q = some p) : ms_ms N ar b d p true < ms_ms N ar b d q true := by
  obtain ⟨g1, g2, g3⟩ := tr_pa_some hp
  have i := tr_in_se (N := N) (ar := ar) (Nat.le_of_lt g1) g2
  have t := mc_td_some hp
  have b1 := ms_bd h hq
  have b2 := ms_bd h (n := p) (by omega)
  unfold ms_ms
  rw [if_pos rfl, if_pos rfl]
  omega
/-- to a later child of the same parent -/
theorem ms_sib (h : pw_ok F N bs ar kd ag z pt rt gt) {b d q r p : Nat} (hq : q < N) (hr : r < N) (hp : tr_pa N ar q = some p) (hp' : tr_pa N ar r = some p) (hl : tr_se N ar q ≤ r) : ms_ms N ar b d r false < ms_ms N ar b d q true := by
  have t := mc_td_some hp
  have t' := mc_td_some hp'
  have b1 := ms_bd h hq
  have h4 := h.1.2.1
  unfold ms_ms
  rw [if_neg (by decide), if_pos rfl]
  omega
theorem ms_begin (h : pw_ok F N bs ar kd ag z pt rt gt) {b d q r : Nat} (hq : q < N) (hr : r < N) (hb : b < 200) (h0 : mc_td N ar r = 0) : ms_ms N ar (b + 1) (d + 1) r false < ms_ms N ar b d q true := by
  have b1 := ms_bd h hq
  unfold ms_ms
  rw [if_neg (by decide), if_pos rfl]
  omega
theorem ms_ret (h : pw_ok F N bs ar kd ag z pt rt gt) {b d q r : Nat} (hq : q < N) (hr : r < N) : ms_ms N ar b d q true < ms_ms N ar b (d + 1) r true := by
  have b1 := ms_bd h hq
  have b2 := ms_bd h hr
  unfold ms_ms
  rw [if_pos rfl, if_pos rfl]
  omega
end
end
section
section
def ed_u (f : Nat → Nat) (k x : Nat) : Nat → Nat := fun i => if i = k then x else f i
theorem ed_us {f : Nat → Nat} {k x : Nat} : ed_u f k x k = x := if_pos rfl
theorem ed_un {f : Nat → Nat} {k x i : Nat} (h : i ≠ k) : ed_u f k x i = f i := if_neg h
theorem ed_nI (f : Nat → Nat) (k x : Nat) : upd (fun i => nI (f i)) k (nI x) = fun i => nI (ed_u f k x i) := by
  funext i
  unfold upd ed_u
  split <;> rfl
variable {F N : Nat} {pc rt bs kd : Nat → Nat} {mk na : Nat → Int32}
theorem ed_clear (h : pr_in F N pc rt bs kd mk na) : pr_in 0 0 pc rt bs kd mk na := by
  obtain ⟨h1, h2, h3, h4, h5, h6, h7, h8, h9, h10⟩ := h
  exact ⟨by omega, by omega, h3, fun i hi => by omega, h5, h6, fun z => by omega, fun i hi => by omega, fun i hi => by omega, fun _ => rfl⟩
theorem ed_fun (h : pr_in F N pc rt bs kd mk na) {p r : Nat} (hF : F < 6) (hp : 1 ≤ p) (hp3 : p ≤ 3) (hr : r ≤ 1) (g : Nat → Int32) : pr_in (F + 1) N (ed_u pc F p) (ed_u rt F r) (ed_u bs F N) kd g na := by
  obtain ⟨h1, h2, h3, h4, h5, h6, h7, h8, h9, h10⟩ := h
  refine ⟨by omega, h2, fun i => ?_, fun i hi => ?_, fun i => ?_, h6, fun z => ?_, fun i hi => ?_, fun i hi => ?_, fun z => by omega⟩
  · by_cases e : i = F
    · subst e; rw [ed_us]; exact hp3
    · rw [ed_un e]; exact h3 i
  · by_cases e : i = F
    · subst e; rw [ed_us]; exact hp
    · rw [ed_un e]; exact h4 i (by omega)
  · by_cases e : i = F
    · subst e; rw [ed_us]; exact hr
    · rw [ed_un e]; exact h5 i
  · by_cases e : 0 = F
    · subst e; rw [ed_us]; exact h10 rfl
    · rw [ed_un e]; exact h7 (by omega)
  · by_cases e : i = F
    · subst e; rw [ed_us]; exact Nat.le_refl _
    · rw [ed_un e]; exact h8 i (by omega)
  · by_cases e : i + 1 = F
    · rw [e, ed_us, ed_un (by omega)]; exact h8 i (by omega)
    · rw [ed_un e, ed_un (by omega)]; exact h9 i (by omega)
theorem ed_node (h : pr_in F N pc rt bs kd mk na) {k : Nat} (hF : 0 < F) (hN : N < 64) (hk : k ≤ 7) (g : Nat → Int32) : pr_in F (N + 1) pc rt bs (ed_u kd N k) mk g := by
  obtain ⟨h1, h2, h3, h4, h5, h6, h7, h8, h9, h10⟩ := h
  refine ⟨h1, by omega, h3, h4, h5, fun i => ?_, h7, fun i hi => ?_, h9, fun z => by omega⟩
  · by_cases e : i = N
    · subst e; rw [ed_us]; exact hk
    · rw [ed_un e]; exact h6 i
  · have := h8 i hi; omega
end
end
section
section
/-- what a call of the machine needs of the program -/
def rl_laid (F N : Nat) (pc rt bs kd : Nat → Nat) (mk na par cx se sc : Nat → Int32) : Prop :=
  0 < F ∧ pr_ok F N pc rt bs kd mk na ∧ pr_nm F N pc bs kd na ∧ tb_ok N (pr_ar F pc kd na) kd (pr_z F bs pc) par cx se sc N
def rl_sl (M : Nat) (st : Nat → Int32) (sv : Nat → Int64) : Prop := ∀ i, i < 3 → ∃ ty, ty ≤ 1 ∧ st i = nI ty ∧ vl_V M ty (sv i)
end
end
section
section
variable {M F N k : Nat} {pc rt bs kd : Nat → Nat} {mk na : Nat → Int32}
theorem wy_ch_le (h : pr_in F N pc rt bs kd mk na) {n : Nat} (hn : n < N) (c : Nat) : tr_ch N (pr_ar F pc kd na) n c ≤ N := tr_skip_le c (by omega)
theorem wy_cx3 (ar : Nat → Nat) (p j : Nat) : tr_cx N ar p j ≤ 3 := by
  unfold tr_cx
  split
  · omega
  · split
    · omega
    · split <;> omega
theorem fx_pcl (h : pr_in F N pc rt bs kd mk na) (hw : pg_wf F N bs (pr_ar F pc kd na)) : fx_cl N (pr_ar F pc kd na) kd := by
  intro d hd
  refine ⟨fun k => ?_, fun k => ?_⟩
  · have ha : pr_ar F pc kd na d = 1 := by unfold pr_ar; rw [if_pos k]
    have := (pg_ch hw (c := 0) hd (by omega)).1
    rw [tr_ch_0] at this
    exact this
  · have ha : pr_ar F pc kd na d = 2 := by unfold pr_ar; rw [if_neg (by omega), if_pos k]
    exact (pg_ch hw (c := 1) hd (by omega)).1
theorem fx_k3 (n : Nat) (k : kd n = 6 ∨ kd n = 7) : pr_ar F pc kd na n = 3 := by
  unfold pr_ar
  rw [if_neg (by omega), if_neg (by omega), if_pos k]
def pr_fl (F N : Nat) (pc bs kd : Nat → Nat) (na : Nat → Int32) (n : Nat) : Nat → Option (Nat × Int) := fx_l N (pr_ar F pc kd na) kd (pr_ag na) (pr_z F bs pc) n
def pr_fe (F N : Nat) (pc bs kd : Nat → Nat) (na : Nat → Int32) (n c : Nat) : Option (Nat × Int) := fx_e N (pr_ar F pc kd na) kd (pr_ag na) (pr_fl F N pc bs kd na n) c
end
end
section
section
variable {f_sizeCap f_functionCount f_nodeCount f_code f_faultFunction f_foundParam f_foundDrop f_status f_depth f_begun f_beginLimit f_waitingFunction f_currentNode f_valueKnown : Int32} {f_bound f_calls f_fuelLimit f_currentValue : Int64} {a_paramCounts a_listMasks a_resultTypes a_bodyStarts a_nodeKinds a_nodeArgs a_parents a_childIndexes a_subtreeEnds a_scopeSizes a_levelTypes a_levelParams a_levelDrops a_expectedTypes a_slotTypes a_callNodes : Nat → Int32} {a_totals a_slotValues a_waitingArgs a_levelValues a_nodeValues : Nat → Int64}
variable {M F N k : Nat} {pc rt bs kd : Nat → Nat} {mk na : Nat → Int32}
variable {post : Int32 → Prop}
theorem wx_bodyEnd (h : pr_in F N pc rt bs kd mk na) {f : Nat} (hf : f < F) (hp : post (nI (pg_be F N bs f))) : wpX_bodyEnd post ((nI M), (nI F), (nI N), f_code, f_faultFunction, f_bound, f_foundParam, f_foundDrop, f_status, f_calls, f_depth, f_fuelLimit, f_begun, f_beginLimit, f_waitingFunction, f_currentNode, f_valueKnown, f_currentValue, (fun i => nI (pc i)), mk, (fun i => nI (rt i)), (fun i => nI (bs i)), (fun i => nI (kd i)), na, a_parents, a_childIndexes, a_subtreeEnds, a_scopeSizes, a_levelTypes, a_levelParams, a_levelDrops, a_expectedTypes, a_totals, a_slotTypes, a_slotValues, a_waitingArgs, a_callNodes, a_levelValues, a_nodeValues) (nI f) := by
  have h6 := h.1
  have h64 := h.2.1
  unfold pg_be at hp
  simp only [wpX_bodyEnd, nI_1]
  refine pk_le F (f + 1) (fun c => ?_) (fun c => ⟨vp_in_nI (by omega) (by omega), ?_⟩)
  · rw [if_neg (by omega)] at hp; exact hp
  · rw [if_pos (by omega)] at hp; rw [nI_clamp (by omega)]; exact hp
theorem wx_arityOf (h : pr_in F N pc rt bs kd mk na) {i : Nat} (hi : i < N) (hp : post (nI (pr_ar F pc kd na i))) : wpX_arityOf post ((nI M), (nI F), (nI N), f_code, f_faultFunction, f_bound, f_foundParam, f_foundDrop, f_status, f_calls, f_depth, f_fuelLimit, f_begun, f_beginLimit, f_waitingFunction, f_currentNode, f_valueKnown, f_currentValue, (fun i => nI (pc i)), mk, (fun i => nI (rt i)), (fun i => nI (bs i)), (fun i => nI (kd i)), na, a_parents, a_childIndexes, a_subtreeEnds, a_scopeSizes, a_levelTypes, a_levelParams, a_levelDrops, a_expectedTypes, a_totals, a_slotTypes, a_slotValues, a_waitingArgs, a_callNodes, a_levelValues, a_nodeValues) (nI i) := by
  have h6 := h.1
  have h64 := h.2.1
  have hk := h.2.2.2.2.2.1 i
  have e : (nI i).toNatClampNeg = i := nI_clamp (by omega)
  have hv : vp_in (nI i) 64 := vp_in_nI (by omega) (by omega)
  unfold pr_ar at hp
  simp only [wpX_arityOf, e]
  refine ⟨hv, nm_e ?_⟩
  refine pk_lt (kd i) 2 (fun c => by rw [if_neg (by omega), if_neg (by omega), if_neg (by omega), if_neg (by omega)] at hp; exact hp) (fun c => ?_)
  refine pk_lt 7 (kd i) (fun c => by omega) (fun c => ?_)
  refine pk_eq (kd i) 2 (fun c => by rw [if_pos c] at hp; exact hp) (fun c2 => ?_)
  rw [if_neg c2] at hp
  refine pk_eq (kd i) 3 (fun c => by rw [if_neg (by omega), if_neg (by omega), if_neg (by omega)] at hp; exact hp) (fun c3 => ?_)
  refine pk_eq (kd i) 4 (fun c => by rw [if_pos c] at hp; exact hp) (fun c4 => ?_)
  rw [if_neg c4] at hp
  refine pk_eq (kd i) 5 (fun c => ⟨hv, ?_⟩) (fun c5 => ?_)
  · rw [if_neg (by omega)] at hp
    refine br_c (fun c1 => ?_) (fun c1 => br_c (fun c2 => ?_) (fun c2 => ?_))
    · rw [if_neg (fun y => y.2.1 c1)] at hp
      exact br_t rfl hp
    · rw [if_neg (fun y => Int32.not_le.mpr y.2.2 c2)] at hp
      exact br_t rfl hp
    · refine br_f (by decide) ⟨hv, ?_, ?_⟩
      · obtain ⟨j, hj, e2⟩ := nI_of c1
        rw [e2, nI_leI (by omega) hj] at c2
        rw [e2]; exact vp_in_nI (by omega) (by omega)
      · rw [if_pos ⟨c, c1, Int32.not_le.mp c2⟩] at hp; exact hp
  · refine pk_eq (kd i) 6 (fun c => by rw [if_pos (Or.inl c)] at hp; exact hp) (fun c6 => ?_)
    exact pk_eq (kd i) 7 (fun c => by rw [if_pos (Or.inr c)] at hp; exact hp) (fun c7 => trivial)
theorem wx_checkShape_l (h : pr_in F N pc rt bs kd mk na) {e : Nat} (he : e ≤ N) : ∀ (t d n fu : Nat), n + t = e → t < fu → d + 3 * t ≤ 300 → (tr_shp (pr_ar F pc kd na) t d n → post 1) → (¬ tr_shp (pr_ar F pc kd na) t d n → post 2) → wX_checkShape_16 post (nI e) (nI M) (nI F) (nI N) f_code f_faultFunction f_bound f_foundParam f_foundDrop f_status f_calls f_depth f_fuelLimit f_begun f_beginLimit f_waitingFunction f_currentNode f_valueKnown f_currentValue (fun i => nI (pc i)) mk (fun i => nI (rt i)) (fun i => nI (bs i)) (fun i => nI (kd i)) na a_parents a_childIndexes a_subtreeEnds a_scopeSizes a_levelTypes a_levelParams a_levelDrops a_expectedTypes a_totals a_slotTypes a_slotValues a_waitingArgs a_callNodes a_levelValues a_nodeValues fu (nI d) (nI n) := by
  have h64 := h.2.1
  intro t
  induction t with
  | zero =>
    intro d n fu h1 h2 h3 h4 h5
    obtain ⟨fu, rfl⟩ : ∃ f, fu = f + 1 := ⟨fu - 1, by omega⟩
    refine br_t (nI_le (by omega) (by omega)) (pk_eq d 0 (fun c => h4 c) (fun c => h5 c))
  | succ t ih =>
    intro d n fu h1 h2 h3 h4 h5
    obtain ⟨fu, rfl⟩ : ∃ f, fu = f + 1 := ⟨fu - 1, by omega⟩
    refine br_f (nI_ge (by omega) (by omega)) (pk_eq d 0 (fun c => h5 (fun y => y.1 c)) (fun c => ?_))
    have ha := pr_ar3 h n
    obtain ⟨d, rfl⟩ : ∃ d', d = d' + 1 := ⟨d - 1, by omega⟩
    refine wx_arityOf h (by omega) (nm_r (e' := nI (d + pr_ar F pc kd na n)) (by rw [nI_pred, nI_add]) (nm_r (nI_1 n) ?_))
    exact ih _ (n + 1) fu (by omega) (by omega) (by omega) (fun y => h4 ⟨by omega, y⟩) (fun y => h5 (fun w => y w.2))
theorem pr_shp {ar : Nat → Nat} {s e : Nat} (hs : s ≤ e) : tr_shp ar (e - s) 1 s ↔ tr_wf ar s e := by
  constructor
  · intro y
    refine ⟨?_, y⟩
    rcases Nat.eq_or_lt_of_le hs with z1 | z1
    · subst z1
      rw [Nat.sub_self] at y
      exact absurd (show (1 : Nat) = 0 from y) (by decide)
    · exact z1
  · exact fun y => y.2
theorem wx_checkShape (h : pr_in F N pc rt bs kd mk na) {f : Nat} (hf : f < F) (h1 : tr_wf (pr_ar F pc kd na) (bs f) (pg_be F N bs f) → post 1) (h2 : ¬ tr_wf (pr_ar F pc kd na) (bs f) (pg_be F N bs f) → post 2) : wpX_checkShape post ((nI M), (nI F), (nI N), f_code, f_faultFunction, f_bound, f_foundParam, f_foundDrop, f_status, f_calls, f_depth, f_fuelLimit, f_begun, f_beginLimit, f_waitingFunction, f_currentNode, f_valueKnown, f_currentValue, (fun i => nI (pc i)), mk, (fun i => nI (rt i)), (fun i => nI (bs i)), (fun i => nI (kd i)), na, a_parents, a_childIndexes, a_subtreeEnds, a_scopeSizes, a_levelTypes, a_levelParams, a_levelDrops, a_expectedTypes, a_totals, a_slotTypes, a_slotValues, a_waitingArgs, a_callNodes, a_levelValues, a_nodeValues) (nI f) := by
  have h6 := h.1
  have h64 := h.2.1
  have hb := pr_be_le h hf
  have e : (nI f).toNatClampNeg = f := nI_clamp (by omega)
  unfold wpX_checkShape
  refine wx_bodyEnd h hf ⟨vp_in_nI (by omega) (by omega), nm_r (e' := nI (bs f)) (by rw [e]) ⟨65, ?_⟩⟩
  exact wx_checkShape_l h hb.2 (pg_be F N bs f - bs f) 1 (bs f) 65 (by omega) (by omega) (by omega) (fun y => h1 ((pr_shp hb.1).mp y)) (fun y => h2 (fun w => y ((pr_shp hb.1).mpr w)))
end
section
variable {f_sizeCap f_functionCount f_nodeCount f_code f_faultFunction f_foundParam f_foundDrop f_status f_depth f_begun f_beginLimit f_waitingFunction f_currentNode f_valueKnown : Int32} {f_bound f_calls f_fuelLimit f_currentValue : Int64} {a_paramCounts a_listMasks a_resultTypes a_bodyStarts a_nodeKinds a_nodeArgs a_parents a_childIndexes a_subtreeEnds a_scopeSizes a_levelTypes a_levelParams a_levelDrops a_expectedTypes a_slotTypes a_callNodes : Nat → Int32} {a_totals a_slotValues a_waitingArgs a_levelValues a_nodeValues : Nat → Int64}
variable {M F N k : Nat} {pc rt bs kd : Nat → Nat} {mk na : Nat → Int32}
theorem wx_lay55 {post : St2 → Prop} (h : pr_in F N pc rt bs kd mk na) {s e n : Nat} (hw : tr_wf (pr_ar F pc kd na) s e) (hN : e ≤ N) (hn1 : s ≤ n) (hn2 : n < e) (hse : ∀ j, n < j → j < e → a_subtreeEnds j = nI (tr_se N (pr_ar F pc kd na) j)) {J} {x2 : Int32} {par0 cx0 : Nat → Int32}
    (hJ : ∀ par' cx', tb_kids N (pr_ar F pc kd na) n (pr_ar F pc kd na n) par0 cx0 par' cx' → J (nI n + (-1)) (fun i => nI (pc i)) mk (fun i => nI (rt i)) (fun i => nI (bs i)) (fun i => nI (kd i)) na par' cx' (upd a_subtreeEnds n (nI (tr_se N (pr_ar F pc kd na) n))) a_scopeSizes a_levelTypes a_levelParams a_levelDrops a_expectedTypes a_totals a_slotTypes a_slotValues a_waitingArgs a_callNodes a_levelValues a_nodeValues) :
    ∀ (r k fu : Nat) (par cx : Nat → Int32), k + r = pr_ar F pc kd na n → r < fu → tb_kids N (pr_ar F pc kd na) n k par0 cx0 par cx → wX_layOutTree_55 post J x2 (nI e) (nI n) (nI (pr_ar F pc kd na n)) (nI M) (nI F) (nI N) f_code f_faultFunction f_bound f_foundParam f_foundDrop f_status f_calls f_depth f_fuelLimit f_begun f_beginLimit f_waitingFunction f_currentNode f_valueKnown f_currentValue fu (nI (tr_ch N (pr_ar F pc kd na) n k)) (nI k) (fun i => nI (pc i)) mk (fun i => nI (rt i)) (fun i => nI (bs i)) (fun i => nI (kd i)) na par cx a_subtreeEnds a_scopeSizes a_levelTypes a_levelParams a_levelDrops a_expectedTypes a_totals a_slotTypes a_slotValues a_waitingArgs a_callNodes a_levelValues a_nodeValues := by
  have h64 := h.2.1
  have ha := pr_ar3 h n
  have en : (nI n).toNatClampNeg = n := nI_clamp (by omega)
  intro r
  induction r with
  | zero =>
    intro k fu par cx h1 h2 h3
    obtain ⟨fu, rfl⟩ : ∃ f, fu = f + 1 := ⟨fu - 1, by omega⟩
    have ek : k = pr_ar F pc kd na n := by omega
    subst ek
    refine br_t (nI_le (Nat.le_refl _) (by omega)) ⟨vp_in_nI (by omega) (by omega), nm_r (e' := upd a_subtreeEnds n (nI (tr_se N (pr_ar F pc kd na) n))) (by rw [en, tr_se_ch (by omega)]) (nm_e (hJ par cx h3))⟩
  | succ r ih =>
    intro k fu par cx h1 h2 h3
    obtain ⟨fu, rfl⟩ : ∃ f, fu = f + 1 := ⟨fu - 1, by omega⟩
    have c1 := tr_wf_ch (N := N) hw hN hn1 hn2 (c := k) (by omega)
    have c2 := tr_wf_in (N := N) hw hN hn1 hn2
    have c3 := tr_ch_ge (N := N) (ar := (pr_ar F pc kd na)) n k
    have ec : (nI (tr_ch N (pr_ar F pc kd na) n k)).toNatClampNeg = tr_ch N (pr_ar F pc kd na) n k := nI_clamp (by omega)
    have hv : vp_in (nI (tr_ch N (pr_ar F pc kd na) n k)) 64 := vp_in_nI (by omega) (by omega)
    refine br_f (nI_ge (by omega) (by omega)) (br_f (nI_ge (by omega) (by omega)) ⟨hv, ?_⟩)
    rw [ec]
    refine nm_e ⟨hv, nm_e ⟨hv, nm_r (e' := nI (tr_ch N (pr_ar F pc kd na) n (k + 1))) (by rw [hse _ (by omega) (by omega), tr_ch_s]) (nm_r (nI_1 k) ?_)⟩⟩
    exact ih (k + 1) fu _ _ (by omega) (by omega) (tb_kids_s (tb_chs hw hN hn1 hn2 (by omega)) h3)
theorem wx_m1 (s : Nat) (hs : s < 1000) : nI s + (-1) < nI s := by
  cases s with
  | zero => decide
  | succ s => rw [pk_m1]; exact nI_lt (by omega) (by omega)
theorem wx_lay32 {post : St2 → Prop} (h : pr_in F N pc rt bs kd mk na) {s e : Nat} (hw : tr_wf (pr_ar F pc kd na) s e) (hN : e ≤ N) {par0 cx0 se0 : Nat → Int32}
    (hp : ∀ par cx se, tb_lay N (pr_ar F pc kd na) s e 0 par0 cx0 se0 par cx se → post ((nI M), (nI F), (nI N), f_code, f_faultFunction, f_bound, f_foundParam, f_foundDrop, f_status, f_calls, f_depth, f_fuelLimit, f_begun, f_beginLimit, f_waitingFunction, f_currentNode, f_valueKnown, f_currentValue, (fun i => nI (pc i)), mk, (fun i => nI (rt i)), (fun i => nI (bs i)), (fun i => nI (kd i)), na, par, cx, se, a_scopeSizes, a_levelTypes, a_levelParams, a_levelDrops, a_expectedTypes, a_totals, a_slotTypes, a_slotValues, a_waitingArgs, a_callNodes, a_levelValues, a_nodeValues)) :
    ∀ (k fu : Nat) (par cx se : Nat → Int32), s + k ≤ e → k < fu → tb_lay N (pr_ar F pc kd na) s e k par0 cx0 se0 par cx se → wX_layOutTree_32 post (nI s) (nI e) (nI M) (nI F) (nI N) f_code f_faultFunction f_bound f_foundParam f_foundDrop f_status f_calls f_depth f_fuelLimit f_begun f_beginLimit f_waitingFunction f_currentNode f_valueKnown f_currentValue fu (nI (s + k) + (-1)) (fun i => nI (pc i)) mk (fun i => nI (rt i)) (fun i => nI (bs i)) (fun i => nI (kd i)) na par cx se a_scopeSizes a_levelTypes a_levelParams a_levelDrops a_expectedTypes a_totals a_slotTypes a_slotValues a_waitingArgs a_callNodes a_levelValues a_nodeValues := by
  have h64 := h.2.1
  intro k
  induction k with
  | zero =>
    intro fu par cx se h1 h2 h3
    obtain ⟨fu, rfl⟩ : ∃ f, fu = f + 1 := ⟨fu - 1, by omega⟩
    exact br_t (wx_m1 s (by omega)) (hp par cx se h3)
  | succ k ih =>
    intro fu par cx se h1 h2 h3
    obtain ⟨fu, rfl⟩ : ∃ f, fu = f + 1 := ⟨fu - 1, by omega⟩
    rw [← Nat.add_assoc, pk_m1]
    have ha := pr_ar3 h (s + k)
    refine br_f (nI_nlt (by omega) (by omega)) (wx_arityOf h (by omega) (nm_r (e' := nI (tr_ch N (pr_ar F pc kd na) (s + k) 0)) (by rw [nI_1, tr_ch_0]) ⟨4, ?_⟩))
    exact wx_lay55 (n := s + k) h hw hN (by omega) (by omega) (fun j j1 j2 => h3.1 j (by omega) j2) (fun par' cx' K => ih fu par' cx' _ (by omega) (by omega) (tb_lay_s hw hN (pr_ar3 h) (by omega) h3 K)) (pr_ar F pc kd na (s + k)) 0 4 par cx (by omega) (by omega) (tb_kids_0 _)
theorem wx_layOutTree {post : St2 → Prop} (h : pr_in F N pc rt bs kd mk na) {f : Nat} (hf : f < F) (hw : tr_wf (pr_ar F pc kd na) (bs f) (pg_be F N bs f))
    (hp : ∀ par cx se, tb_lay N (pr_ar F pc kd na) (bs f) (pg_be F N bs f) 0 a_parents a_childIndexes a_subtreeEnds par cx se → post ((nI M), (nI F), (nI N), f_code, f_faultFunction, f_bound, f_foundParam, f_foundDrop, f_status, f_calls, f_depth, f_fuelLimit, f_begun, f_beginLimit, f_waitingFunction, f_currentNode, f_valueKnown, f_currentValue, (fun i => nI (pc i)), mk, (fun i => nI (rt i)), (fun i => nI (bs i)), (fun i => nI (kd i)), na, par, cx, se, a_scopeSizes, a_levelTypes, a_levelParams, a_levelDrops, a_expectedTypes, a_totals, a_slotTypes, a_slotValues, a_waitingArgs, a_callNodes, a_levelValues, a_nodeValues)) : wpX_layOutTree post ((nI M), (nI F), (nI N), f_code, f_faultFunction, f_bound, f_foundParam, f_foundDrop, f_status, f_calls, f_depth, f_fuelLimit, f_begun, f_beginLimit, f_waitingFunction, f_currentNode, f_valueKnown, f_currentValue, (fun i => nI (pc i)), mk, (fun i => nI (rt i)), (fun i => nI (bs i)), (fun i => nI (kd i)), na, a_parents, a_childIndexes, a_subtreeEnds, a_scopeSizes, a_levelTypes, a_levelParams, a_levelDrops, a_expectedTypes, a_totals, a_slotTypes, a_slotValues, a_waitingArgs, a_callNodes, a_levelValues, a_nodeValues) (nI f) := by
  have h6 := h.1
  have h64 := h.2.1
  have hb := pr_be_le h hf
  have hlt := hw.1
  have e : (nI f).toNatClampNeg = f := nI_clamp (by omega)
  have e2 : (nI (bs f)).toNatClampNeg = bs f := nI_clamp (by omega)
  have hv : vp_in (nI (bs f)) 64 := vp_in_nI (by omega) (by omega)
  refine ⟨vp_in_nI (by omega) (by omega), nm_r (e' := nI (bs f)) (by rw [e]) (wx_bodyEnd h hf ⟨hv, ?_⟩)⟩
  rw [e2]
  refine nm_e ⟨hv, nm_e (nm_r (e' := nI (bs f + (pg_be F N bs f - bs f)) + (-1)) (by rw [show bs f + (pg_be F N bs f - bs f) = pg_be F N bs f by omega, Int32.sub_eq_add_neg]) ⟨65, ?_⟩)⟩
  exact wx_lay32 h hw hb.2 hp (pg_be F N bs f - bs f) 65 _ _ _ (by omega) (by omega) (tb_lay_0 (by omega))
end
end
section
section
/-- the case whose variables come into scope just at node n -/
def tb_bi (N : Nat) (ar kd : Nat → Nat) (n : Nat) : Option Nat := match tr_pa N ar n with
  | none => none
  | some p => if sq_cv N ar kd p n = 0 then none else some p
theorem tb_bi_none {N : Nat} {ar kd : Nat → Nat} {n : Nat} (h : tr_pa N ar n = none) : tb_bi N ar kd n = none := by unfold tb_bi; rw [h]
theorem tb_bi_0 {N : Nat} {ar kd : Nat → Nat} {n p : Nat} (h : tr_pa N ar n = some p) (hc : sq_cv N ar kd p n = 0) : tb_bi N ar kd n = none := by unfold tb_bi; rw [h]; exact if_pos hc
theorem tb_bi_s {N : Nat} {ar kd : Nat → Nat} {n p : Nat} (h : tr_pa N ar n = some p) (hc : sq_cv N ar kd p n ≠ 0) : tb_bi N ar kd n = some p := by unfold tb_bi; rw [h]; exact if_neg hc
theorem sq_cvk {N : Nat} {ar kd : Nat → Nat} {p n : Nat} (hc : sq_cv N ar kd p n ≠ 0) : tr_cx N ar p n = 2 ∧ ((kd p = 6 ∧ sq_cv N ar kd p n = 1) ∨ (kd p = 7 ∧ sq_cv N ar kd p n = 2)) := by
  unfold sq_cv at hc ⊢
  split at hc
  · rename_i e
    refine ⟨e, ?_⟩
    rw [if_pos e]
    split at hc
    · rename_i e2; exact Or.inl ⟨e2, by rw [if_pos e2]⟩
    · rename_i e2
      split at hc
      · rename_i e3; exact Or.inr ⟨e3, by rw [if_neg e2, if_pos e3]⟩
      · exact absurd rfl hc
  · exact absurd rfl hc
theorem sq_cv2 {N : Nat} {ar kd : Nat → Nat} {p n : Nat} (h : tr_cx N ar p n = 2) (hk : kd p = 6 ∨ kd p = 7) : sq_cv N ar kd p n ≠ 0 := by
  unfold sq_cv
  rw [if_pos h]
  rcases hk with k | k
  · rw [if_pos k]; decide
  · rw [if_neg (by omega), if_pos k]; decide
theorem tb_ci {N : Nat} {ar : Nat → Nat} {n p : Nat} (h : tr_pa N ar n = some p) : tr_ci N ar n = tr_cx N ar p n := by unfold tr_ci; rw [h]
variable {f_sizeCap f_functionCount f_nodeCount f_code f_faultFunction f_foundParam f_foundDrop f_status f_depth f_begun f_beginLimit f_waitingFunction f_currentNode f_valueKnown : Int32} {f_bound f_calls f_fuelLimit f_currentValue : Int64} {a_paramCounts a_listMasks a_resultTypes a_bodyStarts a_nodeKinds a_nodeArgs a_parents a_childIndexes a_subtreeEnds a_scopeSizes a_levelTypes a_levelParams a_levelDrops a_expectedTypes a_slotTypes a_callNodes : Nat → Int32} {a_totals a_slotValues a_waitingArgs a_levelValues a_nodeValues : Nat → Int64}
variable {M F N k : Nat} {pc rt bs kd : Nat → Nat} {mk na : Nat → Int32}
theorem wx_binderAt {post : Int32 → Prop} (h : pr_in F N pc rt bs kd mk na) {n : Nat} (hn : n < N) (hpa : a_parents n = tb_P N (pr_ar F pc kd na) n) (hci : a_childIndexes n = nI (tr_ci N (pr_ar F pc kd na) n)) (hp : post (tb_o (tb_bi N (pr_ar F pc kd na) kd n))) : wpX_binderAt post ((nI M), (nI F), (nI N), f_code, f_faultFunction, f_bound, f_foundParam, f_foundDrop, f_status, f_calls, f_depth, f_fuelLimit, f_begun, f_beginLimit, f_waitingFunction, f_currentNode, f_valueKnown, f_currentValue, (fun i => nI (pc i)), mk, (fun i => nI (rt i)), (fun i => nI (bs i)), (fun i => nI (kd i)), na, a_parents, a_childIndexes, a_subtreeEnds, a_scopeSizes, a_levelTypes, a_levelParams, a_levelDrops, a_expectedTypes, a_totals, a_slotTypes, a_slotValues, a_waitingArgs, a_callNodes, a_levelValues, a_nodeValues) (nI n) := by
  have h64 := h.2.1
  have e : (nI n).toNatClampNeg = n := nI_clamp (by omega)
  have hv : vp_in (nI n) 64 := vp_in_nI (by omega) (by omega)
  simp only [wpX_binderAt, e, hpa, hci]
  cases hpn : tr_pa N (pr_ar F pc kd na) n with
  | none =>
    rw [tb_bi_none hpn] at hp
    exact ⟨hv, nm_r (tb_P_none hpn) (br_t rfl hp)⟩
  | some p =>
    have hpl := (tr_pa_some hpn).1
    have hk := h.2.2.2.2.2.1 p
    have h3 := wy_cx3 (N := N) (pr_ar F pc kd na) p n
    rw [tb_ci hpn]
    have ep : (nI p).toNatClampNeg = p := nI_clamp (by omega)
    refine ⟨hv, nm_r (tb_P_some hpn) (br_f (fun y => absurd y (by have := nI_pos' (n := p) (by omega); intro y2; rw [y2] at this; exact absurd this (by decide))) ⟨hv, ?_⟩)⟩
    refine pk_eq (tr_cx N (pr_ar F pc kd na) p n) 2 (fun c => ⟨vp_in_nI (by omega) (by omega), nm_r (e' := nI (kd p)) (by rw [ep]) ?_⟩) (fun c => ?_)
    · refine pk_eq (kd p) 6 (fun k => ?_) (fun k6 => pk_eq (kd p) 7 (fun k => ?_) (fun k7 => ?_))
      · rw [tb_bi_s hpn (sq_cv2 c (Or.inl k))] at hp; exact hp
      · rw [tb_bi_s hpn (sq_cv2 c (Or.inr k))] at hp; exact hp
      · rw [tb_bi_0 hpn (sq_cv0 (Or.inr ⟨k6, k7⟩))] at hp; exact hp
    · rw [tb_bi_0 hpn (sq_cv0 (Or.inl c))] at hp; exact hp
theorem wx_no (p : Nat) (h : p < 1000) : ¬ nI p = -1 := by
  intro y
  have := nI_pos' (n := p) (by omega)
  rw [y] at this
  exact absurd this (by decide)
theorem wx_sc72 {post : St2 → Prop} (h : pr_in F N pc rt bs kd mk na) (hw : pg_wf F N bs (pr_ar F pc kd na)) {n p v : Nat} (hn : n < N) (hpa : a_parents n = nI p) (hpn : tr_pa N (pr_ar F pc kd na) n = some p) (hsp : a_scopeSizes p = nI (pr_sc F N pc bs kd na p)) (hv : v = sq_cv N (pr_ar F pc kd na) kd p n) {J} {x3 : Int32}
    (hJ : J (nI (n + 1)) (fun i => nI (pc i)) mk (fun i => nI (rt i)) (fun i => nI (bs i)) (fun i => nI (kd i)) na a_parents a_childIndexes a_subtreeEnds (upd a_scopeSizes n (nI (pr_sc F N pc bs kd na n))) a_levelTypes a_levelParams a_levelDrops a_expectedTypes a_totals a_slotTypes a_slotValues a_waitingArgs a_callNodes a_levelValues a_nodeValues) : wX_layOutScopes_72 post J x3 (nI n) (nI v) (nI M) (nI F) (nI N) f_code f_faultFunction f_bound f_foundParam f_foundDrop f_status f_calls f_depth f_fuelLimit f_begun f_beginLimit f_waitingFunction f_currentNode f_valueKnown f_currentValue (fun i => nI (pc i)) mk (fun i => nI (rt i)) (fun i => nI (bs i)) (fun i => nI (kd i)) na a_parents a_childIndexes a_subtreeEnds a_scopeSizes a_levelTypes a_levelParams a_levelDrops a_expectedTypes a_totals a_slotTypes a_slotValues a_waitingArgs a_callNodes a_levelValues a_nodeValues := by
  have h64 := h.2.1
  have hpl := (tr_pa_some hpn).1
  have e : (nI n).toNatClampNeg = n := nI_clamp (by omega)
  have ep : (nI p).toNatClampNeg = p := nI_clamp (by omega)
  have hvn : vp_in (nI n) 64 := vp_in_nI (by omega) (by omega)
  have es : pr_sc F N pc bs kd na n = pr_sc F N pc bs kd na p + sq_cv N (pr_ar F pc kd na) kd p n := by unfold pr_sc; exact sq_some hpn
  unfold wX_layOutScopes_72
  rw [e, hpa, ep, hsp, nI_add, hv, ← es]
  exact ⟨hvn, vp_in_nI (by omega) (by omega), hvn, nm_e (nm_r (nI_1 n) hJ)⟩
theorem wx_sc30 {post : St2 → Prop} (h : pr_in F N pc rt bs kd mk na) (hw : pg_wf F N bs (pr_ar F pc kd na)) {f : Nat} (hf : f < F) (hpa : ∀ j, bs f ≤ j → j < pg_be F N bs f → a_parents j = tb_P N (pr_ar F pc kd na) j ∧ a_childIndexes j = nI (tr_ci N (pr_ar F pc kd na) j))
    (hp : ∀ sc, (∀ j, j < pg_be F N bs f → sc j = nI (pr_sc F N pc bs kd na j)) → post ((nI M), (nI F), (nI N), f_code, f_faultFunction, f_bound, f_foundParam, f_foundDrop, f_status, f_calls, f_depth, f_fuelLimit, f_begun, f_beginLimit, f_waitingFunction, f_currentNode, f_valueKnown, f_currentValue, (fun i => nI (pc i)), mk, (fun i => nI (rt i)), (fun i => nI (bs i)), (fun i => nI (kd i)), na, a_parents, a_childIndexes, a_subtreeEnds, sc, a_levelTypes, a_levelParams, a_levelDrops, a_expectedTypes, a_totals, a_slotTypes, a_slotValues, a_waitingArgs, a_callNodes, a_levelValues, a_nodeValues)) :
    ∀ (r n fu : Nat) (sc : Nat → Int32), n + r = pg_be F N bs f → bs f < n → r < fu → (∀ j, j < n → sc j = nI (pr_sc F N pc bs kd na j)) → wX_layOutScopes_30 post (nI (pg_be F N bs f)) (nI M) (nI F) (nI N) f_code f_faultFunction f_bound f_foundParam f_foundDrop f_status f_calls f_depth f_fuelLimit f_begun f_beginLimit f_waitingFunction f_currentNode f_valueKnown f_currentValue fu (nI n) (fun i => nI (pc i)) mk (fun i => nI (rt i)) (fun i => nI (bs i)) (fun i => nI (kd i)) na a_parents a_childIndexes a_subtreeEnds sc a_levelTypes a_levelParams a_levelDrops a_expectedTypes a_totals a_slotTypes a_slotValues a_waitingArgs a_callNodes a_levelValues a_nodeValues := by
  have h64 := h.2.1
  have hN := pg_lastN hw hf
  intro r
  induction r with
  | zero =>
    intro n fu sc h1 h2 h3 h4
    obtain ⟨fu, rfl⟩ : ∃ f, fu = f + 1 := ⟨fu - 1, by omega⟩
    exact br_t (nI_le (by omega) (by omega)) (hp sc (fun j hj => h4 j (by omega)))
  | succ r ih =>
    intro n fu sc h1 h2 h3 h4
    obtain ⟨fu, rfl⟩ : ∃ f, fu = f + 1 := ⟨fu - 1, by omega⟩
    obtain ⟨p, p1, p2, p3⟩ := tr_pa_in (N := N) (hw.2.2.2.2 f hf) hN h2 (by omega)
    obtain ⟨q1, q2⟩ := hpa n (by omega) (by omega)
    have nxt : wX_layOutScopes_30 post (nI (pg_be F N bs f)) (nI M) (nI F) (nI N) f_code f_faultFunction f_bound f_foundParam f_foundDrop f_status f_calls f_depth f_fuelLimit f_begun f_beginLimit f_waitingFunction f_currentNode f_valueKnown f_currentValue fu (nI (n + 1)) (fun i => nI (pc i)) mk (fun i => nI (rt i)) (fun i => nI (bs i)) (fun i => nI (kd i)) na a_parents a_childIndexes a_subtreeEnds (upd sc n (nI (pr_sc F N pc bs kd na n))) a_levelTypes a_levelParams a_levelDrops a_expectedTypes a_totals a_slotTypes a_slotValues a_waitingArgs a_callNodes a_levelValues a_nodeValues := by
      refine ih (n + 1) fu _ (by omega) (by omega) (by omega) (fun j hj => ?_)
      rcases Nat.eq_or_lt_of_le (Nat.le_of_lt_succ hj) with e | e
      · subst e; exact pk_us
      · rw [pk_un (by omega)]; exact h4 j e
    refine br_f (nI_ge (by omega) (by omega)) (wx_binderAt h (by omega) q1 q2 ?_)
    rw [tb_P_some p1] at q1
    by_cases c0 : sq_cv N (pr_ar F pc kd na) kd p n = 0
    · rw [tb_bi_0 p1 c0]
      exact br_t rfl (wx_sc72 (v := 0) h hw (by omega) q1 p1 (h4 p p3) c0.symm nxt)
    · rw [tb_bi_s p1 c0, show tb_o (some p) = nI p from rfl]
      have ep : (nI p).toNatClampNeg = p := nI_clamp (by omega)
      have hk := h.2.2.2.2.2.1 p
      refine br_f (wx_no p (by omega)) ⟨vp_in_nI (by omega) (by omega), ?_⟩
      rw [ep]
      rcases (sq_cvk c0).2 with ⟨k1, k2⟩ | ⟨k1, k2⟩
      · refine pk_eq (kd p) 7 (fun k => by omega) (fun k => ?_)
        exact wx_sc72 (v := 1) h hw (by omega) q1 p1 (h4 p p3) k2.symm nxt
      · refine pk_eq (kd p) 7 (fun k => ?_) (fun k => by omega)
        exact wx_sc72 (v := 2) h hw (by omega) q1 p1 (h4 p p3) k2.symm nxt
theorem wx_layOutScopes {post : St2 → Prop} (h : pr_in F N pc rt bs kd mk na) (hw : pg_wf F N bs (pr_ar F pc kd na)) {f : Nat} (hf : f < F) (hpa : ∀ j, bs f ≤ j → j < pg_be F N bs f → a_parents j = tb_P N (pr_ar F pc kd na) j ∧ a_childIndexes j = nI (tr_ci N (pr_ar F pc kd na) j))
    (hs : ∀ j, j < bs f → a_scopeSizes j = nI (pr_sc F N pc bs kd na j))
    (hp : ∀ sc, (∀ j, j < pg_be F N bs f → sc j = nI (pr_sc F N pc bs kd na j)) → post ((nI M), (nI F), (nI N), f_code, f_faultFunction, f_bound, f_foundParam, f_foundDrop, f_status, f_calls, f_depth, f_fuelLimit, f_begun, f_beginLimit, f_waitingFunction, f_currentNode, f_valueKnown, f_currentValue, (fun i => nI (pc i)), mk, (fun i => nI (rt i)), (fun i => nI (bs i)), (fun i => nI (kd i)), na, a_parents, a_childIndexes, a_subtreeEnds, sc, a_levelTypes, a_levelParams, a_levelDrops, a_expectedTypes, a_totals, a_slotTypes, a_slotValues, a_waitingArgs, a_callNodes, a_levelValues, a_nodeValues)) : wpX_layOutScopes post ((nI M), (nI F), (nI N), f_code, f_faultFunction, f_bound, f_foundParam, f_foundDrop, f_status, f_calls, f_depth, f_fuelLimit, f_begun, f_beginLimit, f_waitingFunction, f_currentNode, f_valueKnown, f_currentValue, (fun i => nI (pc i)), mk, (fun i => nI (rt i)), (fun i => nI (bs i)), (fun i => nI (kd i)), na, a_parents, a_childIndexes, a_subtreeEnds, a_scopeSizes, a_levelTypes, a_levelParams, a_levelDrops, a_expectedTypes, a_totals, a_slotTypes, a_slotValues, a_waitingArgs, a_callNodes, a_levelValues, a_nodeValues) (nI f) := by
  have h6 := h.1
  have h64 := h.2.1
  have hN := pg_lastN hw hf
  have hlt := (hw.2.2.2.2 f hf).1
  have e : (nI f).toNatClampNeg = f := nI_clamp (by omega)
  have e2 : (nI (bs f)).toNatClampNeg = bs f := nI_clamp (by omega)
  have hv : vp_in (nI f) 6 := vp_in_nI (by omega) (by omega)
  have er : pr_sc F N pc bs kd na (bs f) = pc f := by
    unfold pr_sc; rw [sq_none (pg_root hw hf)]; unfold pr_z; rw [pr_root_fn hw hf]
  refine ⟨hv, nm_r (e' := nI (bs f)) (by rw [e]) (wx_bodyEnd h hf ⟨hv, vp_in_nI (by omega) (by omega), ?_⟩)⟩
  rw [e, e2]
  refine nm_e (nm_r (nI_1 (bs f)) ⟨65, ?_⟩)
  refine wx_sc30 h hw hf hpa hp (pg_be F N bs f - (bs f + 1)) (bs f + 1) 65 _ (by omega) (by omega) (by omega) (fun j hj => ?_)
  rcases Nat.eq_or_lt_of_le (Nat.le_of_lt_succ hj) with e3 | e3
  · subst e3; rw [pk_us, er]
  · rw [pk_un (by omega)]; exact hs j e3
theorem wx_nm53 {post : Int32 → Prop} (h : pr_in F N pc rt bs kd mk na) {n f : Nat} (hn : n < N) (hf : f < F) {J : Int32 → Prop} {x2 : Int32} (h4 : kd n = 5 ∧ (na n < 0 ∨ nI f < na n) → post 4) (hJ : ¬ (kd n = 5 ∧ (na n < 0 ∨ nI f < na n)) → J (nI (n + 1))) : wX_checkNames_53 post J (nI f) x2 (nI n) (na n) (nI M) (nI F) (nI N) f_code f_faultFunction f_bound f_foundParam f_foundDrop f_status f_calls f_depth f_fuelLimit f_begun f_beginLimit f_waitingFunction f_currentNode f_valueKnown f_currentValue (fun i => nI (pc i)) mk (fun i => nI (rt i)) (fun i => nI (bs i)) (fun i => nI (kd i)) na a_parents a_childIndexes a_subtreeEnds a_scopeSizes a_levelTypes a_levelParams a_levelDrops a_expectedTypes a_totals a_slotTypes a_slotValues a_waitingArgs a_callNodes a_levelValues a_nodeValues := by
  have h64 := h.2.1
  have hk := h.2.2.2.2.2.1 n
  have e : (nI n).toNatClampNeg = n := nI_clamp (by omega)
  unfold wX_checkNames_53
  rw [e]
  refine ⟨vp_in_nI (by omega) (by omega), pk_eq (kd n) 5 (fun k => ?_) (fun k => nm_r (nI_1 n) (hJ (fun y => k y.1)))⟩
  refine br_c (fun c => h4 ⟨k, Or.inl c⟩) (fun c => br_c (fun c2 => nm_r (nI_1 n) (hJ (fun y => ?_))) (fun c2 => h4 ⟨k, Or.inr (Int32.not_le.mp c2)⟩))
  rcases y.2 with y | y
  · exact c y
  · exact Int32.not_le.mpr y c2
theorem wx_nm13 {post : Int32 → Prop} (h : pr_in F N pc rt bs kd mk na) {f e : Nat} (hf : f < F) (he : e ≤ N) (hs : ∀ j, j < e → a_scopeSizes j = nI (pr_sc F N pc bs kd na j)) : ∀ (r n fu : Nat), n + r = e → r < fu → post (cd_nm kd na (pr_sc F N pc bs kd na) f r n) → wX_checkNames_13 post (nI f) (nI e) (nI M) (nI F) (nI N) f_code f_faultFunction f_bound f_foundParam f_foundDrop f_status f_calls f_depth f_fuelLimit f_begun f_beginLimit f_waitingFunction f_currentNode f_valueKnown f_currentValue (fun i => nI (pc i)) mk (fun i => nI (rt i)) (fun i => nI (bs i)) (fun i => nI (kd i)) na a_parents a_childIndexes a_subtreeEnds a_scopeSizes a_levelTypes a_levelParams a_levelDrops a_expectedTypes a_totals a_slotTypes a_slotValues a_waitingArgs a_callNodes a_levelValues a_nodeValues fu (nI n) := by
  have h64 := h.2.1
  intro r
  induction r with
  | zero =>
    intro n fu h1 h2 hp
    obtain ⟨fu, rfl⟩ : ∃ f, fu = f + 1 := ⟨fu - 1, by omega⟩
    exact br_t (nI_le (by omega) (by omega)) hp
  | succ r ih =>
    intro n fu h1 h2 hp
    obtain ⟨fu, rfl⟩ : ∃ f, fu = f + 1 := ⟨fu - 1, by omega⟩
    have hk := h.2.2.2.2.2.1 n
    have e1 : (nI n).toNatClampNeg = n := nI_clamp (by omega)
    have hv : vp_in (nI n) 64 := vp_in_nI (by omega) (by omega)
    rw [cd_nm] at hp
    have go : ¬ (kd n = 0 ∧ (na n < 0 ∨ nI (pr_sc F N pc bs kd na n) ≤ na n)) → wX_checkNames_53 post (wX_checkNames_13 post (nI f) (nI e) (nI M) (nI F) (nI N) f_code f_faultFunction f_bound f_foundParam f_foundDrop f_status f_calls f_depth f_fuelLimit f_begun f_beginLimit f_waitingFunction f_currentNode f_valueKnown f_currentValue (fun i => nI (pc i)) mk (fun i => nI (rt i)) (fun i => nI (bs i)) (fun i => nI (kd i)) na a_parents a_childIndexes a_subtreeEnds a_scopeSizes a_levelTypes a_levelParams a_levelDrops a_expectedTypes a_totals a_slotTypes a_slotValues a_waitingArgs a_callNodes a_levelValues a_nodeValues fu) (nI f) (nI e) (nI n) (na n) (nI M) (nI F) (nI N) f_code f_faultFunction f_bound f_foundParam f_foundDrop f_status f_calls f_depth f_fuelLimit f_begun f_beginLimit f_waitingFunction f_currentNode f_valueKnown f_currentValue (fun i => nI (pc i)) mk (fun i => nI (rt i)) (fun i => nI (bs i)) (fun i => nI (kd i)) na a_parents a_childIndexes a_subtreeEnds a_scopeSizes a_levelTypes a_levelParams a_levelDrops a_expectedTypes a_totals a_slotTypes a_slotValues a_waitingArgs a_callNodes a_levelValues a_nodeValues := by
      intro y
      rw [if_neg y] at hp
      refine wx_nm53 h (by omega) hf (fun y2 => by rw [if_pos y2] at hp; exact hp) (fun y2 => ?_)
      rw [if_neg y2] at hp
      exact ih (n + 1) fu (by omega) (by omega) hp
    refine br_f (nI_ge (by omega) (by omega)) ⟨hv, ?_⟩
    rw [e1]
    refine nm_e ⟨hv, pk_eq (kd n) 0 (fun k => ?_) (fun k => go (fun y => k y.1))⟩
    refine br_c (fun c => by rw [if_pos ⟨k, Or.inl c⟩] at hp; exact hp) (fun c => ⟨hv, ?_⟩)
    rw [hs n (by omega)]
    refine br_c (fun c2 => go (fun y => ?_)) (fun c2 => by rw [if_pos ⟨k, Or.inr (Int32.not_lt.mp c2)⟩] at hp; exact hp)
    rcases y.2 with y | y
    · exact c y
    · exact Int32.not_lt.mpr y c2
theorem wx_checkNames {post : Int32 → Prop} (h : pr_in F N pc rt bs kd mk na) {f : Nat} (hf : f < F) (hs : ∀ j, j < pg_be F N bs f → a_scopeSizes j = nI (pr_sc F N pc bs kd na j)) (hp : post (cd_nm kd na (pr_sc F N pc bs kd na) f (pg_be F N bs f - bs f) (bs f))) : wpX_checkNames post ((nI M), (nI F), (nI N), f_code, f_faultFunction, f_bound, f_foundParam, f_foundDrop, f_status, f_calls, f_depth, f_fuelLimit, f_begun, f_beginLimit, f_waitingFunction, f_currentNode, f_valueKnown, f_currentValue, (fun i => nI (pc i)), mk, (fun i => nI (rt i)), (fun i => nI (bs i)), (fun i => nI (kd i)), na, a_parents, a_childIndexes, a_subtreeEnds, a_scopeSizes, a_levelTypes, a_levelParams, a_levelDrops, a_expectedTypes, a_totals, a_slotTypes, a_slotValues, a_waitingArgs, a_callNodes, a_levelValues, a_nodeValues) (nI f) := by
  have h6 := h.1
  have h64 := h.2.1
  have hb := pr_be_le h hf
  have e : (nI f).toNatClampNeg = f := nI_clamp (by omega)
  unfold wpX_checkNames
  refine wx_bodyEnd h hf ⟨vp_in_nI (by omega) (by omega), nm_r (e' := nI (bs f)) (by rw [e]) ⟨65, ?_⟩⟩
  exact wx_nm13 h hf hb.2 hs _ (bs f) 65 (by omega) (by omega) hp
theorem wx_paramType {post : Int32 → Prop} (h : pr_in F N pc rt bs kd mk na) {g i : Nat} (hg : g < F) (hp : post (nI (pr_pty mk g i))) : wpX_paramType post ((nI M), (nI F), (nI N), f_code, f_faultFunction, f_bound, f_foundParam, f_foundDrop, f_status, f_calls, f_depth, f_fuelLimit, f_begun, f_beginLimit, f_waitingFunction, f_currentNode, f_valueKnown, f_currentValue, (fun i => nI (pc i)), mk, (fun i => nI (rt i)), (fun i => nI (bs i)), (fun i => nI (kd i)), na, a_parents, a_childIndexes, a_subtreeEnds, a_scopeSizes, a_levelTypes, a_levelParams, a_levelDrops, a_expectedTypes, a_totals, a_slotTypes, a_slotValues, a_waitingArgs, a_callNodes, a_levelValues, a_nodeValues) (nI g) (nI i) := by
  have h6 := h.1
  have e : (nI g).toNatClampNeg = g := nI_clamp (by omega)
  unfold pr_pty at hp
  simp only [wpX_paramType, e]
  refine ⟨vp_in_nI (by omega) (by omega), br_c (fun c => ?_) (fun c => ?_)⟩
  · rw [if_pos c] at hp; exact hp
  · rw [if_neg c] at hp; exact hp
end
end
section
section
variable {f_sizeCap f_functionCount f_nodeCount f_code f_faultFunction f_foundParam f_foundDrop f_status f_depth f_begun f_beginLimit f_waitingFunction f_currentNode f_valueKnown : Int32} {f_bound f_calls f_fuelLimit f_currentValue : Int64} {a_paramCounts a_listMasks a_resultTypes a_bodyStarts a_nodeKinds a_nodeArgs a_parents a_childIndexes a_subtreeEnds a_scopeSizes a_levelTypes a_levelParams a_levelDrops a_expectedTypes a_slotTypes a_callNodes : Nat → Int32} {a_totals a_slotValues a_waitingArgs a_levelValues a_nodeValues : Nat → Int64}
variable {M F N k : Nat} {pc rt bs kd : Nat → Nat} {mk na : Nat → Int32}
def pr_ty (F N : Nat) (pc bs kd : Nat → Nat) (mk na : Nat → Int32) (n x : Nat) : Nat := ty_ty N (pr_ar F pc kd na) kd (pr_z F bs pc) (pr_pt F bs mk) n x
def pr_tp (F N : Nat) (pc bs kd : Nat → Nat) (mk na lt : Nat → Int32) (n : Nat) : Prop :=
  (tr_pa N (pr_ar F pc kd na) n = none → ∀ x, x < pr_z F bs pc n → lt x = nI (pr_pt F bs mk n x)) ∧ ∀ p, tr_pa N (pr_ar F pc kd na) n = some p → ∀ x, x < pr_sc F N pc bs kd na p → lt x = nI (pr_ty F N pc bs kd mk na p x)
theorem wx_bindTypes {post : St2 → Prop} (h : pr_in F N pc rt bs kd mk na) (hw : pg_wf F N bs (pr_ar F pc kd na)) (HT : tb_ok N (pr_ar F pc kd na) kd (pr_z F bs pc) a_parents a_childIndexes a_subtreeEnds a_scopeSizes N) {n : Nat} (hn : n < N) (hl : pr_tp F N pc bs kd mk na a_levelTypes n)
    (hp : ∀ lt, (∀ x, x < pr_sc F N pc bs kd na n → lt x = nI (pr_ty F N pc bs kd mk na n x)) → post ((nI M), (nI F), (nI N), f_code, f_faultFunction, f_bound, f_foundParam, f_foundDrop, f_status, f_calls, f_depth, f_fuelLimit, f_begun, f_beginLimit, f_waitingFunction, f_currentNode, f_valueKnown, f_currentValue, (fun i => nI (pc i)), mk, (fun i => nI (rt i)), (fun i => nI (bs i)), (fun i => nI (kd i)), na, a_parents, a_childIndexes, a_subtreeEnds, a_scopeSizes, lt, a_levelParams, a_levelDrops, a_expectedTypes, a_totals, a_slotTypes, a_slotValues, a_waitingArgs, a_callNodes, a_levelValues, a_nodeValues)) : wpX_bindTypes post ((nI M), (nI F), (nI N), f_code, f_faultFunction, f_bound, f_foundParam, f_foundDrop, f_status, f_calls, f_depth, f_fuelLimit, f_begun, f_beginLimit, f_waitingFunction, f_currentNode, f_valueKnown, f_currentValue, (fun i => nI (pc i)), mk, (fun i => nI (rt i)), (fun i => nI (bs i)), (fun i => nI (kd i)), na, a_parents, a_childIndexes, a_subtreeEnds, a_scopeSizes, a_levelTypes, a_levelParams, a_levelDrops, a_expectedTypes, a_totals, a_slotTypes, a_slotValues, a_waitingArgs, a_callNodes, a_levelValues, a_nodeValues) (nI n) := by
  have h64 := h.2.1
  unfold wpX_bindTypes
  refine wx_binderAt h hn (HT n hn).1 (HT n hn).2.1 ?_
  cases hpn : tr_pa N (pr_ar F pc kd na) n with
  | none =>
    rw [tb_bi_none hpn]
    refine br_t rfl (hp _ (fun x hx => ?_))
    unfold pr_sc at hx
    rw [sq_none hpn] at hx
    unfold pr_ty
    rw [ty_none hpn]
    exact hl.1 hpn x hx
  | some p =>
    have hpl := (tr_pa_some hpn).1
    have es : pr_sc F N pc bs kd na n = pr_sc F N pc bs kd na p + sq_cv N (pr_ar F pc kd na) kd p n := by unfold pr_sc; exact sq_some hpn
    have s45 := pr_sc_le h hw hn
    have hlow : ∀ x, x < pr_sc F N pc bs kd na p → a_levelTypes x = nI (pr_ty F N pc bs kd mk na n x) := fun x hx => by
      unfold pr_ty; rw [ty_pa hpn hx]; exact hl.2 p hpn x hx
    by_cases c0 : sq_cv N (pr_ar F pc kd na) kd p n = 0
    · rw [tb_bi_0 hpn c0]
      exact br_t rfl (hp _ (fun x hx => hlow x (by omega)))
    · rw [tb_bi_s hpn c0, show tb_o (some p) = nI p from rfl]
      have ep : (nI p).toNatClampNeg = p := nI_clamp (by omega)
      have el : (nI (pr_sc F N pc bs kd na p)).toNatClampNeg = pr_sc F N pc bs kd na p := nI_clamp (by omega)
      have el1 : (nI (pr_sc F N pc bs kd na p) + 1).toNatClampNeg = pr_sc F N pc bs kd na p + 1 := by rw [nI_1]; exact nI_clamp (by omega)
      have hvp : vp_in (nI p) 64 := vp_in_nI (by omega) (by omega)
      have hk := h.2.2.2.2.2.1 p
      have hsp : a_scopeSizes p = nI (pr_sc F N pc bs kd na p) := (HT p (by omega)).2.2.2
      have ety : ∀ x, pr_ty F N pc bs kd mk na n x = (if x = pr_sc F N pc bs kd na p then (0 : Nat) else if x = pr_sc F N pc bs kd na p + 1 then 1 else pr_ty F N pc bs kd mk na p x) := fun x => by
        unfold pr_ty; rw [ty_some hpn, if_neg c0]; rfl
      refine br_f (wx_no p (by omega)) ⟨hvp, ?_⟩
      rw [ep, hsp]
      refine nm_e ⟨vp_in_nI (by omega) (by omega), ?_⟩
      rw [el, el1]
      refine nm_e ⟨hvp, ?_⟩
      rcases (sq_cvk c0).2 with ⟨k1, k2⟩ | ⟨k1, k2⟩
      · refine pk_eq (kd p) 7 (fun k => by omega) (fun k => hp _ (fun x hx => ?_))
        by_cases ex : x = pr_sc F N pc bs kd na p
        · rw [ety, if_pos ex, ex]; exact pk_us
        · rw [pk_un ex]; exact hlow x (by omega)
      · refine pk_eq (kd p) 7 (fun k => ⟨by rw [nI_1]; exact vp_in_nI (by omega) (by omega), nm_e (hp _ (fun x hx => ?_))⟩) (fun k => by omega)
        by_cases ex1 : x = pr_sc F N pc bs kd na p + 1
        · rw [ety, if_neg (by omega), if_pos ex1, ex1]; exact pk_us
        · rw [pk_un ex1]
          by_cases ex : x = pr_sc F N pc bs kd na p
          · rw [ety, if_pos ex, ex]; exact pk_us
          · rw [pk_un ex]; exact hlow x (by omega)
theorem wx_expectedType {post : Int32 → Prop} (h : pr_in F N pc rt bs kd mk na) (hw : pg_wf F N bs (pr_ar F pc kd na)) (hnm : pr_nm F N pc bs kd na) (HT : tb_ok N (pr_ar F pc kd na) kd (pr_z F bs pc) a_parents a_childIndexes a_subtreeEnds a_scopeSizes N) {n f : Nat} (hn : n < N) (hf : pg_fn F bs n = f)
    (he : ∀ p, tr_pa N (pr_ar F pc kd na) n = some p → a_expectedTypes p = nI (pr_et F N pc rt bs kd mk na p)) (hp : post (nI (pr_et F N pc rt bs kd mk na n))) : wpX_expectedType post ((nI M), (nI F), (nI N), f_code, f_faultFunction, f_bound, f_foundParam, f_foundDrop, f_status, f_calls, f_depth, f_fuelLimit, f_begun, f_beginLimit, f_waitingFunction, f_currentNode, f_valueKnown, f_currentValue, (fun i => nI (pc i)), mk, (fun i => nI (rt i)), (fun i => nI (bs i)), (fun i => nI (kd i)), na, a_parents, a_childIndexes, a_subtreeEnds, a_scopeSizes, a_levelTypes, a_levelParams, a_levelDrops, a_expectedTypes, a_totals, a_slotTypes, a_slotValues, a_waitingArgs, a_callNodes, a_levelValues, a_nodeValues) (nI f) (nI n) := by
  have h6 := h.1
  have h64 := h.2.1
  have hb := pg_body hw hn
  rw [hf] at hb
  have e : (nI n).toNatClampNeg = n := nI_clamp (by omega)
  have ef : (nI f).toNatClampNeg = f := nI_clamp (by omega)
  have hv : vp_in (nI n) 64 := vp_in_nI (by omega) (by omega)
  simp only [wpX_expectedType, e, ef, (HT n hn).1, (HT n hn).2.1]
  unfold pr_et at hp
  cases hpn : tr_pa N (pr_ar F pc kd na) n with
  | none =>
    rw [et_none hpn] at hp
    unfold pr_rt at hp
    rw [hf] at hp
    exact ⟨hv, nm_r (tb_P_none hpn) (br_t rfl ⟨vp_in_nI (by omega) (by omega), hp⟩)⟩
  | some p =>
    have hpl := (tr_pa_some hpn).1
    have hk := h.2.2.2.2.2.1 p
    have h3 := wy_cx3 (N := N) (pr_ar F pc kd na) p n
    have ep : (nI p).toNatClampNeg = p := nI_clamp (by omega)
    have hvp : vp_in (nI p) 64 := vp_in_nI (by omega) (by omega)
    rw [et_some hpn] at hp
    rw [tb_ci hpn]
    refine ⟨hv, nm_r (tb_P_some hpn) (br_f (wx_no p (by omega)) ⟨hv, nm_e ⟨hvp, ?_⟩⟩)⟩
    rw [ep, he p hpn]
    have hcs : (kd p = 0 ∨ kd p = 1 ∨ kd p = 3) → False := fun y => by
      have g := pw_chk hw hn hpn
      unfold pr_ar at g
      rw [if_neg (by omega), if_neg (by omega), if_neg (by omega), if_neg (by omega)] at g
      omega
    refine nm_e (pk_lt (kd p) 4 (fun k => ?_) (fun k => pk_lt 7 (kd p) (fun k => by omega) (fun k => ?_)))
    · by_cases k2 : kd p = 2
      · rw [if_pos k2] at hp; exact hp
      · exact absurd (show kd p = 0 ∨ kd p = 1 ∨ kd p = 3 by omega) hcs
    rw [if_neg (by omega)] at hp
    refine pk_eq (kd p) 4 (fun k => ?_) (fun k4 => ?_)
    · rw [if_pos k] at hp
      exact pk_eq (tr_cx N (pr_ar F pc kd na) p n) 0 (fun k => by rw [if_pos k] at hp; exact hp) (fun k => by rw [if_neg k] at hp; exact hp)
    rw [if_neg k4] at hp
    refine pk_eq (kd p) 5 (fun k => ⟨hvp, ?_⟩) (fun k5 => ?_)
    · rw [if_pos k] at hp
      obtain ⟨a1, a2, a3⟩ := pr_ar5 hw h hnm (n := p) (by omega) k
      rw [a3]
      exact wx_paramType h a1 hp
    rw [if_neg k5] at hp
    refine pk_eq (kd p) 6 (fun k => ?_) (fun k6 => pk_eq (kd p) 7 (fun k => ?_) (fun k7 => trivial))
    · refine pk_eq (tr_cx N (pr_ar F pc kd na) p n) 0 (fun k0 => by rw [if_pos k0, if_neg (by omega)] at hp; exact hp) (fun k0 => ⟨hvp, ?_⟩)
      rw [if_neg k0] at hp; exact hp
    · refine pk_eq (tr_cx N (pr_ar F pc kd na) p n) 0 (fun k0 => by rw [if_pos k0, if_pos k] at hp; exact hp) (fun k0 => ⟨hvp, ?_⟩)
      rw [if_neg k0] at hp; exact hp
theorem wx_ownType {post : Int32 → Prop} (h : pr_in F N pc rt bs kd mk na) (hw : pg_wf F N bs (pr_ar F pc kd na)) (hnm : pr_nm F N pc bs kd na) {n : Nat} (hn : n < N)
    (hl : ∀ x, x < pr_sc F N pc bs kd na n → a_levelTypes x = nI (pr_ty F N pc bs kd mk na n x)) (he : a_expectedTypes n = nI (pr_et F N pc rt bs kd mk na n)) (hp : post (nI (pr_ow F N pc rt bs kd mk na n))) : wpX_ownType post ((nI M), (nI F), (nI N), f_code, f_faultFunction, f_bound, f_foundParam, f_foundDrop, f_status, f_calls, f_depth, f_fuelLimit, f_begun, f_beginLimit, f_waitingFunction, f_currentNode, f_valueKnown, f_currentValue, (fun i => nI (pc i)), mk, (fun i => nI (rt i)), (fun i => nI (bs i)), (fun i => nI (kd i)), na, a_parents, a_childIndexes, a_subtreeEnds, a_scopeSizes, a_levelTypes, a_levelParams, a_levelDrops, a_expectedTypes, a_totals, a_slotTypes, a_slotValues, a_waitingArgs, a_callNodes, a_levelValues, a_nodeValues) (nI n) := by
  have h6 := h.1
  have h64 := h.2.1
  have hk := h.2.2.2.2.2.1 n
  have e : (nI n).toNatClampNeg = n := nI_clamp (by omega)
  have hv : vp_in (nI n) 64 := vp_in_nI (by omega) (by omega)
  unfold pr_ow et_own at hp
  simp only [wpX_ownType, e, he]
  refine ⟨hv, nm_e (br_f (nI_pos (by omega)) (pk_lt 5 (kd n) (fun k => ⟨hv, ?_⟩) (fun k => ?_)))⟩
  · rw [if_neg (by omega), if_neg (by omega), if_neg (by omega), if_neg (by omega)] at hp; exact hp
  refine pk_eq (kd n) 0 (fun k => ⟨hv, ?_⟩) (fun k0 => ?_)
  · rw [if_pos k] at hp
    obtain ⟨x1, x2⟩ := (hnm n hn).1 k
    have s45 := pr_sc_le h hw hn
    rw [x2, nI_clamp (by omega), hl _ x1]
    exact ⟨vp_in_nI (by omega) (by omega), hp⟩
  rw [if_neg k0] at hp
  refine pk_eq (kd n) 1 (fun k => by rw [if_pos (Or.inl k)] at hp; exact hp) (fun k1 => ?_)
  refine pk_eq (kd n) 2 (fun k => by rw [if_pos (Or.inr k)] at hp; exact hp) (fun k2 => ?_)
  rw [if_neg (by omega)] at hp
  refine pk_eq (kd n) 3 (fun k => by rw [if_pos (Or.inl k)] at hp; exact hp) (fun k3 => ?_)
  refine pk_eq (kd n) 4 (fun k => by rw [if_pos (Or.inr k)] at hp; exact hp) (fun k4 => ?_)
  rw [if_neg (by omega)] at hp
  refine pk_eq (kd n) 5 (fun k => ⟨hv, ?_⟩) (fun k5 => trivial)
  rw [if_pos k] at hp
  obtain ⟨a1, a2, a3⟩ := pr_ar5 hw h hnm hn k
  rw [a3, nI_clamp (by omega)]
  exact ⟨vp_in_nI (by omega) (by omega), hp⟩
theorem wx_ty43 {post : Int32 → St2 → Prop} (h : pr_in F N pc rt bs kd mk na) (hw : pg_wf F N bs (pr_ar F pc kd na)) (hnm : pr_nm F N pc bs kd na) (HT : tb_ok N (pr_ar F pc kd na) kd (pr_z F bs pc) a_parents a_childIndexes a_subtreeEnds a_scopeSizes N) {f : Nat} (hf : f < F) :
    ∀ (r n fu : Nat) (lt ets : Nat → Int32), n + r = pg_be F N bs f → bs f ≤ n → r < fu → (0 < r → pr_tp F N pc bs kd mk na lt n) → (∀ j, bs f ≤ j → j < n → ets j = nI (pr_et F N pc rt bs kd mk na j)) →
      (∀ lt ets, post (cd_ty (pr_ow F N pc rt bs kd mk na) (pr_et F N pc rt bs kd mk na) r n) ((nI M), (nI F), (nI N), f_code, f_faultFunction, f_bound, f_foundParam, f_foundDrop, f_status, f_calls, f_depth, f_fuelLimit, f_begun, f_beginLimit, f_waitingFunction, f_currentNode, f_valueKnown, f_currentValue, (fun i => nI (pc i)), mk, (fun i => nI (rt i)), (fun i => nI (bs i)), (fun i => nI (kd i)), na, a_parents, a_childIndexes, a_subtreeEnds, a_scopeSizes, lt, a_levelParams, a_levelDrops, ets, a_totals, a_slotTypes, a_slotValues, a_waitingArgs, a_callNodes, a_levelValues, a_nodeValues)) → wX_checkTypes_43 post (nI f) (nI (pg_be F N bs f)) fu (nI n) (nI M) (nI F) (nI N) f_code f_faultFunction f_bound f_foundParam f_foundDrop f_status f_calls f_depth f_fuelLimit f_begun f_beginLimit f_waitingFunction f_currentNode f_valueKnown f_currentValue (fun i => nI (pc i)) mk (fun i => nI (rt i)) (fun i => nI (bs i)) (fun i => nI (kd i)) na a_parents a_childIndexes a_subtreeEnds a_scopeSizes lt a_levelParams a_levelDrops ets a_totals a_slotTypes a_slotValues a_waitingArgs a_callNodes a_levelValues a_nodeValues := by
  have h64 := h.2.1
  have hN := pg_lastN hw hf
  intro r
  induction r with
  | zero =>
    intro n fu lt ets h1 h2 h3 h4 h5 hp
    obtain ⟨fu, rfl⟩ : ∃ f, fu = f + 1 := ⟨fu - 1, by omega⟩
    exact br_t (nI_le (by omega) (by omega)) (hp lt ets)
  | succ r ih =>
    intro n fu lt ets h1 h2 h3 h4 h5 hp
    obtain ⟨fu, rfl⟩ : ∃ f, fu = f + 1 := ⟨fu - 1, by omega⟩
    have hn : n < N := by omega
    have hfn : pg_fn F bs n = f := pg_fn_is hw hf h2 (by omega)
    have e : (nI n).toNatClampNeg = n := nI_clamp (by omega)
    have hv : vp_in (nI n) 64 := vp_in_nI (by omega) (by omega)
    refine br_f (nI_ge (by omega) (by omega)) (wx_bindTypes h hw HT hn (h4 (by omega)) (fun lt' hlt' => ?_))
    refine wx_expectedType h hw hnm HT hn hfn (fun p hpn => ?_) ⟨hv, ?_⟩
    · obtain ⟨q, q1, q2, q3⟩ := tr_pa_in (N := N) (hw.2.2.2.2 f hf) hN (j := n) (by
        rcases Nat.eq_or_lt_of_le h2 with z1 | z1
        · rw [← z1, pg_root hw hf] at hpn; cases hpn
        · exact z1) (by omega)
      rw [hpn] at q1
      cases q1
      exact h5 p q2 q3
    rw [e]
    refine nm_e (wx_ownType h hw hnm hn hlt' pk_us ⟨hv, ?_⟩)
    have he' : ∀ j, bs f ≤ j → j < n + 1 → upd ets n (nI (pr_et F N pc rt bs kd mk na n)) j = nI (pr_et F N pc rt bs kd mk na j) := fun j j1 j2 => by
      rcases Nat.eq_or_lt_of_le (Nat.le_of_lt_succ j2) with z1 | z1
      · subst z1; exact pk_us
      · rw [pk_un (by omega)]; exact h5 j j1 z1
    rw [pk_us]
    have o1 := pr_ow2 (n := n) h
    have o2 := pr_et2 (n := n) h
    refine pk_eq (pr_ow F N pc rt bs kd mk na n) (pr_et F N pc rt bs kd mk na n) (fun c => nm_r (nI_1 n) ?_) (fun c => ?_)
    · refine ih (n + 1) fu lt' _ (by omega) (by omega) (by omega) (fun hr => ⟨fun hpn => ?_, fun p hpn x hx => ?_⟩) he' (fun l2 e2 => ?_)
      · obtain ⟨q, q1, _⟩ := tr_pa_in (N := N) (hw.2.2.2.2 f hf) hN (j := n + 1) (by omega) (by omega)
        rw [q1] at hpn; cases hpn
      · have ha := tb_anx hpn
        have hs : pr_sc F N pc bs kd na p ≤ pr_sc F N pc bs kd na n := sq_an n p hn ha
        rw [hlt' x (by omega)]
        exact congrArg nI (ty_an n p x hn ha hx)
      · have := hp l2 e2
        rw [cd_ty, if_pos c] at this
        exact this
    · have := hp lt' (upd ets n (nI (pr_et F N pc rt bs kd mk na n)))
      rw [cd_ty, if_neg c] at this
      exact this
theorem wx_ty2 {post : Int32 → St2 → Prop} (h : pr_in F N pc rt bs kd mk na) (hw : pg_wf F N bs (pr_ar F pc kd na)) (hnm : pr_nm F N pc bs kd na) (HT : tb_ok N (pr_ar F pc kd na) kd (pr_z F bs pc) a_parents a_childIndexes a_subtreeEnds a_scopeSizes N) {f : Nat} (hf : f < F)
    (hp : ∀ lt ets, post (cd_ty (pr_ow F N pc rt bs kd mk na) (pr_et F N pc rt bs kd mk na) (pg_be F N bs f - bs f) (bs f)) ((nI M), (nI F), (nI N), f_code, f_faultFunction, f_bound, f_foundParam, f_foundDrop, f_status, f_calls, f_depth, f_fuelLimit, f_begun, f_beginLimit, f_waitingFunction, f_currentNode, f_valueKnown, f_currentValue, (fun i => nI (pc i)), mk, (fun i => nI (rt i)), (fun i => nI (bs i)), (fun i => nI (kd i)), na, a_parents, a_childIndexes, a_subtreeEnds, a_scopeSizes, lt, a_levelParams, a_levelDrops, ets, a_totals, a_slotTypes, a_slotValues, a_waitingArgs, a_callNodes, a_levelValues, a_nodeValues)) :
    ∀ (r i fu : Nat) (lt : Nat → Int32), i + r = pc f → r < fu → (∀ x, x < i → lt x = nI (pr_pty mk f x)) → wX_checkTypes_2 post (nI f) (nI M) (nI F) (nI N) f_code f_faultFunction f_bound f_foundParam f_foundDrop f_status f_calls f_depth f_fuelLimit f_begun f_beginLimit f_waitingFunction f_currentNode f_valueKnown f_currentValue fu (nI i) (fun i => nI (pc i)) mk (fun i => nI (rt i)) (fun i => nI (bs i)) (fun i => nI (kd i)) na a_parents a_childIndexes a_subtreeEnds a_scopeSizes lt a_levelParams a_levelDrops a_expectedTypes a_totals a_slotTypes a_slotValues a_waitingArgs a_callNodes a_levelValues a_nodeValues := by
  have h6 := h.1
  have h64 := h.2.1
  have hp3 := h.2.2.1 f
  have hN := pg_lastN hw hf
  have hlt := (hw.2.2.2.2 f hf).1
  have e : (nI f).toNatClampNeg = f := nI_clamp (by omega)
  have hv : vp_in (nI f) 6 := vp_in_nI (by omega) (by omega)
  intro r
  induction r with
  | zero =>
    intro i fu lt h1 h2 h3
    obtain ⟨fu, rfl⟩ : ∃ f, fu = f + 1 := ⟨fu - 1, by omega⟩
    refine ⟨hv, ?_⟩
    show ((fun i => nI (pc i)) (nI f).toNatClampNeg ≤ nI i → _) ∧ _
    rw [e]
    refine br_t (nI_le (by omega) (by omega)) (wx_bodyEnd h hf ⟨hv, nm_e ⟨65, ?_⟩⟩)
    refine wx_ty43 h hw hnm HT hf (pg_be F N bs f - bs f) (bs f) 65 lt _ (by omega) (Nat.le_refl _) (by omega) (fun _ => ⟨fun _ x hx => ?_, fun p hpn => ?_⟩) (fun j j1 j2 => by omega) hp
    · unfold pr_z at hx
      rw [pr_root_fn hw hf] at hx
      unfold pr_pt
      rw [pr_root_fn hw hf]
      exact h3 x (by omega)
    · rw [pg_root hw hf] at hpn; cases hpn
  | succ r ih =>
    intro i fu lt h1 h2 h3
    obtain ⟨fu, rfl⟩ : ∃ f, fu = f + 1 := ⟨fu - 1, by omega⟩
    have ei : (nI i).toNatClampNeg = i := nI_clamp (by omega)
    refine ⟨hv, ?_⟩
    show ((fun i => nI (pc i)) (nI f).toNatClampNeg ≤ nI i → _) ∧ _
    rw [e]
    refine br_f (nI_ge (by omega) (by omega)) (wx_paramType h hf ⟨vp_in_nI (by omega) (by omega), ?_⟩)
    rw [ei]
    refine nm_e (nm_r (nI_1 i) (ih (i + 1) fu _ (by omega) (by omega) (fun x hx => ?_)))
    rcases Nat.eq_or_lt_of_le (Nat.le_of_lt_succ hx) with z1 | z1
    · subst z1; exact pk_us
    · rw [pk_un (by omega)]; exact h3 x z1
theorem wx_checkTypes {post : Int32 → St2 → Prop} (h : pr_in F N pc rt bs kd mk na) (hw : pg_wf F N bs (pr_ar F pc kd na)) (hnm : pr_nm F N pc bs kd na) (HT : tb_ok N (pr_ar F pc kd na) kd (pr_z F bs pc) a_parents a_childIndexes a_subtreeEnds a_scopeSizes N) {f : Nat} (hf : f < F)
    (hp : ∀ lt ets, post (cd_ty (pr_ow F N pc rt bs kd mk na) (pr_et F N pc rt bs kd mk na) (pg_be F N bs f - bs f) (bs f)) ((nI M), (nI F), (nI N), f_code, f_faultFunction, f_bound, f_foundParam, f_foundDrop, f_status, f_calls, f_depth, f_fuelLimit, f_begun, f_beginLimit, f_waitingFunction, f_currentNode, f_valueKnown, f_currentValue, (fun i => nI (pc i)), mk, (fun i => nI (rt i)), (fun i => nI (bs i)), (fun i => nI (kd i)), na, a_parents, a_childIndexes, a_subtreeEnds, a_scopeSizes, lt, a_levelParams, a_levelDrops, ets, a_totals, a_slotTypes, a_slotValues, a_waitingArgs, a_callNodes, a_levelValues, a_nodeValues)) : wpX_checkTypes post ((nI M), (nI F), (nI N), f_code, f_faultFunction, f_bound, f_foundParam, f_foundDrop, f_status, f_calls, f_depth, f_fuelLimit, f_begun, f_beginLimit, f_waitingFunction, f_currentNode, f_valueKnown, f_currentValue, (fun i => nI (pc i)), mk, (fun i => nI (rt i)), (fun i => nI (bs i)), (fun i => nI (kd i)), na, a_parents, a_childIndexes, a_subtreeEnds, a_scopeSizes, a_levelTypes, a_levelParams, a_levelDrops, a_expectedTypes, a_totals, a_slotTypes, a_slotValues, a_waitingArgs, a_callNodes, a_levelValues, a_nodeValues) (nI f) := by
  have hp3 := h.2.2.1 f
  exact ⟨4, wx_ty2 h hw hnm HT hf hp (pc f) 0 4 a_levelTypes (by omega) (by omega) (fun x hx => by omega)⟩
end
end
section
section
variable {f_sizeCap f_functionCount f_nodeCount f_code f_faultFunction f_foundParam f_foundDrop f_status f_depth f_begun f_beginLimit f_waitingFunction f_currentNode f_valueKnown : Int32} {f_bound f_calls f_fuelLimit f_currentValue : Int64} {a_paramCounts a_listMasks a_resultTypes a_bodyStarts a_nodeKinds a_nodeArgs a_parents a_childIndexes a_subtreeEnds a_scopeSizes a_levelTypes a_levelParams a_levelDrops a_expectedTypes a_slotTypes a_callNodes : Nat → Int32} {a_totals a_slotValues a_waitingArgs a_levelValues a_nodeValues : Nat → Int64}
variable {M F N k : Nat} {pc rt bs kd : Nat → Nat} {mk na : Nat → Int32}
/-- the tables of facts are right for S levels -/
def fx_tb (g : Nat → Option (Nat × Int)) (S : Nat) (lp ld : Nat → Int32) : Prop := ∀ x, x < S → fx_rs (g x) (lp x) (ld x)
theorem fx_neg (i : Nat) : Int32.ofInt (-(i : Int)) = -nI i := by
  rw [Int32.ofInt_neg, Int32.ofInt_eq_ofNat]; rfl
theorem wx_ff68 {post : St2 → Prop} (h : pr_in F N pc rt bs kd mk na) (hw : pg_wf F N bs (pr_ar F pc kd na)) (hnm : pr_nm F N pc bs kd na) {g : Nat → Option (Nat × Int)} {S c i : Nat} (hc : c < N) (hS : pr_sc F N pc bs kd na c ≤ S) (hT : fx_tb g S a_levelParams a_levelDrops) (h2 : kd c ≠ 2) (h4 : kd c ≠ 4)
    (hp : ∀ a b, fx_rs (fx_sh (-(i : Int)) (fx_e N (pr_ar F pc kd na) kd (pr_ag na) g c)) a b → post ((nI M), (nI F), (nI N), f_code, f_faultFunction, f_bound, a, b, f_status, f_calls, f_depth, f_fuelLimit, f_begun, f_beginLimit, f_waitingFunction, f_currentNode, f_valueKnown, f_currentValue, (fun i => nI (pc i)), mk, (fun i => nI (rt i)), (fun i => nI (bs i)), (fun i => nI (kd i)), na, a_parents, a_childIndexes, a_subtreeEnds, a_scopeSizes, a_levelTypes, a_levelParams, a_levelDrops, a_expectedTypes, a_totals, a_slotTypes, a_slotValues, a_waitingArgs, a_callNodes, a_levelValues, a_nodeValues)) : wX_findFact_68 post (nI c) (nI i) (nI M) (nI F) (nI N) f_code f_faultFunction f_bound f_foundParam f_foundDrop f_status f_calls f_depth f_fuelLimit f_begun f_beginLimit f_waitingFunction f_currentNode f_valueKnown f_currentValue (fun i => nI (pc i)) mk (fun i => nI (rt i)) (fun i => nI (bs i)) (fun i => nI (kd i)) na a_parents a_childIndexes a_subtreeEnds a_scopeSizes a_levelTypes a_levelParams a_levelDrops a_expectedTypes a_totals a_slotTypes a_slotValues a_waitingArgs a_callNodes a_levelValues a_nodeValues := by
  have h64 := h.2.1
  have hk := h.2.2.2.2.2.1 c
  have e : (nI c).toNatClampNeg = c := nI_clamp (by omega)
  have hv : vp_in (nI c) 64 := vp_in_nI (by omega) (by omega)
  rw [fx_e_u (fx_pcl h hw) g hc] at hp
  unfold wX_findFact_68
  rw [e]
  refine ⟨hv, pk_eq (kd c) 0 (fun k => ⟨hv, ?_⟩) (fun k0 => ?_)⟩
  · rw [if_pos k] at hp
    obtain ⟨x1, x2⟩ := (hnm c hc).1 k
    have s45 := pr_sc_le h hw hc
    have hva : vp_in (nI (pr_ag na c)) 45 := vp_in_nI (by omega) (by omega)
    rw [x2, nI_clamp (by omega)]
    refine ⟨hva, nm_e ⟨hv, hva, nm_e (hp _ _ ?_)⟩⟩
    have := fx_rs_sh (hT (pr_ag na c) (by omega)) (-(i : Int))
    rw [fx_neg, ← Int32.sub_eq_add_neg] at this
    exact this
  · rw [if_neg k0, if_neg h2, if_neg h4] at hp
    exact hp _ _ (fx_rs_none _)
theorem wx_ff7 {post : St2 → Prop} (h : pr_in F N pc rt bs kd mk na) (hw : pg_wf F N bs (pr_ar F pc kd na)) (hnm : pr_nm F N pc bs kd na) (HT : tb_ok N (pr_ar F pc kd na) kd (pr_z F bs pc) a_parents a_childIndexes a_subtreeEnds a_scopeSizes N) {g : Nat → Option (Nat × Int)} {S : Nat} (hT : fx_tb g S a_levelParams a_levelDrops) :
    ∀ (r c i fu : Nat), N - c ≤ r → i + r ≤ 64 → r < fu → c < N → pr_sc F N pc bs kd na c ≤ S → (∀ a b, fx_rs (fx_sh (-(i : Int)) (fx_e N (pr_ar F pc kd na) kd (pr_ag na) g c)) a b → post ((nI M), (nI F), (nI N), f_code, f_faultFunction, f_bound, a, b, f_status, f_calls, f_depth, f_fuelLimit, f_begun, f_beginLimit, f_waitingFunction, f_currentNode, f_valueKnown, f_currentValue, (fun i => nI (pc i)), mk, (fun i => nI (rt i)), (fun i => nI (bs i)), (fun i => nI (kd i)), na, a_parents, a_childIndexes, a_subtreeEnds, a_scopeSizes, a_levelTypes, a_levelParams, a_levelDrops, a_expectedTypes, a_totals, a_slotTypes, a_slotValues, a_waitingArgs, a_callNodes, a_levelValues, a_nodeValues)) → wX_findFact_7 post (nI M) (nI F) (nI N) f_code f_faultFunction f_bound f_foundParam f_foundDrop f_status f_calls f_depth f_fuelLimit f_begun f_beginLimit f_waitingFunction f_currentNode f_valueKnown f_currentValue (fun i => nI (pc i)) mk (fun i => nI (rt i)) (fun i => nI (bs i)) (fun i => nI (kd i)) na a_parents a_childIndexes a_subtreeEnds a_scopeSizes a_levelTypes a_levelParams a_levelDrops a_expectedTypes a_totals a_slotTypes a_slotValues a_waitingArgs a_callNodes a_levelValues a_nodeValues fu (nI c) (nI i) (nI i) := by
  have h64 := h.2.1
  have hcl := fx_pcl h hw
  intro r
  induction r with
  | zero => intro c i fu h1 h2 h3 h4; omega
  | succ r ih =>
    intro c i fu h1 h2 h3 hc hS hp
    obtain ⟨fu, rfl⟩ : ∃ f, fu = f + 1 := ⟨fu - 1, by omega⟩
    have hk := h.2.2.2.2.2.1 c
    have e : (nI c).toNatClampNeg = c := nI_clamp (by omega)
    have hv : vp_in (nI c) 64 := vp_in_nI (by omega) (by omega)
    have nxt : ∀ j, j < pr_ar F pc kd na c → kd c ≠ 6 ∧ kd c ≠ 7 → (fx_e N (pr_ar F pc kd na) kd (pr_ag na) g c = fx_sh (-1) (fx_e N (pr_ar F pc kd na) kd (pr_ag na) g (tr_ch N (pr_ar F pc kd na) c j))) → wX_findFact_7 post (nI M) (nI F) (nI N) f_code f_faultFunction f_bound f_foundParam f_foundDrop f_status f_calls f_depth f_fuelLimit f_begun f_beginLimit f_waitingFunction f_currentNode f_valueKnown f_currentValue (fun i => nI (pc i)) mk (fun i => nI (rt i)) (fun i => nI (bs i)) (fun i => nI (kd i)) na a_parents a_childIndexes a_subtreeEnds a_scopeSizes a_levelTypes a_levelParams a_levelDrops a_expectedTypes a_totals a_slotTypes a_slotValues a_waitingArgs a_callNodes a_levelValues a_nodeValues fu (nI (tr_ch N (pr_ar F pc kd na) c j)) (nI (i + 1)) (nI (i + 1)) := by
      intro j hj hk67 he
      obtain ⟨a1, a2, a3, a4, a5, a6, a7⟩ := pg_ch hw hc hj
      have es : pr_sc F N pc bs kd na (tr_ch N (pr_ar F pc kd na) c j) = pr_sc F N pc bs kd na c := by
        unfold pr_sc; rw [sq_some a3, sq_cv0 (Or.inr hk67)]; rfl
      refine ih _ (i + 1) fu (by omega) (by omega) (by omega) a1 (by omega) (fun a b hab => hp a b ?_)
      rw [he, fx_sh_sh]
      have : (-(i : Int) + -1) = -((i + 1 : Nat) : Int) := by omega
      rw [this]
      exact hab
    refine br_f (nI_ge (b := 64) (by omega) (by decide)) ⟨hv, ?_⟩
    show ((fun i => nI (kd i)) (nI c).toNatClampNeg = 2 → _) ∧ _
    rw [e]
    have x34 : (kd c = 2 ∨ kd c = 4) → wX_findFact_34 post (wX_findFact_7 post (nI M) (nI F) (nI N) f_code f_faultFunction f_bound f_foundParam f_foundDrop f_status f_calls f_depth f_fuelLimit f_begun f_beginLimit f_waitingFunction f_currentNode f_valueKnown f_currentValue (fun i => nI (pc i)) mk (fun i => nI (rt i)) (fun i => nI (bs i)) (fun i => nI (kd i)) na a_parents a_childIndexes a_subtreeEnds a_scopeSizes a_levelTypes a_levelParams a_levelDrops a_expectedTypes a_totals a_slotTypes a_slotValues a_waitingArgs a_callNodes a_levelValues a_nodeValues fu) (nI c) (nI i) (nI i) (nI M) (nI F) (nI N) f_code f_faultFunction f_bound f_foundParam f_foundDrop f_status f_calls f_depth f_fuelLimit f_begun f_beginLimit f_waitingFunction f_currentNode f_valueKnown f_currentValue (fun i => nI (pc i)) mk (fun i => nI (rt i)) (fun i => nI (bs i)) (fun i => nI (kd i)) na a_parents a_childIndexes a_subtreeEnds a_scopeSizes a_levelTypes a_levelParams a_levelDrops a_expectedTypes a_totals a_slotTypes a_slotValues a_waitingArgs a_callNodes a_levelValues a_nodeValues := by
      intro hor
      unfold wX_findFact_34
      rw [e]
      refine ⟨hv, pk_eq (kd c) 2 (fun k => nm_r (nI_1 c) (nm_r (nI_1 i) (nm_r (nI_1 i) ?_))) (fun k => ?_)⟩
      · have ha : pr_ar F pc kd na c = 1 := by unfold pr_ar; rw [if_pos k]
        have := nxt 0 (by omega) ⟨by omega, by omega⟩ (by rw [fx_e_u hcl g hc, if_neg (by omega), if_pos k, tr_ch_0])
        rw [tr_ch_0] at this
        exact this
      · have k4 : kd c = 4 := by omega
        have ha : pr_ar F pc kd na c = 2 := by unfold pr_ar; rw [if_neg k, if_pos k4]
        have hc1 : c + 1 < N := by
          have := (pg_ch hw (c := 0) hc (by omega)).1
          rw [tr_ch_0] at this; exact this
        have e1 : (nI c + 1).toNatClampNeg = c + 1 := by rw [nI_1]; exact nI_clamp (by omega)
        rw [e1, (HT (c + 1) hc1).2.2.1]
        have ec : tr_se N (pr_ar F pc kd na) (c + 1) = tr_ch N (pr_ar F pc kd na) c 1 := by rw [show (1 : Nat) = 0 + 1 from rfl, tr_ch_s, tr_ch_0]
        rw [ec]
        refine ⟨by rw [nI_1]; exact vp_in_nI (by omega) (by omega), nm_e (nm_r (nI_1 i) (nm_r (nI_1 i) ?_))⟩
        exact nxt 1 (by omega) ⟨by omega, by omega⟩ (by rw [fx_e_u hcl g hc, if_neg (by omega), if_neg k, if_pos k4])
    refine pk_eq (kd c) 2 (fun k => x34 (Or.inl k)) (fun k2 => ⟨hv, pk_eq (kd c) 4 (fun k => x34 (Or.inr k)) (fun k4 => ?_)⟩)
    exact wx_ff68 h hw hnm hc hS hT k2 k4 hp
theorem wx_findFact {post : St2 → Prop} (h : pr_in F N pc rt bs kd mk na) (hw : pg_wf F N bs (pr_ar F pc kd na)) (hnm : pr_nm F N pc bs kd na) (HT : tb_ok N (pr_ar F pc kd na) kd (pr_z F bs pc) a_parents a_childIndexes a_subtreeEnds a_scopeSizes N) {g : Nat → Option (Nat × Int)} {S c : Nat} (hT : fx_tb g S a_levelParams a_levelDrops) (hc : c < N) (hS : pr_sc F N pc bs kd na c ≤ S)
    (hp : ∀ a b, fx_rs (fx_e N (pr_ar F pc kd na) kd (pr_ag na) g c) a b → post ((nI M), (nI F), (nI N), f_code, f_faultFunction, f_bound, a, b, f_status, f_calls, f_depth, f_fuelLimit, f_begun, f_beginLimit, f_waitingFunction, f_currentNode, f_valueKnown, f_currentValue, (fun i => nI (pc i)), mk, (fun i => nI (rt i)), (fun i => nI (bs i)), (fun i => nI (kd i)), na, a_parents, a_childIndexes, a_subtreeEnds, a_scopeSizes, a_levelTypes, a_levelParams, a_levelDrops, a_expectedTypes, a_totals, a_slotTypes, a_slotValues, a_waitingArgs, a_callNodes, a_levelValues, a_nodeValues)) : wpX_findFact post ((nI M), (nI F), (nI N), f_code, f_faultFunction, f_bound, f_foundParam, f_foundDrop, f_status, f_calls, f_depth, f_fuelLimit, f_begun, f_beginLimit, f_waitingFunction, f_currentNode, f_valueKnown, f_currentValue, (fun i => nI (pc i)), mk, (fun i => nI (rt i)), (fun i => nI (bs i)), (fun i => nI (kd i)), na, a_parents, a_childIndexes, a_subtreeEnds, a_scopeSizes, a_levelTypes, a_levelParams, a_levelDrops, a_expectedTypes, a_totals, a_slotTypes, a_slotValues, a_waitingArgs, a_callNodes, a_levelValues, a_nodeValues) (nI c) := by
  have h64 := h.2.1
  have e : (-((0 : Nat) : Int)) = 0 := by omega
  refine ⟨65, ?_⟩
  refine wx_ff7 h hw hnm HT hT 64 c 0 65 (by omega) (by omega) (by omega) hc hS (fun a b hab => hp a b ?_)
  rw [e, fx_sh_0] at hab
  exact hab
def pr_fp (F N : Nat) (pc bs kd : Nat → Nat) (na lp ld : Nat → Int32) (n : Nat) : Prop :=
  (tr_pa N (pr_ar F pc kd na) n = none → fx_tb (pr_fl F N pc bs kd na n) (pr_sc F N pc bs kd na n) lp ld) ∧ ∀ p, tr_pa N (pr_ar F pc kd na) n = some p → fx_tb (pr_fl F N pc bs kd na p) (pr_sc F N pc bs kd na p) lp ld
theorem wx_bindFacts {post : St2 → Prop} (h : pr_in F N pc rt bs kd mk na) (hw : pg_wf F N bs (pr_ar F pc kd na)) (hnm : pr_nm F N pc bs kd na) (HT : tb_ok N (pr_ar F pc kd na) kd (pr_z F bs pc) a_parents a_childIndexes a_subtreeEnds a_scopeSizes N) {n : Nat} (hn : n < N) (hl : pr_fp F N pc bs kd na a_levelParams a_levelDrops n)
    (hp : ∀ a b lp ld, fx_tb (pr_fl F N pc bs kd na n) (pr_sc F N pc bs kd na n) lp ld → post ((nI M), (nI F), (nI N), f_code, f_faultFunction, f_bound, a, b, f_status, f_calls, f_depth, f_fuelLimit, f_begun, f_beginLimit, f_waitingFunction, f_currentNode, f_valueKnown, f_currentValue, (fun i => nI (pc i)), mk, (fun i => nI (rt i)), (fun i => nI (bs i)), (fun i => nI (kd i)), na, a_parents, a_childIndexes, a_subtreeEnds, a_scopeSizes, a_levelTypes, lp, ld, a_expectedTypes, a_totals, a_slotTypes, a_slotValues, a_waitingArgs, a_callNodes, a_levelValues, a_nodeValues)) : wpX_bindFacts post ((nI M), (nI F), (nI N), f_code, f_faultFunction, f_bound, f_foundParam, f_foundDrop, f_status, f_calls, f_depth, f_fuelLimit, f_begun, f_beginLimit, f_waitingFunction, f_currentNode, f_valueKnown, f_currentValue, (fun i => nI (pc i)), mk, (fun i => nI (rt i)), (fun i => nI (bs i)), (fun i => nI (kd i)), na, a_parents, a_childIndexes, a_subtreeEnds, a_scopeSizes, a_levelTypes, a_levelParams, a_levelDrops, a_expectedTypes, a_totals, a_slotTypes, a_slotValues, a_waitingArgs, a_callNodes, a_levelValues, a_nodeValues) (nI n) := by
  have h64 := h.2.1
  unfold wpX_bindFacts
  refine wx_binderAt h hn (HT n hn).1 (HT n hn).2.1 ?_
  cases hpn : tr_pa N (pr_ar F pc kd na) n with
  | none =>
    rw [tb_bi_none hpn]
    exact br_t rfl (hp _ _ _ _ (hl.1 hpn))
  | some p =>
    have hpl := (tr_pa_some hpn).1
    have es : pr_sc F N pc bs kd na n = pr_sc F N pc bs kd na p + sq_cv N (pr_ar F pc kd na) kd p n := by unfold pr_sc; exact sq_some hpn
    have s45 := pr_sc_le h hw hn
    have hlp := hl.2 p hpn
    by_cases c0 : sq_cv N (pr_ar F pc kd na) kd p n = 0
    · rw [tb_bi_0 hpn c0]
      refine br_t rfl (hp _ _ _ _ (fun x hx => ?_))
      have : pr_fl F N pc bs kd na n = pr_fl F N pc bs kd na p := fx_l_0 hpn c0
      rw [this]
      exact hlp x (by omega)
    · rw [tb_bi_s hpn c0, show tb_o (some p) = nI p from rfl]
      have ep : (nI p).toNatClampNeg = p := nI_clamp (by omega)
      have hvp : vp_in (nI p) 64 := vp_in_nI (by omega) (by omega)
      have hk := h.2.2.2.2.2.1 p
      have hsp : a_scopeSizes p = nI (pr_sc F N pc bs kd na p) := (HT p (by omega)).2.2.2
      have ha3 : pr_ar F pc kd na p = 3 := fx_k3 p (by rcases (sq_cvk c0).2 with ⟨k1, _⟩ | ⟨k1, _⟩; exact Or.inl k1; exact Or.inr k1)
      obtain ⟨a1, a2, a3, a4, a5, a6, a7⟩ := pg_ch hw (n := p) (c := 0) (by omega) (by omega)
      rw [tr_ch_0] at a1 a3 a5
      have e0 : pr_sc F N pc bs kd na (p + 1) = pr_sc F N pc bs kd na p := by
        unfold pr_sc; rw [sq_some a3, sq_cv0 (Or.inl (by omega))]; rfl
      have efl : ∀ x, pr_fl F N pc bs kd na n x = (if x = pr_sc F N pc bs kd na p then (if sq_cv N (pr_ar F pc kd na) kd p n = 1 then fx_sh 1 (fx_e N (pr_ar F pc kd na) kd (pr_ag na) (pr_fl F N pc bs kd na p) (p + 1)) else none)
          else if x = pr_sc F N pc bs kd na p + 1 then fx_sh 1 (fx_e N (pr_ar F pc kd na) kd (pr_ag na) (pr_fl F N pc bs kd na p) (p + 1)) else pr_fl F N pc bs kd na p x) := fun x => fx_l_s hpn c0 x
      have b40 : ∀ (lp : Nat → Int32) (l : Nat), l < 45 → l < pr_sc F N pc bs kd na n → pr_sc F N pc bs kd na p ≤ l → fx_tb (pr_fl F N pc bs kd na p) (pr_sc F N pc bs kd na p) lp a_levelDrops →
          pr_fl F N pc bs kd na n l = fx_sh 1 (fx_e N (pr_ar F pc kd na) kd (pr_ag na) (pr_fl F N pc bs kd na p) (p + 1)) → (∀ x, x < pr_sc F N pc bs kd na n → x ≠ l → ∀ b, fx_rs (pr_fl F N pc bs kd na n x) (lp x) b ∨ x < pr_sc F N pc bs kd na p) →
          wX_bindFacts_40 post (nI p) (nI l) (nI M) (nI F) (nI N) f_code f_faultFunction f_bound f_foundParam f_foundDrop f_status f_calls f_depth f_fuelLimit f_begun f_beginLimit f_waitingFunction f_currentNode f_valueKnown f_currentValue (fun i => nI (pc i)) mk (fun i => nI (rt i)) (fun i => nI (bs i)) (fun i => nI (kd i)) na a_parents a_childIndexes a_subtreeEnds a_scopeSizes a_levelTypes lp a_levelDrops a_expectedTypes a_totals a_slotTypes a_slotValues a_waitingArgs a_callNodes a_levelValues a_nodeValues := by
        intro lp l hl1 hl2 hl3 hT hfl hoth
        have el : (nI l).toNatClampNeg = l := nI_clamp (by omega)
        unfold wX_bindFacts_40
        rw [nI_1]
        refine wx_findFact (a_levelParams := lp) h hw hnm HT hT a1 (by omega) (fun a b hab => ⟨vp_in_nI (by omega) (by omega), ?_⟩)
        rw [el]
        refine nm_e ⟨vp_in_nI (by omega) (by omega), nm_e (hp _ _ _ _ (fun x hx => ?_))⟩
        by_cases ex : x = l
        · subst ex
          rw [pk_us, pk_us, hfl]
          exact fx_rs_sh hab 1
        · rw [pk_un ex, pk_un ex]
          rcases hoth x hx ex (a_levelDrops x) with y | y
          · exact y
          · have : pr_fl F N pc bs kd na n x = pr_fl F N pc bs kd na p x := by rw [efl, if_neg (by omega), if_neg (by omega)]
            rw [this]
            exact hT x y
      refine br_f (wx_no p (by omega)) ⟨hvp, ?_⟩
      rw [ep, hsp]
      refine nm_e ⟨hvp, ?_⟩
      rcases (sq_cvk c0).2 with ⟨k1, k2⟩ | ⟨k1, k2⟩
      · refine pk_eq (kd p) 7 (fun k => by omega) (fun k => ?_)
        refine b40 a_levelParams _ (by omega) (by omega) (Nat.le_refl _) hlp (by rw [efl, if_pos rfl, if_pos k2]) (fun x hx hne b => Or.inr (by omega))
      · have el : (nI (pr_sc F N pc bs kd na p)).toNatClampNeg = pr_sc F N pc bs kd na p := nI_clamp (by omega)
        refine pk_eq (kd p) 7 (fun k => ⟨vp_in_nI (by omega) (by omega), ?_⟩) (fun k => by omega)
        rw [el]
        refine nm_e (nm_r (nI_1 _) ?_)
        refine b40 _ _ (by omega) (by omega) (by omega) (fun x hx => by rw [pk_un (by omega)]; exact hlp x hx) (by rw [efl, if_neg (by omega), if_pos rfl]) (fun x hx hne b => ?_)
        by_cases ex : x = pr_sc F N pc bs kd na p
        · refine Or.inl ?_
          rw [efl, if_pos ex, if_neg (by omega), ex, pk_us]
          exact fx_rs_none _
        · exact Or.inr (by omega)
/-- whether the self call n descends -/
def pr_dn (F N : Nat) (pc bs kd : Nat → Nat) (na : Nat → Int32) (f n : Nat) : Bool := cd_dn (fun i => pr_fe F N pc bs kd na n (tr_ch N (pr_ar F pc kd na) n i)) (pc f) 0
def cd_b (b : Bool) : Int32 := if b then 1 else 0
theorem wx_ds7 {post : Int32 → St2 → Prop} (h : pr_in F N pc rt bs kd mk na) (hw : pg_wf F N bs (pr_ar F pc kd na)) (hnm : pr_nm F N pc bs kd na) (HT : tb_ok N (pr_ar F pc kd na) kd (pr_z F bs pc) a_parents a_childIndexes a_subtreeEnds a_scopeSizes N) {n f : Nat} (hn : n < N) (hf : f < F) (k5 : kd n = 5) (ha : na n = nI f)
    (hT : fx_tb (pr_fl F N pc bs kd na n) (pr_sc F N pc bs kd na n) a_levelParams a_levelDrops) :
    ∀ (t i fu : Nat) (a b : Int32), i + t = pc f → t < fu → (∀ a b, post (cd_b (cd_dn (fun i => pr_fe F N pc bs kd na n (tr_ch N (pr_ar F pc kd na) n i)) t i)) ((nI M), (nI F), (nI N), f_code, f_faultFunction, f_bound, a, b, f_status, f_calls, f_depth, f_fuelLimit, f_begun, f_beginLimit, f_waitingFunction, f_currentNode, f_valueKnown, f_currentValue, (fun i => nI (pc i)), mk, (fun i => nI (rt i)), (fun i => nI (bs i)), (fun i => nI (kd i)), na, a_parents, a_childIndexes, a_subtreeEnds, a_scopeSizes, a_levelTypes, a_levelParams, a_levelDrops, a_expectedTypes, a_totals, a_slotTypes, a_slotValues, a_waitingArgs, a_callNodes, a_levelValues, a_nodeValues)) → wX_descends_7 post (nI f) fu (nI (tr_ch N (pr_ar F pc kd na) n i)) (nI i) (nI M) (nI F) (nI N) f_code f_faultFunction f_bound a b f_status f_calls f_depth f_fuelLimit f_begun f_beginLimit f_waitingFunction f_currentNode f_valueKnown f_currentValue (fun i => nI (pc i)) mk (fun i => nI (rt i)) (fun i => nI (bs i)) (fun i => nI (kd i)) na a_parents a_childIndexes a_subtreeEnds a_scopeSizes a_levelTypes a_levelParams a_levelDrops a_expectedTypes a_totals a_slotTypes a_slotValues a_waitingArgs a_callNodes a_levelValues a_nodeValues := by
  have h6 := h.1
  have h64 := h.2.1
  have hp3 := h.2.2.1 f
  have e : (nI f).toNatClampNeg = f := nI_clamp (by omega)
  have hv : vp_in (nI f) 6 := vp_in_nI (by omega) (by omega)
  have eag : pr_ag na n = f := by unfold pr_ag; rw [ha]; exact e
  have har := (pr_ar5 hw h hnm hn k5).2.1
  rw [eag] at har
  intro t
  induction t with
  | zero =>
    intro i fu a b h1 h2 hp
    obtain ⟨fu, rfl⟩ : ∃ f, fu = f + 1 := ⟨fu - 1, by omega⟩
    refine ⟨hv, ?_⟩
    show ((fun i => nI (pc i)) (nI f).toNatClampNeg ≤ nI i → _) ∧ _
    rw [e]
    exact br_t (nI_le (by omega) (by omega)) (hp a b)
  | succ t ih =>
    intro i fu a b h1 h2 hp
    obtain ⟨fu, rfl⟩ : ∃ f, fu = f + 1 := ⟨fu - 1, by omega⟩
    obtain ⟨a1, a2, a3, a4, a5, a6, a7⟩ := pg_ch hw (n := n) (c := i) hn (by omega)
    have es : pr_sc F N pc bs kd na (tr_ch N (pr_ar F pc kd na) n i) = pr_sc F N pc bs kd na n := by
      unfold pr_sc; rw [sq_some a3, sq_cv0 (Or.inr ⟨by omega, by omega⟩)]; rfl
    have ec : (nI (tr_ch N (pr_ar F pc kd na) n i)).toNatClampNeg = tr_ch N (pr_ar F pc kd na) n i := nI_clamp (by omega)
    refine ⟨hv, ?_⟩
    show ((fun i => nI (pc i)) (nI f).toNatClampNeg ≤ nI i → _) ∧ _
    rw [e]
    refine br_f (nI_ge (by omega) (by omega)) (wx_findFact (f_foundParam := a) (f_foundDrop := b) h hw hnm HT hT a1 (by omega) (fun a' b' hab => ?_))
    have hp' := hp a' b'
    rw [cd_dn] at hp'
    have hab' : fx_rs (pr_fe F N pc bs kd na n (tr_ch N (pr_ar F pc kd na) n i)) a' b' := hab
    cases ho : pr_fe F N pc bs kd na n (tr_ch N (pr_ar F pc kd na) n i) with
    | none =>
      rw [ho] at hp' hab'
      rw [hab'.1 rfl] at hp' ⊢
      exact br_f (fun y => wx_no i (by omega) y.symm) hp'
    | some jk =>
      obtain ⟨j, kk⟩ := jk
      rw [ho] at hp' hab'
      obtain ⟨q1, q2⟩ := hab'.2 j kk rfl
      rw [q1, q2] at hp' ⊢
      dsimp only at hp'
      refine br_c (fun c1 => br_c (fun c2 => br_c (fun c3 => ?_) (fun c3 => ?_)) (fun c2 => ?_)) (fun c1 => ?_)
      · have hih := ih (i + 1) fu (nI j) (Int32.ofInt kk) (by omega) (by omega) (fun a'' b'' => ?_)
        · show vp_in _ 64 ∧ _
          rw [ec, (HT _ a1).2.2.1, ← tr_ch_s]
          exact ⟨vp_in_nI (by omega) (by omega), nm_e (nm_r (nI_1 i) hih)⟩
        · have := hp a'' b''
          rw [cd_dn, ho] at this
          dsimp only at this
          rw [if_neg (fun y => y c1), if_neg (Int32.not_lt.mpr c2), if_neg (Int32.not_lt.mpr c3)] at this
          exact this
      · rw [if_neg (fun y => y c1), if_neg (Int32.not_lt.mpr c2), if_pos (Int32.not_le.mp c3)] at hp'
        exact hp'
      · rw [if_neg (fun y => y c1), if_pos (Int32.not_le.mp c2)] at hp'
        exact hp'
      · rw [if_pos c1] at hp'
        exact hp'
theorem wx_descends {post : Int32 → St2 → Prop} (h : pr_in F N pc rt bs kd mk na) (hw : pg_wf F N bs (pr_ar F pc kd na)) (hnm : pr_nm F N pc bs kd na) (HT : tb_ok N (pr_ar F pc kd na) kd (pr_z F bs pc) a_parents a_childIndexes a_subtreeEnds a_scopeSizes N) {n f : Nat} (hn : n < N) (hf : f < F) (k5 : kd n = 5) (ha : na n = nI f)
    (hT : fx_tb (pr_fl F N pc bs kd na n) (pr_sc F N pc bs kd na n) a_levelParams a_levelDrops) (hp : ∀ a b, post (cd_b (pr_dn F N pc bs kd na f n)) ((nI M), (nI F), (nI N), f_code, f_faultFunction, f_bound, a, b, f_status, f_calls, f_depth, f_fuelLimit, f_begun, f_beginLimit, f_waitingFunction, f_currentNode, f_valueKnown, f_currentValue, (fun i => nI (pc i)), mk, (fun i => nI (rt i)), (fun i => nI (bs i)), (fun i => nI (kd i)), na, a_parents, a_childIndexes, a_subtreeEnds, a_scopeSizes, a_levelTypes, a_levelParams, a_levelDrops, a_expectedTypes, a_totals, a_slotTypes, a_slotValues, a_waitingArgs, a_callNodes, a_levelValues, a_nodeValues)) : wpX_descends post ((nI M), (nI F), (nI N), f_code, f_faultFunction, f_bound, f_foundParam, f_foundDrop, f_status, f_calls, f_depth, f_fuelLimit, f_begun, f_beginLimit, f_waitingFunction, f_currentNode, f_valueKnown, f_currentValue, (fun i => nI (pc i)), mk, (fun i => nI (rt i)), (fun i => nI (bs i)), (fun i => nI (kd i)), na, a_parents, a_childIndexes, a_subtreeEnds, a_scopeSizes, a_levelTypes, a_levelParams, a_levelDrops, a_expectedTypes, a_totals, a_slotTypes, a_slotValues, a_waitingArgs, a_callNodes, a_levelValues, a_nodeValues) (nI f) (nI n) := by
  have hp3 := h.2.2.1 f
  refine nm_r (e' := nI (tr_ch N (pr_ar F pc kd na) n 0)) (by rw [nI_1, tr_ch_0]) ⟨4, ?_⟩
  exact wx_ds7 h hw hnm HT hn hf k5 ha hT (pc f) 0 4 _ _ (by omega) (by omega) hp
end
end
section
section
variable {f_sizeCap f_functionCount f_nodeCount f_code f_faultFunction f_foundParam f_foundDrop f_status f_depth f_begun f_beginLimit f_waitingFunction f_currentNode f_valueKnown : Int32} {f_bound f_calls f_fuelLimit f_currentValue : Int64} {a_paramCounts a_listMasks a_resultTypes a_bodyStarts a_nodeKinds a_nodeArgs a_parents a_childIndexes a_subtreeEnds a_scopeSizes a_levelTypes a_levelParams a_levelDrops a_expectedTypes a_slotTypes a_callNodes : Nat → Int32} {a_totals a_slotValues a_waitingArgs a_levelValues a_nodeValues : Nat → Int64}
variable {M F N k : Nat} {pc rt bs kd : Nat → Nat} {mk na : Nat → Int32}
theorem wx_de45 {post : Int32 → St2 → Prop} (h : pr_in F N pc rt bs kd mk na) (hw : pg_wf F N bs (pr_ar F pc kd na)) (hnm : pr_nm F N pc bs kd na) (HT : tb_ok N (pr_ar F pc kd na) kd (pr_z F bs pc) a_parents a_childIndexes a_subtreeEnds a_scopeSizes N) {f : Nat} (hf : f < F) :
    ∀ (r n fu : Nat) (a b : Int32) (lp ld : Nat → Int32), n + r = pg_be F N bs f → bs f ≤ n → r < fu → (0 < r → pr_fp F N pc bs kd na lp ld n) →
      (∀ a b lp ld, post (cd_ds kd na (pr_dn F N pc bs kd na f) f r n) ((nI M), (nI F), (nI N), f_code, f_faultFunction, f_bound, a, b, f_status, f_calls, f_depth, f_fuelLimit, f_begun, f_beginLimit, f_waitingFunction, f_currentNode, f_valueKnown, f_currentValue, (fun i => nI (pc i)), mk, (fun i => nI (rt i)), (fun i => nI (bs i)), (fun i => nI (kd i)), na, a_parents, a_childIndexes, a_subtreeEnds, a_scopeSizes, a_levelTypes, lp, ld, a_expectedTypes, a_totals, a_slotTypes, a_slotValues, a_waitingArgs, a_callNodes, a_levelValues, a_nodeValues)) → wX_checkDescent_45 post (nI f) (nI (pg_be F N bs f)) fu (nI n) (nI M) (nI F) (nI N) f_code f_faultFunction f_bound a b f_status f_calls f_depth f_fuelLimit f_begun f_beginLimit f_waitingFunction f_currentNode f_valueKnown f_currentValue (fun i => nI (pc i)) mk (fun i => nI (rt i)) (fun i => nI (bs i)) (fun i => nI (kd i)) na a_parents a_childIndexes a_subtreeEnds a_scopeSizes a_levelTypes lp ld a_expectedTypes a_totals a_slotTypes a_slotValues a_waitingArgs a_callNodes a_levelValues a_nodeValues := by
  have h6 := h.1
  have h64 := h.2.1
  have hN := pg_lastN hw hf
  intro r
  induction r with
  | zero =>
    intro n fu a b lp ld h1 h2 h3 h4 hp
    obtain ⟨fu, rfl⟩ : ∃ f, fu = f + 1 := ⟨fu - 1, by omega⟩
    exact br_t (nI_le (by omega) (by omega)) (hp a b lp ld)
  | succ r ih =>
    intro n fu a b lp ld h1 h2 h3 h4 hp
    obtain ⟨fu, rfl⟩ : ∃ f, fu = f + 1 := ⟨fu - 1, by omega⟩
    have hn : n < N := by omega
    have hk := h.2.2.2.2.2.1 n
    have e : (nI n).toNatClampNeg = n := nI_clamp (by omega)
    have hv : vp_in (nI n) 64 := vp_in_nI (by omega) (by omega)
    refine br_f (nI_ge (by omega) (by omega)) (wx_bindFacts (f_foundParam := a) (f_foundDrop := b) h hw hnm HT hn (h4 (by omega)) (fun a' b' lp' ld' hT => ⟨hv, ?_⟩))
    have nxt : ∀ a'' b'', ¬ (kd n = 5 ∧ na n = nI f ∧ pr_dn F N pc bs kd na f n = false) → wX_checkDescent_45 post (nI f) (nI (pg_be F N bs f)) fu (nI (n + 1)) (nI M) (nI F) (nI N) f_code f_faultFunction f_bound a'' b'' f_status f_calls f_depth f_fuelLimit f_begun f_beginLimit f_waitingFunction f_currentNode f_valueKnown f_currentValue (fun i => nI (pc i)) mk (fun i => nI (rt i)) (fun i => nI (bs i)) (fun i => nI (kd i)) na a_parents a_childIndexes a_subtreeEnds a_scopeSizes a_levelTypes lp' ld' a_expectedTypes a_totals a_slotTypes a_slotValues a_waitingArgs a_callNodes a_levelValues a_nodeValues := by
      intro a'' b'' hno
      refine ih (n + 1) fu a'' b'' lp' ld' (by omega) (by omega) (by omega) (fun hr => ⟨fun hpn => ?_, fun p hpn x hx => ?_⟩) (fun a3 b3 l3 d3 => ?_)
      · obtain ⟨q, q1, _⟩ := tr_pa_in (N := N) (hw.2.2.2.2 f hf) hN (j := n + 1) (by omega) (by omega)
        rw [q1] at hpn; cases hpn
      · have han := tb_anx hpn
        have hs : pr_sc F N pc bs kd na p ≤ pr_sc F N pc bs kd na n := sq_an n p hn han
        have hfe : pr_fl F N pc bs kd na n x = pr_fl F N pc bs kd na p x := fx_l_an n p x hn han hx
        rw [← hfe]
        exact hT x (by omega)
      · have := hp a3 b3 l3 d3
        rw [cd_ds, if_neg hno] at this
        exact this
    show ((fun i => nI (kd i)) (nI n).toNatClampNeg = 5 → _) ∧ _
    rw [e]
    refine pk_eq (kd n) 5 (fun k => ⟨hv, br_c (fun c => ?_) (fun c => ?_)⟩) (fun k => ?_)
    · refine br_f (by decide) (wx_descends (f_foundParam := a') (f_foundDrop := b') (a_levelParams := lp') (a_levelDrops := ld') h hw hnm HT hn hf k c hT (fun a2 b2 => ?_))
      by_cases hd : pr_dn F N pc bs kd na f n = false
      · rw [hd]
        have := hp a2 b2 lp' ld'
        rw [cd_ds, if_pos ⟨k, c, hd⟩] at this
        exact br_t rfl this
      · have hd' : pr_dn F N pc bs kd na f n = true := by
          cases hq : pr_dn F N pc bs kd na f n with
          | true => rfl
          | false => exact absurd hq hd
        rw [hd']
        exact br_f (by decide) (nm_r (nI_1 n) (nxt a2 b2 (fun y => hd y.2.2)))
    · exact br_t rfl (nm_r (nI_1 n) (nxt a' b' (fun y => c y.2.1)))
    · exact br_t rfl (nm_r (nI_1 n) (nxt a' b' (fun y => k y.1)))
theorem wx_de2 {post : Int32 → St2 → Prop} (h : pr_in F N pc rt bs kd mk na) (hw : pg_wf F N bs (pr_ar F pc kd na)) (hnm : pr_nm F N pc bs kd na) (HT : tb_ok N (pr_ar F pc kd na) kd (pr_z F bs pc) a_parents a_childIndexes a_subtreeEnds a_scopeSizes N) {f : Nat} (hf : f < F)
    (hp : ∀ a b lp ld, post (cd_ds kd na (pr_dn F N pc bs kd na f) f (pg_be F N bs f - bs f) (bs f)) ((nI M), (nI F), (nI N), f_code, f_faultFunction, f_bound, a, b, f_status, f_calls, f_depth, f_fuelLimit, f_begun, f_beginLimit, f_waitingFunction, f_currentNode, f_valueKnown, f_currentValue, (fun i => nI (pc i)), mk, (fun i => nI (rt i)), (fun i => nI (bs i)), (fun i => nI (kd i)), na, a_parents, a_childIndexes, a_subtreeEnds, a_scopeSizes, a_levelTypes, lp, ld, a_expectedTypes, a_totals, a_slotTypes, a_slotValues, a_waitingArgs, a_callNodes, a_levelValues, a_nodeValues)) :
    ∀ (r i fu : Nat) (lp ld : Nat → Int32), i + r = pc f → r < fu → (∀ x, x < i → lp x = nI x ∧ ld x = 0) → wX_checkDescent_2 post (nI f) (nI M) (nI F) (nI N) f_code f_faultFunction f_bound f_foundParam f_foundDrop f_status f_calls f_depth f_fuelLimit f_begun f_beginLimit f_waitingFunction f_currentNode f_valueKnown f_currentValue fu (nI i) (fun i => nI (pc i)) mk (fun i => nI (rt i)) (fun i => nI (bs i)) (fun i => nI (kd i)) na a_parents a_childIndexes a_subtreeEnds a_scopeSizes a_levelTypes lp ld a_expectedTypes a_totals a_slotTypes a_slotValues a_waitingArgs a_callNodes a_levelValues a_nodeValues := by
  have h6 := h.1
  have h64 := h.2.1
  have hp3 := h.2.2.1 f
  have hN := pg_lastN hw hf
  have hlt := (hw.2.2.2.2 f hf).1
  have e : (nI f).toNatClampNeg = f := nI_clamp (by omega)
  have hv : vp_in (nI f) 6 := vp_in_nI (by omega) (by omega)
  intro r
  induction r with
  | zero =>
    intro i fu lp ld h1 h2 h3
    obtain ⟨fu, rfl⟩ : ∃ f, fu = f + 1 := ⟨fu - 1, by omega⟩
    refine ⟨hv, ?_⟩
    show ((fun i => nI (pc i)) (nI f).toNatClampNeg ≤ nI i → _) ∧ _
    rw [e]
    refine br_t (nI_le (by omega) (by omega)) (wx_bodyEnd h hf ⟨hv, nm_e ⟨65, ?_⟩⟩)
    refine wx_de45 h hw hnm HT hf (pg_be F N bs f - bs f) (bs f) 65 _ _ lp ld (by omega) (Nat.le_refl _) (by omega) (fun _ => ⟨fun hpn x hx => ?_, fun p hpn => ?_⟩) hp
    · unfold pr_sc at hx
      rw [sq_none hpn] at hx
      have hx' := hx
      unfold pr_z at hx'
      rw [pr_root_fn hw hf] at hx'
      unfold pr_fl
      rw [fx_l_none hpn, if_pos hx]
      refine ⟨fun y => (by cases y), fun j k y => ?_⟩
      cases y
      exact h3 x (by omega)
    · rw [pg_root hw hf] at hpn; cases hpn
  | succ r ih =>
    intro i fu lp ld h1 h2 h3
    obtain ⟨fu, rfl⟩ : ∃ f, fu = f + 1 := ⟨fu - 1, by omega⟩
    have ei : (nI i).toNatClampNeg = i := nI_clamp (by omega)
    refine ⟨hv, ?_⟩
    show ((fun i => nI (pc i)) (nI f).toNatClampNeg ≤ nI i → _) ∧ _
    rw [e]
    refine br_f (nI_ge (by omega) (by omega)) ⟨vp_in_nI (by omega) (by omega), ?_⟩
    rw [ei]
    refine nm_e ⟨vp_in_nI (by omega) (by omega), nm_e (nm_r (nI_1 i) (ih (i + 1) fu _ _ (by omega) (by omega) (fun x hx => ?_)))⟩
    rcases Nat.eq_or_lt_of_le (Nat.le_of_lt_succ hx) with z1 | z1
    · subst z1; exact ⟨pk_us, pk_us⟩
    · rw [pk_un (by omega), pk_un (by omega)]; exact h3 x z1
theorem wx_checkDescent {post : Int32 → St2 → Prop} (h : pr_in F N pc rt bs kd mk na) (hw : pg_wf F N bs (pr_ar F pc kd na)) (hnm : pr_nm F N pc bs kd na) (HT : tb_ok N (pr_ar F pc kd na) kd (pr_z F bs pc) a_parents a_childIndexes a_subtreeEnds a_scopeSizes N) {f : Nat} (hf : f < F)
    (hp : ∀ a b lp ld, post (cd_ds kd na (pr_dn F N pc bs kd na f) f (pg_be F N bs f - bs f) (bs f)) ((nI M), (nI F), (nI N), f_code, f_faultFunction, f_bound, a, b, f_status, f_calls, f_depth, f_fuelLimit, f_begun, f_beginLimit, f_waitingFunction, f_currentNode, f_valueKnown, f_currentValue, (fun i => nI (pc i)), mk, (fun i => nI (rt i)), (fun i => nI (bs i)), (fun i => nI (kd i)), na, a_parents, a_childIndexes, a_subtreeEnds, a_scopeSizes, a_levelTypes, lp, ld, a_expectedTypes, a_totals, a_slotTypes, a_slotValues, a_waitingArgs, a_callNodes, a_levelValues, a_nodeValues)) : wpX_checkDescent post ((nI M), (nI F), (nI N), f_code, f_faultFunction, f_bound, f_foundParam, f_foundDrop, f_status, f_calls, f_depth, f_fuelLimit, f_begun, f_beginLimit, f_waitingFunction, f_currentNode, f_valueKnown, f_currentValue, (fun i => nI (pc i)), mk, (fun i => nI (rt i)), (fun i => nI (bs i)), (fun i => nI (kd i)), na, a_parents, a_childIndexes, a_subtreeEnds, a_scopeSizes, a_levelTypes, a_levelParams, a_levelDrops, a_expectedTypes, a_totals, a_slotTypes, a_slotValues, a_waitingArgs, a_callNodes, a_levelValues, a_nodeValues) (nI f) := by
  have hp3 := h.2.2.1 f
  exact ⟨4, wx_de2 h hw hnm HT hf hp (pc f) 0 4 a_levelParams a_levelDrops (by omega) (by omega) (fun x hx => by omega)⟩
/-- the code of function f in each phase -/
noncomputable def pr_q1 (F N : Nat) (pc bs kd : Nat → Nat) (na : Nat → Int32) (f : Nat) : Int32 := @ite Int32 (tr_wf (pr_ar F pc kd na) (bs f) (pg_be F N bs f)) (Classical.propDecidable _) 1 2
def pr_q2 (F N : Nat) (pc bs kd : Nat → Nat) (na : Nat → Int32) (f : Nat) : Int32 := cd_nm kd na (pr_sc F N pc bs kd na) f (pg_be F N bs f - bs f) (bs f)
def pr_q3 (F N : Nat) (pc rt bs kd : Nat → Nat) (mk na : Nat → Int32) (f : Nat) : Int32 := cd_ty (pr_ow F N pc rt bs kd mk na) (pr_et F N pc rt bs kd mk na) (pg_be F N bs f - bs f) (bs f)
def pr_q4 (F N : Nat) (pc bs kd : Nat → Nat) (na : Nat → Int32) (f : Nat) : Int32 := cd_ds kd na (pr_dn F N pc bs kd na f) f (pg_be F N bs f - bs f) (bs f)
theorem pr_q1_t {f : Nat} (hw : tr_wf (pr_ar F pc kd na) (bs f) (pg_be F N bs f)) : pr_q1 F N pc bs kd na f = 1 := by unfold pr_q1; rw [if_pos hw]
theorem pr_q1_f {f : Nat} (hw : ¬ tr_wf (pr_ar F pc kd na) (bs f) (pg_be F N bs f)) : pr_q1 F N pc bs kd na f = 2 := by unfold pr_q1; rw [if_neg hw]
theorem pr_q1_1 {f : Nat} (h : pr_q1 F N pc bs kd na f = 1) : tr_wf (pr_ar F pc kd na) (bs f) (pg_be F N bs f) := by
  refine Classical.byContradiction fun y => ?_
  rw [pr_q1_f y] at h
  exact absurd h (by decide)
/-- the tail of a turn of the loop over the functions -/
theorem wx_99 {post : St2 → Prop} {J} {x1 : Int32} {f : Nat} {c : Int32} (h1 : c = 1 → J (nI (f + 1)) (nI M) (nI F) (nI N) c (-1) f_bound f_foundParam f_foundDrop f_status f_calls f_depth f_fuelLimit f_begun f_beginLimit f_waitingFunction f_currentNode f_valueKnown f_currentValue (fun i => nI (pc i)) mk (fun i => nI (rt i)) (fun i => nI (bs i)) (fun i => nI (kd i)) na a_parents a_childIndexes a_subtreeEnds a_scopeSizes a_levelTypes a_levelParams a_levelDrops a_expectedTypes a_totals a_slotTypes a_slotValues a_waitingArgs a_callNodes a_levelValues a_nodeValues) (h2 : ¬ c = 1 → J (nI (f + 1)) (nI M) (nI F) (nI N) c (nI f) f_bound f_foundParam f_foundDrop f_status f_calls f_depth f_fuelLimit f_begun f_beginLimit f_waitingFunction f_currentNode f_valueKnown f_currentValue (fun i => nI (pc i)) mk (fun i => nI (rt i)) (fun i => nI (bs i)) (fun i => nI (kd i)) na a_parents a_childIndexes a_subtreeEnds a_scopeSizes a_levelTypes a_levelParams a_levelDrops a_expectedTypes a_totals a_slotTypes a_slotValues a_waitingArgs a_callNodes a_levelValues a_nodeValues) : wX_checkFunctions_99 post J x1 (nI f) (nI M) (nI F) (nI N) c f_faultFunction f_bound f_foundParam f_foundDrop f_status f_calls f_depth f_fuelLimit f_begun f_beginLimit f_waitingFunction f_currentNode f_valueKnown f_currentValue (fun i => nI (pc i)) mk (fun i => nI (rt i)) (fun i => nI (bs i)) (fun i => nI (kd i)) na a_parents a_childIndexes a_subtreeEnds a_scopeSizes a_levelTypes a_levelParams a_levelDrops a_expectedTypes a_totals a_slotTypes a_slotValues a_waitingArgs a_callNodes a_levelValues a_nodeValues :=
  br_c (fun y => nm_r (nI_1 f) (h1 y)) (fun y => nm_r (nI_1 f) (h2 y))
/-- the loop has found its fault -/
theorem wx_cfz {post : St2 → Prop} {x1 : Int32} {c ft : Int32} {fu f : Nat} (hc : ¬ c = 1) (hp : post ((nI M), (nI F), (nI N), c, ft, f_bound, f_foundParam, f_foundDrop, f_status, f_calls, f_depth, f_fuelLimit, f_begun, f_beginLimit, f_waitingFunction, f_currentNode, f_valueKnown, f_currentValue, (fun i => nI (pc i)), mk, (fun i => nI (rt i)), (fun i => nI (bs i)), (fun i => nI (kd i)), na, a_parents, a_childIndexes, a_subtreeEnds, a_scopeSizes, a_levelTypes, a_levelParams, a_levelDrops, a_expectedTypes, a_totals, a_slotTypes, a_slotValues, a_waitingArgs, a_callNodes, a_levelValues, a_nodeValues)) : wX_checkFunctions_2 post x1 (fu + 1) (nI f) (nI M) (nI F) (nI N) c ft f_bound f_foundParam f_foundDrop f_status f_calls f_depth f_fuelLimit f_begun f_beginLimit f_waitingFunction f_currentNode f_valueKnown f_currentValue (fun i => nI (pc i)) mk (fun i => nI (rt i)) (fun i => nI (bs i)) (fun i => nI (kd i)) na a_parents a_childIndexes a_subtreeEnds a_scopeSizes a_levelTypes a_levelParams a_levelDrops a_expectedTypes a_totals a_slotTypes a_slotValues a_waitingArgs a_callNodes a_levelValues a_nodeValues :=
  br_c (fun _ => hp) (fun _ => br_f hc hp)
end
end
section
section
def bd_C : Nat := 1000000000000
def bd_D : Nat := 1000000000001
theorem bp_sum {post : Int64 → Prop} {C a b : Nat} (hC : C < 2 ^ 62) (ha : a ≤ C) (hb : b ≤ C) (hp : post (lN (bd_c C (a + b)))) : (lN a ≤ lN C - lN b → post (lN a + lN b)) ∧ (¬ lN a ≤ lN C - lN b → post (lN C)) := by
  rw [lN_sub hb, pk_lLE (by omega) (by omega), lN_add]
  unfold bd_c at hp
  constructor
  · intro h; rw [if_pos (by omega)] at hp; exact hp
  · intro h; rw [if_neg (by omega)] at hp; exact hp
theorem bp_ne {b : Nat} (hb : b < 2 ^ 62) (h0 : b ≠ 0) : ¬ lN b = 0 := fun y => h0 ((pk_lEQ (b := 0) (by omega) (by omega)).mp y)
theorem bp_mul {post : Int64 → Prop} {C a b : Nat} (hC : C < 2 ^ 62) (ha : a ≤ C) (hb : b ≤ C) (h0 : 0 < b) (hp : post (lN (bd_c C (a * b)))) : (lN a ≤ lN C / lN b → post (lN a * lN b)) ∧ (¬ lN a ≤ lN C / lN b → post (lN C)) := by
  have h1 : C / b ≤ C := Nat.div_le_self _ _
  rw [pk_lDiv (by omega) h0 (by omega), pk_lLE (by omega) (by omega), lN_mul]
  have hd := bd_div (C := C) (a := a) h0
  unfold bd_c at hp
  constructor
  · intro h; rw [if_pos (by omega)] at hp; exact hp
  · intro h; rw [if_neg (by omega)] at hp; exact hp
theorem bd_C62 : bd_C < 2 ^ 62 := by decide
theorem bd_D62 : bd_D < 2 ^ 62 := by decide
theorem wx_cappedSum {post : Int64 → Prop} {a b : Nat} (ha : a ≤ bd_C) (hb : b ≤ bd_C) (hp : post (lN (bd_c bd_C (a + b)))) : wpX_cappedSum post () (lN a) (lN b) := bp_sum bd_C62 ha hb hp
theorem wx_cappedProduct {post : Int64 → Prop} {a b : Nat} (ha : a ≤ bd_C) (hb : b ≤ bd_C) (hp : post (lN (bd_c bd_C (a * b)))) : wpX_cappedProduct post () (lN a) (lN b) := by
  have hC := bd_C62
  by_cases h0 : b = 0
  · subst h0
    refine br_t rfl ?_
    rw [Nat.mul_zero, bd_c_of (Nat.zero_le _)] at hp
    exact hp
  · have hn := bp_ne (by omega) h0
    exact br_f hn ⟨hn, bp_mul hC ha hb (by omega) hp⟩
/-- how many of t nodes from n on are calls of g -/
def cd_ct (kd : Nat → Nat) (na : Nat → Int32) (g : Nat) : Nat → Nat → Nat
  | 0, _ => 0
  | t + 1, n => (if kd n = 5 ∧ na n = nI g then 1 else 0) + cd_ct kd na g t (n + 1)
theorem cd_ct_le (kd : Nat → Nat) (na : Nat → Int32) (g : Nat) : ∀ t n, cd_ct kd na g t n ≤ t
  | 0, _ => Nat.le_refl 0
  | t + 1, n => by
    have := cd_ct_le kd na g t (n + 1)
    rw [cd_ct]; split <;> omega
def pr_ct (F N : Nat) (bs kd : Nat → Nat) (na : Nat → Int32) (f g : Nat) : Nat := cd_ct kd na g (pg_be F N bs f - bs f) (bs f)
def pr_L (M : Nat) (pc : Nat → Nat) (f : Nat) : Nat := (M + 1) ^ pc f
def pr_T (M F N : Nat) (pc bs kd : Nat → Nat) (na : Nat → Int32) (f : Nat) : Nat := bd_T (pr_ct F N bs kd na) (pr_L M pc) f
variable {f_sizeCap f_functionCount f_nodeCount f_code f_faultFunction f_foundParam f_foundDrop f_status f_depth f_begun f_beginLimit f_waitingFunction f_currentNode f_valueKnown : Int32} {f_bound f_calls f_fuelLimit f_currentValue : Int64} {a_paramCounts a_listMasks a_resultTypes a_bodyStarts a_nodeKinds a_nodeArgs a_parents a_childIndexes a_subtreeEnds a_scopeSizes a_levelTypes a_levelParams a_levelDrops a_expectedTypes a_slotTypes a_callNodes : Nat → Int32} {a_totals a_slotValues a_waitingArgs a_levelValues a_nodeValues : Nat → Int64}
variable {M F N k : Nat} {pc rt bs kd : Nat → Nat} {mk na : Nat → Int32}
theorem pr_ct64 (h : pr_in F N pc rt bs kd mk na) {f : Nat} (hf : f < F) (g : Nat) : pr_ct F N bs kd na f g ≤ 64 := by
  have h64 := h.2.1
  have hb := pr_be_le h hf
  have := cd_ct_le kd na g (pg_be F N bs f - bs f) (bs f)
  unfold pr_ct
  omega
theorem wx_ct17 {post : Int32 → Prop} (h : pr_in F N pc rt bs kd mk na) {e g : Nat} (he : e ≤ N) : ∀ (r n c fu : Nat), n + r = e → r < fu → c + r ≤ 64 → post (nI (c + cd_ct kd na g r n)) → wX_countCalls_17 post (nI g) (nI e) (nI M) (nI F) (nI N) f_code f_faultFunction f_bound f_foundParam f_foundDrop f_status f_calls f_depth f_fuelLimit f_begun f_beginLimit f_waitingFunction f_currentNode f_valueKnown f_currentValue (fun i => nI (pc i)) mk (fun i => nI (rt i)) (fun i => nI (bs i)) (fun i => nI (kd i)) na a_parents a_childIndexes a_subtreeEnds a_scopeSizes a_levelTypes a_levelParams a_levelDrops a_expectedTypes a_totals a_slotTypes a_slotValues a_waitingArgs a_callNodes a_levelValues a_nodeValues fu (nI c) (nI n) := by
  have h64 := h.2.1
  intro r
  induction r with
  | zero =>
    intro n c fu h1 h2 h3 hp
    obtain ⟨fu, rfl⟩ : ∃ f, fu = f + 1 := ⟨fu - 1, by omega⟩
    exact br_t (nI_le (by omega) (by omega)) hp
  | succ r ih =>
    intro n c fu h1 h2 h3 hp
    obtain ⟨fu, rfl⟩ : ∃ f, fu = f + 1 := ⟨fu - 1, by omega⟩
    have hk := h.2.2.2.2.2.1 n
    have e1 : (nI n).toNatClampNeg = n := nI_clamp (by omega)
    have hv : vp_in (nI n) 64 := vp_in_nI (by omega) (by omega)
    rw [cd_ct] at hp
    refine br_f (nI_ge (by omega) (by omega)) ⟨hv, ?_⟩
    show ((fun i => nI (kd i)) (nI n).toNatClampNeg = 5 → _) ∧ _
    rw [e1]
    refine pk_eq (kd n) 5 (fun k => ⟨hv, br_c (fun y => ?_) (fun y => ?_)⟩) (fun k => ?_)
    · rw [if_pos ⟨k, y⟩, ← Nat.add_assoc] at hp
      exact nm_r (nI_1 c) (nm_r (nI_1 n) (ih (n + 1) (c + 1) fu (by omega) (by omega) (by omega) hp))
    · rw [if_neg (fun w => y w.2), Nat.zero_add] at hp
      exact nm_r (nI_1 n) (ih (n + 1) c fu (by omega) (by omega) (by omega) hp)
    · rw [if_neg (fun w => k w.1), Nat.zero_add] at hp
      exact nm_r (nI_1 n) (ih (n + 1) c fu (by omega) (by omega) (by omega) hp)
theorem wx_countCalls {post : Int32 → Prop} (h : pr_in F N pc rt bs kd mk na) {f g : Nat} (hf : f < F) (hp : post (nI (pr_ct F N bs kd na f g))) : wpX_countCalls post ((nI M), (nI F), (nI N), f_code, f_faultFunction, f_bound, f_foundParam, f_foundDrop, f_status, f_calls, f_depth, f_fuelLimit, f_begun, f_beginLimit, f_waitingFunction, f_currentNode, f_valueKnown, f_currentValue, (fun i => nI (pc i)), mk, (fun i => nI (rt i)), (fun i => nI (bs i)), (fun i => nI (kd i)), na, a_parents, a_childIndexes, a_subtreeEnds, a_scopeSizes, a_levelTypes, a_levelParams, a_levelDrops, a_expectedTypes, a_totals, a_slotTypes, a_slotValues, a_waitingArgs, a_callNodes, a_levelValues, a_nodeValues) (nI f) (nI g) := by
  have h6 := h.1
  have h64 := h.2.1
  have hb := pr_be_le h hf
  have e : (nI f).toNatClampNeg = f := nI_clamp (by omega)
  unfold wpX_countCalls
  refine wx_bodyEnd h hf ⟨vp_in_nI (by omega) (by omega), nm_r (e' := nI (bs f)) (by rw [e]) ⟨65, ?_⟩⟩
  refine wx_ct17 h hb.2 (pg_be F N bs f - bs f) (bs f) 0 65 (by omega) (by omega) (by omega) ?_
  rw [Nat.zero_add]
  exact hp
theorem pr_Lb (hM : M ≤ 12) : ∀ i, i ≤ 3 → (M + 1) ^ i ≤ 2197 := by
  intro i hi
  have h1 : (M + 1) ^ i ≤ 13 ^ i := Nat.pow_le_pow_left (by omega) i
  have h2 : 13 ^ i ≤ 13 ^ 3 := Nat.pow_le_pow_right (by omega) hi
  have h3 : (13 : Nat) ^ 3 = 2197 := by decide
  omega
theorem wx_st4 {post : Int32 → Prop} (h : pr_in F N pc rt bs kd mk na) (hM : M ≤ 12) {f : Nat} (hf : f < F) (hp : post (nI ((M + 1) ^ pc f))) : ∀ (r i fu : Nat), i + r = pc f → r < fu → wX_statesOf_4 post (nI f) (nI M) (nI F) (nI N) f_code f_faultFunction f_bound f_foundParam f_foundDrop f_status f_calls f_depth f_fuelLimit f_begun f_beginLimit f_waitingFunction f_currentNode f_valueKnown f_currentValue (fun i => nI (pc i)) mk (fun i => nI (rt i)) (fun i => nI (bs i)) (fun i => nI (kd i)) na a_parents a_childIndexes a_subtreeEnds a_scopeSizes a_levelTypes a_levelParams a_levelDrops a_expectedTypes a_totals a_slotTypes a_slotValues a_waitingArgs a_callNodes a_levelValues a_nodeValues fu (nI ((M + 1) ^ i)) (nI i) := by
  have h6 := h.1
  have hp3 := h.2.2.1 f
  have e : (nI f).toNatClampNeg = f := nI_clamp (by omega)
  have hv : vp_in (nI f) 6 := vp_in_nI (by omega) (by omega)
  intro r
  induction r with
  | zero =>
    intro i fu h1 h2
    obtain ⟨fu, rfl⟩ : ∃ f, fu = f + 1 := ⟨fu - 1, by omega⟩
    have ei : i = pc f := by omega
    subst ei
    refine ⟨hv, ?_⟩
    show ((fun i => nI (pc i)) (nI f).toNatClampNeg ≤ _ → _) ∧ _
    rw [e]
    exact br_t (nI_le (Nat.le_refl _) (by omega)) hp
  | succ r ih =>
    intro i fu h1 h2
    obtain ⟨fu, rfl⟩ : ∃ f, fu = f + 1 := ⟨fu - 1, by omega⟩
    refine ⟨hv, ?_⟩
    show ((fun i => nI (pc i)) (nI f).toNatClampNeg ≤ _ → _) ∧ _
    rw [e]
    refine br_f (nI_ge (by omega) (by omega)) (nm_r (e' := nI ((M + 1) ^ (i + 1))) (by rw [nI_1, pk_mul, Nat.pow_succ]) (nm_r (nI_1 i) (ih (i + 1) fu (by omega) (by omega))))
theorem wx_statesOf {post : Int32 → Prop} (h : pr_in F N pc rt bs kd mk na) (hM : M ≤ 12) {f : Nat} (hf : f < F) (hp : post (nI (pr_L M pc f))) : wpX_statesOf post ((nI M), (nI F), (nI N), f_code, f_faultFunction, f_bound, f_foundParam, f_foundDrop, f_status, f_calls, f_depth, f_fuelLimit, f_begun, f_beginLimit, f_waitingFunction, f_currentNode, f_valueKnown, f_currentValue, (fun i => nI (pc i)), mk, (fun i => nI (rt i)), (fun i => nI (bs i)), (fun i => nI (kd i)), na, a_parents, a_childIndexes, a_subtreeEnds, a_scopeSizes, a_levelTypes, a_levelParams, a_levelDrops, a_expectedTypes, a_totals, a_slotTypes, a_slotValues, a_waitingArgs, a_callNodes, a_levelValues, a_nodeValues) (nI f) := by
  have hp3 := h.2.2.1 f
  exact ⟨4, wx_st4 h hM hf hp (pc f) 0 4 (by omega) (by omega)⟩
theorem bd_lt63 {C a : Nat} (hC : C < 2 ^ 62) : bd_c C a < 2 ^ 62 := by have := bd_c_le C a; omega
theorem wx_ps8 {post : Int64 → Prop} {r L : Nat} (hr : r ≤ 64) (hL : L ≤ 2197) (hp : post (lN (bd_c bd_C (bd_S r L)))) : ∀ (t i fu : Nat), i + t = L → t < fu → wX_powerSum_8 post (nI r) (nI L) fu (lN (bd_c bd_C (bd_S r i))) (lN (bd_c bd_C (r ^ i))) (nI i) := by
  have c1 : 64 ≤ bd_C := by decide
  intro t
  induction t with
  | zero =>
    intro i fu h1 h2
    obtain ⟨fu, rfl⟩ : ∃ f, fu = f + 1 := ⟨fu - 1, by omega⟩
    have ei : i = L := by omega
    subst ei
    exact br_t (nI_le (Nat.le_refl _) (by omega)) hp
  | succ t ih =>
    intro i fu h1 h2
    obtain ⟨fu, rfl⟩ : ∃ f, fu = f + 1 := ⟨fu - 1, by omega⟩
    refine br_f (nI_ge (by omega) (by omega)) (wx_cappedSum (bd_c_le _ _) (bd_c_le _ _) ?_)
    rw [nI_l (by omega)]
    refine wx_cappedProduct (bd_c_le _ _) (by omega) (nm_r (nI_1 i) ?_)
    rw [bd_add, bd_add2, bd_mul, ← Nat.pow_succ]
    exact ih (i + 1) fu (by omega) (by omega)
theorem wx_powerSum {post : Int64 → Prop} {r L : Nat} (hr : r ≤ 64) (hL : L ≤ 2197) (hp : post (lN (bd_c bd_C (bd_S r L)))) : wpX_powerSum post () (nI r) (nI L) :=
  ⟨2198, wx_ps8 hr hL hp L 0 2198 (by omega) (by omega)⟩
theorem wx_to5 {post : Int64 → Prop} (h : pr_in F N pc rt bs kd mk na) (hM : M ≤ 12) {f : Nat} (hf : f < F) (hT : ∀ g, g < f → a_totals g = lN (bd_c bd_C (pr_T M F N pc bs kd na g))) (hp : post (lN (bd_c bd_C (pr_T M F N pc bs kd na f)))) :
    ∀ (t i fu : Nat), i + t = f → t < fu → wX_totalOf_5 post (nI f) (nI M) (nI F) (nI N) f_code f_faultFunction f_bound f_foundParam f_foundDrop f_status f_calls f_depth f_fuelLimit f_begun f_beginLimit f_waitingFunction f_currentNode f_valueKnown f_currentValue (fun i => nI (pc i)) mk (fun i => nI (rt i)) (fun i => nI (bs i)) (fun i => nI (kd i)) na a_parents a_childIndexes a_subtreeEnds a_scopeSizes a_levelTypes a_levelParams a_levelDrops a_expectedTypes a_totals a_slotTypes a_slotValues a_waitingArgs a_callNodes a_levelValues a_nodeValues fu (lN (bd_c bd_C (bd_in (pr_ct F N bs kd na f) (pr_T M F N pc bs kd na) i))) (nI i) := by
  have h6 := h.1
  have c1 : 64 ≤ bd_C := by decide
  intro t
  induction t with
  | zero =>
    intro i fu h1 h2
    obtain ⟨fu, rfl⟩ : ∃ f, fu = f + 1 := ⟨fu - 1, by omega⟩
    have ei : i = f := by omega
    subst ei
    have hp3 := h.2.2.1 i
    refine br_t (nI_le (Nat.le_refl _) (by omega)) (wx_countCalls h hf (wx_statesOf h hM hf (wx_powerSum (pr_ct64 h hf i) (pr_Lb hM _ hp3) (wx_cappedProduct (bd_c_le _ _) (bd_c_le _ _) ?_))))
    rw [bd_mul, bd_mul2]
    unfold pr_T at hp
    rw [bd_T_eq] at hp
    exact hp
  | succ t ih =>
    intro i fu h1 h2
    obtain ⟨fu, rfl⟩ : ∃ f, fu = f + 1 := ⟨fu - 1, by omega⟩
    have c64 := pr_ct64 h hf i
    have ei : (nI i).toNatClampNeg = i := nI_clamp (by omega)
    refine br_f (nI_ge (by omega) (by omega)) (wx_countCalls h hf ⟨vp_in_nI (by omega) (by omega), ?_⟩)
    rw [ei, hT i (by omega), nI_l (by omega)]
    refine wx_cappedProduct (bd_c_le _ _) (by omega) (wx_cappedSum (bd_c_le _ _) (bd_c_le _ _) (nm_r (nI_1 i) ?_))
    rw [bd_add, bd_mul, bd_add2, Nat.mul_comm]
    exact ih (i + 1) fu (by omega) (by omega)
theorem wx_totalOf {post : Int64 → Prop} (h : pr_in F N pc rt bs kd mk na) (hM : M ≤ 12) {f : Nat} (hf : f < F) (hT : ∀ g, g < f → a_totals g = lN (bd_c bd_C (pr_T M F N pc bs kd na g))) (hp : post (lN (bd_c bd_C (pr_T M F N pc bs kd na f)))) : wpX_totalOf post ((nI M), (nI F), (nI N), f_code, f_faultFunction, f_bound, f_foundParam, f_foundDrop, f_status, f_calls, f_depth, f_fuelLimit, f_begun, f_beginLimit, f_waitingFunction, f_currentNode, f_valueKnown, f_currentValue, (fun i => nI (pc i)), mk, (fun i => nI (rt i)), (fun i => nI (bs i)), (fun i => nI (kd i)), na, a_parents, a_childIndexes, a_subtreeEnds, a_scopeSizes, a_levelTypes, a_levelParams, a_levelDrops, a_expectedTypes, a_totals, a_slotTypes, a_slotValues, a_waitingArgs, a_callNodes, a_levelValues, a_nodeValues) (nI f) := by
  have h6 := h.1
  exact ⟨7, wx_to5 h hM hf hT hp f 0 7 (by omega) (by omega)⟩
theorem wx_ab2 {post : Int64 → St2 → Prop} (h : pr_in F N pc rt bs kd mk na) (hM : M ≤ 12) (hF : 0 < F) (hp : ∀ tt, post (lN (bd_c bd_C (pr_T M F N pc bs kd na (F - 1)))) ((nI M), (nI F), (nI N), f_code, f_faultFunction, f_bound, f_foundParam, f_foundDrop, f_status, f_calls, f_depth, f_fuelLimit, f_begun, f_beginLimit, f_waitingFunction, f_currentNode, f_valueKnown, f_currentValue, (fun i => nI (pc i)), mk, (fun i => nI (rt i)), (fun i => nI (bs i)), (fun i => nI (kd i)), na, a_parents, a_childIndexes, a_subtreeEnds, a_scopeSizes, a_levelTypes, a_levelParams, a_levelDrops, a_expectedTypes, tt, a_slotTypes, a_slotValues, a_waitingArgs, a_callNodes, a_levelValues, a_nodeValues)) :
    ∀ (t f fu : Nat) (tt : Nat → Int64), f + t = F → t < fu → (∀ g, g < f → tt g = lN (bd_c bd_C (pr_T M F N pc bs kd na g))) → wX_activationBound_2 post (nI M) (nI F) (nI N) f_code f_faultFunction f_bound f_foundParam f_foundDrop f_status f_calls f_depth f_fuelLimit f_begun f_beginLimit f_waitingFunction f_currentNode f_valueKnown f_currentValue fu (nI f) (fun i => nI (pc i)) mk (fun i => nI (rt i)) (fun i => nI (bs i)) (fun i => nI (kd i)) na a_parents a_childIndexes a_subtreeEnds a_scopeSizes a_levelTypes a_levelParams a_levelDrops a_expectedTypes tt a_slotTypes a_slotValues a_waitingArgs a_callNodes a_levelValues a_nodeValues := by
  have h6 := h.1
  intro t
  induction t with
  | zero =>
    intro f fu tt h1 h2 h3
    obtain ⟨fu, rfl⟩ : ∃ f, fu = f + 1 := ⟨fu - 1, by omega⟩
    have e1 : nI F - 1 = nI (F - 1) := pk_sub (b := 1) hF
    have e2 : (nI (F - 1)).toNatClampNeg = F - 1 := nI_clamp (by omega)
    refine br_t (nI_le (by omega) (by omega)) ?_
    rw [e1, e2, h3 (F - 1) (by omega)]
    exact ⟨vp_in_nI (by omega) (by omega), hp tt⟩
  | succ t ih =>
    intro f fu tt h1 h2 h3
    obtain ⟨fu, rfl⟩ : ∃ f, fu = f + 1 := ⟨fu - 1, by omega⟩
    have ef : (nI f).toNatClampNeg = f := nI_clamp (by omega)
    refine br_f (nI_ge (by omega) (by omega)) (wx_totalOf (a_totals := tt) h hM (by omega) h3 ⟨vp_in_nI (by omega) (by omega), ?_⟩)
    rw [ef]
    refine nm_e (nm_r (nI_1 f) (ih (f + 1) fu _ (by omega) (by omega) (fun g hg => ?_)))
    rcases Nat.eq_or_lt_of_le (Nat.le_of_lt_succ hg) with z1 | z1
    · subst z1; exact pk_uLs
    · rw [pk_uLn (by omega)]; exact h3 g z1
theorem wx_activationBound {post : Int64 → St2 → Prop} (h : pr_in F N pc rt bs kd mk na) (hM : M ≤ 12) (hF : 0 < F) (hp : ∀ tt, post (lN (bd_c bd_C (pr_T M F N pc bs kd na (F - 1)))) ((nI M), (nI F), (nI N), f_code, f_faultFunction, f_bound, f_foundParam, f_foundDrop, f_status, f_calls, f_depth, f_fuelLimit, f_begun, f_beginLimit, f_waitingFunction, f_currentNode, f_valueKnown, f_currentValue, (fun i => nI (pc i)), mk, (fun i => nI (rt i)), (fun i => nI (bs i)), (fun i => nI (kd i)), na, a_parents, a_childIndexes, a_subtreeEnds, a_scopeSizes, a_levelTypes, a_levelParams, a_levelDrops, a_expectedTypes, tt, a_slotTypes, a_slotValues, a_waitingArgs, a_callNodes, a_levelValues, a_nodeValues)) : wpX_activationBound post ((nI M), (nI F), (nI N), f_code, f_faultFunction, f_bound, f_foundParam, f_foundDrop, f_status, f_calls, f_depth, f_fuelLimit, f_begun, f_beginLimit, f_waitingFunction, f_currentNode, f_valueKnown, f_currentValue, (fun i => nI (pc i)), mk, (fun i => nI (rt i)), (fun i => nI (bs i)), (fun i => nI (kd i)), na, a_parents, a_childIndexes, a_subtreeEnds, a_scopeSizes, a_levelTypes, a_levelParams, a_levelDrops, a_expectedTypes, a_totals, a_slotTypes, a_slotValues, a_waitingArgs, a_callNodes, a_levelValues, a_nodeValues) := by
  have h6 := h.1
  exact ⟨7, wx_ab2 h hM hF hp F 0 7 _ (by omega) (by omega) (fun g hg => by omega)⟩
end
end
section
section
variable {f_sizeCap f_functionCount f_nodeCount f_code f_faultFunction f_foundParam f_foundDrop f_status f_depth f_begun f_beginLimit f_waitingFunction f_currentNode f_valueKnown : Int32} {f_bound f_calls f_fuelLimit f_currentValue : Int64} {a_paramCounts a_listMasks a_resultTypes a_bodyStarts a_nodeKinds a_nodeArgs a_parents a_childIndexes a_subtreeEnds a_scopeSizes a_levelTypes a_levelParams a_levelDrops a_expectedTypes a_slotTypes a_callNodes : Nat → Int32} {a_totals a_slotValues a_waitingArgs a_levelValues a_nodeValues : Nat → Int64}
variable {M F N k : Nat} {pc rt bs kd : Nat → Nat} {mk na : Nat → Int32}
/-- where the tables end once f functions are laid out -/
def pr_lim (F N : Nat) (bs : Nat → Nat) (f : Nat) : Nat := if f < F then bs f else N
theorem pr_lim_s {f : Nat} : pr_lim F N bs (f + 1) = pg_be F N bs f := rfl
theorem wx_cf1 {post : St2 → Prop} (h : pr_in F N pc rt bs kd mk na) : ∀ (r f fu : Nat), f + r = F → r < fu → post ((nI M), (nI F), (nI N), ((cd_r (pr_q1 F N pc bs kd na) r f).1), ((cd_r (pr_q1 F N pc bs kd na) r f).2), f_bound, f_foundParam, f_foundDrop, f_status, f_calls, f_depth, f_fuelLimit, f_begun, f_beginLimit, f_waitingFunction, f_currentNode, f_valueKnown, f_currentValue, (fun i => nI (pc i)), mk, (fun i => nI (rt i)), (fun i => nI (bs i)), (fun i => nI (kd i)), na, a_parents, a_childIndexes, a_subtreeEnds, a_scopeSizes, a_levelTypes, a_levelParams, a_levelDrops, a_expectedTypes, a_totals, a_slotTypes, a_slotValues, a_waitingArgs, a_callNodes, a_levelValues, a_nodeValues) → wX_checkFunctions_2 post 1 fu (nI f) (nI M) (nI F) (nI N) 1 (-1) f_bound f_foundParam f_foundDrop f_status f_calls f_depth f_fuelLimit f_begun f_beginLimit f_waitingFunction f_currentNode f_valueKnown f_currentValue (fun i => nI (pc i)) mk (fun i => nI (rt i)) (fun i => nI (bs i)) (fun i => nI (kd i)) na a_parents a_childIndexes a_subtreeEnds a_scopeSizes a_levelTypes a_levelParams a_levelDrops a_expectedTypes a_totals a_slotTypes a_slotValues a_waitingArgs a_callNodes a_levelValues a_nodeValues := by
  have h6 := h.1
  intro r
  induction r with
  | zero =>
    intro f fu h1 h2 hp
    obtain ⟨fu, rfl⟩ : ∃ f, fu = f + 1 := ⟨fu - 1, by omega⟩
    exact br_t (nI_le (by omega) (by omega)) hp
  | succ r ih =>
    intro f fu h1 h2 hp
    obtain ⟨fu, rfl⟩ : ∃ f, fu = f + 2 := ⟨fu - 2, by omega⟩
    rw [cd_r] at hp
    refine br_f (nI_ge (by omega) (by omega)) (br_t rfl (br_f (by decide) (br_f (by decide) (br_t rfl ?_))))
    refine wx_checkShape h (by omega) (fun y => ?_) (fun y => ?_)
    · rw [if_pos (pr_q1_t y)] at hp
      exact wx_99 (fun _ => ih (f + 1) (fu + 1) (by omega) (by omega) hp) (fun z => absurd rfl z)
    · rw [pr_q1_f y, if_neg (by decide)] at hp
      exact wx_99 (fun z => absurd z (by decide)) (fun z => wx_cfz z hp)
theorem wx_cf2 {post : St2 → Prop} (h : pr_in F N pc rt bs kd mk na) (hw : pg_wf F N bs (pr_ar F pc kd na)) :
    ∀ (r f fu : Nat) (par cx se sc : Nat → Int32), f + r = F → r < fu → tb_ok N (pr_ar F pc kd na) kd (pr_z F bs pc) par cx se sc (pr_lim F N bs f) →
      (∀ par cx se sc, ((cd_r (pr_q2 F N pc bs kd na) r f).1 = 1 → tb_ok N (pr_ar F pc kd na) kd (pr_z F bs pc) par cx se sc N) → post ((nI M), (nI F), (nI N), ((cd_r (pr_q2 F N pc bs kd na) r f).1), ((cd_r (pr_q2 F N pc bs kd na) r f).2), f_bound, f_foundParam, f_foundDrop, f_status, f_calls, f_depth, f_fuelLimit, f_begun, f_beginLimit, f_waitingFunction, f_currentNode, f_valueKnown, f_currentValue, (fun i => nI (pc i)), mk, (fun i => nI (rt i)), (fun i => nI (bs i)), (fun i => nI (kd i)), na, par, cx, se, sc, a_levelTypes, a_levelParams, a_levelDrops, a_expectedTypes, a_totals, a_slotTypes, a_slotValues, a_waitingArgs, a_callNodes, a_levelValues, a_nodeValues)) →
      wX_checkFunctions_2 post 2 fu (nI f) (nI M) (nI F) (nI N) 1 (-1) f_bound f_foundParam f_foundDrop f_status f_calls f_depth f_fuelLimit f_begun f_beginLimit f_waitingFunction f_currentNode f_valueKnown f_currentValue (fun i => nI (pc i)) mk (fun i => nI (rt i)) (fun i => nI (bs i)) (fun i => nI (kd i)) na par cx se sc a_levelTypes a_levelParams a_levelDrops a_expectedTypes a_totals a_slotTypes a_slotValues a_waitingArgs a_callNodes a_levelValues a_nodeValues := by
  have h6 := h.1
  intro r
  induction r with
  | zero =>
    intro f fu par cx se sc h1 h2 h3 hp
    obtain ⟨fu, rfl⟩ : ∃ f, fu = f + 1 := ⟨fu - 1, by omega⟩
    unfold pr_lim at h3
    rw [if_neg (by omega)] at h3
    exact br_t (nI_le (by omega) (by omega)) (hp par cx se sc (fun _ => h3))
  | succ r ih =>
    intro f fu par cx se sc h1 h2 h3 hp
    obtain ⟨fu, rfl⟩ : ∃ f, fu = f + 2 := ⟨fu - 2, by omega⟩
    have hf : f < F := by omega
    have hN := pg_lastN hw hf
    have hwf := hw.2.2.2.2 f hf
    unfold pr_lim at h3
    rw [if_pos hf] at h3
    refine br_f (nI_ge (by omega) (by omega)) (br_t rfl (br_f (by decide) (br_f (by decide) (br_f (by decide) (br_t rfl ?_)))))
    refine wx_layOutTree (a_parents := par) (a_childIndexes := cx) (a_subtreeEnds := se) h hf hwf (fun par1 cx1 se1 hlay => ?_)
    have hl := tb_lay_e hwf hN hw.2.2.1 (pg_root hw hf) hlay
    refine wx_layOutScopes (a_parents := par1) (a_childIndexes := cx1) (a_subtreeEnds := se1) (a_scopeSizes := sc) h hw hf (fun j j1 j2 => ⟨(hl j j1 j2).1, (hl j j1 j2).2.1⟩) (fun j hj => (h3 j hj).2.2.2) (fun sc1 hsc => ?_)
    refine wx_checkNames (a_scopeSizes := sc1) h hf hsc ?_
    have htb : tb_ok N (pr_ar F pc kd na) kd (pr_z F bs pc) par1 cx1 se1 sc1 (pr_lim F N bs (f + 1)) := by
      rw [pr_lim_s]
      intro j hj
      rcases Nat.lt_or_ge j (bs f) with c | c
      · obtain ⟨g1, g2, g3⟩ := hlay.2.2.2.2 j c
        obtain ⟨k1, k2, k3, k4⟩ := h3 j c
        exact ⟨g1.trans k1, g2.trans k2, g3.trans k3, hsc j hj⟩
      · obtain ⟨k1, k2, k3⟩ := hl j c hj
        exact ⟨k1, k2, k3, hsc j hj⟩
    rw [cd_r] at hp
    show wX_checkFunctions_99 post _ _ _ (nI M) (nI F) (nI N) (pr_q2 F N pc bs kd na f) (-1) f_bound f_foundParam f_foundDrop f_status f_calls f_depth f_fuelLimit f_begun f_beginLimit f_waitingFunction f_currentNode f_valueKnown f_currentValue (fun i => nI (pc i)) mk (fun i => nI (rt i)) (fun i => nI (bs i)) (fun i => nI (kd i)) na par1 cx1 se1 sc1 a_levelTypes a_levelParams a_levelDrops a_expectedTypes a_totals a_slotTypes a_slotValues a_waitingArgs a_callNodes a_levelValues a_nodeValues
    by_cases hq : pr_q2 F N pc bs kd na f = 1
    · rw [if_pos hq] at hp
      rw [hq]
      exact wx_99 (fun _ => ih (f + 1) (fu + 1) par1 cx1 se1 sc1 (by omega) (by omega) htb hp) (fun z => absurd rfl z)
    · rw [if_neg hq] at hp
      exact wx_99 (fun z => absurd z hq) (fun z => wx_cfz z (hp par1 cx1 se1 sc1 (fun y => absurd y hq)))
theorem wx_cf3 {post : St2 → Prop} (h : pr_in F N pc rt bs kd mk na) (hw : pg_wf F N bs (pr_ar F pc kd na)) (hnm : pr_nm F N pc bs kd na) (HT : tb_ok N (pr_ar F pc kd na) kd (pr_z F bs pc) a_parents a_childIndexes a_subtreeEnds a_scopeSizes N) :
    ∀ (r f fu : Nat) (lt ets : Nat → Int32), f + r = F → r < fu →
      (∀ lt ets, post ((nI M), (nI F), (nI N), ((cd_r (pr_q3 F N pc rt bs kd mk na) r f).1), ((cd_r (pr_q3 F N pc rt bs kd mk na) r f).2), f_bound, f_foundParam, f_foundDrop, f_status, f_calls, f_depth, f_fuelLimit, f_begun, f_beginLimit, f_waitingFunction, f_currentNode, f_valueKnown, f_currentValue, (fun i => nI (pc i)), mk, (fun i => nI (rt i)), (fun i => nI (bs i)), (fun i => nI (kd i)), na, a_parents, a_childIndexes, a_subtreeEnds, a_scopeSizes, lt, a_levelParams, a_levelDrops, ets, a_totals, a_slotTypes, a_slotValues, a_waitingArgs, a_callNodes, a_levelValues, a_nodeValues)) →
      wX_checkFunctions_2 post 3 fu (nI f) (nI M) (nI F) (nI N) 1 (-1) f_bound f_foundParam f_foundDrop f_status f_calls f_depth f_fuelLimit f_begun f_beginLimit f_waitingFunction f_currentNode f_valueKnown f_currentValue (fun i => nI (pc i)) mk (fun i => nI (rt i)) (fun i => nI (bs i)) (fun i => nI (kd i)) na a_parents a_childIndexes a_subtreeEnds a_scopeSizes lt a_levelParams a_levelDrops ets a_totals a_slotTypes a_slotValues a_waitingArgs a_callNodes a_levelValues a_nodeValues := by
  have h6 := h.1
  intro r
  induction r with
  | zero =>
    intro f fu lt ets h1 h2 hp
    obtain ⟨fu, rfl⟩ : ∃ f, fu = f + 1 := ⟨fu - 1, by omega⟩
    exact br_t (nI_le (by omega) (by omega)) (hp lt ets)
  | succ r ih =>
    intro f fu lt ets h1 h2 hp
    obtain ⟨fu, rfl⟩ : ∃ f, fu = f + 2 := ⟨fu - 2, by omega⟩
    have hf : f < F := by omega
    refine br_f (nI_ge (by omega) (by omega)) (br_t rfl (br_f (by decide) (br_f (by decide) (br_f (by decide) (br_f (by decide) (br_t rfl ?_))))))
    refine wx_checkTypes (a_levelTypes := lt) (a_expectedTypes := ets) h hw hnm HT hf (fun lt1 ets1 => ?_)
    rw [cd_r] at hp
    show wX_checkFunctions_99 post _ _ _ (nI M) (nI F) (nI N) (pr_q3 F N pc rt bs kd mk na f) (-1) f_bound f_foundParam f_foundDrop f_status f_calls f_depth f_fuelLimit f_begun f_beginLimit f_waitingFunction f_currentNode f_valueKnown f_currentValue (fun i => nI (pc i)) mk (fun i => nI (rt i)) (fun i => nI (bs i)) (fun i => nI (kd i)) na a_parents a_childIndexes a_subtreeEnds a_scopeSizes lt1 a_levelParams a_levelDrops ets1 a_totals a_slotTypes a_slotValues a_waitingArgs a_callNodes a_levelValues a_nodeValues
    by_cases hq : pr_q3 F N pc rt bs kd mk na f = 1
    · rw [if_pos hq] at hp
      rw [hq]
      exact wx_99 (fun _ => ih (f + 1) (fu + 1) lt1 ets1 (by omega) (by omega) hp) (fun z => absurd rfl z)
    · rw [if_neg hq] at hp
      exact wx_99 (fun z => absurd z hq) (fun z => wx_cfz z (hp lt1 ets1))
theorem wx_cf4 {post : St2 → Prop} (h : pr_in F N pc rt bs kd mk na) (hw : pg_wf F N bs (pr_ar F pc kd na)) (hnm : pr_nm F N pc bs kd na) (HT : tb_ok N (pr_ar F pc kd na) kd (pr_z F bs pc) a_parents a_childIndexes a_subtreeEnds a_scopeSizes N) :
    ∀ (r f fu : Nat) (a b : Int32) (lp ld : Nat → Int32), f + r = F → r < fu →
      (∀ a b lp ld, post ((nI M), (nI F), (nI N), ((cd_r (pr_q4 F N pc bs kd na) r f).1), ((cd_r (pr_q4 F N pc bs kd na) r f).2), f_bound, a, b, f_status, f_calls, f_depth, f_fuelLimit, f_begun, f_beginLimit, f_waitingFunction, f_currentNode, f_valueKnown, f_currentValue, (fun i => nI (pc i)), mk, (fun i => nI (rt i)), (fun i => nI (bs i)), (fun i => nI (kd i)), na, a_parents, a_childIndexes, a_subtreeEnds, a_scopeSizes, a_levelTypes, lp, ld, a_expectedTypes, a_totals, a_slotTypes, a_slotValues, a_waitingArgs, a_callNodes, a_levelValues, a_nodeValues)) →
      wX_checkFunctions_2 post 4 fu (nI f) (nI M) (nI F) (nI N) 1 (-1) f_bound a b f_status f_calls f_depth f_fuelLimit f_begun f_beginLimit f_waitingFunction f_currentNode f_valueKnown f_currentValue (fun i => nI (pc i)) mk (fun i => nI (rt i)) (fun i => nI (bs i)) (fun i => nI (kd i)) na a_parents a_childIndexes a_subtreeEnds a_scopeSizes a_levelTypes lp ld a_expectedTypes a_totals a_slotTypes a_slotValues a_waitingArgs a_callNodes a_levelValues a_nodeValues := by
  have h6 := h.1
  intro r
  induction r with
  | zero =>
    intro f fu a b lp ld h1 h2 hp
    obtain ⟨fu, rfl⟩ : ∃ f, fu = f + 1 := ⟨fu - 1, by omega⟩
    exact br_t (nI_le (by omega) (by omega)) (hp a b lp ld)
  | succ r ih =>
    intro f fu a b lp ld h1 h2 hp
    obtain ⟨fu, rfl⟩ : ∃ f, fu = f + 2 := ⟨fu - 2, by omega⟩
    have hf : f < F := by omega
    refine br_f (nI_ge (by omega) (by omega)) (br_t rfl (br_f (by decide) (br_t (by decide) ?_)))
    refine wx_checkDescent (f_foundParam := a) (f_foundDrop := b) (a_levelParams := lp) (a_levelDrops := ld) h hw hnm HT hf (fun a1 b1 lp1 ld1 => ?_)
    rw [cd_r] at hp
    show wX_checkFunctions_99 post _ _ _ (nI M) (nI F) (nI N) (pr_q4 F N pc bs kd na f) (-1) f_bound a1 b1 f_status f_calls f_depth f_fuelLimit f_begun f_beginLimit f_waitingFunction f_currentNode f_valueKnown f_currentValue (fun i => nI (pc i)) mk (fun i => nI (rt i)) (fun i => nI (bs i)) (fun i => nI (kd i)) na a_parents a_childIndexes a_subtreeEnds a_scopeSizes a_levelTypes lp1 ld1 a_expectedTypes a_totals a_slotTypes a_slotValues a_waitingArgs a_callNodes a_levelValues a_nodeValues
    by_cases hq : pr_q4 F N pc bs kd na f = 1
    · rw [if_pos hq] at hp
      rw [hq]
      exact wx_99 (fun _ => ih (f + 1) (fu + 1) a1 b1 lp1 ld1 (by omega) (by omega) hp) (fun z => absurd rfl z)
    · rw [if_neg hq] at hp
      exact wx_99 (fun z => absurd z hq) (fun z => wx_cfz z (hp a1 b1 lp1 ld1))
/-- code and fault of the whole check -/
noncomputable def pr_res (F N : Nat) (pc rt bs kd : Nat → Nat) (mk na : Nat → Int32) : Int32 × Int32 :=
  if (cd_r (pr_q1 F N pc bs kd na) F 0).1 = 1 then
    (if (cd_r (pr_q2 F N pc bs kd na) F 0).1 = 1 then
      (if (cd_r (pr_q3 F N pc rt bs kd mk na) F 0).1 = 1 then cd_r (pr_q4 F N pc bs kd na) F 0 else cd_r (pr_q3 F N pc rt bs kd mk na) F 0)
    else cd_r (pr_q2 F N pc bs kd na) F 0)
  else cd_r (pr_q1 F N pc bs kd na) F 0
def pr_bnd (M F N : Nat) (pc bs kd : Nat → Nat) (na : Nat → Int32) (c : Int32) : Int64 := if c = 1 then lN (bd_c bd_C (pr_T M F N pc bs kd na (F - 1))) else 0
theorem pr_wf1 (h : pr_in F N pc rt bs kd mk na) (hF : 0 < F) (h1 : (cd_r (pr_q1 F N pc bs kd na) F 0).1 = 1) : pg_wf F N bs (pr_ar F pc kd na) := by
  refine pr_wf h hF (fun f hf => ?_)
  have := (cd_r_1 F 0 h1).1 f hf
  rw [Nat.zero_add] at this
  exact pr_q1_1 this
theorem pr_nm1 (h : pr_in F N pc rt bs kd mk na) (hw : pg_wf F N bs (pr_ar F pc kd na)) (h2 : (cd_r (pr_q2 F N pc bs kd na) F 0).1 = 1) : pr_nm F N pc bs kd na := by
  refine pr_mknm h hw (fun f hf => ?_)
  have := (cd_r_1 F 0 h2).1 f hf
  rw [Nat.zero_add] at this
  exact this
theorem pr_ok1 (h : pr_in F N pc rt bs kd mk na) (hw : pg_wf F N bs (pr_ar F pc kd na)) (hnm : pr_nm F N pc bs kd na) (h3 : (cd_r (pr_q3 F N pc rt bs kd mk na) F 0).1 = 1) : pr_ok F N pc rt bs kd mk na := by
  refine pr_mk h hw hnm (fun f hf => ?_)
  have := (cd_r_1 F 0 h3).1 f hf
  rw [Nat.zero_add] at this
  exact this
theorem cd_rne {q : Nat → Int32} (hq : ∀ f, q f = 1 ∨ q f = 2 ∨ q f = 3 ∨ q f = 4 ∨ q f = 5) : ∀ t f, (cd_r q t f).1 = 1 ∨ ((cd_r q t f).1 ≠ 1 ∧ (cd_r q t f).1 ≠ 6)
  | 0, _ => Or.inl rfl
  | t + 1, f => by
    rw [cd_r]
    split
    · exact cd_rne hq t (f + 1)
    · rename_i e
      refine Or.inr ⟨e, ?_⟩
      show q f ≠ 6
      rcases hq f with z | z | z | z | z
      · exact absurd z e
      · rw [z]; decide
      · rw [z]; decide
      · rw [z]; decide
      · rw [z]; decide
theorem wx_c53 {post : Int32 → St2 → Prop} (h : pr_in F N pc rt bs kd mk na) (hM : M ≤ 12) (hF : 0 < F) {c ft : Int32} (hp : ∀ tt, post c ((nI M), (nI F), (nI N), c, ft, (pr_bnd M F N pc bs kd na c), f_foundParam, f_foundDrop, f_status, f_calls, f_depth, f_fuelLimit, f_begun, f_beginLimit, f_waitingFunction, f_currentNode, f_valueKnown, f_currentValue, (fun i => nI (pc i)), mk, (fun i => nI (rt i)), (fun i => nI (bs i)), (fun i => nI (kd i)), na, a_parents, a_childIndexes, a_subtreeEnds, a_scopeSizes, a_levelTypes, a_levelParams, a_levelDrops, a_expectedTypes, tt, a_slotTypes, a_slotValues, a_waitingArgs, a_callNodes, a_levelValues, a_nodeValues)) : wX_compile_53 post (nI M) (nI F) (nI N) c ft 0 f_foundParam f_foundDrop f_status f_calls f_depth f_fuelLimit f_begun f_beginLimit f_waitingFunction f_currentNode f_valueKnown f_currentValue (fun i => nI (pc i)) mk (fun i => nI (rt i)) (fun i => nI (bs i)) (fun i => nI (kd i)) na a_parents a_childIndexes a_subtreeEnds a_scopeSizes a_levelTypes a_levelParams a_levelDrops a_expectedTypes a_totals a_slotTypes a_slotValues a_waitingArgs a_callNodes a_levelValues a_nodeValues := by
  unfold pr_bnd at hp
  refine br_c (fun y => ?_) (fun y => ?_)
  · rw [if_pos y] at hp
    exact wx_activationBound (f_code := c) (f_faultFunction := ft) (f_bound := 0) h hM hF hp
  · rw [if_neg y] at hp
    exact hp _
theorem wx_czz {post : Int32 → St2 → Prop} (h : pr_in F N pc rt bs kd mk na) (hM : M ≤ 12) (hF : 0 < F) {c ft x1 : Int32} {fu : Nat} (hc : ¬ c = 1) (hp : ∀ tt, post c ((nI M), (nI F), (nI N), c, ft, (pr_bnd M F N pc bs kd na c), f_foundParam, f_foundDrop, f_status, f_calls, f_depth, f_fuelLimit, f_begun, f_beginLimit, f_waitingFunction, f_currentNode, f_valueKnown, f_currentValue, (fun i => nI (pc i)), mk, (fun i => nI (rt i)), (fun i => nI (bs i)), (fun i => nI (kd i)), na, a_parents, a_childIndexes, a_subtreeEnds, a_scopeSizes, a_levelTypes, a_levelParams, a_levelDrops, a_expectedTypes, tt, a_slotTypes, a_slotValues, a_waitingArgs, a_callNodes, a_levelValues, a_nodeValues)) : wX_compile_29 post (fu + 1) x1 (nI M) (nI F) (nI N) c ft 0 f_foundParam f_foundDrop f_status f_calls f_depth f_fuelLimit f_begun f_beginLimit f_waitingFunction f_currentNode f_valueKnown f_currentValue (fun i => nI (pc i)) mk (fun i => nI (rt i)) (fun i => nI (bs i)) (fun i => nI (kd i)) na a_parents a_childIndexes a_subtreeEnds a_scopeSizes a_levelTypes a_levelParams a_levelDrops a_expectedTypes a_totals a_slotTypes a_slotValues a_waitingArgs a_callNodes a_levelValues a_nodeValues :=
  br_c (fun _ => wx_c53 h hM hF hp) (fun _ => br_f hc (wx_c53 h hM hF hp))
theorem wx_compile {post : Int32 → St2 → Prop} (h : pr_in F N pc rt bs kd mk na) (hM : M ≤ 12) (hp7 : F = 0 → post 7 ((nI M), (nI F), (nI N), 7, (-1), 0, f_foundParam, f_foundDrop, 0, 0, 0, f_fuelLimit, f_begun, f_beginLimit, f_waitingFunction, f_currentNode, f_valueKnown, f_currentValue, (fun i => nI (pc i)), mk, (fun i => nI (rt i)), (fun i => nI (bs i)), (fun i => nI (kd i)), na, a_parents, a_childIndexes, a_subtreeEnds, a_scopeSizes, a_levelTypes, a_levelParams, a_levelDrops, a_expectedTypes, a_totals, a_slotTypes, a_slotValues, a_waitingArgs, a_callNodes, a_levelValues, a_nodeValues))
    (hp : 0 < F → ∀ (a b : Int32) (par cx se sc lt lp ld ets : Nat → Int32) (tt : Nat → Int64), ((pr_res F N pc rt bs kd mk na).1 = 1 ∨ (pr_res F N pc rt bs kd mk na).1 = 6 → rl_laid F N pc rt bs kd mk na par cx se sc) →
      post (pr_res F N pc rt bs kd mk na).1 ((nI M), (nI F), (nI N), ((pr_res F N pc rt bs kd mk na).1), ((pr_res F N pc rt bs kd mk na).2), (pr_bnd M F N pc bs kd na (pr_res F N pc rt bs kd mk na).1), a, b, 0, 0, 0, f_fuelLimit, f_begun, f_beginLimit, f_waitingFunction, f_currentNode, f_valueKnown, f_currentValue, (fun i => nI (pc i)), mk, (fun i => nI (rt i)), (fun i => nI (bs i)), (fun i => nI (kd i)), na, par, cx, se, sc, lt, lp, ld, ets, tt, a_slotTypes, a_slotValues, a_waitingArgs, a_callNodes, a_levelValues, a_nodeValues)) : wpX_compile post ((nI M), (nI F), (nI N), f_code, f_faultFunction, f_bound, f_foundParam, f_foundDrop, f_status, f_calls, f_depth, f_fuelLimit, f_begun, f_beginLimit, f_waitingFunction, f_currentNode, f_valueKnown, f_currentValue, (fun i => nI (pc i)), mk, (fun i => nI (rt i)), (fun i => nI (bs i)), (fun i => nI (kd i)), na, a_parents, a_childIndexes, a_subtreeEnds, a_scopeSizes, a_levelTypes, a_levelParams, a_levelDrops, a_expectedTypes, a_totals, a_slotTypes, a_slotValues, a_waitingArgs, a_callNodes, a_levelValues, a_nodeValues) := by
  have h6 := h.1
  refine pk_eq F 0 (fun z1 => hp7 z1) (fun z1 => ⟨6, ?_⟩)
  have hF : 0 < F := by omega
  have hp := hp hF
  have o1 := cd_rne (q := pr_q1 F N pc bs kd na) (fun f => by
    rcases Classical.em (tr_wf (pr_ar F pc kd na) (bs f) (pg_be F N bs f)) with y | y
    · exact Or.inl (pr_q1_t y)
    · exact Or.inr (Or.inl (pr_q1_f y))) F 0
  have o2 := cd_rne (q := pr_q2 F N pc bs kd na) (fun f => by
    rcases cd_nm_5 (kd := kd) (na := na) (sc := pr_sc F N pc bs kd na) (f := f) (pg_be F N bs f - bs f) (bs f) with y | y | y
    · exact Or.inl y
    · exact Or.inr (Or.inr (Or.inl y))
    · exact Or.inr (Or.inr (Or.inr (Or.inl y)))) F 0
  have o3 := cd_rne (q := pr_q3 F N pc rt bs kd mk na) (fun f => by
    rcases cd_ty_5 (own := pr_ow F N pc rt bs kd mk na) (et := pr_et F N pc rt bs kd mk na) (pg_be F N bs f - bs f) (bs f) with y | y
    · exact Or.inl y
    · exact Or.inr (Or.inr (Or.inr (Or.inr y)))) F 0
  refine br_f (by decide) (br_t rfl ⟨8, wx_cf1 h F 0 8 (by omega) (by omega) (nm_r (e' := 2) rfl ?_)⟩)
  by_cases e1 : (cd_r (pr_q1 F N pc bs kd na) F 0).1 = 1
  · have hw := pr_wf1 h hF e1
    rw [e1, (cd_r_1 F 0 e1).2]
    refine br_f (by decide) (br_t rfl ⟨8, wx_cf2 h hw F 0 8 _ _ _ _ (by omega) (by omega) (fun n hn => ?_) (fun par cx se sc htb => nm_r (e' := 3) rfl ?_)⟩)
    · unfold pr_lim at hn
      rw [if_pos hF, hw.2.2.2.1] at hn
      omega
    by_cases e2 : (cd_r (pr_q2 F N pc bs kd na) F 0).1 = 1
    · have hnm := pr_nm1 h hw e2
      have HT := htb e2
      rw [e2, (cd_r_1 F 0 e2).2]
      refine br_f (by decide) (br_t rfl ⟨8, wx_cf3 (a_parents := par) (a_childIndexes := cx) (a_subtreeEnds := se) (a_scopeSizes := sc) h hw hnm HT F 0 8 _ _ (by omega) (by omega) (fun lt ets => nm_r (e' := 4) rfl ?_)⟩)
      by_cases e3 : (cd_r (pr_q3 F N pc rt bs kd mk na) F 0).1 = 1
      · have hok := pr_ok1 h hw hnm e3
        have er : pr_res F N pc rt bs kd mk na = cd_r (pr_q4 F N pc bs kd na) F 0 := by unfold pr_res; rw [if_pos e1, if_pos e2, if_pos e3]
        rw [er] at hp
        rw [e3, (cd_r_1 F 0 e3).2]
        refine br_f (by decide) (br_t rfl ⟨8, wx_cf4 (a_parents := par) (a_childIndexes := cx) (a_subtreeEnds := se) (a_scopeSizes := sc) (a_levelTypes := lt) (a_expectedTypes := ets) h hw hnm HT F 0 8 _ _ _ _ (by omega) (by omega) (fun a b lp ld => nm_r (e' := 5) rfl ?_)⟩)
        exact br_t (by decide) (wx_c53 h hM hF (fun tt => hp a b par cx se sc lt lp ld ets tt (fun _ => ⟨hF, hok, hnm, HT⟩)))
      · have er : pr_res F N pc rt bs kd mk na = cd_r (pr_q3 F N pc rt bs kd mk na) F 0 := by unfold pr_res; rw [if_pos e1, if_pos e2, if_neg e3]
        rw [er] at hp
        refine wx_czz h hM hF e3 (fun tt => hp _ _ par cx se sc lt _ _ ets tt (fun y => ?_))
        rcases o3 with w | w
        · exact absurd w e3
        · rcases y with y | y
          · exact absurd y w.1
          · exact absurd y w.2
    · have er : pr_res F N pc rt bs kd mk na = cd_r (pr_q2 F N pc bs kd na) F 0 := by unfold pr_res; rw [if_pos e1, if_neg e2]
      rw [er] at hp
      refine wx_czz h hM hF e2 (fun tt => hp _ _ par cx se sc _ _ _ _ tt (fun y => ?_))
      rcases o2 with w | w
      · exact absurd w e2
      · rcases y with y | y
        · exact absurd y w.1
        · exact absurd y w.2
  · have er : pr_res F N pc rt bs kd mk na = cd_r (pr_q1 F N pc bs kd na) F 0 := by unfold pr_res; rw [if_neg e1]
    rw [er] at hp
    refine wx_czz h hM hF e1 (fun tt => hp _ _ _ _ _ _ _ _ _ _ tt (fun y => ?_))
    rcases o1 with w | w
    · exact absurd w e1
    · rcases y with y | y
      · exact absurd y w.1
      · exact absurd y w.2
end
end
section
section
variable {f_sizeCap f_functionCount f_nodeCount f_code f_faultFunction f_foundParam f_foundDrop f_status f_depth f_begun f_beginLimit f_waitingFunction f_currentNode f_valueKnown : Int32} {f_bound f_calls f_fuelLimit f_currentValue : Int64} {a_paramCounts a_listMasks a_resultTypes a_bodyStarts a_nodeKinds a_nodeArgs a_parents a_childIndexes a_subtreeEnds a_scopeSizes a_levelTypes a_levelParams a_levelDrops a_expectedTypes a_slotTypes a_callNodes : Nat → Int32} {a_totals a_slotValues a_waitingArgs a_levelValues a_nodeValues : Nat → Int64}
variable {M F N k : Nat} {pc rt bs kd : Nat → Nat} {mk na : Nat → Int32}
theorem wx_cons {post : Int64 → Prop} {x : Nat} {l : List Nat} (hM : M ≤ 12) (h : vl_ok M l) (hx : x ≤ M) (hp : post (lN (vl_enc (x :: l)))) : wpX_cons post () (lN x) (lN (vl_enc l)) := by
  refine nm_e ?_
  show post _
  rw [vw_len hM h, nI_1, vw_consX hM h hx]
  exact hp
theorem rl_slu (hS : rl_sl M a_slotTypes a_slotValues) {s ty : Nat} {v : Int64} (h1 : ty ≤ 1) (h2 : vl_V M ty v) : rl_sl M (upd a_slotTypes s (nI ty)) (vp_updL a_slotValues s v) := by
  intro i hi
  by_cases e : i = s
  · subst e; exact ⟨ty, h1, pk_us, by rw [pk_uLs]; exact h2⟩
  · rw [pk_un e, pk_uLn e]; exact hS i hi
theorem rl_slv (hS : rl_sl M a_slotTypes a_slotValues) {s : Nat} {v : Int64} (h1 : a_slotTypes s = 1) (h2 : vl_V M 1 v) : rl_sl M a_slotTypes (vp_updL a_slotValues s v) := by
  intro i hi
  by_cases e : i = s
  · subst e; exact ⟨1, by omega, h1, by rw [pk_uLs]; exact h2⟩
  · rw [pk_uLn e]; exact hS i hi
theorem rl_nat {x : Int32} {b : Nat} (hb : b < 2 ^ 31) (h1 : ¬ x < 0) (h2 : x ≤ nI b) : ∃ j, j ≤ b ∧ x = nI j := by
  obtain ⟨j, hj, rfl⟩ := nI_of h1
  exact ⟨j, (nI_leI hj hb).mp h2, rfl⟩
theorem rl_Fm {F : Nat} (hF : 0 < F) : nI F - 1 = nI (F - 1) := pk_sub (b := 1) hF
def rl_fit (mk : Nat → Int32) (f n : Nat) (st : Nat → Int32) : Prop := ∀ i, i < n → st i = nI (pr_pty mk f i)
theorem wx_fit2 {post : Int32 → Prop} (h : pr_in F N pc rt bs kd mk na) {f : Nat} (hf : f < F) (h1 : rl_fit mk f (pc f) a_slotTypes → post 1) (h0 : ¬ rl_fit mk f (pc f) a_slotTypes → post 0) :
    ∀ (r i fu : Nat), i + r = pc f → r < fu → rl_fit mk f i a_slotTypes → wX_inputsFit_2 post (nI f) (nI M) (nI F) (nI N) f_code f_faultFunction f_bound f_foundParam f_foundDrop f_status f_calls f_depth f_fuelLimit f_begun f_beginLimit f_waitingFunction f_currentNode f_valueKnown f_currentValue (fun i => nI (pc i)) mk (fun i => nI (rt i)) (fun i => nI (bs i)) (fun i => nI (kd i)) na a_parents a_childIndexes a_subtreeEnds a_scopeSizes a_levelTypes a_levelParams a_levelDrops a_expectedTypes a_totals a_slotTypes a_slotValues a_waitingArgs a_callNodes a_levelValues a_nodeValues fu (nI i) := by
  have h6 := h.1
  have hp3 := h.2.2.1 f
  have e : (nI f).toNatClampNeg = f := nI_clamp (by omega)
  have hv : vp_in (nI f) 6 := vp_in_nI (by omega) (by omega)
  intro r
  induction r with
  | zero =>
    intro i fu g1 g2 g3
    obtain ⟨fu, rfl⟩ : ∃ f, fu = f + 1 := ⟨fu - 1, by omega⟩
    refine ⟨hv, ?_⟩
    rw [e]
    exact br_t (nI_le (by omega) (by omega)) (h1 (by rw [show pc f = i by omega]; exact g3))
  | succ r ih =>
    intro i fu g1 g2 g3
    obtain ⟨fu, rfl⟩ : ∃ f, fu = f + 1 := ⟨fu - 1, by omega⟩
    have ei : (nI i).toNatClampNeg = i := nI_clamp (by omega)
    refine ⟨hv, ?_⟩
    rw [e, ei]
    refine br_f (nI_ge (by omega) (by omega)) ⟨vp_in_nI (by omega) (by omega), wx_paramType h hf (br_c (fun c => nm_r (nI_1 i) (ih (i + 1) fu (by omega) (by omega) (fun j hj => ?_))) (fun c => h0 (fun y => c (y i (by omega)))))⟩
    rcases Nat.eq_or_lt_of_le (Nat.le_of_lt_succ hj) with z1 | z1
    · subst z1; exact c
    · exact g3 j z1
theorem wx_inputsFit {post : Int32 → Prop} (h : pr_in F N pc rt bs kd mk na) {f : Nat} (hf : f < F) (h1 : rl_fit mk f (pc f) a_slotTypes → post 1) (h0 : ¬ rl_fit mk f (pc f) a_slotTypes → post 0) : wpX_inputsFit post ((nI M), (nI F), (nI N), f_code, f_faultFunction, f_bound, f_foundParam, f_foundDrop, f_status, f_calls, f_depth, f_fuelLimit, f_begun, f_beginLimit, f_waitingFunction, f_currentNode, f_valueKnown, f_currentValue, (fun i => nI (pc i)), mk, (fun i => nI (rt i)), (fun i => nI (bs i)), (fun i => nI (kd i)), na, a_parents, a_childIndexes, a_subtreeEnds, a_scopeSizes, a_levelTypes, a_levelParams, a_levelDrops, a_expectedTypes, a_totals, a_slotTypes, a_slotValues, a_waitingArgs, a_callNodes, a_levelValues, a_nodeValues) (nI f) := by
  have hp3 := h.2.2.1 f
  exact ⟨4, wx_fit2 h hf h1 h0 (pc f) 0 4 (by omega) (by omega) (fun j hj => by omega)⟩
theorem wx_st69 {post : Int32 → St2 → Prop} (h : pr_in F N pc rt bs kd mk na) {f : Nat} (hf : f < F) (hp : ∀ wa, (∀ i, i < pc f → wa i = a_slotValues i) → post 1 ((nI M), (nI F), (nI N), f_code, f_faultFunction, f_bound, f_foundParam, f_foundDrop, 1, f_calls, f_depth, f_fuelLimit, f_begun, f_beginLimit, (nI f), (-1), f_valueKnown, f_currentValue, (fun i => nI (pc i)), mk, (fun i => nI (rt i)), (fun i => nI (bs i)), (fun i => nI (kd i)), na, a_parents, a_childIndexes, a_subtreeEnds, a_scopeSizes, a_levelTypes, a_levelParams, a_levelDrops, a_expectedTypes, a_totals, a_slotTypes, a_slotValues, wa, a_callNodes, a_levelValues, a_nodeValues)) :
    ∀ (r i fu : Nat) (wa : Nat → Int64), i + r = pc f → r < fu → (∀ j, j < i → wa j = a_slotValues j) → wX_start_69 post (nI f) (nI M) (nI F) (nI N) f_code f_faultFunction f_bound f_foundParam f_foundDrop f_status f_calls f_depth f_fuelLimit f_begun f_beginLimit f_waitingFunction f_currentNode f_valueKnown f_currentValue fu (nI i) (fun i => nI (pc i)) mk (fun i => nI (rt i)) (fun i => nI (bs i)) (fun i => nI (kd i)) na a_parents a_childIndexes a_subtreeEnds a_scopeSizes a_levelTypes a_levelParams a_levelDrops a_expectedTypes a_totals a_slotTypes a_slotValues wa a_callNodes a_levelValues a_nodeValues := by
  have h6 := h.1
  have hp3 := h.2.2.1 f
  have e : (nI f).toNatClampNeg = f := nI_clamp (by omega)
  have hv : vp_in (nI f) 6 := vp_in_nI (by omega) (by omega)
  intro r
  induction r with
  | zero =>
    intro i fu wa g1 g2 g3
    obtain ⟨fu, rfl⟩ : ∃ f, fu = f + 1 := ⟨fu - 1, by omega⟩
    refine ⟨hv, ?_⟩
    rw [e]
    exact br_t (nI_le (by omega) (by omega)) (hp wa (fun j hj => g3 j (by omega)))
  | succ r ih =>
    intro i fu wa g1 g2 g3
    obtain ⟨fu, rfl⟩ : ∃ f, fu = f + 1 := ⟨fu - 1, by omega⟩
    have ei : (nI i).toNatClampNeg = i := nI_clamp (by omega)
    have hvi : vp_in (nI i) 3 := vp_in_nI (by omega) (by omega)
    refine ⟨hv, ?_⟩
    rw [e, ei]
    refine br_f (nI_ge (by omega) (by omega)) ⟨hvi, hvi, nm_e (nm_r (nI_1 i) (ih (i + 1) fu _ (by omega) (by omega) (fun j hj => ?_)))⟩
    rcases Nat.eq_or_lt_of_le (Nat.le_of_lt_succ hj) with z1 | z1
    · subst z1; exact pk_uLs
    · rw [pk_uLn (by omega)]; exact g3 j z1
end
end
section
section
variable {f_sizeCap f_functionCount f_nodeCount f_code f_faultFunction f_foundParam f_foundDrop f_status f_depth f_begun f_beginLimit f_waitingFunction f_currentNode f_valueKnown : Int32} {f_bound f_calls f_fuelLimit f_currentValue : Int64} {a_paramCounts a_listMasks a_resultTypes a_bodyStarts a_nodeKinds a_nodeArgs a_parents a_childIndexes a_subtreeEnds a_scopeSizes a_levelTypes a_levelParams a_levelDrops a_expectedTypes a_slotTypes a_callNodes : Nat → Int32} {a_totals a_slotValues a_waitingArgs a_levelValues a_nodeValues : Nat → Int64}
variable {M F N k : Nat} {pc rt bs kd : Nat → Nat} {mk na : Nat → Int32}
variable {Q : Int32 → St2 → Prop} {e n p : Nat}
theorem xm_45 (e : Nat) : (nI (e + 1) - 1) * 45 = nI (45 * e) := by
  rw [nI_pred, show (45 : Int32) = nI 45 from rfl, pk_mul, Nat.mul_comm]
theorem xm_64 (e : Nat) : (nI (e + 1) - 1) * 64 = nI (64 * e) := by
  rw [nI_pred, show (64 : Int32) = nI 64 from rfl, pk_mul, Nat.mul_comm]
theorem xe_var (h : pr_in F N pc rt bs kd mk na) (hn : n < N) (hk : kd n = 0) {x : Nat} (ha : na n = nI x) (hx : x < 45) (he : e < 16) (hp : Q 1 ((nI M), (nI F), (nI N), f_code, f_faultFunction, f_bound, f_foundParam, f_foundDrop, f_status, f_calls, (nI (e + 1)), f_fuelLimit, f_begun, f_beginLimit, f_waitingFunction, (nI n), 1, (a_levelValues (45 * e + x)), (fun i => nI (pc i)), mk, (fun i => nI (rt i)), (fun i => nI (bs i)), (fun i => nI (kd i)), na, a_parents, a_childIndexes, a_subtreeEnds, a_scopeSizes, a_levelTypes, a_levelParams, a_levelDrops, a_expectedTypes, a_totals, a_slotTypes, a_slotValues, a_waitingArgs, a_callNodes, a_levelValues, a_nodeValues)) : wpX_enterNode Q ((nI M), (nI F), (nI N), f_code, f_faultFunction, f_bound, f_foundParam, f_foundDrop, f_status, f_calls, (nI (e + 1)), f_fuelLimit, f_begun, f_beginLimit, f_waitingFunction, (nI n), f_valueKnown, f_currentValue, (fun i => nI (pc i)), mk, (fun i => nI (rt i)), (fun i => nI (bs i)), (fun i => nI (kd i)), na, a_parents, a_childIndexes, a_subtreeEnds, a_scopeSizes, a_levelTypes, a_levelParams, a_levelDrops, a_expectedTypes, a_totals, a_slotTypes, a_slotValues, a_waitingArgs, a_callNodes, a_levelValues, a_nodeValues) := by
  have h64 := h.2.1
  have e1 : (nI n).toNatClampNeg = n := nI_clamp (by omega)
  have hv : vp_in (nI n) 64 := vp_in_nI (by omega) (by omega)
  have e2 : (nI (45 * e + x)).toNatClampNeg = 45 * e + x := nI_clamp (by omega)
  refine nm_r (xm_45 e) ⟨hv, ?_⟩
  rw [e1, ha, nI_add, e2]
  refine nm_r (e' := 0) (congrArg nI hk) (br_f (by decide) (br_f (by decide) (br_t rfl ⟨hv, vp_in_nI (by omega) (by omega), rfl, hp⟩)))
theorem xe_leaf (h : pr_in F N pc rt bs kd mk na) (hn : n < N) (hk : kd n = 1 ∨ kd n = 3) (hp : Q 1 ((nI M), (nI F), (nI N), f_code, f_faultFunction, f_bound, f_foundParam, f_foundDrop, f_status, f_calls, f_depth, f_fuelLimit, f_begun, f_beginLimit, f_waitingFunction, (nI n), 1, 0, (fun i => nI (pc i)), mk, (fun i => nI (rt i)), (fun i => nI (bs i)), (fun i => nI (kd i)), na, a_parents, a_childIndexes, a_subtreeEnds, a_scopeSizes, a_levelTypes, a_levelParams, a_levelDrops, a_expectedTypes, a_totals, a_slotTypes, a_slotValues, a_waitingArgs, a_callNodes, a_levelValues, a_nodeValues)) : wpX_enterNode Q ((nI M), (nI F), (nI N), f_code, f_faultFunction, f_bound, f_foundParam, f_foundDrop, f_status, f_calls, f_depth, f_fuelLimit, f_begun, f_beginLimit, f_waitingFunction, (nI n), f_valueKnown, f_currentValue, (fun i => nI (pc i)), mk, (fun i => nI (rt i)), (fun i => nI (bs i)), (fun i => nI (kd i)), na, a_parents, a_childIndexes, a_subtreeEnds, a_scopeSizes, a_levelTypes, a_levelParams, a_levelDrops, a_expectedTypes, a_totals, a_slotTypes, a_slotValues, a_waitingArgs, a_callNodes, a_levelValues, a_nodeValues) := by
  have h64 := h.2.1
  have e1 : (nI n).toNatClampNeg = n := nI_clamp (by omega)
  refine nm_e ⟨vp_in_nI (by omega) (by omega), ?_⟩
  rw [e1]
  rcases hk with k | k
  · exact nm_r (e' := 1) (congrArg nI k) (br_f (by decide) (br_f (by decide) (br_f (by decide) (br_t rfl ⟨rfl, hp⟩))))
  · exact nm_r (e' := 3) (congrArg nI k) (br_f (by decide) (br_f (by decide) (br_f (by decide) (br_f (by decide) (br_f (by decide) (br_t rfl ⟨rfl, hp⟩))))))
theorem xe_down (h : pr_in F N pc rt bs kd mk na) (hn : n < N) (hk : kd n ≠ 0 ∧ kd n ≠ 1 ∧ kd n ≠ 3) (hp : Q 1 ((nI M), (nI F), (nI N), f_code, f_faultFunction, f_bound, f_foundParam, f_foundDrop, f_status, f_calls, f_depth, f_fuelLimit, f_begun, f_beginLimit, f_waitingFunction, (nI (n + 1)), 0, f_currentValue, (fun i => nI (pc i)), mk, (fun i => nI (rt i)), (fun i => nI (bs i)), (fun i => nI (kd i)), na, a_parents, a_childIndexes, a_subtreeEnds, a_scopeSizes, a_levelTypes, a_levelParams, a_levelDrops, a_expectedTypes, a_totals, a_slotTypes, a_slotValues, a_waitingArgs, a_callNodes, a_levelValues, a_nodeValues)) : wpX_enterNode Q ((nI M), (nI F), (nI N), f_code, f_faultFunction, f_bound, f_foundParam, f_foundDrop, f_status, f_calls, f_depth, f_fuelLimit, f_begun, f_beginLimit, f_waitingFunction, (nI n), f_valueKnown, f_currentValue, (fun i => nI (pc i)), mk, (fun i => nI (rt i)), (fun i => nI (bs i)), (fun i => nI (kd i)), na, a_parents, a_childIndexes, a_subtreeEnds, a_scopeSizes, a_levelTypes, a_levelParams, a_levelDrops, a_expectedTypes, a_totals, a_slotTypes, a_slotValues, a_waitingArgs, a_callNodes, a_levelValues, a_nodeValues) := by
  have h64 := h.2.1
  have h7 := h.2.2.2.2.2.1 n
  have e1 : (nI n).toNatClampNeg = n := nI_clamp (by omega)
  have go : wX_enterNode_93 Q (nI M) (nI F) (nI N) f_code f_faultFunction f_bound f_foundParam f_foundDrop f_status f_calls f_depth f_fuelLimit f_begun f_beginLimit f_waitingFunction (nI n) f_valueKnown f_currentValue (fun i => nI (pc i)) mk (fun i => nI (rt i)) (fun i => nI (bs i)) (fun i => nI (kd i)) na a_parents a_childIndexes a_subtreeEnds a_scopeSizes a_levelTypes a_levelParams a_levelDrops a_expectedTypes a_totals a_slotTypes a_slotValues a_waitingArgs a_callNodes a_levelValues a_nodeValues := by
    unfold wX_enterNode_93
    rw [nI_1]
    exact ⟨rfl, hp⟩
  refine nm_e ⟨vp_in_nI (by omega) (by omega), ?_⟩
  rw [e1]
  refine nm_e (br_f (nI_pos (by omega)) (pk_lt 3 (kd n) (fun _ => go) (fun c => ?_)))
  have k2 : kd n = 2 := by omega
  refine pk_eq (kd n) 0 (fun c => by omega) (fun c => pk_eq (kd n) 1 (fun c => by omega) (fun c => pk_eq (kd n) 2 (fun _ => go) (fun c => by omega)))
-- a value goes up
theorem xh_root (h : pr_in F N pc rt bs kd mk na) (hn : n < N) (hpn : a_parents n = -1) (h0 : e = 0 → Q 0 ((nI M), (nI F), (nI N), f_code, f_faultFunction, f_bound, f_foundParam, f_foundDrop, 2, f_calls, 0, f_fuelLimit, f_begun, f_beginLimit, f_waitingFunction, (nI n), f_valueKnown, f_currentValue, (fun i => nI (pc i)), mk, (fun i => nI (rt i)), (fun i => nI (bs i)), (fun i => nI (kd i)), na, a_parents, a_childIndexes, a_subtreeEnds, a_scopeSizes, a_levelTypes, a_levelParams, a_levelDrops, a_expectedTypes, a_totals, a_slotTypes, a_slotValues, a_waitingArgs, a_callNodes, a_levelValues, a_nodeValues)) (h1 : e ≠ 0 → Q 1 ((nI M), (nI F), (nI N), f_code, f_faultFunction, f_bound, f_foundParam, f_foundDrop, f_status, f_calls, (nI e), f_fuelLimit, f_begun, f_beginLimit, f_waitingFunction, (a_callNodes e), 1, f_currentValue, (fun i => nI (pc i)), mk, (fun i => nI (rt i)), (fun i => nI (bs i)), (fun i => nI (kd i)), na, a_parents, a_childIndexes, a_subtreeEnds, a_scopeSizes, a_levelTypes, a_levelParams, a_levelDrops, a_expectedTypes, a_totals, a_slotTypes, a_slotValues, a_waitingArgs, a_callNodes, a_levelValues, a_nodeValues)) (he : e < 16) : wpX_handValueUp Q ((nI M), (nI F), (nI N), f_code, f_faultFunction, f_bound, f_foundParam, f_foundDrop, f_status, f_calls, (nI (e + 1)), f_fuelLimit, f_begun, f_beginLimit, f_waitingFunction, (nI n), f_valueKnown, f_currentValue, (fun i => nI (pc i)), mk, (fun i => nI (rt i)), (fun i => nI (bs i)), (fun i => nI (kd i)), na, a_parents, a_childIndexes, a_subtreeEnds, a_scopeSizes, a_levelTypes, a_levelParams, a_levelDrops, a_expectedTypes, a_totals, a_slotTypes, a_slotValues, a_waitingArgs, a_callNodes, a_levelValues, a_nodeValues) := by
  have h64 := h.2.1
  have e1 : (nI n).toNatClampNeg = n := nI_clamp (by omega)
  have e2 : (nI e).toNatClampNeg = e := nI_clamp (by omega)
  refine ⟨vp_in_nI (by omega) (by omega), ?_⟩
  rw [e1]
  refine nm_r hpn (br_t rfl (nm_r (nI_pred e) (pk_eq e 0 (fun c => ⟨rfl, rfl, ?_⟩) (fun c => ⟨vp_in_nI he (by omega), ?_⟩))))
  · have := h0 c
    subst c
    exact this
  · rw [e2]
    exact ⟨rfl, rfl, h1 c⟩
theorem xh_succ (h : pr_in F N pc rt bs kd mk na) (hn : n < N) (hpl : p < N) (hpn : a_parents n = nI p) (hk : kd p = 2) (h0 : f_currentValue = (nI M).toInt64 → Q 0 ((nI M), (nI F), (nI N), f_code, f_faultFunction, f_bound, f_foundParam, f_foundDrop, 4, f_calls, f_depth, f_fuelLimit, f_begun, f_beginLimit, f_waitingFunction, (nI n), f_valueKnown, f_currentValue, (fun i => nI (pc i)), mk, (fun i => nI (rt i)), (fun i => nI (bs i)), (fun i => nI (kd i)), na, a_parents, a_childIndexes, a_subtreeEnds, a_scopeSizes, a_levelTypes, a_levelParams, a_levelDrops, a_expectedTypes, a_totals, a_slotTypes, a_slotValues, a_waitingArgs, a_callNodes, a_levelValues, a_nodeValues)) (h1 : ¬ f_currentValue = (nI M).toInt64 → Q 1 ((nI M), (nI F), (nI N), f_code, f_faultFunction, f_bound, f_foundParam, f_foundDrop, f_status, f_calls, f_depth, f_fuelLimit, f_begun, f_beginLimit, f_waitingFunction, (nI p), 1, (f_currentValue + 1), (fun i => nI (pc i)), mk, (fun i => nI (rt i)), (fun i => nI (bs i)), (fun i => nI (kd i)), na, a_parents, a_childIndexes, a_subtreeEnds, a_scopeSizes, a_levelTypes, a_levelParams, a_levelDrops, a_expectedTypes, a_totals, a_slotTypes, a_slotValues, a_waitingArgs, a_callNodes, a_levelValues, a_nodeValues)) : wpX_handValueUp Q ((nI M), (nI F), (nI N), f_code, f_faultFunction, f_bound, f_foundParam, f_foundDrop, f_status, f_calls, f_depth, f_fuelLimit, f_begun, f_beginLimit, f_waitingFunction, (nI n), f_valueKnown, f_currentValue, (fun i => nI (pc i)), mk, (fun i => nI (rt i)), (fun i => nI (bs i)), (fun i => nI (kd i)), na, a_parents, a_childIndexes, a_subtreeEnds, a_scopeSizes, a_levelTypes, a_levelParams, a_levelDrops, a_expectedTypes, a_totals, a_slotTypes, a_slotValues, a_waitingArgs, a_callNodes, a_levelValues, a_nodeValues) := by
  have h64 := h.2.1
  have e1 : (nI n).toNatClampNeg = n := nI_clamp (by omega)
  have e2 : (nI p).toNatClampNeg = p := nI_clamp (by omega)
  refine ⟨vp_in_nI (by omega) (by omega), ?_⟩
  rw [e1]
  refine nm_r hpn (br_f (wx_no p (by omega)) ⟨vp_in_nI (by omega) (by omega), ?_⟩)
  rw [e2]
  refine nm_r (e' := 2) (congrArg nI hk) (br_f (by decide) (br_f (by decide) (br_t rfl ?_)))
  exact br_c (fun c => ⟨rfl, rfl, h0 c⟩) (fun c => ⟨rfl, rfl, h1 c⟩)
theorem xh_cons0 (h : pr_in F N pc rt bs kd mk na) (hn : n < N) (hpl : p < N) (hpn : a_parents n = nI p) (hk : kd p = 4) (he : e < 16) (hc : a_childIndexes n = 0) {q : Nat} (hs : a_subtreeEnds n = nI q) (hp : Q 1 ((nI M), (nI F), (nI N), f_code, f_faultFunction, f_bound, f_foundParam, f_foundDrop, f_status, f_calls, (nI (e + 1)), f_fuelLimit, f_begun, f_beginLimit, f_waitingFunction, (nI q), 0, f_currentValue, (fun i => nI (pc i)), mk, (fun i => nI (rt i)), (fun i => nI (bs i)), (fun i => nI (kd i)), na, a_parents, a_childIndexes, a_subtreeEnds, a_scopeSizes, a_levelTypes, a_levelParams, a_levelDrops, a_expectedTypes, a_totals, a_slotTypes, a_slotValues, a_waitingArgs, a_callNodes, a_levelValues, (vp_updL a_nodeValues (64 * e + n) f_currentValue))) : wpX_handValueUp Q ((nI M), (nI F), (nI N), f_code, f_faultFunction, f_bound, f_foundParam, f_foundDrop, f_status, f_calls, (nI (e + 1)), f_fuelLimit, f_begun, f_beginLimit, f_waitingFunction, (nI n), f_valueKnown, f_currentValue, (fun i => nI (pc i)), mk, (fun i => nI (rt i)), (fun i => nI (bs i)), (fun i => nI (kd i)), na, a_parents, a_childIndexes, a_subtreeEnds, a_scopeSizes, a_levelTypes, a_levelParams, a_levelDrops, a_expectedTypes, a_totals, a_slotTypes, a_slotValues, a_waitingArgs, a_callNodes, a_levelValues, a_nodeValues) := by
  have h64 := h.2.1
  have e1 : (nI n).toNatClampNeg = n := nI_clamp (by omega)
  have e2 : (nI p).toNatClampNeg = p := nI_clamp (by omega)
  have e3 : (nI (64 * e + n)).toNatClampNeg = 64 * e + n := nI_clamp (by omega)
  have hv : vp_in (nI n) 64 := vp_in_nI (by omega) (by omega)
  refine ⟨hv, ?_⟩
  rw [e1]
  refine nm_r hpn (br_f (wx_no p (by omega)) ⟨vp_in_nI (by omega) (by omega), ?_⟩)
  rw [e2]
  refine nm_r (e' := 4) (congrArg nI hk) (br_f (by decide) (br_f (by decide) (br_f (by decide) (br_f (by decide) (br_t rfl ?_)))))
  refine nm_r (xm_64 e) ⟨hv, ?_⟩
  rw [e1, nI_add, e3]
  refine br_t hc ⟨vp_in_nI (by omega) (by omega), nm_e ⟨hv, ?_⟩⟩
  rw [hs]
  exact ⟨rfl, rfl, hp⟩
theorem xh_cons1 (h : pr_in F N pc rt bs kd mk na) (hM : M ≤ 12) (hn : n < N) (hpl : p + 1 < N) (hpn : a_parents n = nI p) (hk : kd p = 4) (he : e < 16) (hc : ¬ a_childIndexes n = 0) {l : List Nat} {x : Nat} (hl : vl_ok M l) (hv1 : f_currentValue = lN (vl_enc l)) (hx : x ≤ M) (hv2 : a_nodeValues (64 * e + (p + 1)) = lN x)
    (h0 : l.length = M → Q 0 ((nI M), (nI F), (nI N), f_code, f_faultFunction, f_bound, f_foundParam, f_foundDrop, 4, f_calls, (nI (e + 1)), f_fuelLimit, f_begun, f_beginLimit, f_waitingFunction, (nI n), f_valueKnown, f_currentValue, (fun i => nI (pc i)), mk, (fun i => nI (rt i)), (fun i => nI (bs i)), (fun i => nI (kd i)), na, a_parents, a_childIndexes, a_subtreeEnds, a_scopeSizes, a_levelTypes, a_levelParams, a_levelDrops, a_expectedTypes, a_totals, a_slotTypes, a_slotValues, a_waitingArgs, a_callNodes, a_levelValues, a_nodeValues)) (h1 : l.length ≠ M → Q 1 ((nI M), (nI F), (nI N), f_code, f_faultFunction, f_bound, f_foundParam, f_foundDrop, f_status, f_calls, (nI (e + 1)), f_fuelLimit, f_begun, f_beginLimit, f_waitingFunction, (nI p), 1, (lN (vl_enc (x :: l))), (fun i => nI (pc i)), mk, (fun i => nI (rt i)), (fun i => nI (bs i)), (fun i => nI (kd i)), na, a_parents, a_childIndexes, a_subtreeEnds, a_scopeSizes, a_levelTypes, a_levelParams, a_levelDrops, a_expectedTypes, a_totals, a_slotTypes, a_slotValues, a_waitingArgs, a_callNodes, a_levelValues, a_nodeValues)) : wpX_handValueUp Q ((nI M), (nI F), (nI N), f_code, f_faultFunction, f_bound, f_foundParam, f_foundDrop, f_status, f_calls, (nI (e + 1)), f_fuelLimit, f_begun, f_beginLimit, f_waitingFunction, (nI n), f_valueKnown, f_currentValue, (fun i => nI (pc i)), mk, (fun i => nI (rt i)), (fun i => nI (bs i)), (fun i => nI (kd i)), na, a_parents, a_childIndexes, a_subtreeEnds, a_scopeSizes, a_levelTypes, a_levelParams, a_levelDrops, a_expectedTypes, a_totals, a_slotTypes, a_slotValues, a_waitingArgs, a_callNodes, a_levelValues, a_nodeValues) := by
  have h64 := h.2.1
  have h12 := hl.1
  have e1 : (nI n).toNatClampNeg = n := nI_clamp (by omega)
  have e2 : (nI p).toNatClampNeg = p := nI_clamp (by omega)
  have e3 : (nI (64 * e + (p + 1))).toNatClampNeg = 64 * e + (p + 1) := nI_clamp (by omega)
  have e4 : nI (64 * e) + nI p + 1 = nI (64 * e + (p + 1)) := by rw [nI_add, nI_1]; rfl
  have hv : vp_in (nI n) 64 := vp_in_nI (by omega) (by omega)
  refine ⟨hv, ?_⟩
  rw [e1]
  refine nm_r hpn (br_f (wx_no p (by omega)) ⟨vp_in_nI (by omega) (by omega), ?_⟩)
  rw [e2]
  refine nm_r (e' := 4) (congrArg nI hk) (br_f (by decide) (br_f (by decide) (br_f (by decide) (br_f (by decide) (br_t rfl ?_)))))
  refine nm_r (xm_64 e) ⟨hv, ?_⟩
  rw [e1, e4, e3]
  refine br_f hc ?_
  show ((f_currentValue &&& 15).toInt32 = nI M → _) ∧ _
  rw [hv1, vw_len hM hl]
  rw [hv1] at h0
  refine pk_eq l.length M (fun c => ⟨rfl, rfl, h0 c⟩) (fun c => ⟨vp_in_nI (by omega) (by omega), ?_⟩)
  rw [hv2]
  exact wx_cons hM hl hx ⟨rfl, rfl, h1 c⟩
theorem xh_case (h : pr_in F N pc rt bs kd mk na) (hn : n < N) (hpl : p < N) (hpn : a_parents n = nI p) (hk : kd p = 6 ∨ kd p = 7) (hp : wpX_handToCase (fun r u => match u with | (f_sizeCap, f_functionCount, f_nodeCount, f_code, f_faultFunction, f_bound, f_foundParam, f_foundDrop, f_status, f_calls, f_depth, f_fuelLimit, f_begun, f_beginLimit, f_waitingFunction, f_currentNode, f_valueKnown, f_currentValue, a_paramCounts, a_listMasks, a_resultTypes, a_bodyStarts, a_nodeKinds, a_nodeArgs, a_parents, a_childIndexes, a_subtreeEnds, a_scopeSizes, a_levelTypes, a_levelParams, a_levelDrops, a_expectedTypes, a_totals, a_slotTypes, a_slotValues, a_waitingArgs, a_callNodes, a_levelValues, a_nodeValues) => (narrow .boolean (.int r) = .int r ∧ (Q r (f_sizeCap, f_functionCount, f_nodeCount, f_code, f_faultFunction, f_bound, f_foundParam, f_foundDrop, f_status, f_calls, f_depth, f_fuelLimit, f_begun, f_beginLimit, f_waitingFunction, f_currentNode, f_valueKnown, f_currentValue, a_paramCounts, a_listMasks, a_resultTypes, a_bodyStarts, a_nodeKinds, a_nodeArgs, a_parents, a_childIndexes, a_subtreeEnds, a_scopeSizes, a_levelTypes, a_levelParams, a_levelDrops, a_expectedTypes, a_totals, a_slotTypes, a_slotValues, a_waitingArgs, a_callNodes, a_levelValues, a_nodeValues)))) ((nI M), (nI F), (nI N), f_code, f_faultFunction, f_bound, f_foundParam, f_foundDrop, f_status, f_calls, f_depth, f_fuelLimit, f_begun, f_beginLimit, f_waitingFunction, (nI n), f_valueKnown, f_currentValue, (fun i => nI (pc i)), mk, (fun i => nI (rt i)), (fun i => nI (bs i)), (fun i => nI (kd i)), na, a_parents, a_childIndexes, a_subtreeEnds, a_scopeSizes, a_levelTypes, a_levelParams, a_levelDrops, a_expectedTypes, a_totals, a_slotTypes, a_slotValues, a_waitingArgs, a_callNodes, a_levelValues, a_nodeValues) (nI p)) : wpX_handValueUp Q ((nI M), (nI F), (nI N), f_code, f_faultFunction, f_bound, f_foundParam, f_foundDrop, f_status, f_calls, f_depth, f_fuelLimit, f_begun, f_beginLimit, f_waitingFunction, (nI n), f_valueKnown, f_currentValue, (fun i => nI (pc i)), mk, (fun i => nI (rt i)), (fun i => nI (bs i)), (fun i => nI (kd i)), na, a_parents, a_childIndexes, a_subtreeEnds, a_scopeSizes, a_levelTypes, a_levelParams, a_levelDrops, a_expectedTypes, a_totals, a_slotTypes, a_slotValues, a_waitingArgs, a_callNodes, a_levelValues, a_nodeValues) := by
  have h64 := h.2.1
  have e1 : (nI n).toNatClampNeg = n := nI_clamp (by omega)
  have e2 : (nI p).toNatClampNeg = p := nI_clamp (by omega)
  refine ⟨vp_in_nI (by omega) (by omega), ?_⟩
  rw [e1]
  refine nm_r hpn (br_f (wx_no p (by omega)) ⟨vp_in_nI (by omega) (by omega), ?_⟩)
  rw [e2]
  rcases hk with k | k
  · exact nm_r (e' := 6) (congrArg nI k) (br_f (by decide) (br_t (by decide) hp))
  · exact nm_r (e' := 7) (congrArg nI k) (br_f (by decide) (br_t (by decide) hp))
theorem xh_case_up (h : pr_in F N pc rt bs kd mk na) (hn : n < N) (hpl : p < N) (hpn : a_parents n = nI p) (hk : kd p = 6 ∨ kd p = 7) (hc : ¬ a_childIndexes n = 0) (hp : Q 1 ((nI M), (nI F), (nI N), f_code, f_faultFunction, f_bound, f_foundParam, f_foundDrop, f_status, f_calls, f_depth, f_fuelLimit, f_begun, f_beginLimit, f_waitingFunction, (nI p), 1, f_currentValue, (fun i => nI (pc i)), mk, (fun i => nI (rt i)), (fun i => nI (bs i)), (fun i => nI (kd i)), na, a_parents, a_childIndexes, a_subtreeEnds, a_scopeSizes, a_levelTypes, a_levelParams, a_levelDrops, a_expectedTypes, a_totals, a_slotTypes, a_slotValues, a_waitingArgs, a_callNodes, a_levelValues, a_nodeValues)) : wpX_handValueUp Q ((nI M), (nI F), (nI N), f_code, f_faultFunction, f_bound, f_foundParam, f_foundDrop, f_status, f_calls, f_depth, f_fuelLimit, f_begun, f_beginLimit, f_waitingFunction, (nI n), f_valueKnown, f_currentValue, (fun i => nI (pc i)), mk, (fun i => nI (rt i)), (fun i => nI (bs i)), (fun i => nI (kd i)), na, a_parents, a_childIndexes, a_subtreeEnds, a_scopeSizes, a_levelTypes, a_levelParams, a_levelDrops, a_expectedTypes, a_totals, a_slotTypes, a_slotValues, a_waitingArgs, a_callNodes, a_levelValues, a_nodeValues) := by
  have h64 := h.2.1
  have e1 : (nI n).toNatClampNeg = n := nI_clamp (by omega)
  refine xh_case h hn hpl hpn hk ⟨vp_in_nI (by omega) (by omega), ?_⟩
  rw [e1]
  exact br_f hc ⟨rfl, rfl, hp⟩
end
end
section
section
variable {f_sizeCap f_functionCount f_nodeCount f_code f_faultFunction f_foundParam f_foundDrop f_status f_depth f_begun f_beginLimit f_waitingFunction f_currentNode f_valueKnown : Int32} {f_bound f_calls f_fuelLimit f_currentValue : Int64} {a_paramCounts a_listMasks a_resultTypes a_bodyStarts a_nodeKinds a_nodeArgs a_parents a_childIndexes a_subtreeEnds a_scopeSizes a_levelTypes a_levelParams a_levelDrops a_expectedTypes a_slotTypes a_callNodes : Nat → Int32} {a_totals a_slotValues a_waitingArgs a_levelValues a_nodeValues : Nat → Int64}
variable {M F N k : Nat} {pc rt bs kd : Nat → Nat} {mk na : Nat → Int32}
variable {Q : Int32 → St2 → Prop} {e n p : Nat}
theorem xc_149 {x2 q : Nat} (hx : x2 < 64) (hs : a_subtreeEnds x2 = nI q) (hp : Q 1 ((nI M), (nI F), (nI N), f_code, f_faultFunction, f_bound, f_foundParam, f_foundDrop, f_status, f_calls, f_depth, f_fuelLimit, f_begun, f_beginLimit, f_waitingFunction, (nI q), 0, f_currentValue, (fun i => nI (pc i)), mk, (fun i => nI (rt i)), (fun i => nI (bs i)), (fun i => nI (kd i)), na, a_parents, a_childIndexes, a_subtreeEnds, a_scopeSizes, a_levelTypes, a_levelParams, a_levelDrops, a_expectedTypes, a_totals, a_slotTypes, a_slotValues, a_waitingArgs, a_callNodes, a_levelValues, a_nodeValues)) : wX_handToCase_149 (fun r u => match u with | (f_sizeCap, f_functionCount, f_nodeCount, f_code, f_faultFunction, f_bound, f_foundParam, f_foundDrop, f_status, f_calls, f_depth, f_fuelLimit, f_begun, f_beginLimit, f_waitingFunction, f_currentNode, f_valueKnown, f_currentValue, a_paramCounts, a_listMasks, a_resultTypes, a_bodyStarts, a_nodeKinds, a_nodeArgs, a_parents, a_childIndexes, a_subtreeEnds, a_scopeSizes, a_levelTypes, a_levelParams, a_levelDrops, a_expectedTypes, a_totals, a_slotTypes, a_slotValues, a_waitingArgs, a_callNodes, a_levelValues, a_nodeValues) => (narrow .boolean (.int r) = .int r ∧ (Q r (f_sizeCap, f_functionCount, f_nodeCount, f_code, f_faultFunction, f_bound, f_foundParam, f_foundDrop, f_status, f_calls, f_depth, f_fuelLimit, f_begun, f_beginLimit, f_waitingFunction, f_currentNode, f_valueKnown, f_currentValue, a_paramCounts, a_listMasks, a_resultTypes, a_bodyStarts, a_nodeKinds, a_nodeArgs, a_parents, a_childIndexes, a_subtreeEnds, a_scopeSizes, a_levelTypes, a_levelParams, a_levelDrops, a_expectedTypes, a_totals, a_slotTypes, a_slotValues, a_waitingArgs, a_callNodes, a_levelValues, a_nodeValues)))) (nI x2) (nI M) (nI F) (nI N) f_code f_faultFunction f_bound f_foundParam f_foundDrop f_status f_calls f_depth f_fuelLimit f_begun f_beginLimit f_waitingFunction f_currentNode f_valueKnown f_currentValue (fun i => nI (pc i)) mk (fun i => nI (rt i)) (fun i => nI (bs i)) (fun i => nI (kd i)) na a_parents a_childIndexes a_subtreeEnds a_scopeSizes a_levelTypes a_levelParams a_levelDrops a_expectedTypes a_totals a_slotTypes a_slotValues a_waitingArgs a_callNodes a_levelValues a_nodeValues := by
  have e1 : (nI x2).toNatClampNeg = x2 := nI_clamp (by omega)
  unfold wX_handToCase_149
  rw [e1, hs]
  exact ⟨vp_in_nI hx (by omega), rfl, rfl, hp⟩
theorem xc_head (h : pr_in F N pc rt bs kd mk na) (hn : n < N) (hpl : p < N) (hpn : a_parents n = nI p) (hk : kd p = 6 ∨ kd p = 7) (hc : a_childIndexes n = 0) {q : Nat} (hs : a_subtreeEnds n = nI q)
    (h6 : kd p = 6 → wX_handToCase_68 (fun r u => match u with | (f_sizeCap, f_functionCount, f_nodeCount, f_code, f_faultFunction, f_bound, f_foundParam, f_foundDrop, f_status, f_calls, f_depth, f_fuelLimit, f_begun, f_beginLimit, f_waitingFunction, f_currentNode, f_valueKnown, f_currentValue, a_paramCounts, a_listMasks, a_resultTypes, a_bodyStarts, a_nodeKinds, a_nodeArgs, a_parents, a_childIndexes, a_subtreeEnds, a_scopeSizes, a_levelTypes, a_levelParams, a_levelDrops, a_expectedTypes, a_totals, a_slotTypes, a_slotValues, a_waitingArgs, a_callNodes, a_levelValues, a_nodeValues) => (narrow .boolean (.int r) = .int r ∧ (Q r (f_sizeCap, f_functionCount, f_nodeCount, f_code, f_faultFunction, f_bound, f_foundParam, f_foundDrop, f_status, f_calls, f_depth, f_fuelLimit, f_begun, f_beginLimit, f_waitingFunction, f_currentNode, f_valueKnown, f_currentValue, a_paramCounts, a_listMasks, a_resultTypes, a_bodyStarts, a_nodeKinds, a_nodeArgs, a_parents, a_childIndexes, a_subtreeEnds, a_scopeSizes, a_levelTypes, a_levelParams, a_levelDrops, a_expectedTypes, a_totals, a_slotTypes, a_slotValues, a_waitingArgs, a_callNodes, a_levelValues, a_nodeValues)))) (nI p) (nI q) 0 f_currentValue.toInt32 (nI M) (nI F) (nI N) f_code f_faultFunction f_bound f_foundParam f_foundDrop f_status f_calls f_depth f_fuelLimit f_begun f_beginLimit f_waitingFunction (nI n) f_valueKnown f_currentValue (fun i => nI (pc i)) mk (fun i => nI (rt i)) (fun i => nI (bs i)) (fun i => nI (kd i)) na a_parents a_childIndexes a_subtreeEnds a_scopeSizes a_levelTypes a_levelParams a_levelDrops a_expectedTypes a_totals a_slotTypes a_slotValues a_waitingArgs a_callNodes a_levelValues a_nodeValues)
    (h7 : kd p = 7 → wX_handToCase_68 (fun r u => match u with | (f_sizeCap, f_functionCount, f_nodeCount, f_code, f_faultFunction, f_bound, f_foundParam, f_foundDrop, f_status, f_calls, f_depth, f_fuelLimit, f_begun, f_beginLimit, f_waitingFunction, f_currentNode, f_valueKnown, f_currentValue, a_paramCounts, a_listMasks, a_resultTypes, a_bodyStarts, a_nodeKinds, a_nodeArgs, a_parents, a_childIndexes, a_subtreeEnds, a_scopeSizes, a_levelTypes, a_levelParams, a_levelDrops, a_expectedTypes, a_totals, a_slotTypes, a_slotValues, a_waitingArgs, a_callNodes, a_levelValues, a_nodeValues) => (narrow .boolean (.int r) = .int r ∧ (Q r (f_sizeCap, f_functionCount, f_nodeCount, f_code, f_faultFunction, f_bound, f_foundParam, f_foundDrop, f_status, f_calls, f_depth, f_fuelLimit, f_begun, f_beginLimit, f_waitingFunction, f_currentNode, f_valueKnown, f_currentValue, a_paramCounts, a_listMasks, a_resultTypes, a_bodyStarts, a_nodeKinds, a_nodeArgs, a_parents, a_childIndexes, a_subtreeEnds, a_scopeSizes, a_levelTypes, a_levelParams, a_levelDrops, a_expectedTypes, a_totals, a_slotTypes, a_slotValues, a_waitingArgs, a_callNodes, a_levelValues, a_nodeValues)))) (nI p) (nI q) 1 ((f_currentValue &&& 15).toInt32) (nI M) (nI F) (nI N) f_code f_faultFunction f_bound f_foundParam f_foundDrop f_status f_calls f_depth f_fuelLimit f_begun f_beginLimit f_waitingFunction (nI n) f_valueKnown f_currentValue (fun i => nI (pc i)) mk (fun i => nI (rt i)) (fun i => nI (bs i)) (fun i => nI (kd i)) na a_parents a_childIndexes a_subtreeEnds a_scopeSizes a_levelTypes a_levelParams a_levelDrops a_expectedTypes a_totals a_slotTypes a_slotValues a_waitingArgs a_callNodes a_levelValues a_nodeValues) : wpX_handValueUp Q ((nI M), (nI F), (nI N), f_code, f_faultFunction, f_bound, f_foundParam, f_foundDrop, f_status, f_calls, f_depth, f_fuelLimit, f_begun, f_beginLimit, f_waitingFunction, (nI n), f_valueKnown, f_currentValue, (fun i => nI (pc i)), mk, (fun i => nI (rt i)), (fun i => nI (bs i)), (fun i => nI (kd i)), na, a_parents, a_childIndexes, a_subtreeEnds, a_scopeSizes, a_levelTypes, a_levelParams, a_levelDrops, a_expectedTypes, a_totals, a_slotTypes, a_slotValues, a_waitingArgs, a_callNodes, a_levelValues, a_nodeValues) := by
  have h64 := h.2.1
  have hk7 := h.2.2.2.2.2.1 p
  have e1 : (nI n).toNatClampNeg = n := nI_clamp (by omega)
  have e2 : (nI p).toNatClampNeg = p := nI_clamp (by omega)
  have hv : vp_in (nI n) 64 := vp_in_nI (by omega) (by omega)
  refine xh_case h hn hpl hpn hk ⟨hv, ?_⟩
  rw [e1, e2, hs]
  refine br_t hc ⟨hv, nm_e ⟨vp_in_nI (by omega) (by omega), pk_eq (kd p) 7 (fun c => br_f (by decide) (h7 c)) (fun c => br_t rfl (h6 (by omega)))⟩⟩
theorem xh_case_z (h : pr_in F N pc rt bs kd mk na) (hn : n < N) (hpl : p < N) (hpn : a_parents n = nI p) (hk : (kd p = 6 ∧ f_currentValue = 0) ∨ (kd p = 7 ∧ f_currentValue = 0)) (hc : a_childIndexes n = 0) {q : Nat} (hs : a_subtreeEnds n = nI q)
    (hp : Q 1 ((nI M), (nI F), (nI N), f_code, f_faultFunction, f_bound, f_foundParam, f_foundDrop, f_status, f_calls, f_depth, f_fuelLimit, f_begun, f_beginLimit, f_waitingFunction, (nI q), 0, f_currentValue, (fun i => nI (pc i)), mk, (fun i => nI (rt i)), (fun i => nI (bs i)), (fun i => nI (kd i)), na, a_parents, a_childIndexes, a_subtreeEnds, a_scopeSizes, a_levelTypes, a_levelParams, a_levelDrops, a_expectedTypes, a_totals, a_slotTypes, a_slotValues, a_waitingArgs, a_callNodes, a_levelValues, a_nodeValues)) : wpX_handValueUp Q ((nI M), (nI F), (nI N), f_code, f_faultFunction, f_bound, f_foundParam, f_foundDrop, f_status, f_calls, f_depth, f_fuelLimit, f_begun, f_beginLimit, f_waitingFunction, (nI n), f_valueKnown, f_currentValue, (fun i => nI (pc i)), mk, (fun i => nI (rt i)), (fun i => nI (bs i)), (fun i => nI (kd i)), na, a_parents, a_childIndexes, a_subtreeEnds, a_scopeSizes, a_levelTypes, a_levelParams, a_levelDrops, a_expectedTypes, a_totals, a_slotTypes, a_slotValues, a_waitingArgs, a_callNodes, a_levelValues, a_nodeValues) := by
  refine xc_head h hn hpl hpn (hk.elim (fun y => Or.inl y.1) (fun y => Or.inr y.1)) hc hs (fun k => br_t ?_ ⟨rfl, rfl, hp⟩) (fun k => br_t ?_ ⟨rfl, rfl, hp⟩)
  · rcases hk with w | w <;> rw [w.2] <;> rfl
  · rcases hk with w | w <;> rw [w.2] <;> rfl
theorem xh_case_N (h : pr_in F N pc rt bs kd mk na) (hn : n < N) (hpl : p < N) (hpn : a_parents n = nI p) (hk : kd p = 6) (hc : a_childIndexes n = 0) {q q2 S v : Nat} (hq : q < 64) (hs : a_subtreeEnds n = nI q) (hs2 : a_subtreeEnds q = nI q2) (hsc : a_scopeSizes p = nI S) (hS : S < 45) (he : e < 16) (hv : v < 1000) (hval : f_currentValue = lN (v + 1))
    (hp : Q 1 ((nI M), (nI F), (nI N), f_code, f_faultFunction, f_bound, f_foundParam, f_foundDrop, f_status, f_calls, (nI (e + 1)), f_fuelLimit, f_begun, f_beginLimit, f_waitingFunction, (nI q2), 0, f_currentValue, (fun i => nI (pc i)), mk, (fun i => nI (rt i)), (fun i => nI (bs i)), (fun i => nI (kd i)), na, a_parents, a_childIndexes, a_subtreeEnds, a_scopeSizes, a_levelTypes, a_levelParams, a_levelDrops, a_expectedTypes, a_totals, a_slotTypes, a_slotValues, a_waitingArgs, a_callNodes, (vp_updL a_levelValues (45 * e + S) (lN v)), a_nodeValues)) : wpX_handValueUp Q ((nI M), (nI F), (nI N), f_code, f_faultFunction, f_bound, f_foundParam, f_foundDrop, f_status, f_calls, (nI (e + 1)), f_fuelLimit, f_begun, f_beginLimit, f_waitingFunction, (nI n), f_valueKnown, f_currentValue, (fun i => nI (pc i)), mk, (fun i => nI (rt i)), (fun i => nI (bs i)), (fun i => nI (kd i)), na, a_parents, a_childIndexes, a_subtreeEnds, a_scopeSizes, a_levelTypes, a_levelParams, a_levelDrops, a_expectedTypes, a_totals, a_slotTypes, a_slotValues, a_waitingArgs, a_callNodes, a_levelValues, a_nodeValues) := by
  have h64 := h.2.1
  have e2 : (nI p).toNatClampNeg = p := nI_clamp (by omega)
  have e3 : (nI (45 * e + S)).toNatClampNeg = 45 * e + S := nI_clamp (by omega)
  refine xc_head h hn hpl hpn (Or.inl hk) hc hs (fun k => ?_) (fun k => by omega)
  have ev : lN (v + 1) - 1 = lN v := by rw [show (1 : Int64) = lN 1 from rfl, lN_sub (by omega)]; rfl
  subst hval
  rw [lN_i]
  refine br_f (nI_ne0 (by omega) (by omega)) ⟨vp_in_nI (by omega) (by omega), ?_⟩
  rw [e2, hsc, xm_45, nI_add, ev]
  refine nm_e (br_t rfl ⟨vp_in_nI (by omega) (by omega), ?_⟩)
  rw [e3]
  exact nm_e (xc_149 hq hs2 hp)
theorem xh_case_L (h : pr_in F N pc rt bs kd mk na) (hM : M ≤ 12) (hn : n < N) (hpl : p < N) (hpn : a_parents n = nI p) (hk : kd p = 7) (hc : a_childIndexes n = 0) {q q2 S x : Nat} {l : List Nat} (hq : q < 64) (hs : a_subtreeEnds n = nI q) (hs2 : a_subtreeEnds q = nI q2) (hsc : a_scopeSizes p = nI S) (hS : S + 1 < 45) (he : e < 16) (hl : vl_ok M (x :: l)) (hval : f_currentValue = lN (vl_enc (x :: l)))
    (hp : Q 1 ((nI M), (nI F), (nI N), f_code, f_faultFunction, f_bound, f_foundParam, f_foundDrop, f_status, f_calls, (nI (e + 1)), f_fuelLimit, f_begun, f_beginLimit, f_waitingFunction, (nI q2), 0, f_currentValue, (fun i => nI (pc i)), mk, (fun i => nI (rt i)), (fun i => nI (bs i)), (fun i => nI (kd i)), na, a_parents, a_childIndexes, a_subtreeEnds, a_scopeSizes, a_levelTypes, a_levelParams, a_levelDrops, a_expectedTypes, a_totals, a_slotTypes, a_slotValues, a_waitingArgs, a_callNodes, (vp_updL (vp_updL a_levelValues (45 * e + S) (lN x)) (45 * e + S + 1) (lN (vl_enc l))), a_nodeValues)) : wpX_handValueUp Q ((nI M), (nI F), (nI N), f_code, f_faultFunction, f_bound, f_foundParam, f_foundDrop, f_status, f_calls, (nI (e + 1)), f_fuelLimit, f_begun, f_beginLimit, f_waitingFunction, (nI n), f_valueKnown, f_currentValue, (fun i => nI (pc i)), mk, (fun i => nI (rt i)), (fun i => nI (bs i)), (fun i => nI (kd i)), na, a_parents, a_childIndexes, a_subtreeEnds, a_scopeSizes, a_levelTypes, a_levelParams, a_levelDrops, a_expectedTypes, a_totals, a_slotTypes, a_slotValues, a_waitingArgs, a_callNodes, a_levelValues, a_nodeValues) := by
  have h64 := h.2.1
  have e2 : (nI p).toNatClampNeg = p := nI_clamp (by omega)
  have e3 : (nI (45 * e + S)).toNatClampNeg = 45 * e + S := nI_clamp (by omega)
  have e4 : (nI (45 * e + S) + 1).toNatClampNeg = 45 * e + S + 1 := by rw [nI_1]; exact nI_clamp (by omega)
  have h12 := hl.1
  simp only [List.length_cons] at h12
  refine xc_head h hn hpl hpn (Or.inr hk) hc hs (fun k => by omega) (fun k => ?_)
  subst hval
  have hlen := vw_len hM hl
  simp only [List.length_cons] at hlen
  rw [hlen]
  refine br_f (nI_ne0 (by omega) (by omega)) ⟨vp_in_nI (by omega) (by omega), ?_⟩
  rw [e2, hsc, xm_45, nI_add]
  refine nm_e (br_f (by decide) ?_)
  show vp_in _ 720 ∧ _
  refine ⟨vp_in_nI (by omega) (by omega), ?_⟩
  rw [e3, e4, vw_head hM hl]
  refine nm_e (nm_e ?_)
  show vp_in _ 720 ∧ _
  refine ⟨by rw [nI_1]; exact vp_in_nI (by omega) (by omega), ?_⟩
  rw [hlen, nI_pred, vw_tailX hM hl]
  exact nm_e (xc_149 hq hs2 hp)
-- activations
/-- k values of src laid into a at the places ix 0, ix 1 .. -/
def rn_wf (a : Nat → Int64) (ix : Nat → Nat) (src : Nat → Int64) : Nat → Nat → Int64
  | 0 => a
  | i + 1 => vp_updL (rn_wf a ix src i) (ix i) (src i)
theorem rn_wf_lo {a : Nat → Int64} {ix : Nat → Nat} {src : Nat → Int64} {t : Nat} : ∀ k, (∀ i, i < k → t ≠ ix i) → rn_wf a ix src k t = a t
  | 0, _ => rfl
  | k + 1, h => by
    rw [rn_wf, pk_uLn (h k (by omega))]
    exact rn_wf_lo k (fun i hi => h i (by omega))
theorem rn_wf_at {a : Nat → Int64} {ix : Nat → Nat} {src : Nat → Int64} (hx : ∀ i j, ix i = ix j → i = j) : ∀ k i, i < k → rn_wf a ix src k (ix i) = src i
  | 0, i, h => by omega
  | k + 1, i, h => by
    rw [rn_wf]
    rcases Nat.eq_or_lt_of_le (Nat.le_of_lt_succ h) with z1 | z1
    · subst z1; exact pk_uLs
    · rw [pk_uLn (fun y => by have := hx i k y; omega)]
      exact rn_wf_at hx k i z1
theorem xb_56 (h : pr_in F N pc rt bs kd mk na) {g d : Nat} (hg : g < F) (hd : d < 16)
    (hp : Q 1 ((nI M), (nI F), (nI N), f_code, f_faultFunction, f_bound, f_foundParam, f_foundDrop, f_status, (f_calls + 1), (nI (d + 1)), f_fuelLimit, (f_begun + 1), f_beginLimit, (nI g), (nI (bs g)), 0, f_currentValue, (fun i => nI (pc i)), mk, (fun i => nI (rt i)), (fun i => nI (bs i)), (fun i => nI (kd i)), na, a_parents, a_childIndexes, a_subtreeEnds, a_scopeSizes, a_levelTypes, a_levelParams, a_levelDrops, a_expectedTypes, a_totals, a_slotTypes, a_slotValues, a_waitingArgs, (upd a_callNodes d f_currentNode), (rn_wf a_levelValues (fun i => 45 * d + i) a_waitingArgs (pc g)), a_nodeValues)) :
    ∀ (r i fu : Nat), i + r = pc g → r < fu → wX_beginActivation_56 Q (nI (45 * d)) (nI M) (nI F) (nI N) f_code f_faultFunction f_bound f_foundParam f_foundDrop f_status f_calls (nI d) f_fuelLimit f_begun f_beginLimit (nI g) f_currentNode f_valueKnown f_currentValue fu (nI i) (fun i => nI (pc i)) mk (fun i => nI (rt i)) (fun i => nI (bs i)) (fun i => nI (kd i)) na a_parents a_childIndexes a_subtreeEnds a_scopeSizes a_levelTypes a_levelParams a_levelDrops a_expectedTypes a_totals a_slotTypes a_slotValues a_waitingArgs a_callNodes (rn_wf a_levelValues (fun i => 45 * d + i) a_waitingArgs i) a_nodeValues := by
  have h6 := h.1
  have hp3 := h.2.2.1 g
  have e1 : (nI g).toNatClampNeg = g := nI_clamp (by omega)
  have e2 : (nI d).toNatClampNeg = d := nI_clamp (by omega)
  have hv : vp_in (nI g) 6 := vp_in_nI (by omega) (by omega)
  intro r
  induction r with
  | zero =>
    intro i fu g1 g2
    obtain ⟨fu, rfl⟩ : ∃ f, fu = f + 1 := ⟨fu - 1, by omega⟩
    have ei : i = pc g := by omega
    subst ei
    refine ⟨hv, ?_⟩
    rw [e1, e2]
    refine br_t (nI_le (Nat.le_refl _) (by omega)) ⟨vp_in_nI hd (by omega), nm_e (nm_e (nm_r (nI_1 d) (nm_e ⟨hv, rfl, hp⟩)))⟩
  | succ r ih =>
    intro i fu g1 g2
    obtain ⟨fu, rfl⟩ : ∃ f, fu = f + 1 := ⟨fu - 1, by omega⟩
    have ei : (nI i).toNatClampNeg = i := nI_clamp (by omega)
    have e3 : (nI (45 * d + i)).toNatClampNeg = 45 * d + i := nI_clamp (by omega)
    refine ⟨hv, ?_⟩
    rw [e1, ei, nI_add, e3]
    exact br_f (nI_ge (by omega) (by omega)) ⟨vp_in_nI (by omega) (by omega), vp_in_nI (by omega) (by omega), nm_e (nm_r (nI_1 i) (ih (i + 1) fu (by omega) (by omega)))⟩
theorem xb_begin (h : pr_in F N pc rt bs kd mk na) {g d : Nat} (hg : g < F) (hd : d ≤ 16)
    (h3 : f_calls = f_fuelLimit → Q 0 ((nI M), (nI F), (nI N), f_code, f_faultFunction, f_bound, f_foundParam, f_foundDrop, 3, f_calls, (nI d), f_fuelLimit, f_begun, f_beginLimit, (nI g), f_currentNode, f_valueKnown, f_currentValue, (fun i => nI (pc i)), mk, (fun i => nI (rt i)), (fun i => nI (bs i)), (fun i => nI (kd i)), na, a_parents, a_childIndexes, a_subtreeEnds, a_scopeSizes, a_levelTypes, a_levelParams, a_levelDrops, a_expectedTypes, a_totals, a_slotTypes, a_slotValues, a_waitingArgs, a_callNodes, a_levelValues, a_nodeValues))
    (h5 : ¬ f_calls = f_fuelLimit → d = 16 → Q 0 ((nI M), (nI F), (nI N), f_code, f_faultFunction, f_bound, f_foundParam, f_foundDrop, 5, f_calls, (nI d), f_fuelLimit, f_begun, f_beginLimit, (nI g), f_currentNode, f_valueKnown, f_currentValue, (fun i => nI (pc i)), mk, (fun i => nI (rt i)), (fun i => nI (bs i)), (fun i => nI (kd i)), na, a_parents, a_childIndexes, a_subtreeEnds, a_scopeSizes, a_levelTypes, a_levelParams, a_levelDrops, a_expectedTypes, a_totals, a_slotTypes, a_slotValues, a_waitingArgs, a_callNodes, a_levelValues, a_nodeValues))
    (hl : ¬ f_calls = f_fuelLimit → d < 16 → f_begun = f_beginLimit → Q 0 ((nI M), (nI F), (nI N), f_code, f_faultFunction, f_bound, f_foundParam, f_foundDrop, f_status, f_calls, (nI d), f_fuelLimit, f_begun, f_beginLimit, (nI g), f_currentNode, f_valueKnown, f_currentValue, (fun i => nI (pc i)), mk, (fun i => nI (rt i)), (fun i => nI (bs i)), (fun i => nI (kd i)), na, a_parents, a_childIndexes, a_subtreeEnds, a_scopeSizes, a_levelTypes, a_levelParams, a_levelDrops, a_expectedTypes, a_totals, a_slotTypes, a_slotValues, a_waitingArgs, a_callNodes, a_levelValues, a_nodeValues))
    (hp : ¬ f_calls = f_fuelLimit → d < 16 → ¬ f_begun = f_beginLimit → Q 1 ((nI M), (nI F), (nI N), f_code, f_faultFunction, f_bound, f_foundParam, f_foundDrop, f_status, (f_calls + 1), (nI (d + 1)), f_fuelLimit, (f_begun + 1), f_beginLimit, (nI g), (nI (bs g)), 0, f_currentValue, (fun i => nI (pc i)), mk, (fun i => nI (rt i)), (fun i => nI (bs i)), (fun i => nI (kd i)), na, a_parents, a_childIndexes, a_subtreeEnds, a_scopeSizes, a_levelTypes, a_levelParams, a_levelDrops, a_expectedTypes, a_totals, a_slotTypes, a_slotValues, a_waitingArgs, (upd a_callNodes d f_currentNode), (rn_wf a_levelValues (fun i => 45 * d + i) a_waitingArgs (pc g)), a_nodeValues)) :
    wpX_beginActivation Q ((nI M), (nI F), (nI N), f_code, f_faultFunction, f_bound, f_foundParam, f_foundDrop, f_status, f_calls, (nI d), f_fuelLimit, f_begun, f_beginLimit, (nI g), f_currentNode, f_valueKnown, f_currentValue, (fun i => nI (pc i)), mk, (fun i => nI (rt i)), (fun i => nI (bs i)), (fun i => nI (kd i)), na, a_parents, a_childIndexes, a_subtreeEnds, a_scopeSizes, a_levelTypes, a_levelParams, a_levelDrops, a_expectedTypes, a_totals, a_slotTypes, a_slotValues, a_waitingArgs, a_callNodes, a_levelValues, a_nodeValues) := by
  have hp3 := h.2.2.1 g
  refine br_c (fun c1 => ⟨rfl, h3 c1⟩) (fun c1 => pk_eq d 16 (fun c2 => ⟨rfl, h5 c1 c2⟩) (fun c2 => br_c (fun c3 => hl c1 (by omega) c3) (fun c3 => nm_r (e' := nI (45 * d)) ?_ ⟨4, ?_⟩)))
  · rw [show (45 : Int32) = nI 45 from rfl, pk_mul, Nat.mul_comm]
  · exact xb_56 h hg (by omega) (hp c1 (by omega) c3) (pc g) 0 4 (by omega) (by omega)
theorem xh_74 (h : pr_in F N pc rt bs kd mk na) (HT : ∀ j, j < N → a_subtreeEnds j = nI (tr_se N (pr_ar F pc kd na) j)) {g : Nat} (hg : g < F) (he : e < 16) (hpl : p < N) (hch : ∀ c, c < pc g → tr_ch N (pr_ar F pc kd na) p c < N)
    (hp : wpX_beginActivation (fun r u => match u with | (f_sizeCap, f_functionCount, f_nodeCount, f_code, f_faultFunction, f_bound, f_foundParam, f_foundDrop, f_status, f_calls, f_depth, f_fuelLimit, f_begun, f_beginLimit, f_waitingFunction, f_currentNode, f_valueKnown, f_currentValue, a_paramCounts, a_listMasks, a_resultTypes, a_bodyStarts, a_nodeKinds, a_nodeArgs, a_parents, a_childIndexes, a_subtreeEnds, a_scopeSizes, a_levelTypes, a_levelParams, a_levelDrops, a_expectedTypes, a_totals, a_slotTypes, a_slotValues, a_waitingArgs, a_callNodes, a_levelValues, a_nodeValues) => (narrow .boolean (.int r) = .int r ∧ (Q r (f_sizeCap, f_functionCount, f_nodeCount, f_code, f_faultFunction, f_bound, f_foundParam, f_foundDrop, f_status, f_calls, f_depth, f_fuelLimit, f_begun, f_beginLimit, f_waitingFunction, f_currentNode, f_valueKnown, f_currentValue, a_paramCounts, a_listMasks, a_resultTypes, a_bodyStarts, a_nodeKinds, a_nodeArgs, a_parents, a_childIndexes, a_subtreeEnds, a_scopeSizes, a_levelTypes, a_levelParams, a_levelDrops, a_expectedTypes, a_totals, a_slotTypes, a_slotValues, a_waitingArgs, a_callNodes, a_levelValues, a_nodeValues)))) ((nI M), (nI F), (nI N), f_code, f_faultFunction, f_bound, f_foundParam, f_foundDrop, f_status, f_calls, f_depth, f_fuelLimit, f_begun, f_beginLimit, (nI g), (nI p), f_valueKnown, f_currentValue, (fun i => nI (pc i)), mk, (fun i => nI (rt i)), (fun i => nI (bs i)), (fun i => nI (kd i)), na, a_parents, a_childIndexes, a_subtreeEnds, a_scopeSizes, a_levelTypes, a_levelParams, a_levelDrops, a_expectedTypes, a_totals, a_slotTypes, a_slotValues, (rn_wf a_waitingArgs (fun i => i) (fun i => a_nodeValues (64 * e + tr_ch N (pr_ar F pc kd na) p i)) (pc g)), a_callNodes, a_levelValues, a_nodeValues)) :
    ∀ (r i fu : Nat), i + r = pc g → r < fu → wX_handToCall_74 Q (nI p) (nI (64 * e)) (nI g) (nI M) (nI F) (nI N) f_code f_faultFunction f_bound f_foundParam f_foundDrop f_status f_calls f_depth f_fuelLimit f_begun f_beginLimit f_waitingFunction f_currentNode f_valueKnown f_currentValue fu (nI (tr_ch N (pr_ar F pc kd na) p i)) (nI i) (fun i => nI (pc i)) mk (fun i => nI (rt i)) (fun i => nI (bs i)) (fun i => nI (kd i)) na a_parents a_childIndexes a_subtreeEnds a_scopeSizes a_levelTypes a_levelParams a_levelDrops a_expectedTypes a_totals a_slotTypes a_slotValues (rn_wf a_waitingArgs (fun i => i) (fun i => a_nodeValues (64 * e + tr_ch N (pr_ar F pc kd na) p i)) i) a_callNodes a_levelValues a_nodeValues := by
  have h6 := h.1
  have h64 := h.2.1
  have hp3 := h.2.2.1 g
  have e1 : (nI g).toNatClampNeg = g := nI_clamp (by omega)
  have hv : vp_in (nI g) 6 := vp_in_nI (by omega) (by omega)
  intro r
  induction r with
  | zero =>
    intro i fu g1 g2
    obtain ⟨fu, rfl⟩ : ∃ f, fu = f + 1 := ⟨fu - 1, by omega⟩
    have ei : i = pc g := by omega
    subst ei
    refine ⟨hv, ?_⟩
    rw [e1]
    exact br_t (nI_le (Nat.le_refl _) (by omega)) hp
  | succ r ih =>
    intro i fu g1 g2
    obtain ⟨fu, rfl⟩ : ∃ f, fu = f + 1 := ⟨fu - 1, by omega⟩
    have hc := hch i (by omega)
    have ei : (nI i).toNatClampNeg = i := nI_clamp (by omega)
    have ec : (nI (tr_ch N (pr_ar F pc kd na) p i)).toNatClampNeg = tr_ch N (pr_ar F pc kd na) p i := nI_clamp (by omega)
    have e3 : (nI (64 * e + tr_ch N (pr_ar F pc kd na) p i)).toNatClampNeg = 64 * e + tr_ch N (pr_ar F pc kd na) p i := nI_clamp (by omega)
    refine ⟨hv, ?_⟩
    rw [e1, ei, ec, nI_add, e3, HT _ hc, ← tr_ch_s]
    exact br_f (nI_ge (by omega) (by omega)) ⟨vp_in_nI (by omega) (by omega), vp_in_nI (by omega) (by omega), nm_e ⟨vp_in_nI (by omega) (by omega), nm_e (nm_r (nI_1 i) (ih (i + 1) fu (by omega) (by omega)))⟩⟩
theorem xh_call (h : pr_in F N pc rt bs kd mk na) (HT : ∀ j, j < N → a_subtreeEnds j = nI (tr_se N (pr_ar F pc kd na) j)) (hn : n < N) (hpl : p < N) (hpn : a_parents n = nI p) (hk : kd p = 5) (he : e < 16) {g c : Nat} (hg : g < F) (hna : na p = nI g) (hch : ∀ c, c < pc g → tr_ch N (pr_ar F pc kd na) p c < N) (hc : a_childIndexes n = nI c) (hc3 : c < 3)
    (hnx : c + 1 < pc g → Q 1 ((nI M), (nI F), (nI N), f_code, f_faultFunction, f_bound, f_foundParam, f_foundDrop, f_status, f_calls, (nI (e + 1)), f_fuelLimit, f_begun, f_beginLimit, f_waitingFunction, (nI (tr_se N (pr_ar F pc kd na) n)), 0, f_currentValue, (fun i => nI (pc i)), mk, (fun i => nI (rt i)), (fun i => nI (bs i)), (fun i => nI (kd i)), na, a_parents, a_childIndexes, a_subtreeEnds, a_scopeSizes, a_levelTypes, a_levelParams, a_levelDrops, a_expectedTypes, a_totals, a_slotTypes, a_slotValues, a_waitingArgs, a_callNodes, a_levelValues, (vp_updL a_nodeValues (64 * e + n) f_currentValue)))
    (hb : pc g ≤ c + 1 → wpX_beginActivation (fun r u => match u with | (f_sizeCap, f_functionCount, f_nodeCount, f_code, f_faultFunction, f_bound, f_foundParam, f_foundDrop, f_status, f_calls, f_depth, f_fuelLimit, f_begun, f_beginLimit, f_waitingFunction, f_currentNode, f_valueKnown, f_currentValue, a_paramCounts, a_listMasks, a_resultTypes, a_bodyStarts, a_nodeKinds, a_nodeArgs, a_parents, a_childIndexes, a_subtreeEnds, a_scopeSizes, a_levelTypes, a_levelParams, a_levelDrops, a_expectedTypes, a_totals, a_slotTypes, a_slotValues, a_waitingArgs, a_callNodes, a_levelValues, a_nodeValues) => (narrow .boolean (.int r) = .int r ∧ (narrow .boolean (.int r) = .int r ∧ (Q r (f_sizeCap, f_functionCount, f_nodeCount, f_code, f_faultFunction, f_bound, f_foundParam, f_foundDrop, f_status, f_calls, f_depth, f_fuelLimit, f_begun, f_beginLimit, f_waitingFunction, f_currentNode, f_valueKnown, f_currentValue, a_paramCounts, a_listMasks, a_resultTypes, a_bodyStarts, a_nodeKinds, a_nodeArgs, a_parents, a_childIndexes, a_subtreeEnds, a_scopeSizes, a_levelTypes, a_levelParams, a_levelDrops, a_expectedTypes, a_totals, a_slotTypes, a_slotValues, a_waitingArgs, a_callNodes, a_levelValues, a_nodeValues))))) ((nI M), (nI F), (nI N), f_code, f_faultFunction, f_bound, f_foundParam, f_foundDrop, f_status, f_calls, (nI (e + 1)), f_fuelLimit, f_begun, f_beginLimit, (nI g), (nI p), f_valueKnown, f_currentValue, (fun i => nI (pc i)), mk, (fun i => nI (rt i)), (fun i => nI (bs i)), (fun i => nI (kd i)), na, a_parents, a_childIndexes, a_subtreeEnds, a_scopeSizes, a_levelTypes, a_levelParams, a_levelDrops, a_expectedTypes, a_totals, a_slotTypes, a_slotValues, (rn_wf a_waitingArgs (fun i => i) (fun i => vp_updL a_nodeValues (64 * e + n) f_currentValue (64 * e + tr_ch N (pr_ar F pc kd na) p i)) (pc g)), a_callNodes, a_levelValues, (vp_updL a_nodeValues (64 * e + n) f_currentValue))) :
    wpX_handValueUp Q ((nI M), (nI F), (nI N), f_code, f_faultFunction, f_bound, f_foundParam, f_foundDrop, f_status, f_calls, (nI (e + 1)), f_fuelLimit, f_begun, f_beginLimit, f_waitingFunction, (nI n), f_valueKnown, f_currentValue, (fun i => nI (pc i)), mk, (fun i => nI (rt i)), (fun i => nI (bs i)), (fun i => nI (kd i)), na, a_parents, a_childIndexes, a_subtreeEnds, a_scopeSizes, a_levelTypes, a_levelParams, a_levelDrops, a_expectedTypes, a_totals, a_slotTypes, a_slotValues, a_waitingArgs, a_callNodes, a_levelValues, a_nodeValues) := by
  have h6 := h.1
  have h64 := h.2.1
  have hp3 := h.2.2.1 g
  have e1 : (nI n).toNatClampNeg = n := nI_clamp (by omega)
  have e2 : (nI p).toNatClampNeg = p := nI_clamp (by omega)
  have e3 : (nI (64 * e + n)).toNatClampNeg = 64 * e + n := nI_clamp (by omega)
  have eg : (nI g).toNatClampNeg = g := nI_clamp (by omega)
  have hv : vp_in (nI n) 64 := vp_in_nI (by omega) (by omega)
  have hvp : vp_in (nI p) 64 := vp_in_nI (by omega) (by omega)
  refine ⟨hv, ?_⟩
  rw [e1]
  refine nm_r hpn (br_f (wx_no p (by omega)) ⟨hvp, ?_⟩)
  rw [e2]
  refine nm_r (e' := 5) (congrArg nI hk) (br_f (by decide) (br_f (by decide) (br_f (by decide) (br_f (by decide) (br_f (by decide) (br_t rfl ?_))))))
  refine nm_r (xm_64 e) ⟨hvp, ?_⟩
  rw [e2, e1]
  refine nm_r hna ?_
  rw [eg, nI_add, e3, hc, nI_1, HT n hn]
  refine ⟨vp_in_nI (by omega) (by omega), nm_e ⟨hv, vp_in_nI (by omega) (by omega), pk_le (pc g) (c + 1) (fun d => ?_) (fun d => ⟨hv, rfl, rfl, hnx d⟩)⟩⟩
  refine nm_r (e' := nI (tr_ch N (pr_ar F pc kd na) p 0)) (by rw [nI_1, tr_ch_0]) ⟨4, ?_⟩
  exact xh_74 (f_depth := nI (e + 1)) (f_currentNode := nI n) (a_nodeValues := vp_updL a_nodeValues (64 * e + n) f_currentValue) h HT hg he hpl hch (hb d) (pc g) 0 4 (by omega) (by omega)
end
end
section
section
def rn_X (post : Int32 → St2 → Prop) (fu i : Nat) (g : Int32) (x : St2) : Prop := match x with
  | (f_sizeCap, f_functionCount, f_nodeCount, f_code, f_faultFunction, f_bound, f_foundParam, f_foundDrop, f_status, f_calls, f_depth, f_fuelLimit, f_begun, f_beginLimit, f_waitingFunction, f_currentNode, f_valueKnown, f_currentValue, a_paramCounts, a_listMasks, a_resultTypes, a_bodyStarts, a_nodeKinds, a_nodeArgs, a_parents, a_childIndexes, a_subtreeEnds, a_scopeSizes, a_levelTypes, a_levelParams, a_levelDrops, a_expectedTypes, a_totals, a_slotTypes, a_slotValues, a_waitingArgs, a_callNodes, a_levelValues, a_nodeValues) => wX_run_37 post fu g (nI i) f_sizeCap f_functionCount f_nodeCount f_code f_faultFunction f_bound f_foundParam f_foundDrop f_status f_calls f_depth f_fuelLimit f_begun f_beginLimit f_waitingFunction f_currentNode f_valueKnown f_currentValue a_paramCounts a_listMasks a_resultTypes a_bodyStarts a_nodeKinds a_nodeArgs a_parents a_childIndexes a_subtreeEnds a_scopeSizes a_levelTypes a_levelParams a_levelDrops a_expectedTypes a_totals a_slotTypes a_slotValues a_waitingArgs a_callNodes a_levelValues a_nodeValues
def rx_k (post : Int32 → St2 → Prop) (fu i : Nat) (g : Int32) (x : St2) : Prop := match x with
  | (f_sizeCap, f_functionCount, f_nodeCount, f_code, f_faultFunction, f_bound, f_foundParam, f_foundDrop, f_status, f_calls, f_depth, f_fuelLimit, f_begun, f_beginLimit, f_waitingFunction, f_currentNode, f_valueKnown, f_currentValue, a_paramCounts, a_listMasks, a_resultTypes, a_bodyStarts, a_nodeKinds, a_nodeArgs, a_parents, a_childIndexes, a_subtreeEnds, a_scopeSizes, a_levelTypes, a_levelParams, a_levelDrops, a_expectedTypes, a_totals, a_slotTypes, a_slotValues, a_waitingArgs, a_callNodes, a_levelValues, a_nodeValues) => ∀ x3 : Int32, x3 = nI i + 1 → wX_run_37 post fu g x3 f_sizeCap f_functionCount f_nodeCount f_code f_faultFunction f_bound f_foundParam f_foundDrop f_status f_calls f_depth f_fuelLimit f_begun f_beginLimit f_waitingFunction f_currentNode f_valueKnown f_currentValue a_paramCounts a_listMasks a_resultTypes a_bodyStarts a_nodeKinds a_nodeArgs a_parents a_childIndexes a_subtreeEnds a_scopeSizes a_levelTypes a_levelParams a_levelDrops a_expectedTypes a_totals a_slotTypes a_slotValues a_waitingArgs a_callNodes a_levelValues a_nodeValues
def rn_st (x : St2) : Int32 := match x with
  | (f_sizeCap, f_functionCount, f_nodeCount, f_code, f_faultFunction, f_bound, f_foundParam, f_foundDrop, f_status, f_calls, f_depth, f_fuelLimit, f_begun, f_beginLimit, f_waitingFunction, f_currentNode, f_valueKnown, f_currentValue, a_paramCounts, a_listMasks, a_resultTypes, a_bodyStarts, a_nodeKinds, a_nodeArgs, a_parents, a_childIndexes, a_subtreeEnds, a_scopeSizes, a_levelTypes, a_levelParams, a_levelDrops, a_expectedTypes, a_totals, a_slotTypes, a_slotValues, a_waitingArgs, a_callNodes, a_levelValues, a_nodeValues) => f_status
theorem rx_of {post : Int32 → St2 → Prop} {fu i : Nat} {g : Int32} : ∀ {x : St2}, rn_X post fu (i + 1) g x → rx_k post fu i g x
  | (f_sizeCap, f_functionCount, f_nodeCount, f_code, f_faultFunction, f_bound, f_foundParam, f_foundDrop, f_status, f_calls, f_depth, f_fuelLimit, f_begun, f_beginLimit, f_waitingFunction, f_currentNode, f_valueKnown, f_currentValue, a_paramCounts, a_listMasks, a_resultTypes, a_bodyStarts, a_nodeKinds, a_nodeArgs, a_parents, a_childIndexes, a_subtreeEnds, a_scopeSizes, a_levelTypes, a_levelParams, a_levelDrops, a_expectedTypes, a_totals, a_slotTypes, a_slotValues, a_waitingArgs, a_callNodes, a_levelValues, a_nodeValues), h => nm_r (nI_1 i) h
theorem rx_end {post : Int32 → St2 → Prop} {fu i : Nat} : ∀ {x : St2}, post (rn_st x) x → rx_k post (fu + 1) i 0 x
  | (f_sizeCap, f_functionCount, f_nodeCount, f_code, f_faultFunction, f_bound, f_foundParam, f_foundDrop, f_status, f_calls, f_depth, f_fuelLimit, f_begun, f_beginLimit, f_waitingFunction, f_currentNode, f_valueKnown, f_currentValue, a_paramCounts, a_listMasks, a_resultTypes, a_bodyStarts, a_nodeKinds, a_nodeArgs, a_parents, a_childIndexes, a_subtreeEnds, a_scopeSizes, a_levelTypes, a_levelParams, a_levelDrops, a_expectedTypes, a_totals, a_slotTypes, a_slotValues, a_waitingArgs, a_callNodes, a_levelValues, a_nodeValues), h => fun x3 _ => br_c (fun _ => h) (fun _ => br_t rfl h)
variable {f_sizeCap f_functionCount f_nodeCount f_code f_faultFunction f_foundParam f_foundDrop f_status f_depth f_begun f_beginLimit f_waitingFunction f_currentNode f_valueKnown : Int32} {f_bound f_calls f_fuelLimit f_currentValue : Int64} {a_paramCounts a_listMasks a_resultTypes a_bodyStarts a_nodeKinds a_nodeArgs a_parents a_childIndexes a_subtreeEnds a_scopeSizes a_levelTypes a_levelParams a_levelDrops a_expectedTypes a_slotTypes a_callNodes : Nat → Int32} {a_totals a_slotValues a_waitingArgs a_levelValues a_nodeValues : Nat → Int64}
theorem rx_en {post : Int32 → St2 → Prop} {fu i : Nat} (hi : i < 500000) (h : wpX_enterNode (rx_k post fu i) (f_sizeCap, f_functionCount, f_nodeCount, f_code, f_faultFunction, f_bound, f_foundParam, f_foundDrop, f_status, f_calls, f_depth, f_fuelLimit, f_begun, f_beginLimit, f_waitingFunction, f_currentNode, 0, f_currentValue, a_paramCounts, a_listMasks, a_resultTypes, a_bodyStarts, a_nodeKinds, a_nodeArgs, a_parents, a_childIndexes, a_subtreeEnds, a_scopeSizes, a_levelTypes, a_levelParams, a_levelDrops, a_expectedTypes, a_totals, a_slotTypes, a_slotValues, a_waitingArgs, a_callNodes, a_levelValues, a_nodeValues)) : rn_X post (fu + 1) i 1 (f_sizeCap, f_functionCount, f_nodeCount, f_code, f_faultFunction, f_bound, f_foundParam, f_foundDrop, f_status, f_calls, f_depth, f_fuelLimit, f_begun, f_beginLimit, f_waitingFunction, f_currentNode, 0, f_currentValue, a_paramCounts, a_listMasks, a_resultTypes, a_bodyStarts, a_nodeKinds, a_nodeArgs, a_parents, a_childIndexes, a_subtreeEnds, a_scopeSizes, a_levelTypes, a_levelParams, a_levelDrops, a_expectedTypes, a_totals, a_slotTypes, a_slotValues, a_waitingArgs, a_callNodes, a_levelValues, a_nodeValues) :=
  br_f (nI_ge (b := 1000000) (by omega) (by decide)) (br_f (by decide) (br_t rfl h))
theorem rx_up {post : Int32 → St2 → Prop} {fu i : Nat} (hi : i < 500000) (h : wpX_handValueUp (rx_k post fu i) (f_sizeCap, f_functionCount, f_nodeCount, f_code, f_faultFunction, f_bound, f_foundParam, f_foundDrop, f_status, f_calls, f_depth, f_fuelLimit, f_begun, f_beginLimit, f_waitingFunction, f_currentNode, 1, f_currentValue, a_paramCounts, a_listMasks, a_resultTypes, a_bodyStarts, a_nodeKinds, a_nodeArgs, a_parents, a_childIndexes, a_subtreeEnds, a_scopeSizes, a_levelTypes, a_levelParams, a_levelDrops, a_expectedTypes, a_totals, a_slotTypes, a_slotValues, a_waitingArgs, a_callNodes, a_levelValues, a_nodeValues)) : rn_X post (fu + 1) i 1 (f_sizeCap, f_functionCount, f_nodeCount, f_code, f_faultFunction, f_bound, f_foundParam, f_foundDrop, f_status, f_calls, f_depth, f_fuelLimit, f_begun, f_beginLimit, f_waitingFunction, f_currentNode, 1, f_currentValue, a_paramCounts, a_listMasks, a_resultTypes, a_bodyStarts, a_nodeKinds, a_nodeArgs, a_parents, a_childIndexes, a_subtreeEnds, a_scopeSizes, a_levelTypes, a_levelParams, a_levelDrops, a_expectedTypes, a_totals, a_slotTypes, a_slotValues, a_waitingArgs, a_callNodes, a_levelValues, a_nodeValues) :=
  br_f (nI_ge (b := 1000000) (by omega) (by decide)) (br_f (by decide) (br_f (by decide) h))
theorem rg_0 {post : Int32 → St2 → Prop} : ∀ {x : St2}, post (rn_st x) x → (match x with | (f_sizeCap, f_functionCount, f_nodeCount, f_code, f_faultFunction, f_bound, f_foundParam, f_foundDrop, f_status, f_calls, f_depth, f_fuelLimit, f_begun, f_beginLimit, f_waitingFunction, f_currentNode, f_valueKnown, f_currentValue, a_paramCounts, a_listMasks, a_resultTypes, a_bodyStarts, a_nodeKinds, a_nodeArgs, a_parents, a_childIndexes, a_subtreeEnds, a_scopeSizes, a_levelTypes, a_levelParams, a_levelDrops, a_expectedTypes, a_totals, a_slotTypes, a_slotValues, a_waitingArgs, a_callNodes, a_levelValues, a_nodeValues) => ∃ n37, wX_run_37 post n37 0 0 f_sizeCap f_functionCount f_nodeCount f_code f_faultFunction f_bound f_foundParam f_foundDrop f_status f_calls f_depth f_fuelLimit f_begun f_beginLimit f_waitingFunction f_currentNode f_valueKnown f_currentValue a_paramCounts a_listMasks a_resultTypes a_bodyStarts a_nodeKinds a_nodeArgs a_parents a_childIndexes a_subtreeEnds a_scopeSizes a_levelTypes a_levelParams a_levelDrops a_expectedTypes a_totals a_slotTypes a_slotValues a_waitingArgs a_callNodes a_levelValues a_nodeValues)
  | (f_sizeCap, f_functionCount, f_nodeCount, f_code, f_faultFunction, f_bound, f_foundParam, f_foundDrop, f_status, f_calls, f_depth, f_fuelLimit, f_begun, f_beginLimit, f_waitingFunction, f_currentNode, f_valueKnown, f_currentValue, a_paramCounts, a_listMasks, a_resultTypes, a_bodyStarts, a_nodeKinds, a_nodeArgs, a_parents, a_childIndexes, a_subtreeEnds, a_scopeSizes, a_levelTypes, a_levelParams, a_levelDrops, a_expectedTypes, a_totals, a_slotTypes, a_slotValues, a_waitingArgs, a_callNodes, a_levelValues, a_nodeValues), h => ⟨1, br_c (fun _ => h) (fun _ => br_t rfl h)⟩
theorem rg_1 {post : Int32 → St2 → Prop} {fu : Nat} : ∀ {x : St2}, rn_X post fu 0 1 x → (match x with | (f_sizeCap, f_functionCount, f_nodeCount, f_code, f_faultFunction, f_bound, f_foundParam, f_foundDrop, f_status, f_calls, f_depth, f_fuelLimit, f_begun, f_beginLimit, f_waitingFunction, f_currentNode, f_valueKnown, f_currentValue, a_paramCounts, a_listMasks, a_resultTypes, a_bodyStarts, a_nodeKinds, a_nodeArgs, a_parents, a_childIndexes, a_subtreeEnds, a_scopeSizes, a_levelTypes, a_levelParams, a_levelDrops, a_expectedTypes, a_totals, a_slotTypes, a_slotValues, a_waitingArgs, a_callNodes, a_levelValues, a_nodeValues) => ∃ n37, wX_run_37 post n37 1 0 f_sizeCap f_functionCount f_nodeCount f_code f_faultFunction f_bound f_foundParam f_foundDrop f_status f_calls f_depth f_fuelLimit f_begun f_beginLimit f_waitingFunction f_currentNode f_valueKnown f_currentValue a_paramCounts a_listMasks a_resultTypes a_bodyStarts a_nodeKinds a_nodeArgs a_parents a_childIndexes a_subtreeEnds a_scopeSizes a_levelTypes a_levelParams a_levelDrops a_expectedTypes a_totals a_slotTypes a_slotValues a_waitingArgs a_callNodes a_levelValues a_nodeValues)
  | (f_sizeCap, f_functionCount, f_nodeCount, f_code, f_faultFunction, f_bound, f_foundParam, f_foundDrop, f_status, f_calls, f_depth, f_fuelLimit, f_begun, f_beginLimit, f_waitingFunction, f_currentNode, f_valueKnown, f_currentValue, a_paramCounts, a_listMasks, a_resultTypes, a_bodyStarts, a_nodeKinds, a_nodeArgs, a_parents, a_childIndexes, a_subtreeEnds, a_scopeSizes, a_levelTypes, a_levelParams, a_levelDrops, a_expectedTypes, a_totals, a_slotTypes, a_slotValues, a_waitingArgs, a_callNodes, a_levelValues, a_nodeValues), h => ⟨fu, h⟩
end
end
section
section
/-- the size of a value of a type -/
def sz_sz (ty : Nat) (v : Int64) : Nat := if ty = 0 then v.toInt32.toNatClampNeg else (v &&& 15).toInt32.toNatClampNeg
theorem sz_nat {k : Nat} (h : k < 2 ^ 31) : sz_sz 0 (lN k) = k := by
  unfold sz_sz
  rw [if_pos rfl, lN_i, nI_clamp h]
theorem sz_list {M ty : Nat} {l : List Nat} (hM : M ≤ 12) (h : vl_ok M l) (ht : ty ≠ 0) : sz_sz ty (lN (vl_enc l)) = l.length := by
  have h1 := h.1
  unfold sz_sz
  rw [if_neg ht, vw_len hM h, nI_clamp (by omega)]
theorem sz_le {M ty : Nat} {v : Int64} (hM : M ≤ 12) (h : vl_V M ty v) : sz_sz ty v ≤ M := by
  by_cases ht : ty = 0
  · obtain ⟨k, hk, rfl⟩ := h.1 ht
    subst ht
    rw [sz_nat (by omega)]; exact hk
  · obtain ⟨l, hl, rfl⟩ := h.2 ht
    rw [sz_list hM hl ht]; exact hl.1
/-- the rank of p sizes in base b, the first weighs most -/
def rk_r (b : Nat) (s : Nat → Nat) : Nat → Nat
  | 0 => 0
  | i + 1 => rk_r b s i * b + s i
theorem rk_lt {b : Nat} {s : Nat → Nat} : ∀ p, (∀ i, i < p → s i < b) → rk_r b s p < b ^ p
  | 0, _ => by simp [rk_r]
  | p + 1, h => by
    have h1 := rk_lt p (fun i hi => h i (by omega))
    have h2 := h p (by omega)
    have h3 : (rk_r b s p + 1) * b ≤ b ^ p * b := Nat.mul_le_mul_right b h1
    rw [rk_r, Nat.pow_succ]
    rw [Nat.add_mul, Nat.one_mul] at h3
    omega
theorem rk_eq {b : Nat} {s s' : Nat → Nat} : ∀ p, (∀ i, i < p → s' i = s i) → rk_r b s' p = rk_r b s p
  | 0, _ => rfl
  | p + 1, h => by rw [rk_r, rk_r, rk_eq p (fun i hi => h i (by omega)), h p (by omega)]
theorem rk_lex {b : Nat} {s s' : Nat → Nat} {i : Nat} (h1 : ∀ j, j < i → s' j = s j) (h2 : s' i < s i) : ∀ d, (∀ j, j < i + 1 + d → s' j < b) → rk_r b s' (i + 1 + d) < rk_r b s (i + 1 + d) := by
  intro d
  induction d with
  | zero =>
    intro _
    rw [Nat.add_zero, rk_r, rk_r, rk_eq i h1]
    omega
  | succ d ih =>
    intro h3
    have h4 := ih (fun j hj => h3 j (by omega))
    have h5 := h3 (i + 1 + d) (by omega)
    rw [← Nat.add_assoc, rk_r, rk_r]
    have h6 : (rk_r b s' (i + 1 + d) + 1) * b ≤ rk_r b s (i + 1 + d) * b := Nat.mul_le_mul_right b h4
    rw [Nat.add_mul, Nat.one_mul] at h6
    omega
-- sums
def ps_s (g : Nat → Nat) : Nat → Nat
  | 0 => 0
  | k + 1 => ps_s g k + g k
theorem ps_le {g h : Nat → Nat} : ∀ k, (∀ i, i < k → g i ≤ h i) → ps_s g k ≤ ps_s h k
  | 0, _ => Nat.le_refl 0
  | k + 1, H => by
    have h1 := ps_le k (fun i hi => H i (by omega))
    have h2 := H k (by omega)
    rw [ps_s, ps_s]; omega
theorem ps_rem {g h : Nat → Nat} {c w : Nat} : ∀ k, (∀ i, i < k → i ≠ c → g i ≤ h i) → c < k → g c + w ≤ h c → ps_s g k + w ≤ ps_s h k
  | 0, _, hc, _ => by omega
  | k + 1, H, hc, hw => by
    rw [ps_s, ps_s]
    rcases Nat.eq_or_lt_of_le (Nat.le_of_lt_succ hc) with e | e
    · subst e
      have := ps_le c (fun i hi => H i (by omega) (by omega))
      omega
    · have h1 := ps_rem k (fun i hi hne => H i (by omega) hne) e hw
      have h2 := H k (by omega) (by omega)
      omega
theorem ps_0 {g : Nat → Nat} : ∀ k, (∀ i, i < k → g i = 0) → ps_s g k = 0
  | 0, _ => rfl
  | k + 1, H => by rw [ps_s, ps_0 k (fun i hi => H i (by omega)), H k (by omega)]
theorem ps_eq {g h : Nat → Nat} (k : Nat) (H : ∀ i, i < k → g i = h i) : ps_s g k = ps_s h k :=
  Nat.le_antisymm (ps_le k (fun i hi => Nat.le_of_eq (H i hi))) (ps_le k (fun i hi => Nat.le_of_eq (H i hi).symm))
-- the powers' sums
theorem bd_S_step (r : Nat) : ∀ n, bd_S r (n + 1) = 1 + r * bd_S r n
  | 0 => by simp [bd_S]
  | n + 1 => by
    have h := bd_S_step r n
    have e1 : bd_S r (n + 1 + 1) = bd_S r (n + 1) + r ^ (n + 1) := rfl
    have e2 : bd_S r (n + 1) = bd_S r n + r ^ n := rfl
    have e3 : r * bd_S r (n + 1) = r * bd_S r n + r * r ^ n := by rw [e2, Nat.mul_add]
    have e4 : r ^ (n + 1) = r * r ^ n := by rw [Nat.pow_succ, Nat.mul_comm]
    rw [e1, e3, e4, h]
    exact Nat.add_assoc _ _ _
theorem bd_S_mono (r : Nat) : ∀ n m, n ≤ m → bd_S r n ≤ bd_S r m := by
  intro n m
  induction m with
  | zero => intro h; rw [show n = 0 by omega]; exact Nat.le_refl _
  | succ m ih =>
    intro h
    rcases Nat.eq_or_lt_of_le h with e | e
    · rw [e]; exact Nat.le_refl _
    · have := ih (by omega)
      rw [bd_S]; omega
/-- one more call of h -/
theorem bd_in_add {cc cc' T : Nat → Nat} {h : Nat} : ∀ k, (∀ g, g ≠ h → cc' g = cc g) → cc' h = cc h + 1 → h < k → bd_in cc' T k = bd_in cc T k + T h := by
  intro k
  induction k with
  | zero => intro _ _ hk; omega
  | succ k ih =>
    intro h1 h2 hk
    rw [bd_in, bd_in]
    rcases Nat.eq_or_lt_of_le (Nat.le_of_lt_succ hk) with e | e
    · subst e
      have : bd_in cc' T h = bd_in cc T h := by
        have key : ∀ j, j ≤ h → bd_in cc' T j = bd_in cc T j := by
          intro j
          induction j with
          | zero => intro _; rfl
          | succ j ihj => intro hj; rw [bd_in, bd_in, ihj (by omega), h1 j (by omega)]
        exact key h (Nat.le_refl _)
      rw [this, h2, Nat.add_mul, Nat.one_mul]
      omega
    · rw [ih h1 h2 e, h1 k (by omega)]
      omega
theorem bd_in_same {cc cc' T : Nat → Nat} : ∀ k, (∀ g, g < k → cc' g = cc g) → bd_in cc' T k = bd_in cc T k
  | 0, _ => rfl
  | k + 1, h => by rw [bd_in, bd_in, bd_in_same k (fun g hg => h g (by omega)), h k (by omega)]
end
end
section
section
theorem ps_split (g : Nat → Nat) (a : Nat) : ∀ b, ps_s g (a + b) = ps_s g a + ps_s (fun i => g (a + i)) b
  | 0 => rfl
  | b + 1 => by
    rw [← Nat.add_assoc, ps_s, ps_split g a b, ps_s]
    omega
theorem ps_front (g : Nat → Nat) (n t : Nat) : ps_s (fun i => g (n + i)) (t + 1) = g n + ps_s (fun i => g (n + 1 + i)) t := by
  rw [Nat.add_comm t 1, ps_split (fun i => g (n + i)) 1 t]
  have h1 : ps_s (fun i => g (n + i)) 1 = g n := by
    show 0 + g (n + 0) = g n
    rw [Nat.zero_add, Nat.add_zero]
  rw [h1]
  exact congrArg (fun q => g n + q) (ps_eq t (fun i _ => by rw [Nat.add_assoc]))
/-- what the call node c still owes: the calls from t on, and those that the node n lies in -/
def po_t (F N : Nat) (bs ar kd ag : Nat → Nat) (w : Nat → Nat) (f n t c : Nat) : Nat := if pg_fn F bs c = f ∧ kd c = 5 ∧ (t ≤ c ∨ (c < n ∧ n < tr_se N ar c)) then w (ag c) else 0
def po_p (F N : Nat) (bs ar kd ag : Nat → Nat) (w : Nat → Nat) (f n t : Nat) : Nat := ps_s (po_t F N bs ar kd ag w f n t) N
variable {F N : Nat} {bs ar kd ag : Nat → Nat} {w : Nat → Nat} {f : Nat}
theorem po_mono {n t n' t' : Nat} (h : ∀ c, c < N → (t' ≤ c ∨ (c < n' ∧ n' < tr_se N ar c)) → (t ≤ c ∨ (c < n ∧ n < tr_se N ar c))) : po_p F N bs ar kd ag w f n' t' ≤ po_p F N bs ar kd ag w f n t := by
  refine ps_le N (fun c hc => ?_)
  unfold po_t
  by_cases h1 : pg_fn F bs c = f ∧ kd c = 5 ∧ (t' ≤ c ∨ (c < n' ∧ n' < tr_se N ar c))
  · rw [if_pos h1, if_pos ⟨h1.1, h1.2.1, h c hc h1.2.2⟩]
    exact Nat.le_refl _
  · rw [if_neg h1]
    exact Nat.zero_le _
theorem po_first {n : Nat} : po_p F N bs ar kd ag w f (n + 1) (n + 1) ≤ po_p F N bs ar kd ag w f n n := by
  refine po_mono (fun c hc h => ?_)
  rcases h with h | ⟨h1, h2⟩
  · exact Or.inl (by omega)
  · rcases Nat.eq_or_lt_of_le (Nat.le_of_lt_succ h1) with e | e
    · exact Or.inl (by omega)
    · exact Or.inr ⟨e, by omega⟩
theorem po_leaf {n : Nat} : po_p F N bs ar kd ag w f n (tr_se N ar n) ≤ po_p F N bs ar kd ag w f n n := by
  refine po_mono (fun c hc h => ?_)
  rcases h with h | h
  · have := tr_se_ge (N := N) (ar := ar) n
    exact Or.inl (by omega)
  · exact Or.inr h
theorem po_up {q p : Nat} (hq : q < N) (hp : tr_pa N ar q = some p) : po_p F N bs ar kd ag w f p (tr_se N ar p) ≤ po_p F N bs ar kd ag w f q (tr_se N ar q) := by
  obtain ⟨g1, g2, g3⟩ := tr_pa_some hp
  have hs := tr_in_se (N := N) (ar := ar) (Nat.le_of_lt g1) g2
  refine po_mono (fun c hc h => ?_)
  rcases h with h | ⟨h1, h2⟩
  · exact Or.inl (by omega)
  · have := tr_in_se (N := N) (ar := ar) (Nat.le_of_lt h1) h2
    exact Or.inr ⟨by omega, by omega⟩
theorem po_anc {q p c : Nat} (hq : q < N) (hp : tr_pa N ar q = some p) (h1 : c < q) (h2 : q < tr_se N ar c) : c ≤ p ∧ p < tr_se N ar c := by
  rcases (tr_an_pa hq hp).mp ⟨Nat.le_of_lt h1, h2⟩ with e | e
  · omega
  · exact e
theorem po_sib {q r p : Nat} (hq : q < N) (hr : r < N) (hp : tr_pa N ar q = some p) (hp' : tr_pa N ar r = some p) (hl : tr_se N ar q ≤ r) : po_p F N bs ar kd ag w f r r ≤ po_p F N bs ar kd ag w f q (tr_se N ar q) := by
  obtain ⟨g1, g2, g3⟩ := tr_pa_some hp
  refine po_mono (fun c hc h => ?_)
  rcases h with h | ⟨h1, h2⟩
  · exact Or.inl (by omega)
  · obtain ⟨a1, a2⟩ := po_anc hr hp' h1 h2
    have := tr_in_se (N := N) (ar := ar) a1 a2
    exact Or.inr ⟨by omega, by omega⟩
/-- the last argument of the call p is known -/
theorem po_wait {q p : Nat} (hq : q < N) (hp : tr_pa N ar q = some p) (hq1 : p + 1 < N) (hp1 : tr_pa N ar (p + 1) = some p) (hl : tr_se N ar q = tr_se N ar p) : po_p F N bs ar kd ag w f (p + 1) (tr_se N ar p) ≤ po_p F N bs ar kd ag w f q (tr_se N ar q) := by
  obtain ⟨g1, g2, g3⟩ := tr_pa_some hp
  refine po_mono (fun c hc h => ?_)
  rcases h with h | ⟨h1, h2⟩
  · exact Or.inl (by omega)
  · obtain ⟨a1, a2⟩ := po_anc hq1 hp1 h1 h2
    have := tr_in_se (N := N) (ar := ar) a1 a2
    exact Or.inr ⟨by omega, by omega⟩
theorem po_begin {p : Nat} (hpN : p < N) (hf : pg_fn F bs p = f) (hk : kd p = 5) (h1 : p + 1 < tr_se N ar p) : po_p F N bs ar kd ag w f p (tr_se N ar p) + w (ag p) ≤ po_p F N bs ar kd ag w f (p + 1) (tr_se N ar p) := by
  refine ps_rem N (fun c hc hne => ?_) hpN ?_
  · unfold po_t
    by_cases hh : pg_fn F bs c = f ∧ kd c = 5 ∧ (tr_se N ar p ≤ c ∨ (c < p ∧ p < tr_se N ar c))
    · rw [if_pos hh]
      have h2 : tr_se N ar p ≤ c ∨ (c < p + 1 ∧ p + 1 < tr_se N ar c) := by
        rcases hh.2.2 with y | ⟨y1, y2⟩
        · exact Or.inl y
        · have := tr_in_se (N := N) (ar := ar) (Nat.le_of_lt y1) y2
          exact Or.inr ⟨by omega, by omega⟩
      rw [if_pos ⟨hh.1, hh.2.1, h2⟩]
      exact Nat.le_refl _
    · rw [if_neg hh]
      exact Nat.zero_le _
  · unfold po_t
    rw [if_neg (by intro y; rcases y.2.2 with y | y <;> omega), if_pos ⟨hf, hk, Or.inr ⟨by omega, h1⟩⟩]
    omega
-- all calls of a body
def po_b (kd ag : Nat → Nat) (w : Nat → Nat) (c : Nat) : Nat := if kd c = 5 then w (ag c) else 0
theorem po_root (h : pg_wf F N bs ar) (hf : f < F) : po_p F N bs ar kd ag w f (bs f) (bs f) ≤ ps_s (fun i => po_b kd ag w (bs f + i)) (pg_be F N bs f - bs f) := by
  have hlt := (h.2.2.2.2 f hf).1
  have hN := pg_lastN h hf
  have zero : ∀ c, c < N → ¬ (bs f ≤ c ∧ c < pg_be F N bs f) → po_t F N bs ar kd ag w f (bs f) (bs f) c = 0 := by
    intro c hc hn
    unfold po_t
    rw [if_neg]
    intro y
    have hb := pg_body h hc
    rw [y.1] at hb
    exact hn ⟨hb.2.1, hb.2.2.1⟩
  unfold po_p
  have e1 : ps_s (po_t F N bs ar kd ag w f (bs f) (bs f)) N = ps_s (po_t F N bs ar kd ag w f (bs f) (bs f)) (bs f + ((pg_be F N bs f - bs f) + (N - pg_be F N bs f))) := congrArg _ (by omega)
  rw [e1, ps_split, ps_split]
  have z1 : ps_s (po_t F N bs ar kd ag w f (bs f) (bs f)) (bs f) = 0 := ps_0 _ (fun i hi => zero i (by omega) (by omega))
  have z2 : ps_s (fun i => po_t F N bs ar kd ag w f (bs f) (bs f) (bs f + (pg_be F N bs f - bs f + i))) (N - pg_be F N bs f) = 0 := ps_0 _ (fun i hi => zero _ (by omega) (by omega))
  rw [z1, z2]
  have le := ps_le (g := fun i => po_t F N bs ar kd ag w f (bs f) (bs f) (bs f + i)) (h := fun i => po_b kd ag w (bs f + i)) (pg_be F N bs f - bs f) (fun i hi => by
    show po_t F N bs ar kd ag w f (bs f) (bs f) (bs f + i) ≤ po_b kd ag w (bs f + i)
    unfold po_t po_b
    by_cases k : kd (bs f + i) = 5
    · rw [if_pos k]
      split
      · exact Nat.le_refl _
      · exact Nat.zero_le _
    · rw [if_neg k, if_neg (fun y => k y.2.1)]
      exact Nat.le_refl _)
  omega
theorem po_cnt {na : Nat → Int32} {T : Nat → Nat} (hT : ∀ g, g < f → w g = T g) : ∀ (t n : Nat), (∀ i, i < t → kd (n + i) = 5 → ag (n + i) ≤ f ∧ na (n + i) = nI (ag (n + i))) → f < 1000 → ps_s (fun i => po_b kd ag w (n + i)) t + 1 = bd_in (fun h => cd_ct kd na h t n) T f + cd_ct kd na f t n * w f := by
  intro t
  induction t with
  | zero =>
    intro n _ _
    have e : ∀ k, bd_in (fun h => cd_ct kd na h 0 n) T k = 1 := by
      intro k
      induction k with
      | zero => rfl
      | succ k ih => rw [bd_in, ih]; show 1 + 0 * T k = 1; omega
    rw [e]
    show 0 + 1 = 1 + 0 * w f
    omega
  | succ t ih =>
    intro n hn hf
    rw [ps_front (po_b kd ag w) n t]
    have i1 := ih (n + 1) (fun i hi k => by
      have := hn (i + 1) (by omega)
      rw [show n + (i + 1) = n + 1 + i by omega] at this
      exact this k) hf
    by_cases k : kd n = 5
    · obtain ⟨a1, a2⟩ := hn 0 (by omega) (by rw [Nat.add_zero]; exact k)
      rw [Nat.add_zero] at a1 a2
      have cq : ∀ h, h < 1000 → (na n = nI h ↔ ag n = h) := fun h hh => by
        rw [a2]
        exact nI_eq (by omega) (by omega)
      have e0 : po_b kd ag w n = w (ag n) := by unfold po_b; rw [if_pos k]
      rw [e0]
      have cs : ∀ h, cd_ct kd na h (t + 1) n = (if kd n = 5 ∧ na n = nI h then 1 else 0) + cd_ct kd na h t (n + 1) := fun h => rfl
      rcases Nat.eq_or_lt_of_le a1 with e | e
      · have c1 : cd_ct kd na f (t + 1) n = cd_ct kd na f t (n + 1) + 1 := by
          rw [cs, if_pos ⟨k, (cq f hf).mpr e⟩, Nat.add_comm]
        have c2 : bd_in (fun h => cd_ct kd na h (t + 1) n) T f = bd_in (fun h => cd_ct kd na h t (n + 1)) T f := bd_in_same f (fun g hg => by
          show cd_ct kd na g (t + 1) n = cd_ct kd na g t (n + 1)
          rw [cs, if_neg (fun y => by have := (cq g (by omega)).mp y.2; omega), Nat.zero_add])
        rw [c1, c2, Nat.add_mul, Nat.one_mul, e]
        omega
      · have c1 : cd_ct kd na f (t + 1) n = cd_ct kd na f t (n + 1) := by
          rw [cs, if_neg (fun y => by have := (cq f hf).mp y.2; omega), Nat.zero_add]
        have c2 : bd_in (fun h => cd_ct kd na h (t + 1) n) T f = bd_in (fun h => cd_ct kd na h t (n + 1)) T f + T (ag n) := by
          have q : bd_in (fun h => if h < f then cd_ct kd na h (t + 1) n else cd_ct kd na h t (n + 1)) T f = bd_in (fun h => cd_ct kd na h t (n + 1)) T f + T (ag n) := by
            refine bd_in_add f (fun g hg => ?_) ?_ e
            · show (if g < f then cd_ct kd na g (t + 1) n else cd_ct kd na g t (n + 1)) = cd_ct kd na g t (n + 1)
              by_cases hgf : g < f
              · rw [if_pos hgf, cs, if_neg (fun y => hg ((cq g (by omega)).mp y.2).symm), Nat.zero_add]
              · rw [if_neg hgf]
            · show (if ag n < f then cd_ct kd na (ag n) (t + 1) n else cd_ct kd na (ag n) t (n + 1)) = cd_ct kd na (ag n) t (n + 1) + 1
              rw [if_pos e, cs, if_pos ⟨k, a2⟩, Nat.add_comm]
          rw [← q]
          exact bd_in_same f (fun g hg => by
            show cd_ct kd na g (t + 1) n = (if g < f then cd_ct kd na g (t + 1) n else cd_ct kd na g t (n + 1))
            rw [if_pos hg])
        rw [c1, c2, ← hT (ag n) e]
        omega
    · have e0 : po_b kd ag w n = 0 := by unfold po_b; rw [if_neg k]
      have cs : ∀ h, cd_ct kd na h (t + 1) n = cd_ct kd na h t (n + 1) := fun h => by
        rw [cd_ct, if_neg (fun y => k y.1), Nat.zero_add]
      rw [e0, bd_in_same (cc := fun h => cd_ct kd na h t (n + 1)) f (fun g _ => cs g), cs f]
      omega
end
end
section
section
/-- the facts of the levels at n hold of the cells: ps j is the size of parameter j -/
def fa_L (N : Nat) (ar kd ag z : Nat → Nat) (pt : Nat → Nat → Nat) (ps : Nat → Nat) (lv : Nat → Int64) (lb n : Nat) : Prop :=
  ∀ x, x < sq_sc N ar kd z n → ∀ j k, fx_l N ar kd ag z n x = some (j, k) → (sz_sz (ty_ty N ar kd z pt n x) (lv (lb + x)) : Int) + k = ps j
/-- the facts of the arguments in hand hold -/
def fa_V (N : Nat) (ar kd ag z : Nat → Nat) (et : Nat → Nat) (ps : Nat → Nat) (nv : Nat → Int64) (nb n : Nat) : Prop :=
  ∀ a p c, tr_an N ar a n → tr_pa N ar a = some p → kd p = 5 → c < tr_ci N ar a → ∀ j k, fx_e N ar kd ag (fx_l N ar kd ag z p) (tr_ch N ar p c) = some (j, k) → (sz_sz (et (tr_ch N ar p c)) (nv (nb + tr_ch N ar p c)) : Int) + k = ps j
/-- the fact of node n holds of its value v -/
def fa_K (N : Nat) (ar kd ag z : Nat → Nat) (et : Nat → Nat) (ps : Nat → Nat) (n : Nat) (v : Int64) : Prop :=
  ∀ j k, fx_e N ar kd ag (fx_l N ar kd ag z n) n = some (j, k) → (sz_sz (et n) v : Int) + k = ps j
variable {F N M : Nat} {bs ar kd ag z rt : Nat → Nat} {pt gt : Nat → Nat → Nat} {et ps : Nat → Nat} {lv nv lv' nv' : Nat → Int64} {lb nb n : Nat} {v : Int64}
theorem fa_L_fr (h : fa_L N ar kd ag z pt ps lv lb n) (e : ∀ x, x < sq_sc N ar kd z n → lv' (lb + x) = lv (lb + x)) : fa_L N ar kd ag z pt ps lv' lb n := by
  intro x hx j k hf
  rw [e x hx]
  exact h x hx j k hf
theorem fa_V_fr (hw : pg_wf F N bs ar) (hn : n < N) (h : fa_V N ar kd ag z et ps nv nb n) (e : ∀ m, m < n → nv' (nb + m) = nv (nb + m)) : fa_V N ar kd ag z et ps nv' nb n := by
  intro a p c ha hp hk hc j k hf
  have haN : a < N := Nat.lt_of_le_of_lt ha.1 hn
  have hl : tr_ch N ar p c < a := by
    rcases pg_case hw haN with ⟨g1, _⟩ | ⟨p', g1, g2, g3, g4, g5, g6⟩
    · rw [hp] at g1; cases g1
    · rw [hp] at g1
      cases g1
      have a1 := pg_ch hw (n := p) (c := c) (by omega) (by omega)
      have a2 := tr_se_gt (N := N) (ar := ar) a1.1
      rw [← tr_ch_s] at a2
      have a3 := tr_ch_le (N := N) (ar := ar) p (c + 1) (tr_ci N ar a) (by omega)
      omega
  rw [e _ (by have := ha.1; omega)]
  exact h a p c ha hp hk hc j k hf
theorem fa_L_up {q p : Nat} (hp : tr_pa N ar q = some p) (h : fa_L N ar kd ag z pt ps lv lb q) : fa_L N ar kd ag z pt ps lv lb p := by
  intro x hx j k hf
  have hs := sq_some (kd := kd) (z := z) hp
  have e1 : fx_l N ar kd ag z q x = fx_l N ar kd ag z p x := by
    by_cases hc : sq_cv N ar kd p q = 0
    · rw [fx_l_0 hp hc]
    · rw [fx_l_s hp hc, if_neg (by omega), if_neg (by omega)]
  have := h x (by omega) j k (by rw [e1]; exact hf)
  rw [ty_pa hp hx] at this
  exact this
theorem fa_V_up {q p : Nat} (hq : q < N) (hp : tr_pa N ar q = some p) (h : fa_V N ar kd ag z et ps nv nb q) : fa_V N ar kd ag z et ps nv nb p :=
  fun a b c ha hb hk hc j k hf => h a b c ((tr_an_pa hq hp).mpr (Or.inr ha)) hb hk hc j k hf
/-- into a child that binds nothing -/
theorem fa_L_dn {q p : Nat} (hp : tr_pa N ar q = some p) (hc : sq_cv N ar kd p q = 0) (h : fa_L N ar kd ag z pt ps lv lb p) : fa_L N ar kd ag z pt ps lv lb q := by
  intro x hx j k hf
  rw [sq_some hp, hc, Nat.add_zero] at hx
  rw [fx_l_0 hp hc] at hf
  rw [ty_some hp, if_pos hc]
  exact h x hx j k hf
theorem fa_V_dn {q p : Nat} (hq : q < N) (hp : tr_pa N ar q = some p) (h : fa_V N ar kd ag z et ps nv nb p)
    (hv : kd p = 5 → ∀ c, c < tr_ci N ar q → ∀ j k, fx_e N ar kd ag (fx_l N ar kd ag z p) (tr_ch N ar p c) = some (j, k) → (sz_sz (et (tr_ch N ar p c)) (nv (nb + tr_ch N ar p c)) : Int) + k = ps j) : fa_V N ar kd ag z et ps nv nb q := by
  intro a b c ha hb hk hc j k hf
  rcases (tr_an_pa hq hp).mp ha with e | e
  · subst e
    rw [hp] at hb
    cases hb
    exact hv hk c hc j k hf
  · exact h a b c e hb hk hc j k hf
theorem fa_root {r : Nat} (hr : r < N) (hp : tr_pa N ar r = none) (h : ∀ x, x < z r → sz_sz (pt r x) (lv (lb + x)) = ps x) : fa_L N ar kd ag z pt ps lv lb r ∧ fa_V N ar kd ag z et ps nv nb r := by
  refine ⟨fun x hx j k hf => ?_, fun a b c ha hb => ?_⟩
  · rw [sq_none hp] at hx
    rw [fx_l_none hp, if_pos hx] at hf
    cases hf
    rw [ty_none hp, h x hx]
    omega
  · rw [(tr_an_root hr hp).mp ha, hp] at hb
    cases hb
-- values
theorem fa_var (hcl : fx_cl N ar kd) (hn : n < N) (hk : kd n = 0) (hx : ag n < sq_sc N ar kd z n) (het : et n = ty_ty N ar kd z pt n (ag n)) (h : fa_L N ar kd ag z pt ps lv lb n) : fa_K N ar kd ag z et ps n (lv (lb + ag n)) := by
  intro j k hf
  rw [fx_e_u hcl _ hn, if_pos hk] at hf
  rw [het]
  exact h (ag n) hx j k hf
theorem fa_no (hcl : fx_cl N ar kd) (hn : n < N) (hk : kd n ≠ 0 ∧ kd n ≠ 2 ∧ kd n ≠ 4) : fa_K N ar kd ag z et ps n v := by
  intro j k hf
  rw [fx_e_u hcl _ hn, if_neg hk.1, if_neg hk.2.1, if_neg hk.2.2] at hf
  cases hf
/-- a value of a SUCC or CONS: one more than its child's -/
theorem fa_grow (hcl : fx_cl N ar kd) {q p : Nat} {v' : Int64} (hpN : p < N) (hp : tr_pa N ar q = some p) (hk : (kd p = 2 ∧ q = p + 1) ∨ (kd p = 4 ∧ q = tr_ch N ar p 1)) (hs : sz_sz (et p) v' = sz_sz (et q) v + 1) (h : fa_K N ar kd ag z et ps q v) : fa_K N ar kd ag z et ps p v' := by
  intro j k hf
  have hcv : sq_cv N ar kd p q = 0 := sq_cv0 (Or.inr (by rcases hk with ⟨y, _⟩ | ⟨y, _⟩ <;> exact ⟨by omega, by omega⟩))
  have el : fx_l N ar kd ag z q = fx_l N ar kd ag z p := fx_l_0 hp hcv
  unfold fa_K at h
  rw [el] at h
  rw [fx_e_u hcl _ hpN] at hf
  have hf' : fx_sh (-1) (fx_e N ar kd ag (fx_l N ar kd ag z p) q) = some (j, k) := by
    rcases hk with ⟨y, yq⟩ | ⟨y, yq⟩
    · rw [if_neg (by omega), if_pos y, ← yq] at hf; exact hf
    · rw [if_neg (by omega), if_neg (by omega), if_pos y, ← yq] at hf; exact hf
  cases ho : fx_e N ar kd ag (fx_l N ar kd ag z p) q with
  | none => rw [ho] at hf'; cases hf'
  | some o =>
    obtain ⟨j0, k0⟩ := o
    rw [ho] at hf'
    have := h j0 k0 ho
    cases hf'
    rw [hs]
    omega
/-- into the child that binds: a case of a number -/
theorem fa_L_nat {q p : Nat} {w : Int64} (hcl : fx_cl N ar kd) (h1N : p + 1 < N) (hp : tr_pa N ar q = some p) (hp1 : tr_pa N ar (p + 1) = some p) (hc1 : sq_cv N ar kd p (p + 1) = 0) (hc : sq_cv N ar kd p q = 1) (h : fa_L N ar kd ag z pt ps lv lb p) (hK : fa_K N ar kd ag z et ps (p + 1) v) (hs : sz_sz (et (p + 1)) v = sz_sz 0 w + 1) :
    fa_L N ar kd ag z pt ps (vp_updL lv (lb + sq_sc N ar kd z p) w) lb q := by
  intro x hx j k hf
  rw [sq_some hp, hc] at hx
  rw [fx_l_s hp (by omega)] at hf
  rw [ty_some hp, if_neg (by omega)]
  have el : fx_l N ar kd ag z (p + 1) = fx_l N ar kd ag z p := fx_l_0 hp1 hc1
  unfold fa_K at hK
  rw [el] at hK
  rcases (show x = sq_sc N ar kd z p ∨ x < sq_sc N ar kd z p by omega) with e | e
  · rw [if_pos e, if_pos hc] at hf
    show (sz_sz (if x = sq_sc N ar kd z p then 0 else if x = sq_sc N ar kd z p + 1 then 1 else ty_ty N ar kd z pt p x) _ : Int) + k = ps j
    rw [if_pos e, e, pk_uLs]
    cases ho : fx_e N ar kd ag (fx_l N ar kd ag z p) (p + 1) with
    | none => rw [ho] at hf; cases hf
    | some o =>
      obtain ⟨j0, k0⟩ := o
      rw [ho] at hf
      have := hK j0 k0 ho
      cases hf
      rw [hs] at this
      omega
  · rw [if_neg (by omega), if_neg (by omega)] at hf
    show (sz_sz (if x = sq_sc N ar kd z p then 0 else if x = sq_sc N ar kd z p + 1 then 1 else ty_ty N ar kd z pt p x) _ : Int) + k = ps j
    rw [if_neg (by omega), if_neg (by omega), pk_uLn (by omega)]
    exact h x e j k hf
theorem fa_L_list {q p : Nat} {w w' : Int64} (hcl : fx_cl N ar kd) (h1N : p + 1 < N) (hp : tr_pa N ar q = some p) (hp1 : tr_pa N ar (p + 1) = some p) (hc1 : sq_cv N ar kd p (p + 1) = 0) (hc : sq_cv N ar kd p q = 2) (h : fa_L N ar kd ag z pt ps lv lb p) (hK : fa_K N ar kd ag z et ps (p + 1) v) (hs : sz_sz (et (p + 1)) v = sz_sz 1 w' + 1) :
    fa_L N ar kd ag z pt ps (vp_updL (vp_updL lv (lb + sq_sc N ar kd z p) w) (lb + sq_sc N ar kd z p + 1) w') lb q := by
  intro x hx j k hf
  rw [sq_some hp, hc] at hx
  rw [fx_l_s hp (by omega)] at hf
  rw [ty_some hp, if_neg (by omega)]
  have el : fx_l N ar kd ag z (p + 1) = fx_l N ar kd ag z p := fx_l_0 hp1 hc1
  unfold fa_K at hK
  rw [el] at hK
  rcases (show x = sq_sc N ar kd z p ∨ x = sq_sc N ar kd z p + 1 ∨ x < sq_sc N ar kd z p by omega) with e | e | e
  · rw [if_pos e, if_neg (by omega)] at hf
    cases hf
  · rw [if_neg (by omega), if_pos e] at hf
    show (sz_sz (if x = sq_sc N ar kd z p then 0 else if x = sq_sc N ar kd z p + 1 then 1 else ty_ty N ar kd z pt p x) _ : Int) + k = ps j
    rw [if_neg (by omega), if_pos e, e, ← Nat.add_assoc, pk_uLs]
    cases ho : fx_e N ar kd ag (fx_l N ar kd ag z p) (p + 1) with
    | none => rw [ho] at hf; cases hf
    | some o =>
      obtain ⟨j0, k0⟩ := o
      rw [ho] at hf
      have := hK j0 k0 ho
      cases hf
      rw [hs] at this
      omega
  · rw [if_neg (by omega), if_neg (by omega)] at hf
    show (sz_sz (if x = sq_sc N ar kd z p then 0 else if x = sq_sc N ar kd z p + 1 then 1 else ty_ty N ar kd z pt p x) _ : Int) + k = ps j
    rw [if_neg (by omega), if_neg (by omega), pk_uLn (by omega), pk_uLn (by omega)]
    exact h x e j k hf
-- the parameter that a fact names
theorem fx_sh_j {d : Int} {o : Option (Nat × Int)} {j : Nat} {k : Int} (h : fx_sh d o = some (j, k)) : ∃ k', o = some (j, k') := by
  cases o with
  | none => cases h
  | some a =>
    obtain ⟨j0, k0⟩ := a
    cases h
    exact ⟨k0, rfl⟩
theorem fx_ex_j {g : Nat → Option (Nat × Int)} {B : Nat} (hg : ∀ x j k, g x = some (j, k) → j < B) : ∀ t c j k, fx_ex N ar kd ag g t c = some (j, k) → j < B := by
  intro t
  induction t with
  | zero => intro c j k h; cases h
  | succ t ih =>
    intro c j k h
    rw [fx_ex] at h
    split at h
    · exact hg _ _ _ h
    · split at h
      · obtain ⟨k', h'⟩ := fx_sh_j h
        exact ih _ _ _ h'
      · split at h
        · obtain ⟨k', h'⟩ := fx_sh_j h
          exact ih _ _ _ h'
        · cases h
theorem fx_l_j (hz : ∀ j, z j ≤ 3) : ∀ n x j k, fx_l N ar kd ag z n x = some (j, k) → j < 3 := by
  intro n
  induction n using Nat.strongRecOn with
  | _ n ih =>
    intro x j k h
    cases hp : tr_pa N ar n with
    | none =>
      rw [fx_l_none hp] at h
      split at h
      · rename_i y
        have := hz n
        cases h
        omega
      · cases h
    | some p =>
      have hl := (tr_pa_some hp).1
      by_cases hc : sq_cv N ar kd p n = 0
      · rw [fx_l_0 hp hc] at h
        exact ih p hl x j k h
      · rw [fx_l_s hp hc] at h
        have ee : ∀ j k, fx_sh 1 (fx_e N ar kd ag (fx_l N ar kd ag z p) (p + 1)) = some (j, k) → j < 3 := fun j k h => by
          obtain ⟨k', h'⟩ := fx_sh_j h
          exact fx_ex_j (fun x j k h => ih p hl x j k h) _ _ _ _ h'
        split at h
        · split at h
          · exact ee j k h
          · cases h
        · split at h
          · exact ee j k h
          · exact ih p hl x j k h
theorem fx_e_j (hz : ∀ j, z j ≤ 3) {n c j : Nat} {k : Int} (h : fx_e N ar kd ag (fx_l N ar kd ag z n) c = some (j, k)) : j < 3 :=
  fx_ex_j (fun x j k h => fx_l_j hz n x j k h) _ _ _ _ h
-- a call that descends has arguments of a smaller rank
theorem cd_dn_true {o : Nat → Option (Nat × Int)} {s s' : Nat → Nat} {b p : Nat} (hb : b ≤ 13) (hp : p < 1000) (hs : ∀ j, s j < b) (hs' : ∀ j, s' j < b) : ∀ (t i : Nat), i + t = p → (∀ c, c < p → ∀ j k, o c = some (j, k) → j < 100 ∧ (s' c : Int) + k = s j) → (∀ c, c < i → s' c = s c) → cd_dn o t i = true → rk_r b s' p < rk_r b s p := by
  intro t
  induction t with
  | zero => intro i _ _ _ h; rw [cd_dn] at h; exact absurd h (by decide)
  | succ t ih =>
    intro i hi ho hlow h
    rw [cd_dn] at h
    cases hoi : o i with
    | none => rw [hoi] at h; cases h
    | some jk =>
      obtain ⟨j, k⟩ := jk
      rw [hoi] at h
      dsimp only at h
      obtain ⟨hj, hk⟩ := ho i (by omega) j k hoi
      have b1 := hs j
      have b2 := hs' i
      have tI : (Int32.ofInt k).toInt = k := Int32.toInt_ofInt_of_le (by omega) (by omega)
      have t0 : (0 : Int32).toInt = 0 := by decide
      split at h
      · exact absurd h (by decide)
      · rename_i c1
        have hji : j = i := by
          have c1' : nI j = nI i := Classical.byContradiction c1
          have := (nI_clamp (n := j) (by omega)).symm.trans ((congrArg Int32.toNatClampNeg c1').trans (nI_clamp (n := i) (by omega)))
          exact this
        subst hji
        split at h
        · exact absurd h (by decide)
        · rename_i c2
          rw [Int32.lt_iff_toInt_lt, tI, t0] at c2
          split at h
          · rename_i c3
            rw [Int32.lt_iff_toInt_lt, tI, t0] at c3
            have := rk_lex (b := b) (s := s) (s' := s') (i := j) hlow (by omega) t (fun c _ => hs' c)
            rw [show j + 1 + t = p by omega] at this
            exact this
          · rename_i c3
            rw [Int32.lt_iff_toInt_lt, tI, t0] at c3
            refine ih (j + 1) (by omega) ho (fun c hc => ?_) h
            rcases Nat.eq_or_lt_of_le (Nat.le_of_lt_succ hc) with e | e
            · subst e; omega
            · exact hlow c e
end
end
section
section
variable {M F N k : Nat} {pc rt bs kd : Nat → Nat} {mk na : Nat → Int32}
/-- what a call of g weighs in an activation of f of rank r -/
def po_w (M F N : Nat) (pc bs kd : Nat → Nat) (na : Nat → Int32) (f r g : Nat) : Nat :=
  if g < f then pr_T M F N pc bs kd na g else bd_in (pr_ct F N bs kd na f) (pr_T M F N pc bs kd na) f * bd_S (pr_ct F N bs kd na f f) r
theorem po_T_eq (f : Nat) : pr_T M F N pc bs kd na f = bd_S (pr_ct F N bs kd na f f) (pr_L M pc f) * bd_in (pr_ct F N bs kd na f) (pr_T M F N pc bs kd na) f := bd_T_eq _ _ f
theorem po_T_pos (f : Nat) : 0 < pr_T M F N pc bs kd na f := by
  rw [po_T_eq]
  refine Nat.mul_pos (bd_S_pos _ _ ?_) (bd_in_pos _ _ _)
  unfold pr_L
  exact Nat.pow_pos (by omega)
/-- a new activation of g of rank r owes one less than this -/
theorem po_new (h : pr_in F N pc rt bs kd mk na) (hw : pg_wf F N bs (pr_ar F pc kd na)) (hnm : pr_nm F N pc bs kd na) {g r : Nat} (hg : g < F) :
    po_p F N bs (pr_ar F pc kd na) kd (pr_ag na) (po_w M F N pc bs kd na g r) g (bs g) (bs g) + 1 ≤ bd_in (pr_ct F N bs kd na g) (pr_T M F N pc bs kd na) g * bd_S (pr_ct F N bs kd na g g) (r + 1) := by
  have h6 := h.1
  have hlt := (hw.2.2.2.2 g hg).1
  have hN := pg_lastN hw hg
  have r1 := po_root (kd := kd) (ag := pr_ag na) (w := po_w M F N pc bs kd na g r) hw hg
  have r2 := po_cnt (kd := kd) (ag := pr_ag na) (w := po_w M F N pc bs kd na g r) (f := g) (na := na) (T := pr_T M F N pc bs kd na) (fun q hq => by unfold po_w; rw [if_pos hq]) (pg_be F N bs g - bs g) (bs g) (fun i hi k => by
    have hn : bs g + i < N := by omega
    obtain ⟨a1, a2⟩ := (hnm _ hn).2 k
    rw [pg_fn_is hw hg (by omega) (by omega)] at a1
    exact ⟨a1, a2⟩) (by omega)
  have r3 : po_w M F N pc bs kd na g r g = bd_in (pr_ct F N bs kd na g) (pr_T M F N pc bs kd na) g * bd_S (pr_ct F N bs kd na g g) r := by
    unfold po_w; rw [if_neg (by omega)]
  have r4 : bd_in (fun q => cd_ct kd na q (pg_be F N bs g - bs g) (bs g)) (pr_T M F N pc bs kd na) g = bd_in (pr_ct F N bs kd na g) (pr_T M F N pc bs kd na) g := rfl
  have r5 : cd_ct kd na g (pg_be F N bs g - bs g) (bs g) = pr_ct F N bs kd na g g := rfl
  rw [r3, r4, r5] at r2
  rw [bd_S_step, Nat.mul_add, Nat.mul_one]
  have r6 : bd_in (pr_ct F N bs kd na g) (pr_T M F N pc bs kd na) g * (pr_ct F N bs kd na g g * bd_S (pr_ct F N bs kd na g g) r) = pr_ct F N bs kd na g g * (bd_in (pr_ct F N bs kd na g) (pr_T M F N pc bs kd na) g * bd_S (pr_ct F N bs kd na g g) r) := Nat.mul_left_comm _ _ _
  rw [r6]
  omega
theorem po_le_T {g r : Nat} (hr : r < pr_L M pc g) : bd_in (pr_ct F N bs kd na g) (pr_T M F N pc bs kd na) g * bd_S (pr_ct F N bs kd na g g) (r + 1) ≤ pr_T M F N pc bs kd na g := by
  rw [po_T_eq g, Nat.mul_comm]
  exact Nat.mul_le_mul_right _ (bd_S_mono _ _ _ hr)
/-- a begun call owes less than it weighed -/
theorem po_fits {f r g r' : Nat} (hr : r' < pr_L M pc g) (hg : g < f ∨ (g = f ∧ r' < r)) : bd_in (pr_ct F N bs kd na g) (pr_T M F N pc bs kd na) g * bd_S (pr_ct F N bs kd na g g) (r' + 1) ≤ po_w M F N pc bs kd na f r g := by
  unfold po_w
  rcases hg with y | ⟨y, y2⟩
  · rw [if_pos y]
    exact po_le_T hr
  · subst y
    rw [if_neg (by omega)]
    exact Nat.mul_le_mul_left _ (bd_S_mono _ _ _ y2)
end
end
section
section
/-- what activation i owes at node n from t on -/
def gz_o (M F N : Nat) (pc rt bs kd : Nat → Nat) (mk na : Nat → Int32) (m : Nat → Nat) (ps : Nat → Nat → Nat) (i n t : Nat) : Nat :=
  po_p F N bs (pr_ar F pc kd na) kd (pr_ag na) (po_w M F N pc bs kd na (mc_fn F (pr_ag na) m i) (rk_r (M + 1) (ps i) (pc (mc_fn F (pr_ag na) m i)))) (mc_fn F (pr_ag na) m i) n t
def gz_S (M F N : Nat) (pc rt bs kd : Nat → Nat) (mk na : Nat → Int32) (m : Nat → Nat) (ps : Nat → Nat → Nat) (e : Nat) : Nat :=
  ps_s (fun i => gz_o M F N pc rt bs kd mk na m ps i (m i) (tr_se N (pr_ar F pc kd na) (m i))) e
/-- sizes ps of the parameters of each activation, the facts of what they hold, and what is owed: c calls are begun -/
def gz_I (M F N : Nat) (pc rt bs kd : Nat → Nat) (mk na : Nat → Int32) (m : Nat → Nat) (ps : Nat → Nat → Nat) (e n o : Nat) (lv nv : Nat → Int64) (c : Nat) : Prop :=
  (∀ i, i < e → fa_L N (pr_ar F pc kd na) kd (pr_ag na) (pr_z F bs pc) (pr_pt F bs mk) (ps i) lv (45 * i) (m i) ∧ fa_V N (pr_ar F pc kd na) kd (pr_ag na) (pr_z F bs pc) (pr_et F N pc rt bs kd mk na) (ps i) nv (64 * i) (m i)) ∧ fa_L N (pr_ar F pc kd na) kd (pr_ag na) (pr_z F bs pc) (pr_pt F bs mk) (ps e) lv (45 * e) n ∧ fa_V N (pr_ar F pc kd na) kd (pr_ag na) (pr_z F bs pc) (pr_et F N pc rt bs kd mk na) (ps e) nv (64 * e) n ∧ (∀ i, i ≤ e → ∀ j, ps i j ≤ M) ∧ c + gz_S M F N pc rt bs kd mk na m ps e + o ≤ pr_T M F N pc bs kd na (F - 1)
variable {M F N k : Nat} {pc rt bs kd : Nat → Nat} {mk na : Nat → Int32}
variable {m m' : Nat → Nat} {ps ps' : Nat → Nat → Nat} {e n n' o o' c : Nat} {lv nv lv' nv' : Nat → Int64}
theorem gz_mv (hok : pr_ok F N pc rt bs kd mk na) (hm : ∀ i, i < e → m i < N) (I : gz_I M F N pc rt bs kd mk na m ps e n o lv nv c) (h1 : ∀ t, t < 45 * e → lv' t = lv t) (h2 : ∀ t, t < 64 * e → nv' t = nv t) (hL : fa_L N (pr_ar F pc kd na) kd (pr_ag na) (pr_z F bs pc) (pr_pt F bs mk) (ps e) lv' (45 * e) n') (hV : fa_V N (pr_ar F pc kd na) kd (pr_ag na) (pr_z F bs pc) (pr_et F N pc rt bs kd mk na) (ps e) nv' (64 * e) n') (ho : o' ≤ o) : gz_I M F N pc rt bs kd mk na m ps e n' o' lv' nv' c := by
  obtain ⟨i1, i2, i3, i4, i5⟩ := I
  have n64 := hok.1.2.1
  refine ⟨fun i hi => ⟨fa_L_fr (i1 i hi).1 (fun x hx => h1 _ ?_), fa_V_fr hok.1 (hm i hi) (i1 i hi).2 (fun k hk => h2 _ ?_)⟩, hL, hV, i4, by omega⟩
  · have := pw_sc45 hok (hm i hi)
    omega
  · have := hm i hi
    omega
theorem gz_S_ext {k : Nat} (hm : ∀ i, i < k → m' i = m i) (hps : ∀ i, i < k → ps' i = ps i) : gz_S M F N pc rt bs kd mk na m' ps' k = gz_S M F N pc rt bs kd mk na m ps k := by
  refine ps_eq k (fun i hi => ?_)
  show gz_o M F N pc rt bs kd mk na m' ps' i (m' i) (tr_se N (pr_ar F pc kd na) (m' i)) = gz_o M F N pc rt bs kd mk na m ps i (m i) (tr_se N (pr_ar F pc kd na) (m i))
  unfold gz_o
  rw [hm i hi, hps i hi, mc_fn_ext i (fun j hj => hm j (by omega))]
/-- a call begins -/
theorem gz_begin (h : pr_in F N pc rt bs kd mk na) (hM : M ≤ 12) (hok : pr_ok F N pc rt bs kd mk na) (hnm : pr_nm F N pc bs kd na) {p : Nat} {wa : Nat → Int64} (hms : ∀ i, i < e → m i < N) (hp : p < N) (hk : kd p = 5) (hf : pg_fn F bs p = mc_fn F (pr_ag na) m e)
    (I : gz_I M F N pc rt bs kd mk na m ps e p (gz_o M F N pc rt bs kd mk na m ps e (p + 1) (tr_se N (pr_ar F pc kd na) p)) lv nv c)
    (hV : ∀ i, i < pr_ar F pc kd na p → vl_V M (pr_pt F bs mk (bs (pr_ag na p)) i) (wa i))
    (hfa : ∀ i, i < pr_ar F pc kd na p → ∀ j k, fx_e N (pr_ar F pc kd na) kd (pr_ag na) (fx_l N (pr_ar F pc kd na) kd (pr_ag na) (pr_z F bs pc) p) (tr_ch N (pr_ar F pc kd na) p i) = some (j, k) → (sz_sz (pr_pt F bs mk (bs (pr_ag na p)) i) (wa i) : Int) + k = ps e j)
    (hd : pr_ag na p = pg_fn F bs p → pr_dn F N pc bs kd na (pg_fn F bs p) p = true)
    (hm : ∀ j, j < e → m' j = m j) (he' : m' e = p) (hps : ∀ i, i < e + 1 → ps' i = ps i) (hps' : ∀ j, ps' (e + 1) j = if j < pc (pr_ag na p) then sz_sz (pr_pt F bs mk (bs (pr_ag na p)) j) (wa j) else 0)
    (hL1 : ∀ t, t < 45 * (e + 1) → lv' t = lv t) (hL2 : ∀ i, i < pr_ar F pc kd na p → lv' (45 * (e + 1) + i) = wa i) :
    c < pr_T M F N pc bs kd na (F - 1) ∧ gz_I M F N pc rt bs kd mk na m' ps' (e + 1) (bs (pr_ag na p)) (gz_o M F N pc rt bs kd mk na m' ps' (e + 1) (bs (pr_ag na p)) (bs (pr_ag na p))) lv' nv (c + 1) := by
  obtain ⟨i1, i2, i3, i4, i5⟩ := I
  obtain ⟨a1, a2, a3⟩ := pr_ar5 hok.1 h hnm hp hk
  have n64 := hok.1.2.1
  have hp3 := h.2.2.1 (pr_ag na p)
  have hp1 := h.2.2.2.1 _ a1
  have hle := ((hnm p hp).2 hk).1
  obtain ⟨c1, c2, c3, c4, c5, c6, c7⟩ := pg_ch hok.1 (n := p) (c := 0) hp (by omega)
  rw [tr_ch_0] at c6
  have hbg := (hok.1.2.2.2.2 _ a1).1
  have hNg := pg_lastN hok.1 a1
  have hrN : bs (pr_ag na p) < N := by omega
  have hr := pg_root hok.1 a1
  have fe1 : mc_fn F (pr_ag na) m' (e + 1) = pr_ag na p := by rw [mc_fn, he']
  have fe : mc_fn F (pr_ag na) m' e = mc_fn F (pr_ag na) m e := mc_fn_ext e hm
  have szM : ∀ j, ps' (e + 1) j ≤ M := fun j => by
    rw [hps']
    split
    · rename_i hj'
      exact sz_le hM (hV j (by omega))
    · omega
  -- ranks
  have rk1 : rk_r (M + 1) (ps' (e + 1)) (pc (pr_ag na p)) < pr_L M pc (pr_ag na p) := rk_lt _ (fun i _ => by have := szM i; omega)
  have rk2 : pr_ag na p < mc_fn F (pr_ag na) m e ∨ (pr_ag na p = mc_fn F (pr_ag na) m e ∧ rk_r (M + 1) (ps' (e + 1)) (pc (pr_ag na p)) < rk_r (M + 1) (ps e) (pc (mc_fn F (pr_ag na) m e))) := by
    rw [hf] at hle
    rcases Nat.eq_or_lt_of_le hle with y | y
    · refine Or.inr ⟨y, ?_⟩
      have dn := hd (by rw [hf]; exact y)
      unfold pr_dn at dn
      rw [hf] at dn
      rw [← y] at dn ⊢
      refine cd_dn_true (b := M + 1) (by omega) (by omega) (fun j => by have := i4 e (Nat.le_refl e) j; omega) (fun j => by have := szM j; omega) (pc (pr_ag na p)) 0 (by omega) (fun q hq j k hq2 => ⟨by have := fx_e_j (z := (pr_z F bs pc)) (fun j => h.2.2.1 _) hq2; omega, ?_⟩) (fun q hq => by omega) dn
      have := hfa q (by omega) j k hq2
      rw [hps', if_pos hq]
      exact this
    · exact Or.inl y
  have q1 := po_begin (F := F) (bs := bs) (ag := pr_ag na) (w := po_w M F N pc bs kd na (mc_fn F (pr_ag na) m e) (rk_r (M + 1) (ps e) (pc (mc_fn F (pr_ag na) m e)))) hp hf hk c6
  have q2 := po_new (M := M) (r := rk_r (M + 1) (ps' (e + 1)) (pc (pr_ag na p))) h hok.1 hnm a1
  have q3 := po_fits (F := F) (N := N) (bs := bs) (kd := kd) (na := na) (f := mc_fn F (pr_ag na) m e) (r := rk_r (M + 1) (ps e) (pc (mc_fn F (pr_ag na) m e))) rk1 rk2
  have s1 : gz_S M F N pc rt bs kd mk na m' ps' (e + 1) = gz_S M F N pc rt bs kd mk na m ps e + gz_o M F N pc rt bs kd mk na m ps e p (tr_se N (pr_ar F pc kd na) p) := by
    have x1 := gz_S_ext (M := M) (F := F) (N := N) (pc := pc) (rt := rt) (bs := bs) (kd := kd) (mk := mk) (na := na) (k := e) hm (fun i hi => hps i (by omega))
    have x2 : gz_S M F N pc rt bs kd mk na m' ps' (e + 1) = gz_S M F N pc rt bs kd mk na m' ps' e + gz_o M F N pc rt bs kd mk na m' ps' e (m' e) (tr_se N (pr_ar F pc kd na) (m' e)) := rfl
    have x3 : gz_o M F N pc rt bs kd mk na m' ps' e (m' e) (tr_se N (pr_ar F pc kd na) (m' e)) = gz_o M F N pc rt bs kd mk na m ps e p (tr_se N (pr_ar F pc kd na) p) := by
      unfold gz_o
      rw [fe, he', hps e (by omega)]
    rw [x2, x1, x3]
  have o1 : gz_o M F N pc rt bs kd mk na m' ps' (e + 1) (bs (pr_ag na p)) (bs (pr_ag na p)) = po_p F N bs (pr_ar F pc kd na) kd (pr_ag na) (po_w M F N pc bs kd na (pr_ag na p) (rk_r (M + 1) (ps' (e + 1)) (pc (pr_ag na p)))) (pr_ag na p) (bs (pr_ag na p)) (bs (pr_ag na p)) := by
    unfold gz_o
    rw [fe1]
  have o2 : gz_o M F N pc rt bs kd mk na m ps e p (tr_se N (pr_ar F pc kd na) p) + po_w M F N pc bs kd na (mc_fn F (pr_ag na) m e) (rk_r (M + 1) (ps e) (pc (mc_fn F (pr_ag na) m e))) (pr_ag na p) ≤ gz_o M F N pc rt bs kd mk na m ps e (p + 1) (tr_se N (pr_ar F pc kd na) p) := q1
  have root := fa_root (kd := kd) (ag := pr_ag na) (z := (pr_z F bs pc)) (pt := pr_pt F bs mk) (et := pr_et F N pc rt bs kd mk na) (ps := ps' (e + 1)) (lv := lv') (nv := nv) (lb := 45 * (e + 1)) (nb := 64 * (e + 1)) hrN hr (fun x hx => by
    have hx' : x < pc (pr_ag na p) := by
      unfold pr_z at hx
      rw [pr_root_fn hok.1 a1] at hx
      exact hx
    rw [hL2 x (by omega), hps', if_pos hx'])
  refine ⟨by omega, fun i hi => ?_, root.1, root.2, fun i hi j => ?_, by rw [s1, o1]; omega⟩
  · rcases Nat.eq_or_lt_of_le (Nat.le_of_lt_succ hi) with y | y
    · subst y
      rw [he', hps i (by omega)]
      refine ⟨fa_L_fr i2 (fun x hx => hL1 _ ?_), i3⟩
      have := pw_sc45 hok hp
      omega
    · rw [hm i y, hps i (by omega)]
      refine ⟨fa_L_fr (i1 i y).1 (fun x hx => hL1 _ ?_), (i1 i y).2⟩
      have := pw_sc45 hok (hms i y)
      omega
  · rcases Nat.eq_or_lt_of_le hi with y | y
    · subst y; exact szM j
    · rw [hps i (by omega)]; exact i4 i (by omega) j
end
end
section
section
/-- every self call descends -/
def iv_ds (F N : Nat) (pc bs kd : Nat → Nat) (na : Nat → Int32) : Prop := ∀ p, p < N → kd p = 5 → pr_ag na p = pg_fn F bs p → pr_dn F N pc bs kd na (pg_fn F bs p) p = true
/-- the arguments wa of the call p: their facts -/
def iv_wa (F N : Nat) (pc bs kd : Nat → Nat) (mk na : Nat → Int32) (ps : Nat → Nat) (p : Nat) (wa : Nat → Int64) : Prop :=
  ∀ i, i < pr_ar F pc kd na p → ∀ j k, fx_e N (pr_ar F pc kd na) kd (pr_ag na) (fx_l N (pr_ar F pc kd na) kd (pr_ag na) (pr_z F bs pc) p) (tr_ch N (pr_ar F pc kd na) p i) = some (j, k) → (sz_sz (pr_pt F bs mk (bs (pr_ag na p)) i) (wa i) : Int) + k = ps j
def iv_w (M F N : Nat) (pc rt bs kd : Nat → Nat) (mk na : Nat → Int32) (cb : Nat) (f_code : Int32) (f_calls : Int64) (d : Nat) (cur wf : Int32) (wa lv nv : Nat → Int64) (cn : Nat → Int32) : Prop :=
  (d = 0 ∧ cur = -1 ∧ wf = nI (F - 1) ∧ (∀ i, i < pc (F - 1) → vl_V M (pr_pty mk (F - 1) i) (wa i)) ∧ f_calls = 0) ∨
  (∃ (m : Nat → Nat) (e p : Nat) (wN wS ab : Nat → Int32) (vals env : Nat → Int64) (wT vT eT : Nat), d = e + 1 ∧ cur = nI p ∧ wf = nI (pr_ag na p) ∧ mc_W F N M bs (pr_ar F pc kd na) kd (pr_ag na) (pr_z F bs pc) (pr_pt F bs mk) (pr_rt F bs rt) (pr_gt mk na) m e p wa wN wS vals env lv nv cn ab wT vT eT ∧
    (f_code = 1 → ∃ (ps : Nat → Nat → Nat) (c : Nat), f_calls = lN c ∧ c ≤ cb ∧ gz_I M F N pc rt bs kd mk na m ps e p (gz_o M F N pc rt bs kd mk na m ps e (p + 1) (tr_se N (pr_ar F pc kd na) p)) lv nv c ∧ iv_wa F N pc bs kd mk na (ps e) p wa))
def iv_mode (M F N : Nat) (pc rt bs kd : Nat → Nat) (mk na : Nat → Int32) (cb : Nat) (f_code f_status f_depth f_currentNode f_waitingFunction : Int32) (f_bound f_calls f_fuelLimit : Int64) (a_parents a_childIndexes a_subtreeEnds a_scopeSizes a_callNodes : Nat → Int32) (a_waitingArgs a_levelValues a_nodeValues : Nat → Int64) : Prop :=
  (f_status = 1 → f_code = 1 ∨ f_code = 6) ∧ (f_code = 1 ∨ f_code = 6 → rl_laid F N pc rt bs kd mk na a_parents a_childIndexes a_subtreeEnds a_scopeSizes) ∧ (f_code = 1 → iv_ds F N pc bs kd na) ∧
  (f_code = 1 → f_bound = lN (bd_c bd_C (pr_T M F N pc bs kd na (F - 1)))) ∧ (f_code = 1 → f_status ≠ 3 ∧ ∃ c, f_calls = lN c ∧ c ≤ cb ∧ c ≤ pr_T M F N pc bs kd na (F - 1)) ∧ (f_code = 1 → f_status = 1 → f_fuelLimit = f_bound) ∧
  (f_status = 1 → ∃ d, d ≤ 16 ∧ f_depth = nI d ∧ iv_w M F N pc rt bs kd mk na cb f_code f_calls d f_currentNode f_waitingFunction a_waitingArgs a_levelValues a_nodeValues a_callNodes)
/-- the invariant of the class: at most cb calls are begun since the start -/
def iv_I (cb : Nat) (u : St2) : Prop := match u with
  | (f_sizeCap, f_functionCount, f_nodeCount, f_code, f_faultFunction, f_bound, f_foundParam, f_foundDrop, f_status, f_calls, f_depth, f_fuelLimit, f_begun, f_beginLimit, f_waitingFunction, f_currentNode, f_valueKnown, f_currentValue, a_paramCounts, a_listMasks, a_resultTypes, a_bodyStarts, a_nodeKinds, a_nodeArgs, a_parents, a_childIndexes, a_subtreeEnds, a_scopeSizes, a_levelTypes, a_levelParams, a_levelDrops, a_expectedTypes, a_totals, a_slotTypes, a_slotValues, a_waitingArgs, a_callNodes, a_levelValues, a_nodeValues) => ∃ (M F N : Nat) (pc rt bs kd : Nat → Nat) (mk na : Nat → Int32), (1 ≤ M ∧ M ≤ 12) ∧ pr_in F N pc rt bs kd mk na ∧
    (f_sizeCap = nI M ∧ f_functionCount = nI F ∧ f_nodeCount = nI N ∧ a_paramCounts = (fun i => nI (pc i)) ∧ a_listMasks = mk ∧ a_resultTypes = (fun i => nI (rt i)) ∧ a_bodyStarts = (fun i => nI (bs i)) ∧ a_nodeKinds = (fun i => nI (kd i)) ∧ a_nodeArgs = na) ∧
    rl_sl M a_slotTypes a_slotValues ∧ iv_mode M F N pc rt bs kd mk na cb f_code f_status f_depth f_currentNode f_waitingFunction f_bound f_calls f_fuelLimit a_parents a_childIndexes a_subtreeEnds a_scopeSizes a_callNodes a_waitingArgs a_levelValues a_nodeValues
variable {f_sizeCap f_functionCount f_nodeCount f_code f_faultFunction f_foundParam f_foundDrop f_status f_depth f_begun f_beginLimit f_waitingFunction f_currentNode f_valueKnown : Int32} {f_bound f_calls f_fuelLimit f_currentValue : Int64} {a_paramCounts a_listMasks a_resultTypes a_bodyStarts a_nodeKinds a_nodeArgs a_parents a_childIndexes a_subtreeEnds a_scopeSizes a_levelTypes a_levelParams a_levelDrops a_expectedTypes a_slotTypes a_callNodes : Nat → Int32} {a_totals a_slotValues a_waitingArgs a_levelValues a_nodeValues : Nat → Int64}
variable {M F N k : Nat} {pc rt bs kd : Nat → Nat} {mk na : Nat → Int32}
variable {cb cb' : Nat}
theorem iv_mk (hM : 1 ≤ M ∧ M ≤ 12) (hP : pr_in F N pc rt bs kd mk na) (hS : rl_sl M a_slotTypes a_slotValues) (hm : iv_mode M F N pc rt bs kd mk na cb f_code f_status f_depth f_currentNode f_waitingFunction f_bound f_calls f_fuelLimit a_parents a_childIndexes a_subtreeEnds a_scopeSizes a_callNodes a_waitingArgs a_levelValues a_nodeValues) : iv_I cb ((nI M), (nI F), (nI N), f_code, f_faultFunction, f_bound, f_foundParam, f_foundDrop, f_status, f_calls, f_depth, f_fuelLimit, f_begun, f_beginLimit, f_waitingFunction, f_currentNode, f_valueKnown, f_currentValue, (fun i => nI (pc i)), mk, (fun i => nI (rt i)), (fun i => nI (bs i)), (fun i => nI (kd i)), na, a_parents, a_childIndexes, a_subtreeEnds, a_scopeSizes, a_levelTypes, a_levelParams, a_levelDrops, a_expectedTypes, a_totals, a_slotTypes, a_slotValues, a_waitingArgs, a_callNodes, a_levelValues, a_nodeValues) :=
  ⟨M, F, N, pc, rt, bs, kd, mk, na, hM, hP, ⟨rfl, rfl, rfl, rfl, rfl, rfl, rfl, rfl, rfl⟩, hS, hm⟩
theorem iv_idle (h1 : ¬ f_status = 1) (h3 : f_code = 1 → f_status ≠ 3) (hl : f_code = 1 ∨ f_code = 6 → rl_laid F N pc rt bs kd mk na a_parents a_childIndexes a_subtreeEnds a_scopeSizes) (hd : f_code = 1 → iv_ds F N pc bs kd na) (hb : f_code = 1 → f_bound = lN (bd_c bd_C (pr_T M F N pc bs kd na (F - 1)))) (hc : f_code = 1 → ∃ c, f_calls = lN c ∧ c ≤ cb ∧ c ≤ pr_T M F N pc bs kd na (F - 1)) : iv_mode M F N pc rt bs kd mk na cb f_code f_status f_depth f_currentNode f_waitingFunction f_bound f_calls f_fuelLimit a_parents a_childIndexes a_subtreeEnds a_scopeSizes a_callNodes a_waitingArgs a_levelValues a_nodeValues :=
  ⟨fun y => absurd y h1, hl, hd, hb, fun y => ⟨h3 y, hc y⟩, fun _ y => absurd y h1, fun y => absurd y h1⟩
theorem iv_0 : iv_mode M F N pc rt bs kd mk na cb 0 0 f_depth f_currentNode f_waitingFunction f_bound f_calls f_fuelLimit a_parents a_childIndexes a_subtreeEnds a_scopeSizes a_callNodes a_waitingArgs a_levelValues a_nodeValues :=
  iv_idle (by decide) (fun y => absurd y (by decide)) (fun y => absurd y (by decide)) (fun y => absurd y (by decide)) (fun y => absurd y (by decide)) (fun y => absurd y (by decide))
theorem iv_up (h : cb ≤ cb') {u : St2} (I : iv_I cb u) : iv_I cb' u := by
  obtain ⟨f_sizeCap, f_functionCount, f_nodeCount, f_code, f_faultFunction, f_bound, f_foundParam, f_foundDrop, f_status, f_calls, f_depth, f_fuelLimit, f_begun, f_beginLimit, f_waitingFunction, f_currentNode, f_valueKnown, f_currentValue, a_paramCounts, a_listMasks, a_resultTypes, a_bodyStarts, a_nodeKinds, a_nodeArgs, a_parents, a_childIndexes, a_subtreeEnds, a_scopeSizes, a_levelTypes, a_levelParams, a_levelDrops, a_expectedTypes, a_totals, a_slotTypes, a_slotValues, a_waitingArgs, a_callNodes, a_levelValues, a_nodeValues⟩ := u
  obtain ⟨M, F, N, pc, rt, bs, kd, mk, na, hM, hP, he, hS, h1, h2, h3, h4, h5, h6, h7⟩ := I
  refine ⟨M, F, N, pc, rt, bs, kd, mk, na, hM, hP, he, hS, h1, h2, h3, h4, fun y => ?_, h6, fun y => ?_⟩
  · obtain ⟨a, c, c1, c2, c3⟩ := h5 y
    exact ⟨a, c, c1, by omega, c3⟩
  · obtain ⟨d, d1, d2, d3⟩ := h7 y
    refine ⟨d, d1, d2, ?_⟩
    rcases d3 with d3 | ⟨m, e, p, wN, wS, ab, vals, env, wT, vT, eT, q1, q2, q3, q4, q5⟩
    · exact Or.inl d3
    · refine Or.inr ⟨m, e, p, wN, wS, ab, vals, env, wT, vT, eT, q1, q2, q3, q4, fun y => ?_⟩
      obtain ⟨ps, c, c1, c2, c3⟩ := q5 y
      exact ⟨ps, c, c1, by omega, c3⟩
end
end
section
section
variable {M F N k : Nat} {pc rt bs kd : Nat → Nat} {mk na : Nat → Int32}
variable {m m' : Nat → Nat} {ps : Nat → Nat → Nat} {e n q p c : Nat} {lv nv : Nat → Int64} {v v' w w' : Int64}
theorem gt_leaf (hok : pr_ok F N pc rt bs kd mk na) (hm : ∀ i, i < e → m i < N) (I : gz_I M F N pc rt bs kd mk na m ps e n (gz_o M F N pc rt bs kd mk na m ps e n n) lv nv c) : gz_I M F N pc rt bs kd mk na m ps e n (gz_o M F N pc rt bs kd mk na m ps e n (tr_se N (pr_ar F pc kd na) n)) lv nv c :=
  gz_mv hok hm I (fun _ _ => rfl) (fun _ _ => rfl) I.2.1 I.2.2.1 po_leaf
theorem gt_first (hok : pr_ok F N pc rt bs kd mk na) (hm : ∀ i, i < e → m i < N) (hn : n < N) (ha : 0 < pr_ar F pc kd na n) (I : gz_I M F N pc rt bs kd mk na m ps e n (gz_o M F N pc rt bs kd mk na m ps e n n) lv nv c) : gz_I M F N pc rt bs kd mk na m ps e (n + 1) (gz_o M F N pc rt bs kd mk na m ps e (n + 1) (n + 1)) lv nv c := by
  obtain ⟨a1, a2, a3, a4, a5, a6, a7⟩ := pg_ch hok.1 hn ha
  rw [tr_ch_0] at a1 a3 a4 a5
  exact gz_mv hok hm I (fun _ _ => rfl) (fun _ _ => rfl) (fa_L_dn a3 (sq_cv0 (Or.inl (by omega))) I.2.1) (fa_V_dn a1 a3 I.2.2.1 (fun _ c hc => by omega)) po_first
theorem gt_up (hok : pr_ok F N pc rt bs kd mk na) (hm : ∀ i, i < e → m i < N) (hq : q < N) (hp : tr_pa N (pr_ar F pc kd na) q = some p) (I : gz_I M F N pc rt bs kd mk na m ps e q (gz_o M F N pc rt bs kd mk na m ps e q (tr_se N (pr_ar F pc kd na) q)) lv nv c) : gz_I M F N pc rt bs kd mk na m ps e p (gz_o M F N pc rt bs kd mk na m ps e p (tr_se N (pr_ar F pc kd na) p)) lv nv c :=
  gz_mv hok hm I (fun _ _ => rfl) (fun _ _ => rfl) (fa_L_up hp I.2.1) (fa_V_up hq hp I.2.2.1) (po_up hq hp)
/-- the facts of the arguments in hand, the last one's value just stored -/
theorem gt_keep (hok : pr_ok F N pc rt bs kd mk na) (hq : q < N) (hp : tr_pa N (pr_ar F pc kd na) q = some p) (hk : kd p = 5) (hV : fa_V N (pr_ar F pc kd na) kd (pr_ag na) (pr_z F bs pc) (pr_et F N pc rt bs kd mk na) (ps e) nv (64 * e) q) (hK : fa_K N (pr_ar F pc kd na) kd (pr_ag na) (pr_z F bs pc) (pr_et F N pc rt bs kd mk na) (ps e) q v) : ∀ i, i < tr_ci N (pr_ar F pc kd na) q + 1 → ∀ j k, fx_e N (pr_ar F pc kd na) kd (pr_ag na) (fx_l N (pr_ar F pc kd na) kd (pr_ag na) (pr_z F bs pc) p) (tr_ch N (pr_ar F pc kd na) p i) = some (j, k) → (sz_sz (pr_et F N pc rt bs kd mk na (tr_ch N (pr_ar F pc kd na) p i)) (vp_updL nv (64 * e + q) v (64 * e + tr_ch N (pr_ar F pc kd na) p i)) : Int) + k = ps e j := by
  obtain ⟨g1, g2, g3, g4, g5, g6⟩ := pw_fnpa hok hq hp
  intro i hi j k hf
  have el : fx_l N (pr_ar F pc kd na) kd (pr_ag na) (pr_z F bs pc) q = fx_l N (pr_ar F pc kd na) kd (pr_ag na) (pr_z F bs pc) p := fx_l_0 hp (sq_cv0 (Or.inr ⟨by omega, by omega⟩))
  rcases Nat.eq_or_lt_of_le (Nat.le_of_lt_succ hi) with y | y
  · have e1 : tr_ch N (pr_ar F pc kd na) p i = q := by rw [y]; exact g5.symm
    rw [e1] at hf ⊢
    rw [pk_uLs]
    unfold fa_K at hK
    rw [el] at hK
    exact hK j k hf
  · have hl : tr_ch N (pr_ar F pc kd na) p i < q := by
      have b1 := pg_ch hok.1 g1 (c := i) (by omega)
      have b2 := tr_se_gt (N := N) (ar := (pr_ar F pc kd na)) b1.1
      rw [← tr_ch_s] at b2
      have b3 := tr_ch_le (N := N) (ar := (pr_ar F pc kd na)) p (i + 1) (tr_ci N (pr_ar F pc kd na) q) (by omega)
      omega
    rw [pk_uLn (by omega)]
    exact hV q p i (tr_an_self hq) hp hk y j k hf
theorem gt_next (hok : pr_ok F N pc rt bs kd mk na) (hm : ∀ i, i < e → m i < N) (hq : q < N) (hp : tr_pa N (pr_ar F pc kd na) q = some p) (hk : kd p = 4 ∨ kd p = 5) (hc : tr_ci N (pr_ar F pc kd na) q + 1 < pr_ar F pc kd na p) (I : gz_I M F N pc rt bs kd mk na m ps e q (gz_o M F N pc rt bs kd mk na m ps e q (tr_se N (pr_ar F pc kd na) q)) lv nv c) (hK : fa_K N (pr_ar F pc kd na) kd (pr_ag na) (pr_z F bs pc) (pr_et F N pc rt bs kd mk na) (ps e) q v) :
    gz_I M F N pc rt bs kd mk na m ps e (tr_se N (pr_ar F pc kd na) q) (gz_o M F N pc rt bs kd mk na m ps e (tr_se N (pr_ar F pc kd na) q) (tr_se N (pr_ar F pc kd na) q)) lv (vp_updL nv (64 * e + q) v) c := by
  obtain ⟨g1, g2, g3, g4, g5, g6⟩ := pw_fnpa hok hq hp
  have ec : tr_ch N (pr_ar F pc kd na) p (tr_ci N (pr_ar F pc kd na) q + 1) = tr_se N (pr_ar F pc kd na) q := by rw [tr_ch_s, ← g5]
  obtain ⟨a1, a2, a3, a4, a5, a6, a7⟩ := pg_ch hok.1 g1 hc
  rw [ec] at a1 a3 a4 a5
  have hV1 : fa_V N (pr_ar F pc kd na) kd (pr_ag na) (pr_z F bs pc) (pr_et F N pc rt bs kd mk na) (ps e) (vp_updL nv (64 * e + q) v) (64 * e) p := fa_V_fr hok.1 g1 (fa_V_up hq hp I.2.2.1) (fun k hk => pk_uLn (by omega))
  refine gz_mv hok hm I (fun _ _ => rfl) (fun t ht => pk_uLn (by omega)) (fa_L_dn a3 (sq_cv0 (Or.inr ⟨by omega, by omega⟩)) (fa_L_up hp I.2.1)) (fa_V_dn a1 a3 hV1 (fun h5 i hi => ?_)) (po_sib hq a1 hp a3 (Nat.le_refl _))
  exact gt_keep hok hq hp h5 I.2.2.1 hK i (by omega)
theorem gt_wait (hok : pr_ok F N pc rt bs kd mk na) (hm : ∀ i, i < e → m i < N) (hq : q < N) (hp : tr_pa N (pr_ar F pc kd na) q = some p) (hk : kd p = 5) (hc : tr_ci N (pr_ar F pc kd na) q + 1 = pr_ar F pc kd na p) (I : gz_I M F N pc rt bs kd mk na m ps e q (gz_o M F N pc rt bs kd mk na m ps e q (tr_se N (pr_ar F pc kd na) q)) lv nv c) :
    gz_I M F N pc rt bs kd mk na m ps e p (gz_o M F N pc rt bs kd mk na m ps e (p + 1) (tr_se N (pr_ar F pc kd na) p)) lv (vp_updL nv (64 * e + q) v) c := by
  obtain ⟨g1, g2, g3, g4, g5, g6⟩ := pw_fnpa hok hq hp
  obtain ⟨a1, a2, a3, a4, a5, a6, a7⟩ := pg_ch hok.1 (n := p) (c := 0) g1 (by omega)
  rw [tr_ch_0] at a1 a3
  have es : tr_se N (pr_ar F pc kd na) q = tr_se N (pr_ar F pc kd na) p := by
    rw [tr_se_ch (n := p) g1, ← hc, tr_ch_s, ← g5]
  exact gz_mv hok hm I (fun _ _ => rfl) (fun t ht => pk_uLn (by omega)) (fa_L_up hp I.2.1) (fa_V_fr hok.1 g1 (fa_V_up hq hp I.2.2.1) (fun k hk => pk_uLn (by omega))) (po_wait hq hp a1 a3 es)
theorem gt_case1 (hok : pr_ok F N pc rt bs kd mk na) (hm : ∀ i, i < e → m i < N) (hq : q < N) (hp : tr_pa N (pr_ar F pc kd na) q = some p) (hk : kd p = 6 ∨ kd p = 7) (h0 : tr_ci N (pr_ar F pc kd na) q = 0) (I : gz_I M F N pc rt bs kd mk na m ps e q (gz_o M F N pc rt bs kd mk na m ps e q (tr_se N (pr_ar F pc kd na) q)) lv nv c) :
    gz_I M F N pc rt bs kd mk na m ps e (tr_se N (pr_ar F pc kd na) q) (gz_o M F N pc rt bs kd mk na m ps e (tr_se N (pr_ar F pc kd na) q) (tr_se N (pr_ar F pc kd na) q)) lv nv c := by
  obtain ⟨g1, g2, g3, g4, g5, g6⟩ := pw_fnpa hok hq hp
  have har := (hok.2.1 p g1).2.2.2.2 hk
  have ec : tr_ch N (pr_ar F pc kd na) p 1 = tr_se N (pr_ar F pc kd na) q := by rw [show (1 : Nat) = 0 + 1 from rfl, tr_ch_s, ← h0, ← g5]
  obtain ⟨a1, a2, a3, a4, a5, a6, a7⟩ := pg_ch hok.1 (n := p) (c := 1) g1 (by omega)
  rw [ec] at a1 a3 a4 a5
  exact gz_mv hok hm I (fun _ _ => rfl) (fun _ _ => rfl) (fa_L_dn a3 (sq_cv0 (Or.inl (by omega))) (fa_L_up hp I.2.1)) (fa_V_dn a1 a3 (fa_V_up hq hp I.2.2.1) (fun h5 => by omega)) (po_sib hq a1 hp a3 (Nat.le_refl _))
theorem gt_caseN (h : pr_in F N pc rt bs kd mk na) (hok : pr_ok F N pc rt bs kd mk na) (hm : ∀ i, i < e → m i < N) (hq : q < N) (hp : tr_pa N (pr_ar F pc kd na) q = some p) (hk : kd p = 6) (h0 : tr_ci N (pr_ar F pc kd na) q = 0) (I : gz_I M F N pc rt bs kd mk na m ps e q (gz_o M F N pc rt bs kd mk na m ps e q (tr_se N (pr_ar F pc kd na) q)) lv nv c) (hK : fa_K N (pr_ar F pc kd na) kd (pr_ag na) (pr_z F bs pc) (pr_et F N pc rt bs kd mk na) (ps e) q v) (hs : sz_sz (pr_et F N pc rt bs kd mk na q) v = sz_sz 0 w + 1) :
    gz_I M F N pc rt bs kd mk na m ps e (tr_se N (pr_ar F pc kd na) (tr_se N (pr_ar F pc kd na) q)) (gz_o M F N pc rt bs kd mk na m ps e (tr_se N (pr_ar F pc kd na) (tr_se N (pr_ar F pc kd na) q)) (tr_se N (pr_ar F pc kd na) (tr_se N (pr_ar F pc kd na) q))) (vp_updL lv (45 * e + sq_sc N (pr_ar F pc kd na) kd (pr_z F bs pc) p) w) nv c := by
  obtain ⟨g1, g2, g3, g4, g5, g6⟩ := pw_fnpa hok hq hp
  obtain ⟨c1, c2, c3, c4⟩ := mk_ch2 hok hq hp (Or.inl hk) h0
  rw [if_pos hk] at c3
  rw [← c1] at c2 c3 c4
  have eq1 : q = p + 1 := by rw [g5, h0, tr_ch_0]
  have g := tr_se_ge (N := N) (ar := (pr_ar F pc kd na)) (tr_se N (pr_ar F pc kd na) q)
  refine gz_mv hok hm I (fun t ht => pk_uLn (by omega)) (fun _ _ => rfl) (fa_L_nat (et := pr_et F N pc rt bs kd mk na) (v := v) (fx_pcl h hok.1) (by omega) c2 (by rw [← eq1]; exact hp) (by rw [← eq1]; exact sq_cv0 (Or.inl (by omega))) c3 (fa_L_up hp I.2.1) (by rw [← eq1]; exact hK) (by rw [← eq1]; exact hs)) (fa_V_dn c4 c2 (fa_V_up hq hp I.2.2.1) (fun h5 => by omega)) (po_sib hq c4 hp c2 g)
theorem gt_caseL (h : pr_in F N pc rt bs kd mk na) (hok : pr_ok F N pc rt bs kd mk na) (hm : ∀ i, i < e → m i < N) (hq : q < N) (hp : tr_pa N (pr_ar F pc kd na) q = some p) (hk : kd p = 7) (h0 : tr_ci N (pr_ar F pc kd na) q = 0) (I : gz_I M F N pc rt bs kd mk na m ps e q (gz_o M F N pc rt bs kd mk na m ps e q (tr_se N (pr_ar F pc kd na) q)) lv nv c) (hK : fa_K N (pr_ar F pc kd na) kd (pr_ag na) (pr_z F bs pc) (pr_et F N pc rt bs kd mk na) (ps e) q v) (hs : sz_sz (pr_et F N pc rt bs kd mk na q) v = sz_sz 1 w' + 1) :
    gz_I M F N pc rt bs kd mk na m ps e (tr_se N (pr_ar F pc kd na) (tr_se N (pr_ar F pc kd na) q)) (gz_o M F N pc rt bs kd mk na m ps e (tr_se N (pr_ar F pc kd na) (tr_se N (pr_ar F pc kd na) q)) (tr_se N (pr_ar F pc kd na) (tr_se N (pr_ar F pc kd na) q))) (vp_updL (vp_updL lv (45 * e + sq_sc N (pr_ar F pc kd na) kd (pr_z F bs pc) p) w) (45 * e + sq_sc N (pr_ar F pc kd na) kd (pr_z F bs pc) p + 1) w') nv c := by
  obtain ⟨g1, g2, g3, g4, g5, g6⟩ := pw_fnpa hok hq hp
  obtain ⟨c1, c2, c3, c4⟩ := mk_ch2 hok hq hp (Or.inr hk) h0
  rw [if_neg (by omega)] at c3
  rw [← c1] at c2 c3 c4
  have eq1 : q = p + 1 := by rw [g5, h0, tr_ch_0]
  have g := tr_se_ge (N := N) (ar := (pr_ar F pc kd na)) (tr_se N (pr_ar F pc kd na) q)
  refine gz_mv hok hm I (fun t ht => by rw [pk_uLn (by omega), pk_uLn (by omega)]) (fun _ _ => rfl) (fa_L_list (et := pr_et F N pc rt bs kd mk na) (v := v) (fx_pcl h hok.1) (by omega) c2 (by rw [← eq1]; exact hp) (by rw [← eq1]; exact sq_cv0 (Or.inl (by omega))) c3 (fa_L_up hp I.2.1) (by rw [← eq1]; exact hK) (by rw [← eq1]; exact hs)) (fa_V_dn c4 c2 (fa_V_up hq hp I.2.2.1) (fun h5 => by omega)) (po_sib hq c4 hp c2 g)
theorem gt_ret {o : Nat} (I : gz_I M F N pc rt bs kd mk na m ps (e + 1) n o lv nv c) : gz_I M F N pc rt bs kd mk na m ps e (m e) (gz_o M F N pc rt bs kd mk na m ps e (m e) (tr_se N (pr_ar F pc kd na) (m e))) lv nv c := by
  obtain ⟨i1, i2, i3, i4, i5⟩ := I
  have s1 : gz_S M F N pc rt bs kd mk na m ps (e + 1) = gz_S M F N pc rt bs kd mk na m ps e + gz_o M F N pc rt bs kd mk na m ps e (m e) (tr_se N (pr_ar F pc kd na) (m e)) := rfl
  rw [s1] at i5
  exact ⟨fun i hi => i1 i (by omega), (i1 e (by omega)).1, (i1 e (by omega)).2, fun i hi => i4 i (by omega), by omega⟩
/-- the main function begins -/
theorem gt_main (h : pr_in F N pc rt bs kd mk na) (hM : M ≤ 12) (hok : pr_ok F N pc rt bs kd mk na) (hnm : pr_nm F N pc bs kd na) {wa lv' : Nat → Int64} (hV : ∀ i, i < pc (F - 1) → vl_V M (pr_pty mk (F - 1) i) (wa i)) (hL : ∀ i, i < pc (F - 1) → lv' i = wa i) (hps : ∀ j, ps 0 j = if j < pc (F - 1) then sz_sz (pr_pty mk (F - 1) j) (wa j) else 0) :
    gz_I M F N pc rt bs kd mk na m ps 0 (bs (F - 1)) (gz_o M F N pc rt bs kd mk na m ps 0 (bs (F - 1)) (bs (F - 1))) lv' nv 1 := by
  have hF : F - 1 < F := by have := hok.1.1; omega
  have hb := (hok.1.2.2.2.2 _ hF).1
  have hN := pg_lastN hok.1 hF
  have hr := pg_root hok.1 hF
  have szM : ∀ j, ps 0 j ≤ M := fun j => by
    rw [hps]
    split
    · rename_i hj
      exact sz_le hM (hV j hj)
    · omega
  have rk1 : rk_r (M + 1) (ps 0) (pc (F - 1)) < pr_L M pc (F - 1) := rk_lt _ (fun i _ => by have := szM i; omega)
  have q2 := po_new (M := M) (r := rk_r (M + 1) (ps 0) (pc (F - 1))) h hok.1 hnm hF
  have q3 := po_le_T (F := F) (N := N) (bs := bs) (kd := kd) (na := na) rk1
  have root := fa_root (kd := kd) (ag := pr_ag na) (z := (pr_z F bs pc)) (pt := pr_pt F bs mk) (et := pr_et F N pc rt bs kd mk na) (ps := ps 0) (lv := lv') (nv := nv) (lb := 45 * 0) (nb := 64 * 0) (show bs (F - 1) < N by omega) hr (fun x hx => by
    have hx' : x < pc (F - 1) := by
      unfold pr_z at hx
      rw [pr_root_fn hok.1 hF] at hx
      exact hx
    show sz_sz (pr_pty mk (pg_fn F bs (bs (F - 1))) x) (lv' (45 * 0 + x)) = ps 0 x
    rw [pr_root_fn hok.1 hF, hps, if_pos hx', show 45 * 0 + x = x by omega, hL x hx'])
  refine ⟨fun i hi => by omega, root.1, root.2, fun i hi j => ?_, ?_⟩
  · rw [show i = 0 by omega]; exact szM j
  · have s0 : gz_S M F N pc rt bs kd mk na m ps 0 = 0 := rfl
    have o1 : gz_o M F N pc rt bs kd mk na m ps 0 (bs (F - 1)) (bs (F - 1)) = po_p F N bs (pr_ar F pc kd na) kd (pr_ag na) (po_w M F N pc bs kd na (F - 1) (rk_r (M + 1) (ps 0) (pc (F - 1)))) (F - 1) (bs (F - 1)) (bs (F - 1)) := rfl
    rw [s0, o1]
    omega
end
end
section
section
def lx_D (cb : Nat) (x : St2) (u : Nat) : Prop := ∀ (post : Int32 → St2 → Prop) (fu i : Nat), u + 2 ≤ fu → i + u + 2 ≤ 500000 → (∀ x', iv_I cb x' → post (rn_st x') x') → rn_X post fu i 1 x
theorem lx_step {cb : Nat} {x x1 : St2} {u u1 : Nat} (H : lx_D cb x1 u1) (hu : u1 < u) (hX : ∀ (post : Int32 → St2 → Prop) (fu i : Nat), i < 500000 → rn_X post fu (i + 1) 1 x1 → rn_X post (fu + 1) i 1 x) : lx_D cb x u := by
  intro post fu i a b hp
  obtain ⟨fu, rfl⟩ : ∃ f, fu = f + 1 := ⟨fu - 1, by omega⟩
  exact hX post fu i (by omega) (H post fu (i + 1) (by omega) (by omega) hp)
theorem lx_end {cb : Nat} {x x' : St2} {u : Nat} (hE : iv_I cb x') (hX : ∀ (post : Int32 → St2 → Prop) (fu i : Nat), i < 500000 → post (rn_st x') x' → rn_X post (fu + 2) i 1 x) : lx_D cb x u := by
  intro post fu i a b hp
  obtain ⟨fu, rfl⟩ : ∃ f, fu = f + 2 := ⟨fu - 2, by omega⟩
  exact hX post fu i (by omega) (hp x' hE)
def lx_U (M F N : Nat) (pc rt bs kd : Nat → Nat) (mk na : Nat → Int32) (bl cb : Nat) (f_code : Int32) (f_calls : Int64) (m : Nat → Nat) (e n b : Nat) (lv nv : Nat → Int64) : Prop :=
  f_code = 1 → ∃ (ps : Nat → Nat → Nat) (c : Nat), f_calls = lN c ∧ c + (bl - b) ≤ cb ∧ gz_I M F N pc rt bs kd mk na m ps e n (gz_o M F N pc rt bs kd mk na m ps e n n) lv nv c
def lx_K (M F N : Nat) (pc rt bs kd : Nat → Nat) (mk na : Nat → Int32) (bl cb : Nat) (f_code : Int32) (f_calls : Int64) (m : Nat → Nat) (e n b : Nat) (v : Int64) (lv nv : Nat → Int64) : Prop :=
  f_code = 1 → ∃ (ps : Nat → Nat → Nat) (c : Nat), f_calls = lN c ∧ c + (bl - b) ≤ cb ∧ gz_I M F N pc rt bs kd mk na m ps e n (gz_o M F N pc rt bs kd mk na m ps e n (tr_se N (pr_ar F pc kd na) n)) lv nv c ∧ fa_K N (pr_ar F pc kd na) kd (pr_ag na) (pr_z F bs pc) (pr_et F N pc rt bs kd mk na) (ps e) n v
def lx_P (M : Nat) (F : Nat) (N : Nat) (bl : Nat) (cb : Nat) (pc : Nat → Nat) (rt : Nat → Nat) (bs : Nat → Nat) (kd : Nat → Nat) (mk : Nat → Int32) (na : Nat → Int32) (f_code : Int32) (f_faultFunction : Int32) (f_bound : Int64) (f_foundParam : Int32) (f_foundDrop : Int32) (f_fuelLimit : Int64) (a_parents : Nat → Int32) (a_childIndexes : Nat → Int32) (a_subtreeEnds : Nat → Int32) (a_scopeSizes : Nat → Int32) (a_levelTypes : Nat → Int32) (a_levelParams : Nat → Int32) (a_levelDrops : Nat → Int32) (a_expectedTypes : Nat → Int32) (a_totals : Nat → Int64) (a_slotTypes : Nat → Int32) (a_slotValues : Nat → Int64) (u : Nat) : Prop := ∀ (m : Nat → Nat) (e : Nat) (n : Nat) (b : Nat) (wT : Nat) (vT : Nat) (eT : Nat) (f_calls : Int64) (f_waitingFunction : Int32) (f_currentValue : Int64) (a_waitingArgs : Nat → Int64) (a_callNodes : Nat → Int32) (a_levelValues : Nat → Int64) (a_nodeValues : Nat → Int64) (y_vals : Nat → Int64) (y_wNode : Nat → Int32) (y_wStep : Nat → Int32) (y_env : Nat → Int64) (y_actBase : Nat → Int32), b ≤ bl →
  (mc_U F N M bs (pr_ar F pc kd na) kd (pr_ag na) (pr_z F bs pc) (pr_pt F bs mk) (pr_rt F bs rt) (pr_gt mk na) m e n y_wNode y_wStep y_vals y_env a_levelValues a_nodeValues a_callNodes y_actBase wT vT eT → lx_U M F N pc rt bs kd mk na bl cb f_code f_calls m e n b a_levelValues a_nodeValues → ms_ms N (pr_ar F pc kd na) b (e + 1) n false ≤ u → lx_D cb ((nI M), (nI F), (nI N), f_code, f_faultFunction, f_bound, f_foundParam, f_foundDrop, 1, f_calls, (nI (e + 1)), f_fuelLimit, (nI b), (nI bl), f_waitingFunction, (nI n), 0, f_currentValue, (fun i => nI (pc i)), mk, (fun i => nI (rt i)), (fun i => nI (bs i)), (fun i => nI (kd i)), na, a_parents, a_childIndexes, a_subtreeEnds, a_scopeSizes, a_levelTypes, a_levelParams, a_levelDrops, a_expectedTypes, a_totals, a_slotTypes, a_slotValues, a_waitingArgs, a_callNodes, a_levelValues, a_nodeValues) u) ∧
  (mc_K F N M bs (pr_ar F pc kd na) kd (pr_ag na) (pr_z F bs pc) (pr_pt F bs mk) (pr_rt F bs rt) (pr_gt mk na) m e n f_currentValue y_wNode y_wStep y_vals y_env a_levelValues a_nodeValues a_callNodes y_actBase wT vT eT → lx_K M F N pc rt bs kd mk na bl cb f_code f_calls m e n b f_currentValue a_levelValues a_nodeValues → ms_ms N (pr_ar F pc kd na) b (e + 1) n true ≤ u → lx_D cb ((nI M), (nI F), (nI N), f_code, f_faultFunction, f_bound, f_foundParam, f_foundDrop, 1, f_calls, (nI (e + 1)), f_fuelLimit, (nI b), (nI bl), f_waitingFunction, (nI n), 1, f_currentValue, (fun i => nI (pc i)), mk, (fun i => nI (rt i)), (fun i => nI (bs i)), (fun i => nI (kd i)), na, a_parents, a_childIndexes, a_subtreeEnds, a_scopeSizes, a_levelTypes, a_levelParams, a_levelDrops, a_expectedTypes, a_totals, a_slotTypes, a_slotValues, a_waitingArgs, a_callNodes, a_levelValues, a_nodeValues) u)
variable {M : Nat} {F : Nat} {N : Nat} {bl : Nat} {cb : Nat} {pc : Nat → Nat} {rt : Nat → Nat} {bs : Nat → Nat} {kd : Nat → Nat} {mk : Nat → Int32} {na : Nat → Int32} {f_code : Int32} {f_faultFunction : Int32} {f_bound : Int64} {f_foundParam : Int32} {f_foundDrop : Int32} {f_fuelLimit : Int64} {a_parents : Nat → Int32} {a_childIndexes : Nat → Int32} {a_subtreeEnds : Nat → Int32} {a_scopeSizes : Nat → Int32} {a_levelTypes : Nat → Int32} {a_levelParams : Nat → Int32} {a_levelDrops : Nat → Int32} {a_expectedTypes : Nat → Int32} {a_totals : Nat → Int64} {a_slotTypes : Nat → Int32} {a_slotValues : Nat → Int64}
variable {m : Nat → Nat} {e : Nat} {n : Nat} {b : Nat} {wT : Nat} {vT : Nat} {eT : Nat} {f_calls : Int64} {f_waitingFunction : Int32} {f_currentValue : Int64} {a_waitingArgs : Nat → Int64} {a_callNodes : Nat → Int32} {a_levelValues : Nat → Int64} {a_nodeValues : Nat → Int64} {y_vals : Nat → Int64} {y_wNode : Nat → Int32} {y_wStep : Nat → Int32} {y_env : Nat → Int64} {y_actBase : Nat → Int32}
theorem lx_calls {ps : Nat → Nat → Nat} {c o : Nat} {lv nv : Nat → Int64} (I : gz_I M F N pc rt bs kd mk na m ps e n o lv nv c) : c ≤ pr_T M F N pc bs kd na (F - 1) := by
  have := I.2.2.2.2
  omega
theorem lx_leaf {u : Nat} (hM : 1 ≤ M ∧ M ≤ 12) (hP : pr_in F N pc rt bs kd mk na) (hS : rl_sl M a_slotTypes a_slotValues) (hc : f_code = 1 ∨ f_code = 6) (hl : rl_laid F N pc rt bs kd mk na a_parents a_childIndexes a_subtreeEnds a_scopeSizes) (hbl : bl ≤ 200) (hds : f_code = 1 → iv_ds F N pc bs kd na) (hbd : f_code = 1 → f_bound = lN (bd_c bd_C (pr_T M F N pc bs kd na (F - 1)))) (hfl : f_code = 1 → f_fuelLimit = f_bound) (hcb : cb < 1000000) (IH : ∀ u1, u1 < u → lx_P M F N bl cb pc rt bs kd mk na f_code f_faultFunction f_bound f_foundParam f_foundDrop f_fuelLimit a_parents a_childIndexes a_subtreeEnds a_scopeSizes a_levelTypes a_levelParams a_levelDrops a_expectedTypes a_totals a_slotTypes a_slotValues u1) (hb : b ≤ bl) (hU : mc_U F N M bs (pr_ar F pc kd na) kd (pr_ag na) (pr_z F bs pc) (pr_pt F bs mk) (pr_rt F bs rt) (pr_gt mk na) m e n y_wNode y_wStep y_vals y_env a_levelValues a_nodeValues a_callNodes y_actBase wT vT eT) (hG : lx_U M F N pc rt bs kd mk na bl cb f_code f_calls m e n b a_levelValues a_nodeValues) (hm : ms_ms N (pr_ar F pc kd na) b (e + 1) n false ≤ u) (hk : kd n = 1 ∨ kd n = 3) : lx_D cb ((nI M), (nI F), (nI N), f_code, f_faultFunction, f_bound, f_foundParam, f_foundDrop, 1, f_calls, (nI (e + 1)), f_fuelLimit, (nI b), (nI bl), f_waitingFunction, (nI n), 0, f_currentValue, (fun i => nI (pc i)), mk, (fun i => nI (rt i)), (fun i => nI (bs i)), (fun i => nI (kd i)), na, a_parents, a_childIndexes, a_subtreeEnds, a_scopeSizes, a_levelTypes, a_levelParams, a_levelDrops, a_expectedTypes, a_totals, a_slotTypes, a_slotValues, a_waitingArgs, a_callNodes, a_levelValues, a_nodeValues) u := by
  have hok := hl.2.1
  obtain ⟨r1, r2, r3, r4, r5, r6, r7⟩ := mk_roomU hok hU
  have hsm := mk_sm hU.1.2.2.2.2.2.2.1
  have hV : vl_V M (et_et N (pr_ar F pc kd na) kd (pr_rt F bs rt) (pr_gt mk na) n) 0 := by
    rcases hk with k | k
    · rw [pw_e1 hok r1 k]; exact vl_nat (k := 0) (by omega)
    · rw [pw_e3 hok r1 k]; exact vl_list (by omega) (vl_nil_ok M)
  have ms := ms_leaf hok (b := b) (d := e + 1) r1
  refine lx_step ((IH _ (by omega) m e n b (wT - 1) (vT + 1) eT f_calls f_waitingFunction 0 a_waitingArgs a_callNodes a_levelValues a_nodeValues (vp_updL y_vals vT 0) y_wNode y_wStep y_env y_actBase hb).2 (mk_leaf hok hU hV) (fun y => ?_) (Nat.le_refl _)) (by omega) (fun post fu i hi h => ?_)
  · obtain ⟨ps, c, c1, c2, c3⟩ := hG y
    exact ⟨ps, c, c1, c2, gt_leaf hok hsm c3, fa_no (fx_pcl hP hok.1) r1 (by omega)⟩
  · exact rx_en hi (xe_leaf hP r1 hk (rx_of h))
theorem lx_var {u : Nat} (hM : 1 ≤ M ∧ M ≤ 12) (hP : pr_in F N pc rt bs kd mk na) (hS : rl_sl M a_slotTypes a_slotValues) (hc : f_code = 1 ∨ f_code = 6) (hl : rl_laid F N pc rt bs kd mk na a_parents a_childIndexes a_subtreeEnds a_scopeSizes) (hbl : bl ≤ 200) (hds : f_code = 1 → iv_ds F N pc bs kd na) (hbd : f_code = 1 → f_bound = lN (bd_c bd_C (pr_T M F N pc bs kd na (F - 1)))) (hfl : f_code = 1 → f_fuelLimit = f_bound) (hcb : cb < 1000000) (IH : ∀ u1, u1 < u → lx_P M F N bl cb pc rt bs kd mk na f_code f_faultFunction f_bound f_foundParam f_foundDrop f_fuelLimit a_parents a_childIndexes a_subtreeEnds a_scopeSizes a_levelTypes a_levelParams a_levelDrops a_expectedTypes a_totals a_slotTypes a_slotValues u1) (hb : b ≤ bl) (hU : mc_U F N M bs (pr_ar F pc kd na) kd (pr_ag na) (pr_z F bs pc) (pr_pt F bs mk) (pr_rt F bs rt) (pr_gt mk na) m e n y_wNode y_wStep y_vals y_env a_levelValues a_nodeValues a_callNodes y_actBase wT vT eT) (hG : lx_U M F N pc rt bs kd mk na bl cb f_code f_calls m e n b a_levelValues a_nodeValues) (hm : ms_ms N (pr_ar F pc kd na) b (e + 1) n false ≤ u) (hk : kd n = 0) : lx_D cb ((nI M), (nI F), (nI N), f_code, f_faultFunction, f_bound, f_foundParam, f_foundDrop, 1, f_calls, (nI (e + 1)), f_fuelLimit, (nI b), (nI bl), f_waitingFunction, (nI n), 0, f_currentValue, (fun i => nI (pc i)), mk, (fun i => nI (rt i)), (fun i => nI (bs i)), (fun i => nI (kd i)), na, a_parents, a_childIndexes, a_subtreeEnds, a_scopeSizes, a_levelTypes, a_levelParams, a_levelDrops, a_expectedTypes, a_totals, a_slotTypes, a_slotValues, a_waitingArgs, a_callNodes, a_levelValues, a_nodeValues) u := by
  have hok := hl.2.1
  obtain ⟨r1, r2, r3, r4, r5, r6, r7⟩ := mk_roomU hok hU
  have hsm := mk_sm hU.1.2.2.2.2.2.2.1
  obtain ⟨x1, x2⟩ := (hl.2.2.1 n r1).1 hk
  have x1' : pr_ag na n < sq_sc N (pr_ar F pc kd na) kd (pr_z F bs pc) n := x1
  obtain ⟨p1, p2⟩ := hU.1.2.2.2.2.2.2.2.2.2 (pr_ag na n) x1'
  have hV : vl_V M (et_et N (pr_ar F pc kd na) kd (pr_rt F bs rt) (pr_gt mk na) n) (a_levelValues (45 * e + pr_ag na n)) := by
    rw [pw_e0 hok r1 hk]; exact p2
  have ms := ms_leaf hok (b := b) (d := e + 1) r1
  refine lx_step ((IH _ (by omega) m e n b (wT - 1) (vT + 1) eT f_calls f_waitingFunction (a_levelValues (45 * e + pr_ag na n)) a_waitingArgs a_callNodes a_levelValues a_nodeValues (vp_updL y_vals vT (a_levelValues (45 * e + pr_ag na n))) y_wNode y_wStep y_env y_actBase hb).2 (mk_leaf hok hU hV) (fun y => ?_) (Nat.le_refl _)) (by omega) (fun post fu i hi h => ?_)
  · obtain ⟨ps, c, c1, c2, c3⟩ := hG y
    exact ⟨ps, c, c1, c2, gt_leaf hok hsm c3, fa_var (fx_pcl hP hok.1) r1 hk x1' (pw_e0 hok r1 hk) c3.2.1⟩
  · exact rx_en hi (xe_var hP r1 hk x2 (by omega) r2 (rx_of h))
theorem lx_down {u : Nat} (hM : 1 ≤ M ∧ M ≤ 12) (hP : pr_in F N pc rt bs kd mk na) (hS : rl_sl M a_slotTypes a_slotValues) (hc : f_code = 1 ∨ f_code = 6) (hl : rl_laid F N pc rt bs kd mk na a_parents a_childIndexes a_subtreeEnds a_scopeSizes) (hbl : bl ≤ 200) (hds : f_code = 1 → iv_ds F N pc bs kd na) (hbd : f_code = 1 → f_bound = lN (bd_c bd_C (pr_T M F N pc bs kd na (F - 1)))) (hfl : f_code = 1 → f_fuelLimit = f_bound) (hcb : cb < 1000000) (IH : ∀ u1, u1 < u → lx_P M F N bl cb pc rt bs kd mk na f_code f_faultFunction f_bound f_foundParam f_foundDrop f_fuelLimit a_parents a_childIndexes a_subtreeEnds a_scopeSizes a_levelTypes a_levelParams a_levelDrops a_expectedTypes a_totals a_slotTypes a_slotValues u1) (hb : b ≤ bl) (hU : mc_U F N M bs (pr_ar F pc kd na) kd (pr_ag na) (pr_z F bs pc) (pr_pt F bs mk) (pr_rt F bs rt) (pr_gt mk na) m e n y_wNode y_wStep y_vals y_env a_levelValues a_nodeValues a_callNodes y_actBase wT vT eT) (hG : lx_U M F N pc rt bs kd mk na bl cb f_code f_calls m e n b a_levelValues a_nodeValues) (hm : ms_ms N (pr_ar F pc kd na) b (e + 1) n false ≤ u) (hk : kd n ≠ 0 ∧ kd n ≠ 1 ∧ kd n ≠ 3) : lx_D cb ((nI M), (nI F), (nI N), f_code, f_faultFunction, f_bound, f_foundParam, f_foundDrop, 1, f_calls, (nI (e + 1)), f_fuelLimit, (nI b), (nI bl), f_waitingFunction, (nI n), 0, f_currentValue, (fun i => nI (pc i)), mk, (fun i => nI (rt i)), (fun i => nI (bs i)), (fun i => nI (kd i)), na, a_parents, a_childIndexes, a_subtreeEnds, a_scopeSizes, a_levelTypes, a_levelParams, a_levelDrops, a_expectedTypes, a_totals, a_slotTypes, a_slotValues, a_waitingArgs, a_callNodes, a_levelValues, a_nodeValues) u := by
  have hok := hl.2.1
  obtain ⟨r1, r2, r3, r4, r5, r6, r7⟩ := mk_roomU hok hU
  have hsm := mk_sm hU.1.2.2.2.2.2.2.1
  have h7 := hP.2.2.2.2.2.1 n
  have hk2 := hok.2.1 n r1
  have ha : 0 < pr_ar F pc kd na n := by
    rcases (show kd n = 2 ∨ kd n = 4 ∨ kd n = 5 ∨ kd n = 6 ∨ kd n = 7 by omega) with k | k | k | k | k
    · have := hk2.2.2.1 k; omega
    · have := hk2.2.2.2.1 k; omega
    · obtain ⟨a1, a2, a3⟩ := pr_ar5 hok.1 hP hl.2.2.1 r1 k
      have := hP.2.2.2.1 _ a1
      omega
    · have := hk2.2.2.2.2 (Or.inl k); omega
    · have := hk2.2.2.2.2 (Or.inr k); omega
  have ms := ms_first hok (b := b) (d := e + 1) r1 ha
  refine lx_step ((IH _ (by omega) m e (n + 1) b (wT + 1) vT eT f_calls f_waitingFunction f_currentValue a_waitingArgs a_callNodes a_levelValues a_nodeValues y_vals (upd y_wNode wT (nI (n + 1))) (upd (upd y_wStep (wT - 1) 1) wT 0) y_env y_actBase hb).1 (mk_first hok hU ha) (fun y => ?_) (Nat.le_refl _)) (by omega) (fun post fu i hi h => ?_)
  · obtain ⟨ps, c, c1, c2, c3⟩ := hG y
    exact ⟨ps, c, c1, c2, gt_first hok hsm r1 ha c3⟩
  · exact rx_en hi (xe_down hP r1 hk (rx_of h))
theorem lx_ret {u : Nat} (hM : 1 ≤ M ∧ M ≤ 12) (hP : pr_in F N pc rt bs kd mk na) (hS : rl_sl M a_slotTypes a_slotValues) (hc : f_code = 1 ∨ f_code = 6) (hl : rl_laid F N pc rt bs kd mk na a_parents a_childIndexes a_subtreeEnds a_scopeSizes) (hbl : bl ≤ 200) (hds : f_code = 1 → iv_ds F N pc bs kd na) (hbd : f_code = 1 → f_bound = lN (bd_c bd_C (pr_T M F N pc bs kd na (F - 1)))) (hfl : f_code = 1 → f_fuelLimit = f_bound) (hcb : cb < 1000000) (IH : ∀ u1, u1 < u → lx_P M F N bl cb pc rt bs kd mk na f_code f_faultFunction f_bound f_foundParam f_foundDrop f_fuelLimit a_parents a_childIndexes a_subtreeEnds a_scopeSizes a_levelTypes a_levelParams a_levelDrops a_expectedTypes a_totals a_slotTypes a_slotValues u1) (hb : b ≤ bl) (hK : mc_K F N M bs (pr_ar F pc kd na) kd (pr_ag na) (pr_z F bs pc) (pr_pt F bs mk) (pr_rt F bs rt) (pr_gt mk na) m e n f_currentValue y_wNode y_wStep y_vals y_env a_levelValues a_nodeValues a_callNodes y_actBase wT vT eT) (hG : lx_K M F N pc rt bs kd mk na bl cb f_code f_calls m e n b f_currentValue a_levelValues a_nodeValues) (hm : ms_ms N (pr_ar F pc kd na) b (e + 1) n true ≤ u) (hp : tr_pa N (pr_ar F pc kd na) n = none) (he : e ≠ 0) : lx_D cb ((nI M), (nI F), (nI N), f_code, f_faultFunction, f_bound, f_foundParam, f_foundDrop, 1, f_calls, (nI (e + 1)), f_fuelLimit, (nI b), (nI bl), f_waitingFunction, (nI n), 1, f_currentValue, (fun i => nI (pc i)), mk, (fun i => nI (rt i)), (fun i => nI (bs i)), (fun i => nI (kd i)), na, a_parents, a_childIndexes, a_subtreeEnds, a_scopeSizes, a_levelTypes, a_levelParams, a_levelDrops, a_expectedTypes, a_totals, a_slotTypes, a_slotValues, a_waitingArgs, a_callNodes, a_levelValues, a_nodeValues) u := by
  have hok := hl.2.1
  obtain ⟨r1, r2, r3, r4, r5, r6, r7, r8⟩ := mk_roomK hok hK
  obtain ⟨e, rfl⟩ : ∃ e', e = e' + 1 := ⟨e - 1, by omega⟩
  obtain ⟨t1, t2, t3, t4, t5, t6, t7⟩ := mk_topR hK hp
  have hpn := (hl.2.2.2 n r1).1
  rw [tb_P_none hp] at hpn
  have ms := ms_ret hok (b := b) (d := e + 1) t4 r1
  refine lx_step ((IH _ (by omega) m e (m e) b (wT - 1) vT (mc_eb N (pr_ar F pc kd na) kd (pr_z F bs pc) m (e + 1)) f_calls f_waitingFunction f_currentValue a_waitingArgs a_callNodes a_levelValues a_nodeValues y_vals y_wNode y_wStep y_env y_actBase hb).2 (mk_ret hok hK hp) (fun y => ?_) (Nat.le_refl _)) (by omega) (fun post fu i hi h => ?_)
  · obtain ⟨ps, c, c1, c2, c3, c4⟩ := hG y
    exact ⟨ps, c, c1, c2, gt_ret c3, fa_no (fx_pcl hP hok.1) t4 (by omega)⟩
  · refine rx_up hi (xh_root hP r1 hpn (fun y => absurd y (by omega)) (fun _ => ?_) r2)
    rw [t6]
    exact rx_of h
theorem lx_done {u : Nat} (hM : 1 ≤ M ∧ M ≤ 12) (hP : pr_in F N pc rt bs kd mk na) (hS : rl_sl M a_slotTypes a_slotValues) (hc : f_code = 1 ∨ f_code = 6) (hl : rl_laid F N pc rt bs kd mk na a_parents a_childIndexes a_subtreeEnds a_scopeSizes) (hbl : bl ≤ 200) (hds : f_code = 1 → iv_ds F N pc bs kd na) (hbd : f_code = 1 → f_bound = lN (bd_c bd_C (pr_T M F N pc bs kd na (F - 1)))) (hfl : f_code = 1 → f_fuelLimit = f_bound) (hcb : cb < 1000000) (hb : b ≤ bl) (hK : mc_K F N M bs (pr_ar F pc kd na) kd (pr_ag na) (pr_z F bs pc) (pr_pt F bs mk) (pr_rt F bs rt) (pr_gt mk na) m e n f_currentValue y_wNode y_wStep y_vals y_env a_levelValues a_nodeValues a_callNodes y_actBase wT vT eT) (hG : lx_K M F N pc rt bs kd mk na bl cb f_code f_calls m e n b f_currentValue a_levelValues a_nodeValues) (hp : tr_pa N (pr_ar F pc kd na) n = none) (he : e = 0) : lx_D cb ((nI M), (nI F), (nI N), f_code, f_faultFunction, f_bound, f_foundParam, f_foundDrop, 1, f_calls, (nI (e + 1)), f_fuelLimit, (nI b), (nI bl), f_waitingFunction, (nI n), 1, f_currentValue, (fun i => nI (pc i)), mk, (fun i => nI (rt i)), (fun i => nI (bs i)), (fun i => nI (kd i)), na, a_parents, a_childIndexes, a_subtreeEnds, a_scopeSizes, a_levelTypes, a_levelParams, a_levelDrops, a_expectedTypes, a_totals, a_slotTypes, a_slotValues, a_waitingArgs, a_callNodes, a_levelValues, a_nodeValues) u := by
  have hok := hl.2.1
  subst he
  obtain ⟨r1, r2, r3, r4, r5, r6, r7, r8⟩ := mk_roomK hok hK
  have hpn := (hl.2.2.2 n r1).1
  rw [tb_P_none hp] at hpn
  refine lx_end (x' := ((nI M), (nI F), (nI N), f_code, f_faultFunction, f_bound, f_foundParam, f_foundDrop, 2, f_calls, 0, f_fuelLimit, (nI b), (nI bl), f_waitingFunction, (nI n), 1, f_currentValue, (fun i => nI (pc i)), mk, (fun i => nI (rt i)), (fun i => nI (bs i)), (fun i => nI (kd i)), na, a_parents, a_childIndexes, a_subtreeEnds, a_scopeSizes, a_levelTypes, a_levelParams, a_levelDrops, a_expectedTypes, a_totals, a_slotTypes, a_slotValues, a_waitingArgs, a_callNodes, a_levelValues, a_nodeValues)) (iv_mk hM hP hS (iv_idle (by decide) (fun _ => by decide) (fun _ => hl) hds hbd (fun y => ?_))) (fun post fu i hi h => ?_)
  · obtain ⟨ps, c, c1, c2, c3, c4⟩ := hG y
    exact ⟨c, c1, by omega, lx_calls c3⟩
  · exact rx_up hi (xh_root (e := 0) hP r1 hpn (fun _ => rx_end h) (fun y => absurd rfl y) r2)
end
end
section
section
variable {M : Nat} {F : Nat} {N : Nat} {bl : Nat} {cb : Nat} {pc : Nat → Nat} {rt : Nat → Nat} {bs : Nat → Nat} {kd : Nat → Nat} {mk : Nat → Int32} {na : Nat → Int32} {f_code : Int32} {f_faultFunction : Int32} {f_bound : Int64} {f_foundParam : Int32} {f_foundDrop : Int32} {f_fuelLimit : Int64} {a_parents : Nat → Int32} {a_childIndexes : Nat → Int32} {a_subtreeEnds : Nat → Int32} {a_scopeSizes : Nat → Int32} {a_levelTypes : Nat → Int32} {a_levelParams : Nat → Int32} {a_levelDrops : Nat → Int32} {a_expectedTypes : Nat → Int32} {a_totals : Nat → Int64} {a_slotTypes : Nat → Int32} {a_slotValues : Nat → Int64}
variable {m : Nat → Nat} {e : Nat} {n : Nat} {b : Nat} {wT : Nat} {vT : Nat} {eT : Nat} {f_calls : Int64} {f_waitingFunction : Int32} {f_currentValue : Int64} {a_waitingArgs : Nat → Int64} {a_callNodes : Nat → Int32} {a_levelValues : Nat → Int64} {a_nodeValues : Nat → Int64} {y_vals : Nat → Int64} {y_wNode : Nat → Int32} {y_wStep : Nat → Int32} {y_env : Nat → Int64} {y_actBase : Nat → Int32}
theorem lx_over {u p : Nat} (hM : 1 ≤ M ∧ M ≤ 12) (hP : pr_in F N pc rt bs kd mk na) (hS : rl_sl M a_slotTypes a_slotValues) (hc : f_code = 1 ∨ f_code = 6) (hl : rl_laid F N pc rt bs kd mk na a_parents a_childIndexes a_subtreeEnds a_scopeSizes) (hbl : bl ≤ 200) (hds : f_code = 1 → iv_ds F N pc bs kd na) (hbd : f_code = 1 → f_bound = lN (bd_c bd_C (pr_T M F N pc bs kd na (F - 1)))) (hfl : f_code = 1 → f_fuelLimit = f_bound) (hcb : cb < 1000000) (hb : b ≤ bl) (hG : lx_K M F N pc rt bs kd mk na bl cb f_code f_calls m e n b f_currentValue a_levelValues a_nodeValues) (hX : ∀ (post : Int32 → St2 → Prop) (fu i : Nat), i < 500000 → post 4 ((nI M), (nI F), (nI N), f_code, f_faultFunction, f_bound, f_foundParam, f_foundDrop, 4, f_calls, (nI (e + 1)), f_fuelLimit, (nI b), (nI bl), f_waitingFunction, (nI n), 1, f_currentValue, (fun i => nI (pc i)), mk, (fun i => nI (rt i)), (fun i => nI (bs i)), (fun i => nI (kd i)), na, a_parents, a_childIndexes, a_subtreeEnds, a_scopeSizes, a_levelTypes, a_levelParams, a_levelDrops, a_expectedTypes, a_totals, a_slotTypes, a_slotValues, a_waitingArgs, a_callNodes, a_levelValues, a_nodeValues) → rn_X post (fu + 2) i 1 ((nI M), (nI F), (nI N), f_code, f_faultFunction, f_bound, f_foundParam, f_foundDrop, 1, f_calls, (nI (e + 1)), f_fuelLimit, (nI b), (nI bl), f_waitingFunction, (nI n), 1, f_currentValue, (fun i => nI (pc i)), mk, (fun i => nI (rt i)), (fun i => nI (bs i)), (fun i => nI (kd i)), na, a_parents, a_childIndexes, a_subtreeEnds, a_scopeSizes, a_levelTypes, a_levelParams, a_levelDrops, a_expectedTypes, a_totals, a_slotTypes, a_slotValues, a_waitingArgs, a_callNodes, a_levelValues, a_nodeValues)) : lx_D cb ((nI M), (nI F), (nI N), f_code, f_faultFunction, f_bound, f_foundParam, f_foundDrop, 1, f_calls, (nI (e + 1)), f_fuelLimit, (nI b), (nI bl), f_waitingFunction, (nI n), 1, f_currentValue, (fun i => nI (pc i)), mk, (fun i => nI (rt i)), (fun i => nI (bs i)), (fun i => nI (kd i)), na, a_parents, a_childIndexes, a_subtreeEnds, a_scopeSizes, a_levelTypes, a_levelParams, a_levelDrops, a_expectedTypes, a_totals, a_slotTypes, a_slotValues, a_waitingArgs, a_callNodes, a_levelValues, a_nodeValues) u := by
  refine lx_end (x' := ((nI M), (nI F), (nI N), f_code, f_faultFunction, f_bound, f_foundParam, f_foundDrop, 4, f_calls, (nI (e + 1)), f_fuelLimit, (nI b), (nI bl), f_waitingFunction, (nI n), 1, f_currentValue, (fun i => nI (pc i)), mk, (fun i => nI (rt i)), (fun i => nI (bs i)), (fun i => nI (kd i)), na, a_parents, a_childIndexes, a_subtreeEnds, a_scopeSizes, a_levelTypes, a_levelParams, a_levelDrops, a_expectedTypes, a_totals, a_slotTypes, a_slotValues, a_waitingArgs, a_callNodes, a_levelValues, a_nodeValues)) (iv_mk hM hP hS (iv_idle (by decide) (fun _ => by decide) (fun _ => hl) hds hbd (fun y => ?_))) hX
  obtain ⟨ps, c, c1, c2, c3, c4⟩ := hG y
  exact ⟨c, c1, by omega, lx_calls c3⟩
theorem lx_succ {u p : Nat} (hM : 1 ≤ M ∧ M ≤ 12) (hP : pr_in F N pc rt bs kd mk na) (hS : rl_sl M a_slotTypes a_slotValues) (hc : f_code = 1 ∨ f_code = 6) (hl : rl_laid F N pc rt bs kd mk na a_parents a_childIndexes a_subtreeEnds a_scopeSizes) (hbl : bl ≤ 200) (hds : f_code = 1 → iv_ds F N pc bs kd na) (hbd : f_code = 1 → f_bound = lN (bd_c bd_C (pr_T M F N pc bs kd na (F - 1)))) (hfl : f_code = 1 → f_fuelLimit = f_bound) (hcb : cb < 1000000) (IH : ∀ u1, u1 < u → lx_P M F N bl cb pc rt bs kd mk na f_code f_faultFunction f_bound f_foundParam f_foundDrop f_fuelLimit a_parents a_childIndexes a_subtreeEnds a_scopeSizes a_levelTypes a_levelParams a_levelDrops a_expectedTypes a_totals a_slotTypes a_slotValues u1) (hb : b ≤ bl) (hK : mc_K F N M bs (pr_ar F pc kd na) kd (pr_ag na) (pr_z F bs pc) (pr_pt F bs mk) (pr_rt F bs rt) (pr_gt mk na) m e n f_currentValue y_wNode y_wStep y_vals y_env a_levelValues a_nodeValues a_callNodes y_actBase wT vT eT) (hG : lx_K M F N pc rt bs kd mk na bl cb f_code f_calls m e n b f_currentValue a_levelValues a_nodeValues) (hm : ms_ms N (pr_ar F pc kd na) b (e + 1) n true ≤ u) (hp : tr_pa N (pr_ar F pc kd na) n = some p) (hk : kd p = 2) : lx_D cb ((nI M), (nI F), (nI N), f_code, f_faultFunction, f_bound, f_foundParam, f_foundDrop, 1, f_calls, (nI (e + 1)), f_fuelLimit, (nI b), (nI bl), f_waitingFunction, (nI n), 1, f_currentValue, (fun i => nI (pc i)), mk, (fun i => nI (rt i)), (fun i => nI (bs i)), (fun i => nI (kd i)), na, a_parents, a_childIndexes, a_subtreeEnds, a_scopeSizes, a_levelTypes, a_levelParams, a_levelDrops, a_expectedTypes, a_totals, a_slotTypes, a_slotValues, a_waitingArgs, a_callNodes, a_levelValues, a_nodeValues) u := by
  have hok := hl.2.1
  obtain ⟨r1, r2, r3, r4, r5, r6, r7, r8⟩ := mk_roomK hok hK
  have hsm := mk_sm hK.1.2.2.2.2.2.2.1
  obtain ⟨g1, g2, g3, g4, g5, g6⟩ := pw_fnpa hok r1 hp
  have hpn := (hl.2.2.2 n r1).1
  rw [tb_P_some hp] at hpn
  have ha := (hok.2.1 p g1).2.2.1 hk
  have c0 : tr_ci N (pr_ar F pc kd na) n = 0 := by omega
  have en1 : n = p + 1 := by rw [g5, c0, tr_ch_0]
  have pn := mc_pn_some (kd := kd) hp
  unfold mc_pw at pn
  rw [if_neg (by omega)] at pn
  have sn : sq_sc N (pr_ar F pc kd na) kd (pr_z F bs pc) n = sq_sc N (pr_ar F pc kd na) kd (pr_z F bs pc) p := by rw [sq_some hp, sq_cv0 (Or.inr ⟨by omega, by omega⟩)]; rfl
  obtain ⟨en, ep⟩ := pw_e2 hok r1 hp hk
  have hV := hK.2.2.2.2.2
  rw [en] at hV
  obtain ⟨q, hq, eq⟩ := hV.1 rfl
  have eM : (nI M).toInt64 = lN M := nI_l (by omega)
  by_cases hqM : q = M
  · refine lx_over (p := p) hM hP hS hc hl hbl hds hbd hfl hcb hb hG (fun post fu i hi h => ?_)
    exact rx_up hi (xh_succ hP r1 g1 hpn hk (fun _ => rx_end h) (fun y => absurd (by rw [eq, eM, hqM]) y))
  · have ms := ms_up hok (b := b) (d := e + 1) r1 hp
    have e1 : f_currentValue + 1 = lN (q + 1) := by rw [eq, lN_1]
    refine lx_step ((IH _ (by omega) m e p b (wT - 1) (mc_vb N (pr_ar F pc kd na) kd m e + mc_pn N (pr_ar F pc kd na) kd p + 1) eT f_calls f_waitingFunction (f_currentValue + 1) a_waitingArgs a_callNodes a_levelValues a_nodeValues (vp_updL y_vals (mc_vb N (pr_ar F pc kd na) kd m e + mc_pn N (pr_ar F pc kd na) kd p) (f_currentValue + 1)) y_wNode y_wStep y_env y_actBase hb).2 (mk_up hok hK hp (by rw [ep, e1]; exact vl_nat (by omega)) rfl (by rw [← sn]; exact hK.2.2.2.1)) (fun y => ?_) (Nat.le_refl _)) (by omega) (fun post fu i hi h => ?_)
    · obtain ⟨ps, c, c1, c2, c3, c4⟩ := hG y
      refine ⟨ps, c, c1, c2, gt_up hok hsm r1 hp c3, fa_grow (fx_pcl hP hok.1) g1 hp (Or.inl ⟨hk, en1⟩) ?_ c4⟩
      show sz_sz (et_et N (pr_ar F pc kd na) kd (pr_rt F bs rt) (pr_gt mk na) p) _ = sz_sz (et_et N (pr_ar F pc kd na) kd (pr_rt F bs rt) (pr_gt mk na) n) _ + 1
      rw [ep, en, e1, eq, sz_nat (by omega), sz_nat (by omega)]
    · exact rx_up hi (xh_succ hP r1 g1 hpn hk (fun y => absurd ((lN_eq (by omega) (by omega)).mp ((eq.symm.trans y).trans eM)) hqM) (fun _ => rx_of h))
theorem lx_next {u p : Nat} (hM : 1 ≤ M ∧ M ≤ 12) (hP : pr_in F N pc rt bs kd mk na) (hS : rl_sl M a_slotTypes a_slotValues) (hc : f_code = 1 ∨ f_code = 6) (hl : rl_laid F N pc rt bs kd mk na a_parents a_childIndexes a_subtreeEnds a_scopeSizes) (hbl : bl ≤ 200) (hds : f_code = 1 → iv_ds F N pc bs kd na) (hbd : f_code = 1 → f_bound = lN (bd_c bd_C (pr_T M F N pc bs kd na (F - 1)))) (hfl : f_code = 1 → f_fuelLimit = f_bound) (hcb : cb < 1000000) (IH : ∀ u1, u1 < u → lx_P M F N bl cb pc rt bs kd mk na f_code f_faultFunction f_bound f_foundParam f_foundDrop f_fuelLimit a_parents a_childIndexes a_subtreeEnds a_scopeSizes a_levelTypes a_levelParams a_levelDrops a_expectedTypes a_totals a_slotTypes a_slotValues u1) (hb : b ≤ bl) (hK : mc_K F N M bs (pr_ar F pc kd na) kd (pr_ag na) (pr_z F bs pc) (pr_pt F bs mk) (pr_rt F bs rt) (pr_gt mk na) m e n f_currentValue y_wNode y_wStep y_vals y_env a_levelValues a_nodeValues a_callNodes y_actBase wT vT eT) (hG : lx_K M F N pc rt bs kd mk na bl cb f_code f_calls m e n b f_currentValue a_levelValues a_nodeValues) (hm : ms_ms N (pr_ar F pc kd na) b (e + 1) n true ≤ u) (hp : tr_pa N (pr_ar F pc kd na) n = some p) (hk : kd p = 4 ∨ kd p = 5) (hci : tr_ci N (pr_ar F pc kd na) n + 1 < pr_ar F pc kd na p) : lx_D cb ((nI M), (nI F), (nI N), f_code, f_faultFunction, f_bound, f_foundParam, f_foundDrop, 1, f_calls, (nI (e + 1)), f_fuelLimit, (nI b), (nI bl), f_waitingFunction, (nI n), 1, f_currentValue, (fun i => nI (pc i)), mk, (fun i => nI (rt i)), (fun i => nI (bs i)), (fun i => nI (kd i)), na, a_parents, a_childIndexes, a_subtreeEnds, a_scopeSizes, a_levelTypes, a_levelParams, a_levelDrops, a_expectedTypes, a_totals, a_slotTypes, a_slotValues, a_waitingArgs, a_callNodes, a_levelValues, a_nodeValues) u := by
  have hok := hl.2.1
  obtain ⟨r1, r2, r3, r4, r5, r6, r7, r8⟩ := mk_roomK hok hK
  have hsm := mk_sm hK.1.2.2.2.2.2.2.1
  obtain ⟨g1, g2, g3, g4, g5, g6⟩ := pw_fnpa hok r1 hp
  obtain ⟨q1, q2, q3, q4⟩ := hl.2.2.2 n r1
  rw [tb_P_some hp] at q1
  have ec : tr_ch N (pr_ar F pc kd na) p (tr_ci N (pr_ar F pc kd na) n + 1) = tr_se N (pr_ar F pc kd na) n := by rw [tr_ch_s, ← g5]
  obtain ⟨a1, a2, a3, a4, a5, a6, a7⟩ := pg_ch hok.1 (n := p) (c := tr_ci N (pr_ar F pc kd na) n + 1) g1 hci
  rw [ec] at a1 a3
  have ms := ms_sib hok (b := b) (d := e + 1) r1 a1 hp a3 (Nat.le_refl _)
  refine lx_step ((IH _ (by omega) m e (tr_se N (pr_ar F pc kd na) n) b (wT + 1) vT eT f_calls f_waitingFunction f_currentValue a_waitingArgs a_callNodes a_levelValues (vp_updL a_nodeValues (64 * e + n) f_currentValue) y_vals (upd y_wNode wT (nI (tr_se N (pr_ar F pc kd na) n))) (upd (upd y_wStep (wT - 1) (nI (tr_ci N (pr_ar F pc kd na) n + 2))) wT 0) y_env y_actBase hb).1 (mk_next hok hK hp hk hci) (fun y => ?_) (Nat.le_refl _)) (by omega) (fun post fu i hi h => ?_)
  · obtain ⟨ps, c, c1, c2, c3, c4⟩ := hG y
    exact ⟨ps, c, c1, c2, gt_next hok hsm r1 hp hk hci c3 c4⟩
  · rcases hk with k | k
    · have ha := (hok.2.1 p g1).2.2.2.1 k
      have c0 : tr_ci N (pr_ar F pc kd na) n = 0 := by omega
      rw [c0] at q2
      exact rx_up hi (xh_cons0 hP r1 g1 q1 k r2 q2 q3 (rx_of h))
    · obtain ⟨f1, f2, f3⟩ := pr_ar5 hok.1 hP hl.2.2.1 g1 k
      have hp3 := hP.2.2.1 (pr_ag na p)
      exact rx_up hi (xh_call hP (fun j hj => (hl.2.2.2 j hj).2.2.1) r1 g1 q1 k r2 f1 f3 (fun c hc => (pg_ch hok.1 g1 (by omega)).1) q2 (by omega) (fun _ => rx_of h) (fun y => by omega))
theorem lx_cons1 {u p : Nat} (hM : 1 ≤ M ∧ M ≤ 12) (hP : pr_in F N pc rt bs kd mk na) (hS : rl_sl M a_slotTypes a_slotValues) (hc : f_code = 1 ∨ f_code = 6) (hl : rl_laid F N pc rt bs kd mk na a_parents a_childIndexes a_subtreeEnds a_scopeSizes) (hbl : bl ≤ 200) (hds : f_code = 1 → iv_ds F N pc bs kd na) (hbd : f_code = 1 → f_bound = lN (bd_c bd_C (pr_T M F N pc bs kd na (F - 1)))) (hfl : f_code = 1 → f_fuelLimit = f_bound) (hcb : cb < 1000000) (IH : ∀ u1, u1 < u → lx_P M F N bl cb pc rt bs kd mk na f_code f_faultFunction f_bound f_foundParam f_foundDrop f_fuelLimit a_parents a_childIndexes a_subtreeEnds a_scopeSizes a_levelTypes a_levelParams a_levelDrops a_expectedTypes a_totals a_slotTypes a_slotValues u1) (hb : b ≤ bl) (hK : mc_K F N M bs (pr_ar F pc kd na) kd (pr_ag na) (pr_z F bs pc) (pr_pt F bs mk) (pr_rt F bs rt) (pr_gt mk na) m e n f_currentValue y_wNode y_wStep y_vals y_env a_levelValues a_nodeValues a_callNodes y_actBase wT vT eT) (hG : lx_K M F N pc rt bs kd mk na bl cb f_code f_calls m e n b f_currentValue a_levelValues a_nodeValues) (hm : ms_ms N (pr_ar F pc kd na) b (e + 1) n true ≤ u) (hp : tr_pa N (pr_ar F pc kd na) n = some p) (hk : kd p = 4) (hci : tr_ci N (pr_ar F pc kd na) n ≠ 0) : lx_D cb ((nI M), (nI F), (nI N), f_code, f_faultFunction, f_bound, f_foundParam, f_foundDrop, 1, f_calls, (nI (e + 1)), f_fuelLimit, (nI b), (nI bl), f_waitingFunction, (nI n), 1, f_currentValue, (fun i => nI (pc i)), mk, (fun i => nI (rt i)), (fun i => nI (bs i)), (fun i => nI (kd i)), na, a_parents, a_childIndexes, a_subtreeEnds, a_scopeSizes, a_levelTypes, a_levelParams, a_levelDrops, a_expectedTypes, a_totals, a_slotTypes, a_slotValues, a_waitingArgs, a_callNodes, a_levelValues, a_nodeValues) u := by
  have hok := hl.2.1
  obtain ⟨r1, r2, r3, r4, r5, r6, r7, r8⟩ := mk_roomK hok hK
  have hsm := mk_sm hK.1.2.2.2.2.2.2.1
  obtain ⟨g1, g2, g3, g4, g5, g6⟩ := pw_fnpa hok r1 hp
  obtain ⟨q1, q2, q3, q4⟩ := hl.2.2.2 n r1
  rw [tb_P_some hp] at q1
  have ha := (hok.2.1 p g1).2.2.2.1 hk
  have c1 : tr_ci N (pr_ar F pc kd na) n = 1 := by omega
  have hcx : ¬ a_childIndexes n = 0 := by rw [q2, c1]; decide
  have en1 : n = tr_ch N (pr_ar F pc kd na) p 1 := by rw [← c1]; exact g5
  have pn := mc_ci_pw (kd := kd) hok.1 r1 hp (Or.inl hk)
  obtain ⟨h1, h2⟩ := hK.1.2.2.2.2.2.2.2.2.1 n p 0 (tr_an_self r1) hp (Or.inl hk) (by omega)
  obtain ⟨a1, a2, a3, a4, a5, a6, a7⟩ := pg_ch hok.1 (n := p) (c := 0) g1 (by omega)
  have e0 := (pw_e4 hok a1 a3 hk).1
  rw [a4, if_pos rfl] at e0
  rw [e0] at h2
  obtain ⟨x, hx, ex⟩ := h2.1 rfl
  obtain ⟨en, ep⟩ := pw_e4 hok r1 hp hk
  rw [c1, if_neg (by omega)] at en
  have hV := hK.2.2.2.2.2
  rw [en] at hV
  obtain ⟨l, hl1, hl2⟩ := hV.2 (by omega)
  have sn : sq_sc N (pr_ar F pc kd na) kd (pr_z F bs pc) n = sq_sc N (pr_ar F pc kd na) kd (pr_z F bs pc) p := by rw [sq_some hp, sq_cv0 (Or.inr ⟨by omega, by omega⟩)]; rfl
  rw [tr_ch_0] at ex a1
  have h12 := hl1.1
  by_cases hlM : l.length = M
  · refine lx_over (p := p) hM hP hS hc hl hbl hds hbd hfl hcb hb hG (fun post fu i hi h => ?_)
    exact rx_up hi (xh_cons1 hP hM.2 r1 a1 q1 hk r2 hcx hl1 hl2 hx ex (fun _ => rx_end h) (fun y => absurd hlM y))
  · have ms := ms_up hok (b := b) (d := e + 1) r1 hp
    have hok2 := vl_cons_ok hl1 hx (by omega)
    refine lx_step ((IH _ (by omega) m e p b (wT - 1) (mc_vb N (pr_ar F pc kd na) kd m e + mc_pn N (pr_ar F pc kd na) kd p + 1) eT f_calls f_waitingFunction (lN (vl_enc (x :: l))) a_waitingArgs a_callNodes a_levelValues a_nodeValues (vp_updL y_vals (mc_vb N (pr_ar F pc kd na) kd m e + mc_pn N (pr_ar F pc kd na) kd p) (lN (vl_enc (x :: l)))) y_wNode y_wStep y_env y_actBase hb).2 (mk_up hok hK hp (by rw [ep]; exact vl_list (by omega) hok2) rfl (by rw [← sn]; exact hK.2.2.2.1)) (fun y => ?_) (Nat.le_refl _)) (by omega) (fun post fu i hi h => ?_)
    · obtain ⟨ps, c, c1', c2, c3, c4⟩ := hG y
      refine ⟨ps, c, c1', c2, gt_up hok hsm r1 hp c3, fa_grow (fx_pcl hP hok.1) g1 hp (Or.inr ⟨hk, en1⟩) ?_ c4⟩
      show sz_sz (et_et N (pr_ar F pc kd na) kd (pr_rt F bs rt) (pr_gt mk na) p) _ = sz_sz (et_et N (pr_ar F pc kd na) kd (pr_rt F bs rt) (pr_gt mk na) n) _ + 1
      rw [ep, en, hl2, sz_list hM.2 hok2 (by omega), sz_list hM.2 hl1 (by omega), List.length_cons]
    · exact rx_up hi (xh_cons1 hP hM.2 r1 a1 q1 hk r2 hcx hl1 hl2 hx ex (fun y => absurd y hlM) (fun _ => rx_of h))
theorem lx_caseup {u p : Nat} (hM : 1 ≤ M ∧ M ≤ 12) (hP : pr_in F N pc rt bs kd mk na) (hS : rl_sl M a_slotTypes a_slotValues) (hc : f_code = 1 ∨ f_code = 6) (hl : rl_laid F N pc rt bs kd mk na a_parents a_childIndexes a_subtreeEnds a_scopeSizes) (hbl : bl ≤ 200) (hds : f_code = 1 → iv_ds F N pc bs kd na) (hbd : f_code = 1 → f_bound = lN (bd_c bd_C (pr_T M F N pc bs kd na (F - 1)))) (hfl : f_code = 1 → f_fuelLimit = f_bound) (hcb : cb < 1000000) (IH : ∀ u1, u1 < u → lx_P M F N bl cb pc rt bs kd mk na f_code f_faultFunction f_bound f_foundParam f_foundDrop f_fuelLimit a_parents a_childIndexes a_subtreeEnds a_scopeSizes a_levelTypes a_levelParams a_levelDrops a_expectedTypes a_totals a_slotTypes a_slotValues u1) (hb : b ≤ bl) (hK : mc_K F N M bs (pr_ar F pc kd na) kd (pr_ag na) (pr_z F bs pc) (pr_pt F bs mk) (pr_rt F bs rt) (pr_gt mk na) m e n f_currentValue y_wNode y_wStep y_vals y_env a_levelValues a_nodeValues a_callNodes y_actBase wT vT eT) (hG : lx_K M F N pc rt bs kd mk na bl cb f_code f_calls m e n b f_currentValue a_levelValues a_nodeValues) (hm : ms_ms N (pr_ar F pc kd na) b (e + 1) n true ≤ u) (hp : tr_pa N (pr_ar F pc kd na) n = some p) (hk : kd p = 6 ∨ kd p = 7) (hci : tr_ci N (pr_ar F pc kd na) n ≠ 0) : lx_D cb ((nI M), (nI F), (nI N), f_code, f_faultFunction, f_bound, f_foundParam, f_foundDrop, 1, f_calls, (nI (e + 1)), f_fuelLimit, (nI b), (nI bl), f_waitingFunction, (nI n), 1, f_currentValue, (fun i => nI (pc i)), mk, (fun i => nI (rt i)), (fun i => nI (bs i)), (fun i => nI (kd i)), na, a_parents, a_childIndexes, a_subtreeEnds, a_scopeSizes, a_levelTypes, a_levelParams, a_levelDrops, a_expectedTypes, a_totals, a_slotTypes, a_slotValues, a_waitingArgs, a_callNodes, a_levelValues, a_nodeValues) u := by
  have hok := hl.2.1
  obtain ⟨r1, r2, r3, r4, r5, r6, r7, r8⟩ := mk_roomK hok hK
  have hsm := mk_sm hK.1.2.2.2.2.2.2.1
  obtain ⟨g1, g2, g3, g4, g5, g6⟩ := pw_fnpa hok r1 hp
  obtain ⟨q1, q2, q3, q4⟩ := hl.2.2.2 n r1
  rw [tb_P_some hp] at q1
  have ha := (hok.2.1 p g1).2.2.2.2 hk
  have hcx : ¬ a_childIndexes n = 0 := by
    rw [q2]
    exact nI_ne0 (by omega) (by omega)
  have sn := sq_some (kd := kd) (z := (pr_z F bs pc)) hp
  have eE := hK.2.2.2.1
  have ms := ms_up hok (b := b) (d := e + 1) r1 hp
  refine lx_step ((IH _ (by omega) m e p b (wT - 1) vT (eT - sq_cv N (pr_ar F pc kd na) kd p n) f_calls f_waitingFunction f_currentValue a_waitingArgs a_callNodes a_levelValues a_nodeValues y_vals y_wNode y_wStep y_env y_actBase hb).2 (mk_upc hok hK hp hk hci (by omega)) (fun y => ?_) (Nat.le_refl _)) (by omega) (fun post fu i hi h => ?_)
  · obtain ⟨ps, c, c1, c2, c3, c4⟩ := hG y
    exact ⟨ps, c, c1, c2, gt_up hok hsm r1 hp c3, fa_no (fx_pcl hP hok.1) g1 (by omega)⟩
  · exact rx_up hi (xh_case_up hP r1 g1 q1 hk hcx (rx_of h))
theorem lx_case0 {u p : Nat} (hM : 1 ≤ M ∧ M ≤ 12) (hP : pr_in F N pc rt bs kd mk na) (hS : rl_sl M a_slotTypes a_slotValues) (hc : f_code = 1 ∨ f_code = 6) (hl : rl_laid F N pc rt bs kd mk na a_parents a_childIndexes a_subtreeEnds a_scopeSizes) (hbl : bl ≤ 200) (hds : f_code = 1 → iv_ds F N pc bs kd na) (hbd : f_code = 1 → f_bound = lN (bd_c bd_C (pr_T M F N pc bs kd na (F - 1)))) (hfl : f_code = 1 → f_fuelLimit = f_bound) (hcb : cb < 1000000) (IH : ∀ u1, u1 < u → lx_P M F N bl cb pc rt bs kd mk na f_code f_faultFunction f_bound f_foundParam f_foundDrop f_fuelLimit a_parents a_childIndexes a_subtreeEnds a_scopeSizes a_levelTypes a_levelParams a_levelDrops a_expectedTypes a_totals a_slotTypes a_slotValues u1) (hb : b ≤ bl) (hK : mc_K F N M bs (pr_ar F pc kd na) kd (pr_ag na) (pr_z F bs pc) (pr_pt F bs mk) (pr_rt F bs rt) (pr_gt mk na) m e n f_currentValue y_wNode y_wStep y_vals y_env a_levelValues a_nodeValues a_callNodes y_actBase wT vT eT) (hG : lx_K M F N pc rt bs kd mk na bl cb f_code f_calls m e n b f_currentValue a_levelValues a_nodeValues) (hm : ms_ms N (pr_ar F pc kd na) b (e + 1) n true ≤ u) (hp : tr_pa N (pr_ar F pc kd na) n = some p) (hk : kd p = 6 ∨ kd p = 7) (hci : tr_ci N (pr_ar F pc kd na) n = 0) : lx_D cb ((nI M), (nI F), (nI N), f_code, f_faultFunction, f_bound, f_foundParam, f_foundDrop, 1, f_calls, (nI (e + 1)), f_fuelLimit, (nI b), (nI bl), f_waitingFunction, (nI n), 1, f_currentValue, (fun i => nI (pc i)), mk, (fun i => nI (rt i)), (fun i => nI (bs i)), (fun i => nI (kd i)), na, a_parents, a_childIndexes, a_subtreeEnds, a_scopeSizes, a_levelTypes, a_levelParams, a_levelDrops, a_expectedTypes, a_totals, a_slotTypes, a_slotValues, a_waitingArgs, a_callNodes, a_levelValues, a_nodeValues) u := by
  have hok := hl.2.1
  obtain ⟨r1, r2, r3, r4, r5, r6, r7, r8⟩ := mk_roomK hok hK
  have hsm := mk_sm hK.1.2.2.2.2.2.2.1
  obtain ⟨g1, g2, g3, g4, g5, g6⟩ := pw_fnpa hok r1 hp
  obtain ⟨q1, q2, q3, q4⟩ := hl.2.2.2 n r1
  rw [tb_P_some hp] at q1
  rw [hci] at q2
  have q2' : a_childIndexes n = 0 := q2
  have ha := (hok.2.1 p g1).2.2.2.2 hk
  have h64 := hP.2.1
  obtain ⟨a1, a2, a3, a4, a5, a6, a7⟩ := pg_ch hok.1 (n := p) (c := 1) g1 (by omega)
  have ec1 : tr_ch N (pr_ar F pc kd na) p 1 = tr_se N (pr_ar F pc kd na) n := by rw [show (1 : Nat) = 0 + 1 from rfl, tr_ch_s, ← hci, ← g5]
  rw [ec1] at a1 a3
  obtain ⟨c1, c2, c3, c4⟩ := mk_ch2 hok r1 hp hk hci
  have s2 := sq_some (kd := kd) (z := (pr_z F bs pc)) c2
  have s45 := pw_sc45 hok c4
  have qs2 := (hl.2.2.2 _ a1).2.2.1
  have qsc := (hl.2.2.2 p g1).2.2.2
  have se2 : tr_se N (pr_ar F pc kd na) n ≤ tr_se N (pr_ar F pc kd na) (tr_se N (pr_ar F pc kd na) n) := tr_se_ge _
  have c4' := c4
  have c2' := c2
  rw [← c1] at c4' c2'
  have et := pw_e67 hok r1 hp hk hci
  have hV := hK.2.2.2.2.2
  have zero : f_currentValue = 0 → lx_D cb ((nI M), (nI F), (nI N), f_code, f_faultFunction, f_bound, f_foundParam, f_foundDrop, 1, f_calls, (nI (e + 1)), f_fuelLimit, (nI b), (nI bl), f_waitingFunction, (nI n), 1, f_currentValue, (fun i => nI (pc i)), mk, (fun i => nI (rt i)), (fun i => nI (bs i)), (fun i => nI (kd i)), na, a_parents, a_childIndexes, a_subtreeEnds, a_scopeSizes, a_levelTypes, a_levelParams, a_levelDrops, a_expectedTypes, a_totals, a_slotTypes, a_slotValues, a_waitingArgs, a_callNodes, a_levelValues, a_nodeValues) u := by
    intro hz
    have ms := ms_sib hok (b := b) (d := e + 1) r1 a1 hp a3 (Nat.le_refl _)
    refine lx_step ((IH _ (by omega) m e (tr_se N (pr_ar F pc kd na) n) b (wT + 1) (vT - 1) eT f_calls f_waitingFunction f_currentValue a_waitingArgs a_callNodes a_levelValues a_nodeValues y_vals (upd y_wNode wT (nI (tr_se N (pr_ar F pc kd na) n))) (upd (upd y_wStep (wT - 1) 2) wT 0) y_env y_actBase hb).1 (mk_case1 hok hK hp hk hci) (fun y => ?_) (Nat.le_refl _)) (by omega) (fun post fu i hi h => ?_)
    · obtain ⟨ps, c, d1, d2, d3, d4⟩ := hG y
      exact ⟨ps, c, d1, d2, gt_case1 hok hsm r1 hp hk hci d3⟩
    · exact rx_up hi (xh_case_z hP r1 g1 q1 (hk.elim (fun k => Or.inl ⟨k, hz⟩) (fun k => Or.inr ⟨k, hz⟩)) q2' q3 (rx_of h))
  have ms2 := ms_sib hok (b := b) (d := e + 1) r1 c4' hp c2' (by omega)
  rcases hk with k | k
  · rw [if_neg (by omega)] at et
    have hV' := hV
    rw [et] at hV'
    obtain ⟨q, hq, eq⟩ := hV'.1 rfl
    cases q with
    | zero => exact zero eq
    | succ q =>
      rw [if_pos k] at c3
      refine lx_step ((IH _ (by omega) m e (tr_se N (pr_ar F pc kd na) (tr_se N (pr_ar F pc kd na) n)) b (wT + 1) (vT - 1) (eT + 1) f_calls f_waitingFunction f_currentValue a_waitingArgs a_callNodes (vp_updL a_levelValues (45 * e + sq_sc N (pr_ar F pc kd na) kd (pr_z F bs pc) p) (lN q)) a_nodeValues y_vals (upd y_wNode wT (nI (tr_se N (pr_ar F pc kd na) (tr_se N (pr_ar F pc kd na) n)))) (upd (upd y_wStep (wT - 1) 3) wT 0) (vp_updL y_env eT (lN q)) y_actBase hb).1 (mk_caseN hok hK hp k hci (vl_nat (by omega))) (fun y => ?_) (Nat.le_refl _)) (by omega) (fun post fu i hi h => ?_)
      · obtain ⟨ps, c, d1, d2, d3, d4⟩ := hG y
        refine ⟨ps, c, d1, d2, gt_caseN hP hok hsm r1 hp k hci d3 d4 ?_⟩
        show sz_sz (et_et N (pr_ar F pc kd na) kd (pr_rt F bs rt) (pr_gt mk na) n) _ = _
        rw [et, eq, sz_nat (by omega), sz_nat (by omega)]
      · exact rx_up hi (xh_case_N hP r1 g1 q1 k q2' (by omega) q3 qs2 qsc (by omega) r2 (by omega) eq (rx_of h))
  · rw [if_pos k] at et
    have hV' := hV
    rw [et] at hV'
    obtain ⟨l, hl1, hl2⟩ := hV'.2 (by omega)
    cases l with
    | nil => exact zero hl2
    | cons x l =>
      rw [if_neg (by omega)] at c3
      refine lx_step ((IH _ (by omega) m e (tr_se N (pr_ar F pc kd na) (tr_se N (pr_ar F pc kd na) n)) b (wT + 1) (vT - 1) (eT + 2) f_calls f_waitingFunction f_currentValue a_waitingArgs a_callNodes (vp_updL (vp_updL a_levelValues (45 * e + sq_sc N (pr_ar F pc kd na) kd (pr_z F bs pc) p) (lN x)) (45 * e + sq_sc N (pr_ar F pc kd na) kd (pr_z F bs pc) p + 1) (lN (vl_enc l))) a_nodeValues y_vals (upd y_wNode wT (nI (tr_se N (pr_ar F pc kd na) (tr_se N (pr_ar F pc kd na) n)))) (upd (upd y_wStep (wT - 1) 3) wT 0) (vp_updL (vp_updL y_env eT (lN x)) (eT + 1) (lN (vl_enc l))) y_actBase hb).1 (mk_caseL hok hK hp k hci (vl_nat (vl_head_le hl1)) (vl_list (by omega) (vl_tail_ok hl1))) (fun y => ?_) (Nat.le_refl _)) (by omega) (fun post fu i hi h => ?_)
      · obtain ⟨ps, c, d1, d2, d3, d4⟩ := hG y
        refine ⟨ps, c, d1, d2, gt_caseL hP hok hsm r1 hp k hci d3 d4 ?_⟩
        show sz_sz (et_et N (pr_ar F pc kd na) kd (pr_rt F bs rt) (pr_gt mk na) n) _ = _
        rw [et, hl2, sz_list hM.2 hl1 (by omega), sz_list hM.2 (vl_tail_ok hl1) (by omega), List.length_cons]
      · exact rx_up hi (xh_case_L hP hM.2 r1 g1 q1 k q2' (by omega) q3 qs2 qsc (by omega) r2 hl1 hl2 (rx_of h))
end
end
section
section
variable {M : Nat} {F : Nat} {N : Nat} {bl : Nat} {cb : Nat} {pc : Nat → Nat} {rt : Nat → Nat} {bs : Nat → Nat} {kd : Nat → Nat} {mk : Nat → Int32} {na : Nat → Int32} {f_code : Int32} {f_faultFunction : Int32} {f_bound : Int64} {f_foundParam : Int32} {f_foundDrop : Int32} {f_fuelLimit : Int64} {a_parents : Nat → Int32} {a_childIndexes : Nat → Int32} {a_subtreeEnds : Nat → Int32} {a_scopeSizes : Nat → Int32} {a_levelTypes : Nat → Int32} {a_levelParams : Nat → Int32} {a_levelDrops : Nat → Int32} {a_expectedTypes : Nat → Int32} {a_totals : Nat → Int64} {a_slotTypes : Nat → Int32} {a_slotValues : Nat → Int64}
variable {m : Nat → Nat} {e : Nat} {n : Nat} {b : Nat} {wT : Nat} {vT : Nat} {eT : Nat} {f_calls : Int64} {f_waitingFunction : Int32} {f_currentValue : Int64} {a_waitingArgs : Nat → Int64} {a_callNodes : Nat → Int32} {a_levelValues : Nat → Int64} {a_nodeValues : Nat → Int64} {y_vals : Nat → Int64} {y_wNode : Nat → Int32} {y_wStep : Nat → Int32} {y_env : Nat → Int64} {y_actBase : Nat → Int32}
/-- fuel is left -/
theorem lx_fuel {c T : Nat} (h : c < T) (hc : c < 1000000) : ¬ lN c = lN (bd_c bd_C T) := by
  intro y
  have hC : bd_C < 2 ^ 62 := bd_C62
  have hD : 1000000 ≤ bd_C := by decide
  have hle := bd_c_le bd_C T
  have := (pk_lEQ (by omega) (by omega)).mp y
  unfold bd_c at this
  split at this <;> omega
theorem lx_arg (hok : pr_ok F N pc rt bs kd mk na) {p i : Nat} (hp : p < N) (hk : kd p = 5) (hi : i < pr_ar F pc kd na p) : pr_et F N pc rt bs kd mk na (tr_ch N (pr_ar F pc kd na) p i) = pr_pt F bs mk (bs (pr_ag na p)) i := by
  obtain ⟨a1, a2, a3, a4, a5, a6, a7⟩ := pg_ch hok.1 hp hi
  unfold pr_et
  rw [et_some a3, if_neg (by omega), if_neg (by omega), if_pos hk, a5, (hok.2.2.2.1 p hp hk).2.2 i hi]
/-- a waiting call p begins, or the run ends there -/
theorem lx_go {u p : Nat} {f_valueKnown : Int32} {lv nv wa : Nat → Int64} (hM : 1 ≤ M ∧ M ≤ 12) (hP : pr_in F N pc rt bs kd mk na) (hS : rl_sl M a_slotTypes a_slotValues) (hc : f_code = 1 ∨ f_code = 6) (hl : rl_laid F N pc rt bs kd mk na a_parents a_childIndexes a_subtreeEnds a_scopeSizes) (hbl : bl ≤ 200) (hds : f_code = 1 → iv_ds F N pc bs kd na) (hbd : f_code = 1 → f_bound = lN (bd_c bd_C (pr_T M F N pc bs kd na (F - 1)))) (hfl : f_code = 1 → f_fuelLimit = f_bound) (hcb : cb < 1000000) (IH : ∀ u1, u1 < u → lx_P M F N bl cb pc rt bs kd mk na f_code f_faultFunction f_bound f_foundParam f_foundDrop f_fuelLimit a_parents a_childIndexes a_subtreeEnds a_scopeSizes a_levelTypes a_levelParams a_levelDrops a_expectedTypes a_totals a_slotTypes a_slotValues u1) (hb : b ≤ bl) (hmu : ∀ r, r < N → mc_td N (pr_ar F pc kd na) r = 0 → b < 200 → ms_ms N (pr_ar F pc kd na) (b + 1) (e + 1 + 1) r false < u)
    (hW : mc_W F N M bs (pr_ar F pc kd na) kd (pr_ag na) (pr_z F bs pc) (pr_pt F bs mk) (pr_rt F bs rt) (pr_gt mk na) m e p wa y_wNode y_wStep y_vals y_env lv nv a_callNodes y_actBase wT vT eT)
    (hG : f_code = 1 → ∃ (ps : Nat → Nat → Nat) (c : Nat), f_calls = lN c ∧ c + (bl - b) ≤ cb ∧ gz_I M F N pc rt bs kd mk na m ps e p (gz_o M F N pc rt bs kd mk na m ps e (p + 1) (tr_se N (pr_ar F pc kd na) p)) lv nv c ∧ iv_wa F N pc bs kd mk na (ps e) p wa) :
    (∃ x', iv_I cb x' ∧ ∀ Qz : Int32 → St2 → Prop, Qz 0 x' → wpX_beginActivation Qz ((nI M), (nI F), (nI N), f_code, f_faultFunction, f_bound, f_foundParam, f_foundDrop, 1, f_calls, (nI (e + 1)), f_fuelLimit, (nI b), (nI bl), (nI (pr_ag na p)), (nI p), f_valueKnown, f_currentValue, (fun i => nI (pc i)), mk, (fun i => nI (rt i)), (fun i => nI (bs i)), (fun i => nI (kd i)), na, a_parents, a_childIndexes, a_subtreeEnds, a_scopeSizes, a_levelTypes, a_levelParams, a_levelDrops, a_expectedTypes, a_totals, a_slotTypes, a_slotValues, wa, a_callNodes, lv, nv)) ∨ (∃ x1 u1, u1 < u ∧ lx_D cb x1 u1 ∧ ∀ Qz : Int32 → St2 → Prop, Qz 1 x1 → wpX_beginActivation Qz ((nI M), (nI F), (nI N), f_code, f_faultFunction, f_bound, f_foundParam, f_foundDrop, 1, f_calls, (nI (e + 1)), f_fuelLimit, (nI b), (nI bl), (nI (pr_ag na p)), (nI p), f_valueKnown, f_currentValue, (fun i => nI (pc i)), mk, (fun i => nI (rt i)), (fun i => nI (bs i)), (fun i => nI (kd i)), na, a_parents, a_childIndexes, a_subtreeEnds, a_scopeSizes, a_levelTypes, a_levelParams, a_levelDrops, a_expectedTypes, a_totals, a_slotTypes, a_slotValues, wa, a_callNodes, lv, nv)) := by
  have hok := hl.2.1
  obtain ⟨w1, w2, w3, w4, w5, w6, w7, w8, w9, w10, w11, w12⟩ := mk_roomW hok hW
  have hsm := mk_sm hW.1.2.2.2.2.2.2.1
  have hk := hW.2.1
  have hwv := hW.2.2.2.2.2.2.2
  have hfn := hW.1.2.2.2.2.2.1
  obtain ⟨f1, f2, f3⟩ := pr_ar5 hok.1 hP hl.2.2.1 w1 hk
  have hp3 := hP.2.2.1 (pr_ag na p)
  have hbl2 : nI b = nI bl ↔ b = bl := nI_eq (by omega) (by omega)
  have G : f_code = 1 → ∃ (ps ps' : Nat → Nat → Nat) (c : Nat), f_calls = lN c ∧ c + (bl - b) ≤ cb ∧ gz_I M F N pc rt bs kd mk na m ps e p (gz_o M F N pc rt bs kd mk na m ps e (p + 1) (tr_se N (pr_ar F pc kd na) p)) lv nv c ∧ iv_wa F N pc bs kd mk na (ps e) p wa ∧ c < pr_T M F N pc bs kd na (F - 1) ∧
      gz_I M F N pc rt bs kd mk na (fun i => if i = e then p else m i) ps' (e + 1) (bs (pr_ag na p)) (gz_o M F N pc rt bs kd mk na (fun i => if i = e then p else m i) ps' (e + 1) (bs (pr_ag na p)) (bs (pr_ag na p))) (rn_wf lv (fun i => 45 * (e + 1) + i) wa (pc (pr_ag na p))) nv (c + 1) := by
    intro y
    obtain ⟨ps, c, c1, c2, c3, c4⟩ := hG y
    have := gz_begin (m' := fun i => if i = e then p else m i) (ps' := fun i j => if i = e + 1 then (if j < pc (pr_ag na p) then sz_sz (pr_pt F bs mk (bs (pr_ag na p)) j) (wa j) else 0) else ps i j) (lv' := rn_wf lv (fun i => 45 * (e + 1) + i) wa (pc (pr_ag na p))) hP hM.2 hok hl.2.2.1 hsm w1 hk hfn c3 (fun i hi => (hwv i hi).2) c4 (fun h => hds y p w1 hk h) (fun j hj => if_neg (by omega)) (if_pos rfl)
      (fun i hi => by
        funext j
        show (if i = e + 1 then _ else ps i j) = ps i j
        rw [if_neg (by omega)])
      (fun j => by
        show (if e + 1 = e + 1 then _ else _) = _
        rw [if_pos rfl])
      (fun t ht => rn_wf_lo _ (fun i hi => by omega))
      (fun i hi => rn_wf_at (ix := fun i => 45 * (e + 1) + i) (fun i j y => by omega) _ i (by omega))
    exact ⟨ps, _, c, c1, c2, c3, c4, this.1, this.2⟩
  by_cases c1 : f_calls = f_fuelLimit
  · have no : ¬ f_code = 1 := fun y => by
      obtain ⟨ps, ps', c, d1, d2, d3, d4, d5, d6⟩ := G y
      have : lN c = lN (bd_c bd_C (pr_T M F N pc bs kd na (F - 1))) := by rw [← d1, c1, hfl y, hbd y]
      exact lx_fuel d5 (by omega) this
    refine Or.inl ⟨((nI M), (nI F), (nI N), f_code, f_faultFunction, f_bound, f_foundParam, f_foundDrop, 3, f_calls, (nI (e + 1)), f_fuelLimit, (nI b), (nI bl), (nI (pr_ag na p)), (nI p), f_valueKnown, f_currentValue, (fun i => nI (pc i)), mk, (fun i => nI (rt i)), (fun i => nI (bs i)), (fun i => nI (kd i)), na, a_parents, a_childIndexes, a_subtreeEnds, a_scopeSizes, a_levelTypes, a_levelParams, a_levelDrops, a_expectedTypes, a_totals, a_slotTypes, a_slotValues, wa, a_callNodes, lv, nv), iv_mk hM hP hS (iv_idle (by decide) (fun y => absurd y no) (fun _ => hl) hds hbd (fun y => absurd y no)), fun Qz h => xb_begin hP f1 (by omega) (fun _ => h) (fun y => absurd c1 y) (fun y => absurd c1 y) (fun y => absurd c1 y)⟩
  by_cases c2 : e + 1 = 16
  · refine Or.inl ⟨((nI M), (nI F), (nI N), f_code, f_faultFunction, f_bound, f_foundParam, f_foundDrop, 5, f_calls, (nI (e + 1)), f_fuelLimit, (nI b), (nI bl), (nI (pr_ag na p)), (nI p), f_valueKnown, f_currentValue, (fun i => nI (pc i)), mk, (fun i => nI (rt i)), (fun i => nI (bs i)), (fun i => nI (kd i)), na, a_parents, a_childIndexes, a_subtreeEnds, a_scopeSizes, a_levelTypes, a_levelParams, a_levelDrops, a_expectedTypes, a_totals, a_slotTypes, a_slotValues, wa, a_callNodes, lv, nv), iv_mk hM hP hS (iv_idle (by decide) (fun _ => by decide) (fun _ => hl) hds hbd (fun y => ?_)), fun Qz h => xb_begin hP f1 (by omega) (fun y => absurd y c1) (fun _ _ => h) (fun _ y => by omega) (fun _ y => by omega)⟩
    obtain ⟨ps, c, d1, d2, d3, d4⟩ := hG y
    exact ⟨c, d1, by omega, lx_calls d3⟩
  by_cases c3 : b = bl
  · have c3' : nI b = nI bl := by rw [c3]
    refine Or.inl ⟨((nI M), (nI F), (nI N), f_code, f_faultFunction, f_bound, f_foundParam, f_foundDrop, 1, f_calls, (nI (e + 1)), f_fuelLimit, (nI b), (nI bl), (nI (pr_ag na p)), (nI p), f_valueKnown, f_currentValue, (fun i => nI (pc i)), mk, (fun i => nI (rt i)), (fun i => nI (bs i)), (fun i => nI (kd i)), na, a_parents, a_childIndexes, a_subtreeEnds, a_scopeSizes, a_levelTypes, a_levelParams, a_levelDrops, a_expectedTypes, a_totals, a_slotTypes, a_slotValues, wa, a_callNodes, lv, nv), iv_mk hM hP hS ⟨fun _ => hc, fun _ => hl, hds, hbd, fun y => ⟨by decide, ?_⟩, fun y _ => hfl y, fun _ => ⟨e + 1, by omega, rfl, Or.inr ⟨m, e, p, y_wNode, y_wStep, y_actBase, y_vals, y_env, wT, vT, eT, rfl, rfl, rfl, hW, fun y => ?_⟩⟩⟩, fun Qz h => xb_begin hP f1 (by omega) (fun y => absurd y c1) (fun _ y => absurd y c2) (fun _ _ _ => h) (fun _ _ y => absurd c3' y)⟩
    · obtain ⟨ps, c, d1, d2, d3, d4⟩ := hG y
      exact ⟨c, d1, by omega, lx_calls d3⟩
    · obtain ⟨ps, c, d1, d2, d3, d4⟩ := hG y
      exact ⟨ps, c, d1, by omega, d3, d4⟩
  have c3' : ¬ nI b = nI bl := fun y => c3 (hbl2.mp y)
  have hU := mk_begin (m' := fun i => if i = e then p else m i) (env' := rn_wf y_env (fun i => eT + i) wa (pc (pr_ag na p))) (lv' := rn_wf lv (fun i => 45 * (e + 1) + i) wa (pc (pr_ag na p))) hok hW (by omega) (fun j hj => if_neg (by omega)) (if_pos rfl)
    (fun t ht => rn_wf_lo _ (fun i hi => by omega))
    (fun i hi => rn_wf_at (ix := fun i => eT + i) (fun i j y => by omega) _ i (by omega))
    (fun t ht => rn_wf_lo _ (fun i hi => by omega))
    (fun i hi => rn_wf_at (ix := fun i => 45 * (e + 1) + i) (fun i j y => by omega) _ i (by omega))
  have hrN : bs (pr_ag na p) < N := hU.1.1
  have ms := hmu _ hrN (mc_td_none (pg_root hok.1 f1)) (by omega)
  refine Or.inr ⟨_, _, ms, ((IH _ ms (fun i => if i = e then p else m i) (e + 1) (bs (pr_ag na p)) (b + 1) (wT + 1) (vT - pr_ar F pc kd na p) (eT + pr_ar F pc kd na p) (f_calls + 1) (nI (pr_ag na p)) f_currentValue wa (upd a_callNodes (e + 1) (nI p)) (rn_wf lv (fun i => 45 * (e + 1) + i) wa (pc (pr_ag na p))) nv y_vals (upd y_wNode wT (nI (bs (pr_ag na p)))) (upd (upd y_wStep (wT - 1) (nI (pr_ar F pc kd na p + 1))) wT 0) (rn_wf y_env (fun i => eT + i) wa (pc (pr_ag na p))) (upd y_actBase (e + 1) (nI eT)) (by omega)).1 hU (fun y => ?_) (Nat.le_refl _)), fun Qz h => xb_begin hP f1 (by omega) (fun y => absurd y c1) (fun _ y => absurd y c2) (fun _ _ y => absurd y c3') (fun _ _ _ => ?_)⟩
  · obtain ⟨ps, ps', c, d1, d2, d3, d4, d5, d6⟩ := G y
    exact ⟨ps', c + 1, by rw [d1, lN_1], by omega, d6⟩
  · rw [nI_1 b]
    exact h
/-- a call of the running activation -/
theorem lx_nar {Q : Int32 → St2 → Prop} {r : Int32} (hr : r = 0 ∨ r = 1) : ∀ {x : St2}, Q r x → (match x with | (f_sizeCap, f_functionCount, f_nodeCount, f_code, f_faultFunction, f_bound, f_foundParam, f_foundDrop, f_status, f_calls, f_depth, f_fuelLimit, f_begun, f_beginLimit, f_waitingFunction, f_currentNode, f_valueKnown, f_currentValue, a_paramCounts, a_listMasks, a_resultTypes, a_bodyStarts, a_nodeKinds, a_nodeArgs, a_parents, a_childIndexes, a_subtreeEnds, a_scopeSizes, a_levelTypes, a_levelParams, a_levelDrops, a_expectedTypes, a_totals, a_slotTypes, a_slotValues, a_waitingArgs, a_callNodes, a_levelValues, a_nodeValues) => (narrow .boolean (.int r) = .int r ∧ (narrow .boolean (.int r) = .int r ∧ (Q r (f_sizeCap, f_functionCount, f_nodeCount, f_code, f_faultFunction, f_bound, f_foundParam, f_foundDrop, f_status, f_calls, f_depth, f_fuelLimit, f_begun, f_beginLimit, f_waitingFunction, f_currentNode, f_valueKnown, f_currentValue, a_paramCounts, a_listMasks, a_resultTypes, a_bodyStarts, a_nodeKinds, a_nodeArgs, a_parents, a_childIndexes, a_subtreeEnds, a_scopeSizes, a_levelTypes, a_levelParams, a_levelDrops, a_expectedTypes, a_totals, a_slotTypes, a_slotValues, a_waitingArgs, a_callNodes, a_levelValues, a_nodeValues)))))
  | (f_sizeCap, f_functionCount, f_nodeCount, f_code, f_faultFunction, f_bound, f_foundParam, f_foundDrop, f_status, f_calls, f_depth, f_fuelLimit, f_begun, f_beginLimit, f_waitingFunction, f_currentNode, f_valueKnown, f_currentValue, a_paramCounts, a_listMasks, a_resultTypes, a_bodyStarts, a_nodeKinds, a_nodeArgs, a_parents, a_childIndexes, a_subtreeEnds, a_scopeSizes, a_levelTypes, a_levelParams, a_levelDrops, a_expectedTypes, a_totals, a_slotTypes, a_slotValues, a_waitingArgs, a_callNodes, a_levelValues, a_nodeValues), h => by
    rcases hr with y | y
    · subst y; exact ⟨rfl, rfl, h⟩
    · subst y; exact ⟨rfl, rfl, h⟩
theorem lx_begin {u p : Nat} (hM : 1 ≤ M ∧ M ≤ 12) (hP : pr_in F N pc rt bs kd mk na) (hS : rl_sl M a_slotTypes a_slotValues) (hc : f_code = 1 ∨ f_code = 6) (hl : rl_laid F N pc rt bs kd mk na a_parents a_childIndexes a_subtreeEnds a_scopeSizes) (hbl : bl ≤ 200) (hds : f_code = 1 → iv_ds F N pc bs kd na) (hbd : f_code = 1 → f_bound = lN (bd_c bd_C (pr_T M F N pc bs kd na (F - 1)))) (hfl : f_code = 1 → f_fuelLimit = f_bound) (hcb : cb < 1000000) (IH : ∀ u1, u1 < u → lx_P M F N bl cb pc rt bs kd mk na f_code f_faultFunction f_bound f_foundParam f_foundDrop f_fuelLimit a_parents a_childIndexes a_subtreeEnds a_scopeSizes a_levelTypes a_levelParams a_levelDrops a_expectedTypes a_totals a_slotTypes a_slotValues u1) (hb : b ≤ bl) (hK : mc_K F N M bs (pr_ar F pc kd na) kd (pr_ag na) (pr_z F bs pc) (pr_pt F bs mk) (pr_rt F bs rt) (pr_gt mk na) m e n f_currentValue y_wNode y_wStep y_vals y_env a_levelValues a_nodeValues a_callNodes y_actBase wT vT eT) (hG : lx_K M F N pc rt bs kd mk na bl cb f_code f_calls m e n b f_currentValue a_levelValues a_nodeValues) (hm : ms_ms N (pr_ar F pc kd na) b (e + 1) n true ≤ u) (hp : tr_pa N (pr_ar F pc kd na) n = some p) (hk : kd p = 5) (hci : tr_ci N (pr_ar F pc kd na) n + 1 = pr_ar F pc kd na p) : lx_D cb ((nI M), (nI F), (nI N), f_code, f_faultFunction, f_bound, f_foundParam, f_foundDrop, 1, f_calls, (nI (e + 1)), f_fuelLimit, (nI b), (nI bl), f_waitingFunction, (nI n), 1, f_currentValue, (fun i => nI (pc i)), mk, (fun i => nI (rt i)), (fun i => nI (bs i)), (fun i => nI (kd i)), na, a_parents, a_childIndexes, a_subtreeEnds, a_scopeSizes, a_levelTypes, a_levelParams, a_levelDrops, a_expectedTypes, a_totals, a_slotTypes, a_slotValues, a_waitingArgs, a_callNodes, a_levelValues, a_nodeValues) u := by
  have hok := hl.2.1
  obtain ⟨r1, r2, r3, r4, r5, r6, r7, r8⟩ := mk_roomK hok hK
  have hsm := mk_sm hK.1.2.2.2.2.2.2.1
  obtain ⟨g1, g2, g3, g4, g5, g6⟩ := pw_fnpa hok r1 hp
  obtain ⟨q1, q2, q3, q4⟩ := hl.2.2.2 n r1
  rw [tb_P_some hp] at q1
  obtain ⟨f1, f2, f3⟩ := pr_ar5 hok.1 hP hl.2.2.1 g1 hk
  have hp3 := hP.2.2.1 (pr_ag na p)
  have hwa : ∀ i, i < pr_ar F pc kd na p → (rn_wf a_waitingArgs (fun i => i) (fun i => vp_updL a_nodeValues (64 * e + n) f_currentValue (64 * e + tr_ch N (pr_ar F pc kd na) p i)) (pc (pr_ag na p))) i = (vp_updL a_nodeValues (64 * e + n) f_currentValue) (64 * e + tr_ch N (pr_ar F pc kd na) p i) := fun i hi => rn_wf_at (ix := fun i => i) (fun i j y => y) _ i (by omega)
  have hW := mk_wait (wa := (rn_wf a_waitingArgs (fun i => i) (fun i => vp_updL a_nodeValues (64 * e + n) f_currentValue (64 * e + tr_ch N (pr_ar F pc kd na) p i)) (pc (pr_ag na p)))) hok hK hp hk hci hwa
  have hch : ∀ c, c < pc (pr_ag na p) → tr_ch N (pr_ar F pc kd na) p c < N := fun c hc => (pg_ch hok.1 g1 (by omega)).1
  have HT : ∀ j, j < N → a_subtreeEnds j = nI (tr_se N (pr_ar F pc kd na) j) := fun j hj => (hl.2.2.2 j hj).2.2.1
  have hcall : ∀ (post : Int32 → St2 → Prop) (fu i : Nat), i < 500000 → wpX_beginActivation (fun r u => match u with | (f_sizeCap, f_functionCount, f_nodeCount, f_code, f_faultFunction, f_bound, f_foundParam, f_foundDrop, f_status, f_calls, f_depth, f_fuelLimit, f_begun, f_beginLimit, f_waitingFunction, f_currentNode, f_valueKnown, f_currentValue, a_paramCounts, a_listMasks, a_resultTypes, a_bodyStarts, a_nodeKinds, a_nodeArgs, a_parents, a_childIndexes, a_subtreeEnds, a_scopeSizes, a_levelTypes, a_levelParams, a_levelDrops, a_expectedTypes, a_totals, a_slotTypes, a_slotValues, a_waitingArgs, a_callNodes, a_levelValues, a_nodeValues) => (narrow .boolean (.int r) = .int r ∧ (narrow .boolean (.int r) = .int r ∧ (rx_k post fu i r (f_sizeCap, f_functionCount, f_nodeCount, f_code, f_faultFunction, f_bound, f_foundParam, f_foundDrop, f_status, f_calls, f_depth, f_fuelLimit, f_begun, f_beginLimit, f_waitingFunction, f_currentNode, f_valueKnown, f_currentValue, a_paramCounts, a_listMasks, a_resultTypes, a_bodyStarts, a_nodeKinds, a_nodeArgs, a_parents, a_childIndexes, a_subtreeEnds, a_scopeSizes, a_levelTypes, a_levelParams, a_levelDrops, a_expectedTypes, a_totals, a_slotTypes, a_slotValues, a_waitingArgs, a_callNodes, a_levelValues, a_nodeValues))))) ((nI M), (nI F), (nI N), f_code, f_faultFunction, f_bound, f_foundParam, f_foundDrop, 1, f_calls, (nI (e + 1)), f_fuelLimit, (nI b), (nI bl), (nI (pr_ag na p)), (nI p), 1, f_currentValue, (fun i => nI (pc i)), mk, (fun i => nI (rt i)), (fun i => nI (bs i)), (fun i => nI (kd i)), na, a_parents, a_childIndexes, a_subtreeEnds, a_scopeSizes, a_levelTypes, a_levelParams, a_levelDrops, a_expectedTypes, a_totals, a_slotTypes, a_slotValues, (rn_wf a_waitingArgs (fun i => i) (fun i => vp_updL a_nodeValues (64 * e + n) f_currentValue (64 * e + tr_ch N (pr_ar F pc kd na) p i)) (pc (pr_ag na p))), a_callNodes, a_levelValues, (vp_updL a_nodeValues (64 * e + n) f_currentValue)) → rn_X post (fu + 1) i 1 ((nI M), (nI F), (nI N), f_code, f_faultFunction, f_bound, f_foundParam, f_foundDrop, 1, f_calls, (nI (e + 1)), f_fuelLimit, (nI b), (nI bl), f_waitingFunction, (nI n), 1, f_currentValue, (fun i => nI (pc i)), mk, (fun i => nI (rt i)), (fun i => nI (bs i)), (fun i => nI (kd i)), na, a_parents, a_childIndexes, a_subtreeEnds, a_scopeSizes, a_levelTypes, a_levelParams, a_levelDrops, a_expectedTypes, a_totals, a_slotTypes, a_slotValues, a_waitingArgs, a_callNodes, a_levelValues, a_nodeValues) := fun post fu i hi h =>
    rx_up hi (xh_call hP HT r1 g1 q1 hk r2 f1 f3 hch q2 (by omega) (fun y => by omega) (fun _ => h))
  have out := lx_go (u := u) (f_valueKnown := 1) (f_currentValue := f_currentValue) hM hP hS hc hl hbl hds hbd hfl hcb IH hb (fun r hr h0 h200 => by have := ms_begin hok (b := b) (d := e + 1) r1 hr h200 h0; omega) hW (fun y => by
    obtain ⟨ps, c, c1, c2, c3, c4⟩ := hG y
    refine ⟨ps, c, c1, c2, gt_wait hok hsm r1 hp hk hci c3, fun i hi j k hf => ?_⟩
    have := gt_keep hok r1 hp hk c3.2.2.1 c4 i (by omega) j k hf
    rw [lx_arg hok g1 hk hi] at this
    rw [hwa i hi]
    exact this)
  rcases out with ⟨x', o1, o2⟩ | ⟨x1, u1, o1, o2, o3⟩
  · exact lx_end o1 (fun post fu i hi h => hcall post (fu + 1) i hi (o2 _ (lx_nar (Or.inl rfl) (rx_end h))))
  · exact lx_step o2 o1 (fun post fu i hi h => hcall post fu i hi (o3 _ (lx_nar (Or.inr rfl) (rx_of h))))
theorem lx_all (hM : 1 ≤ M ∧ M ≤ 12) (hP : pr_in F N pc rt bs kd mk na) (hS : rl_sl M a_slotTypes a_slotValues) (hc : f_code = 1 ∨ f_code = 6) (hl : rl_laid F N pc rt bs kd mk na a_parents a_childIndexes a_subtreeEnds a_scopeSizes) (hbl : bl ≤ 200) (hds : f_code = 1 → iv_ds F N pc bs kd na) (hbd : f_code = 1 → f_bound = lN (bd_c bd_C (pr_T M F N pc bs kd na (F - 1)))) (hfl : f_code = 1 → f_fuelLimit = f_bound) (hcb : cb < 1000000) : ∀ u, lx_P M F N bl cb pc rt bs kd mk na f_code f_faultFunction f_bound f_foundParam f_foundDrop f_fuelLimit a_parents a_childIndexes a_subtreeEnds a_scopeSizes a_levelTypes a_levelParams a_levelDrops a_expectedTypes a_totals a_slotTypes a_slotValues u := by
  intro u
  induction u using Nat.strongRecOn with
  | _ u IH =>
    intro m e n b wT vT eT f_calls f_waitingFunction f_currentValue a_waitingArgs a_callNodes a_levelValues a_nodeValues y_vals y_wNode y_wStep y_env y_actBase hb
    have hok := hl.2.1
    refine ⟨fun hU hG hm => ?_, fun hK hG hm => ?_⟩
    · by_cases k0 : kd n = 0
      · exact lx_var hM hP hS hc hl hbl hds hbd hfl hcb IH hb hU hG hm k0
      · by_cases k13 : kd n = 1 ∨ kd n = 3
        · exact lx_leaf hM hP hS hc hl hbl hds hbd hfl hcb IH hb hU hG hm k13
        · exact lx_down hM hP hS hc hl hbl hds hbd hfl hcb IH hb hU hG hm ⟨k0, fun y => k13 (Or.inl y), fun y => k13 (Or.inr y)⟩
    · obtain ⟨r1, r2, _⟩ := mk_roomK hok hK
      cases hp : tr_pa N (pr_ar F pc kd na) n with
      | none =>
        by_cases he : e = 0
        · exact lx_done hM hP hS hc hl hbl hds hbd hfl hcb hb hK hG hp he
        · exact lx_ret hM hP hS hc hl hbl hds hbd hfl hcb IH hb hK hG hm hp he
      | some p =>
        obtain ⟨g1, g2, g3, g4, g5, g6⟩ := pw_fnpa hok r1 hp
        have h7 := hP.2.2.2.2.2.1 p
        have ha := (hok.2.1 p g1).2.1
        rcases (show kd p = 2 ∨ kd p = 4 ∨ kd p = 5 ∨ (kd p = 6 ∨ kd p = 7) ∨ (kd p = 0 ∨ kd p = 1 ∨ kd p = 3) by omega) with k | k | k | k | k
        · exact lx_succ hM hP hS hc hl hbl hds hbd hfl hcb IH hb hK hG hm hp k
        · by_cases c : tr_ci N (pr_ar F pc kd na) n = 0
          · exact lx_next hM hP hS hc hl hbl hds hbd hfl hcb IH hb hK hG hm hp (Or.inl k) (by have := (hok.2.1 p g1).2.2.2.1 k; omega)
          · exact lx_cons1 hM hP hS hc hl hbl hds hbd hfl hcb IH hb hK hG hm hp k c
        · by_cases c : tr_ci N (pr_ar F pc kd na) n + 1 < pr_ar F pc kd na p
          · exact lx_next hM hP hS hc hl hbl hds hbd hfl hcb IH hb hK hG hm hp (Or.inr k) c
          · exact lx_begin hM hP hS hc hl hbl hds hbd hfl hcb IH hb hK hG hm hp k (by omega)
        · by_cases c : tr_ci N (pr_ar F pc kd na) n = 0
          · exact lx_case0 hM hP hS hc hl hbl hds hbd hfl hcb IH hb hK hG hm hp k c
          · exact lx_caseup hM hP hS hc hl hbl hds hbd hfl hcb IH hb hK hG hm hp k c
        · have := ha k
          omega
end
end
section
section
theorem iv_el {cb : Nat} {G : St2 → Prop} {u : St2} (I : iv_I cb u)
    (h : ∀ (f_code : Int32) (f_faultFunction : Int32) (f_bound : Int64) (f_foundParam : Int32) (f_foundDrop : Int32) (f_status : Int32) (f_calls : Int64) (f_depth : Int32) (f_fuelLimit : Int64) (f_begun : Int32) (f_beginLimit : Int32) (f_waitingFunction : Int32) (f_currentNode : Int32) (f_valueKnown : Int32) (f_currentValue : Int64) (a_parents : Nat → Int32) (a_childIndexes : Nat → Int32) (a_subtreeEnds : Nat → Int32) (a_scopeSizes : Nat → Int32) (a_levelTypes : Nat → Int32) (a_levelParams : Nat → Int32) (a_levelDrops : Nat → Int32) (a_expectedTypes : Nat → Int32) (a_totals : Nat → Int64) (a_slotTypes : Nat → Int32) (a_slotValues : Nat → Int64) (a_waitingArgs : Nat → Int64) (a_callNodes : Nat → Int32) (a_levelValues : Nat → Int64) (a_nodeValues : Nat → Int64) (M F N : Nat) (pc rt bs kd : Nat → Nat) (mk na : Nat → Int32), 1 ≤ M ∧ M ≤ 12 → pr_in F N pc rt bs kd mk na → rl_sl M a_slotTypes a_slotValues → iv_mode M F N pc rt bs kd mk na cb f_code f_status f_depth f_currentNode f_waitingFunction f_bound f_calls f_fuelLimit a_parents a_childIndexes a_subtreeEnds a_scopeSizes a_callNodes a_waitingArgs a_levelValues a_nodeValues → iv_I cb ((nI M), (nI F), (nI N), f_code, f_faultFunction, f_bound, f_foundParam, f_foundDrop, f_status, f_calls, f_depth, f_fuelLimit, f_begun, f_beginLimit, f_waitingFunction, f_currentNode, f_valueKnown, f_currentValue, (fun i => nI (pc i)), mk, (fun i => nI (rt i)), (fun i => nI (bs i)), (fun i => nI (kd i)), na, a_parents, a_childIndexes, a_subtreeEnds, a_scopeSizes, a_levelTypes, a_levelParams, a_levelDrops, a_expectedTypes, a_totals, a_slotTypes, a_slotValues, a_waitingArgs, a_callNodes, a_levelValues, a_nodeValues) → G ((nI M), (nI F), (nI N), f_code, f_faultFunction, f_bound, f_foundParam, f_foundDrop, f_status, f_calls, f_depth, f_fuelLimit, f_begun, f_beginLimit, f_waitingFunction, f_currentNode, f_valueKnown, f_currentValue, (fun i => nI (pc i)), mk, (fun i => nI (rt i)), (fun i => nI (bs i)), (fun i => nI (kd i)), na, a_parents, a_childIndexes, a_subtreeEnds, a_scopeSizes, a_levelTypes, a_levelParams, a_levelDrops, a_expectedTypes, a_totals, a_slotTypes, a_slotValues, a_waitingArgs, a_callNodes, a_levelValues, a_nodeValues)) : G u := by
  obtain ⟨f_sizeCap, f_functionCount, f_nodeCount, f_code, f_faultFunction, f_bound, f_foundParam, f_foundDrop, f_status, f_calls, f_depth, f_fuelLimit, f_begun, f_beginLimit, f_waitingFunction, f_currentNode, f_valueKnown, f_currentValue, a_paramCounts, a_listMasks, a_resultTypes, a_bodyStarts, a_nodeKinds, a_nodeArgs, a_parents, a_childIndexes, a_subtreeEnds, a_scopeSizes, a_levelTypes, a_levelParams, a_levelDrops, a_expectedTypes, a_totals, a_slotTypes, a_slotValues, a_waitingArgs, a_callNodes, a_levelValues, a_nodeValues⟩ := u
  have I' := I
  obtain ⟨M, F, N, pc, rt, bs, kd, mk, na, hM, hP, ⟨e1, e2, e3, e4, e5, e6, e7, e8, e9⟩, hS, hm⟩ := I
  subst e1 e2 e3 e4 e5 e6 e7 e8 e9
  exact h _ _ _ _ _ _ _ _ _ _ _ _ _ _ _ _ _ _ _ _ _ _ _ _ _ _ _ _ _ _ M F N pc rt bs kd _ _ hM hP hS hm I'
end
section
variable {M : Nat} {F : Nat} {N : Nat} {bl : Nat} {cb : Nat} {pc : Nat → Nat} {rt : Nat → Nat} {bs : Nat → Nat} {kd : Nat → Nat} {mk : Nat → Int32} {na : Nat → Int32} {f_code : Int32} {f_faultFunction : Int32} {f_bound : Int64} {f_foundParam : Int32} {f_foundDrop : Int32} {f_fuelLimit : Int64} {a_parents : Nat → Int32} {a_childIndexes : Nat → Int32} {a_subtreeEnds : Nat → Int32} {a_scopeSizes : Nat → Int32} {a_levelTypes : Nat → Int32} {a_levelParams : Nat → Int32} {a_levelDrops : Nat → Int32} {a_expectedTypes : Nat → Int32} {a_totals : Nat → Int64} {a_slotTypes : Nat → Int32} {a_slotValues : Nat → Int64}
variable {m : Nat → Nat} {e : Nat} {n : Nat} {b : Nat} {wT : Nat} {vT : Nat} {eT : Nat} {f_calls : Int64} {f_waitingFunction : Int32} {f_currentValue : Int64} {a_waitingArgs : Nat → Int64} {a_callNodes : Nat → Int32} {a_levelValues : Nat → Int64} {a_nodeValues : Nat → Int64} {y_vals : Nat → Int64} {y_wNode : Nat → Int32} {y_wStep : Nat → Int32} {y_env : Nat → Int64} {y_actBase : Nat → Int32}
/-- the main function begins, or the run ends there -/
theorem lx_main {u : Nat} {f_valueKnown : Int32} (hM : 1 ≤ M ∧ M ≤ 12) (hP : pr_in F N pc rt bs kd mk na) (hS : rl_sl M a_slotTypes a_slotValues) (hc : f_code = 1 ∨ f_code = 6) (hl : rl_laid F N pc rt bs kd mk na a_parents a_childIndexes a_subtreeEnds a_scopeSizes) (hbl : bl ≤ 200) (hds : f_code = 1 → iv_ds F N pc bs kd na) (hbd : f_code = 1 → f_bound = lN (bd_c bd_C (pr_T M F N pc bs kd na (F - 1)))) (hfl : f_code = 1 → f_fuelLimit = f_bound) (hcb : cb < 1000000) (hu : 83400 ≤ u) (hb1 : 1 ≤ bl) (hcb1 : bl ≤ cb) (hV : ∀ i, i < pc (F - 1) → vl_V M (pr_pty mk (F - 1) i) (a_waitingArgs i)) (hc0 : f_calls = 0) :
    (∃ x', iv_I cb x' ∧ ∀ Qz : Int32 → St2 → Prop, Qz 0 x' → wpX_beginActivation Qz ((nI M), (nI F), (nI N), f_code, f_faultFunction, f_bound, f_foundParam, f_foundDrop, 1, f_calls, 0, f_fuelLimit, 0, (nI bl), (nI (F - 1)), (-1), f_valueKnown, f_currentValue, (fun i => nI (pc i)), mk, (fun i => nI (rt i)), (fun i => nI (bs i)), (fun i => nI (kd i)), na, a_parents, a_childIndexes, a_subtreeEnds, a_scopeSizes, a_levelTypes, a_levelParams, a_levelDrops, a_expectedTypes, a_totals, a_slotTypes, a_slotValues, a_waitingArgs, a_callNodes, a_levelValues, a_nodeValues)) ∨ (∃ x1 u1, u1 ≤ u ∧ lx_D cb x1 u1 ∧ ∀ Qz : Int32 → St2 → Prop, Qz 1 x1 → wpX_beginActivation Qz ((nI M), (nI F), (nI N), f_code, f_faultFunction, f_bound, f_foundParam, f_foundDrop, 1, f_calls, 0, f_fuelLimit, 0, (nI bl), (nI (F - 1)), (-1), f_valueKnown, f_currentValue, (fun i => nI (pc i)), mk, (fun i => nI (rt i)), (fun i => nI (bs i)), (fun i => nI (kd i)), na, a_parents, a_childIndexes, a_subtreeEnds, a_scopeSizes, a_levelTypes, a_levelParams, a_levelDrops, a_expectedTypes, a_totals, a_slotTypes, a_slotValues, a_waitingArgs, a_callNodes, a_levelValues, a_nodeValues)) := by
  have hok := hl.2.1
  have hF := hl.1
  have hf : F - 1 < F := by omega
  have hp3 := hP.2.2.1 (F - 1)
  have c3' : ¬ (0 : Int32) = nI bl := fun y => absurd ((nI_eq (a := 0) (by omega) (by omega)).mp y) (by omega)
  subst hc0
  by_cases c1 : (0 : Int64) = f_fuelLimit
  · have no : ¬ f_code = 1 := fun y => by
      have : lN 0 = lN (bd_c bd_C (pr_T M F N pc bs kd na (F - 1))) := by rw [← hbd y, ← hfl y]; exact c1
      exact lx_fuel (po_T_pos _) (by omega) this
    exact Or.inl ⟨((nI M), (nI F), (nI N), f_code, f_faultFunction, f_bound, f_foundParam, f_foundDrop, 3, 0, 0, f_fuelLimit, 0, (nI bl), (nI (F - 1)), (-1), f_valueKnown, f_currentValue, (fun i => nI (pc i)), mk, (fun i => nI (rt i)), (fun i => nI (bs i)), (fun i => nI (kd i)), na, a_parents, a_childIndexes, a_subtreeEnds, a_scopeSizes, a_levelTypes, a_levelParams, a_levelDrops, a_expectedTypes, a_totals, a_slotTypes, a_slotValues, a_waitingArgs, a_callNodes, a_levelValues, a_nodeValues), iv_mk hM hP hS (iv_idle (by decide) (fun y => absurd y no) (fun _ => hl) hds hbd (fun y => absurd y no)), fun Qz h => xb_begin (d := 0) hP hf (by omega) (fun _ => h) (fun y => absurd c1 y) (fun y => absurd c1 y) (fun y => absurd c1 y)⟩
  have ez : pr_z F bs pc (bs (F - 1)) = pc (F - 1) := by unfold pr_z; rw [pr_root_fn hok.1 hf]
  have hlv : ∀ i, i < pc (F - 1) → rn_wf a_levelValues (fun i => 45 * 0 + i) a_waitingArgs (pc (F - 1)) i = a_waitingArgs i := fun i hi => by
    have h1 := rn_wf_at (a := a_levelValues) (ix := fun i => 45 * 0 + i) (src := a_waitingArgs) (fun i j y => by omega) (pc (F - 1)) i hi
    simp only [Nat.mul_zero, Nat.zero_add] at h1 ⊢
    exact h1
  have hU := mk_main (m := fun _ => 0) (wN := fun _ => -1) (wS := fun _ => 0) (vals := fun _ => 0) (nv := a_nodeValues) (cn := upd a_callNodes 0 (-1)) (ab := fun _ => 0) (wa := a_waitingArgs) (env' := a_waitingArgs) (lv' := rn_wf a_levelValues (fun i => 45 * 0 + i) a_waitingArgs (pc (F - 1))) hok rfl
    (fun i hi => by
      rw [ez] at hi
      show vl_V M (pr_pty mk (pg_fn F bs (bs (F - 1))) i) _
      rw [pr_root_fn hok.1 hf]
      exact hV i hi)
    (fun i hi => rfl)
    (fun i hi => by
      rw [ez] at hi
      exact hlv i hi)
  have hrN : bs (F - 1) < N := hU.1.1
  have A : lx_P M F N bl cb pc rt bs kd mk na f_code f_faultFunction f_bound f_foundParam f_foundDrop f_fuelLimit a_parents a_childIndexes a_subtreeEnds a_scopeSizes a_levelTypes a_levelParams a_levelDrops a_expectedTypes a_totals a_slotTypes a_slotValues 83400 := lx_all hM hP hS hc hl hbl hds hbd hfl hcb 83400
  refine Or.inr ⟨_, 83400, hu, (A (fun _ => 0) 0 (bs (F - 1)) 1 2 0 (pr_z F bs pc (bs (F - 1))) (0 + 1) (nI (F - 1)) f_currentValue a_waitingArgs (upd a_callNodes 0 (-1)) (rn_wf a_levelValues (fun i => 45 * 0 + i) a_waitingArgs (pc (F - 1))) a_nodeValues (fun _ => 0) (upd (fun _ => -1) 1 (nI (bs (F - 1)))) (upd (upd (fun _ => 0) 0 1) 1 0) a_waitingArgs (upd (fun _ => 0) 0 0) hb1).1 hU (fun y => ?_) (ms_max hok hrN (by omega) false), fun Qz h => ?_⟩
  · refine ⟨fun _ j => if j < pc (F - 1) then sz_sz (pr_pty mk (F - 1) j) (a_waitingArgs j) else 0, 1, rfl, by omega, gt_main hP hM.2 hok hl.2.2.1 hV hlv (fun j => rfl)⟩
  · exact xb_begin (d := 0) hP hf (by omega) (fun y => absurd y c1) (fun _ y => absurd y (by omega)) (fun _ _ y => absurd y c3') (fun _ _ _ => h)
end
end
section
section
variable {M : Nat} {F : Nat} {N : Nat} {bl : Nat} {cb : Nat} {pc : Nat → Nat} {rt : Nat → Nat} {bs : Nat → Nat} {kd : Nat → Nat} {mk : Nat → Int32} {na : Nat → Int32} {f_code : Int32} {f_faultFunction : Int32} {f_bound : Int64} {f_foundParam : Int32} {f_foundDrop : Int32} {f_fuelLimit : Int64} {a_parents : Nat → Int32} {a_childIndexes : Nat → Int32} {a_subtreeEnds : Nat → Int32} {a_scopeSizes : Nat → Int32} {a_levelTypes : Nat → Int32} {a_levelParams : Nat → Int32} {a_levelDrops : Nat → Int32} {a_expectedTypes : Nat → Int32} {a_totals : Nat → Int64} {a_slotTypes : Nat → Int32} {a_slotValues : Nat → Int64}
variable {m : Nat → Nat} {e : Nat} {n : Nat} {b : Nat} {wT : Nat} {vT : Nat} {eT : Nat} {f_calls : Int64} {f_waitingFunction : Int32} {f_currentValue : Int64} {a_waitingArgs : Nat → Int64} {a_callNodes : Nat → Int32} {a_levelValues : Nat → Int64} {a_nodeValues : Nat → Int64} {y_vals : Nat → Int64} {y_wNode : Nat → Int32} {y_wStep : Nat → Int32} {y_env : Nat → Int64} {y_actBase : Nat → Int32}
theorem vm_core {d : Nat} {f_valueKnown f_currentNode : Int32} {post : Int32 → St2 → Prop} {c0 : Nat} (hM : 1 ≤ M ∧ M ≤ 12) (hP : pr_in F N pc rt bs kd mk na) (hS : rl_sl M a_slotTypes a_slotValues) (hc : f_code = 1 ∨ f_code = 6) (hl : rl_laid F N pc rt bs kd mk na a_parents a_childIndexes a_subtreeEnds a_scopeSizes) (hbl : bl ≤ 200) (hds : f_code = 1 → iv_ds F N pc bs kd na) (hbd : f_code = 1 → f_bound = lN (bd_c bd_C (pr_T M F N pc bs kd na (F - 1)))) (hfl : f_code = 1 → f_fuelLimit = f_bound) (hcb : cb < 1000000) (hcb1 : cb = c0 + 200) (hb1 : 1 ≤ bl) (hd : d ≤ 16) (hw : iv_w M F N pc rt bs kd mk na c0 f_code f_calls d f_currentNode f_waitingFunction a_waitingArgs a_levelValues a_nodeValues a_callNodes)
    (hp : ∀ r x', iv_I cb x' → post r x') : wpX_beginActivation (fun r u => match u with | (f_sizeCap, f_functionCount, f_nodeCount, f_code, f_faultFunction, f_bound, f_foundParam, f_foundDrop, f_status, f_calls, f_depth, f_fuelLimit, f_begun, f_beginLimit, f_waitingFunction, f_currentNode, f_valueKnown, f_currentValue, a_paramCounts, a_listMasks, a_resultTypes, a_bodyStarts, a_nodeKinds, a_nodeArgs, a_parents, a_childIndexes, a_subtreeEnds, a_scopeSizes, a_levelTypes, a_levelParams, a_levelDrops, a_expectedTypes, a_totals, a_slotTypes, a_slotValues, a_waitingArgs, a_callNodes, a_levelValues, a_nodeValues) => ∃ n37, wX_run_37 post n37 r 0 f_sizeCap f_functionCount f_nodeCount f_code f_faultFunction f_bound f_foundParam f_foundDrop f_status f_calls f_depth f_fuelLimit f_begun f_beginLimit f_waitingFunction f_currentNode f_valueKnown f_currentValue a_paramCounts a_listMasks a_resultTypes a_bodyStarts a_nodeKinds a_nodeArgs a_parents a_childIndexes a_subtreeEnds a_scopeSizes a_levelTypes a_levelParams a_levelDrops a_expectedTypes a_totals a_slotTypes a_slotValues a_waitingArgs a_callNodes a_levelValues a_nodeValues) ((nI M), (nI F), (nI N), f_code, f_faultFunction, f_bound, f_foundParam, f_foundDrop, 1, f_calls, (nI d), f_fuelLimit, 0, (nI bl), f_waitingFunction, f_currentNode, f_valueKnown, f_currentValue, (fun i => nI (pc i)), mk, (fun i => nI (rt i)), (fun i => nI (bs i)), (fun i => nI (kd i)), na, a_parents, a_childIndexes, a_subtreeEnds, a_scopeSizes, a_levelTypes, a_levelParams, a_levelDrops, a_expectedTypes, a_totals, a_slotTypes, a_slotValues, a_waitingArgs, a_callNodes, a_levelValues, a_nodeValues) := by
  have fin : (∃ x', iv_I cb x' ∧ ∀ Qz : Int32 → St2 → Prop, Qz 0 x' → wpX_beginActivation Qz ((nI M), (nI F), (nI N), f_code, f_faultFunction, f_bound, f_foundParam, f_foundDrop, 1, f_calls, (nI d), f_fuelLimit, 0, (nI bl), f_waitingFunction, f_currentNode, f_valueKnown, f_currentValue, (fun i => nI (pc i)), mk, (fun i => nI (rt i)), (fun i => nI (bs i)), (fun i => nI (kd i)), na, a_parents, a_childIndexes, a_subtreeEnds, a_scopeSizes, a_levelTypes, a_levelParams, a_levelDrops, a_expectedTypes, a_totals, a_slotTypes, a_slotValues, a_waitingArgs, a_callNodes, a_levelValues, a_nodeValues)) ∨ (∃ x1 u1, u1 ≤ 90000 ∧ lx_D cb x1 u1 ∧ ∀ Qz : Int32 → St2 → Prop, Qz 1 x1 → wpX_beginActivation Qz ((nI M), (nI F), (nI N), f_code, f_faultFunction, f_bound, f_foundParam, f_foundDrop, 1, f_calls, (nI d), f_fuelLimit, 0, (nI bl), f_waitingFunction, f_currentNode, f_valueKnown, f_currentValue, (fun i => nI (pc i)), mk, (fun i => nI (rt i)), (fun i => nI (bs i)), (fun i => nI (kd i)), na, a_parents, a_childIndexes, a_subtreeEnds, a_scopeSizes, a_levelTypes, a_levelParams, a_levelDrops, a_expectedTypes, a_totals, a_slotTypes, a_slotValues, a_waitingArgs, a_callNodes, a_levelValues, a_nodeValues)) := by
    rcases hw with ⟨h1, h2, h3, h4, h5⟩ | ⟨m, e, p, wN, wS, ab, vals, env, wT, vT, eT, h1, h2, h3, h4, h5⟩
    · subst h1 h2 h3
      exact lx_main (u := 90000) hM hP hS hc hl hbl hds hbd hfl hcb (by omega) hb1 (by omega) h4 h5
    · subst h1 h2 h3
      have out := lx_go (u := 90000) (b := 0) (f_valueKnown := f_valueKnown) (f_currentValue := f_currentValue) hM hP hS hc hl hbl hds hbd hfl hcb (fun u1 _ => (lx_all hM hP hS hc hl hbl hds hbd hfl hcb u1 : lx_P M F N bl cb pc rt bs kd mk na f_code f_faultFunction f_bound f_foundParam f_foundDrop f_fuelLimit a_parents a_childIndexes a_subtreeEnds a_scopeSizes a_levelTypes a_levelParams a_levelDrops a_expectedTypes a_totals a_slotTypes a_slotValues u1)) (by omega) (fun r hr h0 _ => by
        have h16 := h4.1.2.1
        unfold ms_ms
        rw [if_neg (by decide), h0]
        omega) h4 (fun y => by
        obtain ⟨ps, c, c1, c2, c3, c4⟩ := h5 y
        exact ⟨ps, c, c1, by omega, c3, c4⟩)
      rcases out with ⟨x', o1, o2⟩ | ⟨x1, u1, o1, o2, o3⟩
      · exact Or.inl ⟨x', o1, o2⟩
      · exact Or.inr ⟨x1, u1, by omega, o2, o3⟩
  rcases fin with ⟨x', o1, o2⟩ | ⟨x1, u1, o1, o2, o3⟩
  · exact o2 _ (rg_0 (hp _ _ o1))
  · exact o3 _ (rg_1 (o2 post (u1 + 2) 0 (by omega) (by omega) (fun x' hx => hp _ _ hx)))
end
section
theorem vm_run {cb : Nat} {u : St2} (I : iv_I cb u) (hcb : cb + 200 < 1000000) {post : Int32 → St2 → Prop} {k : Int32} (hp : ∀ r u', iv_I (cb + 200) u' → post r u') : wpX_run post u k := by
  refine iv_el I (G := fun u => wpX_run post u k) ?_
  intros
  rename_i hM hP hS hm I'
  refine br_c (fun c1 => ?_) (fun c1 => hp _ _ (iv_up (by omega) I'))
  subst c1
  have hc := hm.1 rfl
  have hl := hm.2.1 hc
  obtain ⟨d, hd, e1, hw⟩ := hm.2.2.2.2.2.2 rfl
  subst e1
  refine br_c (fun d1 => br_c (fun d2 => ?_) (fun d2 => ?_)) (fun d1 => ?_)
  · obtain ⟨j, hj, rfl⟩ := nI_of (x := k) (fun y => absurd (Int32.lt_of_lt_of_le y (Int32.le_trans (by decide) d1)) (Int32.lt_irrefl))
    have a1 : 1 ≤ j := (nI_leI (a := 1) (by omega) hj).mp d1
    have a2 : j ≤ 200 := (nI_leI (b := 200) hj (by omega)).mp d2
    exact vm_core (bl := j) hM hP hS hc hl a2 hm.2.2.1 hm.2.2.2.1 (fun y => hm.2.2.2.2.2.1 y rfl) hcb rfl a1 hd hw hp
  · exact vm_core (bl := 200) hM hP hS hc hl (by omega) hm.2.2.1 hm.2.2.2.1 (fun y => hm.2.2.2.2.2.1 y rfl) hcb rfl (by omega) hd hw hp
  · exact vm_core (bl := 1) hM hP hS hc hl (by omega) hm.2.2.1 hm.2.2.2.1 (fun y => hm.2.2.2.2.2.1 y rfl) hcb rfl (by omega) hd hw hp
theorem cd_ds_1 {kd : Nat → Nat} {na : Nat → Int32} {dn : Nat → Bool} {f : Nat} : ∀ t n, cd_ds kd na dn f t n = 1 → ∀ i, i < t → ¬ (kd (n + i) = 5 ∧ na (n + i) = nI f ∧ dn (n + i) = false)
  | 0, _, _, i, hi => by omega
  | t + 1, n, h, i, hi => by
    rw [cd_ds] at h
    split at h
    · exact absurd h (by decide)
    · rename_i e1
      cases i with
      | zero => exact e1
      | succ i => have := cd_ds_1 t (n + 1) h i (by omega); rw [show n + 1 + i = n + (i + 1) by omega] at this; exact this
variable {f_sizeCap f_functionCount f_nodeCount f_code f_faultFunction f_foundParam f_foundDrop f_status f_depth f_begun f_beginLimit f_waitingFunction f_currentNode f_valueKnown : Int32} {f_bound f_calls f_fuelLimit f_currentValue : Int64} {a_paramCounts a_listMasks a_resultTypes a_bodyStarts a_nodeKinds a_nodeArgs a_parents a_childIndexes a_subtreeEnds a_scopeSizes a_levelTypes a_levelParams a_levelDrops a_expectedTypes a_slotTypes a_callNodes : Nat → Int32} {a_totals a_slotValues a_waitingArgs a_levelValues a_nodeValues : Nat → Int64}
variable {M F N k : Nat} {pc rt bs kd : Nat → Nat} {mk na : Nat → Int32}
variable {cb : Nat} {post : Int32 → St2 → Prop}
theorem vm_ds (h : pr_in F N pc rt bs kd mk na) (hl : rl_laid F N pc rt bs kd mk na a_parents a_childIndexes a_subtreeEnds a_scopeSizes) (h1 : (pr_res F N pc rt bs kd mk na).1 = 1) : iv_ds F N pc bs kd na := by
  have hok := hl.2.1
  have q4 : (cd_r (pr_q4 F N pc bs kd na) F 0).1 = 1 := by
    unfold pr_res at h1
    split at h1
    · split at h1
      · split at h1
        · exact h1
        · rename_i y; exact absurd h1 y
      · rename_i y; exact absurd h1 y
    · rename_i y; exact absurd h1 y
  intro p hp hk hf
  have hb := pg_body hok.1 hp
  have a := (cd_r_1 F 0 q4).1 (pg_fn F bs p) hb.1
  rw [Nat.zero_add] at a
  have b := cd_ds_1 _ _ a (p - bs (pg_fn F bs p)) (by omega)
  rw [show bs (pg_fn F bs p) + (p - bs (pg_fn F bs p)) = p by omega] at b
  have c := ((hl.2.2.1 p hp).2 hk).2
  cases hd : pr_dn F N pc bs kd na (pg_fn F bs p) p with
  | true => rfl
  | false => exact absurd ⟨hk, by rw [c, hf], hd⟩ b
theorem vm_compile {u : St2} (I : iv_I cb u) (hp : ∀ r u', iv_I cb u' → post r u') : wpX_compile post u := by
  refine iv_el I (G := fun u => wpX_compile post u) ?_
  intros
  rename_i hM hP hS hm I'
  refine wx_compile hP hM.2 (fun z1 => hp _ _ (iv_mk hM hP hS (iv_idle (by decide) (fun y => absurd y (by decide)) (fun y => absurd y (by decide)) (fun y => absurd y (by decide)) (fun y => absurd y (by decide)) (fun y => absurd y (by decide))))) (fun z1 a b par cx se sc lt lp ld ets tt hl => hp _ _ (iv_mk hM hP hS (iv_idle (by decide) (fun _ => by decide) hl (fun y => vm_ds hP (hl (Or.inl y)) y) (fun y => ?_) (fun y => ⟨0, rfl, Nat.zero_le _, Nat.zero_le _⟩))))
  unfold pr_bnd
  rw [if_pos y]
theorem vm_clear {u : St2} {post : St2 → Prop} (I : iv_I cb u) (hp : ∀ u', iv_I cb u' → post u') : wpX_clearProgram post u := by
  refine iv_el I (G := fun u => wpX_clearProgram post u) ?_
  intros
  rename_i hM hP hS hm I'
  exact hp _ (iv_mk hM (ed_clear hP) hS iv_0)
theorem vm_function {u : St2} {v1 v2 v3 : Int32} (I : iv_I cb u) (hp : ∀ r u', iv_I cb u' → post r u') : wpX_function post u v1 v2 v3 := by
  refine iv_el I (G := fun u => wpX_function post u v1 v2 v3) ?_
  intros
  rename_i M F N pc rt bs kd mk na hM hP hS hm I'
  have h6 := hP.1
  refine br_c (fun _ => hp _ _ I') (fun c1 => br_c (fun _ => hp _ _ I') (fun c2 => br_c (fun c3 => ?_) (fun _ => hp _ _ I')))
  have hF : F < 6 := by
    rcases Nat.lt_or_ge F 6 with w | w
    · exact w
    · exact absurd (show nI F = 6 from by rw [show F = 6 by omega]; rfl) c1
  obtain ⟨p, hp3, rfl⟩ := rl_nat (x := v1) (b := 3) (by omega) (fun y => c2 (Int32.lt_trans y (by decide))) c3
  have hp1 : 1 ≤ p := by
    rcases Nat.lt_or_ge 0 p with w | w
    · exact w
    · exact absurd (show nI p < 1 from by rw [show p = 0 by omega]; decide) c2
  have e : (nI F).toNatClampNeg = F := nI_clamp (by omega)
  have hv : vp_in (nI F) 6 := vp_in_nI hF (by omega)
  refine br_c (fun c4 => ?_) (fun c4 => br_c (fun c5 => ?_) (fun _ => hp _ _ I'))
  · subst c4
    unfold wX_function_32
    rw [e, ed_nI, show (0 : Int32) = nI 0 from rfl, ed_nI, ed_nI]
    exact ⟨hv, nm_e ⟨hv, nm_e ⟨hv, nm_e ⟨hv, nm_e (nm_r (nI_1 F) (hp _ _ (iv_mk hM (ed_fun hP hF hp1 hp3 (r := 0) (by omega) _) hS iv_0)))⟩⟩⟩⟩
  · subst c5
    unfold wX_function_32
    rw [e, ed_nI, show (1 : Int32) = nI 1 from rfl, ed_nI, ed_nI]
    exact ⟨hv, nm_e ⟨hv, nm_e ⟨hv, nm_e ⟨hv, nm_e (nm_r (nI_1 F) (hp _ _ (iv_mk hM (ed_fun hP hF hp1 hp3 (r := 1) (by omega) _) hS iv_0)))⟩⟩⟩⟩
theorem vm_node {u : St2} {v1 v2 : Int32} (I : iv_I cb u) (hp : ∀ r u', iv_I cb u' → post r u') : wpX_node post u v1 v2 := by
  refine iv_el I (G := fun u => wpX_node post u v1 v2) ?_
  intros
  rename_i M F N pc rt bs kd mk na hM hP hS hm I'
  have h6 := hP.1
  have h64 := hP.2.1
  refine br_c (fun _ => hp _ _ I') (fun c1 => br_c (fun _ => hp _ _ I') (fun c2 => br_c (fun _ => hp _ _ I') (fun c3 => br_c (fun c4 => ?_) (fun _ => hp _ _ I'))))
  have hF : 0 < F := by
    rcases Nat.lt_or_ge 0 F with w | w
    · exact w
    · exact absurd (show nI F = 0 from by rw [show F = 0 by omega]; rfl) c1
  have hN : N < 64 := by
    rcases Nat.lt_or_ge N 64 with w | w
    · exact w
    · exact absurd (show nI N = 64 from by rw [show N = 64 by omega]; rfl) c2
  obtain ⟨q, hq, rfl⟩ := rl_nat (x := v1) (b := 7) (by omega) c3 c4
  have e : (nI N).toNatClampNeg = N := nI_clamp (by omega)
  have hv : vp_in (nI N) 64 := vp_in_nI hN (by omega)
  refine ⟨hv, ?_⟩
  rw [e, ed_nI]
  exact nm_e ⟨hv, nm_e (nm_r (nI_1 N) (hp _ _ (iv_mk hM (ed_node hP hF hN hq _) hS iv_0)))⟩
theorem vm_input {u : St2} {v1 v2 v3 : Int32} (I : iv_I cb u) (hp : ∀ r u', iv_I cb u' → post r u') : wpX_input post u v1 v2 v3 := by
  refine iv_el I (G := fun u => wpX_input post u v1 v2 v3) ?_
  intros
  rename_i a_slotTypes a_slotValues _ _ _ _ M F N pc rt bs kd mk na hM hP hS hm I'
  refine br_c (fun _ => hp _ _ I') (fun a1 => br_c (fun a2 => ?_) (fun _ => hp _ _ I'))
  obtain ⟨s, hs', rfl⟩ := nI_of a1
  have hs : s < 3 := (nI_ltI (b := 3) hs' (by omega)).mp a2
  have e : (nI s).toNatClampNeg = s := nI_clamp (by omega)
  have hvi : vp_in (nI s) 3 := vp_in_nI hs (by omega)
  refine br_c (fun _ => hp _ _ I') (fun b1 => br_c (fun _ => hp _ _ I') (fun b2 => ?_))
  refine br_c (fun c0 => ?_) (fun c0 => br_c (fun c1 => ?_) (fun c1 => br_c (fun c2 => ?_) (fun c2 => trivial)))
  · refine br_c (fun _ => ⟨rfl, hp _ _ I'⟩) (fun d1 => br_c (fun d2 => ?_) (fun _ => ⟨rfl, hp _ _ I'⟩))
    obtain ⟨q, hq, rfl⟩ := rl_nat (x := v3) (by omega) d1 d2
    refine ⟨hvi, ?_⟩
    rw [e, nI_l (by omega)]
    exact nm_e ⟨hvi, nm_e ⟨rfl, hp _ _ (iv_mk hM hP (rl_slu hS (ty := 0) (by omega) (vl_nat hq)) hm)⟩⟩
  · refine ⟨hvi, ?_⟩
    rw [e]
    exact nm_e ⟨hvi, nm_e (hp _ _ (iv_mk hM hP (rl_slu hS (ty := 1) (by omega) (vl_list (by omega) (vl_nil_ok M))) hm))⟩
  · obtain ⟨ty, t1, t2, t3⟩ := hS s hs
    refine ⟨hvi, ?_⟩
    rw [e]
    rcases (show ty = 0 ∨ ty = 1 by omega) with w | w
    · subst w
      have t2' : a_slotTypes s = 0 := t2
      exact br_f (by rw [t2']; decide) ⟨rfl, hp _ _ I'⟩
    · subst w
      have t2' : a_slotTypes s = 1 := t2
      obtain ⟨l, l1, l2⟩ := t3.2 (by omega)
      have h12 := l1.1
      refine br_t t2' (br_c (fun _ => ⟨rfl, hp _ _ I'⟩) (fun d1 => br_c (fun d2 => ⟨hvi, ?_⟩) (fun _ => ⟨rfl, hp _ _ I'⟩)))
      obtain ⟨q, hq, rfl⟩ := rl_nat (x := v3) (by omega) d1 d2
      show ((a_slotValues s &&& 15).toInt32 = nI M → _) ∧ _
      rw [l2, vw_len hM.2 l1]
      refine pk_eq l.length M (fun _ => ⟨rfl, hp _ _ I'⟩) (fun d3 => ⟨hvi, ?_⟩)
      rw [nI_l (by omega)]
      exact wx_cons hM.2 l1 hq ⟨hvi, nm_e ⟨rfl, hp _ _ (iv_mk hM hP (rl_slv hS t2' (vl_list (by omega) (vl_cons_ok l1 hq (by omega)))) hm)⟩⟩
theorem vm_start19 (hM : 1 ≤ M ∧ M ≤ 12) (hP : pr_in F N pc rt bs kd mk na) (hS : rl_sl M a_slotTypes a_slotValues) (hm : iv_mode M F N pc rt bs kd mk na cb f_code f_status f_depth f_currentNode f_waitingFunction f_bound f_calls f_fuelLimit a_parents a_childIndexes a_subtreeEnds a_scopeSizes a_callNodes a_waitingArgs a_levelValues a_nodeValues) (hc : f_code = 1 ∨ f_code = 6) (I' : iv_I cb ((nI M), (nI F), (nI N), f_code, f_faultFunction, f_bound, f_foundParam, f_foundDrop, f_status, f_calls, f_depth, f_fuelLimit, f_begun, f_beginLimit, f_waitingFunction, f_currentNode, f_valueKnown, f_currentValue, (fun i => nI (pc i)), mk, (fun i => nI (rt i)), (fun i => nI (bs i)), (fun i => nI (kd i)), na, a_parents, a_childIndexes, a_subtreeEnds, a_scopeSizes, a_levelTypes, a_levelParams, a_levelDrops, a_expectedTypes, a_totals, a_slotTypes, a_slotValues, a_waitingArgs, a_callNodes, a_levelValues, a_nodeValues)) (v1 : Int32) (hp : ∀ r u', iv_I cb u' → post r u') : wX_start_19 post v1 (nI M) (nI F) (nI N) f_code f_faultFunction f_bound f_foundParam f_foundDrop f_status f_calls f_depth f_fuelLimit f_begun f_beginLimit f_waitingFunction f_currentNode f_valueKnown f_currentValue (fun i => nI (pc i)) mk (fun i => nI (rt i)) (fun i => nI (bs i)) (fun i => nI (kd i)) na a_parents a_childIndexes a_subtreeEnds a_scopeSizes a_levelTypes a_levelParams a_levelDrops a_expectedTypes a_totals a_slotTypes a_slotValues a_waitingArgs a_callNodes a_levelValues a_nodeValues := by
  have hl := hm.2.1 hc
  have hF := hl.1
  have hp3 := hP.2.2.1 (F - 1)
  refine nm_r (rl_Fm hF) (wx_inputsFit hP (by omega) (fun fit => br_f (by decide) ?_) (fun nf => br_t rfl (hp _ _ I')))
  have go : ∀ fl : Int64, (f_code = 1 → fl = f_bound) → ∃ n69, wX_start_69 post (nI (F - 1)) (nI M) (nI F) (nI N) f_code f_faultFunction f_bound f_foundParam f_foundDrop 0 0 0 fl f_begun f_beginLimit f_waitingFunction f_currentNode f_valueKnown f_currentValue n69 0 (fun i => nI (pc i)) mk (fun i => nI (rt i)) (fun i => nI (bs i)) (fun i => nI (kd i)) na a_parents a_childIndexes a_subtreeEnds a_scopeSizes a_levelTypes a_levelParams a_levelDrops a_expectedTypes a_totals a_slotTypes a_slotValues a_waitingArgs a_callNodes a_levelValues a_nodeValues := by
    intro fl hfl
    refine ⟨4, wx_st69 (f_status := 0) (f_calls := 0) (f_depth := 0) (f_fuelLimit := fl) hP (f := F - 1) (by omega) (fun wa hwa => hp _ _ (iv_mk hM hP hS ⟨fun _ => hc, fun _ => hl, hm.2.2.1, hm.2.2.2.1, fun _ => ⟨by decide, 0, rfl, Nat.zero_le _, Nat.zero_le _⟩, fun y _ => hfl y, fun _ => ⟨0, by omega, rfl, Or.inl ⟨rfl, rfl, rfl, fun i hi => ?_, rfl⟩⟩⟩)) (pc (F - 1)) 0 4 _ (by omega) (by omega) (fun j hj => by omega)⟩
    obtain ⟨ty, t1, t2, t3⟩ := hS i (by omega)
    have e := fit i hi
    rw [t2] at e
    have h2 := pr_pty2 (mk := mk) (F - 1) i
    have : ty = pr_pty mk (F - 1) i := (nI_eq (by omega) (by omega)).mp e
    rw [← this, hwa i hi]
    exact t3
  exact br_c (fun c1 => go f_bound (fun _ => rfl)) (fun c1 => br_c (fun d1 => br_c (fun d2 => go _ (fun y => absurd y c1)) (fun d2 => go _ (fun y => absurd y c1))) (fun d1 => go _ (fun y => absurd y c1)))
theorem vm_start {u : St2} {v1 : Int32} (I : iv_I cb u) (hp : ∀ r u', iv_I cb u' → post r u') : wpX_start post u v1 := by
  refine iv_el I (G := fun u => wpX_start post u v1) ?_
  intros
  rename_i hM hP hS hm I'
  exact br_c (fun c1 => vm_start19 hM hP hS hm (Or.inl c1) I' v1 hp) (fun c1 => br_c (fun c2 => vm_start19 hM hP hS hm (Or.inr c2) I' v1 hp) (fun c2 => hp _ _ I'))
end
end
section
section
/-- from each state of the invariant the rest of the loop meets its end -/
def lq_E (J : (Int32 → Int32 → Int32 → Int32 → Int32 → Int32 → Int64 → Int32 → Int32 → Int32 → Int64 → Int32 → Int64 → Int32 → Int32 → Int32 → Int32 → Int32 → Int64 → (Nat → Int32) → (Nat → Int32) → (Nat → Int32) → (Nat → Int32) → (Nat → Int32) → (Nat → Int32) → (Nat → Int32) → (Nat → Int32) → (Nat → Int32) → (Nat → Int32) → (Nat → Int32) → (Nat → Int32) → (Nat → Int32) → (Nat → Int32) → (Nat → Int64) → (Nat → Int32) → (Nat → Int64) → (Nat → Int64) → (Nat → Int32) → (Nat → Int64) → (Nat → Int64) → Prop)) (cb : Nat) (x4 : Int32) : Prop := ∀ u : St2, iv_I cb u → match u with | (f_sizeCap, f_functionCount, f_nodeCount, f_code, f_faultFunction, f_bound, f_foundParam, f_foundDrop, f_status, f_calls, f_depth, f_fuelLimit, f_begun, f_beginLimit, f_waitingFunction, f_currentNode, f_valueKnown, f_currentValue, a_paramCounts, a_listMasks, a_resultTypes, a_bodyStarts, a_nodeKinds, a_nodeArgs, a_parents, a_childIndexes, a_subtreeEnds, a_scopeSizes, a_levelTypes, a_levelParams, a_levelDrops, a_expectedTypes, a_totals, a_slotTypes, a_slotValues, a_waitingArgs, a_callNodes, a_levelValues, a_nodeValues) => J x4 f_sizeCap f_functionCount f_nodeCount f_code f_faultFunction f_bound f_foundParam f_foundDrop f_status f_calls f_depth f_fuelLimit f_begun f_beginLimit f_waitingFunction f_currentNode f_valueKnown f_currentValue a_paramCounts a_listMasks a_resultTypes a_bodyStarts a_nodeKinds a_nodeArgs a_parents a_childIndexes a_subtreeEnds a_scopeSizes a_levelTypes a_levelParams a_levelDrops a_expectedTypes a_totals a_slotTypes a_slotValues a_waitingArgs a_callNodes a_levelValues a_nodeValues
theorem lq_cell {post : Int32 → Prop} {L k : Nat} {xs : Nat → Int32} {p1 : Int32} (he : p1 = nI k) (hk : k < 2 ^ 31) (hL : L ≤ 260) (h : ∀ r, post r) : wpL_cell post L xs () p1 := by
  subst he
  exact br_c (fun _ => h _) (fun c => ⟨vp_in_nI (Nat.lt_of_not_le (fun y => c (nI_le y hk))) (by omega), h _⟩)
theorem lq_pos {post : Int32 → Prop} {p0 p1 : Int32} (h1 : ¬ p1 = 0) (h : ∀ r, post r) : wpL_pos post () p0 p1 :=
  ⟨h1, fun _ _ => br_c (fun _ => h _) (fun _ => h _)⟩
theorem lq_okv {Q : Int32 → Prop} {cb : Nat} {a s : Int32} {b c : Int64} {T : Nat} (hT : 0 < T) (hcb : cb < 1000000) (hb : a = 1 → b = lN (bd_c bd_C T)) (hc : a = 1 → s ≠ 3 ∧ ∃ k, c = lN k ∧ k ≤ cb ∧ k ≤ T) (h : Q 1) : wpL_ok Q () a b c s := by
  refine br_c (fun y => ?_) (fun _ => h)
  obtain ⟨h3, k, e, k1, k2⟩ := hc y
  have eb := hb y
  have hC : bd_C < 2 ^ 62 := bd_C62
  have hD : 1000000 ≤ bd_C := by decide
  have hle := bd_c_le bd_C T
  have hge : k ≤ bd_c bd_C T ∧ 1 ≤ bd_c bd_C T := by
    unfold bd_c
    split <;> omega
  subst eb e
  have n1 : ¬ lN (bd_c bd_C T) < 1 := fun y => absurd ((pk_lLT (b := 1) (by omega) (by omega)).mp y) (by omega)
  have n2 : ¬ lN k < 0 := fun y => absurd ((pk_lLT (b := 0) (by omega) (by omega)).mp y) (by omega)
  have n3 : ¬ lN (bd_c bd_C T) < lN k := fun y => absurd ((pk_lLT (by omega) (by omega)).mp y) (by omega)
  exact br_f n1 (br_f n2 (br_f n3 (br_f h3 h)))
variable {f_sizeCap f_functionCount f_nodeCount f_code f_faultFunction f_foundParam f_foundDrop f_status f_depth f_begun f_beginLimit f_waitingFunction f_currentNode f_valueKnown : Int32} {f_bound f_calls f_fuelLimit f_currentValue : Int64} {a_paramCounts a_listMasks a_resultTypes a_bodyStarts a_nodeKinds a_nodeArgs a_parents a_childIndexes a_subtreeEnds a_scopeSizes a_levelTypes a_levelParams a_levelDrops a_expectedTypes a_slotTypes a_callNodes : Nat → Int32} {a_totals a_slotValues a_waitingArgs a_levelValues a_nodeValues : Nat → Int64}
variable {cb cb' L kc ks : Nat} {post : Int32 → Prop} {xs : Nat → Int32} {x2 x4 x7 x9 x10 : Int32} {J : (Int32 → Int32 → Int32 → Int32 → Int32 → Int32 → Int64 → Int32 → Int32 → Int32 → Int64 → Int32 → Int64 → Int32 → Int32 → Int32 → Int32 → Int32 → Int64 → (Nat → Int32) → (Nat → Int32) → (Nat → Int32) → (Nat → Int32) → (Nat → Int32) → (Nat → Int32) → (Nat → Int32) → (Nat → Int32) → (Nat → Int32) → (Nat → Int32) → (Nat → Int32) → (Nat → Int32) → (Nat → Int32) → (Nat → Int32) → (Nat → Int64) → (Nat → Int32) → (Nat → Int64) → (Nat → Int64) → (Nat → Int32) → (Nat → Int64) → (Nat → Int64) → Prop)}
theorem lq_ok {K : Prop} (I : iv_I cb (f_sizeCap, f_functionCount, f_nodeCount, f_code, f_faultFunction, f_bound, f_foundParam, f_foundDrop, f_status, f_calls, f_depth, f_fuelLimit, f_begun, f_beginLimit, f_waitingFunction, f_currentNode, f_valueKnown, f_currentValue, a_paramCounts, a_listMasks, a_resultTypes, a_bodyStarts, a_nodeKinds, a_nodeArgs, a_parents, a_childIndexes, a_subtreeEnds, a_scopeSizes, a_levelTypes, a_levelParams, a_levelDrops, a_expectedTypes, a_totals, a_slotTypes, a_slotValues, a_waitingArgs, a_callNodes, a_levelValues, a_nodeValues)) (hcb : cb < 1000000) (h : K) : wpX_getCode (fun a => wpX_getBound (fun b => wpX_getCalls (fun c => wpX_getStatus (fun s => wpL_ok (fun r => (r = 0 → post 0) ∧ (¬ r = 0 → K)) () a b c s) (f_sizeCap, f_functionCount, f_nodeCount, f_code, f_faultFunction, f_bound, f_foundParam, f_foundDrop, f_status, f_calls, f_depth, f_fuelLimit, f_begun, f_beginLimit, f_waitingFunction, f_currentNode, f_valueKnown, f_currentValue, a_paramCounts, a_listMasks, a_resultTypes, a_bodyStarts, a_nodeKinds, a_nodeArgs, a_parents, a_childIndexes, a_subtreeEnds, a_scopeSizes, a_levelTypes, a_levelParams, a_levelDrops, a_expectedTypes, a_totals, a_slotTypes, a_slotValues, a_waitingArgs, a_callNodes, a_levelValues, a_nodeValues)) (f_sizeCap, f_functionCount, f_nodeCount, f_code, f_faultFunction, f_bound, f_foundParam, f_foundDrop, f_status, f_calls, f_depth, f_fuelLimit, f_begun, f_beginLimit, f_waitingFunction, f_currentNode, f_valueKnown, f_currentValue, a_paramCounts, a_listMasks, a_resultTypes, a_bodyStarts, a_nodeKinds, a_nodeArgs, a_parents, a_childIndexes, a_subtreeEnds, a_scopeSizes, a_levelTypes, a_levelParams, a_levelDrops, a_expectedTypes, a_totals, a_slotTypes, a_slotValues, a_waitingArgs, a_callNodes, a_levelValues, a_nodeValues)) (f_sizeCap, f_functionCount, f_nodeCount, f_code, f_faultFunction, f_bound, f_foundParam, f_foundDrop, f_status, f_calls, f_depth, f_fuelLimit, f_begun, f_beginLimit, f_waitingFunction, f_currentNode, f_valueKnown, f_currentValue, a_paramCounts, a_listMasks, a_resultTypes, a_bodyStarts, a_nodeKinds, a_nodeArgs, a_parents, a_childIndexes, a_subtreeEnds, a_scopeSizes, a_levelTypes, a_levelParams, a_levelDrops, a_expectedTypes, a_totals, a_slotTypes, a_slotValues, a_waitingArgs, a_callNodes, a_levelValues, a_nodeValues)) (f_sizeCap, f_functionCount, f_nodeCount, f_code, f_faultFunction, f_bound, f_foundParam, f_foundDrop, f_status, f_calls, f_depth, f_fuelLimit, f_begun, f_beginLimit, f_waitingFunction, f_currentNode, f_valueKnown, f_currentValue, a_paramCounts, a_listMasks, a_resultTypes, a_bodyStarts, a_nodeKinds, a_nodeArgs, a_parents, a_childIndexes, a_subtreeEnds, a_scopeSizes, a_levelTypes, a_levelParams, a_levelDrops, a_expectedTypes, a_totals, a_slotTypes, a_slotValues, a_waitingArgs, a_callNodes, a_levelValues, a_nodeValues) := by
  obtain ⟨M, F, N, pc, rt, bs, kd, mk, na, hM, hP, he, hS, h1, h2, h3, h4, h5, h6, h7⟩ := I
  have n1 : ¬ (1 : Int32) = 0 := by decide
  exact lq_okv (Q := fun r => (r = 0 → post 0) ∧ (¬ r = 0 → K)) (po_T_pos (F - 1)) hcb h4 h5 (br_f n1 h)
theorem lq_950 (hJ : lq_E J cb x4) (hcb : cb < 1000000) (I : iv_I cb' (f_sizeCap, f_functionCount, f_nodeCount, f_code, f_faultFunction, f_bound, f_foundParam, f_foundDrop, f_status, f_calls, f_depth, f_fuelLimit, f_begun, f_beginLimit, f_waitingFunction, f_currentNode, f_valueKnown, f_currentValue, a_paramCounts, a_listMasks, a_resultTypes, a_bodyStarts, a_nodeKinds, a_nodeArgs, a_parents, a_childIndexes, a_subtreeEnds, a_scopeSizes, a_levelTypes, a_levelParams, a_levelDrops, a_expectedTypes, a_totals, a_slotTypes, a_slotValues, a_waitingArgs, a_callNodes, a_levelValues, a_nodeValues)) (h : cb' ≤ cb) : wL_law_950 post L xs J x2 x4 kc ks f_sizeCap f_functionCount f_nodeCount f_code f_faultFunction f_bound f_foundParam f_foundDrop f_status f_calls f_depth f_fuelLimit f_begun f_beginLimit f_waitingFunction f_currentNode f_valueKnown f_currentValue a_paramCounts a_listMasks a_resultTypes a_bodyStarts a_nodeKinds a_nodeArgs a_parents a_childIndexes a_subtreeEnds a_scopeSizes a_levelTypes a_levelParams a_levelDrops a_expectedTypes a_totals a_slotTypes a_slotValues a_waitingArgs a_callNodes a_levelValues a_nodeValues :=
  lq_ok (iv_up h I) hcb (hJ (f_sizeCap, f_functionCount, f_nodeCount, f_code, f_faultFunction, f_bound, f_foundParam, f_foundDrop, f_status, f_calls, f_depth, f_fuelLimit, f_begun, f_beginLimit, f_waitingFunction, f_currentNode, f_valueKnown, f_currentValue, a_paramCounts, a_listMasks, a_resultTypes, a_bodyStarts, a_nodeKinds, a_nodeArgs, a_parents, a_childIndexes, a_subtreeEnds, a_scopeSizes, a_levelTypes, a_levelParams, a_levelDrops, a_expectedTypes, a_totals, a_slotTypes, a_slotValues, a_waitingArgs, a_callNodes, a_levelValues, a_nodeValues) (iv_up h I))
end
section
variable {cb cb' L kc ks : Nat} {post : Int32 → Prop} {xs : Nat → Int32} {x2 x4 x7 x9 x10 : Int32} {J : (Int32 → Int32 → Int32 → Int32 → Int32 → Int32 → Int64 → Int32 → Int32 → Int32 → Int64 → Int32 → Int64 → Int32 → Int32 → Int32 → Int32 → Int32 → Int64 → (Nat → Int32) → (Nat → Int32) → (Nat → Int32) → (Nat → Int32) → (Nat → Int32) → (Nat → Int32) → (Nat → Int32) → (Nat → Int32) → (Nat → Int32) → (Nat → Int32) → (Nat → Int32) → (Nat → Int32) → (Nat → Int32) → (Nat → Int32) → (Nat → Int64) → (Nat → Int32) → (Nat → Int64) → (Nat → Int64) → (Nat → Int32) → (Nat → Int64) → (Nat → Int64) → Prop)}
theorem lq_918 (hJ : lq_E J cb x4) (hcb : cb < 1000000) (h2 : ¬ x2 + 1 = 0) : ∀ t j, j + t < 2 ^ 31 → x10 ≤ nI (j + t) → ∀ u, iv_I cb u → match u with | (f_sizeCap, f_functionCount, f_nodeCount, f_code, f_faultFunction, f_bound, f_foundParam, f_foundDrop, f_status, f_calls, f_depth, f_fuelLimit, f_begun, f_beginLimit, f_waitingFunction, f_currentNode, f_valueKnown, f_currentValue, a_paramCounts, a_listMasks, a_resultTypes, a_bodyStarts, a_nodeKinds, a_nodeArgs, a_parents, a_childIndexes, a_subtreeEnds, a_scopeSizes, a_levelTypes, a_levelParams, a_levelDrops, a_expectedTypes, a_totals, a_slotTypes, a_slotValues, a_waitingArgs, a_callNodes, a_levelValues, a_nodeValues) => wL_law_918 post L xs J x2 x4 x7 x9 x10 kc ks (t + 1) (nI j) f_sizeCap f_functionCount f_nodeCount f_code f_faultFunction f_bound f_foundParam f_foundDrop f_status f_calls f_depth f_fuelLimit f_begun f_beginLimit f_waitingFunction f_currentNode f_valueKnown f_currentValue a_paramCounts a_listMasks a_resultTypes a_bodyStarts a_nodeKinds a_nodeArgs a_parents a_childIndexes a_subtreeEnds a_scopeSizes a_levelTypes a_levelParams a_levelDrops a_expectedTypes a_totals a_slotTypes a_slotValues a_waitingArgs a_callNodes a_levelValues a_nodeValues
  | 0, j, hj, hx, (f_sizeCap, f_functionCount, f_nodeCount, f_code, f_faultFunction, f_bound, f_foundParam, f_foundDrop, f_status, f_calls, f_depth, f_fuelLimit, f_begun, f_beginLimit, f_waitingFunction, f_currentNode, f_valueKnown, f_currentValue, a_paramCounts, a_listMasks, a_resultTypes, a_bodyStarts, a_nodeKinds, a_nodeArgs, a_parents, a_childIndexes, a_subtreeEnds, a_scopeSizes, a_levelTypes, a_levelParams, a_levelDrops, a_expectedTypes, a_totals, a_slotTypes, a_slotValues, a_waitingArgs, a_callNodes, a_levelValues, a_nodeValues), I => br_t hx (lq_950 hJ hcb I (Nat.le_refl _))
  | t + 1, j, hj, hx, (f_sizeCap, f_functionCount, f_nodeCount, f_code, f_faultFunction, f_bound, f_foundParam, f_foundDrop, f_status, f_calls, f_depth, f_fuelLimit, f_begun, f_beginLimit, f_waitingFunction, f_currentNode, f_valueKnown, f_currentValue, a_paramCounts, a_listMasks, a_resultTypes, a_bodyStarts, a_nodeKinds, a_nodeArgs, a_parents, a_childIndexes, a_subtreeEnds, a_scopeSizes, a_levelTypes, a_levelParams, a_levelDrops, a_expectedTypes, a_totals, a_slotTypes, a_slotValues, a_waitingArgs, a_callNodes, a_levelValues, a_nodeValues), I => br_c (fun _ => lq_950 hJ hcb I (Nat.le_refl _)) (fun _ => lq_pos h2 (fun _ => vm_input I (fun _ u' I' => by
      have := lq_918 hJ hcb h2 t (j + 1) (by omega) (by rw [show j + 1 + t = j + (t + 1) by omega]; exact hx) u' I'
      obtain ⟨f_sizeCap, f_functionCount, f_nodeCount, f_code, f_faultFunction, f_bound, f_foundParam, f_foundDrop, f_status, f_calls, f_depth, f_fuelLimit, f_begun, f_beginLimit, f_waitingFunction, f_currentNode, f_valueKnown, f_currentValue, a_paramCounts, a_listMasks, a_resultTypes, a_bodyStarts, a_nodeKinds, a_nodeArgs, a_parents, a_childIndexes, a_subtreeEnds, a_scopeSizes, a_levelTypes, a_levelParams, a_levelDrops, a_expectedTypes, a_totals, a_slotTypes, a_slotValues, a_waitingArgs, a_callNodes, a_levelValues, a_nodeValues⟩ := u'
      exact nm_r (nI_1 j) this)))
theorem lq_814 (hJ : lq_E J cb x4) (hcb : cb < 1000000) : ∀ t j, j + t = 6 → ∀ cb', cb' + 200 * t ≤ cb → ∀ u, iv_I cb' u → match u with | (f_sizeCap, f_functionCount, f_nodeCount, f_code, f_faultFunction, f_bound, f_foundParam, f_foundDrop, f_status, f_calls, f_depth, f_fuelLimit, f_begun, f_beginLimit, f_waitingFunction, f_currentNode, f_valueKnown, f_currentValue, a_paramCounts, a_listMasks, a_resultTypes, a_bodyStarts, a_nodeKinds, a_nodeArgs, a_parents, a_childIndexes, a_subtreeEnds, a_scopeSizes, a_levelTypes, a_levelParams, a_levelDrops, a_expectedTypes, a_totals, a_slotTypes, a_slotValues, a_waitingArgs, a_callNodes, a_levelValues, a_nodeValues) => wL_law_814 post L xs J x2 x4 kc ks (t + 1) (nI j) f_sizeCap f_functionCount f_nodeCount f_code f_faultFunction f_bound f_foundParam f_foundDrop f_status f_calls f_depth f_fuelLimit f_begun f_beginLimit f_waitingFunction f_currentNode f_valueKnown f_currentValue a_paramCounts a_listMasks a_resultTypes a_bodyStarts a_nodeKinds a_nodeArgs a_parents a_childIndexes a_subtreeEnds a_scopeSizes a_levelTypes a_levelParams a_levelDrops a_expectedTypes a_totals a_slotTypes a_slotValues a_waitingArgs a_callNodes a_levelValues a_nodeValues
  | 0, j, hj, cb', hc, (f_sizeCap, f_functionCount, f_nodeCount, f_code, f_faultFunction, f_bound, f_foundParam, f_foundDrop, f_status, f_calls, f_depth, f_fuelLimit, f_begun, f_beginLimit, f_waitingFunction, f_currentNode, f_valueKnown, f_currentValue, a_paramCounts, a_listMasks, a_resultTypes, a_bodyStarts, a_nodeKinds, a_nodeArgs, a_parents, a_childIndexes, a_subtreeEnds, a_scopeSizes, a_levelTypes, a_levelParams, a_levelDrops, a_expectedTypes, a_totals, a_slotTypes, a_slotValues, a_waitingArgs, a_callNodes, a_levelValues, a_nodeValues), I => br_t (show (6 : Int32) ≤ nI j from by rw [show j = 6 by omega]; decide) (lq_950 hJ hcb I (by omega))
  | t + 1, j, hj, cb', hc, (f_sizeCap, f_functionCount, f_nodeCount, f_code, f_faultFunction, f_bound, f_foundParam, f_foundDrop, f_status, f_calls, f_depth, f_fuelLimit, f_begun, f_beginLimit, f_waitingFunction, f_currentNode, f_valueKnown, f_currentValue, a_paramCounts, a_listMasks, a_resultTypes, a_bodyStarts, a_nodeKinds, a_nodeArgs, a_parents, a_childIndexes, a_subtreeEnds, a_scopeSizes, a_levelTypes, a_levelParams, a_levelDrops, a_expectedTypes, a_totals, a_slotTypes, a_slotValues, a_waitingArgs, a_callNodes, a_levelValues, a_nodeValues), I => br_c (fun _ => lq_950 hJ hcb I (by omega)) (fun _ => vm_run I (by omega) (fun _ u' I' => by
      have := lq_814 hJ hcb t (j + 1) (by omega) (cb' + 200) (by omega) u' I'
      obtain ⟨f_sizeCap, f_functionCount, f_nodeCount, f_code, f_faultFunction, f_bound, f_foundParam, f_foundDrop, f_status, f_calls, f_depth, f_fuelLimit, f_begun, f_beginLimit, f_waitingFunction, f_currentNode, f_valueKnown, f_currentValue, a_paramCounts, a_listMasks, a_resultTypes, a_bodyStarts, a_nodeKinds, a_nodeArgs, a_parents, a_childIndexes, a_subtreeEnds, a_scopeSizes, a_levelTypes, a_levelParams, a_levelDrops, a_expectedTypes, a_totals, a_slotTypes, a_slotValues, a_waitingArgs, a_callNodes, a_levelValues, a_nodeValues⟩ := u'
      exact lq_ok I' (by omega) (nm_r (nI_1 j) this)))
end
section
variable {cb L kc ks : Nat} {post : Int32 → Prop} {xs : Nat → Int32} {x2 x4 x7 x9 x10 : Int32} {J : (Int32 → Int32 → Int32 → Int32 → Int32 → Int32 → Int64 → Int32 → Int32 → Int32 → Int64 → Int32 → Int64 → Int32 → Int32 → Int32 → Int32 → Int32 → Int64 → (Nat → Int32) → (Nat → Int32) → (Nat → Int32) → (Nat → Int32) → (Nat → Int32) → (Nat → Int32) → (Nat → Int32) → (Nat → Int32) → (Nat → Int32) → (Nat → Int32) → (Nat → Int32) → (Nat → Int32) → (Nat → Int32) → (Nat → Int32) → (Nat → Int64) → (Nat → Int32) → (Nat → Int64) → (Nat → Int64) → (Nat → Int32) → (Nat → Int64) → (Nat → Int64) → Prop)}
theorem lq_918x (hJ : lq_E J cb x4) (hcb : cb < 1000000) (h2 : ¬ x2 + 1 = 0) : ∀ u, iv_I cb u → match u with | (f_sizeCap, f_functionCount, f_nodeCount, f_code, f_faultFunction, f_bound, f_foundParam, f_foundDrop, f_status, f_calls, f_depth, f_fuelLimit, f_begun, f_beginLimit, f_waitingFunction, f_currentNode, f_valueKnown, f_currentValue, a_paramCounts, a_listMasks, a_resultTypes, a_bodyStarts, a_nodeKinds, a_nodeArgs, a_parents, a_childIndexes, a_subtreeEnds, a_scopeSizes, a_levelTypes, a_levelParams, a_levelDrops, a_expectedTypes, a_totals, a_slotTypes, a_slotValues, a_waitingArgs, a_callNodes, a_levelValues, a_nodeValues) => ∃ n, wL_law_918 post L xs J x2 x4 x7 x9 x10 kc ks n 0 f_sizeCap f_functionCount f_nodeCount f_code f_faultFunction f_bound f_foundParam f_foundDrop f_status f_calls f_depth f_fuelLimit f_begun f_beginLimit f_waitingFunction f_currentNode f_valueKnown f_currentValue a_paramCounts a_listMasks a_resultTypes a_bodyStarts a_nodeKinds a_nodeArgs a_parents a_childIndexes a_subtreeEnds a_scopeSizes a_levelTypes a_levelParams a_levelDrops a_expectedTypes a_totals a_slotTypes a_slotValues a_waitingArgs a_callNodes a_levelValues a_nodeValues
  | (f_sizeCap, f_functionCount, f_nodeCount, f_code, f_faultFunction, f_bound, f_foundParam, f_foundDrop, f_status, f_calls, f_depth, f_fuelLimit, f_begun, f_beginLimit, f_waitingFunction, f_currentNode, f_valueKnown, f_currentValue, a_paramCounts, a_listMasks, a_resultTypes, a_bodyStarts, a_nodeKinds, a_nodeArgs, a_parents, a_childIndexes, a_subtreeEnds, a_scopeSizes, a_levelTypes, a_levelParams, a_levelDrops, a_expectedTypes, a_totals, a_slotTypes, a_slotValues, a_waitingArgs, a_callNodes, a_levelValues, a_nodeValues), I => by
    rcases Decidable.em (x10 < 0) with c | c
    · exact ⟨0 + 1, lq_918 hJ hcb h2 0 0 (by omega) (Int32.le_of_lt c) (f_sizeCap, f_functionCount, f_nodeCount, f_code, f_faultFunction, f_bound, f_foundParam, f_foundDrop, f_status, f_calls, f_depth, f_fuelLimit, f_begun, f_beginLimit, f_waitingFunction, f_currentNode, f_valueKnown, f_currentValue, a_paramCounts, a_listMasks, a_resultTypes, a_bodyStarts, a_nodeKinds, a_nodeArgs, a_parents, a_childIndexes, a_subtreeEnds, a_scopeSizes, a_levelTypes, a_levelParams, a_levelDrops, a_expectedTypes, a_totals, a_slotTypes, a_slotValues, a_waitingArgs, a_callNodes, a_levelValues, a_nodeValues) I⟩
    · obtain ⟨k, hk, e⟩ := nI_of c
      exact ⟨k + 1, lq_918 hJ hcb h2 k 0 (by omega) (by rw [e, Nat.zero_add]; exact nI_le (Nat.le_refl _) hk) (f_sizeCap, f_functionCount, f_nodeCount, f_code, f_faultFunction, f_bound, f_foundParam, f_foundDrop, f_status, f_calls, f_depth, f_fuelLimit, f_begun, f_beginLimit, f_waitingFunction, f_currentNode, f_valueKnown, f_currentValue, a_paramCounts, a_listMasks, a_resultTypes, a_bodyStarts, a_nodeKinds, a_nodeArgs, a_parents, a_childIndexes, a_subtreeEnds, a_scopeSizes, a_levelTypes, a_levelParams, a_levelDrops, a_expectedTypes, a_totals, a_slotTypes, a_slotValues, a_waitingArgs, a_callNodes, a_levelValues, a_nodeValues) I⟩
theorem lq_69 {m : Nat} (hL : L ≤ 260) (hm : 1 ≤ m ∧ m ≤ 12) : ∀ t p, L ≤ p + 4 * t → p ≤ 264 → ∀ u, iv_I (300 * p) u → match u with | (f_sizeCap, f_functionCount, f_nodeCount, f_code, f_faultFunction, f_bound, f_foundParam, f_foundDrop, f_status, f_calls, f_depth, f_fuelLimit, f_begun, f_beginLimit, f_waitingFunction, f_currentNode, f_valueKnown, f_currentValue, a_paramCounts, a_listMasks, a_resultTypes, a_bodyStarts, a_nodeKinds, a_nodeArgs, a_parents, a_childIndexes, a_subtreeEnds, a_scopeSizes, a_levelTypes, a_levelParams, a_levelDrops, a_expectedTypes, a_totals, a_slotTypes, a_slotValues, a_waitingArgs, a_callNodes, a_levelValues, a_nodeValues) => wL_law_69 (fun r => r = 1) L xs (nI m) kc ks (t + 1) (nI p) f_sizeCap f_functionCount f_nodeCount f_code f_faultFunction f_bound f_foundParam f_foundDrop f_status f_calls f_depth f_fuelLimit f_begun f_beginLimit f_waitingFunction f_currentNode f_valueKnown f_currentValue a_paramCounts a_listMasks a_resultTypes a_bodyStarts a_nodeKinds a_nodeArgs a_parents a_childIndexes a_subtreeEnds a_scopeSizes a_levelTypes a_levelParams a_levelDrops a_expectedTypes a_totals a_slotTypes a_slotValues a_waitingArgs a_callNodes a_levelValues a_nodeValues
  | 0, p, h, hp, (f_sizeCap, f_functionCount, f_nodeCount, f_code, f_faultFunction, f_bound, f_foundParam, f_foundDrop, f_status, f_calls, f_depth, f_fuelLimit, f_begun, f_beginLimit, f_waitingFunction, f_currentNode, f_valueKnown, f_currentValue, a_paramCounts, a_listMasks, a_resultTypes, a_bodyStarts, a_nodeKinds, a_nodeArgs, a_parents, a_childIndexes, a_subtreeEnds, a_scopeSizes, a_levelTypes, a_levelParams, a_levelDrops, a_expectedTypes, a_totals, a_slotTypes, a_slotValues, a_waitingArgs, a_callNodes, a_levelValues, a_nodeValues), I => br_t (nI_le (by omega) (by omega)) rfl
  | t + 1, p, h, hp, (f_sizeCap, f_functionCount, f_nodeCount, f_code, f_faultFunction, f_bound, f_foundParam, f_foundDrop, f_status, f_calls, f_depth, f_fuelLimit, f_begun, f_beginLimit, f_waitingFunction, f_currentNode, f_valueKnown, f_currentValue, a_paramCounts, a_listMasks, a_resultTypes, a_bodyStarts, a_nodeKinds, a_nodeArgs, a_parents, a_childIndexes, a_subtreeEnds, a_scopeSizes, a_levelTypes, a_levelParams, a_levelDrops, a_expectedTypes, a_totals, a_slotTypes, a_slotValues, a_waitingArgs, a_callNodes, a_levelValues, a_nodeValues), I => by
    refine br_c (fun _ => rfl) (fun c => ?_)
    have hpL : p < L := Nat.lt_of_not_le (fun y => c (nI_le y (by omega)))
    have hJ : lq_E (wL_law_69 (fun r => r = 1) L xs (nI m) kc ks (t + 1)) (300 * (p + 4)) (nI (p + 4)) := fun u I => by
      have := lq_69 hL hm t (p + 4) (by omega) (by omega) u I
      obtain ⟨f_sizeCap, f_functionCount, f_nodeCount, f_code, f_faultFunction, f_bound, f_foundParam, f_foundDrop, f_status, f_calls, f_depth, f_fuelLimit, f_begun, f_beginLimit, f_waitingFunction, f_currentNode, f_valueKnown, f_currentValue, a_paramCounts, a_listMasks, a_resultTypes, a_bodyStarts, a_nodeKinds, a_nodeArgs, a_parents, a_childIndexes, a_subtreeEnds, a_scopeSizes, a_levelTypes, a_levelParams, a_levelDrops, a_expectedTypes, a_totals, a_slotTypes, a_slotValues, a_waitingArgs, a_callNodes, a_levelValues, a_nodeValues⟩ := u
      exact this
    have hcb : 300 * (p + 4) < 1000000 := by omega
    have h22 : ¬ nI m + 2 = 0 := by rw [show nI m + 2 = nI (m + 2) from nI_add m 2]; exact nI_ne0 (by omega) (by omega)
    have h21 : ¬ nI m + 1 = 0 := by rw [nI_1 m]; exact nI_ne0 (by omega) (by omega)
    refine ⟨vp_in_nI hpL (by omega), lq_pos (by decide) (fun op => lq_cell (nI_add p 1) (by omega) hL (fun a => lq_cell (nI_add p 2) (by omega) hL (fun b => lq_cell (nI_add p 3) (by omega) hL (fun c => nm_r (nI_add p 4) ?_))))⟩
    refine br_c (fun _ => vm_clear I (fun (f_sizeCap, f_functionCount, f_nodeCount, f_code, f_faultFunction, f_bound, f_foundParam, f_foundDrop, f_status, f_calls, f_depth, f_fuelLimit, f_begun, f_beginLimit, f_waitingFunction, f_currentNode, f_valueKnown, f_currentValue, a_paramCounts, a_listMasks, a_resultTypes, a_bodyStarts, a_nodeKinds, a_nodeArgs, a_parents, a_childIndexes, a_subtreeEnds, a_scopeSizes, a_levelTypes, a_levelParams, a_levelDrops, a_expectedTypes, a_totals, a_slotTypes, a_slotValues, a_waitingArgs, a_callNodes, a_levelValues, a_nodeValues) I => lq_950 hJ hcb I (by omega))) (fun _ => br_c (fun _ => ?_) (fun _ => br_c (fun _ => ?_) (fun _ => br_c (fun _ => ?_) (fun _ => br_c (fun _ => ?_) (fun _ => br_c (fun _ => ?_) (fun _ => br_c (fun _ => ?_) (fun _ => br_c (fun _ => br_c (fun _ => ?_) (fun _ => ?_)) (fun _ => br_c (fun _ => ?_) (fun _ => br_c (fun _ => ?_) (fun _ => br_c (fun _ => ?_) (fun _ => br_c (fun _ => ?_) (fun _ => br_c (fun _ => ?_) (fun _ => ?_)))))))))))))
    · exact lq_pos (by decide) (fun _ => lq_pos (by decide) (fun _ => vm_function I (fun _ (f_sizeCap, f_functionCount, f_nodeCount, f_code, f_faultFunction, f_bound, f_foundParam, f_foundDrop, f_status, f_calls, f_depth, f_fuelLimit, f_begun, f_beginLimit, f_waitingFunction, f_currentNode, f_valueKnown, f_currentValue, a_paramCounts, a_listMasks, a_resultTypes, a_bodyStarts, a_nodeKinds, a_nodeArgs, a_parents, a_childIndexes, a_subtreeEnds, a_scopeSizes, a_levelTypes, a_levelParams, a_levelDrops, a_expectedTypes, a_totals, a_slotTypes, a_slotValues, a_waitingArgs, a_callNodes, a_levelValues, a_nodeValues) I => lq_950 hJ hcb I (by omega))))
    · exact lq_pos (by decide) (fun _ => lq_pos (by decide) (fun _ => vm_node I (fun _ (f_sizeCap, f_functionCount, f_nodeCount, f_code, f_faultFunction, f_bound, f_foundParam, f_foundDrop, f_status, f_calls, f_depth, f_fuelLimit, f_begun, f_beginLimit, f_waitingFunction, f_currentNode, f_valueKnown, f_currentValue, a_paramCounts, a_listMasks, a_resultTypes, a_bodyStarts, a_nodeKinds, a_nodeArgs, a_parents, a_childIndexes, a_subtreeEnds, a_scopeSizes, a_levelTypes, a_levelParams, a_levelDrops, a_expectedTypes, a_totals, a_slotTypes, a_slotValues, a_waitingArgs, a_callNodes, a_levelValues, a_nodeValues) I => lq_950 hJ hcb I (by omega))))
    · exact vm_compile I (fun _ (f_sizeCap, f_functionCount, f_nodeCount, f_code, f_faultFunction, f_bound, f_foundParam, f_foundDrop, f_status, f_calls, f_depth, f_fuelLimit, f_begun, f_beginLimit, f_waitingFunction, f_currentNode, f_valueKnown, f_currentValue, a_paramCounts, a_listMasks, a_resultTypes, a_bodyStarts, a_nodeKinds, a_nodeArgs, a_parents, a_childIndexes, a_subtreeEnds, a_scopeSizes, a_levelTypes, a_levelParams, a_levelDrops, a_expectedTypes, a_totals, a_slotTypes, a_slotValues, a_waitingArgs, a_callNodes, a_levelValues, a_nodeValues) I => lq_950 hJ hcb I (by omega))
    · exact lq_pos (by decide) (fun _ => lq_pos (by decide) (fun _ => lq_pos h22 (fun _ => vm_input I (fun _ (f_sizeCap, f_functionCount, f_nodeCount, f_code, f_faultFunction, f_bound, f_foundParam, f_foundDrop, f_status, f_calls, f_depth, f_fuelLimit, f_begun, f_beginLimit, f_waitingFunction, f_currentNode, f_valueKnown, f_currentValue, a_paramCounts, a_listMasks, a_resultTypes, a_bodyStarts, a_nodeKinds, a_nodeArgs, a_parents, a_childIndexes, a_subtreeEnds, a_scopeSizes, a_levelTypes, a_levelParams, a_levelDrops, a_expectedTypes, a_totals, a_slotTypes, a_slotValues, a_waitingArgs, a_callNodes, a_levelValues, a_nodeValues) I => lq_950 hJ hcb I (by omega)))))
    · exact vm_start I (fun _ (f_sizeCap, f_functionCount, f_nodeCount, f_code, f_faultFunction, f_bound, f_foundParam, f_foundDrop, f_status, f_calls, f_depth, f_fuelLimit, f_begun, f_beginLimit, f_waitingFunction, f_currentNode, f_valueKnown, f_currentValue, a_paramCounts, a_listMasks, a_resultTypes, a_bodyStarts, a_nodeKinds, a_nodeArgs, a_parents, a_childIndexes, a_subtreeEnds, a_scopeSizes, a_levelTypes, a_levelParams, a_levelDrops, a_expectedTypes, a_totals, a_slotTypes, a_slotValues, a_waitingArgs, a_callNodes, a_levelValues, a_nodeValues) I => lq_950 hJ hcb I (by omega))
    · exact lq_pos (by decide) (fun _ => vm_run I (by omega) (fun _ (f_sizeCap, f_functionCount, f_nodeCount, f_code, f_faultFunction, f_bound, f_foundParam, f_foundDrop, f_status, f_calls, f_depth, f_fuelLimit, f_begun, f_beginLimit, f_waitingFunction, f_currentNode, f_valueKnown, f_currentValue, a_paramCounts, a_listMasks, a_resultTypes, a_bodyStarts, a_nodeKinds, a_nodeArgs, a_parents, a_childIndexes, a_subtreeEnds, a_scopeSizes, a_levelTypes, a_levelParams, a_levelDrops, a_expectedTypes, a_totals, a_slotTypes, a_slotValues, a_waitingArgs, a_callNodes, a_levelValues, a_nodeValues) I => lq_950 hJ hcb I (by omega)))
    · exact vm_function I (fun _ (f_sizeCap, f_functionCount, f_nodeCount, f_code, f_faultFunction, f_bound, f_foundParam, f_foundDrop, f_status, f_calls, f_depth, f_fuelLimit, f_begun, f_beginLimit, f_waitingFunction, f_currentNode, f_valueKnown, f_currentValue, a_paramCounts, a_listMasks, a_resultTypes, a_bodyStarts, a_nodeKinds, a_nodeArgs, a_parents, a_childIndexes, a_subtreeEnds, a_scopeSizes, a_levelTypes, a_levelParams, a_levelDrops, a_expectedTypes, a_totals, a_slotTypes, a_slotValues, a_waitingArgs, a_callNodes, a_levelValues, a_nodeValues) I => vm_node I (fun _ (f_sizeCap, f_functionCount, f_nodeCount, f_code, f_faultFunction, f_bound, f_foundParam, f_foundDrop, f_status, f_calls, f_depth, f_fuelLimit, f_begun, f_beginLimit, f_waitingFunction, f_currentNode, f_valueKnown, f_currentValue, a_paramCounts, a_listMasks, a_resultTypes, a_bodyStarts, a_nodeKinds, a_nodeArgs, a_parents, a_childIndexes, a_subtreeEnds, a_scopeSizes, a_levelTypes, a_levelParams, a_levelDrops, a_expectedTypes, a_totals, a_slotTypes, a_slotValues, a_waitingArgs, a_callNodes, a_levelValues, a_nodeValues) I => vm_node I (fun _ (f_sizeCap, f_functionCount, f_nodeCount, f_code, f_faultFunction, f_bound, f_foundParam, f_foundDrop, f_status, f_calls, f_depth, f_fuelLimit, f_begun, f_beginLimit, f_waitingFunction, f_currentNode, f_valueKnown, f_currentValue, a_paramCounts, a_listMasks, a_resultTypes, a_bodyStarts, a_nodeKinds, a_nodeArgs, a_parents, a_childIndexes, a_subtreeEnds, a_scopeSizes, a_levelTypes, a_levelParams, a_levelDrops, a_expectedTypes, a_totals, a_slotTypes, a_slotValues, a_waitingArgs, a_callNodes, a_levelValues, a_nodeValues) I => vm_node I (fun _ (f_sizeCap, f_functionCount, f_nodeCount, f_code, f_faultFunction, f_bound, f_foundParam, f_foundDrop, f_status, f_calls, f_depth, f_fuelLimit, f_begun, f_beginLimit, f_waitingFunction, f_currentNode, f_valueKnown, f_currentValue, a_paramCounts, a_listMasks, a_resultTypes, a_bodyStarts, a_nodeKinds, a_nodeArgs, a_parents, a_childIndexes, a_subtreeEnds, a_scopeSizes, a_levelTypes, a_levelParams, a_levelDrops, a_expectedTypes, a_totals, a_slotTypes, a_slotValues, a_waitingArgs, a_callNodes, a_levelValues, a_nodeValues) I => vm_node I (fun _ (f_sizeCap, f_functionCount, f_nodeCount, f_code, f_faultFunction, f_bound, f_foundParam, f_foundDrop, f_status, f_calls, f_depth, f_fuelLimit, f_begun, f_beginLimit, f_waitingFunction, f_currentNode, f_valueKnown, f_currentValue, a_paramCounts, a_listMasks, a_resultTypes, a_bodyStarts, a_nodeKinds, a_nodeArgs, a_parents, a_childIndexes, a_subtreeEnds, a_scopeSizes, a_levelTypes, a_levelParams, a_levelDrops, a_expectedTypes, a_totals, a_slotTypes, a_slotValues, a_waitingArgs, a_callNodes, a_levelValues, a_nodeValues) I => vm_node I (fun _ (f_sizeCap, f_functionCount, f_nodeCount, f_code, f_faultFunction, f_bound, f_foundParam, f_foundDrop, f_status, f_calls, f_depth, f_fuelLimit, f_begun, f_beginLimit, f_waitingFunction, f_currentNode, f_valueKnown, f_currentValue, a_paramCounts, a_listMasks, a_resultTypes, a_bodyStarts, a_nodeKinds, a_nodeArgs, a_parents, a_childIndexes, a_subtreeEnds, a_scopeSizes, a_levelTypes, a_levelParams, a_levelDrops, a_expectedTypes, a_totals, a_slotTypes, a_slotValues, a_waitingArgs, a_callNodes, a_levelValues, a_nodeValues) I => vm_node I (fun _ (f_sizeCap, f_functionCount, f_nodeCount, f_code, f_faultFunction, f_bound, f_foundParam, f_foundDrop, f_status, f_calls, f_depth, f_fuelLimit, f_begun, f_beginLimit, f_waitingFunction, f_currentNode, f_valueKnown, f_currentValue, a_paramCounts, a_listMasks, a_resultTypes, a_bodyStarts, a_nodeKinds, a_nodeArgs, a_parents, a_childIndexes, a_subtreeEnds, a_scopeSizes, a_levelTypes, a_levelParams, a_levelDrops, a_expectedTypes, a_totals, a_slotTypes, a_slotValues, a_waitingArgs, a_callNodes, a_levelValues, a_nodeValues) I => lq_950 hJ hcb I (by omega))))))))
    · exact vm_function I (fun _ (f_sizeCap, f_functionCount, f_nodeCount, f_code, f_faultFunction, f_bound, f_foundParam, f_foundDrop, f_status, f_calls, f_depth, f_fuelLimit, f_begun, f_beginLimit, f_waitingFunction, f_currentNode, f_valueKnown, f_currentValue, a_paramCounts, a_listMasks, a_resultTypes, a_bodyStarts, a_nodeKinds, a_nodeArgs, a_parents, a_childIndexes, a_subtreeEnds, a_scopeSizes, a_levelTypes, a_levelParams, a_levelDrops, a_expectedTypes, a_totals, a_slotTypes, a_slotValues, a_waitingArgs, a_callNodes, a_levelValues, a_nodeValues) I => vm_node I (fun _ (f_sizeCap, f_functionCount, f_nodeCount, f_code, f_faultFunction, f_bound, f_foundParam, f_foundDrop, f_status, f_calls, f_depth, f_fuelLimit, f_begun, f_beginLimit, f_waitingFunction, f_currentNode, f_valueKnown, f_currentValue, a_paramCounts, a_listMasks, a_resultTypes, a_bodyStarts, a_nodeKinds, a_nodeArgs, a_parents, a_childIndexes, a_subtreeEnds, a_scopeSizes, a_levelTypes, a_levelParams, a_levelDrops, a_expectedTypes, a_totals, a_slotTypes, a_slotValues, a_waitingArgs, a_callNodes, a_levelValues, a_nodeValues) I => vm_node I (fun _ (f_sizeCap, f_functionCount, f_nodeCount, f_code, f_faultFunction, f_bound, f_foundParam, f_foundDrop, f_status, f_calls, f_depth, f_fuelLimit, f_begun, f_beginLimit, f_waitingFunction, f_currentNode, f_valueKnown, f_currentValue, a_paramCounts, a_listMasks, a_resultTypes, a_bodyStarts, a_nodeKinds, a_nodeArgs, a_parents, a_childIndexes, a_subtreeEnds, a_scopeSizes, a_levelTypes, a_levelParams, a_levelDrops, a_expectedTypes, a_totals, a_slotTypes, a_slotValues, a_waitingArgs, a_callNodes, a_levelValues, a_nodeValues) I => vm_node I (fun _ (f_sizeCap, f_functionCount, f_nodeCount, f_code, f_faultFunction, f_bound, f_foundParam, f_foundDrop, f_status, f_calls, f_depth, f_fuelLimit, f_begun, f_beginLimit, f_waitingFunction, f_currentNode, f_valueKnown, f_currentValue, a_paramCounts, a_listMasks, a_resultTypes, a_bodyStarts, a_nodeKinds, a_nodeArgs, a_parents, a_childIndexes, a_subtreeEnds, a_scopeSizes, a_levelTypes, a_levelParams, a_levelDrops, a_expectedTypes, a_totals, a_slotTypes, a_slotValues, a_waitingArgs, a_callNodes, a_levelValues, a_nodeValues) I => vm_node I (fun _ (f_sizeCap, f_functionCount, f_nodeCount, f_code, f_faultFunction, f_bound, f_foundParam, f_foundDrop, f_status, f_calls, f_depth, f_fuelLimit, f_begun, f_beginLimit, f_waitingFunction, f_currentNode, f_valueKnown, f_currentValue, a_paramCounts, a_listMasks, a_resultTypes, a_bodyStarts, a_nodeKinds, a_nodeArgs, a_parents, a_childIndexes, a_subtreeEnds, a_scopeSizes, a_levelTypes, a_levelParams, a_levelDrops, a_expectedTypes, a_totals, a_slotTypes, a_slotValues, a_waitingArgs, a_callNodes, a_levelValues, a_nodeValues) I => vm_node I (fun _ (f_sizeCap, f_functionCount, f_nodeCount, f_code, f_faultFunction, f_bound, f_foundParam, f_foundDrop, f_status, f_calls, f_depth, f_fuelLimit, f_begun, f_beginLimit, f_waitingFunction, f_currentNode, f_valueKnown, f_currentValue, a_paramCounts, a_listMasks, a_resultTypes, a_bodyStarts, a_nodeKinds, a_nodeArgs, a_parents, a_childIndexes, a_subtreeEnds, a_scopeSizes, a_levelTypes, a_levelParams, a_levelDrops, a_expectedTypes, a_totals, a_slotTypes, a_slotValues, a_waitingArgs, a_callNodes, a_levelValues, a_nodeValues) I => vm_node I (fun _ (f_sizeCap, f_functionCount, f_nodeCount, f_code, f_faultFunction, f_bound, f_foundParam, f_foundDrop, f_status, f_calls, f_depth, f_fuelLimit, f_begun, f_beginLimit, f_waitingFunction, f_currentNode, f_valueKnown, f_currentValue, a_paramCounts, a_listMasks, a_resultTypes, a_bodyStarts, a_nodeKinds, a_nodeArgs, a_parents, a_childIndexes, a_subtreeEnds, a_scopeSizes, a_levelTypes, a_levelParams, a_levelDrops, a_expectedTypes, a_totals, a_slotTypes, a_slotValues, a_waitingArgs, a_callNodes, a_levelValues, a_nodeValues) I => vm_node I (fun _ (f_sizeCap, f_functionCount, f_nodeCount, f_code, f_faultFunction, f_bound, f_foundParam, f_foundDrop, f_status, f_calls, f_depth, f_fuelLimit, f_begun, f_beginLimit, f_waitingFunction, f_currentNode, f_valueKnown, f_currentValue, a_paramCounts, a_listMasks, a_resultTypes, a_bodyStarts, a_nodeKinds, a_nodeArgs, a_parents, a_childIndexes, a_subtreeEnds, a_scopeSizes, a_levelTypes, a_levelParams, a_levelDrops, a_expectedTypes, a_totals, a_slotTypes, a_slotValues, a_waitingArgs, a_callNodes, a_levelValues, a_nodeValues) I => lq_950 hJ hcb I (by omega)))))))))
    · exact vm_function I (fun _ (f_sizeCap, f_functionCount, f_nodeCount, f_code, f_faultFunction, f_bound, f_foundParam, f_foundDrop, f_status, f_calls, f_depth, f_fuelLimit, f_begun, f_beginLimit, f_waitingFunction, f_currentNode, f_valueKnown, f_currentValue, a_paramCounts, a_listMasks, a_resultTypes, a_bodyStarts, a_nodeKinds, a_nodeArgs, a_parents, a_childIndexes, a_subtreeEnds, a_scopeSizes, a_levelTypes, a_levelParams, a_levelDrops, a_expectedTypes, a_totals, a_slotTypes, a_slotValues, a_waitingArgs, a_callNodes, a_levelValues, a_nodeValues) I => vm_node I (fun _ (f_sizeCap, f_functionCount, f_nodeCount, f_code, f_faultFunction, f_bound, f_foundParam, f_foundDrop, f_status, f_calls, f_depth, f_fuelLimit, f_begun, f_beginLimit, f_waitingFunction, f_currentNode, f_valueKnown, f_currentValue, a_paramCounts, a_listMasks, a_resultTypes, a_bodyStarts, a_nodeKinds, a_nodeArgs, a_parents, a_childIndexes, a_subtreeEnds, a_scopeSizes, a_levelTypes, a_levelParams, a_levelDrops, a_expectedTypes, a_totals, a_slotTypes, a_slotValues, a_waitingArgs, a_callNodes, a_levelValues, a_nodeValues) I => vm_node I (fun _ (f_sizeCap, f_functionCount, f_nodeCount, f_code, f_faultFunction, f_bound, f_foundParam, f_foundDrop, f_status, f_calls, f_depth, f_fuelLimit, f_begun, f_beginLimit, f_waitingFunction, f_currentNode, f_valueKnown, f_currentValue, a_paramCounts, a_listMasks, a_resultTypes, a_bodyStarts, a_nodeKinds, a_nodeArgs, a_parents, a_childIndexes, a_subtreeEnds, a_scopeSizes, a_levelTypes, a_levelParams, a_levelDrops, a_expectedTypes, a_totals, a_slotTypes, a_slotValues, a_waitingArgs, a_callNodes, a_levelValues, a_nodeValues) I => vm_node I (fun _ (f_sizeCap, f_functionCount, f_nodeCount, f_code, f_faultFunction, f_bound, f_foundParam, f_foundDrop, f_status, f_calls, f_depth, f_fuelLimit, f_begun, f_beginLimit, f_waitingFunction, f_currentNode, f_valueKnown, f_currentValue, a_paramCounts, a_listMasks, a_resultTypes, a_bodyStarts, a_nodeKinds, a_nodeArgs, a_parents, a_childIndexes, a_subtreeEnds, a_scopeSizes, a_levelTypes, a_levelParams, a_levelDrops, a_expectedTypes, a_totals, a_slotTypes, a_slotValues, a_waitingArgs, a_callNodes, a_levelValues, a_nodeValues) I => vm_node I (fun _ (f_sizeCap, f_functionCount, f_nodeCount, f_code, f_faultFunction, f_bound, f_foundParam, f_foundDrop, f_status, f_calls, f_depth, f_fuelLimit, f_begun, f_beginLimit, f_waitingFunction, f_currentNode, f_valueKnown, f_currentValue, a_paramCounts, a_listMasks, a_resultTypes, a_bodyStarts, a_nodeKinds, a_nodeArgs, a_parents, a_childIndexes, a_subtreeEnds, a_scopeSizes, a_levelTypes, a_levelParams, a_levelDrops, a_expectedTypes, a_totals, a_slotTypes, a_slotValues, a_waitingArgs, a_callNodes, a_levelValues, a_nodeValues) I => vm_node I (fun _ (f_sizeCap, f_functionCount, f_nodeCount, f_code, f_faultFunction, f_bound, f_foundParam, f_foundDrop, f_status, f_calls, f_depth, f_fuelLimit, f_begun, f_beginLimit, f_waitingFunction, f_currentNode, f_valueKnown, f_currentValue, a_paramCounts, a_listMasks, a_resultTypes, a_bodyStarts, a_nodeKinds, a_nodeArgs, a_parents, a_childIndexes, a_subtreeEnds, a_scopeSizes, a_levelTypes, a_levelParams, a_levelDrops, a_expectedTypes, a_totals, a_slotTypes, a_slotValues, a_waitingArgs, a_callNodes, a_levelValues, a_nodeValues) I => vm_node I (fun _ (f_sizeCap, f_functionCount, f_nodeCount, f_code, f_faultFunction, f_bound, f_foundParam, f_foundDrop, f_status, f_calls, f_depth, f_fuelLimit, f_begun, f_beginLimit, f_waitingFunction, f_currentNode, f_valueKnown, f_currentValue, a_paramCounts, a_listMasks, a_resultTypes, a_bodyStarts, a_nodeKinds, a_nodeArgs, a_parents, a_childIndexes, a_subtreeEnds, a_scopeSizes, a_levelTypes, a_levelParams, a_levelDrops, a_expectedTypes, a_totals, a_slotTypes, a_slotValues, a_waitingArgs, a_callNodes, a_levelValues, a_nodeValues) I => vm_node I (fun _ (f_sizeCap, f_functionCount, f_nodeCount, f_code, f_faultFunction, f_bound, f_foundParam, f_foundDrop, f_status, f_calls, f_depth, f_fuelLimit, f_begun, f_beginLimit, f_waitingFunction, f_currentNode, f_valueKnown, f_currentValue, a_paramCounts, a_listMasks, a_resultTypes, a_bodyStarts, a_nodeKinds, a_nodeArgs, a_parents, a_childIndexes, a_subtreeEnds, a_scopeSizes, a_levelTypes, a_levelParams, a_levelDrops, a_expectedTypes, a_totals, a_slotTypes, a_slotValues, a_waitingArgs, a_callNodes, a_levelValues, a_nodeValues) I => vm_node I (fun _ (f_sizeCap, f_functionCount, f_nodeCount, f_code, f_faultFunction, f_bound, f_foundParam, f_foundDrop, f_status, f_calls, f_depth, f_fuelLimit, f_begun, f_beginLimit, f_waitingFunction, f_currentNode, f_valueKnown, f_currentValue, a_paramCounts, a_listMasks, a_resultTypes, a_bodyStarts, a_nodeKinds, a_nodeArgs, a_parents, a_childIndexes, a_subtreeEnds, a_scopeSizes, a_levelTypes, a_levelParams, a_levelDrops, a_expectedTypes, a_totals, a_slotTypes, a_slotValues, a_waitingArgs, a_callNodes, a_levelValues, a_nodeValues) I => vm_node I (fun _ (f_sizeCap, f_functionCount, f_nodeCount, f_code, f_faultFunction, f_bound, f_foundParam, f_foundDrop, f_status, f_calls, f_depth, f_fuelLimit, f_begun, f_beginLimit, f_waitingFunction, f_currentNode, f_valueKnown, f_currentValue, a_paramCounts, a_listMasks, a_resultTypes, a_bodyStarts, a_nodeKinds, a_nodeArgs, a_parents, a_childIndexes, a_subtreeEnds, a_scopeSizes, a_levelTypes, a_levelParams, a_levelDrops, a_expectedTypes, a_totals, a_slotTypes, a_slotValues, a_waitingArgs, a_callNodes, a_levelValues, a_nodeValues) I => vm_node I (fun _ (f_sizeCap, f_functionCount, f_nodeCount, f_code, f_faultFunction, f_bound, f_foundParam, f_foundDrop, f_status, f_calls, f_depth, f_fuelLimit, f_begun, f_beginLimit, f_waitingFunction, f_currentNode, f_valueKnown, f_currentValue, a_paramCounts, a_listMasks, a_resultTypes, a_bodyStarts, a_nodeKinds, a_nodeArgs, a_parents, a_childIndexes, a_subtreeEnds, a_scopeSizes, a_levelTypes, a_levelParams, a_levelDrops, a_expectedTypes, a_totals, a_slotTypes, a_slotValues, a_waitingArgs, a_callNodes, a_levelValues, a_nodeValues) I => lq_950 hJ hcb I (by omega))))))))))))
    · exact vm_function I (fun _ (f_sizeCap, f_functionCount, f_nodeCount, f_code, f_faultFunction, f_bound, f_foundParam, f_foundDrop, f_status, f_calls, f_depth, f_fuelLimit, f_begun, f_beginLimit, f_waitingFunction, f_currentNode, f_valueKnown, f_currentValue, a_paramCounts, a_listMasks, a_resultTypes, a_bodyStarts, a_nodeKinds, a_nodeArgs, a_parents, a_childIndexes, a_subtreeEnds, a_scopeSizes, a_levelTypes, a_levelParams, a_levelDrops, a_expectedTypes, a_totals, a_slotTypes, a_slotValues, a_waitingArgs, a_callNodes, a_levelValues, a_nodeValues) I => vm_node I (fun _ (f_sizeCap, f_functionCount, f_nodeCount, f_code, f_faultFunction, f_bound, f_foundParam, f_foundDrop, f_status, f_calls, f_depth, f_fuelLimit, f_begun, f_beginLimit, f_waitingFunction, f_currentNode, f_valueKnown, f_currentValue, a_paramCounts, a_listMasks, a_resultTypes, a_bodyStarts, a_nodeKinds, a_nodeArgs, a_parents, a_childIndexes, a_subtreeEnds, a_scopeSizes, a_levelTypes, a_levelParams, a_levelDrops, a_expectedTypes, a_totals, a_slotTypes, a_slotValues, a_waitingArgs, a_callNodes, a_levelValues, a_nodeValues) I => vm_node I (fun _ (f_sizeCap, f_functionCount, f_nodeCount, f_code, f_faultFunction, f_bound, f_foundParam, f_foundDrop, f_status, f_calls, f_depth, f_fuelLimit, f_begun, f_beginLimit, f_waitingFunction, f_currentNode, f_valueKnown, f_currentValue, a_paramCounts, a_listMasks, a_resultTypes, a_bodyStarts, a_nodeKinds, a_nodeArgs, a_parents, a_childIndexes, a_subtreeEnds, a_scopeSizes, a_levelTypes, a_levelParams, a_levelDrops, a_expectedTypes, a_totals, a_slotTypes, a_slotValues, a_waitingArgs, a_callNodes, a_levelValues, a_nodeValues) I => vm_node I (fun _ (f_sizeCap, f_functionCount, f_nodeCount, f_code, f_faultFunction, f_bound, f_foundParam, f_foundDrop, f_status, f_calls, f_depth, f_fuelLimit, f_begun, f_beginLimit, f_waitingFunction, f_currentNode, f_valueKnown, f_currentValue, a_paramCounts, a_listMasks, a_resultTypes, a_bodyStarts, a_nodeKinds, a_nodeArgs, a_parents, a_childIndexes, a_subtreeEnds, a_scopeSizes, a_levelTypes, a_levelParams, a_levelDrops, a_expectedTypes, a_totals, a_slotTypes, a_slotValues, a_waitingArgs, a_callNodes, a_levelValues, a_nodeValues) I => vm_node I (fun _ (f_sizeCap, f_functionCount, f_nodeCount, f_code, f_faultFunction, f_bound, f_foundParam, f_foundDrop, f_status, f_calls, f_depth, f_fuelLimit, f_begun, f_beginLimit, f_waitingFunction, f_currentNode, f_valueKnown, f_currentValue, a_paramCounts, a_listMasks, a_resultTypes, a_bodyStarts, a_nodeKinds, a_nodeArgs, a_parents, a_childIndexes, a_subtreeEnds, a_scopeSizes, a_levelTypes, a_levelParams, a_levelDrops, a_expectedTypes, a_totals, a_slotTypes, a_slotValues, a_waitingArgs, a_callNodes, a_levelValues, a_nodeValues) I => vm_node I (fun _ (f_sizeCap, f_functionCount, f_nodeCount, f_code, f_faultFunction, f_bound, f_foundParam, f_foundDrop, f_status, f_calls, f_depth, f_fuelLimit, f_begun, f_beginLimit, f_waitingFunction, f_currentNode, f_valueKnown, f_currentValue, a_paramCounts, a_listMasks, a_resultTypes, a_bodyStarts, a_nodeKinds, a_nodeArgs, a_parents, a_childIndexes, a_subtreeEnds, a_scopeSizes, a_levelTypes, a_levelParams, a_levelDrops, a_expectedTypes, a_totals, a_slotTypes, a_slotValues, a_waitingArgs, a_callNodes, a_levelValues, a_nodeValues) I => vm_node I (fun _ (f_sizeCap, f_functionCount, f_nodeCount, f_code, f_faultFunction, f_bound, f_foundParam, f_foundDrop, f_status, f_calls, f_depth, f_fuelLimit, f_begun, f_beginLimit, f_waitingFunction, f_currentNode, f_valueKnown, f_currentValue, a_paramCounts, a_listMasks, a_resultTypes, a_bodyStarts, a_nodeKinds, a_nodeArgs, a_parents, a_childIndexes, a_subtreeEnds, a_scopeSizes, a_levelTypes, a_levelParams, a_levelDrops, a_expectedTypes, a_totals, a_slotTypes, a_slotValues, a_waitingArgs, a_callNodes, a_levelValues, a_nodeValues) I => lq_950 hJ hcb I (by omega))))))))
    · exact vm_function I (fun _ (f_sizeCap, f_functionCount, f_nodeCount, f_code, f_faultFunction, f_bound, f_foundParam, f_foundDrop, f_status, f_calls, f_depth, f_fuelLimit, f_begun, f_beginLimit, f_waitingFunction, f_currentNode, f_valueKnown, f_currentValue, a_paramCounts, a_listMasks, a_resultTypes, a_bodyStarts, a_nodeKinds, a_nodeArgs, a_parents, a_childIndexes, a_subtreeEnds, a_scopeSizes, a_levelTypes, a_levelParams, a_levelDrops, a_expectedTypes, a_totals, a_slotTypes, a_slotValues, a_waitingArgs, a_callNodes, a_levelValues, a_nodeValues) I => vm_node I (fun _ (f_sizeCap, f_functionCount, f_nodeCount, f_code, f_faultFunction, f_bound, f_foundParam, f_foundDrop, f_status, f_calls, f_depth, f_fuelLimit, f_begun, f_beginLimit, f_waitingFunction, f_currentNode, f_valueKnown, f_currentValue, a_paramCounts, a_listMasks, a_resultTypes, a_bodyStarts, a_nodeKinds, a_nodeArgs, a_parents, a_childIndexes, a_subtreeEnds, a_scopeSizes, a_levelTypes, a_levelParams, a_levelDrops, a_expectedTypes, a_totals, a_slotTypes, a_slotValues, a_waitingArgs, a_callNodes, a_levelValues, a_nodeValues) I => vm_node I (fun _ (f_sizeCap, f_functionCount, f_nodeCount, f_code, f_faultFunction, f_bound, f_foundParam, f_foundDrop, f_status, f_calls, f_depth, f_fuelLimit, f_begun, f_beginLimit, f_waitingFunction, f_currentNode, f_valueKnown, f_currentValue, a_paramCounts, a_listMasks, a_resultTypes, a_bodyStarts, a_nodeKinds, a_nodeArgs, a_parents, a_childIndexes, a_subtreeEnds, a_scopeSizes, a_levelTypes, a_levelParams, a_levelDrops, a_expectedTypes, a_totals, a_slotTypes, a_slotValues, a_waitingArgs, a_callNodes, a_levelValues, a_nodeValues) I => vm_node I (fun _ (f_sizeCap, f_functionCount, f_nodeCount, f_code, f_faultFunction, f_bound, f_foundParam, f_foundDrop, f_status, f_calls, f_depth, f_fuelLimit, f_begun, f_beginLimit, f_waitingFunction, f_currentNode, f_valueKnown, f_currentValue, a_paramCounts, a_listMasks, a_resultTypes, a_bodyStarts, a_nodeKinds, a_nodeArgs, a_parents, a_childIndexes, a_subtreeEnds, a_scopeSizes, a_levelTypes, a_levelParams, a_levelDrops, a_expectedTypes, a_totals, a_slotTypes, a_slotValues, a_waitingArgs, a_callNodes, a_levelValues, a_nodeValues) I => vm_node I (fun _ (f_sizeCap, f_functionCount, f_nodeCount, f_code, f_faultFunction, f_bound, f_foundParam, f_foundDrop, f_status, f_calls, f_depth, f_fuelLimit, f_begun, f_beginLimit, f_waitingFunction, f_currentNode, f_valueKnown, f_currentValue, a_paramCounts, a_listMasks, a_resultTypes, a_bodyStarts, a_nodeKinds, a_nodeArgs, a_parents, a_childIndexes, a_subtreeEnds, a_scopeSizes, a_levelTypes, a_levelParams, a_levelDrops, a_expectedTypes, a_totals, a_slotTypes, a_slotValues, a_waitingArgs, a_callNodes, a_levelValues, a_nodeValues) I => vm_node I (fun _ (f_sizeCap, f_functionCount, f_nodeCount, f_code, f_faultFunction, f_bound, f_foundParam, f_foundDrop, f_status, f_calls, f_depth, f_fuelLimit, f_begun, f_beginLimit, f_waitingFunction, f_currentNode, f_valueKnown, f_currentValue, a_paramCounts, a_listMasks, a_resultTypes, a_bodyStarts, a_nodeKinds, a_nodeArgs, a_parents, a_childIndexes, a_subtreeEnds, a_scopeSizes, a_levelTypes, a_levelParams, a_levelDrops, a_expectedTypes, a_totals, a_slotTypes, a_slotValues, a_waitingArgs, a_callNodes, a_levelValues, a_nodeValues) I => vm_node I (fun _ (f_sizeCap, f_functionCount, f_nodeCount, f_code, f_faultFunction, f_bound, f_foundParam, f_foundDrop, f_status, f_calls, f_depth, f_fuelLimit, f_begun, f_beginLimit, f_waitingFunction, f_currentNode, f_valueKnown, f_currentValue, a_paramCounts, a_listMasks, a_resultTypes, a_bodyStarts, a_nodeKinds, a_nodeArgs, a_parents, a_childIndexes, a_subtreeEnds, a_scopeSizes, a_levelTypes, a_levelParams, a_levelDrops, a_expectedTypes, a_totals, a_slotTypes, a_slotValues, a_waitingArgs, a_callNodes, a_levelValues, a_nodeValues) I => vm_node I (fun _ (f_sizeCap, f_functionCount, f_nodeCount, f_code, f_faultFunction, f_bound, f_foundParam, f_foundDrop, f_status, f_calls, f_depth, f_fuelLimit, f_begun, f_beginLimit, f_waitingFunction, f_currentNode, f_valueKnown, f_currentValue, a_paramCounts, a_listMasks, a_resultTypes, a_bodyStarts, a_nodeKinds, a_nodeArgs, a_parents, a_childIndexes, a_subtreeEnds, a_scopeSizes, a_levelTypes, a_levelParams, a_levelDrops, a_expectedTypes, a_totals, a_slotTypes, a_slotValues, a_waitingArgs, a_callNodes, a_levelValues, a_nodeValues) I => vm_node I (fun _ (f_sizeCap, f_functionCount, f_nodeCount, f_code, f_faultFunction, f_bound, f_foundParam, f_foundDrop, f_status, f_calls, f_depth, f_fuelLimit, f_begun, f_beginLimit, f_waitingFunction, f_currentNode, f_valueKnown, f_currentValue, a_paramCounts, a_listMasks, a_resultTypes, a_bodyStarts, a_nodeKinds, a_nodeArgs, a_parents, a_childIndexes, a_subtreeEnds, a_scopeSizes, a_levelTypes, a_levelParams, a_levelDrops, a_expectedTypes, a_totals, a_slotTypes, a_slotValues, a_waitingArgs, a_callNodes, a_levelValues, a_nodeValues) I => vm_node I (fun _ (f_sizeCap, f_functionCount, f_nodeCount, f_code, f_faultFunction, f_bound, f_foundParam, f_foundDrop, f_status, f_calls, f_depth, f_fuelLimit, f_begun, f_beginLimit, f_waitingFunction, f_currentNode, f_valueKnown, f_currentValue, a_paramCounts, a_listMasks, a_resultTypes, a_bodyStarts, a_nodeKinds, a_nodeArgs, a_parents, a_childIndexes, a_subtreeEnds, a_scopeSizes, a_levelTypes, a_levelParams, a_levelDrops, a_expectedTypes, a_totals, a_slotTypes, a_slotValues, a_waitingArgs, a_callNodes, a_levelValues, a_nodeValues) I => vm_node I (fun _ (f_sizeCap, f_functionCount, f_nodeCount, f_code, f_faultFunction, f_bound, f_foundParam, f_foundDrop, f_status, f_calls, f_depth, f_fuelLimit, f_begun, f_beginLimit, f_waitingFunction, f_currentNode, f_valueKnown, f_currentValue, a_paramCounts, a_listMasks, a_resultTypes, a_bodyStarts, a_nodeKinds, a_nodeArgs, a_parents, a_childIndexes, a_subtreeEnds, a_scopeSizes, a_levelTypes, a_levelParams, a_levelDrops, a_expectedTypes, a_totals, a_slotTypes, a_slotValues, a_waitingArgs, a_callNodes, a_levelValues, a_nodeValues) I => vm_node I (fun _ (f_sizeCap, f_functionCount, f_nodeCount, f_code, f_faultFunction, f_bound, f_foundParam, f_foundDrop, f_status, f_calls, f_depth, f_fuelLimit, f_begun, f_beginLimit, f_waitingFunction, f_currentNode, f_valueKnown, f_currentValue, a_paramCounts, a_listMasks, a_resultTypes, a_bodyStarts, a_nodeKinds, a_nodeArgs, a_parents, a_childIndexes, a_subtreeEnds, a_scopeSizes, a_levelTypes, a_levelParams, a_levelDrops, a_expectedTypes, a_totals, a_slotTypes, a_slotValues, a_waitingArgs, a_callNodes, a_levelValues, a_nodeValues) I => vm_node I (fun _ (f_sizeCap, f_functionCount, f_nodeCount, f_code, f_faultFunction, f_bound, f_foundParam, f_foundDrop, f_status, f_calls, f_depth, f_fuelLimit, f_begun, f_beginLimit, f_waitingFunction, f_currentNode, f_valueKnown, f_currentValue, a_paramCounts, a_listMasks, a_resultTypes, a_bodyStarts, a_nodeKinds, a_nodeArgs, a_parents, a_childIndexes, a_subtreeEnds, a_scopeSizes, a_levelTypes, a_levelParams, a_levelDrops, a_expectedTypes, a_totals, a_slotTypes, a_slotValues, a_waitingArgs, a_callNodes, a_levelValues, a_nodeValues) I => vm_node I (fun _ (f_sizeCap, f_functionCount, f_nodeCount, f_code, f_faultFunction, f_bound, f_foundParam, f_foundDrop, f_status, f_calls, f_depth, f_fuelLimit, f_begun, f_beginLimit, f_waitingFunction, f_currentNode, f_valueKnown, f_currentValue, a_paramCounts, a_listMasks, a_resultTypes, a_bodyStarts, a_nodeKinds, a_nodeArgs, a_parents, a_childIndexes, a_subtreeEnds, a_scopeSizes, a_levelTypes, a_levelParams, a_levelDrops, a_expectedTypes, a_totals, a_slotTypes, a_slotValues, a_waitingArgs, a_callNodes, a_levelValues, a_nodeValues) I => vm_node I (fun _ (f_sizeCap, f_functionCount, f_nodeCount, f_code, f_faultFunction, f_bound, f_foundParam, f_foundDrop, f_status, f_calls, f_depth, f_fuelLimit, f_begun, f_beginLimit, f_waitingFunction, f_currentNode, f_valueKnown, f_currentValue, a_paramCounts, a_listMasks, a_resultTypes, a_bodyStarts, a_nodeKinds, a_nodeArgs, a_parents, a_childIndexes, a_subtreeEnds, a_scopeSizes, a_levelTypes, a_levelParams, a_levelDrops, a_expectedTypes, a_totals, a_slotTypes, a_slotValues, a_waitingArgs, a_callNodes, a_levelValues, a_nodeValues) I => vm_node I (fun _ (f_sizeCap, f_functionCount, f_nodeCount, f_code, f_faultFunction, f_bound, f_foundParam, f_foundDrop, f_status, f_calls, f_depth, f_fuelLimit, f_begun, f_beginLimit, f_waitingFunction, f_currentNode, f_valueKnown, f_currentValue, a_paramCounts, a_listMasks, a_resultTypes, a_bodyStarts, a_nodeKinds, a_nodeArgs, a_parents, a_childIndexes, a_subtreeEnds, a_scopeSizes, a_levelTypes, a_levelParams, a_levelDrops, a_expectedTypes, a_totals, a_slotTypes, a_slotValues, a_waitingArgs, a_callNodes, a_levelValues, a_nodeValues) I => lq_950 hJ hcb I (by omega)))))))))))))))))
    · exact vm_function I (fun _ (f_sizeCap, f_functionCount, f_nodeCount, f_code, f_faultFunction, f_bound, f_foundParam, f_foundDrop, f_status, f_calls, f_depth, f_fuelLimit, f_begun, f_beginLimit, f_waitingFunction, f_currentNode, f_valueKnown, f_currentValue, a_paramCounts, a_listMasks, a_resultTypes, a_bodyStarts, a_nodeKinds, a_nodeArgs, a_parents, a_childIndexes, a_subtreeEnds, a_scopeSizes, a_levelTypes, a_levelParams, a_levelDrops, a_expectedTypes, a_totals, a_slotTypes, a_slotValues, a_waitingArgs, a_callNodes, a_levelValues, a_nodeValues) I => vm_node I (fun _ (f_sizeCap, f_functionCount, f_nodeCount, f_code, f_faultFunction, f_bound, f_foundParam, f_foundDrop, f_status, f_calls, f_depth, f_fuelLimit, f_begun, f_beginLimit, f_waitingFunction, f_currentNode, f_valueKnown, f_currentValue, a_paramCounts, a_listMasks, a_resultTypes, a_bodyStarts, a_nodeKinds, a_nodeArgs, a_parents, a_childIndexes, a_subtreeEnds, a_scopeSizes, a_levelTypes, a_levelParams, a_levelDrops, a_expectedTypes, a_totals, a_slotTypes, a_slotValues, a_waitingArgs, a_callNodes, a_levelValues, a_nodeValues) I => vm_node I (fun _ (f_sizeCap, f_functionCount, f_nodeCount, f_code, f_faultFunction, f_bound, f_foundParam, f_foundDrop, f_status, f_calls, f_depth, f_fuelLimit, f_begun, f_beginLimit, f_waitingFunction, f_currentNode, f_valueKnown, f_currentValue, a_paramCounts, a_listMasks, a_resultTypes, a_bodyStarts, a_nodeKinds, a_nodeArgs, a_parents, a_childIndexes, a_subtreeEnds, a_scopeSizes, a_levelTypes, a_levelParams, a_levelDrops, a_expectedTypes, a_totals, a_slotTypes, a_slotValues, a_waitingArgs, a_callNodes, a_levelValues, a_nodeValues) I => vm_node I (fun _ (f_sizeCap, f_functionCount, f_nodeCount, f_code, f_faultFunction, f_bound, f_foundParam, f_foundDrop, f_status, f_calls, f_depth, f_fuelLimit, f_begun, f_beginLimit, f_waitingFunction, f_currentNode, f_valueKnown, f_currentValue, a_paramCounts, a_listMasks, a_resultTypes, a_bodyStarts, a_nodeKinds, a_nodeArgs, a_parents, a_childIndexes, a_subtreeEnds, a_scopeSizes, a_levelTypes, a_levelParams, a_levelDrops, a_expectedTypes, a_totals, a_slotTypes, a_slotValues, a_waitingArgs, a_callNodes, a_levelValues, a_nodeValues) I => lq_950 hJ hcb I (by omega)))))
    · exact vm_compile I (fun _ (f_sizeCap, f_functionCount, f_nodeCount, f_code, f_faultFunction, f_bound, f_foundParam, f_foundDrop, f_status, f_calls, f_depth, f_fuelLimit, f_begun, f_beginLimit, f_waitingFunction, f_currentNode, f_valueKnown, f_currentValue, a_paramCounts, a_listMasks, a_resultTypes, a_bodyStarts, a_nodeKinds, a_nodeArgs, a_parents, a_childIndexes, a_subtreeEnds, a_scopeSizes, a_levelTypes, a_levelParams, a_levelDrops, a_expectedTypes, a_totals, a_slotTypes, a_slotValues, a_waitingArgs, a_callNodes, a_levelValues, a_nodeValues) I => by
        refine lq_ok (post := fun r => r = 1) I (by omega) ?_
        exact vm_start I (fun _ (f_sizeCap, f_functionCount, f_nodeCount, f_code, f_faultFunction, f_bound, f_foundParam, f_foundDrop, f_status, f_calls, f_depth, f_fuelLimit, f_begun, f_beginLimit, f_waitingFunction, f_currentNode, f_valueKnown, f_currentValue, a_paramCounts, a_listMasks, a_resultTypes, a_bodyStarts, a_nodeKinds, a_nodeArgs, a_parents, a_childIndexes, a_subtreeEnds, a_scopeSizes, a_levelTypes, a_levelParams, a_levelDrops, a_expectedTypes, a_totals, a_slotTypes, a_slotValues, a_waitingArgs, a_callNodes, a_levelValues, a_nodeValues) I => by
          refine lq_ok (post := fun r => r = 1) I (by omega) ?_
          exact ⟨6 + 1, lq_814 hJ hcb 6 0 rfl (300 * p) (by omega) (f_sizeCap, f_functionCount, f_nodeCount, f_code, f_faultFunction, f_bound, f_foundParam, f_foundDrop, f_status, f_calls, f_depth, f_fuelLimit, f_begun, f_beginLimit, f_waitingFunction, f_currentNode, f_valueKnown, f_currentValue, a_paramCounts, a_listMasks, a_resultTypes, a_bodyStarts, a_nodeKinds, a_nodeArgs, a_parents, a_childIndexes, a_subtreeEnds, a_scopeSizes, a_levelTypes, a_levelParams, a_levelDrops, a_expectedTypes, a_totals, a_slotTypes, a_slotValues, a_waitingArgs, a_callNodes, a_levelValues, a_nodeValues) I⟩))
    · exact lq_pos (by decide) (fun _ => br_c (fun _ => lq_pos h22 (fun _ => vm_input I (fun _ (f_sizeCap, f_functionCount, f_nodeCount, f_code, f_faultFunction, f_bound, f_foundParam, f_foundDrop, f_status, f_calls, f_depth, f_fuelLimit, f_begun, f_beginLimit, f_waitingFunction, f_currentNode, f_valueKnown, f_currentValue, a_paramCounts, a_listMasks, a_resultTypes, a_bodyStarts, a_nodeKinds, a_nodeArgs, a_parents, a_childIndexes, a_subtreeEnds, a_scopeSizes, a_levelTypes, a_levelParams, a_levelDrops, a_expectedTypes, a_totals, a_slotTypes, a_slotValues, a_waitingArgs, a_callNodes, a_levelValues, a_nodeValues) I => lq_950 hJ hcb I (by omega)))) (fun _ => vm_input I (fun _ (f_sizeCap, f_functionCount, f_nodeCount, f_code, f_faultFunction, f_bound, f_foundParam, f_foundDrop, f_status, f_calls, f_depth, f_fuelLimit, f_begun, f_beginLimit, f_waitingFunction, f_currentNode, f_valueKnown, f_currentValue, a_paramCounts, a_listMasks, a_resultTypes, a_bodyStarts, a_nodeKinds, a_nodeArgs, a_parents, a_childIndexes, a_subtreeEnds, a_scopeSizes, a_levelTypes, a_levelParams, a_levelDrops, a_expectedTypes, a_totals, a_slotTypes, a_slotValues, a_waitingArgs, a_callNodes, a_levelValues, a_nodeValues) I => lq_pos h22 (fun _ => lq_918x hJ hcb h21 (f_sizeCap, f_functionCount, f_nodeCount, f_code, f_faultFunction, f_bound, f_foundParam, f_foundDrop, f_status, f_calls, f_depth, f_fuelLimit, f_begun, f_beginLimit, f_waitingFunction, f_currentNode, f_valueKnown, f_currentValue, a_paramCounts, a_listMasks, a_resultTypes, a_bodyStarts, a_nodeKinds, a_nodeArgs, a_parents, a_childIndexes, a_subtreeEnds, a_scopeSizes, a_levelTypes, a_levelParams, a_levelDrops, a_expectedTypes, a_totals, a_slotTypes, a_slotValues, a_waitingArgs, a_callNodes, a_levelValues, a_nodeValues) (iv_up (by omega) I)))))
theorem iv_new {M : Nat} (hM : 1 ≤ M ∧ M ≤ 12) : iv_I cb (nI M, 0, 0, 0, -1, 0, 0, 0, 0, 0, 0, 0, 0, 0, 0, 0, 0, 0, (fun _ => 0), (fun _ => 0), (fun _ => 0), (fun _ => 0), (fun _ => 0), (fun _ => 0), (fun _ => 0), (fun _ => 0), (fun _ => 0), (fun _ => 0), (fun _ => 0), (fun _ => 0), (fun _ => 0), (fun _ => 0), (fun _ => 0), (fun _ => 0), (fun _ => 0), (fun _ => 0), (fun _ => 0), (fun _ => 0), (fun _ => 0)) :=
  iv_mk (M := M) (F := 0) (N := 0) (pc := fun _ => 0) (rt := fun _ => 0) (bs := fun _ => 0) (kd := fun _ => 0) (mk := fun _ => 0) (na := fun _ => 0) hM
    ⟨by omega, by omega, fun _ => Nat.zero_le _, fun i hi => by omega, fun _ => Nat.zero_le _, fun _ => Nat.zero_le _, fun _ => rfl, fun i hi => by omega, fun i hi => by omega, fun _ => rfl⟩
    (fun i _ => ⟨0, by omega, rfl, vl_nat (k := 0) (by omega)⟩) iv_0
theorem lq_32 {m : Nat} {x1 : Int32} (hL : L ≤ 260) (hm : 1 ≤ m ∧ m ≤ 12) (h : ∀ Q : Int32 → Prop, Q (nI m) → wpX_clamp Q () x1 1 12) : wL_law_32 (fun r => r = 1) L xs x1 (nI m) 0 0 := by
  refine ⟨by omega, by omega, 21, 2382, by omega, by omega, ?_⟩
  refine ⟨by decide, by decide, by decide, by decide, by decide, by decide, by decide, by decide, by decide, by decide, by decide, by decide, by decide, by decide, by decide, by decide, by decide, by decide, by decide, by decide, by decide, by decide, by decide, by decide, by decide, by decide, by decide, by decide, by decide, by decide, by decide, by decide, by decide, by decide, by decide, by decide, by decide, by decide, by decide, by decide, by decide, by decide, h _ ?_⟩
  refine lq_ok (post := fun r => r = 1) (cb := 300 * 1) (iv_new hm) (by omega) ?_
  have h69 := lq_69 (L := L) (xs := xs) (m := m) (kc := 0 + 1 + 21) (ks := 0 + 39 + 2382) hL hm 65 1 (by omega) (by omega) (nI m, 0, 0, 0, -1, 0, 0, 0, 0, 0, 0, 0, 0, 0, 0, 0, 0, 0, (fun _ => 0), (fun _ => 0), (fun _ => 0), (fun _ => 0), (fun _ => 0), (fun _ => 0), (fun _ => 0), (fun _ => 0), (fun _ => 0), (fun _ => 0), (fun _ => 0), (fun _ => 0), (fun _ => 0), (fun _ => 0), (fun _ => 0), (fun _ => 0), (fun _ => 0), (fun _ => 0), (fun _ => 0), (fun _ => 0), (fun _ => 0)) (iv_new hm)
  exact ⟨65 + 1, h69⟩
end
theorem i_vc (xs : Nat → Int32) (L : Nat) (hL : L ≤ 260) : wpL_law (fun r => r = 1) L xs := by
  refine lq_cell (k := 0) rfl (by omega) hL (fun a => lq_pos (by decide) (fun x => br_c (fun c1 => br_c (fun c2 => ?_) (fun c2 => ?_)) (fun c1 => ?_)))
  · obtain ⟨j, hj, rfl⟩ := nI_of (x := x) (fun y => absurd (Int32.lt_of_lt_of_le y (Int32.le_trans (by decide) c1)) (Int32.lt_irrefl))
    have a1 : 1 ≤ j := (nI_leI (a := 1) (by omega) hj).mp c1
    have a2 : j ≤ 12 := (nI_leI (b := 12) hj (by omega)).mp c2
    exact lq_32 hL ⟨a1, a2⟩ (fun Q h => br_t c1 (br_t c2 h))
  · exact lq_32 (m := 12) hL ⟨by omega, by omega⟩ (fun Q h => br_t c1 (br_f c2 h))
  · exact lq_32 (m := 1) hL ⟨by omega, by omega⟩ (fun Q h => br_f c1 h)
end
