section
theorem vw_m16b : ∀ i : Fin 64, (-16 : Int64).toBitVec.getLsbD i.val = decide (4 ≤ i.val) := by decide +kernel
theorem vw_m16 {a : Nat} (ha : a < 2 ^ 64) : lN a &&& (-16) = lN (a / 16 * 16) := by
  apply wb_inj
  rw [Int64.toBitVec_and, wb_tb, wb_tb]
  apply BitVec.eq_of_getLsbD_eq
  intro i hi
  rw [BitVec.getLsbD_and, vw_m16b ⟨i, hi⟩, BitVec.getLsbD_ofNat, BitVec.getLsbD_ofNat]
  show (decide (i < 64) && a.testBit i && decide (4 ≤ i)) = (decide (i < 64) && (a / 16 * 16).testBit i)
  rw [show a / 16 * 16 = a / 2 ^ 4 * 2 ^ 4 from rfl, Nat.testBit_mul_two_pow, Nat.testBit_div_two_pow]
  by_cases h4 : 4 ≤ i
  · rw [show i - 4 + 4 = i by omega]
    simp [h4]
  · simp [h4]
variable {M x : Nat} {l : List Nat}
theorem vw_len (hM : M ≤ 12) (h : vl_ok M l) : (lN (vl_enc l) &&& 15).toInt32 = nI l.length := by
  have h1 := vl_enc_lt hM h
  rw [show (15 : Int64) = lN (16 - 1) from rfl, g_mask (s := 4) (by decide) (by decide) (by omega), vl_len hM h, lN_i]
theorem vw_lenV {n : Nat} (hn : n < 2 ^ 31) : (nI n).toInt64 = lN n := nI_l hn
theorem vw_s4 (a : Nat) : lN a <<< ((4 : Int32).toInt64 &&& 63) = lN (a * 16) := wb_shl a (k := 4) (by decide)
theorem vw_r4 {a : Nat} (ha : a < 2 ^ 64) : ((lN a).toUInt64 >>> ((4 : Int32).toInt64.toUInt64 &&& Int64.toUInt64 63)).toInt64 = lN (a / 16) := wb_shr (k := 4) ha (by decide)
theorem vw_r8 {a : Nat} (ha : a < 2 ^ 64) : ((lN a).toUInt64 >>> ((8 : Int32).toInt64.toUInt64 &&& Int64.toUInt64 63)).toInt64 = lN (a / 256) := wb_shr (k := 8) ha (by decide)
theorem vw_or {a b : Nat} (ha : a < 16) (hb : b * 16 + a < 2 ^ 64) : lN (b * 16) ||| lN a = lN (b * 16 + a) := g_or (k := 4) (by decide) ha hb
theorem vw_a15 {a : Nat} (ha : a < 2 ^ 64) : lN a &&& 15 = lN (a % 16) := g_mask (p := 16) (s := 4) (by decide) (by decide) ha
theorem vw_consX (hM : M ≤ 12) (h : vl_ok M l) (hx : x ≤ M) : (((lN (vl_enc l) &&& (-16)) ||| lN x) <<< ((4 : Int32).toInt64 &&& 63)) ||| (nI (l.length + 1)).toInt64 = lN (vl_enc (x :: l)) := by
  have h1 := vl_enc_lt hM h
  have h2 := h.1
  rw [vw_m16 (by omega), vw_or (by omega) (by omega), vw_s4, nI_l (by omega), vw_or (by omega) (by omega), ← vl_len hM h, vl_cons_n hM h]
theorem vw_consY (hM : M ≤ 12) (h : vl_ok M l) (hx : x ≤ M) : (((((lN (vl_enc l)).toUInt64 >>> ((4 : Int32).toInt64.toUInt64 &&& Int64.toUInt64 63)).toInt64 <<< ((4 : Int32).toInt64 &&& 63)) ||| lN x) <<< ((4 : Int32).toInt64 &&& 63)) ||| (nI (l.length + 1)).toInt64 = lN (vl_enc (x :: l)) := by
  have h1 := vl_enc_lt hM h
  have h2 := h.1
  rw [vw_r4 (by omega), vw_s4, vw_or (by omega) (by omega), vw_s4, nI_l (by omega), vw_or (by omega) (by omega), ← vl_len hM h, vl_cons_n hM h]
theorem vw_head (hM : M ≤ 12) (h : vl_ok M (x :: l)) : ((lN (vl_enc (x :: l))).toUInt64 >>> ((4 : Int32).toInt64.toUInt64 &&& Int64.toUInt64 63)).toInt64 &&& 15 = lN x := by
  have h1 := vl_enc_lt hM h
  rw [vw_r4 (by omega), vw_a15 (by omega), vl_head_n hM h]
theorem vw_tailX (hM : M ≤ 12) (h : vl_ok M (x :: l)) : (((lN (vl_enc (x :: l))).toUInt64 >>> ((4 : Int32).toInt64.toUInt64 &&& Int64.toUInt64 63)).toInt64 &&& (-16)) ||| (nI l.length).toInt64 = lN (vl_enc l) := by
  have h1 := vl_enc_lt hM h
  have h2 := h.1
  have h3 := vl_tail_n hM h
  have h4 := vl_len hM h
  simp only [List.length_cons] at h2 h4
  rw [vw_r4 (by omega), vw_m16 (by omega), nI_l (by omega), vw_or (by omega) (by omega)]
  rw [h4] at h3
  exact congrArg lN (by omega)
theorem vw_tailY (hM : M ≤ 12) (h : vl_ok M (x :: l)) : (((lN (vl_enc (x :: l))).toUInt64 >>> ((8 : Int32).toInt64.toUInt64 &&& Int64.toUInt64 63)).toInt64 <<< ((4 : Int32).toInt64 &&& 63)) ||| (nI l.length).toInt64 = lN (vl_enc l) := by
  have h1 := vl_enc_lt hM h
  have h2 := h.1
  have h3 := vl_tail_n hM h
  have h4 := vl_len hM h
  simp only [List.length_cons] at h2 h4
  rw [vw_r8 (by omega), vw_s4, nI_l (by omega), vw_or (by omega) (by omega)]
  rw [h4] at h3
  exact congrArg lN (by omega)
-- the bound's numbers
theorem bd_sumX {C a b : Nat} (hC : C < 2 ^ 62) (ha : a ≤ C) (hb : b ≤ C) : (lN C - lN b < lN a → lN C = lN (bd_c C (a + b))) ∧ (¬ lN C - lN b < lN a → lN a + lN b = lN (bd_c C (a + b))) := by
  rw [lN_sub hb, pk_lLT (by omega) (by omega), lN_add]
  unfold bd_c
  constructor
  · intro h; rw [if_neg (by omega)]
  · intro h; rw [if_pos (by omega)]
theorem bd_div {C a b : Nat} (hb : 0 < b) : C / b < a ↔ C < a * b := Nat.div_lt_iff_lt_mul hb
theorem bd_mulX {C a b : Nat} (hC : C < 2 ^ 62) (ha : a ≤ C) (hb : b ≤ C) (h0 : 0 < b) : (lN C / lN b < lN a → lN C = lN (bd_c C (a * b))) ∧ (¬ lN C / lN b < lN a → lN a * lN b = lN (bd_c C (a * b))) := by
  have h1 : C / b ≤ C := Nat.div_le_self _ _
  rw [pk_lDiv (by omega) h0 (by omega), pk_lLT (by omega) (by omega), lN_mul, bd_div h0]
  unfold bd_c
  constructor
  · intro h; rw [if_neg (by omega)]
  · intro h; rw [if_pos (by omega)]
def bd_T (cnt : Nat → Nat → Nat) (L : Nat → Nat) (f : Nat) : Nat := bd_tab cnt L (f + 1) f
theorem bd_tab_lt (cnt : Nat → Nat → Nat) (L : Nat → Nat) : ∀ f g, g < f → bd_tab cnt L f g = bd_T cnt L g := by
  intro f
  induction f with
  | zero => intro g h; omega
  | succ f ih =>
    intro g h
    rcases Nat.eq_or_lt_of_le (Nat.le_of_lt_succ h) with e | e
    · subst e; rfl
    · rw [bd_tab, if_neg (by omega)]; exact ih g e
theorem bd_in_ext {cc T T' : Nat → Nat} : ∀ k, (∀ g, g < k → T' g = T g) → bd_in cc T' k = bd_in cc T k := by
  intro k
  induction k with
  | zero => intro _; rfl
  | succ k ih => intro h; rw [bd_in, bd_in, ih (fun g hg => h g (by omega)), h k (by omega)]
theorem bd_T_eq (cnt : Nat → Nat → Nat) (L : Nat → Nat) (f : Nat) : bd_T cnt L f = bd_S (cnt f f) (L f) * bd_in (cnt f) (bd_T cnt L) f := by
  unfold bd_T
  rw [bd_tab, if_pos rfl, bd_in_ext f (fun g hg => bd_tab_lt cnt L f g hg)]
  rfl
end
