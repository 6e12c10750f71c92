/-! the reference's way to reckon a value, against lm_wk -/
theorem lm_b255 : (255 : Int32).toBitVec.toNat = 2 ^ 8 - 1 := by decide
theorem lm_m256 {n : Nat} (h : n < 2 ^ 31) : nI n - nI n / 256 * 256 = nI n &&& 255 := by
  have h1 : nI n - nI n / nI 256 * nI 256 = nI (n % 256) := pk_rem h (by decide) (by decide)
  have h2 : nI n &&& 255 = nI (n % 2 ^ 8) := pk_andN (by omega) 8 lm_b255
  rw [h2]
  exact h1
theorem lm_id {a : Nat} (h : a < 256) : nI a &&& 255 = nI a := by
  have h2 : nI a &&& 255 = nI (a % 2 ^ 8) := pk_andN (by omega) 8 lm_b255
  rw [h2]
  exact congrArg nI (Nat.mod_eq_of_lt h)
theorem lm_cp0 (x y b : Int32) : lm_cp 0 x y b = b := rfl
theorem lm_cp1 (x y b : Int32) : lm_cp 1 x y b = y := rfl
theorem lm_cp2 (x y b : Int32) : lm_cp 2 x y b = x + y := rfl
theorem lm_cp3 (x y b : Int32) : lm_cp 3 x y b = x - y := rfl
theorem lm_cp4 (x y b : Int32) : lm_cp 4 x y b = x * y := rfl
theorem lm_cp5 (x y b : Int32) : lm_cp 5 x y b = x &&& y := rfl
theorem lm_cp6 (x y b : Int32) : lm_cp 6 x y b = x ||| y := rfl
theorem lm_cp7 (x y b : Int32) : lm_cp 7 x y b = x ^^^ y := rfl
theorem lm_cp8 (x y b : Int32) : lm_cp 8 x y b = x <<< ((b &&& 7) &&& 31) := rfl
theorem lm_cp9 (x y b : Int32) : lm_cp 9 x y b = x >>> ((b &&& 7) &&& 31) := rfl
theorem lm_cp10 (x y b : Int32) : lm_cp 10 x y b = if x < y then 1 else 0 := rfl
theorem lm_cp11 (x y b : Int32) : lm_cp 11 x y b = if x = y then 1 else 0 := rfl
theorem lm_wk0 (x y b : Int32) : b &&& 255 = lm_wk 0 x y b := rfl
theorem lm_wk1 {e : Nat} (he : e < 256) (x b : Int32) : nI e = lm_wk 1 x (nI e) b := by
  unfold lm_wk
  rw [lm_cp1, lm_id he]
theorem lm_wk2 {a e : Nat} (ha : a < 256) (he : e < 256) (b : Int32) : (nI a + nI e) - (nI a + nI e) / 256 * 256 = lm_wk 2 (nI a) (nI e) b := by
  unfold lm_wk
  rw [lm_cp2, nI_add, lm_m256 (by omega)]
theorem lm_wk3 {a e : Nat} (ha : a < 256) (he : e < 256) (b : Int32) : (nI a - nI e + 256) - (nI a - nI e + 256) / 256 * 256 = lm_wk 3 (nI a) (nI e) b := by
  unfold lm_wk
  have h1 : nI a - nI e + 256 = nI (a + 256 - e) := by
    rw [← pk_sub (a := a + 256) (b := e) (by omega), ← nI_add]
    show nI a - nI e + nI 256 = nI a + nI 256 - nI e
    generalize nI a = x
    generalize nI e = y
    generalize nI 256 = z
    grind
  have h2 : (nI a - nI e).toBitVec.toNat = (2 ^ 32 - e + a) % 2 ^ 32 := by
    rw [Int32.toBitVec_sub, BitVec.toNat_sub, pk_tn (n := a) (by omega), pk_tn (n := e) (by omega)]
  have h3 : (nI a - nI e) &&& 255 = nI ((nI a - nI e).toBitVec.toNat % 2 ^ 8) := pk_and _ 8 lm_b255
  have h4 : nI (a + 256 - e) &&& 255 = nI ((a + 256 - e) % 2 ^ 8) := pk_andN (by omega) 8 lm_b255
  rw [lm_cp3, h1, lm_m256 (by omega), h3, h4, h2]
  exact congrArg nI (by omega)
theorem lm_wk4 {a e : Nat} (ha : a < 256) (he : e < 256) (b : Int32) : nI a * nI e - nI a * nI e / 256 * 256 = lm_wk 4 (nI a) (nI e) b := by
  have h : a * e ≤ 255 * 255 := Nat.mul_le_mul (by omega) (by omega)
  unfold lm_wk
  rw [lm_cp4, pk_mul, lm_m256 (by omega)]
theorem lm_wk5 {a e : Nat} (ha : a < 256) (he : e < 256) (b : Int32) : nI a &&& nI e = lm_wk 5 (nI a) (nI e) b := by
  unfold lm_wk
  rw [lm_cp5, Int32.and_assoc, lm_id he]
theorem lm_lt32 (x : Nat) : x % 2 ^ 8 < 2 ^ 32 := Nat.lt_of_lt_of_le (Nat.mod_lt x (by decide)) (by decide)
theorem lm_small (x : Int32) (h : x.toBitVec.toNat < 2 ^ 8) : x &&& 255 = x := by
  have h3 : x &&& 255 = nI (x.toBitVec.toNat % 2 ^ 8) := pk_and _ 8 lm_b255
  rw [h3, Nat.mod_eq_of_lt h]
  apply Int32.toBitVec_inj.mp
  apply BitVec.eq_of_toNat_eq
  rw [pk_tn (Nat.lt_trans h (by decide))]
theorem lm_wk6 {a e : Nat} (ha : a < 256) (he : e < 256) (b : Int32) : nI a ||| nI e = lm_wk 6 (nI a) (nI e) b := by
  unfold lm_wk
  rw [lm_cp6, lm_small]
  rw [Int32.toBitVec_or, BitVec.toNat_or, pk_tn (n := a) (by omega), pk_tn (n := e) (by omega)]
  exact Nat.or_lt_two_pow (n := 8) ha he
theorem lm_wk7 {a e : Nat} (ha : a < 256) (he : e < 256) (b : Int32) : nI a ^^^ nI e = lm_wk 7 (nI a) (nI e) b := by
  unfold lm_wk
  rw [lm_cp7, lm_small]
  rw [Int32.toBitVec_xor, BitVec.toNat_xor, pk_tn (n := a) (by omega), pk_tn (n := e) (by omega)]
  exact Nat.xor_lt_two_pow (n := 8) ha he
theorem lm_shc : ∀ k, k < 8 → ((nI k &&& 31).toBitVec.smod 32).toNat = k := by decide +kernel
theorem lm_pw : ∀ k, k < 8 → 1 ≤ 2 ^ k ∧ 2 ^ k ≤ 128 := by decide
theorem lm_wk8 {a k : Nat} (ha : a < 256) (hk : k < 8) (y b : Int32) (hb : b &&& 7 = nI k) : nI a * nI (2 ^ k) - nI a * nI (2 ^ k) / 256 * 256 = lm_wk 8 (nI a) y b := by
  have hp := lm_pw k hk
  have h : a * 2 ^ k ≤ 255 * 128 := Nat.mul_le_mul (by omega) hp.2
  unfold lm_wk
  rw [lm_cp8, hb, pk_mul, lm_m256 (by omega), pk_shlN _ k (lm_shc k hk) (by omega)]
theorem lm_wk9 {a k : Nat} (ha : a < 256) (hk : k < 8) (y b : Int32) (hb : b &&& 7 = nI k) : nI a / nI (2 ^ k) = lm_wk 9 (nI a) y b := by
  have hp := lm_pw k hk
  have h : a / 2 ^ k ≤ a := Nat.div_le_self _ _
  unfold lm_wk
  rw [lm_cp9, hb, pk_shrN (by omega) _ k (lm_shc k hk), lm_id (by omega)]
  exact pk_div (by omega) (by omega) (by omega)
theorem lm_wk10t {x y : Int32} (b : Int32) (h : x < y) : (1 : Int32) = lm_wk 10 x y b := by
  unfold lm_wk
  rw [lm_cp10, if_pos h]
  rfl
theorem lm_wk10f {x y : Int32} (b : Int32) (h : ¬ x < y) : (0 : Int32) = lm_wk 10 x y b := by
  unfold lm_wk
  rw [lm_cp10, if_neg h]
  rfl
theorem lm_wk11t {x y : Int32} (b : Int32) (h : x = y) : (1 : Int32) = lm_wk 11 x y b := by
  unfold lm_wk
  rw [lm_cp11, if_pos h]
  rfl
theorem lm_wk11f {x y : Int32} (b : Int32) (h : ¬ x = y) : (0 : Int32) = lm_wk 11 x y b := by
  unfold lm_wk
  rw [lm_cp11, if_neg h]
  rfl
