/-! the machine's numbers as natural numbers -/
def w32 (x : Int32) : Nat := x.toBitVec.toNat
def uN (x : Int64) : Nat := x.toBitVec.toNat
theorem w32_lt (x : Int32) : w32 x < 4294967296 := x.toBitVec.isLt
theorem uN_lt (x : Int64) : uN x < 18446744073709551616 := x.toBitVec.isLt
theorem w32_inj {x y : Int32} (h : w32 x = w32 y) : x = y := Int32.toBitVec_inj.mp (BitVec.eq_of_toNat_eq h)
theorem uN_inj {x y : Int64} (h : uN x = uN y) : x = y := Int64.toBitVec_inj.mp (BitVec.eq_of_toNat_eq h)
theorem w32_nI {n : Nat} (h : n < 4294967296) : w32 (nI n) = n := pk_tn h
theorem nI_w32 (x : Int32) : nI (w32 x) = x := w32_inj (w32_nI (w32_lt x))
theorem w32_0 : w32 0 = 0 := rfl
theorem w32_eq0 {x : Int32} : x = 0 ↔ w32 x = 0 := ⟨fun h => by rw [h]; rfl, fun h => w32_inj h⟩
theorem w32_int (x : Int32) : x.toInt = if 2 * w32 x < 4294967296 then (w32 x : Int) else (w32 x : Int) - 4294967296 := BitVec.toInt_eq_toNat_cond _
theorem uN_int (x : Int64) : x.toInt = if 2 * uN x < 18446744073709551616 then (uN x : Int) else (uN x : Int) - 18446744073709551616 := BitVec.toInt_eq_toNat_cond _
theorem uN_add (x y : Int64) : uN (x + y) = (uN x + uN y) % 18446744073709551616 := BitVec.toNat_add _ _
theorem uN_sub (x y : Int64) : uN (x - y) = (18446744073709551616 - uN y + uN x) % 18446744073709551616 := BitVec.toNat_sub _ _
theorem uN_mul (x y : Int64) : uN (x * y) = (uN x * uN y) % 18446744073709551616 := BitVec.toNat_mul _ _
theorem uN_and (x y : Int64) : uN (x &&& y) = uN x &&& uN y := BitVec.toNat_and _ _
theorem uN_or (x y : Int64) : uN (x ||| y) = uN x ||| uN y := BitVec.toNat_or _ _
theorem uN_mask (x : Int64) : uN (x &&& 4294967295) = uN x % 4294967296 := by
  rw [uN_and]
  exact Nat.and_two_pow_sub_one_eq_mod (uN x) 32
theorem uN_i2l (x : Int32) : uN (Int32.toInt64 x) = if 2 * w32 x < 4294967296 then w32 x else w32 x + 18446744069414584320 := by
  have h := Int32.toInt_toInt64 x
  rw [uN_int, w32_int] at h
  have h1 := uN_lt (Int32.toInt64 x)
  have h2 := w32_lt x
  split at h <;> split at h <;> split <;> omega
theorem uN_lw (x : Int32) : uN (Int32.toInt64 x &&& 4294967295) = w32 x := by
  rw [uN_mask, uN_i2l]
  have h2 := w32_lt x
  split <;> omega
theorem w32_l2i (x : Int64) : w32 (Int64.toInt32 x) = uN x % 4294967296 := by
  have h := Int64.toInt_toInt32 x
  rw [uN_int, w32_int, Int.bmod_def] at h
  have h1 := uN_lt x
  have h2 := w32_lt (Int64.toInt32 x)
  split at h <;> split at h <;> split at h <;> omega
theorem uN_lushr (x : Int64) (y : Int32) {k : Nat} (hk : (y.toInt64.toUInt64 &&& Int64.toUInt64 63).toNat % 64 = k) : uN (k_lushr x y) = uN x / 2 ^ k := by
  show (x.toUInt64 >>> (y.toInt64.toUInt64 &&& Int64.toUInt64 63)).toNat = _
  rw [UInt64.toNat_shiftRight, hk, Nat.shiftRight_eq_div_pow]
  rfl
theorem uN_s32 (x : Int64) : uN (k_lushr x 32) = uN x / 4294967296 := uN_lushr x 32 (k := 32) (by decide +kernel)
theorem uN_s1 (x : Int64) : uN (k_lushr x 1) = uN x / 2 := uN_lushr x 1 (k := 1) (by decide +kernel)
theorem cnt_u : ∀ k, k < 64 → ((nI k).toInt64.toUInt64 &&& Int64.toUInt64 63).toNat % 64 = k := by decide +kernel
theorem uN_sN (x : Int64) {k : Nat} (hk : k < 64) : uN (k_lushr x (nI k)) = uN x / 2 ^ k := uN_lushr x (nI k) (cnt_u k hk)
theorem uN_lshl (x : Int64) (y : Int32) {k : Nat} (hk : ((y.toInt64 &&& 63).toBitVec.smod 64).toNat = k) : uN (k_lshl x y) = uN x * 2 ^ k % 18446744073709551616 := by
  show (x <<< (y.toInt64 &&& 63)).toBitVec.toNat = _
  rw [Int64.toBitVec_shiftLeft, BitVec.shiftLeft_eq', BitVec.toNat_shiftLeft, hk, Nat.shiftLeft_eq]
  rfl
theorem uN_l32 (x : Int64) : uN (k_lshl x 32) = uN x * 4294967296 % 18446744073709551616 := uN_lshl x 32 (k := 32) (by decide +kernel)
theorem uN_l1 (x : Int64) : uN (k_lshl x 1) = uN x * 2 % 18446744073709551616 := uN_lshl x 1 (k := 1) (by decide +kernel)
theorem cnt_l : ∀ k, k < 64 → (((nI k).toInt64 &&& 63).toBitVec.smod 64).toNat = k := by decide +kernel
theorem uN_lN (x : Int64) {k : Nat} (hk : k < 64) : uN (k_lshl x (nI k)) = uN x * 2 ^ k % 18446744073709551616 := uN_lshl x (nI k) (cnt_l k hk)
theorem lT_shr (x : Int64) (y : Int32) {k : Nat} (hk : ((y.toInt64 &&& 63).toBitVec.smod 64).toNat = k) : (k_lshr x y).toInt = x.toInt / 2 ^ k := by
  show (x >>> (y.toInt64 &&& 63)).toBitVec.toInt = _
  rw [Int64.toBitVec_shiftRight, BitVec.sshiftRight_eq', hk, BitVec.toInt_sshiftRight, Int.shiftRight_eq_div_pow]
  rfl
theorem lT_s32 (x : Int64) : (k_lshr x 32).toInt = x.toInt / 4294967296 := lT_shr x 32 (k := 32) (by decide +kernel)
theorem lT_s16 (x : Int64) : (k_lshr x 16).toInt = x.toInt / 65536 := lT_shr x 16 (k := 16) (by decide +kernel)
theorem w32_shl (x y : Int32) {k : Nat} (hk : ((y &&& 31).toBitVec.smod 32).toNat = k) : w32 (k_ishl x y) = w32 x * 2 ^ k % 4294967296 := by
  show (x <<< (y &&& 31)).toBitVec.toNat = _
  rw [Int32.toBitVec_shiftLeft, BitVec.shiftLeft_eq', BitVec.toNat_shiftLeft, hk, Nat.shiftLeft_eq]
  rfl
theorem cnt_i : ∀ k, k < 32 → ((nI k &&& 31).toBitVec.smod 32).toNat = k := by decide +kernel
theorem w32_shlN (x : Int32) {k : Nat} (hk : k < 32) : w32 (k_ishl x (nI k)) = w32 x * 2 ^ k % 4294967296 := w32_shl x (nI k) (cnt_i k hk)
theorem iT_shr (x y : Int32) {k : Nat} (hk : ((y &&& 31).toBitVec.smod 32).toNat = k) : (k_ishr x y).toInt = x.toInt / 2 ^ k := by
  show (x >>> (y &&& 31)).toBitVec.toInt = _
  rw [Int32.toBitVec_shiftRight, BitVec.sshiftRight_eq', hk, BitVec.toInt_sshiftRight, Int.shiftRight_eq_div_pow]
  rfl
theorem iT_shrN (x : Int32) {k : Nat} (hk : k < 32) : (k_ishr x (nI k)).toInt = x.toInt / 2 ^ k := iT_shr x (nI k) (cnt_i k hk)
theorem w32_ushr (x y : Int32) {k : Nat} (hk : (y.toUInt32 &&& Int32.toUInt32 31).toNat % 32 = k) : w32 (k_iushr x y) = w32 x / 2 ^ k := by
  show (x.toUInt32 >>> (y.toUInt32 &&& Int32.toUInt32 31)).toNat = _
  rw [UInt32.toNat_shiftRight, hk, Nat.shiftRight_eq_div_pow]
  rfl
theorem cnt_iu : ∀ k, k < 32 → ((nI k).toUInt32 &&& Int32.toUInt32 31).toNat % 32 = k := by decide +kernel
theorem w32_ushrN (x : Int32) {k : Nat} (hk : k < 32) : w32 (k_iushr x (nI k)) = w32 x / 2 ^ k := w32_ushr x (nI k) (cnt_iu k hk)
theorem w32_and (x y : Int32) : w32 (x &&& y) = w32 x &&& w32 y := BitVec.toNat_and _ _
theorem w32_add (x y : Int32) : w32 (x + y) = (w32 x + w32 y) % 4294967296 := BitVec.toNat_add _ _
theorem w32_sub (x y : Int32) : w32 (x - y) = (4294967296 - w32 y + w32 x) % 4294967296 := BitVec.toNat_sub _ _
-- comparing longs
theorem k_lcmp_0 {x y : Int64} : k_lcmp x y = 0 ↔ x = y := by
  unfold k_lcmp lg_cmp
  constructor
  · intro h
    split at h
    · cases h
    · split at h
      · assumption
      · cases h
  · intro h
    subst h
    rw [if_neg (by simp [Int64.lt_irrefl]), if_pos rfl]
theorem k_lcmp_lt {x y : Int64} : k_lcmp x y < 0 ↔ x.toInt < y.toInt := by
  unfold k_lcmp lg_cmp
  rw [← Int64.lt_iff_toInt_lt]
  constructor
  · intro h
    split at h
    · exact absurd h (by decide)
    · split at h
      · exact absurd h (by decide)
      · rename_i h1 h2
        rw [gt_iff_lt, Int64.not_lt] at h1
        exact Int64.lt_of_le_of_ne h1 h2
  · intro h
    rw [if_neg (by rw [gt_iff_lt]; exact Int64.lt_asymm h), if_neg (fun q => by subst q; exact Int64.lt_irrefl h)]
    decide
theorem k_lcmp_le {x y : Int64} : k_lcmp x y ≤ 0 ↔ x.toInt ≤ y.toInt := by
  unfold k_lcmp lg_cmp
  rw [← Int64.le_iff_toInt_le]
  constructor
  · intro h
    split at h
    · exact absurd h (by decide)
    · rename_i h1
      rw [gt_iff_lt, Int64.not_lt] at h1
      exact h1
  · intro h
    rw [if_neg (by rw [gt_iff_lt]; exact Int64.not_lt.mpr h)]
    split <;> decide
