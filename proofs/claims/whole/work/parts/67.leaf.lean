/-! small tests: signs, at most, one, small primes -/
theorem lt_w {x : Int32} {a : Nat} (ha : a < 2147483648) : x < nI a ↔ (w32 x < a ∨ 2147483648 ≤ w32 x) := by
  rw [Int32.lt_iff_toInt_lt, nI_toInt (by omega), w32_int]
  have := w32_lt x
  split <;> omega
theorem le_w {x : Int32} {a : Nat} (ha : a < 2147483648) : x ≤ nI a ↔ (w32 x ≤ a ∨ 2147483648 ≤ w32 x) := by
  rw [Int32.le_iff_toInt_le, nI_toInt (by omega), w32_int]
  have := w32_lt x
  split <;> omega
theorem eq_w {x : Int32} {a : Nat} (ha : a < 4294967296) : x = nI a ↔ w32 x = a := ⟨fun h => by rw [h, w32_nI ha], fun h => by rw [← h, nI_w32]⟩
theorem uw_1 (f : Nat → Int32) : uw f 8 ≤ 1 ↔ wv f 8 < 4294967296 := by
  constructor
  · intro h
    have h1 := wv_lt_uw f 8
    have h2 : (4294967296 : Nat) ^ uw f 8 ≤ 4294967296 ^ 1 := Nat.pow_le_pow_right (by decide) h
    rw [Nat.pow_one] at h2
    omega
  · intro h
    rcases Nat.lt_or_ge 1 (uw f 8) with h1 | h1
    · have h2 := wv_ge_uw f 8 (by omega)
      have h3 : (4294967296 : Nat) ^ 1 ≤ 4294967296 ^ (uw f 8 - 1) := Nat.pow_le_pow_right (by decide) (by omega)
      rw [Nat.pow_one] at h3
      omega
    · exact h1
theorem wv_f0 (f : Nat → Int32) : w32 (f 0) = wv f 8 % 4294967296 := by
  have := wv_word f (i := 0) (by decide)
  rw [Nat.pow_zero, Nat.div_one] at this
  exact this.symm
theorem sp_atMost {h : dzH} {a v L : Nat} {i : Int32} (ei : i = nI L) (hr : row8 h a v) (hL : L < 2147483648) : c_Sums_isAtMost a i h = some (bI (decide (v ≤ L)), h) := by
  subst ei
  obtain ⟨f, h1, h2⟩ := hr
  have hu := uw_le f 8
  have h3 := uw_1 f
  have h4 := wv_f0 f
  have hk : k_lcmp (Int32.toInt64 (f 0) &&& 4294967295) (Int32.toInt64 (nI L)) ≤ 0 ↔ w32 (f 0) ≤ L := by
    rw [k_lcmp_le, lw_int, nI_l (by omega), pk_lT (by omega)]
    omega
  rw [cc_Sums_isAtMost, q_Sums_isAtMost_0, sp_used h1 (by decide), Option.bind_some]
  dsimp only
  have d0 := drI_at h1 (j := 0) (by decide) (by decide)
  rw [nI_0] at d0
  rw [h2] at h3 h4
  by_cases e1 : uw f 8 ≤ 1
  · have hlt := h3.mp e1
    rw [Nat.mod_eq_of_lt hlt] at h4
    rw [if_pos (by rw [show (1 : Int32) = nI 1 from rfl]; exact nI_le e1 (by decide)), d0, Option.bind_some]
    by_cases e2 : v ≤ L
    · rw [if_pos (hk.mpr (by omega)), decide_eq_true e2]
      rfl
    · rw [if_neg (fun q => e2 (by have := hk.mp q; omega)), decide_eq_false e2]
      rfl
  · rw [if_neg (by rw [show (1 : Int32) = nI 1 from rfl]; exact fun q => e1 ((nI_leI (by omega) (by decide)).mp q)), decide_eq_false (fun q => e1 (h3.mpr (by omega)))]
    rfl
theorem sp_isOne {h : dzH} {a v : Nat} (hr : row8 h a v) : c_Sums_isOne a h = some (bI (decide (v = 1)), h) := by
  obtain ⟨f, h1, h2⟩ := hr
  have hu := uw_le f 8
  have h3 := uw_1 f
  have h4 := wv_f0 f
  have h5 := uw_0 f 8
  rw [h2] at h3 h4 h5
  have d0 := drI_at h1 (j := 0) (by decide) (by decide)
  rw [nI_0] at d0
  rw [cc_Sums_isOne, q_Sums_isOne_0, d0, Option.bind_some]
  by_cases e1 : f 0 = 1
  · rw [if_pos e1, sp_used h1 (by decide), Option.bind_some]
    dsimp only
    rw [e1] at h4
    have e1' : w32 1 = 1 := rfl
    by_cases e2 : uw f 8 = 1
    · have := h3.mp (by omega)
      rw [e2, if_pos (by rfl), decide_eq_true (by omega)]
      rfl
    · rw [if_neg (by rw [show (1 : Int32) = nI 1 from rfl]; exact fun q => e2 ((nI_eq (by omega) (by decide)).mp q)), decide_eq_false (by omega)]
      rfl
  · rw [if_neg e1, decide_eq_false (fun q => e1 (w32_inj (by rw [h4, q]; rfl)))]
    rfl
theorem sp_isWit {h : dzH} {a v : Nat} (x : Int32) (hr : row8 h a v) : c_Checker_isWitness x a h = some (bI (decide (isWit (w32 x) v)), h) := by
  rw [cc_Checker_isWitness, q_Checker_isWitness_0]
  have h2 := lt_w (x := x) (a := 2) (by decide)
  by_cases e1 : x < 2
  · have := h2.mp e1
    rw [if_pos e1, decide_eq_false (by unfold isWit; omega)]
    rfl
  · have : ¬ (w32 x < 2 ∨ 2147483648 ≤ w32 x) := fun q => e1 (h2.mpr q)
    rw [if_neg e1, sp_atMost (L := w32 x) (nI_w32 x).symm hr (by omega), Option.bind_some]
    dsimp only
    by_cases e2 : v ≤ w32 x
    · rw [decide_eq_true e2, if_neg bI_n1, decide_eq_false (by unfold isWit; omega)]
      rfl
    · rw [decide_eq_false e2, if_pos bI_f, decide_eq_true (by unfold isWit; omega)]
      rfl
-- small primes
theorem sp_by {n d : Nat} (h2 : 2 ≤ n) (hno : ∀ e, 2 ≤ e → e < d → ¬ e ∣ n) (hd : n ≤ d ∨ n < d * d) : npP n := by
  apply Classical.byContradiction
  intro hn
  obtain ⟨q, h3, h4, h5⟩ := np_least h2 hn
  have hq2 := h3.1
  have h6 : q * 2 ≤ q * q := Nat.mul_le_mul_left _ hq2
  refine hno q hq2 ?_ h4
  rcases hd with hd | hd
  · omega
  · rcases Nat.lt_or_ge q d with h7 | h7
    · exact h7
    · have := Nat.mul_le_mul h7 h7
      omega
theorem sp_not {n d : Nat} (hd : 2 ≤ d) (hdn : d < n) (h : d ∣ n) : spB n = false := spB_f.mpr (fun hp => by
  rcases hp.2 d h with e | e <;> omega)
theorem rem_0 {n d : Nat} (hn : n < 2147483648) (h0 : 0 < d) (hd : d < 2147483648) : k_irem (nI n) (nI d) = 0 ↔ d ∣ n := by
  have e : k_irem (nI n) (nI d) = nI (n % d) := pk_rem (by omega) h0 (by omega)
  have hm := Nat.mod_lt n h0
  rw [e]
  constructor
  · intro h
    have h1 : nI (n % d) = nI 0 := h
    exact Nat.dvd_of_mod_eq_zero ((nI_eq (by omega) (by decide)).mp h1)
  · intro h
    rw [Nat.mod_eq_zero_of_dvd h]
    rfl
theorem lp_small {n : Nat} (hn : n ≤ 65535) (h : dzH) : ∀ (k d : Nat), d + k = 300 → 2 ≤ d → d ≤ 257 → (∀ e, 2 ≤ e → e < d → ¬ e ∣ n) → dzF 54 2 [(0, .int (nI n)), (1, .int (nI d))] [] (0, 0) h = some (some (.int (bI (spB n))), h)
  | 0, d, hk, h2, h257, hno => by omega
  | k + 1, d, hk, h2, h257, hno => by
    have fin : (n ≤ d ∨ n < d * d) → dzF 54 28 [(0, .int (nI n)), (1, .int (nI d))] [] (0, 0) h = some (some (.int (bI (spB n))), h) := fun hd => by
      rw [q_P_isSmallPrime_28]
      rcases Nat.lt_or_ge n 2 with e | e
      · rw [if_pos (by rw [show (2 : Int32) = nI 2 from rfl]; exact nI_lt e (by decide)), spB_f.mpr (fun hp => by have := hp.1; omega)]
        rfl
      · rw [if_neg (by rw [show (2 : Int32) = nI 2 from rfl]; exact nI_nlt e (by omega)), spB_t.mpr (sp_by e hno hd)]
        rfl
    rw [q_P_isSmallPrime_2]
    rcases Nat.lt_or_ge d n with e1 | e1
    · have hdd : d * d ≤ 257 * 257 := Nat.mul_le_mul h257 h257
      rw [if_pos (nI_lt e1 (by omega)), pk_mul]
      rcases Nat.lt_or_ge n (d * d) with e2 | e2
      · rw [if_neg (nI_ge e2 (by omega)), fin (Or.inr e2)]
      · have hd255 : d ≤ 255 := by
          rcases Nat.lt_or_ge 255 d with z | z
          · have := Nat.mul_le_mul (show 256 ≤ d from z) (show 256 ≤ d from z)
            omega
          · exact z
        rw [if_pos (nI_le e2 (by omega)), if_neg (nI_ne0 (by omega) (by omega))]
        by_cases e3 : d ∣ n
        · rw [if_pos ((rem_0 (by omega) (by omega) (by omega)).mpr e3), sp_not h2 e1 e3]
          rfl
        · rw [if_neg (fun q => e3 ((rem_0 (by omega) (by omega) (by omega)).mp q)), nI_1]
          exact lp_small hn h k (d + 1) (by omega) (by omega) (by omega) (fun e h3 h4 => by
            by_cases z : e = d
            · rw [z]; exact e3
            · exact hno e h3 (by omega))
    · rw [if_neg (nI_nlt e1 (by omega)), fin (Or.inl e1)]
theorem sp_small {n : Nat} (hn : n ≤ 65535) (h : dzH) : c_P_isSmallPrime (nI n) h = some (bI (spB n), h) := by
  have h1 := lp_small hn h 298 2 (by decide) (by decide) (by decide) (fun e h1 h2 => by omega)
  rw [cc_P_isSmallPrime, q_P_isSmallPrime_0, show (2 : Int32) = nI 2 from rfl, h1]
  rfl
theorem sp_smallNeg {x : Int32} (hx : x < 0) (h : dzH) : c_P_isSmallPrime x h = some (0, h) := by
  have h2 : x < 2 := Int32.lt_trans hx (by decide)
  rw [cc_P_isSmallPrime, q_P_isSmallPrime_0, q_P_isSmallPrime_2, if_neg (Int32.lt_asymm h2), q_P_isSmallPrime_28, if_pos h2]
  rfl
theorem lp_Msmall {n : Nat} (hn : n ≤ 65535) (h : dzH) : ∀ (k d : Nat), d + k = 300 → 2 ≤ d → d ≤ 257 → 2 ≤ n → (∀ e, 2 ≤ e → e < d → ¬ e ∣ n) → dzF 137 13 [(0, .int (nI n)), (1, .int 1), (2, .int (nI d))] [] (0, 0) h = some (some (.int (bI (spB n))), h)
  | 0, d, hk, h2, h257, hn2, hno => by omega
  | k + 1, d, hk, h2, h257, hn2, hno => by
    have hdd : d * d ≤ 257 * 257 := Nat.mul_le_mul h257 h257
    rw [q_M_isSmallPrime_13, pk_mul]
    rcases Nat.lt_or_ge n (d * d) with e2 | e2
    · rw [if_neg (nI_ge e2 (by omega)), spB_t.mpr (sp_by hn2 hno (Or.inr e2))]
      rfl
    · have hd255 : d ≤ 255 := by
        rcases Nat.lt_or_ge 255 d with z | z
        · have := Nat.mul_le_mul (show 256 ≤ d from z) (show 256 ≤ d from z)
          omega
        · exact z
      have hdn : d < n := by
        have := Nat.mul_le_mul_left d h2
        omega
      rw [if_pos (nI_le e2 (by omega)), if_neg (by decide), if_neg (nI_ne0 (by omega) (by omega))]
      by_cases e3 : d ∣ n
      · rw [if_pos ((rem_0 (by omega) (by omega) (by omega)).mpr e3), sp_not h2 hdn e3, q_M_isSmallPrime_35, q_M_isSmallPrime_13]
        split <;> rfl
      · rw [if_neg (fun q => e3 ((rem_0 (by omega) (by omega) (by omega)).mp q)), q_M_isSmallPrime_35, nI_1]
        exact lp_Msmall hn h k (d + 1) (by omega) (by omega) (by omega) hn2 (fun e h3 h4 => by
          by_cases z : e = d
          · rw [z]; exact e3
          · exact hno e h3 (by omega))
theorem sp_Msmall {n : Nat} (hn : n ≤ 65535) (h : dzH) : c_M_isSmallPrime (nI n) h = some (bI (spB n), h) := by
  rw [cc_M_isSmallPrime, q_M_isSmallPrime_0]
  rcases Nat.lt_or_ge 1 n with e | e
  · have h1 := lp_Msmall hn h 298 2 (by decide) (by decide) (by decide) (by omega) (fun e h1 h2 => by omega)
    rw [if_neg (by rw [show (1 : Int32) = nI 1 from rfl]; exact nI_ge e (by omega)), q_M_isSmallPrime_10, show (2 : Int32) = nI 2 from rfl, h1]
    rfl
  · rw [if_pos (by rw [show (1 : Int32) = nI 1 from rfl]; exact nI_le e (by decide)), q_M_isSmallPrime_10, q_M_isSmallPrime_13, if_neg (by
      rw [show (2 : Int32) * 2 = nI 4 from rfl]
      exact nI_ge (by omega) (by decide)), spB_f.mpr (fun hp => by have := hp.1; omega)]
    rfl
