/-! Sums: the divisor shifted up, and what is divided -/
section SF
variable {h : dzH} {a : Nat} {dw sh : Int32}
theorem gS_dw (ho : h.2 a = some (sumsO a dw sh)) : dgI h a 6 3 = some dw := dgI_at ho rfl
theorem gS_sh (ho : h.2 a = some (sumsO a dw sh)) : dgI h a 6 4 = some sh := dgI_at ho rfl
theorem gS_wide (ho : h.2 a = some (sumsO a dw sh)) : dgA h a 6 0 = some (a + 1) := dgA_at ho rfl
theorem gS_goes (ho : h.2 a = some (sumsO a dw sh)) : dgA h a 6 1 = some (a + 2) := dgA_at ho rfl
theorem gS_div (ho : h.2 a = some (sumsO a dw sh)) : dgA h a 6 2 = some (a + 3) := dgA_at ho rfl
theorem gS_res (ho : h.2 a = some (sumsO a dw sh)) : dgA h a 6 5 = some (a + 4) := dgA_at ho rfl
theorem gS_pow (ho : h.2 a = some (sumsO a dw sh)) : dgA h a 6 6 = some (a + 5) := dgA_at ho rfl
theorem gS_lar (ho : h.2 a = some (sumsO a dw sh)) : dgA h a 6 7 = some (a + 6) := dgA_at ho rfl
theorem gS_sma (ho : h.2 a = some (sumsO a dw sh)) : dgA h a 6 8 = some (a + 7) := dgA_at ho rfl
theorem pS_dw (ho : h.2 a = some (sumsO a dw sh)) (x : Int32) : dpF h a 6 3 (.int x) = some (hU h a (sumsO a x sh)) := (dpF_at _ ho (by simp)).trans rfl
theorem pS_sh (ho : h.2 a = some (sumsO a dw sh)) (x : Int32) : dpF h a 6 4 (.int x) = some (hU h a (sumsO a dw x)) := (dpF_at _ ho (by simp)).trans rfl
end SF
theorem nat_xor {a : Nat} (h : a < 18446744073709551616) : a ^^^ 2 ^ 63 = (a + 9223372036854775808) % 18446744073709551616 := by
  have h1 : (a ^^^ 2 ^ 63) % 2 ^ 63 = a % 2 ^ 63 := by rw [Nat.xor_mod_two_pow, Nat.mod_self, Nat.xor_zero]
  have h2 : (a ^^^ 2 ^ 63) / 2 ^ 63 = (a / 2 ^ 63) ^^^ 1 := by rw [Nat.xor_div_two_pow, Nat.div_self (Nat.two_pow_pos 63)]
  have h3 : a / 2 ^ 63 = 0 ∨ a / 2 ^ 63 = 1 := by omega
  generalize a ^^^ 2 ^ 63 = t at h1 h2
  rcases h3 with h3 | h3
  · rw [h3] at h2
    have h2 : t / 2 ^ 63 = 1 := h2
    omega
  · rw [h3] at h2
    have h2 : t / 2 ^ 63 = 0 := h2
    omega
theorem uN_xor (x : Int64) : uN (x ^^^ (-9223372036854775808)) = (uN x + 9223372036854775808) % 18446744073709551616 := by
  rw [← nat_xor (uN_lt x)]
  exact BitVec.toNat_xor _ _
theorem uN_orLow {x y : Int64} {i a : Nat} (hx : uN x = a * 2 ^ i) (hy : uN y < 2 ^ i) : uN (x ||| y) = uN x + uN y := by
  rw [uN_or, hx, Nat.mul_comm]
  exact (Nat.two_pow_add_eq_or_of_lt hy a).symm
theorem sp_isAbove (x y : Int64) (h : dzH) : c_Sums_isAbove x y h = some (bI (decide (uN y < uN x)), h) := by
  have h1 := uN_lt x
  have h2 := uN_lt y
  have hk : k_lcmp (x ^^^ (-9223372036854775808)) (y ^^^ (-9223372036854775808)) ≤ 0 ↔ uN x ≤ uN y := by
    rw [k_lcmp_le, uN_int, uN_int, uN_xor, uN_xor]
    omega
  rw [cc_Sums_isAbove, q_Sums_isAbove_0]
  by_cases e : uN x ≤ uN y
  · rw [if_pos (hk.mpr e), decide_eq_false (by omega)]
    rfl
  · rw [if_neg (fun q => e (hk.mp q)), decide_eq_true (by omega)]
    rfl
theorem lp_lz {x : Int32} (hx : x ≠ 0) (h : dzH) : ∀ (k z : Nat), z + k = 31 → w32 x * 2 ^ z < 4294967296 → ∃ r, r ≤ 31 ∧ dzF 25 2 [(0, .int x), (1, .int (nI z))] [] (0, 0) h = some (some (.int (nI r)), h) ∧ 2147483648 ≤ w32 x * 2 ^ r ∧ w32 x * 2 ^ r < 4294967296
  | 0, z, hk, hlt => by
    have ez : z = 31 := by omega
    subst ez
    refine ⟨31, Nat.le_refl _, ?_, ?_, hlt⟩
    · rw [q_Sums_leadingZeros_2, if_neg (by decide)]
    · have h1 : w32 x ≠ 0 := fun q => hx (w32_eq0.mpr q)
      omega
  | k + 1, z, hk, hlt => by
    have e31 : (31 : Int32) = nI 31 := rfl
    have h1 : w32 x ≠ 0 := fun q => hx (w32_eq0.mpr q)
    have hs : w32 (k_ishl x (nI z)) = w32 x * 2 ^ z := by rw [w32_shlN x (by omega), Nat.mod_eq_of_lt hlt]
    have hpos : 0 < w32 x * 2 ^ z := Nat.mul_pos (by omega) (Nat.pow_pos (by decide))
    have hle : k_ishl x (nI z) ≤ 0 ↔ 2147483648 ≤ w32 x * 2 ^ z := by
      rw [Int32.le_iff_toInt_le, w32_int, hs, show (0 : Int32).toInt = 0 from rfl]
      split <;> omega
    rw [q_Sums_leadingZeros_2, e31, if_pos (nI_lt (by omega) (by decide))]
    by_cases e : 2147483648 ≤ w32 x * 2 ^ z
    · rw [if_pos (hle.mpr e)]
      exact ⟨z, by omega, rfl, e, hlt⟩
    · rw [if_neg (fun q => e (hle.mp q)), nI_1]
      exact lp_lz hx h k (z + 1) (by omega) (by rw [Nat.pow_succ, ← Nat.mul_assoc]; omega)
theorem sp_lz {x : Int32} (hx : x ≠ 0) (h : dzH) : ∃ r, r ≤ 31 ∧ c_Sums_leadingZeros x h = some (nI r, h) ∧ 2147483648 ≤ w32 x * 2 ^ r ∧ w32 x * 2 ^ r < 4294967296 := by
  obtain ⟨r, h1, h2, h3, h4⟩ := lp_lz hx h 31 0 rfl (by have := w32_lt x; simpa using this)
  refine ⟨r, h1, ?_, h3, h4⟩
  rw [nI_0] at h2
  rw [cc_Sums_leadingZeros, q_Sums_leadingZeros_0, h2]
  rfl
/-- from word i to word N the row at x holds X -/
def rdn (h : dzH) (x i N : Nat) (X : Nat → Int32) : Prop := ∃ n f, h.2 x = some (eI n f) ∧ N ≤ n ∧ n < 2147483648 ∧ ∀ j, i ≤ j → j < N → f j = X j
theorem rdn.rd {h : dzH} {x i j N : Nat} {X : Nat → Int32} (r : rdn h x i N X) (hj : i ≤ j) (h8 : j < N) : drI h x (nI j) = some (X j) := by
  obtain ⟨n, f, h1, h2, h3, h4⟩ := r
  rw [drI_at h1 (by omega) h3, h4 j hj h8]
theorem rdn.up {h : dzH} {x t i m N : Nat} {d : Int32} {X ft : Nat → Int32} (r : rdn h x i N X) (ht : h.2 t = some (eI m ft)) : rdn (hU h t (eI m (upd ft i d))) x (i + 1) N X := by
  obtain ⟨n, f, h1, h2, h3, h4⟩ := r
  by_cases e : x = t
  · subst e
    rw [ht] at h1
    cases h1
    exact ⟨m, upd ft i d, hU_s _ _ _, h2, h3, fun j h5 h6 => by rw [pk_un (by omega)]; exact h4 j (by omega) h6⟩
  · exact ⟨n, f, by rw [hU_n e]; exact h1, h2, h3, fun j h5 h6 => h4 j (by omega) h6⟩
theorem rdn.of {h : dzH} {x n N : Nat} {f : Nat → Int32} (h1 : h.2 x = some (eI n f)) (h2 : N ≤ n) (h3 : n < 2147483648) : rdn h x 0 N f := ⟨n, f, h1, h2, h3, fun _ _ _ => rfl⟩
theorem pow2_le {sh : Nat} (h : sh ≤ 31) : 2 ^ sh ≤ 2147483648 ∧ 0 < 2 ^ sh := ⟨Nat.pow_le_pow_right (n := 2) (by decide) h, Nat.pow_pos (by decide)⟩
theorem lp_shiftUp {s x t n m sh : Nat} {so : List Value} {F : Nat → Int32} (hso : so[4]? = some (.int (nI sh))) (hsh : sh ≤ 31) (hst : s ≠ t) (hnm : n ≤ m) (hm : m < 2147483648) : ∀ (k i : Nat), i + k = n → ∀ (c : Int64) (h : dzH) (T : Nat → Int32), uN c < 2 ^ sh → h.2 s = some (eO 6 so) → rdn h x i n F → h.2 t = some (eI m T) → wv T i + uN c * 4294967296 ^ i = wv F i * 2 ^ sh →
    ∃ (T' : Nat → Int32) (c' : Nat), dzF 26 6 [(0, .ref s), (1, .ref x), (2, .int (nI n)), (3, .ref t), (4, .long c), (6, .int (nI i))] [] (0, 0) h = some (none, hU h t (eI m T')) ∧ c' < 2 ^ sh ∧ wv T' n + c' * 4294967296 ^ n = wv F n * 2 ^ sh ∧ (∀ j, n < j → T' j = T j) ∧ (n < m → w32 (T' n) = c')
  | 0, i, hk, c, h, T, hc, hs, hx, ht, hv => by
    have ei : i = n := by omega
    subst ei
    rw [q_Sums_shiftUp_6, if_neg (nI_nlt (Nat.le_refl _) (by omega)), dln_at ht, Option.bind_some]
    have h2 := pow2_le hsh
    by_cases e : i < m
    · rw [if_pos (nI_lt e hm), dwI_at _ ht e hm, Option.bind_some]
      refine ⟨_, uN c, rfl, hc, ?_, fun j hj => pk_un (by omega), fun _ => ?_⟩
      · rw [wv_congr (g := T) (fun j hj => pk_un (by omega))]
        exact hv
      · rw [pk_us, w32_l2i, Nat.mod_eq_of_lt (by omega)]
    · rw [if_neg (nI_nlt (by omega) (by omega))]
      exact ⟨T, uN c, by rw [hU_id ht], hc, hv, fun j hj => rfl, fun q => absurd q e⟩
  | k + 1, i, hk, c, h, T, hc, hs, hx, ht, hv => by
    rw [q_Sums_shiftUp_6, if_pos (nI_lt (by omega) (by omega)), hx.rd (Nat.le_refl _) (by omega), Option.bind_some, dgI_at hs hso, Option.bind_some, dwI_at _ ht (by omega) hm, Option.bind_some, nI_1]
    have h1 := w32_lt (F i)
    have h2 := pow2_le hsh
    have hmul : w32 (F i) * 2 ^ sh ≤ 4294967295 * 2 ^ sh := Nat.mul_le_mul_right _ (by omega)
    have hl : uN (k_lshl (Int32.toInt64 (F i) &&& 4294967295) (nI sh)) = w32 (F i) * 2 ^ sh := by
      rw [uN_lN _ (by omega), uN_lw, Nat.mod_eq_of_lt (by omega)]
    have hz : uN (c ||| k_lshl (Int32.toInt64 (F i) &&& 4294967295) (nI sh)) = uN c + w32 (F i) * 2 ^ sh := by
      have h3 : c ||| k_lshl (Int32.toInt64 (F i) &&& 4294967295) (nI sh) = k_lshl (Int32.toInt64 (F i) &&& 4294967295) (nI sh) ||| c := Int64.or_comm _ _
      rw [h3, uN_orLow hl hc, hl]
      omega
    generalize c ||| k_lshl (Int32.toInt64 (F i) &&& 4294967295) (nI sh) = z at hz
    have hc1 : uN (k_lushr z 32) = uN z / 4294967296 := uN_s32 z
    have hd : w32 (Int64.toInt32 z) = uN z % 4294967296 := w32_l2i z
    have hlt : uN (k_lushr z 32) < 2 ^ sh := by
      rw [hc1]
      apply Nat.div_lt_of_lt_mul
      omega
    obtain ⟨T', c', g1, g2, g3, g4, g5⟩ := lp_shiftUp (x := x) (F := F) hso hsh hst hnm hm k (i + 1) (by omega) (k_lushr z 32) (hU h t (eI m (upd T i (Int64.toInt32 z)))) (upd T i (Int64.toInt32 z)) hlt (by rw [hU_n hst]; exact hs) (hx.up ht) (hU_s _ _ _) (by
        rw [wv_upd, wv_s F i, Nat.pow_succ, Nat.add_mul]
        generalize 4294967296 ^ i = P at hv ⊢
        have e1 : uN (k_lushr z 32) * (P * 4294967296) = (4294967296 * uN (k_lushr z 32)) * P := by
          rw [Nat.mul_comm P, ← Nat.mul_assoc, Nat.mul_comm (uN _)]
        have e2 : w32 (F i) * P * 2 ^ sh = (w32 (F i) * 2 ^ sh) * P := by
          rw [Nat.mul_assoc, Nat.mul_comm P, ← Nat.mul_assoc]
        have e3 : w32 (Int64.toInt32 z) * P + (4294967296 * uN (k_lushr z 32)) * P = uN c * P + (w32 (F i) * 2 ^ sh) * P := by
          rw [← Nat.add_mul, ← Nat.add_mul]
          congr 1
          omega
        rw [e1, e2]
        omega)
    exact ⟨T', c', by rw [g1, hU_u], g2, g3, fun j hj => by rw [g4 j hj]; exact pk_un (by omega), g5⟩
theorem sp_shiftUp {h : dzH} {s x t n m n0 sh : Nat} {so : List Value} {F T : Nat → Int32} (hs : h.2 s = some (eO 6 so)) (hso : so[4]? = some (.int (nI sh))) (hsh : sh ≤ 31) (hst : s ≠ t) (hnm : n ≤ m) (hm : m < 2147483648) (hx : h.2 x = some (eI n0 F)) (hn0 : n ≤ n0) (hn1 : n0 < 2147483648) (ht : h.2 t = some (eI m T)) :
    ∃ (T' : Nat → Int32) (c' : Nat), c_Sums_shiftUp s x (nI n) t h = some (hU h t (eI m T')) ∧ c' < 2 ^ sh ∧ wv T' n + c' * 4294967296 ^ n = wv F n * 2 ^ sh ∧ (∀ j, n < j → T' j = T j) ∧ (n < m → w32 (T' n) = c') := by
  obtain ⟨T', c', g1, g2⟩ := lp_shiftUp (x := x) (F := F) hso hsh hst hnm hm n 0 (by omega) 0 h T (by rw [show uN 0 = 0 from rfl]; exact (pow2_le hsh).2) hs (rdn.of hx hn0 hn1) ht (by rw [wv_0, wv_0, show uN 0 = 0 from rfl]; omega)
  refine ⟨T', c', ?_, g2⟩
  rw [nI_0] at g1
  rw [cc_Sums_shiftUp _ _ _ _ _ hs, q_Sums_shiftUp_0, g1]
  rfl
/-- the divisor v is set: n words, shifted up by sh, the highest bit of the highest word is set -/
def DivOk (a : Nat) (h : dzH) (v n sh : Nat) (D : Nat → Int32) : Prop := h.2 a = some (sumsO a (nI n) (nI sh)) ∧ h.2 (a + 3) = some (eI 8 D) ∧ 1 ≤ n ∧ n ≤ 8 ∧ sh ≤ 31 ∧ wv D n = v * 2 ^ sh ∧ 2147483648 ≤ w32 (D (n - 1)) ∧ 0 < v ∧ 4294967296 ^ (n - 1) ≤ v
theorem sp_setDivisor {h : dzH} {a y v : Nat} (hs : SumsOk a h) (hy : row8 h y v) (hv : 0 < v) : ∃ h' n sh D, c_Sums_setDivisor a y h = some h' ∧ DivOk a h' v n sh D ∧ SumsOk a h' ∧ fr h h' (fun q => q = a ∨ q = a + 3) := by
  have hs0 := hs
  obtain ⟨⟨dw, sh0, ho⟩, g1, g2, g3⟩ := hs
  obtain ⟨Y, hy1, hy2⟩ := hy
  have ny : y ≠ a := fun e => by rw [e, ho] at hy1; cases hy1
  obtain ⟨D0, hD0⟩ := g3 3 (by decide) (by decide)
  have hu := uw_le Y 8
  have hu0 : 0 < uw Y 8 := by
    rcases Nat.eq_zero_or_pos (uw Y 8) with e | e
    · have := (uw_0 Y 8).mp e
      omega
    · exact e
  have htop := uw_top Y 8 hu0
  have hge := wv_ge_uw Y 8 hu0
  have hvu : wv Y 8 = wv Y (uw Y 8) := wv_uw Y 8
  generalize hn : uw Y 8 = n at hu hu0 htop hge hvu
  obtain ⟨r, r1, r2, r3, r4⟩ := sp_lz htop (hU h a (sumsO a (nI n) sh0))
  have ho2 : (hU (hU h a (sumsO a (nI n) sh0)) a (sumsO a (nI n) (nI r))).2 a = some (sumsO a (nI n) (nI r)) := hU_s _ _ _
  rw [hU_u] at ho2
  have hy3 : (hU h a (sumsO a (nI n) (nI r))).2 y = some (eI 8 Y) := by rw [hU_n (by omega)]; exact hy1
  have hD3 : (hU h a (sumsO a (nI n) (nI r))).2 (a + 3) = some (eI 8 D0) := by rw [hU_n (by omega)]; exact hD0
  obtain ⟨D, c', k1, k2, k3, k4, k5⟩ := sp_shiftUp (n := n) ho2 rfl r1 (by omega) hu (by decide) hy3 hu (by decide) hD3
  have hP : 0 < 4294967296 ^ (n - 1) := Nat.pow_pos (by decide)
  have hPn : 4294967296 ^ n = 4294967296 ^ (n - 1) * 4294967296 := by rw [← Nat.pow_succ]; congr 1; omega
  have h2 := pow2_le r1
  have hYn : wv Y n = wv Y (n - 1) + w32 (Y (n - 1)) * 4294967296 ^ (n - 1) := by
    have := wv_s Y (n - 1)
    rwa [show n - 1 + 1 = n by omega] at this
  have hYl := wv_lt Y (n - 1)
  have hDn : wv D n = wv D (n - 1) + w32 (D (n - 1)) * 4294967296 ^ (n - 1) := by
    have := wv_s D (n - 1)
    rwa [show n - 1 + 1 = n by omega] at this
  have hDl := wv_lt D (n - 1)
  have hc0 : c' = 0 := by
    -- the shifted number has no more than n words
    rcases Nat.eq_zero_or_pos c' with e | e
    · exact e
    · exfalso
      have e1 : wv Y n * 2 ^ r < (w32 (Y (n - 1)) + 1) * 4294967296 ^ (n - 1) * 2 ^ r := by
        apply Nat.mul_lt_mul_of_pos_right _ h2.2
        rw [Nat.add_mul]
        omega
      have e2 : (w32 (Y (n - 1)) + 1) * 2 ^ r ≤ 4294967296 := by
        obtain ⟨z, hz⟩ : ∃ z, 4294967296 = z * 2 ^ r := ⟨2 ^ (32 - r), by rw [← Nat.pow_add, show 32 - r + r = 32 by omega]⟩
        rw [hz] at r4 ⊢
        exact Nat.mul_le_mul_right _ (Nat.lt_of_mul_lt_mul_right r4)
      have e3 : (w32 (Y (n - 1)) + 1) * 4294967296 ^ (n - 1) * 2 ^ r ≤ 4294967296 ^ n := by
        rw [Nat.mul_assoc, Nat.mul_comm (4294967296 ^ (n - 1)), ← Nat.mul_assoc, hPn, Nat.mul_comm (4294967296 ^ (n - 1)) 4294967296]
        exact Nat.mul_le_mul_right _ e2
      have e4 : 1 * 4294967296 ^ n ≤ c' * 4294967296 ^ n := Nat.mul_le_mul_right _ e
      omega
  have hDv : wv D n = v * 2 ^ r := by
    rw [hc0, Nat.zero_mul, Nat.add_zero] at k3
    rw [k3, ← hvu, hy2]
  refine ⟨hU (hU h a (sumsO a (nI n) (nI r))) (a + 3) (eI 8 D), n, r, D, ?_, ⟨by rw [hU_n (by omega)]; exact ho2, hU_s _ _ _, by omega, hu, r1, hDv, ?_, hv, by rw [← hy2]; exact hge⟩, ?_, rfl, fun q hq => by rw [hU_n (by omega), hU_n (by omega)]⟩
  · rw [cc_Sums_setDivisor _ _ _ ho, q_Sums_setDivisor_0, sp_used hy1 (by decide), Option.bind_some]
    dsimp only
    rw [hn, pS_dw ho, Option.bind_some, gS_dw (hU_s _ _ _), Option.bind_some, if_neg (nI_ne0 hu0 (by omega)), Option.bind_some]
    obtain ⟨n', rfl⟩ : ∃ n', n = n' + 1 := ⟨n - 1, by omega⟩
    rw [nI_pred, drI_at (n := 8) (f := Y) (by rw [hU_n (by omega)]; exact hy1) (by omega) (by decide), Option.bind_some]
    rw [show n' + 1 - 1 = n' by omega] at r2
    rw [r2, Option.bind_some]
    dsimp only
    rw [q_Sums_setDivisor_31, pS_sh (hU_s _ _ _), Option.bind_some, hU_u, gS_dw ho2, Option.bind_some, gS_div ho2, Option.bind_some, k1, Option.bind_some]
    rfl
  · have e1 : w32 (Y (n - 1)) * 4294967296 ^ (n - 1) * 2 ^ r ≤ wv D n := by
      rw [hDv, ← hy2, hvu, hYn, Nat.add_mul]
      omega
    have e2 : 2147483648 * 4294967296 ^ (n - 1) ≤ w32 (Y (n - 1)) * 4294967296 ^ (n - 1) * 2 ^ r := by
      rw [Nat.mul_assoc, Nat.mul_comm (4294967296 ^ (n - 1)), ← Nat.mul_assoc]
      exact Nat.mul_le_mul_right _ r3
    have e3 : 2147483648 * 4294967296 ^ (n - 1) < (w32 (D (n - 1)) + 1) * 4294967296 ^ (n - 1) := by
      rw [Nat.add_mul]
      omega
    have := Nat.lt_of_mul_lt_mul_right e3
    omega
  · refine SumsOk.row1 (n := 3) ?_ (by decide) (by decide) (fun _ _ _ => trivial) rfl
    exact ⟨⟨_, _, ho2⟩, g1.eq (hU_n (by omega)), g2.eq (hU_n (by omega)), fun k hk1 hk2 => (g3 k hk1 hk2).eq (hU_n (by omega))⟩
theorem sp_setWide {h : dzH} {a x v : Nat} (hs : SumsOk a h) (hx : row8 h x v) (nx : x ≠ a + 1) : ∃ W, c_Sums_setWide a x h = some (hU h (a + 1) (eI 17 W)) ∧ wv W 17 = v ∧ W 16 = 0 := by
  obtain ⟨⟨dw, sh, ho⟩, ⟨W0, hw⟩, -, -⟩ := hs
  obtain ⟨X, hx1, hx2⟩ := hx
  have hx3 : (hU h (a + 1) (eI 17 (fun j => if j < 17 then (0 : Int32) else W0 j))).2 x = some (eI 8 X) := by rw [hU_n (by omega)]; exact hx1
  have ho3 : (hU h (a + 1) (eI 17 (fun j => if j < 17 then (0 : Int32) else W0 j))).2 a = some (sumsO a dw sh) := by rw [hU_n (by omega)]; exact ho
  refine ⟨fun i => if i < 8 then X i else if i < 17 then 0 else W0 i, ?_, ?_, rfl⟩
  · rw [cc_Sums_setWide _ _ _ ho, q_Sums_setWide_0, dgA_at ho rfl, Option.bind_some, sp_fill 0 hw (by decide), Option.bind_some, dgA_at ho3 rfl, Option.bind_some, sp_copy hx3 (hU_s _ _ _) (by decide) (by decide), Option.bind_some, hU_u]
    rfl
  · rw [← hx2]
    have h1 : wv (fun i => if i < 8 then X i else if i < 17 then 0 else W0 i) 17 = wv (fun i => if i < 8 then X i else if i < 17 then 0 else W0 i) 8 := pv_ext (by decide) (fun i h1 h2 => by dsimp only; rw [if_neg (by omega), if_pos h2]; rfl)
    rw [h1]
    exact wv_congr (fun i hi => if_pos hi)
