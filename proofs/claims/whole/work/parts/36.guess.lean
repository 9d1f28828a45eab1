/-! how often the divisor goes: the guess is right, or once too much -/
section KN
variable {f s M d2 hd t s2 : Nat}
theorem kn_up {X M d2 Z s2 q : Nat} (hs2 : s2 < M) (h : q * (X * M + d2) ≤ Z * M + s2) : q * X ≤ Z := by
  have h1 : q * X * M ≤ q * (X * M + d2) := by
    rw [Nat.mul_assoc]
    exact Nat.mul_le_mul_left q (by omega)
  have h2 : q * X * M < (Z + 1) * M := by
    rw [Nat.add_mul]
    omega
  have := Nat.lt_of_mul_lt_mul_right h2
  omega
theorem kn_1 {q : Nat} (ht : t < 4294967296) (hs2 : s2 < M) (h : q * ((f * 4294967296 + s) * M + d2) ≤ (hd * 4294967296 + t) * M + s2) : q * f ≤ hd := by
  have h1 := kn_up hs2 h
  have h2 : q * (f * 4294967296) ≤ q * (f * 4294967296 + s) := Nat.mul_le_mul_left q (by omega)
  rw [← Nat.mul_assoc] at h2
  omega
theorem kn_2 {t' r : Nat} (hs2 : s2 < M) (h0 : t' * f + r = hd) (h : r * 4294967296 + t < t' * s) : (hd * 4294967296 + t) * M + s2 < t' * ((f * 4294967296 + s) * M + d2) := by
  have h1 : hd * 4294967296 + t + 1 ≤ t' * (f * 4294967296 + s) := by
    rw [Nat.mul_add, ← Nat.mul_assoc, ← h0]
    omega
  have h2 : (hd * 4294967296 + t + 1) * M ≤ t' * (f * 4294967296 + s) * M := Nat.mul_le_mul_right M h1
  have h3 : t' * (f * 4294967296 + s) * M ≤ t' * ((f * 4294967296 + s) * M + d2) := by
    rw [Nat.mul_assoc]
    exact Nat.mul_le_mul_left t' (Nat.le_add_right _ _)
  rw [Nat.add_mul] at h2
  omega
theorem kn_3 {t' r : Nat} (hf : 1 ≤ f) (hd2 : d2 < M) (ht' : t' < 4294967296) (h0 : t' * f + r = hd) (h : t' * s ≤ r * 4294967296 + t) : t' * ((f * 4294967296 + s) * M + d2) < ((hd * 4294967296 + t) * M + s2) + ((f * 4294967296 + s) * M + d2) := by
  have h1 : t' * (f * 4294967296 + s) ≤ hd * 4294967296 + t := by
    rw [Nat.mul_add, ← Nat.mul_assoc, ← h0]
    omega
  have h2 : t' * (f * 4294967296 + s) * M ≤ (hd * 4294967296 + t) * M := Nat.mul_le_mul_right M h1
  have h3 : t' * d2 ≤ 4294967296 * M := Nat.mul_le_mul (by omega) (by omega)
  have h3' : t' * d2 < 4294967296 * M := by
    have : t' * d2 ≤ 4294967295 * M := Nat.mul_le_mul (by omega) (by omega)
    have h9 : 0 < M := by omega
    omega
  have h4 : 4294967296 * M ≤ (f * 4294967296 + s) * M := Nat.mul_le_mul_right M (by omega)
  rw [Nat.mul_add, ← Nat.mul_assoc]
  omega
end KN
theorem uN_lNat {n : Nat} (h : n < 18446744073709551616) : uN (lN n) = n := by
  show (BitVec.ofNat 64 n).toNat = n
  rw [BitVec.toNat_ofNat]
  exact Nat.mod_eq_of_lt h
theorem lN_uN (x : Int64) : lN (uN x) = x := uN_inj (uN_lNat (uN_lt x))
theorem uN_div {x y : Int64} (hx : uN x < 9223372036854775808) (hy : uN y < 9223372036854775808) (h0 : 0 < uN y) : uN (x / y) = uN x / uN y := by
  have h1 := pk_lDiv (a := uN x) (b := uN y) hx h0 hy
  rw [lN_uN, lN_uN] at h1
  rw [h1, uN_lNat]
  exact Nat.lt_of_le_of_lt (Nat.div_le_self _ _) (uN_lt x)
theorem uN_toInt {x : Int64} (h : uN x < 9223372036854775808) : x.toInt = (uN x : Int) := by
  rw [uN_int, if_pos (by omega)]
theorem uN_sub_le {x y : Int64} (h : uN y ≤ uN x) : uN (x - y) = uN x - uN y := by
  rw [uN_sub]
  have := uN_lt x
  omega
theorem lp_guess {a : Nat} {i1 i2 i3 : Int32} {j4 j6 j8 j10 : Int64} {h : dzH} {M d2 s2 q : Nat} (hd : Nat)
    (hf1 : 2147483648 ≤ uN j4) (hf2 : uN j4 < 4294967296) (hs : uN j6 < 4294967296) (ht : uN j8 < 4294967296) (hd2 : d2 < M) (hs2 : s2 < M) (hhd : hd < (uN j4 + 1) * 4294967296) (hq : q < 4294967296)
    (hq1 : q * ((uN j4 * 4294967296 + uN j6) * M + d2) ≤ (hd * 4294967296 + uN j8) * M + s2) (hq2 : (hd * 4294967296 + uN j8) * M + s2 < (q + 1) * ((uN j4 * 4294967296 + uN j6) * M + d2)) :
    ∀ (k st : Nat), st + k = 2 → ∀ (j12 j14 : Int64), uN j12 * uN j4 + uN j14 = hd → q ≤ uN j12 → st * uN j4 ≤ uN j14 → uN j14 < (st + 1) * uN j4 → uN j12 ≤ 4294967297 →
    ∃ T : Int64, dzF 30 172 [(0, .ref a), (1, .int i1), (2, .int i2), (3, .int i3), (4, .long j4), (6, .long j6), (8, .long j8), (10, .long j10), (12, .long j12), (14, .long j14), (16, .int (nI st))] [] (0, 0) h = some (some (.long T), h) ∧ q ≤ uN T ∧ uN T ≤ q + 1 ∧ uN T < 4294967296 := by
  have stop : ∀ (t' r : Nat), t' * uN j4 + r = hd → 4294967296 ≤ r → t' < 4294967296 ∧ t' * uN j6 ≤ r * 4294967296 + uN j8 := by
    intro t' r h0 hr
    have h1 : t' * uN j4 < 4294967296 * uN j4 := by
      rw [Nat.add_mul, Nat.one_mul] at hhd
      omega
    have h2 := Nat.lt_of_mul_lt_mul_right h1
    refine ⟨h2, ?_⟩
    have h3 := mulB h2 hs
    omega
  have fin : ∀ (t' r : Nat), t' * uN j4 + r = hd → t' < 4294967296 → t' * uN j6 ≤ r * 4294967296 + uN j8 → t' ≤ q + 1 := by
    intro t' r h0 ht' h1
    have h2 := kn_3 (s2 := s2) (by omega) hd2 ht' h0 h1
    have h3 : t' * ((uN j4 * 4294967296 + uN j6) * M + d2) < (q + 2) * ((uN j4 * 4294967296 + uN j6) * M + d2) := by
      rw [show q + 2 = q + 1 + 1 from rfl, Nat.add_mul (q + 1), Nat.one_mul]
      omega
    have := Nat.lt_of_mul_lt_mul_right h3
    omega
  intro k
  induction k with
  | zero =>
    intro st hk j12 j14 h0 hqt hlo hhi h12
    have est : st = 2 := by omega
    subst est
    obtain ⟨g1, g2⟩ := stop (uN j12) (uN j14) h0 (by omega)
    refine ⟨j12, ?_, hqt, fin _ _ h0 g1 g2, g1⟩
    rw [q_Sums_guessTimes_172, if_neg (by decide)]
  | succ k ih =>
    intro st hk j12 j14 h0 hqt hlo hhi h12
    have e2 : (2 : Int32) = nI 2 := rfl
    have hst : st ≤ 1 := by omega
    have hr3 : uN j14 < 8589934592 := by
      have : (st + 1) * uN j4 ≤ 2 * uN j4 := Nat.mul_le_mul_right _ (by omega)
      omega
    have c14 : k_lcmp j14 4294967295 ≤ 0 ↔ uN j14 ≤ 4294967295 := by
      rw [k_lcmp_le, uN_toInt (by omega), show (4294967295 : Int64).toInt = 4294967295 from rfl]
      omega
    have c12 : k_lcmp j12 4294967295 ≤ 0 ↔ uN j12 ≤ 4294967295 := by
      rw [k_lcmp_le, uN_toInt (by omega), show (4294967295 : Int64).toInt = 4294967295 from rfl]
      omega
    -- once less
    have dec : 1 ≤ uN j12 → q ≤ uN j12 - 1 → ∃ T : Int64, dzF 30 218 [(0, .ref a), (1, .int i1), (2, .int i2), (3, .int i3), (4, .long j4), (6, .long j6), (8, .long j8), (10, .long j10), (12, .long j12), (14, .long j14), (16, .int (nI st))] [] (0, 0) h = some (some (.long T), h) ∧ q ≤ uN T ∧ uN T ≤ q + 1 ∧ uN T < 4294967296 := by
      intro h1 h2
      have u12 : uN (j12 - 1) = uN j12 - 1 := by
        rw [uN_sub_le (by rw [show uN 1 = 1 from rfl]; exact h1)]
        rfl
      have u14 : uN (j14 + j4) = uN j14 + uN j4 := by
        rw [uN_add]
        omega
      rw [q_Sums_guessTimes_218, nI_1]
      refine ih (st + 1) (by omega) (j12 - 1) (j14 + j4) ?_ (by omega) ?_ ?_ (by omega)
      · rw [u12, u14, Nat.sub_mul, Nat.one_mul]
        have : 1 * uN j4 ≤ uN j12 * uN j4 := Nat.mul_le_mul_right _ h1
        omega
      · rw [u14, Nat.add_mul]
        omega
      · rw [u14, Nat.add_mul]
        omega
    rw [q_Sums_guessTimes_172, e2, if_pos (nI_lt (by omega) (by decide))]
    by_cases hr : uN j14 ≤ 4294967295
    · rw [if_pos (c14.mpr hr)]
      by_cases h12' : uN j12 ≤ 4294967295
      · rw [if_pos (c12.mpr h12'), sp_isAbove, Option.bind_some]
        dsimp only
        have hmul : uN (j12 * j6) = uN j12 * uN j6 := by
          rw [uN_mul]
          have := mulB (show uN j12 < 4294967296 by omega) hs
          omega
        have hor : uN (k_lshl j14 32 ||| j8) = uN j14 * 4294967296 + uN j8 := by
          have h1 : uN (k_lshl j14 32) = uN j14 * 2 ^ 32 := by
            rw [uN_l32]
            omega
          rw [uN_orLow h1 (by omega), h1]
        rw [hmul, hor]
        by_cases hab : uN j14 * 4294967296 + uN j8 < uN j12 * uN j6
        · rw [decide_eq_true hab, if_neg (by decide)]
          have h2 := kn_2 (d2 := d2) hs2 h0 hab
          have h3 : q * ((uN j4 * 4294967296 + uN j6) * M + d2) < uN j12 * ((uN j4 * 4294967296 + uN j6) * M + d2) := by omega
          have h4 := Nat.lt_of_mul_lt_mul_right h3
          exact dec (by omega) (by omega)
        · rw [decide_eq_false hab, if_pos bI_f]
          exact ⟨j12, rfl, hqt, fin _ _ h0 (by omega) (by omega), by omega⟩
      · rw [if_neg (fun z => h12' (c12.mp z))]
        exact dec (by omega) (by omega)
    · rw [if_neg (fun z => hr (c14.mp z))]
      obtain ⟨g1, g2⟩ := stop (uN j12) (uN j14) h0 (by omega)
      exact ⟨j12, rfl, hqt, fin _ _ h0 g1 g2, g1⟩
theorem gs_86 {a : Nat} {i1 i3 : Int32} {j4 j6 sj0 : Int64} {h : dzH} {M d2 s2 q m : Nat} {W : Nat → Int32} {dw sh : Int32} (ho : h.2 a = some (sumsO a dw sh)) (hw : h.2 (a + 1) = some (eI 17 W)) (hm1 : 1 ≤ m) (hm : m < 17)
    (hf1 : 2147483648 ≤ uN j4) (hf2 : uN j4 < 4294967296) (hs : uN j6 < 4294967296) (ht : uN sj0 < 4294967296) (hd2 : d2 < M) (hs2 : s2 < M) (hhd : w32 (W m) * 4294967296 + w32 (W (m - 1)) < (uN j4 + 1) * 4294967296) (hq : q < 4294967296)
    (hq1 : q * ((uN j4 * 4294967296 + uN j6) * M + d2) ≤ ((w32 (W m) * 4294967296 + w32 (W (m - 1))) * 4294967296 + uN sj0) * M + s2) (hq2 : ((w32 (W m) * 4294967296 + w32 (W (m - 1))) * 4294967296 + uN sj0) * M + s2 < (q + 1) * ((uN j4 * 4294967296 + uN j6) * M + d2)) :
    ∃ T : Int64, dzF 30 86 [(0, .ref a), (1, .int i1), (2, .int (nI m)), (3, .int i3), (4, .long j4), (6, .long j6)] [.long sj0] (0, 0) h = some (some (.long T), h) ∧ q ≤ uN T ∧ uN T ≤ q + 1 ∧ uN T < 4294967296 := by
  have hm' : nI m - 1 = nI (m - 1) := pk_sub hm1
  have v1 := w32_lt (W m)
  have v2 := w32_lt (W (m - 1))
  rw [q_Sums_guessTimes_86, gS_wide ho, Option.bind_some, drI_at hw hm (by decide), Option.bind_some, Option.bind_some, hm', drI_at hw (by omega) (by decide), Option.bind_some]
  have hj0 : j4 ≠ 0 := fun z => by rw [z] at hf1; exact absurd hf1 (by decide)
  rw [if_neg (fun z => hj0 (k_lcmp_0.mp z)), if_neg hj0]
  have hhead : uN (k_lshl (Int32.toInt64 (W m) &&& 4294967295) 32 ||| (Int32.toInt64 (W (m - 1)) &&& 4294967295)) = w32 (W m) * 4294967296 + w32 (W (m - 1)) := by
    have h1 : uN (k_lshl (Int32.toInt64 (W m) &&& 4294967295) 32) = w32 (W m) * 2 ^ 32 := by
      rw [uN_l32, uN_lw]
      omega
    rw [uN_orLow h1 (by rw [uN_lw]; omega), h1, uN_lw]
  generalize k_lshl (Int32.toInt64 (W m) &&& 4294967295) 32 ||| (Int32.toInt64 (W (m - 1)) &&& 4294967295) = head at hhead ⊢
  have hq0 : q * uN j4 ≤ uN head := by
    rw [hhead]
    exact kn_1 ht hs2 hq1
  rw [← hhead] at hhd hq1 hq2
  have hhl := uN_lt head
  have hhalf : uN (k_lushr head 1) = uN head / 2 := uN_s1 head
  have hquo : uN (k_lushr head 1 / j4) = uN head / 2 / uN j4 := by
    rw [uN_div (by omega) (by omega) (by omega), hhalf]
  have hdm := Nat.div_add_mod (uN head / 2) (uN j4)
  have hml := Nat.mod_lt (uN head / 2) (show 0 < uN j4 by omega)
  generalize hQ : uN head / 2 / uN j4 = Q at hquo hdm
  generalize hR : uN head / 2 % uN j4 = R1 at hdm hml
  have hQs : Q < 4294967298 := by
    rcases Nat.lt_or_ge Q 4294967298 with h1 | h1
    · exact h1
    · have : 2147483648 * 4294967298 ≤ uN j4 * Q := Nat.mul_le_mul hf1 h1
      omega
  have htim : uN (k_lshl (k_lushr head 1 / j4) 1) = 2 * Q := by
    rw [uN_l1, hquo]
    omega
  have hprod : uN (k_lshl (k_lushr head 1 / j4) 1 * j4) = 2 * (uN j4 * Q) := by
    rw [uN_mul, htim, Nat.mul_assoc, Nat.mul_comm Q]
    omega
  have hrest : uN (head - k_lshl (k_lushr head 1 / j4) 1 * j4) = uN head - 2 * (uN j4 * Q) := by
    rw [uN_sub_le (by rw [hprod]; omega), hprod]
  generalize k_lshl (k_lushr head 1 / j4) 1 = tim at htim hprod hrest ⊢
  generalize head - tim * j4 = res at hrest ⊢
  have hcmp : k_lcmp res j4 < 0 ↔ uN res < uN j4 := by
    rw [k_lcmp_lt, uN_toInt (by omega), uN_toInt (by omega)]
    omega
  have hqt : ∀ t' r, t' * uN j4 + r = uN head → r < uN j4 → q ≤ t' := by
    intro t' r h0 h1
    have h2 : q * uN j4 < (t' + 1) * uN j4 := by
      rw [Nat.add_mul]
      omega
    have := Nat.lt_of_mul_lt_mul_right h2
    omega
  have hbig : ∀ t' r, t' * uN j4 + r = uN head → t' ≤ 4294967297 := by
    intro t' r h0
    have h2 : t' * uN j4 < 4294967298 * uN j4 := by
      rw [Nat.add_mul] at hhd
      omega
    have := Nat.lt_of_mul_lt_mul_right h2
    omega
  by_cases hc : uN res < uN j4
  · rw [if_pos (hcmp.mpr hc), q_Sums_guessTimes_169]
    have h0 : uN tim * uN j4 + uN res = uN head := by
      rw [htim, hrest, Nat.mul_assoc, Nat.mul_comm Q]
      omega
    exact lp_guess (uN head) hf1 hf2 hs ht hd2 hs2 hhd hq hq1 hq2 2 0 rfl tim res h0 (hqt _ _ h0 hc) (by omega) (by omega) (hbig _ _ h0)
  · rw [if_neg (fun z => hc (hcmp.mp z)), q_Sums_guessTimes_169]
    have u1 : uN (tim + 1) = uN tim + 1 := by
      rw [uN_add, show uN 1 = 1 from rfl]
      omega
    have u2 : uN (res - j4) = uN res - uN j4 := uN_sub_le (by omega)
    have h0 : uN (tim + 1) * uN j4 + uN (res - j4) = uN head := by
      rw [u1, u2, Nat.add_mul, htim, hrest, Nat.mul_assoc, Nat.mul_comm Q]
      omega
    have h1 : uN (res - j4) < uN j4 := by
      rw [u2, hrest]
      omega
    exact lp_guess (uN head) hf1 hf2 hs ht hd2 hs2 hhd hq hq1 hq2 2 0 rfl (tim + 1) (res - j4) h0 (hqt _ _ h0 h1) (by omega) (by omega) (hbig _ _ h0)
/-- the words of W from j on -/
abbrev sl (W : Nat → Int32) (j : Nat) : Nat → Int32 := fun i => W (j + i)
theorem kn_one {q x y : Nat} (h : q * x ≤ y) : q * ((x * 4294967296 + 0) * 1 + 0) ≤ (y * 4294967296 + 0) * 1 + 0 := by
  simp only [Nat.add_zero, Nat.mul_one]
  rw [← Nat.mul_assoc]
  exact Nat.mul_le_mul_right _ h
theorem kn_one' {q x y : Nat} (h : y < (q + 1) * x) : (y * 4294967296 + 0) * 1 + 0 < (q + 1) * ((x * 4294967296 + 0) * 1 + 0) := by
  simp only [Nat.add_zero, Nat.mul_one]
  rw [← Nat.mul_assoc]
  exact Nat.mul_lt_mul_of_pos_right h (by omega)
theorem sp_guess1 {h : dzH} {a v sh j : Nat} {D W : Nat → Int32} (hd : DivOk a h v 1 sh D) (hw : h.2 (a + 1) = some (eI 17 W)) (hj : j + 1 < 17) {q : Nat} (hqB : q < 4294967296) (hq : q * w32 (D 0) ≤ w32 (W (j + 1)) * 4294967296 + w32 (W j)) (hq2 : w32 (W (j + 1)) * 4294967296 + w32 (W j) < (q + 1) * w32 (D 0)) :
    ∃ T : Int64, c_Sums_guessTimes a (nI j) h = some (T, h) ∧ q ≤ uN T ∧ uN T ≤ q + 1 ∧ uN T < 4294967296 := by
  obtain ⟨ho, hD, -, -, -, -, htop, -, -⟩ := hd
  have htop : 2147483648 ≤ w32 (D 0) := htop
  have hfl := w32_lt (D 0)
  have hhd : w32 (W (j + 1)) * 4294967296 + w32 (W j) < (w32 (D 0) + 1) * 4294967296 := by
    have : (q + 1) * w32 (D 0) ≤ 4294967296 * w32 (D 0) := Nat.mul_le_mul_right _ (by omega)
    omega
  have h0 : uN 0 = 0 := rfl
  have hf : uN (Int32.toInt64 (D 0) &&& 4294967295) = w32 (D 0) := uN_lw _
  have hj1 : j + 1 - 1 = j := by omega
  have key : ∃ T : Int64, dzF 30 86 [(0, .ref a), (1, .int (nI j)), (2, .int (nI (j + 1))), (3, .int 0), (4, .long (Int32.toInt64 (D 0) &&& 4294967295)), (6, .long 0)] [.long 0] (0, 0) h = some (some (.long T), h) ∧ q ≤ uN T ∧ uN T ≤ q + 1 ∧ uN T < 4294967296 := by
    refine gs_86 (M := 1) (d2 := 0) (s2 := 0) ho hw (by omega) (by omega) ?_ ?_ ?_ ?_ (by omega) (by omega) ?_ hqB ?_ ?_
    · rw [hf]; exact htop
    · rw [hf]; exact hfl
    · rw [h0]; omega
    · rw [h0]; omega
    · rw [hf, hj1]; exact hhd
    · rw [hf, h0, hj1]; exact kn_one hq
    · rw [hf, h0, hj1]; exact kn_one' hq2
  obtain ⟨T, g1, g2⟩ := key
  refine ⟨T, ?_, g2⟩
  have hle : nI 1 ≤ 1 := by decide
  have e0 : nI 1 - 1 = nI 0 := rfl
  rw [cc_Sums_guessTimes _ _ _ ho, q_Sums_guessTimes_0, gS_dw ho, Option.bind_some, Option.bind_some, nI_add, if_pos hle, q_Sums_guessTimes_20, gS_div ho, Option.bind_some, gS_dw ho, Option.bind_some, e0, drI_at hD (by decide) (by decide), Option.bind_some, if_pos rfl, q_Sums_guessTimes_63, if_pos rfl, g1]
  rfl
theorem sp_guess2 {h : dzH} {a v m sh j : Nat} {D W : Nat → Int32} (hd : DivOk a h v (m + 2) sh D) (hw : h.2 (a + 1) = some (eI 17 W)) (hj : j + (m + 2) < 17) {q : Nat} (hqB : q < 4294967296) (hhd : w32 (W (j + (m + 2))) * 4294967296 + w32 (W (j + (m + 1))) < (w32 (D (m + 1)) + 1) * 4294967296)
    (hq : q * wv D (m + 2) ≤ wv (sl W j) (m + 2 + 1)) (hq2 : wv (sl W j) (m + 2 + 1) < (q + 1) * wv D (m + 2)) :
    ∃ T : Int64, c_Sums_guessTimes a (nI j) h = some (T, h) ∧ q ≤ uN T ∧ uN T ≤ q + 1 ∧ uN T < 4294967296 := by
  obtain ⟨ho, hD, -, hn8, -, -, htop, -, -⟩ := hd
  rw [show m + 2 - 1 = m + 1 from rfl] at htop
  have hDn : wv D (m + 2) = wv D m + w32 (D m) * 4294967296 ^ m + w32 (D (m + 1)) * 4294967296 ^ (m + 1) := by rw [wv_s D (m + 1), wv_s D m]
  have hSn : wv (sl W j) (m + 2 + 1) = wv (sl W j) m + w32 (W (j + m)) * 4294967296 ^ m + w32 (W (j + (m + 1))) * 4294967296 ^ (m + 1) + w32 (W (j + (m + 2))) * 4294967296 ^ (m + 2) := by rw [wv_s (sl W j) (m + 2), wv_s (sl W j) (m + 1), wv_s (sl W j) m]
  have hDml := wv_lt D m
  have hSml := wv_lt (sl W j) m
  rw [Nat.pow_succ] at hDn
  rw [Nat.pow_succ 4294967296 (m + 1), Nat.pow_succ] at hSn
  rw [hDn, hSn] at hq hq2
  generalize 4294967296 ^ m = M at hDml hSml hq hq2
  have eD : wv D m + w32 (D m) * M + w32 (D (m + 1)) * (M * 4294967296) = (w32 (D (m + 1)) * 4294967296 + w32 (D m)) * M + wv D m := by
    rw [Nat.add_mul, Nat.mul_assoc (w32 (D (m + 1))), Nat.mul_comm M]
    omega
  have eS : wv (sl W j) m + w32 (W (j + m)) * M + w32 (W (j + (m + 1))) * (M * 4294967296) + w32 (W (j + (m + 2))) * (M * 4294967296 * 4294967296) = ((w32 (W (j + (m + 2))) * 4294967296 + w32 (W (j + (m + 1)))) * 4294967296 + w32 (W (j + m))) * M + wv (sl W j) m := by
    generalize w32 (W (j + (m + 2))) = x2
    generalize w32 (W (j + (m + 1))) = x1
    have e1 : x2 * (M * 4294967296 * 4294967296) = x2 * 4294967296 * 4294967296 * M := by
      rw [Nat.mul_comm M, Nat.mul_comm (4294967296 * M), ← Nat.mul_assoc, ← Nat.mul_assoc, Nat.mul_comm x2]
    have e2 : x1 * (M * 4294967296) = x1 * 4294967296 * M := by rw [Nat.mul_comm M, Nat.mul_assoc]
    rw [e1, e2, Nat.add_mul, Nat.add_mul, Nat.add_mul]
    omega
  rw [eD, eS] at hq hq2
  obtain ⟨T, g1, g2⟩ := gs_86 (a := a) (i1 := nI j) (i3 := 1) (j4 := Int32.toInt64 (D (m + 1)) &&& 4294967295) (j6 := Int32.toInt64 (D m) &&& 4294967295) (sj0 := Int32.toInt64 (W (j + m)) &&& 4294967295) (M := M) (d2 := wv D m) (s2 := wv (sl W j) m) (q := q) (m := j + (m + 2)) ho hw (by omega) (by omega) (by rw [uN_lw]; exact htop) (by rw [uN_lw]; exact w32_lt _) (by rw [uN_lw]; exact w32_lt _) (by rw [uN_lw]; exact w32_lt _) hDml hSml (by rw [uN_lw]; exact hhd) hqB (by
      rw [uN_lw, uN_lw, uN_lw]
      exact hq) (by
      rw [uN_lw, uN_lw, uN_lw]
      exact hq2)
  refine ⟨T, ?_, g2⟩
  have e2 : (1 : Int32) = nI 1 := rfl
  have em : nI (m + 2) - 2 = nI m := pk_sub (a := m + 2) (b := 2) (by omega)
  have em2 : nI (j + (m + 2)) - 2 = nI (j + m) := pk_sub (a := j + (m + 2)) (b := 2) (by omega)
  have hle : ¬ nI (m + 2) ≤ 1 := by rw [e2]; exact nI_ge (by omega) (by omega)
  rw [cc_Sums_guessTimes _ _ _ ho, q_Sums_guessTimes_0, gS_dw ho, Option.bind_some, Option.bind_some, nI_add, if_neg hle, q_Sums_guessTimes_20, gS_div ho, Option.bind_some, gS_dw ho, Option.bind_some, show nI (m + 2) - 1 = nI (m + 1) from nI_pred (m + 1), drI_at hD (by omega) (by decide), Option.bind_some, if_neg (by decide), Option.bind_some, Option.bind_some, em, drI_at hD (by omega) (by decide), Option.bind_some, q_Sums_guessTimes_63, if_neg (by decide), gS_wide ho, Option.bind_some, em2, drI_at hw (by omega) (by decide), Option.bind_some, g1]
  rfl
theorem sp_guess {h : dzH} {a v n sh j : Nat} {D W : Nat → Int32} (hd : DivOk a h v n sh D) (hw : h.2 (a + 1) = some (eI 17 W)) (hj : j + n < 17) (hS : wv (sl W j) (n + 1) < wv D n * 4294967296) :
    ∃ T : Int64, c_Sums_guessTimes a (nI j) h = some (T, h) ∧ wv (sl W j) (n + 1) / wv D n ≤ uN T ∧ uN T ≤ wv (sl W j) (n + 1) / wv D n + 1 ∧ uN T < 4294967296 := by
  have hd0 := hd
  obtain ⟨-, -, hn1, -, -, hDv, htop, hv, -⟩ := hd
  have hDpos : 0 < wv D n := by
    rw [hDv]
    exact Nat.mul_pos hv (Nat.pow_pos (by decide))
  have hq := Nat.div_mul_le_self (wv (sl W j) (n + 1)) (wv D n)
  have hq2 : wv (sl W j) (n + 1) < (wv (sl W j) (n + 1) / wv D n + 1) * wv D n := by
    rw [Nat.add_mul, Nat.one_mul]
    exact Nat.lt_div_mul_add hDpos
  have hqB : wv (sl W j) (n + 1) / wv D n < 4294967296 := Nat.div_lt_of_lt_mul hS
  generalize wv (sl W j) (n + 1) / wv D n = q at hq hq2 hqB ⊢
  match n, hn1, hd0, hj, hS, hq, hq2 with
  | 1, _, hd0, hj, hS, hq, hq2 =>
    have hD1 : wv D 1 = w32 (D 0) := by rw [wv_s D 0, wv_0, Nat.pow_zero]; omega
    have hS1 : wv (sl W j) (1 + 1) = w32 (W (j + 1)) * 4294967296 + w32 (W j) := by
      rw [wv_s (sl W j) 1, wv_s (sl W j) 0, wv_0, Nat.pow_zero, Nat.pow_one]
      show 0 + w32 (W j) * 1 + w32 (W (j + 1)) * 4294967296 = _
      omega
    rw [hD1, hS1] at hq hq2
    exact sp_guess1 hd0 hw hj hqB hq hq2
  | m + 2, _, hd0, hj, hS, hq, hq2 =>
    refine sp_guess2 hd0 hw hj hqB ?_ hq hq2
    have hDn : wv D (m + 2) = wv D (m + 1) + w32 (D (m + 1)) * 4294967296 ^ (m + 1) := wv_s D (m + 1)
    have hSn : wv (sl W j) (m + 2 + 1) = wv (sl W j) (m + 1) + w32 (W (j + (m + 1))) * 4294967296 ^ (m + 1) + w32 (W (j + (m + 2))) * 4294967296 ^ (m + 2) := by rw [wv_s (sl W j) (m + 2), wv_s (sl W j) (m + 1)]
    have hDl := wv_lt D (m + 1)
    rw [Nat.pow_succ 4294967296 (m + 1)] at hSn
    rw [hSn, hDn] at hS
    generalize 4294967296 ^ (m + 1) = P at hS hDl
    have h1 : (w32 (W (j + (m + 2))) * 4294967296 + w32 (W (j + (m + 1)))) * P < ((w32 (D (m + 1)) + 1) * 4294967296) * P := by
      have e1 : w32 (W (j + (m + 2))) * (P * 4294967296) = w32 (W (j + (m + 2))) * 4294967296 * P := by rw [Nat.mul_comm P, Nat.mul_assoc]
      have e2 : (w32 (D (m + 1)) + 1) * 4294967296 * P = (w32 (D (m + 1)) * P + P) * 4294967296 := by
        rw [Nat.mul_right_comm, Nat.add_mul, Nat.one_mul]
      rw [Nat.add_mul, e2]
      omega
    exact Nat.lt_of_mul_lt_mul_right h1
