/-! taking the divisor away, giving it back, shifting down -/
theorem sl_upd (W : Nat → Int32) (j i : Nat) (d : Int32) : sl (upd W (j + i) d) j = upd (sl W j) i d := by
  funext k
  show upd W (j + i) d (j + k) = upd (sl W j) i d k
  unfold upd
  by_cases e : k = i
  · subst e; rw [if_pos rfl, if_pos rfl]
  · rw [if_neg (by omega), if_neg e]
theorem i2l_0 : uN (Int32.toInt64 0) = 0 := by decide
theorem i2l_1 : uN (Int32.toInt64 1) = 1 := by decide
theorem lp_take {a j n : Nat} {sh : Int32} {t : Int64} {D : Nat → Int32} (ht : uN t < 4294967296) (hn : n ≤ 8) (hj : j + n < 17) : ∀ (k i : Nat), i + k = n → ∀ (c : Int64) (h : dzH) (W : Nat → Int32), uN c < 4294967296 → h.2 a = some (sumsO a (nI n) sh) → h.2 (a + 1) = some (eI 17 W) → h.2 (a + 3) = some (eI 8 D) →
    ∃ (W' : Nat → Int32) (ok : Bool), dzF 31 6 [(0, .ref a), (1, .long t), (3, .int (nI j)), (4, .long c), (6, .int (nI i))] [] (0, 0) h = some (some (.int (bI ok)), hU h (a + 1) (eI 17 W')) ∧ (∀ q, q < j ∨ j + n < q → W' q = W q) ∧
      wv (sl W' j) (n + 1) + uN t * wv D n + uN c * 4294967296 ^ i = wv (sl W j) (n + 1) + uN t * wv D i + (if ok = true then 0 else 4294967296 ^ (n + 1))
  | 0, i, hk, c, h, W, hc, ho, hw, hD => by
    have ei : i = n := by omega
    subst ei
    have v1 := w32_lt (W (j + i))
    rw [q_Sums_takeAway_6, gS_dw ho, Option.bind_some, if_neg (nI_nlt (Nat.le_refl _) (by omega)), gS_wide ho, Option.bind_some, Option.bind_some, nI_add, drI_at hw (by omega) (by decide), Option.bind_some, Option.bind_some, Option.bind_some, nI_add, dwI_at _ hw (by omega) (by decide), Option.bind_some]
    have hu : uN ((Int32.toInt64 (W (j + i)) &&& 4294967295) - c) = (18446744073709551616 - uN c + w32 (W (j + i))) % 18446744073709551616 := by rw [uN_sub, uN_lw]
    have hI : ((Int32.toInt64 (W (j + i)) &&& 4294967295) - c).toInt = (w32 (W (j + i)) : Int) - uN c := by
      rw [uN_int, hu]
      split <;> omega
    have hd : w32 (Int64.toInt32 ((Int32.toInt64 (W (j + i)) &&& 4294967295) - c)) = (18446744073709551616 - uN c + w32 (W (j + i))) % 4294967296 := by
      rw [w32_l2i, hu]
      omega
    have hcmp : k_lcmp ((Int32.toInt64 (W (j + i)) &&& 4294967295) - c) 0 < 0 ↔ w32 (W (j + i)) < uN c := by
      rw [k_lcmp_lt, hI, show (0 : Int64).toInt = 0 from rfl]
      omega
    generalize (Int32.toInt64 (W (j + i)) &&& 4294967295) - c = z at hd hcmp ⊢
    have hsl : wv (sl (upd W (j + i) (Int64.toInt32 z)) j) (i + 1) = wv (sl W j) i + w32 (Int64.toInt32 z) * 4294967296 ^ i := by rw [sl_upd, wv_upd]
    have hsl0 : wv (sl W j) (i + 1) = wv (sl W j) i + w32 (W (j + i)) * 4294967296 ^ i := wv_s (sl W j) i
    by_cases e : w32 (W (j + i)) < uN c
    · rw [if_pos (hcmp.mpr e)]
      refine ⟨_, false, rfl, fun q hq => pk_un (by omega), ?_⟩
      rw [hsl, hsl0, if_neg (by decide), Nat.pow_succ]
      generalize 4294967296 ^ i = P
      have e1 : w32 (Int64.toInt32 z) * P + uN c * P = w32 (W (j + i)) * P + P * 4294967296 := by
        rw [← Nat.add_mul, Nat.mul_comm P, ← Nat.add_mul]
        congr 1
        omega
      omega
    · rw [if_neg (fun q => e (hcmp.mp q))]
      refine ⟨_, true, rfl, fun q hq => pk_un (by omega), ?_⟩
      rw [hsl, hsl0, if_pos rfl]
      generalize 4294967296 ^ i = P
      have e1 : w32 (Int64.toInt32 z) * P + uN c * P = w32 (W (j + i)) * P := by
        rw [← Nat.add_mul]
        congr 1
        omega
      omega
  | k + 1, i, hk, c, h, W, hc, ho, hw, hD => by
    have v1 := w32_lt (W (j + i))
    have v2 := w32_lt (D i)
    have v3 := mulB ht v2
    rw [q_Sums_takeAway_6, gS_dw ho, Option.bind_some, if_pos (nI_lt (by omega) (by omega)), gS_div ho, Option.bind_some, drI_at hD (by omega) (by decide), Option.bind_some, gS_wide ho, Option.bind_some, nI_add, Nat.add_comm i j, drI_at hw (by omega) (by decide), Option.bind_some, Option.bind_some, dwI_at _ hw (by omega) (by decide), Option.bind_some]
    have hp : uN (t * (Int32.toInt64 (D i) &&& 4294967295) + c) = uN t * w32 (D i) + uN c := by
      rw [uN_add, uN_mul, uN_lw]
      omega
    generalize t * (Int32.toInt64 (D i) &&& 4294967295) + c = pr at hp ⊢
    have hpB : uN pr / 4294967296 ≤ 4294967295 := by omega
    have hpB2 : uN pr / 4294967296 = 4294967295 → uN pr % 4294967296 = 0 := by
      intro e9
      have : uN t * w32 (D i) ≤ 4294967295 * 4294967295 := Nat.mul_le_mul (by omega) (by omega)
      omega
    have hu : uN ((Int32.toInt64 (W (j + i)) &&& 4294967295) - (pr &&& 4294967295)) = (18446744073709551616 - uN pr % 4294967296 + w32 (W (j + i))) % 18446744073709551616 := by rw [uN_sub, uN_lw, uN_mask]
    have hI : ((Int32.toInt64 (W (j + i)) &&& 4294967295) - (pr &&& 4294967295)).toInt = (w32 (W (j + i)) : Int) - (uN pr % 4294967296 : Nat) := by
      rw [uN_int, hu]
      split <;> omega
    have hd : w32 (Int64.toInt32 ((Int32.toInt64 (W (j + i)) &&& 4294967295) - (pr &&& 4294967295))) = (18446744073709551616 - uN pr % 4294967296 + w32 (W (j + i))) % 4294967296 := by
      rw [w32_l2i, hu]
      omega
    have hcmp : k_lcmp ((Int32.toInt64 (W (j + i)) &&& 4294967295) - (pr &&& 4294967295)) 0 < 0 ↔ w32 (W (j + i)) < uN pr % 4294967296 := by
      rw [k_lcmp_lt, hI, show (0 : Int64).toInt = 0 from rfl]
      omega
    generalize (Int32.toInt64 (W (j + i)) &&& 4294967295) - (pr &&& 4294967295) = z at hd hcmp ⊢
    have hs32 : uN (k_lushr pr 32) = uN pr / 4294967296 := uN_s32 pr
    -- what both ways have in common
    have go : ∀ c1 : Int64, uN c1 < 4294967296 → w32 (Int64.toInt32 z) + (uN t * w32 (D i) + uN c) = w32 (W (j + i)) + 4294967296 * uN c1 → ∃ (W' : Nat → Int32) (ok : Bool), dzF 31 6 [(0, .ref a), (1, .long t), (3, .int (nI j)), (4, .long c1), (6, .int (nI (i + 1)))] [] (0, 0) (hU h (a + 1) (eI 17 (upd W (j + i) (Int64.toInt32 z)))) = some (some (.int (bI ok)), hU h (a + 1) (eI 17 W')) ∧ (∀ q, q < j ∨ j + n < q → W' q = W q) ∧
      wv (sl W' j) (n + 1) + uN t * wv D n + uN c * 4294967296 ^ i = wv (sl W j) (n + 1) + uN t * wv D i + (if ok = true then 0 else 4294967296 ^ (n + 1)) := by
      intro c1 hc1 heq
      obtain ⟨W', ok, g1, g2, g3⟩ := lp_take (D := D) ht hn hj k (i + 1) (by omega) c1 (hU h (a + 1) (eI 17 (upd W (j + i) (Int64.toInt32 z)))) (upd W (j + i) (Int64.toInt32 z)) hc1 (by rw [hU_n (by omega)]; exact ho) (hU_s _ _ _) (by rw [hU_n (by omega)]; exact hD)
      refine ⟨W', ok, by rw [g1, hU_u], fun q hq => by rw [g2 q hq]; exact pk_un (by omega), ?_⟩
      have hmid := wv_mid (f := sl W j) (q := i) (d := Int64.toInt32 z) (n := n + 1) (by omega)
      rw [sl_upd] at g3
      rw [wv_s D i, Nat.pow_succ, Nat.mul_add] at g3
      generalize (if ok = true then 0 else 4294967296 ^ (n + 1)) = E at g3 ⊢
      have hsw : sl W j i = W (j + i) := rfl
      rw [hsw] at hmid
      generalize 4294967296 ^ i = P at g3 hmid ⊢
      have e1 : uN t * (w32 (D i) * P) = uN t * w32 (D i) * P := (Nat.mul_assoc _ _ _).symm
      have e2 : uN c1 * (P * 4294967296) = 4294967296 * uN c1 * P := by
        rw [Nat.mul_comm P, ← Nat.mul_assoc, Nat.mul_comm (uN c1)]
      have e3 : w32 (Int64.toInt32 z) * P + (uN t * w32 (D i) * P + uN c * P) = w32 (W (j + i)) * P + 4294967296 * uN c1 * P := by
        rw [← Nat.add_mul, ← Nat.add_mul, ← Nat.add_mul]
        congr 1
      rw [e1, e2] at g3
      omega
    by_cases e : w32 (W (j + i)) < uN pr % 4294967296
    · rw [if_pos (hcmp.mpr e), q_Sums_takeAway_86, nI_1]
      have u1 : uN (k_lushr pr 32 + Int32.toInt64 1) = uN pr / 4294967296 + 1 := by
        rw [uN_add, i2l_1, hs32]
        omega
      exact go _ (by omega) (by omega)
    · rw [if_neg (fun q => e (hcmp.mp q)), q_Sums_takeAway_86, nI_1]
      have u1 : uN (k_lushr pr 32 + Int32.toInt64 0) = uN pr / 4294967296 := by
        rw [uN_add, i2l_0, hs32]
        omega
      exact go _ (by omega) (by omega)
theorem sp_take {h : dzH} {a v n sh j : Nat} {D W : Nat → Int32} {t : Int64} (hd : DivOk a h v n sh D) (hw : h.2 (a + 1) = some (eI 17 W)) (hj : j + n < 17) (ht : uN t < 4294967296) :
    ∃ (W' : Nat → Int32) (ok : Bool), c_Sums_takeAway a t (nI j) h = some (bI ok, hU h (a + 1) (eI 17 W')) ∧ (∀ q, q < j ∨ j + n < q → W' q = W q) ∧ wv (sl W' j) (n + 1) + uN t * wv D n = wv (sl W j) (n + 1) + (if ok = true then 0 else 4294967296 ^ (n + 1)) := by
  obtain ⟨ho, hD, hn1, hn8, -⟩ := hd
  obtain ⟨W', ok, g1, g2, g3⟩ := lp_take ht hn8 hj n 0 (by omega) 0 h W (by decide) ho hw hD
  refine ⟨W', ok, ?_, g2, ?_⟩
  · rw [nI_0] at g1
    rw [cc_Sums_takeAway _ _ _ _ ho, q_Sums_takeAway_0, g1]
    rfl
  · rw [show uN 0 = 0 from rfl, wv_0, Nat.zero_mul, Nat.add_zero, Nat.mul_zero, Nat.add_zero] at g3
    exact g3
theorem lp_give {a j n : Nat} {sh : Int32} {D : Nat → Int32} (hn : n ≤ 8) (hj : j + n < 17) : ∀ (k i : Nat), i + k = n → ∀ (c : Int64) (h : dzH) (W : Nat → Int32), uN c ≤ 1 → h.2 a = some (sumsO a (nI n) sh) → h.2 (a + 1) = some (eI 17 W) → h.2 (a + 3) = some (eI 8 D) →
    ∃ (W' : Nat → Int32) (e : Nat), dzF 32 5 [(0, .ref a), (1, .int (nI j)), (2, .long c), (4, .int (nI i))] [] (0, 0) h = some (none, hU h (a + 1) (eI 17 W')) ∧ (∀ q, q < j ∨ j + n < q → W' q = W q) ∧ e ≤ 1 ∧
      wv (sl W' j) (n + 1) + e * 4294967296 ^ (n + 1) + wv D i = wv (sl W j) (n + 1) + wv D n + uN c * 4294967296 ^ i
  | 0, i, hk, c, h, W, hc, ho, hw, hD => by
    have ei : i = n := by omega
    subst ei
    have v1 := w32_lt (W (j + i))
    rw [q_Sums_giveBack_5, gS_dw ho, Option.bind_some, if_neg (nI_nlt (Nat.le_refl _) (by omega)), gS_wide ho, Option.bind_some, Option.bind_some, nI_add, drI_at hw (by omega) (by decide), Option.bind_some, dwI_at _ hw (by omega) (by decide), Option.bind_some]
    have hd : w32 (W (j + i) + Int64.toInt32 c) = (w32 (W (j + i)) + uN c) % 4294967296 := by
      rw [w32_add, w32_l2i]
      omega
    refine ⟨_, (w32 (W (j + i)) + uN c) / 4294967296, rfl, fun q hq => pk_un (by omega), by omega, ?_⟩
    have hsl : wv (sl (upd W (j + i) (W (j + i) + Int64.toInt32 c)) j) (i + 1) = wv (sl W j) i + w32 (W (j + i) + Int64.toInt32 c) * 4294967296 ^ i := by rw [sl_upd, wv_upd]
    have hsl0 : wv (sl W j) (i + 1) = wv (sl W j) i + w32 (W (j + i)) * 4294967296 ^ i := wv_s (sl W j) i
    rw [hsl, hsl0, Nat.pow_succ, hd]
    generalize 4294967296 ^ i = P
    have e1 : (w32 (W (j + i)) + uN c) % 4294967296 * P + (w32 (W (j + i)) + uN c) / 4294967296 * (P * 4294967296) = w32 (W (j + i)) * P + uN c * P := by
      have e2 : (w32 (W (j + i)) + uN c) / 4294967296 * (P * 4294967296) = 4294967296 * ((w32 (W (j + i)) + uN c) / 4294967296) * P := by
        rw [Nat.mul_comm P, ← Nat.mul_assoc, Nat.mul_comm (_ / _)]
      rw [e2, ← Nat.add_mul, ← Nat.add_mul]
      congr 1
      omega
    omega
  | k + 1, i, hk, c, h, W, hc, ho, hw, hD => by
    have v1 := w32_lt (W (j + i))
    have v2 := w32_lt (D i)
    rw [q_Sums_giveBack_5, gS_dw ho, Option.bind_some, if_pos (nI_lt (by omega) (by omega)), gS_wide ho, Option.bind_some, nI_add, Nat.add_comm i j, drI_at hw (by omega) (by decide), Option.bind_some, gS_div ho, Option.bind_some, drI_at hD (by omega) (by decide), Option.bind_some, Option.bind_some, dwI_at _ hw (by omega) (by decide), Option.bind_some, nI_1]
    have hz : uN (c + ((Int32.toInt64 (W (j + i)) &&& 4294967295) + (Int32.toInt64 (D i) &&& 4294967295))) = uN c + (w32 (W (j + i)) + w32 (D i)) := by
      rw [uN_add, uN_add, uN_lw, uN_lw]
      omega
    generalize c + ((Int32.toInt64 (W (j + i)) &&& 4294967295) + (Int32.toInt64 (D i) &&& 4294967295)) = z at hz ⊢
    have hc1 : uN (k_lushr z 32) = uN z / 4294967296 := uN_s32 z
    have hd : w32 (Int64.toInt32 z) = uN z % 4294967296 := w32_l2i z
    obtain ⟨W', e, g1, g2, g3, g4⟩ := lp_give (sh := sh) (D := D) hn hj k (i + 1) (by omega) (k_lushr z 32) (hU h (a + 1) (eI 17 (upd W (j + i) (Int64.toInt32 z)))) (upd W (j + i) (Int64.toInt32 z)) (by omega) (by rw [hU_n (by omega)]; exact ho) (hU_s _ _ _) (by rw [hU_n (by omega)]; exact hD)
    refine ⟨W', e, by rw [g1, hU_u], fun q hq => by rw [g2 q hq]; exact pk_un (by omega), g3, ?_⟩
    have hmid := wv_mid (f := sl W j) (q := i) (d := Int64.toInt32 z) (n := n + 1) (by omega)
    have hsw : sl W j i = W (j + i) := rfl
    rw [hsw] at hmid
    rw [sl_upd, wv_s D i, Nat.pow_succ 4294967296 i] at g4
    generalize 4294967296 ^ (n + 1) = E at g4 ⊢
    generalize 4294967296 ^ i = P at g4 hmid ⊢
    have e2 : uN (k_lushr z 32) * (P * 4294967296) = 4294967296 * uN (k_lushr z 32) * P := by
      rw [Nat.mul_comm P, ← Nat.mul_assoc, Nat.mul_comm (uN _)]
    have e3 : w32 (Int64.toInt32 z) * P + 4294967296 * uN (k_lushr z 32) * P = uN c * P + (w32 (W (j + i)) * P + w32 (D i) * P) := by
      rw [← Nat.add_mul, ← Nat.add_mul, ← Nat.add_mul]
      congr 1
      omega
    rw [e2] at g4
    omega
theorem sp_give {h : dzH} {a v n sh j : Nat} {D W : Nat → Int32} (hd : DivOk a h v n sh D) (hw : h.2 (a + 1) = some (eI 17 W)) (hj : j + n < 17) :
    ∃ (W' : Nat → Int32) (e : Nat), c_Sums_giveBack a (nI j) h = some (hU h (a + 1) (eI 17 W')) ∧ (∀ q, q < j ∨ j + n < q → W' q = W q) ∧ e ≤ 1 ∧ wv (sl W' j) (n + 1) + e * 4294967296 ^ (n + 1) = wv (sl W j) (n + 1) + wv D n := by
  obtain ⟨ho, hD, hn1, hn8, -⟩ := hd
  obtain ⟨W', e, g1, g2, g3, g4⟩ := lp_give hn8 hj n 0 (by omega) 0 h W (by decide) ho hw hD
  refine ⟨W', e, ?_, g2, g3, ?_⟩
  · rw [nI_0] at g1
    rw [cc_Sums_giveBack _ _ _ ho, q_Sums_giveBack_0, g1]
    rfl
  · rw [show uN 0 = 0 from rfl, wv_0, Nat.zero_mul, Nat.add_zero, Nat.add_zero] at g4
    exact g4
-- shifting down
theorem wv_cons (g : Nat → Int32) (n : Nat) : wv g (n + 1) = w32 (g 0) + 4294967296 * wv (fun i => g (i + 1)) n := by
  have h := pv_add 4294967296 (fun i => w32 (g i)) 1 n
  rw [Nat.add_comm 1 n] at h
  show pv 4294967296 (fun i => w32 (g i)) (n + 1) = _
  rw [h]
  have e1 : pv 4294967296 (fun i => w32 (g i)) 1 = w32 (g 0) := by
    rw [pv_s, pv_0, Nat.pow_zero]
    omega
  rw [e1, Nat.pow_one]
  congr 2
  exact pv_congr (fun i _ => by rw [Nat.add_comm 1 i])
theorem dn_digit {w ab Y s : Nat} (hw : w < 4294967296) (hs : s ≤ 31) : (w + 4294967296 * (ab + 4294967296 * Y)) / 2 ^ s = ((ab * 4294967296 + w) / 2 ^ s) % 4294967296 + 4294967296 * ((ab + 4294967296 * Y) / 2 ^ s) := by
  obtain ⟨Q, hQ⟩ : ∃ Q, 4294967296 = 2 ^ s * Q := ⟨2 ^ (32 - s), by rw [← Nat.pow_add, show s + (32 - s) = 32 by omega]⟩
  have hP : 0 < 2 ^ s := Nat.pow_pos (by decide)
  have h1 : ((ab * 4294967296 + w) / 2 ^ s) / 4294967296 = ab / 2 ^ s := by
    rw [Nat.div_div_eq_div_mul, Nat.mul_comm (2 ^ s) 4294967296, ← Nat.div_div_eq_div_mul]
    congr 1
    omega
  have h2 := Nat.div_add_mod ((ab * 4294967296 + w) / 2 ^ s) 4294967296
  rw [h1] at h2
  have h3 : (w + 4294967296 * (ab + 4294967296 * Y)) / 2 ^ s = (ab * 4294967296 + w) / 2 ^ s + Q * (4294967296 * Y) := by
    have e : w + 4294967296 * (ab + 4294967296 * Y) = (ab * 4294967296 + w) + 2 ^ s * (Q * (4294967296 * Y)) := by
      rw [← Nat.mul_assoc, ← hQ]
      omega
    rw [e, Nat.add_mul_div_left _ _ hP]
  have h4 : (ab + 4294967296 * Y) / 2 ^ s = ab / 2 ^ s + Q * Y := by
    have e : ab + 4294967296 * Y = ab + 2 ^ s * (Q * Y) := by
      rw [← Nat.mul_assoc, ← hQ]
    rw [e, Nat.add_mul_div_left _ _ hP]
  rw [h3, h4]
  have e5 : Q * (4294967296 * Y) = 4294967296 * (Q * Y) := by rw [Nat.mul_left_comm]
  rw [e5]
  omega
theorem lp_down {a n sh : Nat} {D W0 : Nat → Int32} {v : Nat} (hsh : sh ≤ 31) (hn : n ≤ 8) : ∀ (i : Nat), i ≤ n → ∀ (h : dzH) (W : Nat → Int32) (ab : Int64), h.2 a = some (sumsO a (nI n) (nI sh)) → h.2 (a + 1) = some (eI 17 W) → (∀ k, k < i → W k = W0 k) → uN ab < 4294967296 → (∃ Y, wv (sl W0 i) (n - i) = uN ab + 4294967296 * Y) → wv (sl W i) (n - i) = wv (sl W0 i) (n - i) / 2 ^ sh →
    ∃ W' : Nat → Int32, dzF 33 9 [(0, .ref a), (1, .long ab), (3, .int (nI i - 1))] [] (0, 0) h = some (none, hU h (a + 1) (eI 17 W')) ∧ wv W' n = wv W0 n / 2 ^ sh ∧ ∀ k, n ≤ k → W' k = W k
  | 0, hi, h, W, ab, ho, hw, hk, hab, hY, hv => by
    refine ⟨W, ?_, ?_, fun k _ => rfl⟩
    · rw [q_Sums_shiftWideDown_9, if_pos (by decide), hU_id hw]
    · have e1 : ∀ f : Nat → Int32, wv (sl f 0) (n - 0) = wv f n := fun f => wv_congr (fun i _ => by show f (0 + i) = f i; rw [Nat.zero_add])
      rw [e1, e1] at hv
      exact hv
  | i + 1, hi, h, W, ab, ho, hw, hk, hab, hY, hv => by
    have v1 := w32_lt (W0 i)
    rw [nI_pred, q_Sums_shiftWideDown_9, if_neg (nI_pos (by omega)), gS_wide ho, Option.bind_some, drI_at hw (by omega) (by decide), Option.bind_some, Option.bind_some, gS_sh ho, Option.bind_some, dwI_at _ hw (by omega) (by decide), Option.bind_some, hk i (by omega)]
    have hor : uN (k_lshl ab 32 ||| (Int32.toInt64 (W0 i) &&& 4294967295)) = uN ab * 4294967296 + w32 (W0 i) := by
      have h1 : uN (k_lshl ab 32) = uN ab * 2 ^ 32 := by
        rw [uN_l32]
        omega
      rw [uN_orLow h1 (by rw [uN_lw]; omega), h1, uN_lw]
    have hd : w32 (Int64.toInt32 (k_lushr (k_lshl ab 32 ||| (Int32.toInt64 (W0 i) &&& 4294967295)) (nI sh))) = (uN ab * 4294967296 + w32 (W0 i)) / 2 ^ sh % 4294967296 := by
      rw [w32_l2i, uN_sN _ (by omega), hor]
    generalize Int64.toInt32 (k_lushr (k_lshl ab 32 ||| (Int32.toInt64 (W0 i) &&& 4294967295)) (nI sh)) = d at hd ⊢
    have em : nI i + (-1) = nI i - 1 := by rw [Int32.sub_eq_add_neg]
    rw [em]
    have ent : n - i = (n - (i + 1)) + 1 := by omega
    have shift : ∀ f : Nat → Int32, wv (fun k => sl f i (k + 1)) (n - (i + 1)) = wv (sl f (i + 1)) (n - (i + 1)) := fun f => wv_congr (fun k _ => by show f (i + (k + 1)) = f (i + 1 + k); congr 1; omega)
    have hV0 : wv (sl W0 i) (n - i) = w32 (W0 i) + 4294967296 * wv (sl W0 (i + 1)) (n - (i + 1)) := by
      rw [ent, wv_cons, shift]
      rfl
    have hsame : wv (sl (upd W i d) (i + 1)) (n - (i + 1)) = wv (sl W (i + 1)) (n - (i + 1)) := wv_congr (fun k _ => by show upd W i d (i + 1 + k) = W (i + 1 + k); exact pk_un (by omega))
    have hV1 : wv (sl (upd W i d) i) (n - i) = w32 d + 4294967296 * wv (sl W (i + 1)) (n - (i + 1)) := by
      rw [ent, wv_cons, shift, hsame]
      have : sl (upd W i d) i 0 = d := pk_us
      rw [this]
    obtain ⟨Y, hY⟩ := hY
    obtain ⟨W', g1, g2, g3⟩ := lp_down (D := D) (W0 := W0) (v := v) hsh hn i (by omega) (hU h (a + 1) (eI 17 (upd W i d))) (upd W i d) (Int32.toInt64 (W0 i) &&& 4294967295) (by rw [hU_n (by omega)]; exact ho) (hU_s _ _ _) (fun k hk1 => by rw [pk_un (by omega)]; exact hk k (by omega)) (by rw [uN_lw]; exact v1) ⟨_, by rw [uN_lw]; exact hV0⟩ (by
        rw [hV1, hV0, hv, hd, hY]
        exact (dn_digit v1 hsh).symm)
    exact ⟨W', by rw [g1, hU_u], g2, fun k hk1 => by rw [g3 k hk1]; exact pk_un (by omega)⟩
theorem sp_down {h : dzH} {a v n sh : Nat} {D W : Nat → Int32} (hd : DivOk a h v n sh D) (hw : h.2 (a + 1) = some (eI 17 W)) : ∃ W' : Nat → Int32, c_Sums_shiftWideDown a h = some (hU h (a + 1) (eI 17 W')) ∧ wv W' n = wv W n / 2 ^ sh ∧ ∀ k, n ≤ k → W' k = W k := by
  obtain ⟨ho, hD, hn1, hn8, hsh, -⟩ := hd
  obtain ⟨W', g1, g2, g3⟩ := lp_down (D := D) (W0 := W) (v := v) hsh hn8 n (Nat.le_refl _) h W 0 ho hw (fun _ _ => rfl) (by decide) ⟨0, by rw [Nat.sub_self]; rfl⟩ (by rw [Nat.sub_self, wv_0, Nat.zero_div])
  refine ⟨W', ?_, g2, g3⟩
  rw [cc_Sums_shiftWideDown _ _ ho, q_Sums_shiftWideDown_0, gS_dw ho, Option.bind_some, g1]
  rfl
