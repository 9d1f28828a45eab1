/-! Sums: sum and difference, also where the answer's row is one of the two -/
/-- from word i on the row at x holds X -/
def rdw (h : dzH) (x i : Nat) (X : Nat → Int32) : Prop := ∃ n f, h.2 x = some (eI n f) ∧ 8 ≤ n ∧ n < 2147483648 ∧ ∀ j, i ≤ j → j < 8 → f j = X j
theorem rdw.rd {h : dzH} {x i j : Nat} {X : Nat → Int32} (r : rdw h x i X) (hj : i ≤ j) (h8 : j < 8) : drI h x (nI j) = some (X j) := by
  obtain ⟨n, f, h1, h2, h3, h4⟩ := r
  rw [drI_at h1 (by omega) h3, h4 j hj h8]
theorem rdw.up {h : dzH} {x t i m : Nat} {d : Int32} {X ft : Nat → Int32} (r : rdw h x i X) (ht : h.2 t = some (eI m ft)) : rdw (hU h t (eI m (upd ft i d))) x (i + 1) X := by
  obtain ⟨n, f, h1, h2, h3, h4⟩ := r
  by_cases e : x = t
  · subst e
    rw [ht] at h1
    cases h1
    exact ⟨m, upd ft i d, hU_s _ _ _, h2, h3, fun j h5 h6 => by rw [pk_un (by omega)]; exact h4 j (by omega) h6⟩
  · exact ⟨n, f, by rw [hU_n e]; exact h1, h2, h3, fun j h5 h6 => h4 j (by omega) h6⟩
theorem rdw.of {h : dzH} {x n : Nat} {f : Nat → Int32} (h1 : h.2 x = some (eI n f)) (h2 : 8 ≤ n) (h3 : n < 2147483648) : rdw h x 0 f := ⟨n, f, h1, h2, h3, fun _ _ _ => rfl⟩
theorem wv_upd {f : Nat → Int32} {i : Nat} {d : Int32} : wv (upd f i d) (i + 1) = wv f i + w32 d * 4294967296 ^ i := by
  rw [wv_s, pk_us]
  congr 1
  exact wv_congr (fun j hj => pk_un (by omega))
theorem lp_sum {x y t : Nat} {X Y : Nat → Int32} : ∀ (k i : Nat), i + k = 8 → ∀ (c : Int64) (h : dzH) (ft : Nat → Int32), uN c ≤ 1 → rdw h x i X → rdw h y i Y → h.2 t = some (eI 8 ft) →
    ∃ (ft' : Nat → Int32) (c' : Nat), dzF 13 5 [(0, .ref x), (1, .ref y), (2, .ref t), (3, .long c), (5, .int (nI i))] [] (0, 0) h = some (some (.int (bI (decide (c' = 0)))), hU h t (eI 8 ft')) ∧ (wv ft' 8 + c' * B8) + (wv X i + wv Y i) = (wv ft i + uN c * 4294967296 ^ i) + (wv X 8 + wv Y 8)
  | 0, i, hk, c, h, ft, hc, hx, hy, ht => by
    have ei : i = 8 := by omega
    subst ei
    refine ⟨ft, uN c, ?_, by rw [B8_eq]⟩
    rw [q_Sums_sum_5, if_neg (by decide), hU_id ht]
    by_cases e : uN c = 0
    · rw [if_pos (k_lcmp_0.mpr (uN_inj (by rw [e]; rfl))), decide_eq_true e]
      rfl
    · rw [if_neg (fun q => e (by rw [k_lcmp_0.mp q]; rfl)), decide_eq_false e]
      rfl
  | k + 1, i, hk, c, h, ft, hc, hx, hy, ht => by
    have e8 : (8 : Int32) = nI 8 := rfl
    rw [q_Sums_sum_5, e8, if_pos (nI_lt (by omega) (by decide)), hx.rd (Nat.le_refl _) (by omega), Option.bind_some, hy.rd (Nat.le_refl _) (by omega), Option.bind_some, dwI_at _ ht (by omega) (by decide), Option.bind_some, nI_1]
    have hs : uN (c + ((Int32.toInt64 (X i) &&& 4294967295) + (Int32.toInt64 (Y i) &&& 4294967295))) = uN c + (w32 (X i) + w32 (Y i)) := by
      rw [uN_add, uN_add, uN_lw, uN_lw]
      have h1 := w32_lt (X i)
      have h2 := w32_lt (Y i)
      omega
    generalize c + ((Int32.toInt64 (X i) &&& 4294967295) + (Int32.toInt64 (Y i) &&& 4294967295)) = s at hs
    have h1 := w32_lt (X i)
    have h2 := w32_lt (Y i)
    have hc1 : uN (k_lushr s 32) = uN s / 4294967296 := uN_s32 s
    have hd : w32 (Int64.toInt32 s) = uN s % 4294967296 := w32_l2i s
    obtain ⟨ft', c', h3, h4⟩ := lp_sum k (i + 1) (by omega) (k_lushr s 32) (hU h t (eI 8 (upd ft i (Int64.toInt32 s)))) (upd ft i (Int64.toInt32 s)) (by omega) (hx.up ht) (hy.up ht) (hU_s _ _ _)
    refine ⟨ft', c', by rw [h3, hU_u], ?_⟩
    rw [wv_upd, wv_s X i, wv_s Y i, Nat.pow_succ] at h4
    generalize 4294967296 ^ i = P at h4 ⊢
    have hm : w32 (Int64.toInt32 s) * P + uN (k_lushr s 32) * (P * 4294967296) = uN c * P + (w32 (X i) * P + w32 (Y i) * P) := by
      have e1 : uN (k_lushr s 32) * (P * 4294967296) = (4294967296 * uN (k_lushr s 32)) * P := by
        rw [Nat.mul_comm P, ← Nat.mul_assoc, Nat.mul_comm (uN _)]
      rw [e1, ← Nat.add_mul, ← Nat.add_mul, ← Nat.add_mul]
      congr 1
      omega
    omega
theorem sp_sum {h : dzH} {x y t vx vy : Nat} (hx : row8 h x vx) (hy : row8 h y vy) (ht : rowN h t 8) : ∃ h', c_Sums_sum x y t h = some (bI (decide (vx + vy < B8)), h') ∧ row8 h' t ((vx + vy) % B8) ∧ fr h h' (fun q => q = t) := by
  obtain ⟨X, hx1, hx2⟩ := hx
  obtain ⟨Y, hy1, hy2⟩ := hy
  obtain ⟨ft, ht⟩ := ht
  obtain ⟨ft', c', h1, h2⟩ := lp_sum 8 0 rfl 0 h ft (by decide) (rdw.of hx1 (by decide) (by decide)) (rdw.of hy1 (by decide) (by decide)) ht
  have h3 := wv_lt8 ft'
  have e0 : uN 0 = 0 := rfl
  rw [wv_0, wv_0, wv_0, hx2, hy2, e0] at h2
  have hP := B8_pos
  have h4 : vx + vy = wv ft' 8 + c' * B8 := by omega
  refine ⟨hU h t (eI 8 ft'), ?_, ⟨ft', hU_s _ _ _, ?_⟩, fr.up _ _ _⟩
  · rw [nI_0] at h1
    rw [cc_Sums_sum, q_Sums_sum_0, h1]
    have e : decide (c' = 0) = decide (vx + vy < B8) := by
      by_cases e1 : c' = 0
      · rw [decide_eq_true e1, decide_eq_true (by rw [h4, e1]; omega)]
      · rw [decide_eq_false e1, decide_eq_false (by
          have : 1 * B8 ≤ c' * B8 := Nat.mul_le_mul_right _ (by omega)
          omega)]
    rw [e]
    rfl
  · rw [h4, Nat.add_mul_mod_self_right, Nat.mod_eq_of_lt h3]
theorem lp_diff {x y t : Nat} {X Y : Nat → Int32} : ∀ (k i : Nat), i + k = 8 → ∀ (c : Int64) (h : dzH) (ft : Nat → Int32), (c.toInt = 0 ∨ c.toInt = -1) → rdw h x i X → rdw h y i Y → h.2 t = some (eI 8 ft) →
    ∃ (ft' : Nat → Int32) (c' : Int), (c' = 0 ∨ c' = -1) ∧ dzF 17 5 [(0, .ref x), (1, .ref y), (2, .ref t), (3, .long c), (5, .int (nI i))] [] (0, 0) h = some (some (.int (bI (decide (c' = 0)))), hU h t (eI 8 ft')) ∧ ((wv ft' 8 : Int) + c' * (B8 : Nat)) + ((wv X i : Int) - wv Y i) = ((wv ft i : Int) + c.toInt * (4294967296 ^ i : Nat)) + ((wv X 8 : Int) - wv Y 8)
  | 0, i, hk, c, h, ft, hc, hx, hy, ht => by
    have ei : i = 8 := by omega
    subst ei
    refine ⟨ft, c.toInt, hc, ?_, by rw [B8_eq]⟩
    rw [q_Sums_difference_5, if_neg (by decide), hU_id ht]
    by_cases e : c.toInt = 0
    · rw [if_pos (k_lcmp_0.mpr (Int64.toInt_inj.mp (by rw [e]; rfl))), decide_eq_true e]
      rfl
    · rw [if_neg (fun q => e (by rw [k_lcmp_0.mp q]; rfl)), decide_eq_false e]
      rfl
  | k + 1, i, hk, c, h, ft, hc, hx, hy, ht => by
    have e8 : (8 : Int32) = nI 8 := rfl
    rw [q_Sums_difference_5, e8, if_pos (nI_lt (by omega) (by decide)), hx.rd (Nat.le_refl _) (by omega), Option.bind_some, hy.rd (Nat.le_refl _) (by omega), Option.bind_some, dwI_at _ ht (by omega) (by decide), Option.bind_some, nI_1]
    have h1 := w32_lt (X i)
    have h2 := w32_lt (Y i)
    have hs : (c + ((Int32.toInt64 (X i) &&& 4294967295) - (Int32.toInt64 (Y i) &&& 4294967295))).toInt = c.toInt + ((w32 (X i) : Int) - w32 (Y i)) := by
      rw [Int64.toInt_add, Int64.toInt_sub, lw_int, lw_int]
      rw [Int.bmod_eq_of_le (n := (w32 (X i) : Int) - w32 (Y i)) (by omega) (by omega), Int.bmod_eq_of_le (by omega) (by omega)]
    generalize c + ((Int32.toInt64 (X i) &&& 4294967295) - (Int32.toInt64 (Y i) &&& 4294967295)) = s at hs
    have hc1 : (k_lshr s 32).toInt = s.toInt / 4294967296 := lT_s32 s
    have hd : (w32 (Int64.toInt32 s) : Int) = s.toInt - 4294967296 * (s.toInt / 4294967296) := by
      have h3 := w32_l2i s
      have h4 := uN_int s
      have h5 := uN_lt s
      split at h4 <;> omega
    obtain ⟨ft', c', h3, h4, h5⟩ := lp_diff k (i + 1) (by omega) (k_lshr s 32) (hU h t (eI 8 (upd ft i (Int64.toInt32 s)))) (upd ft i (Int64.toInt32 s)) (by omega) (hx.up ht) (hy.up ht) (hU_s _ _ _)
    refine ⟨ft', c', h3, by rw [h4, hU_u], ?_⟩
    rw [wv_upd, wv_s X i, wv_s Y i, Nat.pow_succ] at h5
    generalize 4294967296 ^ i = P at h5 ⊢
    have ec : ((P * 4294967296 : Nat) : Int) = (P : Int) * 4294967296 := by omega
    rw [ec] at h5
    have hm : (w32 (Int64.toInt32 s) : Int) * P + (k_lshr s 32).toInt * ((P : Int) * 4294967296) = c.toInt * P + ((w32 (X i) : Int) * P - (w32 (Y i) : Int) * P) := by
      have e1 : (k_lshr s 32).toInt * ((P : Int) * 4294967296) = (4294967296 * (k_lshr s 32).toInt) * P := by
        rw [Int.mul_comm (P : Int), ← Int.mul_assoc, Int.mul_comm _ (4294967296 : Int)]
      rw [e1, ← Int.add_mul, ← Int.sub_mul, ← Int.add_mul]
      congr 1
      omega
    omega
theorem sp_diff {h : dzH} {x y t vx vy : Nat} (hx : row8 h x vx) (hy : row8 h y vy) (ht : rowN h t 8) : ∃ h' v, c_Sums_difference x y t h = some (bI (decide (vy ≤ vx)), h') ∧ row8 h' t v ∧ (vy ≤ vx → v = vx - vy) ∧ fr h h' (fun q => q = t) := by
  obtain ⟨X, hx1, hx2⟩ := hx
  obtain ⟨Y, hy1, hy2⟩ := hy
  obtain ⟨ft, ht⟩ := ht
  obtain ⟨ft', c', hc, h1, h2⟩ := lp_diff 8 0 rfl 0 h ft (Or.inl rfl) (rdw.of hx1 (by decide) (by decide)) (rdw.of hy1 (by decide) (by decide)) ht
  have h3 := wv_lt8 ft'
  have h5 : vx < B8 := by rw [← hx2]; exact wv_lt8 X
  have h6 : vy < B8 := by rw [← hy2]; exact wv_lt8 Y
  have e0 : (0 : Int64).toInt = 0 := rfl
  rw [wv_0, wv_0, wv_0, hx2, hy2, e0] at h2
  have e : decide (c' = 0) = decide (vy ≤ vx) := by
    rcases hc with rfl | rfl
    · rw [decide_eq_true rfl, decide_eq_true (by omega)]
    · rw [decide_eq_false (by decide), decide_eq_false (by omega)]
  refine ⟨hU h t (eI 8 ft'), wv ft' 8, ?_, ⟨ft', hU_s _ _ _, rfl⟩, fun hle => ?_, fr.up _ _ _⟩
  · rw [nI_0] at h1
    rw [cc_Sums_difference, q_Sums_difference_0, h1, e]
    rfl
  · rcases hc with rfl | rfl
    · omega
    · omega
