/-! Sums: used words, copies, comparing, sums, differences -/
def bI (b : Bool) : Int32 := if b = true then 1 else 0
theorem bI_t : bI true = 1 := rfl
theorem bI_f : bI false = 0 := rfl
theorem bI_0 {b : Bool} : bI b = 0 ↔ b = false := by cases b <;> decide
theorem bI_1 {b : Bool} : bI b = 1 ↔ b = true := by cases b <;> decide
theorem dzB01_b (b : Bool) : dzB01 (bI b) = some (bI b) := by cases b <;> rfl
/-- how many words are used -/
def uw (f : Nat → Int32) : Nat → Nat
  | 0 => 0
  | n + 1 => if f n = 0 then uw f n else n + 1
theorem uw_s (f : Nat → Int32) (n : Nat) : uw f (n + 1) = if f n = 0 then uw f n else n + 1 := rfl
theorem uw_le (f : Nat → Int32) : ∀ n, uw f n ≤ n
  | 0 => Nat.le_refl _
  | n + 1 => by
    unfold uw
    split
    · have := uw_le f n; omega
    · omega
theorem uw_zero (f : Nat → Int32) : ∀ n i, uw f n ≤ i → i < n → f i = 0
  | 0, i, _, h => by omega
  | n + 1, i, h1, h2 => by
    unfold uw at h1
    split at h1
    · rename_i e
      by_cases hi : i = n
      · rw [hi]; exact e
      · exact uw_zero f n i h1 (by omega)
    · omega
theorem uw_top (f : Nat → Int32) : ∀ n, 0 < uw f n → f (uw f n - 1) ≠ 0
  | 0, h => by simp [uw] at h
  | n + 1, h => by
    unfold uw at h ⊢
    split at h
    · rename_i e
      rw [if_pos e]
      exact uw_top f n h
    · rename_i e
      rw [if_neg e]
      exact e
theorem wv_uw (f : Nat → Int32) (n : Nat) : wv f n = wv f (uw f n) := pv_ext (uw_le f n) (fun i h1 h2 => by rw [uw_zero f n i h1 h2]; rfl)
theorem wv_lt_uw (f : Nat → Int32) (n : Nat) : wv f n < 4294967296 ^ uw f n := by rw [wv_uw]; exact wv_lt f _
theorem wv_ge_uw (f : Nat → Int32) (n : Nat) (h : 0 < uw f n) : 4294967296 ^ (uw f n - 1) ≤ wv f n := by
  have h1 := pv_ge (B := 4294967296) (d := fun i => w32 (f i)) (k := uw f n - 1) (n := n) (by have := uw_le f n; omega)
  have h2 : 1 ≤ w32 (f (uw f n - 1)) := by
    rcases Nat.eq_zero_or_pos (w32 (f (uw f n - 1))) with h3 | h3
    · exact absurd (w32_eq0.mpr h3) (uw_top f n h)
    · exact h3
  have h3 : 1 * 4294967296 ^ (uw f n - 1) ≤ w32 (f (uw f n - 1)) * 4294967296 ^ (uw f n - 1) := Nat.mul_le_mul_right _ h2
  rw [Nat.one_mul] at h3
  exact Nat.le_trans h3 h1
theorem uw_0 (f : Nat → Int32) (n : Nat) : uw f n = 0 ↔ wv f n = 0 := by
  constructor
  · intro h; rw [wv_uw, h]; rfl
  · intro h
    rcases Nat.eq_zero_or_pos (uw f n) with h1 | h1
    · exact h1
    · have h2 := wv_ge_uw f n h1
      have h3 : 0 < 4294967296 ^ (uw f n - 1) := Nat.pow_pos (by decide)
      omega
theorem lp_used {h : dzH} {a n : Nat} {f : Nat → Int32} (ha : h.2 a = some (eI n f)) (hn : n < 2147483648) : ∀ i, i ≤ n → dzF 19 3 [(0, .ref a), (1, .int (nI i))] [] (0, 0) h = some (some (.int (nI (uw f i))), h)
  | 0, _ => by
    rw [q_Sums_usedWords_3, if_pos (by decide)]
    rfl
  | i + 1, hi => by
    rw [q_Sums_usedWords_3, if_neg (nI_nle (by omega) (by omega)), nI_pred, drI_at ha (by omega) hn, Option.bind_some]
    by_cases e : f i = 0
    · rw [if_pos e, pk_m1, lp_used ha hn i (by omega), uw_s, if_pos e]
    · rw [if_neg e, uw_s, if_neg e]
theorem sp_used {h : dzH} {a n : Nat} {f : Nat → Int32} (ha : h.2 a = some (eI n f)) (hn : n < 2147483648) : c_Sums_usedWords a h = some (nI (uw f n), h) := by
  rw [cc_Sums_usedWords, q_Sums_usedWords_0, dln_at ha, Option.bind_some, lp_used ha hn n (Nat.le_refl _)]
  rfl
theorem sp_isZero {h : dzH} {a n : Nat} {f : Nat → Int32} (ha : h.2 a = some (eI n f)) (hn : n < 2147483648) : c_Sums_isZero a h = some (bI (decide (wv f n = 0)), h) := by
  rw [cc_Sums_isZero, q_Sums_isZero_0, sp_used ha hn, Option.bind_some]
  dsimp only
  by_cases e : wv f n = 0
  · rw [if_pos (by rw [(uw_0 f n).mpr e]; rfl), decide_eq_true e]
    rfl
  · have h1 : uw f n ≠ 0 := fun q => e ((uw_0 f n).mp q)
    rw [if_neg (nI_ne0 (by omega) (by have := uw_le f n; omega)), decide_eq_false e]
    rfl
-- copies
theorem sp_copy {h : dzH} {a b n m : Nat} {f g : Nat → Int32} (ha : h.2 a = some (eI n f)) (hb : h.2 b = some (eI m g)) (hn : 8 ≤ n) (hm : 8 ≤ m) : c_Sums_copy a b h = some (hU h b (eI m (fun i => if i < 8 then f i else g i))) := by
  rw [cc_Sums_copy, q_Sums_copy_0, dcp_at ha hb hn hm, Option.bind_some]
  rfl
theorem sp_copy8 {h : dzH} {a b v : Nat} (ha : row8 h a v) (hb : rowN h b 8) : ∃ h', c_Sums_copy a b h = some h' ∧ row8 h' b v ∧ fr h h' (fun q => q = b) := by
  obtain ⟨f, h1, h2⟩ := ha
  obtain ⟨g, h3⟩ := hb
  refine ⟨_, sp_copy h1 h3 (by omega) (by omega), ⟨_, hU_s _ _ _, ?_⟩, fr.up _ _ _⟩
  rw [← h2]
  exact wv_congr (fun i hi => if_pos hi)
-- filling
theorem lp_fill {a n : Nat} {x : Int32} (hn : n < 2147483648) : ∀ (k i : Nat), i + k = n → ∀ (h : dzH) (f : Nat → Int32), h.2 a = some (eI n f) → dzF 20 5 [(0, .ref a), (1, .int x), (2, .int (nI i)), (3, .int (nI n))] [] (0, 0) h = some (none, hU h a (eI n (fun j => if i ≤ j ∧ j < n then x else f j)))
  | 0, i, hk, h, f, ha => by
    rw [q_Arrays_fill_5, if_neg (nI_nlt (by omega) (by omega))]
    have e : (fun j => if i ≤ j ∧ j < n then x else f j) = f := by
      funext j
      rw [if_neg (by omega)]
    rw [e, hU_id ha]
  | k + 1, i, hk, h, f, ha => by
    rw [q_Arrays_fill_5, if_pos (nI_lt (by omega) (by omega)), dwI_at x ha (by omega) hn, Option.bind_some, nI_1, lp_fill hn k (i + 1) (by omega) _ _ (hU_s _ _ _), hU_u]
    have e : (fun j => if i + 1 ≤ j ∧ j < n then x else upd f i x j) = (fun j => if i ≤ j ∧ j < n then x else f j) := by
      funext j
      by_cases h1 : j = i
      · subst h1
        rw [if_neg (by omega), if_pos (by omega)]
        exact pk_us
      · by_cases h2 : i + 1 ≤ j ∧ j < n
        · rw [if_pos h2, if_pos (by omega)]
        · rw [if_neg h2, if_neg (by omega)]
          exact pk_un h1
    rw [e]
theorem sp_fill {h : dzH} {a n : Nat} {f : Nat → Int32} (x : Int32) (ha : h.2 a = some (eI n f)) (hn : n < 2147483648) : c_Arrays_fill a x h = some (hU h a (eI n (fun j => if j < n then x else f j))) := by
  rw [cc_Arrays_fill, q_Arrays_fill_0, dln_at ha, Option.bind_some]
  have h1 := lp_fill (a := a) (x := x) hn n 0 (by omega) h f ha
  rw [nI_0] at h1
  rw [h1]
  have e : (fun j => if 0 ≤ j ∧ j < n then x else f j) = (fun j => if j < n then x else f j) := by
    funext j
    by_cases h2 : j < n
    · rw [if_pos ⟨Nat.zero_le _, h2⟩, if_pos h2]
    · rw [if_neg (by omega), if_neg h2]
  rw [e]
  rfl
theorem wv_small (x : Int32) (g : Nat → Int32) : ∀ n, (∀ j, j < n → 0 < j → g j = 0) → 0 < n → g 0 = x → wv g n = w32 x
  | 0, _, h, _ => by omega
  | 1, _, _, h => by
    rw [wv_s, wv_0, h]
    simp
  | n + 2, h1, _, h => by
    rw [wv_s, wv_small x g (n + 1) (fun j hj h0 => h1 j (by omega) h0) (by omega) h, h1 (n + 1) (by omega) (by omega)]
    simp [w32_0]
theorem sp_setSmall {h : dzH} {a n : Nat} {f : Nat → Int32} (x : Int32) (ha : h.2 a = some (eI n f)) (h0 : 0 < n) (hn : n < 2147483648) : ∃ g, c_Sums_setSmall a x h = some (hU h a (eI n g)) ∧ g 0 = x ∧ (∀ j, j < n → 0 < j → g j = 0) := by
  refine ⟨upd (fun j => if j < n then 0 else f j) 0 x, ?_, pk_us, fun j hj h1 => ?_⟩
  · rw [cc_Sums_setSmall, q_Sums_setSmall_0, sp_fill 0 ha hn, Option.bind_some]
    have e := dwI_at (h := hU h a (eI n (fun j => if j < n then (0 : Int32) else f j))) (j := 0) x (hU_s _ _ _) h0 hn
    rw [nI_0] at e
    rw [e, Option.bind_some, hU_u]
    rfl
  · rw [pk_un (by omega), if_pos hj]
theorem sp_setSmall8 {h : dzH} {a : Nat} (x : Int32) (ha : rowN h a 8) : ∃ h', c_Sums_setSmall a x h = some h' ∧ row8 h' a (w32 x) ∧ fr h h' (fun q => q = a) := by
  obtain ⟨f, ha⟩ := ha
  obtain ⟨g, h1, h2, h3⟩ := sp_setSmall x ha (by decide) (by decide)
  exact ⟨_, h1, ⟨g, hU_s _ _ _, wv_small x g 8 h3 (by decide) h2⟩, fr.up _ _ _⟩
-- comparing
def ordI (x y : Nat) : Int32 := if x < y then -1 else if x = y then 0 else 1
theorem ordI_lt {x y : Nat} : ordI x y < 0 ↔ x < y := by
  unfold ordI
  by_cases h : x < y
  · rw [if_pos h]; exact ⟨fun _ => h, fun _ => by decide⟩
  · rw [if_neg h]
    by_cases h2 : x = y
    · rw [if_pos h2]; exact ⟨fun q => absurd q (by decide), fun q => absurd q h⟩
    · rw [if_neg h2]; exact ⟨fun q => absurd q (by decide), fun q => absurd q h⟩
theorem ordI_0 {x y : Nat} : ordI x y = 0 ↔ x = y := by
  unfold ordI
  by_cases h : x < y
  · rw [if_pos h]; exact ⟨fun q => absurd q (by decide), fun q => by omega⟩
  · rw [if_neg h]
    by_cases h2 : x = y
    · rw [if_pos h2]; exact ⟨fun _ => h2, fun _ => rfl⟩
    · rw [if_neg h2]; exact ⟨fun q => absurd q (by decide), fun q => absurd q h2⟩
theorem ordI_le {x y : Nat} : ordI x y ≤ 0 ↔ x ≤ y := by
  unfold ordI
  by_cases h : x < y
  · rw [if_pos h]; exact ⟨fun _ => by omega, fun _ => by decide⟩
  · rw [if_neg h]
    by_cases h2 : x = y
    · rw [if_pos h2]; exact ⟨fun _ => by omega, fun _ => by decide⟩
    · rw [if_neg h2]; exact ⟨fun q => absurd q (by decide), fun q => by omega⟩
theorem lw_int (x : Int32) : (Int32.toInt64 x &&& 4294967295).toInt = (w32 x : Int) := by
  rw [uN_int, uN_lw]
  have := w32_lt x
  rw [if_pos (by omega)]
theorem lp_order {h : dzH} {a b n m : Nat} {f g : Nat → Int32} (ha : h.2 a = some (eI n f)) (hb : h.2 b = some (eI m g)) (hn : 8 ≤ n) (hm : 8 ≤ m) (hn2 : n < 2147483648) (hm2 : m < 2147483648) : ∀ i, i ≤ 8 → (∀ j, i ≤ j → j < 8 → f j = g j) → dzF 42 3 [(0, .ref a), (1, .ref b), (2, .int (nI i - 1))] [] (0, 0) h = some (some (.int (ordI (wv f 8) (wv g 8))), h)
  | 0, _, he => by
    rw [q_Sums_order_3, if_pos (by decide), ordI_0.mpr (wv_congr (fun i hi => he i (Nat.zero_le _) hi))]
  | i + 1, hi, he => by
    rw [nI_pred, q_Sums_order_3, if_neg (nI_pos (by omega)), drI_at ha (by omega) hn2, Option.bind_some, drI_at hb (by omega) hm2, Option.bind_some]
    by_cases e : f i = g i
    · rw [if_pos e]
      have e2 : nI i + (-1) = nI i - 1 := by rw [Int32.sub_eq_add_neg]
      rw [e2]
      exact lp_order ha hb hn hm hn2 hm2 i (by omega) (fun j h1 h2 => by
        by_cases hj : j = i
        · rw [hj]; exact e
        · exact he j (by omega) h2)
    · rw [if_neg e, Option.bind_some, Option.bind_some]
      have hne : w32 (f i) ≠ w32 (g i) := fun q => e (w32_inj q)
      have hk : k_lcmp (Int32.toInt64 (f i) &&& 4294967295) (Int32.toInt64 (g i) &&& 4294967295) < 0 ↔ (w32 (f i) : Int) < w32 (g i) := by
        rw [k_lcmp_lt, lw_int, lw_int]
      rcases Nat.lt_or_ge (w32 (f i)) (w32 (g i)) with h1 | h1
      · have h2 : wv f 8 < wv g 8 := pv_lex (k := i) (by omega) (fun j _ => w32_lt (f j)) (fun j h3 h4 => by rw [he j (by omega) h4]) h1
        rw [if_pos (hk.mpr (by omega))]
        unfold ordI
        rw [if_pos h2]
      · have h2 : wv g 8 < wv f 8 := pv_lex (k := i) (by omega) (fun j _ => w32_lt (g j)) (fun j h3 h4 => by rw [he j (by omega) h4]) (by omega)
        rw [if_neg (fun q => by have := hk.mp q; omega)]
        unfold ordI
        rw [if_neg (by omega), if_neg (by omega)]
theorem sp_order {h : dzH} {a b n m : Nat} {f g : Nat → Int32} (ha : h.2 a = some (eI n f)) (hb : h.2 b = some (eI m g)) (hn : 8 ≤ n) (hm : 8 ≤ m) (hn2 : n < 2147483648) (hm2 : m < 2147483648) : c_Sums_order a b h = some (ordI (wv f 8) (wv g 8), h) := by
  rw [cc_Sums_order, q_Sums_order_0]
  have h1 := lp_order ha hb hn hm hn2 hm2 8 (Nat.le_refl _) (fun j h1 h2 => by omega)
  have e : nI 8 - 1 = 7 := by decide
  rw [e] at h1
  rw [h1]
  rfl
theorem sp_order8 {h : dzH} {a b v w : Nat} (ha : row8 h a v) (hb : row8 h b w) : c_Sums_order a b h = some (ordI v w, h) := by
  obtain ⟨f, h1, h2⟩ := ha
  obtain ⟨g, h3, h4⟩ := hb
  rw [sp_order h1 h3 (by decide) (by decide) (by decide) (by decide), h2, h4]
