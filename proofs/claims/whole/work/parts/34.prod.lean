/-! Sums: products -/
def sumsO (a : Nat) (dw sh : Int32) : dzE := eO 6 [.ref (a + 1), .ref (a + 2), .ref (a + 3), .int dw, .int sh, .ref (a + 4), .ref (a + 5), .ref (a + 6), .ref (a + 7)]
/-- a Sums object at a, its rows behind it -/
def SumsOk (a : Nat) (h : dzH) : Prop := (∃ dw sh, h.2 a = some (sumsO a dw sh)) ∧ rowN h (a + 1) 17 ∧ rowN h (a + 2) 17 ∧ ∀ k, 3 ≤ k → k ≤ 7 → rowN h (a + k) 8
/-- its cells -/
def inS (a q : Nat) : Prop := a ≤ q ∧ q ≤ a + 7
theorem mulB {a b : Nat} (ha : a < 4294967296) (hb : b < 4294967296) : a * b ≤ 18446744065119617025 := by
  have h : a * b ≤ 4294967295 * 4294967295 := Nat.mul_le_mul (by omega) (by omega)
  omega
theorem wv_mid {f : Nat → Int32} {q : Nat} {d : Int32} : ∀ {n : Nat}, q < n → wv (upd f q d) n + w32 (f q) * 4294967296 ^ q = wv f n + w32 d * 4294967296 ^ q
  | 0, h => by omega
  | n + 1, h => by
    rw [wv_s, wv_s]
    by_cases e : q = n
    · subst e
      rw [pk_us, wv_congr (f := upd f q d) (g := f) (n := q) (fun i hi => pk_un (by omega))]
      omega
    · have ih := wv_mid (f := f) (q := q) (d := d) (n := n) (by omega)
      rw [pk_un (by omega)]
      omega
theorem lp_mul1 {s x y w i yw : Nat} {so : List Value} {xw : Int32} {word : Int64} {Y : Nat → Int32} (hso : so[0]? = some (.ref w)) (hws : w ≠ s) (hwy : w ≠ y) (hiy : i + yw < 17) (hy8 : yw ≤ 8) (hword : uN word < 4294967296) : ∀ (k j : Nat), j + k = yw → ∀ (c : Int64) (h : dzH) (W : Nat → Int32), uN c < 4294967296 → h.2 s = some (eO 6 so) → h.2 w = some (eI 17 W) → h.2 y = some (eI 8 Y) →
    ∃ W' : Nat → Int32, dzF 21 45 [(0, .ref s), (1, .ref x), (2, .ref y), (3, .int xw), (4, .int (nI yw)), (5, .int (nI i)), (6, .long word), (8, .long c), (10, .int (nI j))] [] (0, 0) h = dzF 21 22 [(0, .ref s), (1, .ref x), (2, .ref y), (3, .int xw), (4, .int (nI yw)), (5, .int (nI (i + 1)))] [] (0, 0) (hU h w (eI 17 W')) ∧ (∀ q, i + yw + 1 ≤ q → W' q = W q) ∧
      wv W' (i + yw + 1) + uN word * wv Y j * 4294967296 ^ i = wv W (i + yw) + uN c * 4294967296 ^ (i + j) + uN word * wv Y yw * 4294967296 ^ i
  | 0, j, hk, c, h, W, hc, hs, hw, hy => by
    have ej : j = yw := by omega
    subst ej
    refine ⟨upd W (i + j) (Int64.toInt32 c), ?_, fun q hq => pk_un (by omega), ?_⟩
    · rw [q_Sums_setWideToProduct_45, if_neg (nI_nlt (Nat.le_refl _) (by omega)), dgA_at hs hso, Option.bind_some, nI_add, dwI_at _ hw (by omega) (by decide), Option.bind_some, nI_1]
    · rw [wv_upd, w32_l2i, Nat.mod_eq_of_lt hc]
  | k + 1, j, hk, c, h, W, hc, hs, hw, hy => by
    rw [q_Sums_setWideToProduct_45, if_pos (nI_lt (by omega) (by omega)), drI_at hy (by omega) (by decide), Option.bind_some, dgA_at hs hso, Option.bind_some, nI_add, drI_at hw (by omega) (by decide), Option.bind_some, Option.bind_some, dwI_at _ hw (by omega) (by decide), Option.bind_some, nI_1]
    have h1 := w32_lt (Y j)
    have h2 := w32_lt (W (i + j))
    have h3 := mulB hword h1
    have hsum : uN (c + ((word * (Int32.toInt64 (Y j) &&& 4294967295)) + (Int32.toInt64 (W (i + j)) &&& 4294967295))) = uN c + (uN word * w32 (Y j) + w32 (W (i + j))) := by
      rw [uN_add, uN_add, uN_mul, uN_lw, uN_lw]
      omega
    generalize c + ((word * (Int32.toInt64 (Y j) &&& 4294967295)) + (Int32.toInt64 (W (i + j)) &&& 4294967295)) = z at hsum
    have hc1 : uN (k_lushr z 32) = uN z / 4294967296 := uN_s32 z
    have hd : w32 (Int64.toInt32 z) = uN z % 4294967296 := w32_l2i z
    obtain ⟨W', g1, g2, g3⟩ := lp_mul1 (x := x) (xw := xw) (so := so) hso hws hwy hiy hy8 hword k (j + 1) (by omega) (k_lushr z 32) (hU h w (eI 17 (upd W (i + j) (Int64.toInt32 z)))) (upd W (i + j) (Int64.toInt32 z)) (by omega) (by rw [hU_n (Ne.symm hws)]; exact hs) (hU_s _ _ _) (by rw [hU_n (Ne.symm hwy)]; exact hy)
    refine ⟨W', by rw [g1, hU_u], fun q hq => by rw [g2 q hq]; exact pk_un (by omega), ?_⟩
    have hmid := wv_mid (f := W) (q := i + j) (d := Int64.toInt32 z) (n := i + yw) (by omega)
    rw [wv_s Y j, ← Nat.add_assoc, Nat.pow_succ] at g3
    rw [Nat.pow_add] at g3 hmid ⊢
    generalize 4294967296 ^ i = P at g3 hmid ⊢
    generalize 4294967296 ^ j = R at g3 hmid ⊢
    have e1 : uN (k_lushr z 32) * (P * R * 4294967296) = (4294967296 * uN (k_lushr z 32)) * (P * R) := by
      rw [Nat.mul_comm (P * R), ← Nat.mul_assoc, Nat.mul_comm (uN _)]
    have e2 : uN word * (wv Y j + w32 (Y j) * R) * P = uN word * wv Y j * P + (uN word * w32 (Y j)) * (P * R) := by
      rw [Nat.mul_add, Nat.add_mul]
      congr 1
      simp only [Nat.mul_comm, Nat.mul_left_comm, Nat.mul_assoc]
    have e3 : w32 (Int64.toInt32 z) * (P * R) + (4294967296 * uN (k_lushr z 32)) * (P * R) = uN c * (P * R) + ((uN word * w32 (Y j)) * (P * R) + w32 (W (i + j)) * (P * R)) := by
      rw [← Nat.add_mul, ← Nat.add_mul, ← Nat.add_mul]
      congr 1
      omega
    rw [e1, e2] at g3
    omega
theorem lp_mul2 {s x y w xw yw : Nat} {so : List Value} {X Y : Nat → Int32} (hso : so[0]? = some (.ref w)) (hws : w ≠ s) (hwx : w ≠ x) (hwy : w ≠ y) (hx8 : xw ≤ 8) (hy8 : yw ≤ 8) : ∀ (k i : Nat), i + k = xw → ∀ (h : dzH) (W : Nat → Int32), (∀ q, i + yw ≤ q → q < 17 → W q = 0) → wv W 17 = wv X i * wv Y yw → h.2 s = some (eO 6 so) → h.2 w = some (eI 17 W) → h.2 x = some (eI 8 X) → h.2 y = some (eI 8 Y) →
    ∃ W' : Nat → Int32, dzF 21 22 [(0, .ref s), (1, .ref x), (2, .ref y), (3, .int (nI xw)), (4, .int (nI yw)), (5, .int (nI i))] [] (0, 0) h = some (none, hU h w (eI 17 W')) ∧ wv W' 17 = wv X xw * wv Y yw ∧ (∀ q, xw + yw ≤ q → q < 17 → W' q = 0)
  | 0, i, hk, h, W, hz, hv, hs, hw, hx, hy => by
    have ei : i = xw := by omega
    subst ei
    refine ⟨W, ?_, hv, hz⟩
    rw [q_Sums_setWideToProduct_22, if_neg (nI_nlt (Nat.le_refl _) (by omega)), hU_id hw]
  | k + 1, i, hk, h, W, hz, hv, hs, hw, hx, hy => by
    have e0 : (0 : Int32) = nI 0 := rfl
    rw [q_Sums_setWideToProduct_22, if_pos (nI_lt (by omega) (by omega)), drI_at hx (by omega) (by decide), Option.bind_some, e0]
    have hwd : uN (Int32.toInt64 (X i) &&& 4294967295) = w32 (X i) := uN_lw _
    obtain ⟨W', g1, g2, g3⟩ := lp_mul1 (x := x) (xw := nI xw) (so := so) (Y := Y) (i := i) (yw := yw) (word := Int32.toInt64 (X i) &&& 4294967295) hso hws hwy (by omega) hy8 (by rw [hwd]; exact w32_lt _) yw 0 (by omega) 0 h W (by decide) hs hw hy
    rw [hwd, wv_0, Nat.mul_zero, Nat.zero_mul, Nat.add_zero, show uN 0 = 0 from rfl, Nat.zero_mul, Nat.add_zero] at g3
    have hW17 : wv W 17 = wv W (i + yw) := pv_ext (by omega) (fun q h1 h2 => by rw [hz q h1 h2]; rfl)
    have hW'17 : wv W' 17 = wv W' (i + yw + 1) := pv_ext (by omega) (fun q h1 h2 => by rw [g2 q h1, hz q (by omega) h2]; rfl)
    obtain ⟨W2, k1, k2, k3⟩ := lp_mul2 (so := so) (X := X) (Y := Y) hso hws hwx hwy hx8 hy8 k (i + 1) (by omega) (hU h w (eI 17 W')) W' (fun q h1 h2 => by rw [g2 q (by omega)]; exact hz q (by omega) h2) (by
        rw [hW'17, g3, ← hW17, hv, wv_s X i, Nat.add_mul]
        congr 1
        simp only [Nat.mul_comm, Nat.mul_left_comm, Nat.mul_assoc]) (by rw [hU_n (Ne.symm hws)]; exact hs) (hU_s _ _ _) (by rw [hU_n (Ne.symm hwx)]; exact hx) (by rw [hU_n (Ne.symm hwy)]; exact hy)
    refine ⟨W2, ?_, k2, k3⟩
    rw [g1, k1, hU_u]
theorem sp_setProd {h : dzH} {a x y vx vy : Nat} (hs : SumsOk a h) (hx : row8 h x vx) (hy : row8 h y vy) (nx : x ≠ a + 1) (ny : y ≠ a + 1) : ∃ W, c_Sums_setWideToProduct a x y h = some (hU h (a + 1) (eI 17 W)) ∧ wv W 17 = vx * vy ∧ W 16 = 0 := by
  obtain ⟨⟨dw, sh, ho⟩, ⟨W0, hw⟩, -, -⟩ := hs
  obtain ⟨X, hx1, hx2⟩ := hx
  obtain ⟨Y, hy1, hy2⟩ := hy
  have hux := uw_le X 8
  have huy := uw_le Y 8
  have hso : ([.ref (a + 1), .ref (a + 2), .ref (a + 3), .int dw, .int sh, .ref (a + 4), .ref (a + 5), .ref (a + 6), .ref (a + 7)] : List Value)[0]? = some (.ref (a + 1)) := rfl
  have hz : ∀ q, q < 17 → (fun j => if j < 17 then (0 : Int32) else W0 j) q = 0 := fun q hq => if_pos hq
  obtain ⟨W', k1, k2, k3⟩ := lp_mul2 (X := X) (Y := Y) (x := x) (y := y) (s := a) (xw := uw X 8) (yw := uw Y 8) hso (by omega) (by omega) (by omega) hux huy (uw X 8) 0 (by omega) (hU h (a + 1) (eI 17 (fun j => if j < 17 then (0 : Int32) else W0 j))) _ (fun q _ hq => hz q hq) (by
      rw [wv_0, Nat.zero_mul]
      exact pv_zeros (fun q hq => by rw [hz q hq]; rfl)) (by rw [hU_n (by omega)]; exact ho) (hU_s _ _ _) (by rw [hU_n (by omega)]; exact hx1) (by rw [hU_n (by omega)]; exact hy1)
  refine ⟨W', ?_, by rw [k2, ← wv_uw, ← wv_uw, hx2, hy2], k3 16 (by omega) (by decide)⟩
  rw [cc_Sums_setWideToProduct _ _ _ _ ho, q_Sums_setWideToProduct_0, sp_used hx1 (by decide), Option.bind_some]
  dsimp only
  rw [sp_used hy1 (by decide), Option.bind_some]
  dsimp only
  rw [dgA_at ho hso, Option.bind_some, sp_fill 0 hw (by decide), Option.bind_some]
  rw [nI_0] at k1
  rw [k1, hU_u]
  rfl
theorem SumsOk.keep {a : Nat} {h h' : dzH} (hs : SumsOk a h) (hf : ∀ q, inS a q → h'.2 q = h.2 q) : SumsOk a h' := by
  obtain ⟨⟨dw, sh, ho⟩, h1, h2, h3⟩ := hs
  exact ⟨⟨dw, sh, by rw [hf a ⟨by omega, by omega⟩]; exact ho⟩, h1.eq (hf _ ⟨by omega, by omega⟩), h2.eq (hf _ ⟨by omega, by omega⟩), fun k hk1 hk2 => (h3 k hk1 hk2).eq (hf _ ⟨by omega, by omega⟩)⟩
theorem SumsOk.row1 {a n : Nat} {h : dzH} {W : Nat → Int32} (hs : SumsOk a h) (h1 : 1 ≤ n) (h7 : n ≤ 7) (hl : (n ≤ 2 → ∀ m, m = 17 → True)) {m : Nat} (hm : m = if n ≤ 2 then 17 else 8) : SumsOk a (hU h (a + n) (eI m W)) := by
  obtain ⟨⟨dw, sh, ho⟩, g1, g2, g3⟩ := hs
  refine ⟨⟨dw, sh, by rw [hU_n (by omega)]; exact ho⟩, ?_, ?_, fun k hk1 hk2 => ?_⟩
  · by_cases e : n = 1
    · subst e
      exact ⟨W, by rw [hU_s, hm]; rfl⟩
    · exact g1.eq (hU_n (by omega))
  · by_cases e : n = 2
    · subst e
      exact ⟨W, by rw [hU_s, hm]; rfl⟩
    · exact g2.eq (hU_n (by omega))
  · by_cases e : n = k
    · subst e
      exact ⟨W, by rw [hU_s, hm, if_neg (by omega)]⟩
    · exact (g3 k hk1 hk2).eq (hU_n (by omega))
theorem wv_17 {W : Nat → Int32} {n : Nat} (h : wv W 17 = n) : uw W 17 ≤ 8 ↔ n < B8 := by
  constructor
  · intro h1
    rw [← h]
    rw [← B8_eq]
    exact Nat.lt_of_lt_of_le (wv_lt_uw W 17) (Nat.pow_le_pow_right (by decide) h1)
  · intro h1
    rcases Nat.lt_or_ge 8 (uw W 17) with h2 | h2
    · have h3 := wv_ge_uw W 17 (by omega)
      have h4 : B8 ≤ 4294967296 ^ (uw W 17 - 1) := by
        rw [← B8_eq]
        exact Nat.pow_le_pow_right (by decide) (by omega)
      omega
    · exact h2
theorem sp_product {h : dzH} {a x y t vx vy : Nat} (hs : SumsOk a h) (hx : row8 h x vx) (hy : row8 h y vy) (ht : rowN h t 8) (nx : ¬ inS a x) (ny : ¬ inS a y) (nt : ¬ inS a t) : ∃ h', c_Sums_product a x y t h = some (bI (decide (vx * vy < B8)), h') ∧ SumsOk a h' ∧ (vx * vy < B8 → row8 h' t (vx * vy)) ∧ (¬ vx * vy < B8 → h'.2 t = h.2 t) ∧ fr h h' (fun q => inS a q ∨ q = t) := by
  obtain ⟨W, k1, k2, k3⟩ := sp_setProd hs hx hy (fun e => nx ⟨by omega, by omega⟩) (fun e => ny ⟨by omega, by omega⟩)
  have hs0 := hs
  obtain ⟨⟨dw, sh, ho⟩, -, -, -⟩ := hs
  obtain ⟨g, ht⟩ := ht
  have hso : ([.ref (a + 1), .ref (a + 2), .ref (a + 3), .int dw, .int sh, .ref (a + 4), .ref (a + 5), .ref (a + 6), .ref (a + 7)] : List Value)[0]? = some (.ref (a + 1)) := rfl
  unfold inS at nx ny nt
  have ho1 : (hU h (a + 1) (eI 17 W)).2 a = some (sumsO a dw sh) := by rw [hU_n (by omega)]; exact ho
  have ht1 : (hU h (a + 1) (eI 17 W)).2 t = some (eI 8 g) := by rw [hU_n (by omega)]; exact ht
  have hs1 : SumsOk a (hU h (a + 1) (eI 17 W)) := hs0.row1 (by decide) (by decide) (fun _ _ _ => trivial) rfl
  have hu := uw_le W 17
  rw [cc_Sums_product _ _ _ _ _ ho, q_Sums_product_0, k1, Option.bind_some, dgA_at ho1 hso, Option.bind_some, sp_used (hU_s _ _ _) (by decide), Option.bind_some]
  dsimp only
  have e8 : (8 : Int32) = nI 8 := rfl
  by_cases hlt : vx * vy < B8
  · have h8 := (wv_17 k2).mpr hlt
    rw [e8, if_pos (nI_le h8 (by decide)), dgA_at ho1 hso, Option.bind_some, sp_copy (hU_s _ _ _) ht1 (by decide) (by decide), Option.bind_some, decide_eq_true hlt]
    refine ⟨_, rfl, hs1.keep (fun q hq => hU_n (by unfold inS at hq; omega)), fun _ => ⟨_, hU_s _ _ _, ?_⟩, fun q => absurd hlt q, rfl, fun q hq => ?_⟩
    · rw [wv_congr (g := W) (fun i hi => if_pos hi), ← k2]
      exact (pv_ext (by decide) (fun i h1 h2 => by rw [uw_zero W 17 i (by omega) h2]; rfl)).symm
    · unfold inS at hq
      rw [hU_n (by omega), hU_n (by omega)]
  · have h8 : ¬ uw W 17 ≤ 8 := fun q => hlt ((wv_17 k2).mp q)
    rw [e8, if_neg (fun q => h8 ((nI_leI (by omega) (by decide)).mp q)), decide_eq_false hlt]
    refine ⟨_, rfl, hs1, fun q => absurd q hlt, fun _ => hU_n (by omega), rfl, fun q hq => ?_⟩
    unfold inS at hq
    rw [hU_n (by omega)]
