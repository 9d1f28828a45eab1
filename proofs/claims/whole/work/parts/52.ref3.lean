/-! the reference: division -/
theorem or16 (a : Nat) {b : Nat} (hb : b < 65536) : a * 65536 ||| b = a * 65536 + b := by
  have h := Nat.two_pow_add_eq_or_of_lt (i := 16) (b := b) hb a
  rw [Nat.mul_comm (2 ^ 16) a] at h
  exact h.symm
theorem lN_two {a b : Nat} (ha : a < 65536) (hb : b < 65536) : (k_lshl (lN a) 16 ||| lN b) = lN (a * 65536 + b) := uN_inj (by
  rw [uN_or, uN_lshl (lN a) 16 (k := 16) (by decide +kernel), uN_lNn (by omega), uN_lNn (by omega), uN_lNn (by omega), Nat.mod_eq_of_lt (by omega)]
  exact or16 a hb)
/-- n digits of slot r, from digit k on -/
def win (g : Nat → Nat) (r k n : Nat) : Nat := pv 65536 (fun i => g (40 * r + (k + i))) n
theorem win_s (g : Nat → Nat) (r k n : Nat) : win g r k (n + 1) = win g r k n + g (40 * r + (k + n)) * 65536 ^ n := rfl
theorem nv_split {g : Nat → Nat} {r k n : Nat} (hk : k + n ≤ 40) (hz : ∀ q, k + n ≤ q → q < 40 → g (40 * r + q) = 0) : nv g r = nvl g r k + 65536 ^ k * win g r k n := by
  unfold nv nvl win
  rw [pv_ext hk hz, pv_add]
theorem nvl_lt {g : Nat → Nat} (ok : okg g) (x n : Nat) : nvl g x n < 65536 ^ n := pv_lt (fun i _ => ok _)
theorem win_lt {g : Nat → Nat} (ok : okg g) (x k n : Nat) : win g x k n < 65536 ^ n := pv_lt (fun i _ => ok _)
theorem pv_hi0 {B : Nat} (hB : 0 < B) {d : Nat → Nat} {n k : Nat} (h : pv B d n < B ^ k) : ∀ q, k ≤ q → q < n → d q = 0 := fun q h1 h2 => by
  have h3 := pv_ge (B := B) (d := d) h2
  rcases Nat.eq_zero_or_pos (d q) with e | e
  · exact e
  · have h4 : B ^ k ≤ B ^ q := Nat.pow_le_pow_right hB h1
    have h5 : 1 * B ^ q ≤ d q * B ^ q := Nat.mul_le_mul_right _ e
    omega
theorem sp_Mguess {M : Nat} {h : dzH} {g : Nat → Nat} {r p top : Nat} {im : Int32} (m : MO M h g) (hr : r < 232) (hp : p + 1 < 40) (ht : top < 65536) :
    c_M_guess M (nI r) (nI (p + 1)) (nI top) im h = some (nI ((g (40 * r + (p + 1)) * 65536 + g (40 * r + p)) / (top + 1)), h) := by
  have h1 := m.ok (40 * r + (p + 1))
  have h2 := m.ok (40 * r + p)
  obtain ⟨⟨fs, ho⟩, -, -⟩ := id m
  have hne : ¬ lN (top + 1) = 0 := fun q => by
    have h3 : lN (top + 1) = lN 0 := q
    have h4 := (lN_eq (by omega) (by decide)).mp h3
    omega
  rw [cc_M_guess _ _ _ _ _ _ ho, q_M_guess_0, gM m, Option.bind_some, ix40, rM m (by omega), Option.bind_some, Option.bind_some, ← Nat.add_assoc, nI_pred, rM m (by omega), Option.bind_some, Nat.add_assoc, nI_1, nI_l (by omega), nI_l (by omega), nI_l (by omega), if_neg hne, lN_two h1 h2, pk_lDiv (by omega) (by omega) (by omega), lN_i]
  rfl
theorem lp_Mover {M r y k mm : Nat} {h : dzH} {g : Nat → Nat} (m : MO M h g) (hr : r < 232) (hy : y < 232) (hk : k + mm < 40) : ∀ i, i ≤ mm → (∀ j, i ≤ j → j < mm → g (40 * r + (k + j)) = g (40 * y + j)) →
    dzF 110 25 [(0, .ref M), (1, .int (nI r)), (2, .int (nI y)), (3, .int (nI k)), (4, .int (nI mm)), (5, .int (nI i - 1))] [] (0, 0) h = some (some (.int (bI (decide (nvl g y mm ≤ win g r k mm)))), h)
  | 0, _, he => by
    have e : nvl g y mm = win g r k mm := pv_congr (fun i hi => (he i (Nat.zero_le _) hi).symm)
    rw [q_M_isOver_25, if_pos (by decide), q_M_isOver_65, if_pos (by decide), q_M_isOver_99, decide_eq_true (Nat.le_of_eq e)]
    rfl
  | i + 1, hi, he => by
    have h1 := m.ok (40 * r + (k + i))
    have h2 := m.ok (40 * y + i)
    rw [nI_pred, q_M_isOver_25, if_neg (nI_pos (by omega)), gM m, Option.bind_some, ix40, ix40, nI_add, Nat.add_assoc, rM m (by omega), Option.bind_some, Option.bind_some, rM m (by omega), Option.bind_some]
    by_cases e : g (40 * r + (k + i)) = g (40 * y + i)
    · rw [if_pos (by rw [e])]
      have e2 : nI i + (-1) = nI i - 1 := by rw [Int32.sub_eq_add_neg]
      rw [e2]
      exact lp_Mover m hr hy hk i (by omega) (fun j h1 h2 => by
        by_cases hj : j = i
        · rw [hj]; exact e
        · exact he j (by omega) h2)
    · rw [if_neg (fun q => e ((nI_eq (by omega) (by omega)).mp q)), q_M_isOver_65, if_neg (nI_pos (by omega)), gM m, Option.bind_some, ix40, ix40, nI_add, Nat.add_assoc, rM m (by omega), Option.bind_some, Option.bind_some, rM m (by omega), Option.bind_some]
      rcases Nat.lt_or_ge (g (40 * r + (k + i))) (g (40 * y + i)) with h3 | h3
      · have h4 : win g r k mm < nvl g y mm := pv_lex (k := i) (by omega) (fun j _ => m.ok _) (fun j h3 h4 => he j (by omega) h4) h3
        rw [if_pos (nI_le (by omega) (by omega)), decide_eq_false (by omega)]
        rfl
      · have h4 : nvl g y mm < win g r k mm := pv_lex (k := i) (by omega) (fun j _ => m.ok _) (fun j h3 h4 => (he j (by omega) h4).symm) (by omega)
        rw [if_neg (fun q => e (by have := (nI_leI (by omega) (by omega)).mp q; omega)), q_M_isOver_99, decide_eq_true (by omega)]
        rfl
theorem sp_Mover {M r y k mm : Nat} {h : dzH} {g : Nat → Nat} (m : MO M h g) (hr : r < 232) (hy : y < 232) (hk : k + mm < 40) : c_M_isOver M (nI r) (nI y) (nI k) (nI mm) h = some (bI (decide (nvl g y mm ≤ win g r k (mm + 1))), h) := by
  have h1 := m.ok (40 * r + (k + mm))
  have hlt := nvl_lt m.ok y mm
  obtain ⟨⟨fs, ho⟩, -, -⟩ := id m
  rw [cc_M_isOver _ _ _ _ _ _ ho, q_M_isOver_0, gM m, Option.bind_some, ix40, nI_add, Nat.add_assoc, rM m (by omega), Option.bind_some, win_s]
  rcases Nat.eq_zero_or_pos (g (40 * r + (k + mm))) with e | e
  · rw [e, if_pos (by decide), lp_Mover m hr hy hk mm (Nat.le_refl _) (fun j h1 h2 => by omega), Nat.zero_mul, Nat.add_zero]
    rfl
  · have h2 : 1 * 65536 ^ mm ≤ g (40 * r + (k + mm)) * 65536 ^ mm := Nat.mul_le_mul_right _ e
    rw [if_neg (nI_nle e (by omega)), decide_eq_true (by omega)]
    rfl
-- taking away
theorem aw_step {r p b : Nat} (hr : r < 65536) (hp : p + b < 1152921504606846976) :
    Int64.toInt32 (((lN r - lN p) - lN b) &&& 65535) = nI (r + 65536 * ((p + b + 65535 - r) / 65536) - (p + b)) ∧ -(k_lshr ((lN r - lN p) - lN b) 16) = lN ((p + b + 65535 - r) / 65536) := by
  have h1 : uN ((lN r - lN p) - lN b) = (18446744073709551616 + r - p - b) % 18446744073709551616 := by
    rw [uN_sub, uN_sub, uN_lNn (by omega), uN_lNn (by omega), uN_lNn (by omega)]
    omega
  have h2 := uN_int ((lN r - lN p) - lN b)
  generalize (lN r - lN p) - lN b = v at h1 h2 ⊢
  constructor
  · apply w32_inj
    rw [w32_l2i, uN_a16, h1, w32_nI (by omega)]
    omega
  · apply uN_inj
    have h3 := lT_s16 v
    have h4 := uN_int (k_lshr v 16)
    have h5 := uN_lt (k_lshr v 16)
    have h6 : uN (-(k_lshr v 16)) = (18446744073709551616 - uN (k_lshr v 16)) % 18446744073709551616 := BitVec.toNat_neg _
    rw [h6, uN_lNn (by omega)]
    rw [h2] at h3
    rw [h3] at h4
    generalize uN (k_lshr v 16) = z at h4 h5 ⊢
    generalize uN v = u at h1 h4
    by_cases hs : p + b ≤ r
    · have e1 : (18446744073709551616 + r - p - b) % 18446744073709551616 = r - p - b := by omega
      rw [if_pos (by omega)] at h4
      split at h4 <;> omega
    · have e1 : (18446744073709551616 + r - p - b) % 18446744073709551616 = 18446744073709551616 + r - p - b := by omega
      rw [if_neg (by omega)] at h4
      split at h4 <;> omega
/-- the divisor's digits, and a 0 behind them -/
def yv (g : Nat → Nat) (y mm n : Nat) : Nat := pv 65536 (fun i => if i < mm then g (40 * y + i) else 0) n
theorem yv_s (g : Nat → Nat) (y mm n : Nat) : yv g y mm (n + 1) = yv g y mm n + (if n < mm then g (40 * y + n) else 0) * 65536 ^ n := rfl
theorem yv_m (g : Nat → Nat) (y mm : Nat) : yv g y mm (mm + 1) = nvl g y mm := by
  rw [yv_s, if_neg (by omega), Nat.zero_mul, Nat.add_zero]
  exact pv_congr (fun i hi => if_pos hi)
theorem gu_wl (g : Nat → Nat) (x k i v : Nat) : (fun j => gu g (40 * x + (k + i)) v (40 * x + (k + j))) = gu (fun j => g (40 * x + (k + j))) i v := by
  funext j
  by_cases e : j = i
  · subst e
    rw [gu_s, gu_s]
  · rw [gu_n (by omega), gu_n e]
theorem win_mid {g : Nat → Nat} {x k i v n : Nat} (hi : i < n) : win (gu g (40 * x + (k + i)) v) x k n + g (40 * x + (k + i)) * 65536 ^ i = win g x k n + v * 65536 ^ i := by
  unfold win
  rw [gu_wl]
  exact pv_mid (d := fun j => g (40 * x + (k + j))) hi
theorem lp_Maway {M r y k mm many : Nat} (hr : r < 232) (hy : y < 232) (hry : r ≠ y) (hk : k + mm < 40) (hmany : many < 2147483648) : ∀ (kk i : Nat), i + kk = mm + 1 → ∀ (h : dzH) (g : Nat → Nat) (b : Nat), b ≤ 140737488355328 → MO M h g →
    ∃ g' b', dzF 109 6 [(0, .ref M), (1, .int (nI r)), (2, .int (nI y)), (3, .int (nI k)), (4, .int (nI many)), (5, .int (nI mm)), (6, .long (lN b)), (8, .int (nI i))] [] (0, 0) h = some (none, hD h M g') ∧ okg g' ∧ (∀ j, ¬ (40 * r + k ≤ j ∧ j ≤ 40 * r + (k + mm)) → g' j = g j) ∧ win g' r k (mm + 1) + many * nvl g y mm + b * 65536 ^ i = win g r k (mm + 1) + many * yv g y mm i + b' * 65536 ^ (mm + 1)
  | 0, i, hkk, h, g, b, hb, m => by
    have ei : i = mm + 1 := by omega
    subst ei
    refine ⟨g, b, ?_, m.ok, fun _ _ => rfl, by rw [yv_m]⟩
    rw [q_M_away_6, if_neg (nI_ge (by omega) (by omega)), m.id]
  | kk + 1, i, hkk, h, g, b, hb, m => by
    have h1 := m.ok (40 * r + (k + i))
    have h2 := m.ok (40 * y + i)
    generalize hd : g (40 * r + (k + i)) = d at h1
    -- the digit taken away
    have hyd : ∃ e, (if i < mm then g (40 * y + i) else 0) = e ∧ e < 65536 := ⟨_, rfl, by split <;> omega⟩
    obtain ⟨e, he, he1⟩ := hyd
    have hme : many * e ≤ 2147483648 * 65536 := Nat.mul_le_mul (by omega) (by omega)
    generalize hp : many * e = p at hme
    obtain ⟨s1, s2⟩ := aw_step (r := d) (p := p) (b := b) h1 (by omega)
    have hdig : d + 65536 * ((p + b + 65535 - d) / 65536) - (p + b) < 65536 := by omega
    have hok : okg (gu g (40 * r + (k + i)) (d + 65536 * ((p + b + 65535 - d) / 65536) - (p + b))) := m.ok.u hdig
    obtain ⟨g', b', g1, g2, g3, g4⟩ := lp_Maway hr hy hry hk hmany kk (i + 1) (by omega) (hD h M (gu g (40 * r + (k + i)) (d + 65536 * ((p + b + 65535 - d) / 65536) - (p + b)))) _ ((p + b + 65535 - d) / 65536) (by omega) (m.up hok)
    have hout : ∀ j, ¬ (40 * r + k ≤ j ∧ j ≤ 40 * r + (k + mm)) → gu g (40 * r + (k + i)) (d + 65536 * ((p + b + 65535 - d) / 65536) - (p + b)) j = g j := fun j hj => gu_n (by omega)
    refine ⟨g', b', ?_, g2, fun j hj => by rw [g3 j hj, hout j hj], ?_⟩
    · rw [q_M_away_6, if_pos (nI_le (by omega) (by omega)), gM m, Option.bind_some, ix40, nI_add, Nat.add_assoc, rM m (by omega), Option.bind_some, hd]
      by_cases hi : i < mm
      · rw [if_pos hi] at he
        rw [if_pos (nI_lt hi (by omega)), Option.bind_some, ix40, rM m (by omega), Option.bind_some, he, nI_l (by omega), nI_l (by omega), nI_l (by omega), lN_mul, hp, q_M_away_56, gM m, Option.bind_some, ix40, nI_add, Nat.add_assoc, s1, s2, wM m (by omega), Option.bind_some, nI_1, g1, hD_u]
      · rw [if_neg hi] at he
        have hp0 : (0 : Int64) = lN p := by rw [← hp, ← he, Nat.mul_zero]; rfl
        rw [if_neg (nI_nlt (by omega) (by omega)), nI_l (by omega), hp0, q_M_away_56, gM m, Option.bind_some, ix40, nI_add, Nat.add_assoc, s1, s2, wM m (by omega), Option.bind_some, nI_1, g1, hD_u]
    · have hm := win_mid (g := g) (x := r) (k := k) (i := i) (v := d + 65536 * ((p + b + 65535 - d) / 65536) - (p + b)) (n := mm + 1) (by omega)
      have hy1 : ∀ j, j < mm → gu g (40 * r + (k + i)) (d + 65536 * ((p + b + 65535 - d) / 65536) - (p + b)) (40 * y + j) = g (40 * y + j) := fun j hj => gu_n (by omega)
      have hn1 : nvl (gu g (40 * r + (k + i)) (d + 65536 * ((p + b + 65535 - d) / 65536) - (p + b))) y mm = nvl g y mm := pv_congr (fun j hj => hy1 j hj)
      have hn2 : yv (gu g (40 * r + (k + i)) (d + 65536 * ((p + b + 65535 - d) / 65536) - (p + b))) y mm (i + 1) = yv g y mm (i + 1) := pv_congr (fun j hj => by
        by_cases q : j < mm
        · rw [if_pos q, if_pos q, hy1 j q]
        · rw [if_neg q, if_neg q])
      rw [hn1, hn2, yv_s, he, show (65536 : Nat) ^ (i + 1) = 65536 ^ i * 65536 from rfl] at g4
      rw [hd] at hm
      generalize 65536 ^ i = P at g4 hm ⊢
      have e1 : (p + b + 65535 - d) / 65536 * (P * 65536) = (65536 * ((p + b + 65535 - d) / 65536)) * P := by
        rw [Nat.mul_comm P, ← Nat.mul_assoc, Nat.mul_comm _ 65536]
      have e2 : (d + 65536 * ((p + b + 65535 - d) / 65536) - (p + b)) * P + p * P + b * P = d * P + (65536 * ((p + b + 65535 - d) / 65536)) * P := by
        rw [← Nat.add_mul, ← Nat.add_mul, ← Nat.add_mul]
        congr 1
        omega
      have e3 : many * (yv g y mm i + e * P) = many * yv g y mm i + p * P := by
        rw [Nat.mul_add, ← hp, Nat.mul_assoc]
      rw [e1, e3] at g4
      generalize b' * 65536 ^ (mm + 1) = Q at g4 ⊢
      generalize (65536 * ((p + b + 65535 - d) / 65536)) * P = R at e2 g4
      generalize (d + 65536 * ((p + b + 65535 - d) / 65536) - (p + b)) * P = R2 at e2 hm
      omega
theorem sp_Maway {M r y k mm many : Nat} {h : dzH} {g : Nat → Nat} (m : MO M h g) (hr : r < 232) (hy : y < 232) (hry : r ≠ y) (hk : k + mm < 40) (hmany : many < 2147483648) (hle : many * nvl g y mm ≤ win g r k (mm + 1)) :
    ∃ g', c_M_away M (nI r) (nI y) (nI k) (nI many) (nI mm) h = some (hD h M g') ∧ okg g' ∧ (∀ j, ¬ (40 * r + k ≤ j ∧ j ≤ 40 * r + (k + mm)) → g' j = g j) ∧ win g' r k (mm + 1) = win g r k (mm + 1) - many * nvl g y mm := by
  obtain ⟨g', b', g1, g2, g3, g4⟩ := lp_Maway hr hy hry hk hmany (mm + 1) 0 (by omega) h g 0 (by decide) m
  obtain ⟨⟨fs, ho⟩, -, -⟩ := m
  refine ⟨g', ?_, g2, g3, ?_⟩
  · have e0 : (0 : Int64) = lN 0 := rfl
    rw [nI_0, ← e0] at g1
    rw [cc_M_away _ _ _ _ _ _ _ ho, q_M_away_0, g1]
    rfl
  · rw [Nat.zero_mul, Nat.add_zero, show yv g y mm 0 = 0 from rfl, Nat.mul_zero, Nat.add_zero] at g4
    have h1 := win_lt g2 r k (mm + 1)
    rcases Nat.eq_zero_or_pos b' with e | e
    · subst e
      rw [Nat.zero_mul] at g4
      omega
    · have : 1 * 65536 ^ (mm + 1) ≤ b' * 65536 ^ (mm + 1) := Nat.mul_le_mul_right _ e
      generalize 65536 ^ (mm + 1) = Q at *
      omega
