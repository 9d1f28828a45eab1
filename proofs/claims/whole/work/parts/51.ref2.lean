/-! the reference: sums, differences, products -/
theorem pv_mid {B : Nat} {d : Nat → Nat} {q v : Nat} : ∀ {n : Nat}, q < n → pv B (gu d q v) n + d q * B ^ q = pv B d n + v * B ^ q
  | 0, h => by omega
  | n + 1, h => by
    rw [pv_s, pv_s]
    by_cases e : q = n
    · subst e
      rw [gu_s, pv_congr (d := gu d q v) (e := d) (n := q) (fun i hi => gu_n (by omega))]
      omega
    · have ih := pv_mid (B := B) (d := d) (q := q) (v := v) (n := n) (by omega)
      rw [gu_n (by omega)]
      omega
theorem gu_sl (g : Nat → Nat) (x i v : Nat) : (fun k => gu g (40 * x + i) v (40 * x + k)) = gu (fun k => g (40 * x + k)) i v := by
  funext k
  by_cases e : k = i
  · subst e
    rw [gu_s, gu_s]
  · rw [gu_n (by omega), gu_n e]
theorem nv_mid {g : Nat → Nat} {x i v : Nat} (hi : i < 40) : nv (gu g (40 * x + i) v) x + g (40 * x + i) * 65536 ^ i = nv g x + v * 65536 ^ i := by
  unfold nv
  rw [gu_sl]
  exact pv_mid (d := fun k => g (40 * x + k)) hi
/-- the first n digits of slot x -/
def nvl (g : Nat → Nat) (x n : Nat) : Nat := pv 65536 (fun k => g (40 * x + k)) n
theorem nvl_0 (g : Nat → Nat) (x : Nat) : nvl g x 0 = 0 := rfl
theorem nvl_s (g : Nat → Nat) (x n : Nat) : nvl g x (n + 1) = nvl g x n + g (40 * x + n) * 65536 ^ n := rfl
theorem nvl_40 (g : Nat → Nat) (x : Nat) : nvl g x 40 = nv g x := rfl
theorem nvl_out {g g' : Nat → Nat} {z w n : Nat} (h : ∀ j, ¬ slt z j → g' j = g j) (hw : w ≠ z) (hn : n ≤ 40) : nvl g' w n = nvl g w n := pv_congr (fun k hk => h _ (by unfold slt; omega))
theorem lp_Mraise {M x y : Nat} (hx : x < 232) (hy : y < 232) (hxy : x ≠ y) : ∀ (k i : Nat), i + k = 40 → ∀ (h : dzH) (g : Nat → Nat) (c : Nat), c ≤ 1 → MO M h g →
    ∃ g' c', dzF 105 5 [(0, .ref M), (1, .int (nI x)), (2, .int (nI y)), (3, .int (nI c)), (4, .int (nI i))] [] (0, 0) h = some (none, hD h M g') ∧ okg g' ∧ (∀ j, ¬ slt x j → g' j = g j) ∧ nv g' x + c' * 65536 ^ 40 + nvl g y i = nv g x + c * 65536 ^ i + nv g y
  | 0, i, hk, h, g, c, hc, m => by
    have ei : i = 40 := by omega
    subst ei
    refine ⟨g, c, ?_, m.ok, fun _ _ => rfl, by rw [nvl_40]⟩
    rw [q_M_raise_5, if_neg (by decide), m.id]
  | k + 1, i, hk, h, g, c, hc, m => by
    have h1 := m.ok (40 * x + i)
    have h2 := m.ok (40 * y + i)
    generalize ha : g (40 * x + i) = a at h1
    generalize hb : g (40 * y + i) = b at h2
    have hok : okg (gu g (40 * x + i) ((a + b + c) % 65536)) := m.ok.u (Nat.mod_lt _ (by decide))
    obtain ⟨g', c', g1, g2, g3, g4⟩ := lp_Mraise hx hy hxy k (i + 1) (by omega) (hD h M (gu g (40 * x + i) ((a + b + c) % 65536))) _ ((a + b + c) / 65536) (by omega) (m.up hok)
    have hout : ∀ j, ¬ slt x j → gu g (40 * x + i) ((a + b + c) % 65536) j = g j := fun j hj => gu_n (by unfold slt at hj; omega)
    refine ⟨g', c', ?_, g2, fun j hj => by rw [g3 j hj, hout j hj], ?_⟩
    · rw [q_M_raise_5, if_pos (by rw [show (40 : Int32) = nI 40 from rfl]; exact nI_lt (by omega) (by omega)), gM m, Option.bind_some, ix40, ix40, rM m (by omega), Option.bind_some, Option.bind_some, rM m (by omega), Option.bind_some, Option.bind_some, ha, hb, nI_add, nI_add, nI_d16 (by omega), nI_s16 (by omega), wM m (by omega), Option.bind_some, nI_1, g1, hD_u]
    · have hm := nv_mid (g := g) (x := x) (i := i) (v := (a + b + c) % 65536) (by omega)
      rw [nvl_out hout (Ne.symm hxy) (by omega), nv_out hout (Ne.symm hxy), nvl_s, hb, show (65536 : Nat) ^ (i + 1) = 65536 ^ i * 65536 from rfl] at g4
      rw [ha] at hm
      generalize 65536 ^ i = P at g4 hm ⊢
      have e1 : (a + b + c) / 65536 * (P * 65536) = (65536 * ((a + b + c) / 65536)) * P := by
        rw [Nat.mul_comm P, ← Nat.mul_assoc, Nat.mul_comm _ 65536]
      have e2 : (a + b + c) % 65536 * P + (65536 * ((a + b + c) / 65536)) * P = a * P + b * P + c * P := by
        rw [← Nat.add_mul, ← Nat.add_mul, ← Nat.add_mul]
        congr 1
        omega
      rw [e1] at g4
      generalize c' * 65536 ^ 40 = Q at g4 ⊢
      omega
theorem noc {x c P s : Nat} (h : x + c * P = s) (hs : s < P) : x = s := by
  rcases Nat.eq_zero_or_pos c with e | e
  · subst e; omega
  · have : 1 * P ≤ c * P := Nat.mul_le_mul_right _ e
    omega
theorem sp_Mraise {M : Nat} {h : dzH} {g : Nat → Nat} {ix iy : Int32} {x y : Nat} (m : MO M h g) (ex : ix = nI x) (ey : iy = nI y) (hx : x < 232) (hy : y < 232) (hxy : x ≠ y) (hlt : nv g x + nv g y < 65536 ^ 40) :
    ∃ g', c_M_raise M ix iy h = some (hD h M g') ∧ okg g' ∧ nv g' x = nv g x + nv g y ∧ ∀ z, z ≠ x → nv g' z = nv g z := by
  subst ex; subst ey
  obtain ⟨g', c', g1, g2, g3, g4⟩ := lp_Mraise hx hy hxy 40 0 (by omega) h g 0 (by decide) m
  obtain ⟨⟨fs, ho⟩, -, -⟩ := m
  refine ⟨g', ?_, g2, ?_, fun z hz => nv_out g3 hz⟩
  · rw [nI_0] at g1
    rw [cc_M_raise _ _ _ _ ho, q_M_raise_0, g1]
    rfl
  · rw [nvl_0, Nat.zero_mul, Nat.add_zero, Nat.add_zero] at g4
    exact noc g4 hlt
theorem lo_dig {a b c : Nat} (ha : a < 65536) (hb : b < 65536) (hc : c ≤ 1) : (nI a - nI b - nI c) &&& 65535 = nI ((a + 65536 - b - c) % 65536) ∧ ((nI a - nI b - nI c) < 0 ↔ a < b + c) := by
  have h1 : w32 (nI a - nI b - nI c) = (4294967296 + a - b - c) % 4294967296 := by
    rw [w32_sub, w32_sub, w32_nI (by omega), w32_nI (by omega), w32_nI (by omega)]
    omega
  constructor
  · have h2 : w32 ((nI a - nI b - nI c) &&& 65535) = w32 (nI a - nI b - nI c) % 65536 := by
      rw [w32_and]
      exact Nat.and_two_pow_sub_one_eq_mod _ 16
    apply w32_inj
    rw [h2, h1, w32_nI (by omega)]
    omega
  · have h2 := w32_int (nI a - nI b - nI c)
    have h3 : (nI a - nI b - nI c) < 0 ↔ (nI a - nI b - nI c).toInt < 0 := by
      rw [Int32.lt_iff_toInt_lt]
      rfl
    rw [h3, h2, h1]
    split <;> omega
theorem lp_Mlower {M x y : Nat} (hx : x < 232) (hy : y < 232) (hxy : x ≠ y) : ∀ (k i : Nat), i + k = 40 → ∀ (h : dzH) (g : Nat → Nat) (c : Nat), c ≤ 1 → MO M h g →
    ∃ g' c', dzF 106 5 [(0, .ref M), (1, .int (nI x)), (2, .int (nI y)), (3, .int (nI c)), (4, .int (nI i))] [] (0, 0) h = some (none, hD h M g') ∧ okg g' ∧ (∀ j, ¬ slt x j → g' j = g j) ∧ nv g' x + nv g y + c * 65536 ^ i = nv g x + nvl g y i + c' * 65536 ^ 40
  | 0, i, hk, h, g, c, hc, m => by
    have ei : i = 40 := by omega
    subst ei
    refine ⟨g, c, ?_, m.ok, fun _ _ => rfl, by rw [nvl_40]⟩
    rw [q_M_lower_5, if_neg (by decide), m.id]
  | k + 1, i, hk, h, g, c, hc, m => by
    have h1 := m.ok (40 * x + i)
    have h2 := m.ok (40 * y + i)
    generalize ha : g (40 * x + i) = a at h1
    generalize hb : g (40 * y + i) = b at h2
    obtain ⟨l1, l2⟩ := lo_dig h1 h2 hc
    have hok : okg (gu g (40 * x + i) ((a + 65536 - b - c) % 65536)) := m.ok.u (Nat.mod_lt _ (by decide))
    obtain ⟨g', c', g1, g2, g3, g4⟩ := lp_Mlower hx hy hxy k (i + 1) (by omega) (hD h M (gu g (40 * x + i) ((a + 65536 - b - c) % 65536))) _ (if a < b + c then 1 else 0) (by split <;> omega) (m.up hok)
    have hout : ∀ j, ¬ slt x j → gu g (40 * x + i) ((a + 65536 - b - c) % 65536) j = g j := fun j hj => gu_n (by unfold slt at hj; omega)
    refine ⟨g', c', ?_, g2, fun j hj => by rw [g3 j hj, hout j hj], ?_⟩
    · rw [q_M_lower_5, if_pos (by rw [show (40 : Int32) = nI 40 from rfl]; exact nI_lt (by omega) (by omega)), gM m, Option.bind_some, ix40, ix40, rM m (by omega), Option.bind_some, Option.bind_some, rM m (by omega), Option.bind_some, Option.bind_some, ha, hb, l1, wM m (by omega), Option.bind_some]
      by_cases e : a < b + c
      · rw [if_pos e] at g1
        rw [if_pos (l2.mpr e), q_M_lower_68, nI_1, show (1 : Int32) = nI 1 from rfl, g1, hD_u]
      · rw [if_neg e] at g1
        rw [if_neg (fun q => e (l2.mp q)), q_M_lower_68, nI_1, show (0 : Int32) = nI 0 from rfl, g1, hD_u]
    · have hm := nv_mid (g := g) (x := x) (i := i) (v := (a + 65536 - b - c) % 65536) (by omega)
      rw [nvl_out hout (Ne.symm hxy) (by omega), nv_out hout (Ne.symm hxy), nvl_s, hb, show (65536 : Nat) ^ (i + 1) = 65536 ^ i * 65536 from rfl] at g4
      rw [ha] at hm
      generalize 65536 ^ i = P at g4 hm ⊢
      have e1 : (if a < b + c then 1 else 0) * (P * 65536) = (65536 * (if a < b + c then 1 else 0)) * P := by
        rw [Nat.mul_comm P, ← Nat.mul_assoc, Nat.mul_comm _ 65536]
      have e2 : (a + 65536 - b - c) % 65536 * P + b * P + c * P = a * P + (65536 * (if a < b + c then 1 else 0)) * P := by
        rw [← Nat.add_mul, ← Nat.add_mul, ← Nat.add_mul]
        congr 1
        split <;> omega
      rw [e1] at g4
      generalize c' * 65536 ^ 40 = Q at g4 ⊢
      generalize (65536 * (if a < b + c then 1 else 0)) * P = R at e2 g4
      omega
theorem sp_Mlower {M : Nat} {h : dzH} {g : Nat → Nat} {ix iy : Int32} {x y : Nat} (m : MO M h g) (ex : ix = nI x) (ey : iy = nI y) (hx : x < 232) (hy : y < 232) (hxy : x ≠ y) (hle : nv g y ≤ nv g x) :
    ∃ g', c_M_lower M ix iy h = some (hD h M g') ∧ okg g' ∧ nv g' x = nv g x - nv g y ∧ ∀ z, z ≠ x → nv g' z = nv g z := by
  subst ex; subst ey
  obtain ⟨g', c', g1, g2, g3, g4⟩ := lp_Mlower hx hy hxy 40 0 (by omega) h g 0 (by decide) m
  obtain ⟨⟨fs, ho⟩, -, -⟩ := m
  refine ⟨g', ?_, g2, ?_, fun z hz => nv_out g3 hz⟩
  · rw [nI_0] at g1
    rw [cc_M_lower _ _ _ _ ho, q_M_lower_0, g1]
    rfl
  · rw [nvl_0, Nat.zero_mul, Nat.add_zero, Nat.add_zero] at g4
    have h1 := nv_lt g2 x
    rcases Nat.eq_zero_or_pos c' with e | e
    · subst e
      rw [Nat.zero_mul] at g4
      omega
    · have : 1 * 65536 ^ 40 ≤ c' * 65536 ^ 40 := Nat.mul_le_mul_right _ e
      generalize 65536 ^ 40 = Q at *
      omega
-- products
theorem pow_ij (i j : Nat) : 65536 ^ (i + (j + 1)) = 65536 ^ i * 65536 ^ j * 65536 := by rw [← Nat.add_assoc, Nat.pow_succ, Nat.pow_add]
theorem lp_Mtim1 {M x y z i n mm : Nat} (hx : x < 232) (hy : y < 232) (hz : z < 232) (hzx : z ≠ x) (hzy : z ≠ y) (hin : i < n) (hn : n ≤ 16) (hm : mm ≤ 16) : ∀ (k j : Nat), j + k = mm → ∀ (h : dzH) (g : Nat → Nat) (c : Nat), c < 65536 → (∀ q, i + mm ≤ q → q < 40 → g (40 * z + q) = 0) → MO M h g →
    ∃ g', dzF 107 36 [(0, .ref M), (1, .int (nI x)), (2, .int (nI y)), (3, .int (nI z)), (4, .int (nI n)), (5, .int (nI mm)), (6, .int (nI i)), (7, .long (lN c)), (9, .int (nI j))] [] (0, 0) h = dzF 107 23 [(0, .ref M), (1, .int (nI x)), (2, .int (nI y)), (3, .int (nI z)), (4, .int (nI n)), (5, .int (nI mm)), (6, .int (nI (i + 1)))] [] (0, 0) (hD h M g') ∧ okg g' ∧ (∀ j, ¬ slt z j → g' j = g j) ∧ (∀ q, i + 1 + mm ≤ q → q < 40 → g' (40 * z + q) = 0) ∧
      nv g' z + g (40 * x + i) * nvl g y j * 65536 ^ i = nv g z + c * 65536 ^ (i + j) + g (40 * x + i) * nvl g y mm * 65536 ^ i
  | 0, j, hk, h, g, c, hc, hz0, m => by
    have ej : j = mm := by omega
    subst ej
    rcases Nat.eq_zero_or_pos c with e | e
    · subst e
      refine ⟨g, ?_, m.ok, fun _ _ => rfl, fun q h1 h2 => hz0 q (by omega) h2, by rw [Nat.zero_mul, Nat.add_zero]⟩
      rw [q_M_times_36, if_neg (nI_nlt (Nat.le_refl _) (by omega)), if_pos (by decide), nI_1, m.id]
    · have hz1 := hz0 (i + j) (Nat.le_refl _) (by omega)
      have hlc : ¬ k_lcmp (lN c) 0 ≤ 0 := fun q => by
        have h1 := k_lcmp_le.mp q
        rw [pk_lT (by omega)] at h1
        have : Int64.toInt 0 = 0 := rfl
        omega
      have h0 : (0 : Int64) = lN 0 := rfl
      have hok : okg (gu g (40 * z + (i + j)) c) := m.ok.u hc
      have e0 : (0 : Int32) = nI 0 := rfl
      refine ⟨gu g (40 * z + (i + j)) c, ?_, hok, fun q hq => gu_n (by unfold slt at hq; omega), fun q h1 h2 => by rw [gu_n (by omega)]; exact hz0 q (by omega) h2, ?_⟩
      · rw [q_M_times_36, if_neg (nI_nlt (Nat.le_refl _) (by omega)), if_neg hlc, q_M_times_50, gM m, Option.bind_some, ix40, nI_add, rM m (by omega), Option.bind_some, if_neg (nI_nlt (Nat.le_refl _) (by omega)), q_M_times_107, gM m, Option.bind_some, ix40, nI_add, Nat.add_assoc, hz1, nI_l (by omega), lN_add, Nat.zero_add, h0, lN_add, show c + 0 = c from rfl, lN_d16 (by omega), lN_s16 (by omega), Nat.mod_eq_of_lt hc, Nat.div_eq_of_lt hc, wM m (by omega), Option.bind_some, nI_1, q_M_times_36, if_neg (nI_nlt (by omega) (by omega)), if_pos (by decide), nI_1]
      · have hm2 := nv_mid (g := g) (x := z) (i := i + j) (v := c) (by omega)
        rw [hz1, Nat.zero_mul, Nat.add_zero] at hm2
        rw [hm2]
  | k + 1, j, hk, h, g, c, hc, hz0, m => by
    have h1 := m.ok (40 * x + i)
    have h2 := m.ok (40 * y + j)
    have h3 := m.ok (40 * z + (i + j))
    generalize ha : g (40 * x + i) = a at h1
    generalize hb : g (40 * y + j) = b at h2
    generalize hd : g (40 * z + (i + j)) = d at h3
    have hab : a * b ≤ 65535 * 65535 := Nat.mul_le_mul (by omega) (by omega)
    have hok : okg (gu g (40 * z + (i + j)) ((d + c + a * b) % 65536)) := m.ok.u (Nat.mod_lt _ (by decide))
    have hout : ∀ q, ¬ slt z q → gu g (40 * z + (i + j)) ((d + c + a * b) % 65536) q = g q := fun q hq => gu_n (by unfold slt at hq; omega)
    obtain ⟨g', g1, g2, g3, g4, g5⟩ := lp_Mtim1 hx hy hz hzx hzy hin hn hm k (j + 1) (by omega) (hD h M (gu g (40 * z + (i + j)) ((d + c + a * b) % 65536))) _ ((d + c + a * b) / 65536) (by omega) (fun q h1 h2 => by rw [gu_n (by omega)]; exact hz0 q h1 h2) (m.up hok)
    refine ⟨g', ?_, g2, fun q hq => by rw [g3 q hq, hout q hq], g4, ?_⟩
    · rw [q_M_times_36, if_pos (nI_lt (by omega) (by omega)), q_M_times_50, gM m, Option.bind_some, ix40, nI_add, Nat.add_assoc, rM m (by omega), Option.bind_some, if_pos (nI_lt (by omega) (by omega)), Option.bind_some, ix40, ix40, rM m (by omega), Option.bind_some, Option.bind_some, rM m (by omega), Option.bind_some, ha, hb, hd, q_M_times_107, gM m, Option.bind_some, ix40, nI_add, Nat.add_assoc, nI_l (by omega), nI_l (by omega), nI_l (by omega), lN_mul, lN_add, lN_add, lN_d16 (by omega), lN_s16 (by omega), wM m (by omega), Option.bind_some, nI_1, g1, hD_u]
    · have hm2 := nv_mid (g := g) (x := z) (i := i + j) (v := (d + c + a * b) % 65536) (by omega)
      rw [nvl_out hout (Ne.symm hzy) (by omega), nvl_out hout (Ne.symm hzy) (by omega), hout _ (by unfold slt; omega), nvl_s, hb, ha, pow_ij] at g5
      rw [hd] at hm2
      rw [Nat.pow_add] at hm2 ⊢
      generalize 65536 ^ i = P at g5 hm2 ⊢
      generalize 65536 ^ j = R at g5 hm2 ⊢
      have e1 : (d + c + a * b) / 65536 * (P * R * 65536) = (65536 * ((d + c + a * b) / 65536)) * (P * R) := by
        rw [Nat.mul_comm (P * R), ← Nat.mul_assoc, Nat.mul_comm _ 65536]
      have e2 : a * (nvl g y j + b * R) * P = a * nvl g y j * P + (a * b) * (P * R) := by
        rw [Nat.mul_add, Nat.add_mul]
        congr 1
        simp only [Nat.mul_comm, Nat.mul_left_comm, Nat.mul_assoc]
      have e3 : (d + c + a * b) % 65536 * (P * R) + (65536 * ((d + c + a * b) / 65536)) * (P * R) = d * (P * R) + c * (P * R) + (a * b) * (P * R) := by
        rw [← Nat.add_mul, ← Nat.add_mul, ← Nat.add_mul]
        congr 1
        omega
      rw [e1, e2] at g5
      omega
theorem lp_Mtim2 {M x y z n mm : Nat} (hx : x < 232) (hy : y < 232) (hz : z < 232) (hzx : z ≠ x) (hzy : z ≠ y) (hn : n ≤ 16) (hm : mm ≤ 16) : ∀ (k i : Nat), i + k = n → ∀ (h : dzH) (g : Nat → Nat), (∀ q, i + mm ≤ q → q < 40 → g (40 * z + q) = 0) → nv g z = nvl g x i * nvl g y mm → MO M h g →
    ∃ g', dzF 107 23 [(0, .ref M), (1, .int (nI x)), (2, .int (nI y)), (3, .int (nI z)), (4, .int (nI n)), (5, .int (nI mm)), (6, .int (nI i))] [] (0, 0) h = some (none, hD h M g') ∧ okg g' ∧ (∀ j, ¬ slt z j → g' j = g j) ∧ nv g' z = nvl g x n * nvl g y mm
  | 0, i, hk, h, g, hz0, hv, m => by
    have ei : i = n := by omega
    subst ei
    refine ⟨g, ?_, m.ok, fun _ _ => rfl, hv⟩
    rw [q_M_times_23, if_neg (nI_nlt (Nat.le_refl _) (by omega)), m.id]
  | k + 1, i, hk, h, g, hz0, hv, m => by
    obtain ⟨g', g1, g2, g3, g4, g5⟩ := lp_Mtim1 hx hy hz hzx hzy (show i < n by omega) hn hm mm 0 (by omega) h g 0 (by decide) hz0 m
    rw [nvl_0, Nat.mul_zero, Nat.zero_mul, Nat.zero_mul, Nat.add_zero, Nat.add_zero] at g5
    obtain ⟨g2', k1, k2, k3, k4⟩ := lp_Mtim2 hx hy hz hzx hzy hn hm k (i + 1) (by omega) (hD h M g') g' (fun q h1 h2 => g4 q h1 h2) (by
      rw [g5, hv, nvl_out g3 (Ne.symm hzy) (by omega), nvl_out g3 (Ne.symm hzx) (by omega), nvl_s, Nat.add_mul]
      congr 1
      simp only [Nat.mul_comm, Nat.mul_left_comm, Nat.mul_assoc]) (m.up g2)
    refine ⟨g2', ?_, k2, fun q hq => by rw [k3 q hq, g3 q hq], ?_⟩
    · rw [q_M_times_23, if_pos (nI_lt (by omega) (by omega)), show (0 : Int64) = lN 0 from rfl, show (0 : Int32) = nI 0 from rfl, g1, k1, hD_u]
    · rw [k4, nvl_out g3 (Ne.symm hzy) (by omega), nvl_out g3 (Ne.symm hzx) (by omega)]
theorem nvl_lng {g : Nat → Nat} (x : Nat) : nvl g x (lng g x) = nv g x := (pv_du _ _ _).symm
theorem sp_Mtimes {M : Nat} {h : dzH} {g : Nat → Nat} {ix iy iz : Int32} {x y z : Nat} (m : MO M h g) (ex : ix = nI x) (ey : iy = nI y) (ez : iz = nI z) (hx : x < 232) (hy : y < 232) (hz : z < 232) (hzx : z ≠ x) (hzy : z ≠ y) (hxB : nv g x < B8) (hyB : nv g y < B8) :
    ∃ g', c_M_times M ix iy iz h = some (hD h M g') ∧ okg g' ∧ nv g' z = nv g x * nv g y ∧ ∀ w, w ≠ z → nv g' w = nv g w := by
  obtain ⟨g1, a1, a2, a3, a4⟩ := sp_Mset (0 : Int64) m ez hz
  have m1 := m.up a2
  have hlx : lng g1 x ≤ 16 := (lng_iff a2 x 16).mpr (by rw [B8_16, a4 x (Ne.symm hzx)]; exact hxB)
  have hly : lng g1 y ≤ 16 := (lng_iff a2 y 16).mpr (by rw [B8_16, a4 y (Ne.symm hzy)]; exact hyB)
  have hz0 : ∀ q, q < 40 → g1 (40 * z + q) = 0 := fun q hq => pv_eq0 (by decide) (show pv 65536 (fun k => g1 (40 * z + k)) 40 = 0 from a3) q hq
  obtain ⟨g2, b1, b2, b3, b4⟩ := lp_Mtim2 (M := M) hx hy hz hzx hzy hlx hly (lng g1 x) 0 (by omega) (hD h M g1) g1 (fun q _ hq => hz0 q hq) (by rw [nvl_0, Nat.zero_mul]; exact a3) m1
  obtain ⟨⟨fs, ho⟩, -, -⟩ := m
  refine ⟨g2, ?_, b2, ?_, fun w hw => by rw [nv_out b3 hw, a4 w hw]⟩
  · rw [cc_M_times _ _ _ _ _ ho, q_M_times_0, a1, Option.bind_some, sp_Mlen m1 ex hx, Option.bind_some]
    dsimp only
    rw [sp_Mlen m1 ey hy, Option.bind_some]
    dsimp only
    subst ex; subst ey; subst ez
    rw [nI_0] at b1
    rw [b1, hD_u]
    rfl
  · rw [b4, nvl_lng, nvl_lng, a4 x (Ne.symm hzx), a4 y (Ne.symm hzy)]
