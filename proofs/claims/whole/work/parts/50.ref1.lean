/-! the reference: numbers of 40 digits, all in one row -/
def mg (g : Nat → Nat) : Nat → Int32 := fun i => nI (g i)
def gu (g : Nat → Nat) (j v : Nat) : Nat → Nat := fun i => if i = j then v else g i
theorem gu_s (g : Nat → Nat) (j v : Nat) : gu g j v j = v := if_pos rfl
theorem gu_n {g : Nat → Nat} {j v i : Nat} (h : i ≠ j) : gu g j v i = g i := if_neg h
theorem mg_u (g : Nat → Nat) (j v : Nat) : upd (mg g) j (nI v) = mg (gu g j v) := by
  funext i
  by_cases e : i = j
  · subst e
    rw [pk_us]
    show _ = nI (gu g i v i)
    rw [gu_s]
  · rw [pk_un e]
    show nI (g i) = nI (gu g j v i)
    rw [gu_n e]
/-- the number in slot x -/
def nv (g : Nat → Nat) (x : Nat) : Nat := pv 65536 (fun k => g (40 * x + k)) 40
def okg (g : Nat → Nat) : Prop := ∀ i, g i < 65536
theorem okg.u {g : Nat → Nat} (ok : okg g) {j v : Nat} (hv : v < 65536) : okg (gu g j v) := fun i => by
  by_cases e : i = j
  · subst e; rw [gu_s]; exact hv
  · rw [gu_n e]; exact ok i
/-- the reference's object at M, its digits behind it -/
def MO (M : Nat) (h : dzH) (g : Nat → Nat) : Prop := (∃ fs, h.2 M = some (eO 1 (.ref (M + 1) :: fs))) ∧ h.2 (M + 1) = some (eI 9280 (mg g)) ∧ okg g
abbrev hD (h : dzH) (M : Nat) (g : Nat → Nat) : dzH := hU h (M + 1) (eI 9280 (mg g))
theorem hD_u (h : dzH) (M : Nat) (g g' : Nat → Nat) : hD (hD h M g) M g' = hD h M g' := hU_u _ _ _ _
theorem MO.ok {M : Nat} {h : dzH} {g : Nat → Nat} (m : MO M h g) : okg g := m.2.2
theorem MO.up {M : Nat} {h : dzH} {g g' : Nat → Nat} (m : MO M h g) (ok : okg g') : MO M (hD h M g') g' := by
  obtain ⟨⟨fs, h1⟩, -, -⟩ := m
  exact ⟨⟨fs, by rw [hU_n (by omega)]; exact h1⟩, hU_s _ _ _, ok⟩
theorem MO.id {M : Nat} {h : dzH} {g : Nat → Nat} (m : MO M h g) : hD h M g = h := hU_id m.2.1
theorem gM {M : Nat} {h : dzH} {g : Nat → Nat} (m : MO M h g) : dgA h M 1 0 = some (M + 1) := by
  obtain ⟨⟨fs, h1⟩, -, -⟩ := m
  exact dgA_at h1 rfl
theorem rM {M : Nat} {h : dzH} {g : Nat → Nat} (m : MO M h g) {j : Nat} (hj : j < 9280) : drI h (M + 1) (nI j) = some (nI (g j)) := drI_at m.2.1 hj (by decide)
theorem wM {M : Nat} {h : dzH} {g : Nat → Nat} (m : MO M h g) {j v : Nat} (hj : j < 9280) : dwI h (M + 1) (nI j) (nI v) = some (hD h M (gu g j v)) := by
  rw [dwI_at _ m.2.1 hj (by decide), mg_u]
theorem ix40 (x k : Nat) : (40 : Int32) * nI x + nI k = nI (40 * x + k) := by
  rw [show (40 : Int32) = nI 40 from rfl, pk_mul, nI_add]
def slt (z j : Nat) : Prop := 40 * z ≤ j ∧ j < 40 * z + 40
theorem nv_congr {g g' : Nat → Nat} {x y : Nat} (h : ∀ k, k < 40 → g' (40 * x + k) = g (40 * y + k)) : nv g' x = nv g y := pv_congr h
theorem nv_out {g g' : Nat → Nat} {z w : Nat} (h : ∀ j, ¬ slt z j → g' j = g j) (hw : w ≠ z) : nv g' w = nv g w := nv_congr (fun k hk => h _ (by unfold slt; omega))
theorem nv_lt {g : Nat → Nat} (ok : okg g) (x : Nat) : nv g x < 65536 ^ 40 := pv_lt (fun i _ => ok _)
-- numbers of the machine
theorem uN_lNn {n : Nat} (h : n < 2 ^ 63) : uN (lN n) = n := by
  have h1 := pk_lT h
  rw [uN_int] at h1
  have h2 := uN_lt (lN n)
  split at h1 <;> omega
theorem uN_a16 (x : Int64) : uN (x &&& 65535) = uN x % 65536 := by
  rw [uN_and]
  exact Nat.and_two_pow_sub_one_eq_mod (uN x) 16
theorem lN_d16 {n : Nat} (h : n < 2 ^ 63) : Int64.toInt32 (lN n &&& 65535) = nI (n % 65536) := w32_inj (by
  rw [w32_l2i, uN_a16, uN_lNn h, w32_nI (by omega)]
  omega)
theorem lN_s16 {n : Nat} (h : n < 2 ^ 63) : k_lshr (lN n) 16 = lN (n / 65536) := Int64.toInt_inj.mp (by
  rw [lT_s16, pk_lT h, pk_lT (by omega)]
  omega)
theorem nI_d16 {n : Nat} (h : n < 4294967296) : nI n &&& 65535 = nI (n % 65536) := pk_andN (n := n) h 16 (by decide)
theorem nI_s16 {n : Nat} (h : n < 2147483648) : k_ishr (nI n) 16 = nI (n / 65536) := pk_shrN (n := n) h (16 &&& 31) 16 (by decide)
-- copying
theorem lp_Mcopy {M x y : Nat} (hx : x < 232) (hy : y < 232) (hxy : x ≠ y) : ∀ (k i : Nat), i + k = 40 → ∀ (h : dzH) (g : Nat → Nat), MO M h g →
    ∃ g', dzF 101 2 [(0, .ref M), (1, .int (nI x)), (2, .int (nI y)), (3, .int (nI i))] [] (0, 0) h = some (none, hD h M g') ∧ okg g' ∧ (∀ j, i ≤ j → j < 40 → g' (40 * y + j) = g (40 * x + j)) ∧ ∀ j, ¬ (40 * y + i ≤ j ∧ j < 40 * y + 40) → g' j = g j
  | 0, i, hk, h, g, m => by
    refine ⟨g, ?_, m.ok, fun j h1 h2 => by omega, fun _ _ => rfl⟩
    rw [q_M_copy_2, if_neg (by rw [show (40 : Int32) = nI 40 from rfl]; exact nI_nlt (by omega) (by omega)), m.id]
  | k + 1, i, hk, h, g, m => by
    obtain ⟨g', g1, g2, g3, g4⟩ := lp_Mcopy hx hy hxy k (i + 1) (by omega) (hD h M (gu g (40 * y + i) (g (40 * x + i)))) _ (m.up (m.ok.u (m.ok _)))
    refine ⟨g', ?_, g2, fun j h1 h2 => ?_, fun j hj => ?_⟩
    · rw [q_M_copy_2, if_pos (by rw [show (40 : Int32) = nI 40 from rfl]; exact nI_lt (by omega) (by omega)), gM m, Option.bind_some, Option.bind_some, ix40, ix40, rM m (by omega), Option.bind_some, wM m (by omega), Option.bind_some, nI_1, g1, hD_u]
    · by_cases e : j = i
      · subst e
        rw [g4 _ (by omega), gu_s]
      · rw [g3 j (by omega) h2, gu_n (by omega)]
    · rw [g4 j (by omega), gu_n (by omega)]
theorem sp_Mcopy {M : Nat} {h : dzH} {g : Nat → Nat} {ix iy : Int32} {x y : Nat} (m : MO M h g) (ex : ix = nI x) (ey : iy = nI y) (hx : x < 232) (hy : y < 232) (hxy : x ≠ y) :
    ∃ g', c_M_copy M ix iy h = some (hD h M g') ∧ okg g' ∧ nv g' y = nv g x ∧ ∀ z, z ≠ y → nv g' z = nv g z := by
  subst ex; subst ey
  obtain ⟨g', g1, g2, g3, g4⟩ := lp_Mcopy hx hy hxy 40 0 (by omega) h g m
  obtain ⟨⟨fs, ho⟩, -, -⟩ := m
  refine ⟨g', ?_, g2, nv_congr (fun k hk => g3 k (by omega) hk), fun z hz => nv_out (fun j hj => g4 j (by unfold slt at hj; omega)) hz⟩
  rw [nI_0] at g1
  rw [cc_M_copy _ _ _ _ ho, q_M_copy_0, g1]
  rfl
-- setting
theorem set_dig (v : Int64) : ∀ k, k < 4 → Int64.toInt32 ((k_lshr v ((16 : Int32) * nI k)) &&& 65535) = nI (uN v / 65536 ^ k % 65536) := by
  intro k hk
  apply w32_inj
  rw [w32_l2i, uN_a16, w32_nI (by omega)]
  have hv := uN_lt v
  rcases (show k = 0 ∨ k = 1 ∨ k = 2 ∨ k = 3 by omega) with e | e | e | e <;> subst e
  · have h := lT_shr v ((16 : Int32) * nI 0) (k := 0) (by decide +kernel)
    have h2 := uN_lt (k_lshr v ((16 : Int32) * nI 0))
    rw [uN_int, uN_int] at h
    generalize uN (k_lshr v ((16 : Int32) * nI 0)) = a at h h2 ⊢
    generalize uN v = b at h hv ⊢
    split at h <;> split at h <;> omega
  · have h := lT_shr v ((16 : Int32) * nI 1) (k := 16) (by decide +kernel)
    have h2 := uN_lt (k_lshr v ((16 : Int32) * nI 1))
    rw [uN_int, uN_int] at h
    generalize uN (k_lshr v ((16 : Int32) * nI 1)) = a at h h2 ⊢
    generalize uN v = b at h hv ⊢
    split at h <;> split at h <;> omega
  · have h := lT_shr v ((16 : Int32) * nI 2) (k := 32) (by decide +kernel)
    have h2 := uN_lt (k_lshr v ((16 : Int32) * nI 2))
    rw [uN_int, uN_int] at h
    generalize uN (k_lshr v ((16 : Int32) * nI 2)) = a at h h2 ⊢
    generalize uN v = b at h hv ⊢
    split at h <;> split at h <;> omega
  · have h := lT_shr v ((16 : Int32) * nI 3) (k := 48) (by decide +kernel)
    have h2 := uN_lt (k_lshr v ((16 : Int32) * nI 3))
    rw [uN_int, uN_int] at h
    generalize uN (k_lshr v ((16 : Int32) * nI 3)) = a at h h2 ⊢
    generalize uN v = b at h hv ⊢
    split at h <;> split at h <;> omega
def sdg (v : Int64) (k : Nat) : Nat := if k < 4 then uN v / 65536 ^ k % 65536 else 0
theorem sdg_lt (v : Int64) (k : Nat) : sdg v k < 65536 := by
  unfold sdg
  split <;> omega
theorem sdg_v (v : Int64) : pv 65536 (sdg v) 40 = uN v := by
  rw [pv_ext (d := sdg v) (m := 4) (by decide) (fun i h1 h2 => if_neg (by omega)), pv_congr (d := sdg v) (e := dgt 65536 (uN v)) (fun i hi => if_pos hi), pv_dgt]
  exact Nat.mod_eq_of_lt (uN_lt v)
theorem lp_Mset {M x : Nat} (v : Int64) (hx : x < 232) : ∀ (k i : Nat), i + k = 40 → ∀ (h : dzH) (g : Nat → Nat), MO M h g →
    ∃ g', dzF 99 3 [(0, .ref M), (1, .int (nI x)), (2, .long v), (4, .int (nI i))] [] (0, 0) h = some (none, hD h M g') ∧ okg g' ∧ (∀ j, i ≤ j → j < 40 → g' (40 * x + j) = sdg v j) ∧ ∀ j, ¬ (40 * x + i ≤ j ∧ j < 40 * x + 40) → g' j = g j
  | 0, i, hk, h, g, m => by
    refine ⟨g, ?_, m.ok, fun j h1 h2 => by omega, fun _ _ => rfl⟩
    rw [q_M_set_3, if_neg (by rw [show (40 : Int32) = nI 40 from rfl]; exact nI_nlt (by omega) (by omega)), m.id]
  | k + 1, i, hk, h, g, m => by
    obtain ⟨g', g1, g2, g3, g4⟩ := lp_Mset v hx k (i + 1) (by omega) (hD h M (gu g (40 * x + i) (sdg v i))) _ (m.up (m.ok.u (sdg_lt v i)))
    refine ⟨g', ?_, g2, fun j h1 h2 => ?_, fun j hj => ?_⟩
    · rw [q_M_set_3, if_pos (by rw [show (40 : Int32) = nI 40 from rfl]; exact nI_lt (by omega) (by omega)), gM m, Option.bind_some, ix40]
      by_cases h4 : i < 4
      · rw [if_pos (by rw [show (4 : Int32) = nI 4 from rfl]; exact nI_lt h4 (by omega)), set_dig v i h4, q_M_set_43]
        have e : uN v / 65536 ^ i % 65536 = sdg v i := (if_pos h4).symm
        rw [e, wM m (by omega), Option.bind_some, nI_1, g1, hD_u]
      · rw [if_neg (by rw [show (4 : Int32) = nI 4 from rfl]; exact nI_nlt (by omega) (by omega)), q_M_set_43]
        have e : (0 : Int32) = nI (sdg v i) := by rw [show sdg v i = 0 from if_neg h4]; rfl
        rw [e, wM m (by omega), Option.bind_some, nI_1, g1, hD_u]
    · by_cases e : j = i
      · subst e
        rw [g4 _ (by omega), gu_s]
      · rw [g3 j (by omega) h2]
    · rw [g4 j (by omega), gu_n (by omega)]
theorem sp_Mset {M : Nat} {h : dzH} {g : Nat → Nat} {ix : Int32} {x : Nat} (v : Int64) (m : MO M h g) (ex : ix = nI x) (hx : x < 232) :
    ∃ g', c_M_set M ix v h = some (hD h M g') ∧ okg g' ∧ nv g' x = uN v ∧ ∀ z, z ≠ x → nv g' z = nv g z := by
  subst ex
  obtain ⟨g', g1, g2, g3, g4⟩ := lp_Mset v hx 40 0 (by omega) h g m
  obtain ⟨⟨fs, ho⟩, -, -⟩ := m
  refine ⟨g', ?_, g2, ?_, fun z hz => nv_out (fun j hj => g4 j (by unfold slt at hj; omega)) hz⟩
  · rw [nI_0] at g1
    rw [cc_M_set _ _ _ _ ho, q_M_set_0, g1]
    rfl
  · rw [← sdg_v v]
    exact pv_congr (fun k hk => g3 k (by omega) hk)
-- comparing
theorem lp_Morder {M x y : Nat} {h : dzH} {g : Nat → Nat} (m : MO M h g) (hx : x < 232) (hy : y < 232) : ∀ i, i ≤ 40 → (∀ j, i ≤ j → j < 40 → g (40 * x + j) = g (40 * y + j)) →
    dzF 102 3 [(0, .ref M), (1, .int (nI x)), (2, .int (nI y)), (3, .int (nI i - 1))] [] (0, 0) h = some (some (.int (ordI (nv g x) (nv g y))), h)
  | 0, _, he => by
    rw [q_M_order_3, if_pos (by decide), q_M_order_38, if_pos (by decide), ordI_0.mpr (nv_congr (fun i hi => he i (Nat.zero_le _) hi))]
  | i + 1, hi, he => by
    have h1 := m.ok (40 * x + i)
    have h2 := m.ok (40 * y + i)
    rw [nI_pred, q_M_order_3, if_neg (nI_pos (by omega)), gM m, Option.bind_some, ix40, ix40, rM m (by omega), Option.bind_some, Option.bind_some, rM m (by omega), Option.bind_some]
    by_cases e : g (40 * x + i) = g (40 * y + i)
    · rw [if_pos (by rw [e])]
      have e2 : nI i + (-1) = nI i - 1 := by rw [Int32.sub_eq_add_neg]
      rw [e2]
      exact lp_Morder m hx hy i (by omega) (fun j h1 h2 => by
        by_cases hj : j = i
        · rw [hj]; exact e
        · exact he j (by omega) h2)
    · rw [if_neg (fun q => e ((nI_eq (by omega) (by omega)).mp q)), q_M_order_38, if_neg (nI_pos (by omega)), gM m, Option.bind_some, ix40, ix40, rM m (by omega), Option.bind_some, Option.bind_some, rM m (by omega), Option.bind_some]
      rcases Nat.lt_or_ge (g (40 * x + i)) (g (40 * y + i)) with h3 | h3
      · have h4 : nv g x < nv g y := pv_lex (k := i) (by omega) (fun j _ => m.ok _) (fun j h3 h4 => he j (by omega) h4) h3
        rw [if_pos (nI_lt h3 (by omega))]
        unfold ordI
        rw [if_pos h4]
      · have h4 : nv g y < nv g x := pv_lex (k := i) (by omega) (fun j _ => m.ok _) (fun j h3 h4 => (he j (by omega) h4).symm) (by omega)
        rw [if_neg (nI_nlt h3 (by omega))]
        unfold ordI
        rw [if_neg (by omega), if_neg (by omega)]
theorem sp_Morder {M : Nat} {h : dzH} {g : Nat → Nat} {ix iy : Int32} {x y : Nat} (m : MO M h g) (ex : ix = nI x) (ey : iy = nI y) (hx : x < 232) (hy : y < 232) : c_M_order M ix iy h = some (ordI (nv g x) (nv g y), h) := by
  subst ex; subst ey
  have h1 := lp_Morder m hx hy 40 (Nat.le_refl _) (fun j h1 h2 => by omega)
  obtain ⟨⟨fs, ho⟩, -, -⟩ := m
  have e : nI 40 - 1 = 39 := by decide
  rw [e] at h1
  rw [cc_M_order _ _ _ _ ho, q_M_order_0, h1]
  rfl
theorem sp_MisOne {M : Nat} {h : dzH} {g : Nat → Nat} {ix : Int32} {x : Nat} (m : MO M h g) (ex : ix = nI x) (hx : x < 232) (h1 : nv g 21 = 1) : c_M_isOne M ix h = some (bI (decide (nv g x = 1)), h) := by
  obtain ⟨⟨fs, ho⟩, -, -⟩ := id m
  rw [cc_M_isOne _ _ _ ho, q_M_isOne_0, sp_Morder m ex (show (21 : Int32) = nI 21 from rfl) hx (by decide), Option.bind_some]
  dsimp only
  by_cases e : nv g x = 1
  · rw [if_pos (ordI_0.mpr (by rw [e, h1])), decide_eq_true e]
    rfl
  · rw [if_neg (fun q => e (by rw [ordI_0.mp q, h1])), decide_eq_false e]
    rfl
-- used digits
def du (d : Nat → Nat) : Nat → Nat
  | 0 => 0
  | n + 1 => if d n = 0 then du d n else n + 1
theorem du_s (d : Nat → Nat) (n : Nat) : du d (n + 1) = if d n = 0 then du d n else n + 1 := rfl
theorem du_le (d : Nat → Nat) : ∀ n, du d n ≤ n
  | 0 => Nat.le_refl _
  | n + 1 => by
    unfold du
    split
    · have := du_le d n; omega
    · omega
theorem du_zero (d : Nat → Nat) : ∀ n i, du d n ≤ i → i < n → d i = 0
  | 0, i, _, h => by omega
  | n + 1, i, h1, h2 => by
    unfold du at h1
    split at h1
    · rename_i e
      by_cases hi : i = n
      · rw [hi]; exact e
      · exact du_zero d n i h1 (by omega)
    · omega
theorem du_top (d : Nat → Nat) : ∀ n, 0 < du d n → d (du d n - 1) ≠ 0
  | 0, h => by simp [du] at h
  | n + 1, h => by
    unfold du at h ⊢
    split at h
    · rename_i e
      rw [if_pos e]
      exact du_top d n h
    · rename_i e
      rw [if_neg e]
      exact e
theorem pv_du (B : Nat) (d : Nat → Nat) (n : Nat) : pv B d n = pv B d (du d n) := pv_ext (du_le d n) (fun i h1 h2 => du_zero d n i h1 h2)
theorem pv_du_ge (B : Nat) (d : Nat → Nat) (n : Nat) (h : 0 < du d n) : B ^ (du d n - 1) ≤ pv B d n := by
  have h1 := pv_ge (B := B) (d := d) (k := du d n - 1) (n := n) (by have := du_le d n; omega)
  have h2 : 1 ≤ d (du d n - 1) := Nat.pos_of_ne_zero (du_top d n h)
  have h3 : 1 * B ^ (du d n - 1) ≤ d (du d n - 1) * B ^ (du d n - 1) := Nat.mul_le_mul_right _ h2
  rw [Nat.one_mul] at h3
  exact Nat.le_trans h3 h1
/-- how many digits slot x uses -/
def lng (g : Nat → Nat) (x : Nat) : Nat := du (fun k => g (40 * x + k)) 40
theorem lng_le (g : Nat → Nat) (x : Nat) : lng g x ≤ 40 := du_le _ _
theorem lng_lt {g : Nat → Nat} (ok : okg g) (x : Nat) : nv g x < 65536 ^ lng g x := by
  unfold nv lng
  rw [pv_du]
  exact pv_lt (fun i _ => ok _)
theorem lng_ge {g : Nat → Nat} {x : Nat} (h : 0 < lng g x) : 65536 ^ (lng g x - 1) ≤ nv g x := pv_du_ge _ _ _ h
theorem lng_iff {g : Nat → Nat} (ok : okg g) (x n : Nat) : lng g x ≤ n ↔ nv g x < 65536 ^ n := by
  constructor
  · intro h
    exact Nat.lt_of_lt_of_le (lng_lt ok x) (Nat.pow_le_pow_right (by decide) h)
  · intro h
    rcases Nat.lt_or_ge n (lng g x) with h1 | h1
    · have h2 := lng_ge (g := g) (x := x) (by omega)
      have h3 : 65536 ^ n ≤ 65536 ^ (lng g x - 1) := Nat.pow_le_pow_right (by decide) (by omega)
      omega
    · exact h1
theorem lng_0 {g : Nat → Nat} (ok : okg g) (x : Nat) : lng g x = 0 ↔ nv g x = 0 := by
  have h := lng_iff ok x 0
  rw [Nat.pow_zero] at h
  omega
theorem lp_Mlen {M x : Nat} {h : dzH} {g : Nat → Nat} (m : MO M h g) (hx : x < 232) : ∀ i, i ≤ 40 → dzF 103 3 [(0, .ref M), (1, .int (nI x)), (2, .int (nI i))] [] (0, 0) h = some (some (.int (nI (du (fun k => g (40 * x + k)) i))), h)
  | 0, _ => by
    rw [q_M_lengthOf_3, if_pos (by decide)]
    rfl
  | i + 1, hi => by
    have h1 := m.ok (40 * x + i)
    rw [q_M_lengthOf_3, if_neg (nI_nle (by omega) (by omega)), gM m, Option.bind_some, ix40, ← Nat.add_assoc, nI_pred, rM m (by omega), Option.bind_some, du_s]
    by_cases e : g (40 * x + i) = 0
    · rw [if_pos (by rw [e]; rfl), pk_m1, lp_Mlen m hx i (by omega), if_pos e]
    · rw [if_neg (nI_ne0 (by omega) (by omega)), if_neg e]
theorem sp_Mlen {M : Nat} {h : dzH} {g : Nat → Nat} {ix : Int32} {x : Nat} (m : MO M h g) (ex : ix = nI x) (hx : x < 232) : c_M_lengthOf M ix h = some (nI (lng g x), h) := by
  subst ex
  have h1 := lp_Mlen m hx 40 (Nat.le_refl _)
  obtain ⟨⟨fs, ho⟩, -, -⟩ := m
  rw [cc_M_lengthOf _ _ _ ho, q_M_lengthOf_0, show (40 : Int32) = nI 40 from rfl, h1]
  rfl
theorem sp_MisZero {M : Nat} {h : dzH} {g : Nat → Nat} {ix : Int32} {x : Nat} (m : MO M h g) (ex : ix = nI x) (hx : x < 232) : c_M_isZero M ix h = some (bI (decide (nv g x = 0)), h) := by
  obtain ⟨⟨fs, ho⟩, -, -⟩ := id m
  rw [cc_M_isZero _ _ _ ho, q_M_isZero_0, sp_Mlen m ex hx, Option.bind_some]
  dsimp only
  have h1 := lng_0 m.ok x
  have h2 := lng_le g x
  by_cases e : nv g x = 0
  · rw [if_pos (by rw [h1.mpr e]; rfl), decide_eq_true e]
    rfl
  · rw [if_neg (nI_ne0 (by omega) (by omega)), decide_eq_false e]
    rfl
theorem B8_16 : 65536 ^ 16 = B8 := by
  rw [B8_2, show (65536 : Nat) = 2 ^ 16 from rfl, ← Nat.pow_mul]
theorem sp_Mfits {M : Nat} {h : dzH} {g : Nat → Nat} {ix : Int32} {x : Nat} (m : MO M h g) (ex : ix = nI x) (hx : x < 232) : c_M_fits M ix h = some (bI (decide (nv g x < B8)), h) := by
  obtain ⟨⟨fs, ho⟩, -, -⟩ := id m
  rw [cc_M_fits _ _ _ ho, q_M_fits_0, sp_Mlen m ex hx, Option.bind_some]
  dsimp only
  have h1 := lng_iff m.ok x 16
  rw [B8_16] at h1
  have h2 := lng_le g x
  by_cases e : nv g x < B8
  · rw [if_pos (by rw [show (16 : Int32) = nI 16 from rfl]; exact nI_le (h1.mpr e) (by decide)), decide_eq_true e]
    rfl
  · rw [if_neg (by rw [show (16 : Int32) = nI 16 from rfl]; exact fun q => e (h1.mp ((nI_leI (by omega) (by decide)).mp q))), decide_eq_false e]
    rfl
