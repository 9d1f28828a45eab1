/-! the reference: powers modulo a number, greatest common divisor -/
theorem bit_dig (g : Nat → Nat) (ok : okg g) (x : Nat) {k : Nat} (hk : k < 640) : g (40 * x + k / 16) / 2 ^ (k % 16) % 2 = nv g x / 2 ^ k % 2 := by
  have hq : k / 16 < 40 := by omega
  have hr : k % 16 < 16 := by omega
  have hkk : k = 16 * (k / 16) + k % 16 := by omega
  generalize k / 16 = q at hq hkk ⊢
  generalize k % 16 = r at hr hkk ⊢
  subst hkk
  have hB : (65536 : Nat) ^ q = 2 ^ (16 * q) := by rw [Nat.pow_mul]
  have h1 : nv g x = nvl g x q + 65536 ^ q * win g x q (40 - q) := nv_split (n := 40 - q) (by omega) (fun j h1 h2 => by omega)
  have h2 : win g x q (40 - q) = g (40 * x + q) + 65536 * pv 65536 (fun i => g (40 * x + (q + (1 + i)))) (39 - q) := by
    have := pv_add 65536 (fun i => g (40 * x + (q + i))) 1 (39 - q)
    rw [show 1 + (39 - q) = 40 - q by omega, Nat.pow_one] at this
    rw [show win g x q (40 - q) = pv 65536 (fun i => g (40 * x + (q + i))) (40 - q) from rfl, this]
    congr 1
    rw [pv_s, pv_0, Nat.zero_add, Nat.pow_zero, Nat.mul_one]
    rfl
  have hP : 0 < 65536 ^ q := Nat.pow_pos (by decide)
  have h3 : nv g x / 65536 ^ q = g (40 * x + q) + 65536 * pv 65536 (fun i => g (40 * x + (q + (1 + i)))) (39 - q) := by
    rw [h1, Nat.add_mul_div_left _ _ hP, Nat.div_eq_of_lt (nvl_lt ok x q), Nat.zero_add, h2]
  rw [Nat.pow_add, ← Nat.div_div_eq_div_mul, ← hB, h3]
  generalize pv 65536 (fun i => g (40 * x + (q + (1 + i)))) (39 - q) = Z
  have hr2 : 0 < 2 ^ r := Nat.pow_pos (by decide)
  have h4 : (65536 : Nat) = 2 ^ r * (2 * 2 ^ (15 - r)) := by
    rw [Nat.mul_comm 2, ← Nat.pow_succ, ← Nat.pow_add, show r + (15 - r + 1) = 16 by omega]
  have h5 : g (40 * x + q) + 65536 * Z = g (40 * x + q) + 2 ^ r * (2 * (2 ^ (15 - r) * Z)) := by
    rw [← Nat.mul_assoc 2, ← Nat.mul_assoc, ← h4]
  rw [h5, Nat.add_mul_div_left _ _ hr2]
  omega
theorem sp_Mbit {M : Nat} {h : dzH} {g : Nat → Nat} {x k : Nat} (m : MO M h g) (hx : x < 232) (hk : k < 640) : c_M_bit M (nI x) (nI k) h = some (nI (nv g x / 2 ^ k % 2), h) := by
  obtain ⟨⟨fs, ho⟩, -, -⟩ := id m
  have h1 := m.ok (40 * x + k / 16)
  have e1 : nI k / 16 = nI (k / 16) := pk_div (d := 16) (by omega) (by decide) (by decide)
  have e2 : k_irem (nI k) 16 = nI (k % 16) := pk_rem (d := 16) (by omega) (by decide) (by decide)
  have e3 : k_ishr (nI (g (40 * x + k / 16))) (nI (k % 16)) = nI (g (40 * x + k / 16) / 2 ^ (k % 16)) := pk_shrN (by omega) (nI (k % 16) &&& 31) (k % 16) (cnt_i (k % 16) (by omega))
  have e4 : g (40 * x + k / 16) / 2 ^ (k % 16) ≤ g (40 * x + k / 16) := Nat.div_le_self _ _
  have e5 : nI (g (40 * x + k / 16) / 2 ^ (k % 16)) &&& 1 = nI (g (40 * x + k / 16) / 2 ^ (k % 16) % 2) := pk_andN (by omega) 1 (by decide)
  rw [cc_M_bit _ _ _ _ ho, q_M_bit_0, gM m, Option.bind_some, if_neg (by decide), e1, ix40, rM m (by omega), Option.bind_some, if_neg (by decide), e2, e3, e5, bit_dig g m.ok x hk]
  rfl
theorem mulB8 {x y : Nat} (hx : x < B8) (hy : y < B8) : x * y < 65536 ^ 39 := by
  have h1 : x * y < B8 * B8 := Nat.mul_lt_mul'' hx hy
  have h2 : B8 * B8 ≤ 65536 ^ 39 := by
    rw [← B8_16, ← Nat.pow_add]
    exact Nat.pow_le_pow_right (by decide) (by decide)
  exact Nat.lt_of_lt_of_le h1 h2
theorem ltB8 {x : Nat} (hx : x < B8) : x < 65536 ^ 39 := by
  refine Nat.lt_of_lt_of_le hx ?_
  rw [← B8_16]
  exact Nat.pow_le_pow_right (by decide) (by decide)
/-- a product, reduced: slot z times slot w goes to slot z -/
theorem sp_Mmulred {M : Nat} {h : dzH} {g : Nat → Nat} {ix im : Int32} {z w n : Nat} {iz : Int32} (m : MO M h g) (ez : iz = nI z) (ew : ix = nI w) (em : im = nI n) (hz : z < 232) (hw : w < 232) (hn : n < 232) (z17 : z ≠ 17) (z19 : z ≠ 19) (w19 : w ≠ 19) (n17 : n ≠ 17) (n19 : n ≠ 19) (nz : n ≠ z) (h0 : 0 < nv g n) (hzB : nv g z < B8) (hwB : nv g w < B8) :
    ∃ g1 g2, c_M_times M iz ix (19 : Int32) h = some (hD h M g1) ∧ c_M_part M (19 : Int32) im (17 : Int32) iz (hD h M g1) = some (hD h M g2) ∧ okg g2 ∧ nv g2 z = nv g z * nv g w % nv g n ∧ ∀ q, q ≠ 17 → q ≠ 19 → q ≠ z → nv g2 q = nv g q := by
  obtain ⟨g1, a1, a2, a3, a4⟩ := sp_Mtimes m ez ew (show (19 : Int32) = nI 19 from rfl) hz hw (by decide) (Ne.symm z19) (Ne.symm w19) hzB hwB
  have m1 := m.up a2
  obtain ⟨g2, b1, b2, b3, b4, b5⟩ := sp_Mpart m1 (show (19 : Int32) = nI 19 from rfl) em (show (17 : Int32) = nI 17 from rfl) ez (by decide) hn (by decide) hz (by decide) (Ne.symm n17) z19 (Ne.symm nz) (Ne.symm z17) (by rw [a4 n n19]; exact h0) (by rw [a3]; exact mulB8 hzB hwB)
  refine ⟨g1, g2, a1, by rw [b1, hD_u], b2, by rw [b4, a3, a4 n n19], fun q h1 h2 h3 => by rw [b5 q h1 h3, a4 q h2]⟩
theorem lp_Mpow {M y n z v e b : Nat} {ix : Int32} (hy : y < 232) (hn : n < 232) (hz : z < 232) (z17 : z ≠ 17) (z18 : z ≠ 18) (z19 : z ≠ 19) (n17 : n ≠ 17) (n19 : n ≠ 19) (nz : n ≠ z) (y17 : y ≠ 17) (y19 : y ≠ 19) (yz : y ≠ z) (hv : 0 < v) (hvB : v < B8) : ∀ i, i ≤ 640 → ∀ h g, MO M h g → nv g 18 = b % v → nv g n = v → nv g y = e → nv g z = b ^ (e / 2 ^ i) % v →
    ∃ g', dzF 113 33 [(0, .ref M), (1, .int ix), (2, .int (nI y)), (3, .int (nI n)), (4, .int (nI z)), (5, .int (nI i - 1))] [] (0, 0) h = some (none, hD h M g') ∧ okg g' ∧ nv g' z = b ^ e % v ∧ ∀ q, q ≠ 17 → q ≠ 19 → q ≠ z → nv g' q = nv g q
  | 0, hi, h, g, m, hres, hnn, hyy, hzz => by
    rw [Nat.pow_zero, Nat.div_one] at hzz
    refine ⟨g, ?_, m.ok, hzz, fun _ _ _ _ => rfl⟩
    rw [q_M_raiseTo_33, if_pos (by decide), m.id]
  | i + 1, hi, h, g, m, hres, hnn, hyy, hzz => by
    have hdiv : e / 2 ^ (i + 1) = e / 2 ^ i / 2 := by rw [Nat.pow_succ, Nat.div_div_eq_div_mul]
    rw [hdiv] at hzz
    have hzB : nv g z < B8 := by rw [hzz]; exact Nat.lt_trans (Nat.mod_lt _ hv) hvB
    obtain ⟨g1, g2, a1, a2, a3, a4, a5⟩ := sp_Mmulred (w := z) (im := nI n) m rfl rfl rfl hz hz hn z17 z19 z19 n17 n19 nz (by rw [hnn]; exact hv) hzB hzB
    have m2 := m.up a3
    have hb := sp_Mbit m2 (x := y) (k := i) hy (by omega)
    have hy2 : nv g2 y = e := by rw [a5 y y17 y19 yz, hyy]
    have hn2 : nv g2 n = v := by rw [a5 n n17 n19 nz, hnn]
    have hr2 : nv g2 18 = b % v := by rw [a5 18 (by decide) (by decide) (Ne.symm z18), hres]
    rw [hy2] at hb
    rw [hzz, hnn] at a4
    generalize hY : e / 2 ^ i = d at hb a4
    have hsq : b ^ (d / 2) % v * (b ^ (d / 2) % v) % v = b ^ (2 * (d / 2)) % v := by
      rw [← Nat.mul_mod, ← Nat.pow_add]
      congr 2
      omega
    rw [hsq] at a4
    have em : nI i + (-1) = nI i - 1 := by rw [Int32.sub_eq_add_neg]
    rw [nI_pred, q_M_raiseTo_33, if_neg (nI_pos (by omega)), a1, Option.bind_some, a2, Option.bind_some, hb, Option.bind_some]
    dsimp only
    rcases (show d % 2 = 0 ∨ d % 2 = 1 by omega) with h0 | h1
    · have hev : b ^ (2 * (d / 2)) % v = b ^ d % v := by
        congr 2
        omega
      rw [hev, ← hY] at a4
      rw [h0, if_pos (by rfl), q_M_raiseTo_93, em]
      obtain ⟨g', c1, c2, c3, c4⟩ := lp_Mpow (ix := ix) hy hn hz z17 z18 z19 n17 n19 nz y17 y19 yz hv hvB i (by omega) (hD h M g2) g2 m2 hr2 hn2 hy2 a4
      exact ⟨g', by rw [c1, hD_u], c2, c3, fun q h1 h2 h3 => by rw [c4 q h1 h2 h3, a5 q h1 h2 h3]⟩
    · have hzB2 : nv g2 z < B8 := by rw [a4]; exact Nat.lt_trans (Nat.mod_lt _ hv) hvB
      obtain ⟨g3, g4, b1, b2, b3, b4, b5⟩ := sp_Mmulred (w := 18) (im := nI n) m2 rfl (show (18 : Int32) = nI 18 from rfl) rfl hz (by decide) hn z17 z19 (by decide) n17 n19 nz (by rw [hn2]; exact hv) hzB2 (by rw [hr2]; exact Nat.lt_trans (Nat.mod_lt _ hv) hvB)
      rw [hD_u] at b1 b2
      rw [hD_u] at b2
      have hod : b ^ (2 * (d / 2)) % v * (b % v) % v = b ^ d % v := by
        rw [← Nat.mul_mod, ← Nat.pow_succ]
        congr 2
        omega
      rw [a4, hr2, hn2, hod, ← hY] at b4
      have m4 : MO M (hD h M g4) g4 := m.up b3
      rw [h1, if_neg (by decide), b1, Option.bind_some, b2, Option.bind_some, q_M_raiseTo_93, em]
      obtain ⟨g', c1, c2, c3, c4⟩ := lp_Mpow (ix := ix) hy hn hz z17 z18 z19 n17 n19 nz y17 y19 yz hv hvB i (by omega) (hD h M g4) g4 m4 (by rw [b5 18 (by decide) (by decide) (Ne.symm z18)]; exact hr2) (by rw [b5 n n17 n19 nz]; exact hn2) (by rw [b5 y y17 y19 yz]; exact hy2) b4
      exact ⟨g', by rw [c1, hD_u], c2, c3, fun q h1 h2 h3 => by rw [c4 q h1 h2 h3, b5 q h1 h2 h3, a5 q h1 h2 h3]⟩
theorem sp_MraiseTo {M : Nat} {h : dzH} {g : Nat → Nat} {ix iy im iz : Int32} {x y n z : Nat} (m : MO M h g) (ex : ix = nI x) (ey : iy = nI y) (en : im = nI n) (ez : iz = nI z) (hx : x < 232) (hy : y < 232) (hn : n < 232) (hz : z < 232) (x17 : x ≠ 17) (x18 : x ≠ 18) (z17 : z ≠ 17) (z18 : z ≠ 18) (z19 : z ≠ 19) (z21 : z ≠ 21) (n17 : n ≠ 17) (n18 : n ≠ 18) (n19 : n ≠ 19) (nz : n ≠ z) (y17 : y ≠ 17) (y18 : y ≠ 18) (y19 : y ≠ 19) (yz : y ≠ z) (hv : 0 < nv g n) (hvB : nv g n < B8) (hxB : nv g x < B8) (h1 : nv g 21 = 1) :
    ∃ g', c_M_raiseTo M ix iy im iz h = some (hD h M g') ∧ okg g' ∧ nv g' z = nv g x ^ nv g y % nv g n ∧ ∀ q, q ≠ 17 → q ≠ 18 → q ≠ 19 → q ≠ z → nv g' q = nv g q := by
  obtain ⟨g1, a1, a2, a3, a4, a5⟩ := sp_Mpart m ex en (show (17 : Int32) = nI 17 from rfl) (show (18 : Int32) = nI 18 from rfl) hx hn (by decide) (by decide) (Ne.symm x17) (Ne.symm n17) (Ne.symm x18) (Ne.symm n18) (by decide) hv (ltB8 hxB)
  have m1 := m.up a2
  have h21 : nv g1 21 = 1 := by rw [a5 21 (by decide) (by decide), h1]
  have hn1 : nv g1 n = nv g n := a5 n n17 n18
  obtain ⟨g2, b1, b2, b3, b4, b5⟩ := sp_Mpart m1 (show (21 : Int32) = nI 21 from rfl) en (show (17 : Int32) = nI 17 from rfl) ez (by decide) hn (by decide) hz (by decide) (Ne.symm n17) z21 (Ne.symm nz) (Ne.symm z17) (by rw [hn1]; exact hv) (by rw [h21]; exact ltB8 (by rw [← B8_eq]; decide))
  rw [hD_u] at b1
  have m2 : MO M (hD h M g2) g2 := m.up b2
  have hy2 : nv g2 y = nv g y := by rw [b5 y y17 yz, a5 y y17 y18]
  have hlen := lng_le g2 y
  have hlt := lng_lt b2 y
  have hzero : nv g y / 2 ^ (16 * lng g2 y) = 0 := by
    apply Nat.div_eq_of_lt
    rw [hy2] at hlt
    rwa [show (65536 : Nat) ^ lng g2 y = 2 ^ (16 * lng g2 y) by rw [Nat.pow_mul]] at hlt
  have hz2 : nv g2 z = nv g x ^ (nv g y / 2 ^ (16 * lng g2 y)) % nv g n := by rw [hzero, Nat.pow_zero, b4, h21, hn1]
  obtain ⟨fs, ho⟩ := m.1
  have hmul : (16 : Int32) * nI (lng g2 y) = nI (16 * lng g2 y) := pk_mul 16 (lng g2 y)
  subst ex; subst ey; subst en; subst ez
  obtain ⟨g', c1, c2, c3, c4⟩ := lp_Mpow (ix := nI x) (b := nv g x) (e := nv g y) (v := nv g n) hy hn hz z17 z18 z19 n17 n19 nz y17 y19 yz hv hvB (16 * lng g2 y) (by omega) (hD h M g2) g2 m2 (by rw [b5 18 (by decide) (Ne.symm z18), a4]) (by rw [b5 n n17 nz, hn1]) hy2 hz2
  refine ⟨g', ?_, c2, c3, fun q h1 h2 h3 h4 => by rw [c4 q h1 h3 h4, b5 q h1 h4, a5 q h1 h2]⟩
  rw [cc_M_raiseTo _ _ _ _ _ _ ho, q_M_raiseTo_0, a1, Option.bind_some, b1, Option.bind_some, sp_Mlen m2 rfl hy, Option.bind_some]
  dsimp only
  rw [hmul, c1, hD_u]
  rfl
-- the greatest common divisor
theorem lp_Mgcd {M z : Nat} {ix iy : Int32} (hz : z < 232) (z17 : z ≠ 17) (z18 : z ≠ 18) (z19 : z ≠ 19) : ∀ (s : Nat) (h : dzH) (g : Nat → Nat), MO M h g → nv g 18 = s → nv g z < 65536 ^ 39 → s < 65536 ^ 39 →
    ∃ g', dzF 114 13 [(0, .ref M), (1, .int ix), (2, .int iy), (3, .int (nI z))] [] (0, 0) h = some (none, hD h M g') ∧ okg g' ∧ nv g' z = Nat.gcd (nv g z) s ∧ ∀ q, q ≠ 17 → q ≠ 18 → q ≠ 19 → q ≠ z → nv g' q = nv g q
  | s, h, g, m, hs, hzB, hsB => by
    rw [q_M_divisor_13, sp_MisZero m (show (18 : Int32) = nI 18 from rfl) (by decide), Option.bind_some]
    dsimp only
    rcases Nat.eq_zero_or_pos s with e0 | e0
    · subst e0
      rw [decide_eq_true hs, if_neg (by decide)]
      exact ⟨g, by rw [m.id], m.ok, by rw [Nat.gcd_zero_right], fun _ _ _ _ _ => rfl⟩
    · rw [decide_eq_false (by omega), if_pos bI_f]
      obtain ⟨g1, a1, a2, a3, a4, a5⟩ := sp_Mpart m (ix := nI z) (x := z) rfl (show (18 : Int32) = nI 18 from rfl) (show (17 : Int32) = nI 17 from rfl) (show (19 : Int32) = nI 19 from rfl) hz (by decide) (by decide) (by decide) (Ne.symm z17) (by decide) (Ne.symm z19) (by decide) (by decide) (by omega) hzB
      have m1 := m.up a2
      obtain ⟨g2, b1, b2, b3, b4⟩ := sp_Mcopy m1 (iy := nI z) (y := z) (show (18 : Int32) = nI 18 from rfl) rfl (by decide) hz (Ne.symm z18)
      rw [hD_u] at b1
      have m2 : MO M (hD h M g2) g2 := m.up b2
      obtain ⟨g3, c1, c2, c3, c4⟩ := sp_Mcopy m2 (show (19 : Int32) = nI 19 from rfl) (show (18 : Int32) = nI 18 from rfl) (by decide) (by decide) (by decide)
      rw [hD_u] at c1
      have m3 : MO M (hD h M g3) g3 := m.up c2
      have h18 : nv g3 18 = nv g z % s := by rw [c3, b4 19 (Ne.symm z19), a4, hs]
      have hz3 : nv g3 z = s := by rw [c4 z z18, b3, a5 18 (by decide) (by decide), hs]
      have hlt : nv g z % s < s := Nat.mod_lt _ e0
      obtain ⟨g', d1, d2, d3, d4⟩ := lp_Mgcd (ix := ix) (iy := iy) hz z17 z18 z19 (nv g z % s) (hD h M g3) g3 m3 h18 (by rw [hz3]; exact hsB) (by omega)
      refine ⟨g', ?_, d2, ?_, fun q h1 h2 h3 h4 => by rw [d4 q h1 h2 h3 h4, c4 q h2, b4 q h4, a5 q h1 h3]⟩
      · rw [a1, Option.bind_some, b1, Option.bind_some, c1, Option.bind_some, d1, hD_u]
      · rw [d3, hz3, Nat.gcd_comm (nv g z) s, Nat.gcd_rec s (nv g z), Nat.gcd_comm]
  termination_by s => s
theorem sp_Mdivisor {M : Nat} {h : dzH} {g : Nat → Nat} {ix iy iz : Int32} {x y z : Nat} (m : MO M h g) (ex : ix = nI x) (ey : iy = nI y) (ez : iz = nI z) (hx : x < 232) (hy : y < 232) (hz : z < 232) (z17 : z ≠ 17) (z18 : z ≠ 18) (z19 : z ≠ 19) (xz : x ≠ z) (yz : y ≠ z) (y18 : y ≠ 18) (hxB : nv g x < B8) (hyB : nv g y < B8) :
    ∃ g', c_M_divisor M ix iy iz h = some (hD h M g') ∧ okg g' ∧ nv g' z = Nat.gcd (nv g x) (nv g y) ∧ ∀ q, q ≠ 17 → q ≠ 18 → q ≠ 19 → q ≠ z → nv g' q = nv g q := by
  obtain ⟨g1, a1, a2, a3, a4⟩ := sp_Mcopy m ex ez hx hz xz
  have m1 := m.up a2
  obtain ⟨g2, b1, b2, b3, b4⟩ := sp_Mcopy m1 ey (show (18 : Int32) = nI 18 from rfl) hy (by decide) y18
  rw [hD_u] at b1
  have m2 : MO M (hD h M g2) g2 := m.up b2
  obtain ⟨fs, ho⟩ := m.1
  have h18 : nv g2 18 = nv g y := by rw [b3, a4 y yz]
  have hz2 : nv g2 z = nv g x := by rw [b4 z z18, a3]
  obtain ⟨g', c1, c2, c3, c4⟩ := lp_Mgcd (ix := ix) (iy := iy) hz z17 z18 z19 (nv g y) (hD h M g2) g2 m2 h18 (by rw [hz2]; exact ltB8 hxB) (ltB8 hyB)
  refine ⟨g', ?_, c2, by rw [c3, hz2], fun q h1 h2 h3 h4 => by rw [c4 q h1 h2 h3 h4, b4 q h2, a4 q h4]⟩
  rw [cc_M_divisor _ _ _ _ _ ho, q_M_divisor_0, a1, Option.bind_some, b1, Option.bind_some, ez, c1, hD_u]
  rfl
