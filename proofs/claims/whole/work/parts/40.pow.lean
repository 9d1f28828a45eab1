/-! Sums: powers modulo a number, greatest common divisor -/
theorem bit_word (E : Nat → Int32) {k : Nat} (hk : k < 256) : w32 (E (k / 32)) / 2 ^ (k % 32) % 2 = wv E 8 / 2 ^ k % 2 := by
  have hq : k / 32 < 8 := by omega
  have hr : k % 32 < 32 := by omega
  have hkk : k = 32 * (k / 32) + k % 32 := by omega
  generalize k / 32 = q at hq hkk ⊢
  generalize k % 32 = r at hr hkk ⊢
  subst hkk
  have hB : (4294967296 : Nat) ^ q = 2 ^ (32 * q) := by rw [Nat.pow_mul]
  have h1 : wv E 8 = wv E q + 4294967296 ^ q * wv (sl E q) (8 - q) := by
    have := wv_cut E q (8 - q)
    rwa [show q + (8 - q) = 8 by omega] at this
  have h2 : wv (sl E q) (8 - q) = w32 (E q) + 4294967296 * wv (fun i => sl E q (i + 1)) (7 - q) := by
    have := wv_cons (sl E q) (7 - q)
    rwa [show 7 - q + 1 = 8 - q by omega] at this
  have hP : 0 < 4294967296 ^ q := Nat.pow_pos (by decide)
  have h3 : wv E 8 / 4294967296 ^ q = w32 (E q) + 4294967296 * wv (fun i => sl E q (i + 1)) (7 - q) := by
    rw [h1, Nat.add_mul_div_left _ _ hP, Nat.div_eq_of_lt (wv_lt E q), Nat.zero_add, h2]
  rw [Nat.pow_add, ← Nat.div_div_eq_div_mul, ← hB, h3]
  generalize wv (fun i => sl E q (i + 1)) (7 - q) = Z
  have hr2 : 0 < 2 ^ r := Nat.pow_pos (by decide)
  have h4 : (4294967296 : Nat) = 2 ^ r * (2 * 2 ^ (31 - r)) := by
    rw [Nat.mul_comm 2, ← Nat.pow_succ, ← Nat.pow_add, show r + (31 - r + 1) = 32 by omega]
  have h5 : w32 (E q) + 4294967296 * Z = w32 (E q) + 2 ^ r * (2 * (2 ^ (31 - r) * Z)) := by
    rw [← Nat.mul_assoc 2, ← Nat.mul_assoc, ← h4]
  rw [h5, Nat.add_mul_div_left _ _ hr2]
  omega
/-- a product, reduced, kept in the power's row -/
theorem sp_mulred {h : dzH} {a v n sh x y vx vy : Nat} {D : Nat → Int32} (hs : SumsOk a h) (hd : DivOk a h v n sh D) (hvB : v < B8) (hx : row8 h x vx) (hy : row8 h y vy) (nx : x ≠ a + 1) (ny : y ≠ a + 1) :
    ∃ h3 h4 h7, c_Sums_setWideToProduct a x y h = some h3 ∧ c_Sums_reduceWide a h3 = some h4 ∧ dgA h4 a 6 0 = some (a + 1) ∧ dgA h4 a 6 6 = some (a + 5) ∧ c_Sums_copy (a + 1) (a + 5) h4 = some h7 ∧ row8 h7 (a + 5) (vx * vy % v) ∧ DivOk a h7 v n sh D ∧ SumsOk a h7 ∧ fr h h7 (fun q => q = a + 1 ∨ q = a + 2 ∨ q = a + 5) := by
  obtain ⟨W, k1, k2, k3⟩ := sp_setProd hs hx hy nx ny
  have hs1 : SumsOk a (hU h (a + 1) (eI 17 W)) := hs.row1 (by decide) (by decide) (fun _ _ _ => trivial) rfl
  have hd1 : DivOk a (hU h (a + 1) (eI 17 W)) v n sh D := hd.keep (hU_n (by omega)) (hU_n (by omega))
  obtain ⟨h1, h2, g1, g2, g3, g4, g5, g6, g7⟩ := sp_redcopy hs1 hd1 (hU_s _ _ _) k2 k3 hvB (t := a + 5) (hs1.2.2.2 5 (by decide) (by decide)) (by omega)
  have ho1 : h1.2 a = some (sumsO a (nI n) (nI sh)) := by rw [g2]; exact hd1.1
  refine ⟨_, h1, h2, k1, g1, gS_wide ho1, gS_pow ho1, g3, g4, g5, g6, g7.1, fun q hq => ?_⟩
  rw [g7.2 q hq, hU_n (fun z => hq (Or.inl z))]
theorem lp_pow {a x e m t n sh v b : Nat} {D E : Nat → Int32} (hvB : v < B8) (ne : ¬ inS a e) (nt : ¬ inS a t) (net : e ≠ t ∨ True) : ∀ i, i ≤ 256 → ∀ h, SumsOk a h → DivOk a h v n sh D → h.2 e = some (eI 8 E) → row8 h (a + 4) (b % v) → row8 h (a + 5) (b ^ (wv E 8 / 2 ^ i) % v) → rowN h t 8 →
    ∃ h', dzF 38 59 [(0, .ref a), (1, .ref x), (2, .ref e), (3, .ref m), (4, .ref t), (5, .int (nI i - 1))] [] (0, 0) h = some (none, h') ∧ row8 h' t (b ^ wv E 8 % v) ∧ SumsOk a h' ∧ fr h h' (fun q => inS a q ∨ q = t)
  | 0, hi, h, hs, hd, he, hres, hpow, ht => by
    obtain ⟨h2, c1, c2, c3⟩ := sp_copy8 hpow ht
    rw [Nat.pow_zero, Nat.div_one] at c2
    refine ⟨h2, ?_, c2, hs.keep (fun q hq => c3.2 q (fun z => nt (z ▸ hq))), c3.mono (fun q hq => Or.inr hq)⟩
    rw [q_Sums_powerModulo_59, if_pos (by decide), gS_pow hd.1, Option.bind_some, c1, Option.bind_some]
  | i + 1, hi, h, hs, hd, he, hres, hpow, ht => by
    unfold inS at ne nt
    have hdiv : wv E 8 / 2 ^ (i + 1) = wv E 8 / 2 ^ i / 2 := by rw [Nat.pow_succ, Nat.div_div_eq_div_mul]
    rw [hdiv] at hpow
    have hbit := bit_word E (k := i) (by omega)
    generalize hY : wv E 8 / 2 ^ i = y at hpow hbit
    obtain ⟨h3, h4, h7, a1, a2, a3, a4, a5, a6, a7, a8, a9⟩ := sp_mulred hs hd hvB hpow hpow (by omega) (by omega)
    have e5 : k_ishr (nI i) 5 = nI (i / 32) := pk_shrN (n := i) (by omega) (5 &&& 31) 5 (by decide)
    have e31 : nI i &&& 31 = nI (i % 32) := pk_andN (n := i) (by omega) 5 (by decide)
    have he7 : h7.2 e = some (eI 8 E) := by rw [a9.2 e (by omega)]; exact he
    have ht7 : rowN h7 t 8 := ht.eq (a9.2 t (by omega))
    have hres7 : row8 h7 (a + 4) (b % v) := hres.eq (a9.2 _ (by omega))
    have hsq : b ^ (y / 2) % v * (b ^ (y / 2) % v) % v = b ^ (2 * (y / 2)) % v := by
      rw [← Nat.mul_mod, ← Nat.pow_add]
      congr 2
      omega
    rw [hsq] at a6
    have em : nI i + (-1) = nI i - 1 := by rw [Int32.sub_eq_add_neg]
    have hcond : (k_iushr (E (i / 32)) (nI (i % 32)) &&& 1) = 1 ↔ y % 2 = 1 := by
      rw [← hbit, ← w32_ushrN _ (show i % 32 < 32 by omega)]
      generalize k_iushr (E (i / 32)) (nI (i % 32)) = z
      have h1 : w32 (z &&& 1) = w32 z % 2 := by
        rw [w32_and]
        exact Nat.and_one_is_mod _
      constructor
      · intro h2
        rw [← h1, h2]
        rfl
      · intro h2
        exact w32_inj (by rw [h1, h2]; rfl)
    rw [nI_pred, q_Sums_powerModulo_59, if_neg (nI_pos (by omega)), gS_pow hd.1, Option.bind_some, Option.bind_some, a1, Option.bind_some, a2, Option.bind_some, a3, Option.bind_some, a4, Option.bind_some, a5, Option.bind_some, e5, drI_at he7 (by omega) (by decide), Option.bind_some, e31]
    by_cases hb : y % 2 = 1
    · obtain ⟨h3', h4', h7', b1, b2, b3, b4, b5, b6, b7, b8, b9⟩ := sp_mulred a8 a7 hvB a6 hres7 (by omega) (by omega)
      have hod : b ^ (2 * (y / 2)) % v * (b % v) % v = b ^ y % v := by
        rw [← Nat.mul_mod, ← Nat.pow_succ]
        congr 2
        omega
      rw [hod, ← hY] at b6
      rw [if_pos (hcond.mpr hb), gS_pow a7.1, Option.bind_some, gS_res a7.1, Option.bind_some, b1, Option.bind_some, b2, Option.bind_some, b3, Option.bind_some, b4, Option.bind_some, b5, Option.bind_some, q_Sums_powerModulo_136, em]
      obtain ⟨h', c1, c2, c3, c4⟩ := lp_pow (x := x) (m := m) hvB (show ¬ inS a e from ne) (show ¬ inS a t from nt) net i (by omega) h7' b8 b7 (by rw [b9.2 e (by omega)]; exact he7) (hres7.eq (b9.2 _ (by omega))) b6 (ht7.eq (b9.2 t (by omega)))
      refine ⟨h', c1, c2, c3, ?_, fun q hq => ?_⟩
      · rw [c4.1, b9.1, a9.1]
      · unfold inS at hq
        rw [c4.2 q (by unfold inS; omega), b9.2 q (by omega), a9.2 q (by omega)]
    · have hev : b ^ (2 * (y / 2)) % v = b ^ y % v := by
        congr 2
        omega
      rw [hev, ← hY] at a6
      rw [if_neg (fun z => hb (hcond.mp z)), q_Sums_powerModulo_136, em]
      obtain ⟨h', c1, c2, c3, c4⟩ := lp_pow (x := x) (m := m) hvB (show ¬ inS a e from ne) (show ¬ inS a t from nt) net i (by omega) h7 a8 a7 he7 hres7 a6 ht7
      refine ⟨h', c1, c2, c3, ?_, fun q hq => ?_⟩
      · rw [c4.1, a9.1]
      · unfold inS at hq
        rw [c4.2 q (by unfold inS; omega), a9.2 q (by omega)]
theorem sp_power {h : dzH} {a x e m t vx ve v : Nat} (hs : SumsOk a h) (hx : row8 h x vx) (he : row8 h e ve) (hm : row8 h m v) (hv : 0 < v) (ht : rowN h t 8) (nx : ¬ inS a x) (ne : ¬ inS a e) (nt : ¬ inS a t) :
    ∃ h', c_Sums_powerModulo a x e m t h = some h' ∧ row8 h' t (vx ^ ve % v) ∧ SumsOk a h' ∧ fr h h' (fun q => inS a q ∨ q = t) := by
  have ne0 := ne
  have nt0 := nt
  unfold inS at nx ne nt
  obtain ⟨dw0, sh0, ho0⟩ := hs.ob
  have hvB := hm.lt
  obtain ⟨h1, n, sh, D, a1, a2, a3, a4⟩ := sp_setDivisor hs hm hv
  obtain ⟨W, b1, b2, b3⟩ := sp_setWide a3 (hx.eq (a4.2 x (by omega))) (by omega)
  have hs2 : SumsOk a (hU h1 (a + 1) (eI 17 W)) := a3.row1 (by decide) (by decide) (fun _ _ _ => trivial) rfl
  have hd2 : DivOk a (hU h1 (a + 1) (eI 17 W)) v n sh D := a2.keep (hU_n (by omega)) (hU_n (by omega))
  obtain ⟨h3, h6, g1, g2, g3, g4, g5, g6, g7⟩ := sp_redcopy hs2 hd2 (hU_s _ _ _) b2 b3 hvB (t := a + 4) (hs2.2.2.2 4 (by decide) (by decide)) (by omega)
  have ho3 : h3.2 a = some (sumsO a (nI n) (nI sh)) := by rw [g2]; exact hd2.1
  obtain ⟨W0, hw6⟩ := g6.2.1
  obtain ⟨g, s1, s2, s3⟩ := sp_setSmall 1 hw6 (by decide) (by decide)
  have hgv : wv g 17 = 1 := wv_small 1 g 17 s3 (by decide) s2
  have hs8 : SumsOk a (hU h6 (a + 1) (eI 17 g)) := g6.row1 (by decide) (by decide) (fun _ _ _ => trivial) rfl
  have hd8 : DivOk a (hU h6 (a + 1) (eI 17 g)) v n sh D := g5.keep (hU_n (by omega)) (hU_n (by omega))
  obtain ⟨h9, h12, k1, k2, k3, k4, k5, k6, k7⟩ := sp_redcopy hs8 hd8 (hU_s _ _ _) hgv (s3 16 (by decide) (by decide)) hvB (t := a + 5) (hs8.2.2.2 5 (by decide) (by decide)) (by omega)
  have ho9 : h9.2 a = some (sumsO a (nI n) (nI sh)) := by rw [k2]; exact hd8.1
  have hold : ∀ q, ¬ (a ≤ q ∧ q ≤ a + 7) → h12.2 q = h.2 q := fun q hq => by
    rw [k7.2 q (by omega), hU_n (by omega), g7.2 q (by omega), hU_n (by omega), a4.2 q (by omega)]
  obtain ⟨E, he1, he2⟩ := he
  have he12 : h12.2 e = some (eI 8 E) := by rw [hold e ne]; exact he1
  have hu := uw_le E 8
  have hmul : (32 : Int32) * nI (uw E 8) = nI (32 * uw E 8) := pk_mul 32 (uw E 8)
  have hzero : wv E 8 / 2 ^ (32 * uw E 8) = 0 := by
    apply Nat.div_eq_of_lt
    have := wv_lt_uw E 8
    rwa [show (4294967296 : Nat) ^ uw E 8 = 2 ^ (32 * uw E 8) by rw [Nat.pow_mul]] at this
  have hres12 : row8 h12 (a + 4) (vx % v) := g4.eq (by rw [k7.2 _ (by omega), hU_n (by omega)])
  obtain ⟨h', c1, c2, c3, c4⟩ := lp_pow (x := x) (m := m) (b := vx) hvB ne0 nt0 (Or.inr trivial) (32 * uw E 8) (by omega) h12 k6 k5 he12 hres12 (by rw [hzero, Nat.pow_zero]; exact k4) (ht.eq (hold t nt))
  refine ⟨h', ?_, by rw [← he2]; exact c2, c3, ?_, fun q hq => ?_⟩
  · rw [cc_Sums_powerModulo _ _ _ _ _ _ ho0, q_Sums_powerModulo_0, a1, Option.bind_some, b1, Option.bind_some, g1, Option.bind_some, gS_wide ho3, Option.bind_some, gS_res ho3, Option.bind_some, g3, Option.bind_some, gS_wide g5.1, Option.bind_some, s1, Option.bind_some, k1, Option.bind_some, gS_wide ho9, Option.bind_some, gS_pow ho9, Option.bind_some, k3, Option.bind_some, sp_used he12 (by decide), Option.bind_some]
    dsimp only
    rw [hmul, c1]
    rfl
  · rw [c4.1, k7.1]
    show h6.1 = h.1
    rw [g7.1]
    show h1.1 = h.1
    exact a4.1
  · unfold inS at hq
    rw [c4.2 q (by unfold inS; omega), hold q (by omega)]
/-- one step of Euclid -/
theorem sp_euclid {h : dzH} {a l s : Nat} (hs : SumsOk a h) (hl : row8 h (a + 6) l) (hsm : row8 h (a + 7) s) {a1 a2 a3 : Nat} {st : Int32} (hst : st < 1000) :
    (s = 0 → dzF 40 19 [(0, .ref a), (1, .ref a1), (2, .ref a2), (3, .ref a3), (4, .int st)] [] (0, 0) h = dzF 40 85 [(0, .ref a), (1, .ref a1), (2, .ref a2), (3, .ref a3), (4, .int st)] [] (0, 0) h) ∧
    (0 < s → ∃ h', dzF 40 19 [(0, .ref a), (1, .ref a1), (2, .ref a2), (3, .ref a3), (4, .int st)] [] (0, 0) h = dzF 40 19 [(0, .ref a), (1, .ref a1), (2, .ref a2), (3, .ref a3), (4, .int (st + 1))] [] (0, 0) h' ∧ SumsOk a h' ∧ row8 h' (a + 6) s ∧ row8 h' (a + 7) (l % s) ∧ fr h h' (fun q => inS a q)) := by
  obtain ⟨dw0, sh0, ho0⟩ := hs.ob
  obtain ⟨fs, hs1, hs2⟩ := hsm
  constructor
  · intro h0
    rw [q_Sums_greatestDivisor_19, if_pos hst, gS_sma ho0, Option.bind_some, sp_isZero hs1 (by decide), Option.bind_some]
    dsimp only
    rw [hs2, decide_eq_true h0, if_neg (by decide)]
  · intro h0
    have hsB : s < B8 := by rw [← hs2]; exact wv_lt8 fs
    have hsm : row8 h (a + 7) s := ⟨fs, hs1, hs2⟩
    obtain ⟨h4, n, sh, D, b1, b2, b3, b4⟩ := sp_setDivisor hs hsm h0
    have hl4 := hl.eq (b4.2 (a + 6) (by omega))
    obtain ⟨W, c1, c2, c3⟩ := sp_setWide b3 hl4 (by omega)
    have hs6 : SumsOk a (hU h4 (a + 1) (eI 17 W)) := b3.row1 (by decide) (by decide) (fun _ _ _ => trivial) rfl
    have hd6 : DivOk a (hU h4 (a + 1) (eI 17 W)) s n sh D := b2.keep (hU_n (by omega)) (hU_n (by omega))
    obtain ⟨h7, W', G', g1, g2, g3, g4, g5, g6⟩ := sp_reduce hs6 hd6 (hU_s _ _ _) c2 c3
    have ho7 : h7.2 a = some (sumsO a (nI n) (nI sh)) := by rw [g4.2 a (by omega)]; exact hd6.1
    have hsm7 : row8 h7 (a + 7) s := hsm.eq (by rw [g4.2 _ (by omega), hU_n (by omega), b4.2 _ (by omega)])
    have hl7 : rowN h7 (a + 6) 8 := hl.row.eq (by rw [g4.2 _ (by omega), hU_n (by omega), b4.2 _ (by omega)])
    obtain ⟨h10, d1, d2, d3⟩ := sp_copy8 hsm7 hl7
    have ho10 : h10.2 a = some (sumsO a (nI n) (nI sh)) := by rw [d3.2 a (by omega)]; exact ho7
    have hw10 : h10.2 (a + 1) = some (eI 17 W') := by rw [d3.2 _ (by omega)]; exact g2
    obtain ⟨gs, hs10⟩ := (hsm7.row.eq (d3.2 (a + 7) (by omega)))
    have e1 := sp_copy hw10 hs10 (by decide) (by decide)
    refine ⟨hU h10 (a + 7) (eI 8 (fun i => if i < 8 then W' i else gs i)), ?_, ?_, d2.eq (hU_n (by omega)), ⟨_, hU_s _ _ _, ?_⟩, ?_, fun q hq => ?_⟩
    · rw [q_Sums_greatestDivisor_19, if_pos hst, gS_sma ho0, Option.bind_some, sp_isZero hs1 (by decide), Option.bind_some]
      dsimp only
      rw [hs2, decide_eq_false (by omega), if_pos bI_f, gS_sma ho0, Option.bind_some, b1, Option.bind_some, gS_lar b2.1, Option.bind_some, c1, Option.bind_some, g1, Option.bind_some, gS_sma ho7, Option.bind_some, gS_lar ho7, Option.bind_some, d1, Option.bind_some, gS_wide ho10, Option.bind_some, gS_sma ho10, Option.bind_some, e1, Option.bind_some]
    · obtain ⟨h3', h4', h5', h6'⟩ := hs6
      refine ⟨⟨_, _, by rw [hU_n (by omega)]; exact ho10⟩, ⟨W', by rw [hU_n (by omega)]; exact hw10⟩, ⟨G', by rw [hU_n (by omega), d3.2 _ (by omega)]; exact g3⟩, fun k hk1 hk2 => ?_⟩
      rcases (show k ≤ 5 ∨ k = 6 ∨ k = 7 by omega) with e | e | e
      · exact (h6' k hk1 hk2).eq (by rw [hU_n (by omega), d3.2 _ (by omega)]; exact g4.2 _ (by omega))
      · subst e
        exact d2.row.eq (hU_n (by omega))
      · subst e
        exact ⟨_, hU_s _ _ _⟩
    · rw [wv_congr (g := W') (fun i hi => if_pos hi), low8 (m := 17) (by decide) (by rw [g5]; exact Nat.lt_trans (Nat.mod_lt _ h0) hsB), g5]
    · show h10.1 = h.1
      rw [d3.1, g4.1]
      exact b4.1
    · unfold inS at hq
      rw [hU_n (by omega), d3.2 q (by omega), g4.2 q (by omega), hU_n (by omega), b4.2 q (by omega)]
theorem lp_gcd {a a1 a2 a3 : Nat} : ∀ (k : Nat), ∀ (st : Nat), st + 2 * k < 1000 → ∀ (h : dzH) (l s : Nat), s < 2 ^ k → SumsOk a h → row8 h (a + 6) l → row8 h (a + 7) s →
    ∃ h' st', dzF 40 19 [(0, .ref a), (1, .ref a1), (2, .ref a2), (3, .ref a3), (4, .int (nI st))] [] (0, 0) h = dzF 40 85 [(0, .ref a), (1, .ref a1), (2, .ref a2), (3, .ref a3), (4, .int st')] [] (0, 0) h' ∧ SumsOk a h' ∧ row8 h' (a + 6) (Nat.gcd l s) ∧ fr h h' (fun q => inS a q)
  | 0, st, hst, h, l, s, hs2, hs, hl, hsm => by
    have e0 : s = 0 := by simpa using hs2
    have h1 := (sp_euclid hs hl hsm (a1 := a1) (a2 := a2) (a3 := a3) (st := nI st) (by rw [show (1000 : Int32) = nI 1000 from rfl]; exact nI_lt (by omega) (by decide))).1 e0
    subst e0
    exact ⟨h, nI st, h1, hs, by rw [Nat.gcd_zero_right]; exact hl, fr.rf _ _⟩
  | k + 1, st, hst, h, l, s, hs2, hs, hl, hsm => by
    have h1 := sp_euclid hs hl hsm (a1 := a1) (a2 := a2) (a3 := a3) (st := nI st) (by rw [show (1000 : Int32) = nI 1000 from rfl]; exact nI_lt (by omega) (by decide))
    rcases Nat.eq_zero_or_pos s with e0 | e0
    · subst e0
      exact ⟨h, nI st, h1.1 rfl, hs, by rw [Nat.gcd_zero_right]; exact hl, fr.rf _ _⟩
    · obtain ⟨h2, g1, g2, g3, g4, g5⟩ := h1.2 e0
      have hml := Nat.mod_lt l e0
      have h3 := sp_euclid g2 g3 g4 (a1 := a1) (a2 := a2) (a3 := a3) (st := nI (st + 1)) (by rw [show (1000 : Int32) = nI 1000 from rfl]; exact nI_lt (by omega) (by decide))
      have hg1 : Nat.gcd l s = Nat.gcd s (l % s) := by rw [Nat.gcd_comm l s, Nat.gcd_rec s l, Nat.gcd_comm]
      rcases Nat.eq_zero_or_pos (l % s) with e1 | e1
      · rw [e1] at g4 hg1
        refine ⟨h2, nI (st + 1), ?_, g2, ?_, g5⟩
        · rw [g1, nI_1]
          exact h3.1 e1
        · rw [hg1, Nat.gcd_zero_right]
          exact g3
      · obtain ⟨h4, k1, k2, k3, k4, k5⟩ := h3.2 e1
        have hml2 := Nat.mod_lt s e1
        have hhalf : s % (l % s) < 2 ^ k := by
          rw [Nat.pow_succ] at hs2
          have h5 := Nat.div_add_mod s (l % s)
          have h6 : 1 ≤ s / (l % s) := (Nat.le_div_iff_mul_le e1).mpr (by omega)
          have h7 : (l % s) * 1 ≤ (l % s) * (s / (l % s)) := Nat.mul_le_mul_left _ h6
          omega
        obtain ⟨h', st', c1, c2, c3, c4⟩ := lp_gcd (a1 := a1) (a2 := a2) (a3 := a3) k (st + 1 + 1) (by omega) h4 (l % s) (s % (l % s)) hhalf k2 k3 k4
        refine ⟨h', st', ?_, c2, ?_, (g5.tr k5).tr c4⟩
        · rw [g1, nI_1, k1, nI_1]
          exact c1
        · rw [hg1, Nat.gcd_comm s, Nat.gcd_rec (l % s) s, Nat.gcd_comm]
          exact c3
theorem B8_2 : B8 = 2 ^ 256 := by
  rw [← B8_eq, show (4294967296 : Nat) = 2 ^ 32 from rfl, ← Nat.pow_mul]
theorem sp_gcd {h : dzH} {a x y t vx vy : Nat} (hs : SumsOk a h) (hx : row8 h x vx) (hy : row8 h y vy) (ht : rowN h t 8) (nx : ¬ inS a x) (ny : ¬ inS a y) (nt : ¬ inS a t) :
    ∃ h', c_Sums_greatestDivisor a x y t h = some h' ∧ row8 h' t (Nat.gcd vx vy) ∧ SumsOk a h' ∧ fr h h' (fun q => inS a q ∨ q = t) := by
  unfold inS at nx ny nt
  obtain ⟨dw0, sh0, ho0⟩ := hs.ob
  have hrows := hs.2.2.2
  obtain ⟨h2, a1, a2, a3⟩ := sp_copy8 hx (hrows 6 (by decide) (by decide))
  obtain ⟨h4, b1, b2, b3⟩ := sp_copy8 (hy.eq (a3.2 y (by omega))) ((hrows 7 (by decide) (by decide)).eq (a3.2 (a + 7) (by omega)))
  have ho2 : h2.2 a = some (sumsO a dw0 sh0) := by rw [a3.2 a (by omega)]; exact ho0
  have hs4 : SumsOk a h4 := by
    obtain ⟨⟨d, s, o⟩, p1, p2, p3⟩ := hs
    refine ⟨⟨d, s, by rw [b3.2 _ (by omega), a3.2 _ (by omega)]; exact o⟩, p1.eq (by rw [b3.2 _ (by omega), a3.2 _ (by omega)]), p2.eq (by rw [b3.2 _ (by omega), a3.2 _ (by omega)]), fun k hk1 hk2 => ?_⟩
    rcases (show k ≤ 5 ∨ k = 6 ∨ k = 7 by omega) with e | e | e
    · exact (p3 k hk1 hk2).eq (by rw [b3.2 _ (by omega), a3.2 _ (by omega)])
    · subst e
      exact a2.row.eq (b3.2 _ (by omega))
    · subst e
      exact b2.row
  have hvy := hy.lt
  rw [B8_2] at hvy
  obtain ⟨h', st', c1, c2, c3, c4⟩ := lp_gcd (a := a) (a1 := x) (a2 := y) (a3 := t) 256 0 (by decide) h4 vx vy hvy hs4 (a2.eq (b3.2 _ (by omega))) b2
  have hold : ∀ q, ¬ (a ≤ q ∧ q ≤ a + 7) → h'.2 q = h.2 q := fun q hq => by
    rw [c4.2 q hq, b3.2 q (by omega), a3.2 q (by omega)]
  obtain ⟨h9, d1, d2, d3⟩ := sp_copy8 c3 (ht.eq (hold t nt))
  obtain ⟨dw9, sh9, ho9⟩ := c2.ob
  refine ⟨h9, ?_, d2, c2.keep (fun q hq => d3.2 q (fun z => nt (z ▸ hq))), ?_, fun q hq => ?_⟩
  · rw [nI_0] at c1
    rw [cc_Sums_greatestDivisor _ _ _ _ _ ho0, q_Sums_greatestDivisor_0, gS_lar ho0, Option.bind_some, a1, Option.bind_some, gS_sma ho2, Option.bind_some, b1, Option.bind_some, c1, q_Sums_greatestDivisor_85, gS_lar ho9, Option.bind_some, d1, Option.bind_some]
    rfl
  · rw [d3.1, c4.1, b3.1, a3.1]
  · unfold inS at hq
    rw [d3.2 q (by omega), hold q (by omega)]
