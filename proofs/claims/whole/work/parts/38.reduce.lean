/-! Sums: division -/
theorem DivOk.keep {a v n sh : Nat} {h h' : dzH} {D : Nat → Int32} (hd : DivOk a h v n sh D) (h1 : h'.2 a = h.2 a) (h3 : h'.2 (a + 3) = h.2 (a + 3)) : DivOk a h' v n sh D := by
  obtain ⟨g1, g2, g3⟩ := hd
  exact ⟨by rw [h1]; exact g1, by rw [h3]; exact g2, g3⟩
/-- a number's words: those below j, those from j on -/
theorem wv_cut (W : Nat → Int32) (j n : Nat) : wv W (j + n) = wv W j + 4294967296 ^ j * wv (sl W j) n := pv_add 4294967296 (fun i => w32 (W i)) j n
theorem wv_hi0 {W : Nat → Int32} {n m : Nat} (h : wv W m < 4294967296 ^ n) : ∀ k, n ≤ k → k < m → W k = 0 := by
  intro k h1 h2
  have h3 := pv_ge (B := 4294967296) (d := fun i => w32 (W i)) (k := k) (n := m) h2
  have h4 : 4294967296 ^ n ≤ 4294967296 ^ k := Nat.pow_le_pow_right (by decide) h1
  rcases Nat.eq_zero_or_pos (w32 (W k)) with e | e
  · exact w32_eq0.mpr e
  · exfalso
    have h5 : 1 * 4294967296 ^ k ≤ w32 (W k) * 4294967296 ^ k := Nat.mul_le_mul_right _ e
    have h6 : wv W m = pv 4294967296 (fun i => w32 (W i)) m := rfl
    omega
theorem wv_hi {W : Nat → Int32} {n m : Nat} (hnm : n ≤ m) (h : ∀ k, n ≤ k → k < m → W k = 0) : wv W m = wv W n := pv_ext hnm (fun k h1 h2 => by rw [h k h1 h2]; rfl)
/-- one word of the quotient -/
theorem red_step {h : dzH} {a v n sh j : Nat} {D W : Nat → Int32} {i1 : Int32} (hd : DivOk a h v n sh D) (hw : h.2 (a + 1) = some (eI 17 W)) (hg : rowN h (a + 2) 17) (hj : j + n < 17) (hR : wv W 17 < wv D n * 4294967296 ^ (j + 1)) :
    ∃ (W' : Nat → Int32) (Q : Int64) (q : Nat), dzF 34 52 [(0, .ref a), (1, .int i1), (2, .int (nI j))] [] (0, 0) h = dzF 34 80 [(0, .ref a), (1, .int i1), (2, .int (nI j)), (3, .long Q)] [] (0, 0) (hU h (a + 1) (eI 17 W')) ∧ uN Q = q ∧ q < 4294967296 ∧ wv W 17 = wv W' 17 + q * 4294967296 ^ j * wv D n ∧ wv W' 17 < wv D n * 4294967296 ^ j := by
  have hd0 := hd
  obtain ⟨ho, hD, hn1, hn8, hsh, hDv, htop, hv, -⟩ := hd
  have hDl := wv_lt D n
  have hDpos : 0 < wv D n := by
    rw [hDv]
    exact Nat.mul_pos hv (Nat.pow_pos (by decide))
  have hRl : wv W 17 < 4294967296 ^ (j + n + 1) := by
    have h1 : wv D n * 4294967296 ^ (j + 1) ≤ 4294967296 ^ n * 4294967296 ^ (j + 1) := Nat.mul_le_mul_right _ (by omega)
    rw [← Nat.pow_add, show n + (j + 1) = j + n + 1 by omega] at h1
    omega
  have hz := wv_hi0 hRl
  have hW : wv W 17 = wv W j + 4294967296 ^ j * wv (sl W j) (n + 1) := by
    rw [wv_hi (n := j + n + 1) (by omega) hz, show j + n + 1 = j + (n + 1) by omega, wv_cut]
  have hPj : 0 < 4294967296 ^ j := Nat.pow_pos (by decide)
  have hS : wv (sl W j) (n + 1) < wv D n * 4294967296 := by
    rw [Nat.pow_succ, ← Nat.mul_assoc, Nat.mul_right_comm] at hR
    have h1 : wv (sl W j) (n + 1) * 4294967296 ^ j < wv D n * 4294967296 * 4294967296 ^ j := by
      rw [Nat.mul_comm (wv (sl W j) (n + 1))]
      omega
    exact Nat.lt_of_mul_lt_mul_right h1
  obtain ⟨T, t1, t2, t3, t4⟩ := sp_guess hd0 hw hj hS
  obtain ⟨W1, ok, k1, k2, k3⟩ := sp_take hd0 hw hj t4
  have hdm := Nat.div_add_mod (wv (sl W j) (n + 1)) (wv D n)
  have hml := Nat.mod_lt (wv (sl W j) (n + 1)) hDpos
  have hW1l := wv_lt (sl W1 j) (n + 1)
  have hDE : wv D n < 4294967296 ^ (n + 1) := Nat.lt_of_lt_of_le hDl (Nat.pow_le_pow_right (by decide) (by omega))
  have hqB : wv (sl W j) (n + 1) / wv D n < 4294967296 := Nat.div_lt_of_lt_mul hS
  -- any row with the rest in place of the slice will do
  have fin : ∀ W' : Nat → Int32, (∀ q, q < j ∨ j + n < q → W' q = W q) → wv (sl W' j) (n + 1) = wv (sl W j) (n + 1) % wv D n → wv W 17 = wv W' 17 + wv (sl W j) (n + 1) / wv D n * 4294967296 ^ j * wv D n ∧ wv W' 17 < wv D n * 4294967296 ^ j := by
    intro W' h1 h2
    have h3 : wv W' 17 = wv W j + 4294967296 ^ j * (wv (sl W j) (n + 1) % wv D n) := by
      rw [wv_hi (n := j + n + 1) (m := 17) (by omega) (fun k e1 e2 => by rw [h1 k (by omega)]; exact hz k e1 e2), show j + n + 1 = j + (n + 1) by omega, wv_cut, h2, wv_congr (f := W') (g := W) (fun k hk => h1 k (by omega))]
    have hWj := wv_lt W j
    constructor
    · rw [hW, h3]
      generalize 4294967296 ^ j = P
      have e1 : wv (sl W j) (n + 1) / wv D n * P * wv D n = P * (wv D n * (wv (sl W j) (n + 1) / wv D n)) := by
        simp only [Nat.mul_comm, Nat.mul_left_comm, Nat.mul_assoc]
      have e2 : P * wv (sl W j) (n + 1) = P * (wv D n * (wv (sl W j) (n + 1) / wv D n)) + P * (wv (sl W j) (n + 1) % wv D n) := by
        rw [← Nat.mul_add, hdm]
      omega
    · rw [h3]
      have e1 : 4294967296 ^ j * (wv (sl W j) (n + 1) % wv D n + 1) ≤ 4294967296 ^ j * wv D n := Nat.mul_le_mul_left _ hml
      rw [Nat.mul_add, Nat.mul_one] at e1
      rw [Nat.mul_comm (wv D n)]
      omega
  rw [q_Sums_reduceWide_52, if_neg (nI_pos (by omega)), t1, Option.bind_some]
  dsimp only
  rw [k1, Option.bind_some]
  dsimp only
  generalize hEe : 4294967296 ^ (n + 1) = E at k3 hW1l hDE
  generalize hSe : wv (sl W j) (n + 1) = S at t2 t3 k3 hdm hml hqB fin
  generalize hqe : S / wv D n = q at t2 t3 hdm hqB fin
  have hm1 : (q + 1) * wv D n = wv D n * q + wv D n := by rw [Nat.add_mul, Nat.one_mul, Nat.mul_comm]
  have hT : uN T = q ∨ uN T = q + 1 := by omega
  cases ok with
  | true =>
    rw [if_neg (by decide)]
    rw [if_pos rfl, Nat.add_zero] at k3
    have hTq : uN T = q := by
      rcases hT with e | e
      · exact e
      · rw [e, hm1] at k3
        omega
    rw [hTq, Nat.mul_comm q] at k3
    obtain ⟨f1, f2⟩ := fin W1 k2 (by omega)
    exact ⟨W1, T, q, rfl, hTq, hqB, f1, f2⟩
  | false =>
    rw [if_pos bI_f]
    rw [if_neg (by decide)] at k3
    have hTq : uN T = q + 1 := by
      rcases hT with e | e
      · rw [e, Nat.mul_comm q] at k3
        omega
      · exact e
    rw [hTq, hm1] at k3
    have hd1 : DivOk a (hU h (a + 1) (eI 17 W1)) v n sh D := hd0.keep (hU_n (by omega)) (hU_n (by omega))
    obtain ⟨W2, e, g1, g2, g3, g4⟩ := sp_give hd1 (hU_s _ _ _) hj
    have hW2l := wv_lt (sl W2 j) (n + 1)
    rw [g1, Option.bind_some, hU_u]
    have hval : wv (sl W2 j) (n + 1) = S % wv D n := by
      rw [hEe] at g4 hW2l
      have he : e = 1 := by
        rcases (show e = 0 ∨ e = 1 by omega) with e0 | e0
        · rw [e0, Nat.zero_mul] at g4
          omega
        · exact e0
      rw [he, Nat.one_mul] at g4
      omega
    obtain ⟨f1, f2⟩ := fin W2 (fun q hq => by rw [g2 q hq]; exact k2 q hq) hval
    refine ⟨W2, T - 1, q, rfl, ?_, hqB, f1, f2⟩
    rw [uN_sub_le (by rw [hTq]; show 1 ≤ q + 1; omega), hTq]
    show q + 1 - 1 = q
    omega
/-- the loop: what is left of W, and how often it went, in G -/
theorem lp_red {a v n sh : Nat} {D : Nat → Int32} {i1 : Int32} : ∀ (j : Nat), j + n ≤ 17 → ∀ (h : dzH) (W G : Nat → Int32), DivOk a h v n sh D → h.2 (a + 1) = some (eI 17 W) → h.2 (a + 2) = some (eI 17 G) → wv W 17 < wv D n * 4294967296 ^ j → (∀ k, k < j → G k = 0) →
    ∃ (h' : dzH) (W' G' : Nat → Int32), dzF 34 52 [(0, .ref a), (1, .int i1), (2, .int (nI j - 1))] [] (0, 0) h = some (none, h') ∧ h'.2 (a + 1) = some (eI 17 W') ∧ h'.2 (a + 2) = some (eI 17 G') ∧ fr h h' (fun q => q = a + 1 ∨ q = a + 2) ∧ wv W' 17 = wv W 17 % wv D n / 2 ^ sh ∧ wv G' 17 = wv G 17 + wv W 17 / wv D n
  | 0, hj, h, W, G, hd, hw, hg, hR, hz => by
    have hd0 := hd
    obtain ⟨ho, hD, hn1, hn8, hsh, hDv, htop, hv, -⟩ := hd
    rw [Nat.pow_zero, Nat.mul_one] at hR
    have hDl := wv_lt D n
    obtain ⟨W', g1, g2, g3⟩ := sp_down hd0 hw
    have hz0 := wv_hi0 (W := W) (n := n) (m := 17) (by omega)
    refine ⟨hU h (a + 1) (eI 17 W'), W', G, ?_, hU_s _ _ _, by rw [hU_n (by omega)]; exact hg, (fr.up _ _ _).mono (fun q hq => Or.inl hq), ?_, ?_⟩
    · rw [q_Sums_reduceWide_52, if_pos (by decide), g1, Option.bind_some]
    · rw [Nat.mod_eq_of_lt hR, wv_hi (W := W') (n := n) (m := 17) (by omega) (fun k h1 h2 => by rw [g3 k h1]; exact hz0 k h1 h2), g2, wv_hi (W := W) (n := n) (m := 17) (by omega) hz0]
    · rw [Nat.div_eq_of_lt hR, Nat.add_zero]
  | j + 1, hj, h, W, G, hd, hw, hg, hR, hz => by
    have hd0 := hd
    obtain ⟨ho, hD, hn1, hn8, hsh, hDv, htop, hv, -⟩ := hd
    have hDpos : 0 < wv D n := by
      rw [hDv]
      exact Nat.mul_pos hv (Nat.pow_pos (by decide))
    obtain ⟨W1, Q, q, s1, s2, s3, s4, s5⟩ := red_step (i1 := i1) hd0 hw ⟨G, hg⟩ (j := j) (by omega) hR
    have hg1 : (hU h (a + 1) (eI 17 W1)).2 (a + 2) = some (eI 17 G) := by rw [hU_n (by omega)]; exact hg
    have ho1 : (hU h (a + 1) (eI 17 W1)).2 a = some (sumsO a (nI n) (nI sh)) := by rw [hU_n (by omega)]; exact ho
    have em : nI j + (-1) = nI j - 1 := by rw [Int32.sub_eq_add_neg]
    obtain ⟨h', W', G', g1, g2, g3, g4, g5, g6⟩ := lp_red (v := v) (sh := sh) (D := D) (i1 := i1) j (by omega) (hU (hU h (a + 1) (eI 17 W1)) (a + 2) (eI 17 (upd G j (Int64.toInt32 Q)))) W1 (upd G j (Int64.toInt32 Q)) (hd0.keep (by rw [hU_n (by omega), hU_n (by omega)]) (by rw [hU_n (by omega), hU_n (by omega)])) (by rw [hU_n (by omega)]; exact hU_s _ _ _) (hU_s _ _ _) s5 (fun k hk => by rw [pk_un (by omega)]; exact hz k (by omega))
    refine ⟨h', W', G', ?_, g2, g3, ?_, ?_, ?_⟩
    · rw [nI_pred, s1, q_Sums_reduceWide_80, gS_goes ho1, Option.bind_some, dwI_at _ hg1 (by omega) (by decide), Option.bind_some, em]
      exact g1
    · refine ⟨g4.1, fun x hx => ?_⟩
      rw [g4.2 x hx, hU_n (fun z => hx (Or.inr z)), hU_n (fun z => hx (Or.inl z))]
    · rw [g5, s4, Nat.add_mul_mod_self_right]
    · have hmid := wv_mid (f := G) (q := j) (d := Int64.toInt32 Q) (n := 17) (by omega)
      rw [hz j (by omega), w32_0, Nat.zero_mul, Nat.add_zero, w32_l2i, s2, Nat.mod_eq_of_lt s3] at hmid
      rw [g6, hmid, s4, Nat.add_mul_div_right _ _ hDpos]
      omega
theorem sp_reduce {h : dzH} {a v n sh V : Nat} {D W : Nat → Int32} (hs : SumsOk a h) (hd : DivOk a h v n sh D) (hw : h.2 (a + 1) = some (eI 17 W)) (hV : wv W 17 = V) (hW16 : W 16 = 0) :
    ∃ (h' : dzH) (W' G' : Nat → Int32), c_Sums_reduceWide a h = some h' ∧ h'.2 (a + 1) = some (eI 17 W') ∧ h'.2 (a + 2) = some (eI 17 G') ∧ fr h h' (fun q => q = a + 1 ∨ q = a + 2) ∧ wv W' 17 = V % v ∧ wv G' 17 = V / v := by
  have hd0 := hd
  obtain ⟨ho, hD, hn1, hn8, hsh, hDv, htop, hv, hvn⟩ := hd
  obtain ⟨-, -, ⟨G0, hg0⟩, -⟩ := hs
  have h2p := pow2_le hsh
  have hu : uw W 17 ≤ 16 := by
    have h1 := uw_le W 17
    rcases (show uw W 17 ≤ 16 ∨ uw W 17 = 17 by omega) with e | e
    · exact e
    · have := uw_top W 17 (by omega)
      rw [e] at this
      exact absurd hW16 this
  have hG1 : (hU h (a + 2) (eI 17 (fun j => if j < 17 then (0 : Int32) else G0 j))).2 (a + 2) = _ := hU_s _ _ _
  have ho1 : (hU h (a + 2) (eI 17 (fun j => if j < 17 then (0 : Int32) else G0 j))).2 a = some (sumsO a (nI n) (nI sh)) := by rw [hU_n (by omega)]; exact ho
  have hw1 : (hU h (a + 2) (eI 17 (fun j => if j < 17 then (0 : Int32) else G0 j))).2 (a + 1) = some (eI 17 W) := by rw [hU_n (by omega)]; exact hw
  have hG0v : wv (fun j => if j < 17 then (0 : Int32) else G0 j) 17 = 0 := pv_zeros (fun i hi => by dsimp only; rw [if_pos hi]; rfl)
  rw [cc_Sums_reduceWide _ _ ho, q_Sums_reduceWide_0, gS_goes ho, Option.bind_some, sp_fill 0 hg0 (by decide), Option.bind_some]
  generalize hGe : (fun j => if j < 17 then (0 : Int32) else G0 j) = G at hG1 ho1 hw1 hG0v
  have hGz : ∀ k, k < 17 → G k = 0 := fun k hk => by rw [← hGe]; exact if_pos hk
  rw [gS_wide ho1, Option.bind_some, sp_used hw1 (by decide), Option.bind_some]
  dsimp only
  rw [gS_dw ho1, Option.bind_some, if_neg (nI_ne0 (by omega) (by omega)), Option.bind_some]
  by_cases hlt : uw W 17 < n
  · rw [if_pos (nI_lt hlt (by omega))]
    have hVl : V < v := by
      have h1 := wv_lt_uw W 17
      have h2 : 4294967296 ^ uw W 17 ≤ 4294967296 ^ (n - 1) := Nat.pow_le_pow_right (by decide) (by omega)
      omega
    exact ⟨_, W, G, rfl, hw1, hG1, (fr.up _ _ _).mono (fun q hq => Or.inr hq), by rw [Nat.mod_eq_of_lt hVl]; exact hV, by rw [Nat.div_eq_of_lt hVl]; exact hG0v⟩
  · rw [if_neg (nI_nlt (by omega) (by omega)), gS_wide ho1, Option.bind_some, Option.bind_some]
    obtain ⟨T, c', k1, k2, k3, k4, k5⟩ := sp_shiftUp (n := uw W 17) ho1 rfl hsh (by omega) (show uw W 17 ≤ 17 by omega) (by decide) hw1 (by omega) (by decide) hw1
    rw [k1, Option.bind_some]
    have ho2 : (hU (hU h (a + 2) (eI 17 G)) (a + 1) (eI 17 T)).2 a = some (sumsO a (nI n) (nI sh)) := by rw [hU_n (by omega)]; exact ho1
    have hg2 : (hU (hU h (a + 2) (eI 17 G)) (a + 1) (eI 17 T)).2 (a + 2) = some (eI 17 G) := by rw [hU_n (by omega)]; exact hG1
    rw [gS_dw ho2, Option.bind_some, pk_sub (by omega)]
    have hTv : wv T 17 = V * 2 ^ sh := by
      rw [wv_hi (W := T) (n := uw W 17 + 1) (m := 17) (by omega) (fun k h1 h2 => by rw [k4 k (by omega)]; exact uw_zero W 17 k (by omega) h2), wv_s, k5 (by omega), k3, ← wv_uw, hV]
    have ej : nI (uw W 17 - n) = nI (uw W 17 - n + 1) - 1 := (nI_pred _).symm
    have hRl : wv T 17 < wv D n * 4294967296 ^ (uw W 17 - n + 1) := by
      rw [hTv, hDv]
      have h1 := wv_lt_uw W 17
      rw [hV] at h1
      have h2 : 4294967296 ^ (n - 1) * 4294967296 ^ (uw W 17 - n + 1) ≤ v * 4294967296 ^ (uw W 17 - n + 1) := Nat.mul_le_mul_right _ hvn
      rw [← Nat.pow_add, show n - 1 + (uw W 17 - n + 1) = uw W 17 by omega] at h2
      rw [Nat.mul_right_comm]
      exact Nat.mul_lt_mul_of_pos_right (by omega) h2p.2
    obtain ⟨h', W', G', g1, g2, g3, g4, g5, g6⟩ := lp_red (i1 := nI (uw W 17)) (uw W 17 - n + 1) (by omega) (hU (hU h (a + 2) (eI 17 G)) (a + 1) (eI 17 T)) T G (hd0.keep (by rw [hU_n (by omega), hU_n (by omega)]) (by rw [hU_n (by omega), hU_n (by omega)])) (hU_s _ _ _) hg2 hRl (fun k hk => hGz k (by omega))
    rw [ej, g1]
    refine ⟨h', W', G', rfl, g2, g3, ⟨g4.1, fun x hx => ?_⟩, ?_, ?_⟩
    · rw [g4.2 x hx, hU_n (fun z => hx (Or.inl z)), hU_n (fun z => hx (Or.inr z))]
    · rw [g5, hTv, hDv, Nat.mul_mod_mul_right, Nat.mul_div_cancel _ h2p.2]
    · rw [g6, hG0v, Nat.zero_add, hTv, hDv, Nat.mul_div_mul_right _ _ h2p.2]
