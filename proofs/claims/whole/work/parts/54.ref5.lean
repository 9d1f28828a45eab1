/-! the reference: all digits of the quotient -/
theorem lp_Mpart1 {M x y q r p : Nat} {t : Nat} (hq : q < 232) (hr : r < 232) (hy : y < 232) (hry : r ≠ y) (hqy : q ≠ y) (hqr : q ≠ r) : ∀ (kk : Nat), kk + (p + 1) ≤ 40 → ∀ (h : dzH) (g : Nat → Nat), MO M h g → t = g (40 * y + p) → 0 < t → nvl g y (p + 1) = nv g y → 0 < nv g y → nv g r < nv g y * 65536 ^ kk → (∀ j, j < kk → g (40 * q + j) = 0) →
    ∃ g', dzF 111 46 [(0, .ref M), (1, .int (nI x)), (2, .int (nI y)), (3, .int (nI q)), (4, .int (nI r)), (5, .int (nI (p + 1))), (6, .int (nI t)), (7, .int (nI kk - 1))] [] (0, 0) h = some (none, hD h M g') ∧ okg g' ∧ nv g' q = nv g q + nv g r / nv g y ∧ nv g' r = nv g r % nv g y ∧ ∀ z, z ≠ q → z ≠ r → nv g' z = nv g z
  | 0, hkk, h, g, m, ht, ht0, hyl, hY, hR, hq0 => by
    rw [Nat.pow_zero, Nat.mul_one] at hR
    refine ⟨g, ?_, m.ok, by rw [Nat.div_eq_of_lt hR, Nat.add_zero], (Nat.mod_eq_of_lt hR).symm, fun _ _ _ => rfl⟩
    rw [q_M_part_46, if_pos (by decide), m.id]
  | k + 1, hkk, h, g, m, ht, ht0, hyl, hY, hR, hq0 => by
    have htl : t < 65536 := by rw [ht]; exact m.ok _
    have hYlt : nv g y < 65536 ^ (p + 1) := by rw [← hyl]; exact nvl_lt m.ok y (p + 1)
    have hRlt : nv g r < 65536 ^ (k + (p + 2)) := by
      have h1 : nv g y * 65536 ^ (k + 1) ≤ 65536 ^ (p + 1) * 65536 ^ (k + 1) := Nat.mul_le_mul_right _ (Nat.le_of_lt hYlt)
      rw [← Nat.pow_add, show p + 1 + (k + 1) = k + (p + 2) by omega] at h1
      omega
    have hz : ∀ j, k + (p + 2) ≤ j → j < 40 → g (40 * r + j) = 0 := pv_hi0 (by decide) hRlt
    have hsp := nv_split (g := g) (r := r) (k := k) (n := p + 2) (by omega) hz
    have hlow := nvl_lt m.ok r k
    -- the quotient's digit
    have hWY : win g r k (p + 2) / nv g y < 65536 := by
      apply Nat.div_lt_of_lt_mul
      rw [hsp, Nat.pow_succ, ← Nat.mul_assoc, Nat.mul_comm (nv g y * _) 65536, Nat.mul_comm (nv g y), ← Nat.mul_assoc, Nat.mul_comm 65536, Nat.mul_assoc] at hR
      rw [Nat.mul_comm]
      exact Nat.lt_of_mul_lt_mul_left (a := 65536 ^ k) (by omega)
    obtain ⟨g1, gs', a1, a2, a3, a4⟩ := lp_Mpart2 (x := x) (q := q) hr hy hry (show k + (p + 1) < 40 by omega) _ h g 0 _ m (Nat.le_refl _) ht ht0 (by rw [hyl]; exact hY) rfl
    rw [hyl] at a1 a4
    rw [Nat.zero_add] at a1
    have m1 := m.up a2
    generalize hD' : win g r k (p + 2) / nv g y = D at a1 hWY
    have hok : okg (gu g1 (40 * q + k) D) := a2.u hWY
    have m2 := m1.up hok
    have hq1 : ∀ j, j < 40 → g1 (40 * q + j) = g (40 * q + j) := fun j hj => a3 _ (by omega)
    have hy1 : ∀ j, j < 40 → gu g1 (40 * q + k) D (40 * y + j) = g (40 * y + j) := fun j hj => by rw [gu_n (by omega), a3 _ (by omega)]
    have hyv : nv (gu g1 (40 * q + k) D) y = nv g y := pv_congr hy1
    have hr1 : ∀ j, j < 40 → gu g1 (40 * q + k) D (40 * r + j) = g1 (40 * r + j) := fun j hj => gu_n (by omega)
    have hrv : nv (gu g1 (40 * q + k) D) r = nv g1 r := pv_congr hr1
    have hsp1 := nv_split (g := g1) (r := r) (k := k) (n := p + 2) (by omega) (fun j h1 h2 => by rw [a3 _ (by omega)]; exact hz j h1 h2)
    have hl1 : nvl g1 r k = nvl g r k := pv_congr (fun j hj => a3 _ (by omega))
    rw [hl1, a4] at hsp1
    have hdm := Nat.div_add_mod (win g r k (p + 2)) (nv g y)
    rw [hD'] at hdm
    -- what is left
    have hR1 : nv g1 r < nv g y * 65536 ^ k := by
      have h1 := Nat.mod_lt (win g r k (p + 2)) hY
      have h2 : 65536 ^ k * (win g r k (p + 2) % nv g y + 1) ≤ 65536 ^ k * nv g y := Nat.mul_le_mul_left _ h1
      rw [Nat.mul_add, Nat.mul_one, Nat.mul_comm _ (nv g y)] at h2
      omega
    have hqv : nv (gu g1 (40 * q + k) D) q = nv g q + D * 65536 ^ k := by
      have h1 := nv_mid (g := g1) (x := q) (i := k) (v := D) (by omega)
      rw [hq1 k (by omega), hq0 k (by omega), Nat.zero_mul, Nat.add_zero, show nv g1 q = nv g q from pv_congr hq1] at h1
      exact h1
    obtain ⟨g', b1, b2, b3, b4, b5⟩ := lp_Mpart1 (x := x) (p := p) (t := t) hq hr hy hry hqy hqr k (by omega) (hD (hD h M g1) M (gu g1 (40 * q + k) D)) _ m2 (by rw [hy1 p (by omega)]; exact ht) ht0 (by rw [hyv, ← hyl]; exact pv_congr (fun j hj => hy1 j (by omega))) (by rw [hyv]; exact hY) (by rw [hrv, hyv]; exact hR1) (fun j hj => by rw [gu_n (by omega), hq1 j (by omega)]; exact hq0 j (by omega))
    have hRR : nv g r = nv g1 r + D * 65536 ^ k * nv g y := by
      rw [hsp, hsp1, Nat.add_assoc]
      congr 1
      rw [← hdm, Nat.mul_add, Nat.add_comm, hdm]
      congr 1
      simp only [Nat.mul_comm, Nat.mul_left_comm, Nat.mul_assoc]
    refine ⟨g', ?_, b2, ?_, ?_, fun z h1 h2 => ?_⟩
    · have em : nI k + (-1) = nI k - 1 := by rw [Int32.sub_eq_add_neg]
      have hgu := sp_Mguess (im := nI (p + 1)) m (r := r) (p := k + p) (top := t) hr (by omega) htl
      rw [nI_pred, q_M_part_46, if_neg (nI_pos (by omega)), nI_add, ← Nat.add_assoc, hgu, Option.bind_some]
      dsimp only
      rw [Nat.add_assoc, show (0 : Int32) = nI 0 from rfl, a1, q_M_part_145, gM m1, Option.bind_some, ix40, wM m1 (by omega), Option.bind_some, em, b1, hD_u, hD_u]
    · rw [b3, hqv, hrv, hyv, hRR, Nat.add_mul_div_right _ _ hY]
      omega
    · rw [b4, hrv, hyv, hRR, Nat.add_mul_mod_self_right]
    · rw [b5 z h1 h2, nv_out (z := q) (fun j hj => gu_n (by unfold slt at hj; omega)) h1]
      exact pv_congr (fun j hj => a3 _ (by omega))
