/-! the reference: a digit of the quotient -/
-- one digit of the quotient
theorem guess_le {g : Nat → Nat} (ok : okg g) {r y k p : Nat} {gs : Nat} (hgs : gs = (g (40 * r + (k + (p + 1))) * 65536 + g (40 * r + (k + p))) / (g (40 * y + p) + 1)) : gs * nvl g y (p + 1) ≤ win g r k (p + 2) ∧ (gs = 0 → 0 < g (40 * y + p) → win g r k (p + 2) < 2 * nvl g y (p + 1)) := by
  have h1 := nvl_lt ok y p
  rw [win_s, win_s, nvl_s]
  have h2 := win_lt ok r k p
  have h3 := Nat.div_mul_le_self (g (40 * r + (k + (p + 1))) * 65536 + g (40 * r + (k + p))) (g (40 * y + p) + 1)
  have h4 := Nat.lt_div_mul_add (a := g (40 * r + (k + (p + 1))) * 65536 + g (40 * r + (k + p))) (b := g (40 * y + p) + 1) (by omega)
  rw [← hgs] at h3 h4
  rw [show (65536 : Nat) ^ (p + 1) = 65536 ^ p * 65536 from rfl]
  generalize 65536 ^ p = P at h1 h2 ⊢
  generalize nvl g y p = v at h1 ⊢
  generalize win g r k p = w at h2 ⊢
  generalize g (40 * r + (k + (p + 1))) = a at h3 h4 ⊢
  generalize g (40 * r + (k + p)) = b at h3 h4 ⊢
  generalize g (40 * y + p) = t at h3 h4 ⊢
  clear hgs
  have e1 : a * (P * 65536) = a * 65536 * P := by rw [Nat.mul_comm P, Nat.mul_assoc]
  rw [e1]
  constructor
  · have h5 : gs * (v + t * P) ≤ gs * (t + 1) * P := by
      rw [Nat.mul_assoc]
      exact Nat.mul_le_mul_left _ (by rw [Nat.add_mul, Nat.one_mul]; omega)
    have h6 : gs * (t + 1) * P ≤ (a * 65536 + b) * P := Nat.mul_le_mul_right _ h3
    rw [Nat.add_mul] at h6
    omega
  · intro h0 ht
    subst h0
    have h5 : (a * 65536 + b) * P ≤ t * P := Nat.mul_le_mul_right _ (by omega)
    rw [Nat.add_mul] at h5
    have h6 : 1 * P ≤ t * P := Nat.mul_le_mul_right _ ht
    omega
theorem div_sub {W Y gs : Nat} (hY : 0 < Y) (h : gs * Y ≤ W) : (W - gs * Y) / Y = W / Y - gs ∧ (W - gs * Y) % Y = W % Y := by
  obtain ⟨d, hd⟩ := Nat.le.dest h
  subst hd
  rw [Nat.add_comm (gs * Y) d, Nat.add_sub_cancel, Nat.add_mul_div_right _ _ hY, Nat.add_mul_mod_self_right, Nat.add_sub_cancel]
  exact ⟨rfl, rfl⟩
theorem lp_Mpart2 {M r y k p x q : Nat} {t : Nat} (hr : r < 232) (hy : y < 232) (hry : r ≠ y) (hk : k + (p + 1) < 40) : ∀ (w : Nat) (h : dzH) (g : Nat → Nat) (all gs : Nat), MO M h g → win g r k (p + 2) ≤ w → t = g (40 * y + p) → 0 < t → 0 < nvl g y (p + 1) → gs = (g (40 * r + (k + (p + 1))) * 65536 + g (40 * r + (k + p))) / (t + 1) →
    ∃ g' gs', dzF 111 71 [(0, .ref M), (1, .int (nI x)), (2, .int (nI y)), (3, .int (nI q)), (4, .int (nI r)), (5, .int (nI (p + 1))), (6, .int (nI t)), (7, .int (nI k)), (8, .int (nI all)), (9, .int (nI gs))] [] (0, 0) h = dzF 111 145 [(0, .ref M), (1, .int (nI x)), (2, .int (nI y)), (3, .int (nI q)), (4, .int (nI r)), (5, .int (nI (p + 1))), (6, .int (nI t)), (7, .int (nI k)), (8, .int (nI (all + win g r k (p + 2) / nvl g y (p + 1)))), (9, .int gs')] [] (0, 0) (hD h M g') ∧ okg g' ∧ (∀ j, ¬ (40 * r + k ≤ j ∧ j ≤ 40 * r + (k + (p + 1))) → g' j = g j) ∧ win g' r k (p + 2) = win g r k (p + 2) % nvl g y (p + 1)
  | w, h, g, all, gs, m, hw, ht, ht0, hY, hgs => by
    have hg0 := hgs
    have htl : t < 65536 := by rw [ht]; exact m.ok _
    rw [ht] at hgs
    obtain ⟨hle, h2Y⟩ := guess_le m.ok (r := r) (y := y) (k := k) (p := p) hgs
    have h1 := m.ok (40 * r + (k + (p + 1)))
    have h2 := m.ok (40 * r + (k + p))
    have hgl : gs < 2147483648 := by
      rw [hg0]
      apply Nat.div_lt_of_lt_mul
      have : 2 * 2147483648 ≤ (t + 1) * 2147483648 := Nat.mul_le_mul_right _ (by omega)
      omega
    rcases Nat.eq_zero_or_pos gs with e0 | e0
    · have hlt := h2Y e0 (by rw [← ht]; exact ht0)
      subst e0
      rw [q_M_part_71, if_pos (by decide), sp_Mover m hr hy hk, Option.bind_some]
      dsimp only
      by_cases hge : nvl g y (p + 1) ≤ win g r k (p + 2)
      · obtain ⟨g', a1, a2, a3, a4⟩ := sp_Maway (many := 1) m hr hy hry hk (by decide) (by rw [Nat.one_mul]; exact hge)
        rw [decide_eq_true hge, if_neg (by decide), show (1 : Int32) = nI 1 from rfl, a1, Option.bind_some, nI_add]
        have e1 : win g r k (p + 2) / nvl g y (p + 1) = 1 := Nat.div_eq_of_lt_le (by omega) (by omega)
        have e2 : win g r k (p + 2) % nvl g y (p + 1) = win g r k (p + 2) - nvl g y (p + 1) := by rw [Nat.mod_eq_sub_mod hge, Nat.mod_eq_of_lt (by omega)]
        refine ⟨g', nI 0, by rw [e1], a2, a3, by rw [a4, e2, Nat.one_mul]⟩
      · rw [decide_eq_false hge, if_pos bI_f]
        refine ⟨g, nI 0, by rw [Nat.div_eq_of_lt (by omega), show all + 0 = all from rfl, m.id], m.ok, fun _ _ => rfl, (Nat.mod_eq_of_lt (by omega)).symm⟩
    · obtain ⟨g1, a1, a2, a3, a4⟩ := sp_Maway (many := gs) m hr hy hry hk hgl hle
      have a5 : win g1 r k (p + 2) = win g r k (p + 2) - gs * nvl g y (p + 1) := a4
      have hle : gs * nvl g y (p + 1) ≤ win g r k (p + 2) := hle
      obtain ⟨d1, d2⟩ := div_sub hY hle
      have hpos : 1 * nvl g y (p + 1) ≤ gs * nvl g y (p + 1) := Nat.mul_le_mul_right _ e0
      have hyd : ∀ j, j < p + 1 → g1 (40 * y + j) = g (40 * y + j) := fun j hj => a3 _ (by omega)
      have hY1 : nvl g1 y (p + 1) = nvl g y (p + 1) := pv_congr (fun j hj => hyd j hj)
      have m1 := m.up a2
      have hg1 := sp_Mguess (im := nI (p + 1)) m1 (r := r) (p := k + p) (top := t) hr (by omega) htl
      obtain ⟨g', gs', b1, b2, b3, b4⟩ := lp_Mpart2 (x := x) (q := q) hr hy hry hk (w - 1) (hD h M g1) g1 (all + gs) _ m1 (by omega) (by rw [hyd p (by omega)]; exact ht) ht0 (by rw [hY1]; exact hY) rfl
      refine ⟨g', gs', ?_, b2, fun j hj => by rw [b3 j hj, a3 j hj], ?_⟩
      · rw [q_M_part_71, if_neg (nI_nle e0 hgl), a1, Option.bind_some, nI_add, ← Nat.add_assoc k p 1] 
        rw [hg1, Option.bind_some, nI_add]
        dsimp only
        rw [Nat.add_assoc k p 1, b1, hD_u]
        have e1 : all + gs + win g1 r k (p + 2) / nvl g1 y (p + 1) = all + win g r k (p + 2) / nvl g y (p + 1) := by
          rw [hY1, a5, d1]
          have : gs ≤ win g r k (p + 2) / nvl g y (p + 1) := (Nat.le_div_iff_mul_le hY).mpr hle
          omega
        rw [e1]
      · rw [b4, hY1, a5, d2]
  termination_by w => w
  decreasing_by omega
