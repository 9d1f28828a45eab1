/-! the reference: quotient and remainder -/
theorem sp_Mpart {M : Nat} {h : dzH} {g : Nat → Nat} {ix iy iq ir : Int32} {x y q r : Nat} (m : MO M h g) (ex : ix = nI x) (ey : iy = nI y) (eq : iq = nI q) (er : ir = nI r) (hx : x < 232) (hy : y < 232) (hq : q < 232) (hr : r < 232) (hqx : q ≠ x) (hqy : q ≠ y) (hrx : r ≠ x) (hry : r ≠ y) (hqr : q ≠ r) (hY : 0 < nv g y) (hX : nv g x < 65536 ^ 39) :
    ∃ g', c_M_part M ix iy iq ir h = some (hD h M g') ∧ okg g' ∧ nv g' q = nv g x / nv g y ∧ nv g' r = nv g x % nv g y ∧ ∀ z, z ≠ q → z ≠ r → nv g' z = nv g z := by
  obtain ⟨g1, a1, a2, a3, a4⟩ := sp_Mset (0 : Int64) m eq hq
  have m1 := m.up a2
  obtain ⟨g2, b1, b2, b3, b4⟩ := sp_Mcopy m1 ex er hx hr (Ne.symm hrx)
  rw [hD_u] at b1
  have m2 : MO M (hD h M g2) g2 := m.up b2
  have hx2 : nv g2 x = nv g x := by rw [b4 x (Ne.symm hrx), a4 x (Ne.symm hqx)]
  have hy2 : nv g2 y = nv g y := by rw [b4 y (Ne.symm hry), a4 y (Ne.symm hqy)]
  have hr2 : nv g2 r = nv g x := by rw [b3, a4 x (Ne.symm hqx)]
  have hq2 : nv g2 q = 0 := by rw [b4 q hqr, a3]; rfl
  have hlx : lng g2 x ≤ 39 := (lng_iff b2 x 39).mpr (by rw [hx2]; exact hX)
  have hly0 := lng_le g2 y
  have hly : lng g2 y ≠ 0 := fun e => by rw [lng_0 b2, hy2] at e; omega
  obtain ⟨p, hp⟩ : ∃ p, lng g2 y = p + 1 := ⟨lng g2 y - 1, by omega⟩
  have hyl : nvl g2 y (p + 1) = nv g2 y := by rw [← hp]; exact nvl_lng y
  have htop : 0 < g2 (40 * y + p) := by
    have h1 := du_top (fun k => g2 (40 * y + k)) 40 (by show 0 < lng g2 y; omega)
    rw [show du (fun k => g2 (40 * y + k)) 40 = p + 1 from hp] at h1
    exact Nat.pos_of_ne_zero h1
  have hq0 : ∀ j, j < 40 → g2 (40 * q + j) = 0 := fun j hj => pv_eq0 (by decide) (show pv 65536 (fun k => g2 (40 * q + k)) 40 = 0 from hq2) j hj
  have htl := b2 (40 * y + p)
  obtain ⟨fs, ho⟩ := m.1
  have hge := lng_ge (g := g2) (x := y) (by omega)
  rw [hp, Nat.add_sub_cancel, hy2] at hge
  have hltx := lng_lt b2 x
  rw [hx2] at hltx
  have head : ∀ R, dzF 111 46 [(0, .ref M), (1, .int (nI x)), (2, .int (nI y)), (3, .int (nI q)), (4, .int (nI r)), (5, .int (nI (p + 1))), (6, .int (nI (g2 (40 * y + p)))), (7, .int (nI (lng g2 x) - nI (p + 1)))] [] (0, 0) (hD h M g2) = some (none, R) → c_M_part M ix iy iq ir h = some R := fun R hR => by
    rw [cc_M_part _ _ _ _ _ _ ho, q_M_part_0, a1, Option.bind_some, b1, Option.bind_some, sp_Mlen m2 ey hy, Option.bind_some]
    dsimp only
    subst ex; subst ey; subst eq; subst er
    rw [gM m2, Option.bind_some, hp, ix40, ← Nat.add_assoc, nI_pred, rM m2 (by omega), Option.bind_some, sp_Mlen m2 rfl hx, Option.bind_some]
    dsimp only
    rw [hR]
    rfl
  rcases Nat.lt_or_ge (lng g2 x) (p + 1) with hlt | hge2
  · have hxy : nv g x < nv g y := by
      have h1 : 65536 ^ lng g2 x ≤ 65536 ^ p := Nat.pow_le_pow_right (by decide) (by omega)
      omega
    refine ⟨g2, head _ ?_, b2, by rw [hq2, Nat.div_eq_of_lt hxy], by rw [hr2, Nat.mod_eq_of_lt hxy], fun z h1 h2 => by rw [b4 z h2, a4 z h1]⟩
    rw [q_M_part_46, if_pos (pk_sneg (by omega) hlt)]
  · have hk : nI (lng g2 x) - nI (p + 1) = nI (lng g2 x - (p + 1) + 1) - 1 := by rw [nI_pred, pk_sub hge2]
    have hR : nv g2 r < nv g2 y * 65536 ^ (lng g2 x - (p + 1) + 1) := by
      rw [hr2, hy2]
      have h1 : 65536 ^ p * 65536 ^ (lng g2 x - (p + 1) + 1) ≤ nv g y * 65536 ^ (lng g2 x - (p + 1) + 1) := Nat.mul_le_mul_right _ hge
      rw [← Nat.pow_add, show p + (lng g2 x - (p + 1) + 1) = lng g2 x by omega] at h1
      omega
    obtain ⟨g', c1, c2, c3, c4, c5⟩ := lp_Mpart1 (x := x) hq hr hy hry hqy hqr (lng g2 x - (p + 1) + 1) (by omega) (hD h M g2) g2 m2 rfl htop hyl (by rw [hy2]; exact hY) hR (fun j hj => hq0 j (by omega))
    refine ⟨g', head _ ?_, c2, by rw [c3, hq2, hr2, hy2, Nat.zero_add], by rw [c4, hr2, hy2], fun z h1 h2 => by rw [c5 z h1 h2, b4 z h2, a4 z h1]⟩
    rw [hk, c1, hD_u]
