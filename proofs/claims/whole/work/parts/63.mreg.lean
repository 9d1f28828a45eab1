/-! the reference's calls on registers -/
section
variable {M : Nat} {h : dzH} {o : Nat → Int32} {g : Nat → Nat} {T : Nat → Int32} {F : Nat → Nat → Int32}
theorem mS_ob (h : dzH) (M : Nat) (o : Nat → Int32) (g : Nat → Nat) (T : Nat → Int32) (F : Nat → Nat → Int32) : ∃ fs, (mS h M o g T F).2 M = some (eO 1 fs) := ⟨_, mS_0 h M o g T F⟩
def MTo (M : Nat) (h : dzH) (o : Nat → Int32) (g : Nat → Nat) (T : Nat → Int32) (F : Nat → Nat → Int32) (h' : dzH) (R' : Nat → Nat) : Prop := ∃ g', h' = mS h M o g' T F ∧ okg g' ∧ (∀ x, 20 ≤ x → nv g' x = nv g x) ∧ ∀ r, r < 8 → nv g' r = R' r
theorem MTo.same (ok : okg g) {R : Nat → Nat} (hR : ∀ r, r < 8 → nv g r = R r) : MTo M h o g T F (mS h M o g T F) R := ⟨g, rfl, ok, fun _ _ => rfl, hR⟩
theorem lt39 {x : Nat} (h : x < B8 + B8) : x < 65536 ^ 40 := by
  refine Nat.lt_of_lt_of_le h ?_
  have h1 : B8 + B8 ≤ 65536 * B8 := by have := B8_pos; omega
  rw [← B8_16, Nat.mul_comm] at h1
  rw [← B8_16]
  refine Nat.le_trans h1 ?_
  rw [← Nat.pow_succ]
  exact Nat.pow_le_pow_right (by decide) (by decide)
/-- slot 8 goes to a register, if it is a number -/
theorem rf_give (ok : okg g) {t : Nat} (ht : t < 8) : ∃ g', c_M_give M (8 : Int32) (nI t) (mS h M o g T F) = some (if nv g 8 < B8 then 0 else -3, mS h M o g' T F) ∧ okg g' ∧ (nv g 8 < B8 → nv g' t = nv g 8 ∧ ∀ x, x ≠ t → nv g' x = nv g x) ∧ (¬ nv g 8 < B8 → g' = g) := by
  obtain ⟨fs, ho⟩ := mS_ob h M o g T F
  have m := mS_MO (h := h) (M := M) (o := o) (T := T) (F := F) ok
  rw [cc_M_give _ _ _ _ ho, q_M_give_0, sp_Mfits m (show (8 : Int32) = nI 8 from rfl) (by decide), Option.bind_some]
  dsimp only
  by_cases hlt : nv g 8 < B8
  · obtain ⟨g', a1, a2, a3, a4⟩ := sp_Mcopy m (show (8 : Int32) = nI 8 from rfl) (iy := nI t) rfl (by decide) (by omega) (by omega)
    rw [hD_mS] at a1
    rw [decide_eq_true hlt, if_neg bI_n1, a1, Option.bind_some, if_pos hlt]
    exact ⟨g', rfl, a2, fun _ => ⟨a3, a4⟩, fun q => absurd hlt q⟩
  · rw [decide_eq_false hlt, if_pos bI_f, if_neg hlt]
    exact ⟨g, rfl, ok, fun q => absurd q hlt, fun _ => rfl⟩
theorem rf_add (ok : okg g) {R : Nat → Nat} (hR : ∀ r, r < 8 → nv g r = R r) (hB : ∀ r, r < 8 → R r < B8) {a b t : Nat} (ha : a < 8) (hb : b < 8) (ht : t < 8) :
    ∃ h', c_M_add M (nI a) (nI b) (nI t) (mS h M o g T F) = some (if R a + R b < B8 then 0 else -3, h') ∧ MTo M h o g T F h' (if R a + R b < B8 then gu R t (R a + R b) else R) := by
  obtain ⟨fs, ho⟩ := mS_ob h M o g T F
  have m := mS_MO (h := h) (M := M) (o := o) (T := T) (F := F) ok
  obtain ⟨g1, a1, a2, a3, a4⟩ := sp_Mcopy m (ix := nI a) rfl (show (8 : Int32) = nI 8 from rfl) (by omega) (by decide) (by omega)
  rw [hD_mS] at a1
  have m1 := mS_MO (h := h) (M := M) (o := o) (T := T) (F := F) a2
  have e8 : nv g1 8 = R a := by rw [a3, hR a ha]
  have eb : nv g1 b = R b := by rw [a4 b (by omega), hR b hb]
  obtain ⟨g2, b1, b2, b3, b4⟩ := sp_Mraise m1 (show (8 : Int32) = nI 8 from rfl) (iy := nI b) rfl (by decide) (by omega) (by omega) (by rw [e8, eb]; exact lt39 (Nat.add_lt_add (hB a ha) (hB b hb)))
  rw [hD_mS] at b1
  rw [e8, eb] at b3
  obtain ⟨g3, c1, c2, c3, c4⟩ := rf_give (M := M) (h := h) (o := o) (T := T) (F := F) b2 ht
  rw [b3] at c1 c3 c4
  rw [cc_M_add _ _ _ _ _ ho, q_M_add_0, sp_Mare, Option.bind_some, are_t ha hb ht]
  dsimp only
  rw [if_neg bI_n1, a1, Option.bind_some, b1, Option.bind_some, c1, Option.bind_some]
  refine ⟨_, rfl, g3, rfl, c2, fun x hx => ?_, fun r hr => ?_⟩
  · by_cases hlt : R a + R b < B8
    · rw [(c3 hlt).2 x (by omega), b4 x (by omega), a4 x (by omega)]
    · rw [c4 hlt, b4 x (by omega), a4 x (by omega)]
  · by_cases hlt : R a + R b < B8
    · rw [if_pos hlt]
      by_cases e : r = t
      · subst e
        rw [gu_s, (c3 hlt).1]
      · rw [gu_n e, (c3 hlt).2 r e, b4 r (by omega), a4 r (by omega), hR r hr]
    · rw [if_neg hlt, c4 hlt, b4 r (by omega), a4 r (by omega), hR r hr]
theorem rf_sub (ok : okg g) {R : Nat → Nat} (hR : ∀ r, r < 8 → nv g r = R r) (hB : ∀ r, r < 8 → R r < B8) {a b t : Nat} (ha : a < 8) (hb : b < 8) (ht : t < 8) :
    ∃ h', c_M_subtract M (nI a) (nI b) (nI t) (mS h M o g T F) = some (if R b ≤ R a then 0 else -2, h') ∧ MTo M h o g T F h' (if R b ≤ R a then gu R t (R a - R b) else R) := by
  obtain ⟨fs, ho⟩ := mS_ob h M o g T F
  have m := mS_MO (h := h) (M := M) (o := o) (T := T) (F := F) ok
  rw [cc_M_subtract _ _ _ _ _ ho, q_M_subtract_0, sp_Mare, Option.bind_some, are_t ha hb ht]
  dsimp only
  rw [if_neg bI_n1, sp_Morder m rfl rfl (by omega) (by omega), Option.bind_some]
  dsimp only
  rw [hR a ha, hR b hb]
  by_cases hlt : R b ≤ R a
  · obtain ⟨g1, a1, a2, a3, a4⟩ := sp_Mcopy m (ix := nI a) rfl (show (8 : Int32) = nI 8 from rfl) (by omega) (by decide) (by omega)
    rw [hD_mS] at a1
    have m1 := mS_MO (h := h) (M := M) (o := o) (T := T) (F := F) a2
    have e8 : nv g1 8 = R a := by rw [a3, hR a ha]
    have eb : nv g1 b = R b := by rw [a4 b (by omega), hR b hb]
    obtain ⟨g2, b1, b2, b3, b4⟩ := sp_Mlower m1 (show (8 : Int32) = nI 8 from rfl) (iy := nI b) rfl (by decide) (by omega) (by omega) (by rw [e8, eb]; exact hlt)
    rw [hD_mS] at b1
    rw [e8, eb] at b3
    obtain ⟨g3, c1, c2, c3, c4⟩ := rf_give (M := M) (h := h) (o := o) (T := T) (F := F) b2 ht
    have hlt2 : R a - R b < B8 := Nat.lt_of_le_of_lt (Nat.sub_le _ _) (hB a ha)
    rw [b3] at c1 c3
    rw [if_pos hlt2] at c1
    obtain ⟨d1, d2⟩ := c3 hlt2
    rw [if_neg (fun q => by have := ordI_lt.mp q; omega), a1, Option.bind_some, b1, Option.bind_some, c1, Option.bind_some, if_pos hlt, if_pos hlt]
    refine ⟨_, rfl, g3, rfl, c2, fun x hx => by rw [d2 x (by omega), b4 x (by omega), a4 x (by omega)], fun r hr => ?_⟩
    by_cases e : r = t
    · subst e
      rw [gu_s, d1]
    · rw [gu_n e, d2 r e, b4 r (by omega), a4 r (by omega), hR r hr]
  · rw [if_pos (ordI_lt.mpr (by omega)), if_neg hlt, if_neg hlt]
    exact ⟨_, rfl, .same ok hR⟩
theorem rf_mul (ok : okg g) {R : Nat → Nat} (hR : ∀ r, r < 8 → nv g r = R r) (hB : ∀ r, r < 8 → R r < B8) {a b t : Nat} (ha : a < 8) (hb : b < 8) (ht : t < 8) :
    ∃ h', c_M_multiply M (nI a) (nI b) (nI t) (mS h M o g T F) = some (if R a * R b < B8 then 0 else -3, h') ∧ MTo M h o g T F h' (if R a * R b < B8 then gu R t (R a * R b) else R) := by
  obtain ⟨fs, ho⟩ := mS_ob h M o g T F
  have m := mS_MO (h := h) (M := M) (o := o) (T := T) (F := F) ok
  obtain ⟨g2, b1, b2, b3, b4⟩ := sp_Mtimes m (ix := nI a) (iy := nI b) rfl rfl (show (8 : Int32) = nI 8 from rfl) (by omega) (by omega) (by decide) (by omega) (by omega) (by rw [hR a ha]; exact hB a ha) (by rw [hR b hb]; exact hB b hb)
  rw [hD_mS] at b1
  rw [hR a ha, hR b hb] at b3
  obtain ⟨g3, c1, c2, c3, c4⟩ := rf_give (M := M) (h := h) (o := o) (T := T) (F := F) b2 ht
  rw [b3] at c1 c3 c4
  rw [cc_M_multiply _ _ _ _ _ ho, q_M_multiply_0, sp_Mare, Option.bind_some, are_t ha hb ht]
  dsimp only
  rw [if_neg bI_n1, b1, Option.bind_some, c1, Option.bind_some]
  refine ⟨_, rfl, g3, rfl, c2, fun x hx => ?_, fun r hr => ?_⟩
  · by_cases hlt : R a * R b < B8
    · rw [(c3 hlt).2 x (by omega), b4 x (by omega)]
    · rw [c4 hlt, b4 x (by omega)]
  · by_cases hlt : R a * R b < B8
    · rw [if_pos hlt]
      by_cases e : r = t
      · subst e
        rw [gu_s, (c3 hlt).1]
      · rw [gu_n e, (c3 hlt).2 r e, b4 r (by omega), hR r hr]
    · rw [if_neg hlt, c4 hlt, b4 r (by omega), hR r hr]
theorem rf_div (ok : okg g) {R : Nat → Nat} (hR : ∀ r, r < 8 → nv g r = R r) (hB : ∀ r, r < 8 → R r < B8) {a b t s : Nat} (ha : a < 8) (hb : b < 8) (ht : t < 8) (hs : s < 8) (hts : t ≠ s) :
    ∃ h', c_M_divide M (nI a) (nI b) (nI t) (nI s) (mS h M o g T F) = some (if R b = 0 then -2 else 0, h') ∧ MTo M h o g T F h' (if R b = 0 then R else gu (gu R s (R a % R b)) t (R a / R b)) := by
  obtain ⟨fs, ho⟩ := mS_ob h M o g T F
  have m := mS_MO (h := h) (M := M) (o := o) (T := T) (F := F) ok
  rw [cc_M_divide _ _ _ _ _ _ ho, q_M_divide_0, sp_Mare, Option.bind_some, are_t ha hb ht]
  dsimp only
  rw [if_neg bI_n1, sp_MisReg, Option.bind_some, isReg_nI hs]
  dsimp only
  rw [if_neg bI_n1, if_neg (fun q => hts ((nI_eq (by omega) (by omega)).mp q)), sp_MisZero m rfl (by omega), Option.bind_some]
  dsimp only
  rw [hR b hb]
  by_cases h0 : R b = 0
  · rw [decide_eq_true h0, if_neg bI_n1, if_pos h0, if_pos h0]
    exact ⟨_, rfl, .same ok hR⟩
  · obtain ⟨g1, a1, a2, a3, a4, a5⟩ := sp_Mpart m (ix := nI a) (iy := nI b) rfl rfl (show (8 : Int32) = nI 8 from rfl) (show (9 : Int32) = nI 9 from rfl) (by omega) (by omega) (by decide) (by decide) (by omega) (by omega) (by omega) (by omega) (by decide) (by rw [hR b hb]; omega) (by rw [hR a ha]; exact ltB8 (hB a ha))
    rw [hD_mS] at a1
    rw [hR a ha, hR b hb] at a3 a4
    have m1 := mS_MO (h := h) (M := M) (o := o) (T := T) (F := F) a2
    obtain ⟨g2, b1, b2, b3, b4⟩ := sp_Mcopy m1 (show (8 : Int32) = nI 8 from rfl) (iy := nI t) rfl (by decide) (by omega) (by omega)
    rw [hD_mS] at b1
    have m2 := mS_MO (h := h) (M := M) (o := o) (T := T) (F := F) b2
    obtain ⟨g3, c1, c2, c3, c4⟩ := sp_Mcopy m2 (show (9 : Int32) = nI 9 from rfl) (iy := nI s) rfl (by decide) (by omega) (by omega)
    rw [hD_mS] at c1
    rw [decide_eq_false h0, if_pos bI_f, a1, Option.bind_some, b1, Option.bind_some, c1, Option.bind_some, if_neg h0, if_neg h0]
    refine ⟨_, rfl, g3, rfl, c2, fun x hx => by rw [c4 x (by omega), b4 x (by omega), a5 x (by omega) (by omega)], fun r hr => ?_⟩
    by_cases e : r = t
    · subst e
      rw [gu_s, c4 r hts, b3, a3]
    · rw [gu_n e]
      by_cases e2 : r = s
      · subst e2
        rw [gu_s, c3, b4 9 (by omega), a4]
      · rw [gu_n e2, c4 r e2, b4 r e, a5 r (by omega) (by omega), hR r hr]
theorem rf_pow (ok : okg g) (h21 : nv g 21 = 1) {R : Nat → Nat} (hR : ∀ r, r < 8 → nv g r = R r) (hB : ∀ r, r < 8 → R r < B8) {a b m t : Nat} (ha : a < 8) (hb : b < 8) (hm : m < 8) (ht : t < 8) :
    ∃ h', c_M_power M (nI a) (nI b) (nI m) (nI t) (mS h M o g T F) = some (if R m = 0 then -2 else 0, h') ∧ MTo M h o g T F h' (if R m = 0 then R else gu R t (R a ^ R b % R m)) := by
  obtain ⟨fs, ho⟩ := mS_ob h M o g T F
  have mm := mS_MO (h := h) (M := M) (o := o) (T := T) (F := F) ok
  rw [cc_M_power _ _ _ _ _ _ ho, q_M_power_0, sp_Mare, Option.bind_some, are_t ha hb hm]
  dsimp only
  rw [if_neg bI_n1, sp_MisReg, Option.bind_some, isReg_nI ht]
  dsimp only
  rw [if_neg bI_n1, sp_MisZero mm rfl (by omega), Option.bind_some]
  dsimp only
  rw [hR m hm]
  by_cases h0 : R m = 0
  · rw [decide_eq_true h0, if_neg bI_n1, if_pos h0, if_pos h0]
    exact ⟨_, rfl, .same ok hR⟩
  · obtain ⟨g1, a1, a2, a3, a4⟩ := sp_MraiseTo mm (ix := nI a) (iy := nI b) (im := nI m) rfl rfl rfl (show (8 : Int32) = nI 8 from rfl) (by omega) (by omega) (by omega) (by decide) (by omega) (by omega) (by decide) (by decide) (by decide) (by decide) (by omega) (by omega) (by omega) (by omega) (by omega) (by omega) (by omega) (by omega) (by rw [hR m hm]; omega) (by rw [hR m hm]; exact hB m hm) (by rw [hR a ha]; exact hB a ha) h21
    rw [hD_mS] at a1
    rw [hR a ha, hR b hb, hR m hm] at a3
    have m1 := mS_MO (h := h) (M := M) (o := o) (T := T) (F := F) a2
    obtain ⟨g2, b1, b2, b3, b4⟩ := sp_Mcopy m1 (show (8 : Int32) = nI 8 from rfl) (iy := nI t) rfl (by decide) (by omega) (by omega)
    rw [hD_mS] at b1
    rw [decide_eq_false h0, if_pos bI_f, a1, Option.bind_some, b1, Option.bind_some, if_neg h0, if_neg h0]
    refine ⟨_, rfl, g2, rfl, b2, fun x hx => by rw [b4 x (by omega), a4 x (by omega) (by omega) (by omega) (by omega)], fun r hr => ?_⟩
    by_cases e : r = t
    · subst e
      rw [gu_s, b3, a3]
    · rw [gu_n e, b4 r e, a4 r (by omega) (by omega) (by omega) (by omega), hR r hr]
theorem rf_com (ok : okg g) {R : Nat → Nat} (hR : ∀ r, r < 8 → nv g r = R r) (hB : ∀ r, r < 8 → R r < B8) {a b t : Nat} (ha : a < 8) (hb : b < 8) (ht : t < 8) :
    ∃ h', c_M_common M (nI a) (nI b) (nI t) (mS h M o g T F) = some (0, h') ∧ MTo M h o g T F h' (gu R t (Nat.gcd (R a) (R b))) := by
  obtain ⟨fs, ho⟩ := mS_ob h M o g T F
  have m := mS_MO (h := h) (M := M) (o := o) (T := T) (F := F) ok
  obtain ⟨g1, a1, a2, a3, a4⟩ := sp_Mdivisor m (ix := nI a) (iy := nI b) rfl rfl (show (8 : Int32) = nI 8 from rfl) (by omega) (by omega) (by decide) (by decide) (by decide) (by decide) (by omega) (by omega) (by omega) (by rw [hR a ha]; exact hB a ha) (by rw [hR b hb]; exact hB b hb)
  rw [hD_mS] at a1
  rw [hR a ha, hR b hb] at a3
  have m1 := mS_MO (h := h) (M := M) (o := o) (T := T) (F := F) a2
  obtain ⟨g2, b1, b2, b3, b4⟩ := sp_Mcopy m1 (show (8 : Int32) = nI 8 from rfl) (iy := nI t) rfl (by decide) (by omega) (by omega)
  rw [hD_mS] at b1
  rw [cc_M_common _ _ _ _ _ ho, q_M_common_0, sp_Mare, Option.bind_some, are_t ha hb ht]
  dsimp only
  rw [if_neg bI_n1, a1, Option.bind_some, b1, Option.bind_some]
  refine ⟨_, rfl, g2, rfl, b2, fun x hx => by rw [b4 x (by omega), a4 x (by omega) (by omega) (by omega) (by omega)], fun r hr => ?_⟩
  by_cases e : r = t
  · subst e
    rw [gu_s, b3, a3]
  · rw [gu_n e, b4 r e, a4 r (by omega) (by omega) (by omega) (by omega), hR r hr]
theorem rf_cmp (ok : okg g) {R : Nat → Nat} (hR : ∀ r, r < 8 → nv g r = R r) {a b : Nat} (ha : a < 8) (hb : b < 8) : c_M_compare M (nI a) (nI b) (mS h M o g T F) = some (ordI (R a) (R b), mS h M o g T F) := by
  obtain ⟨fs, ho⟩ := mS_ob h M o g T F
  have m := mS_MO (h := h) (M := M) (o := o) (T := T) (F := F) ok
  rw [cc_M_compare _ _ _ _ ho, q_M_compare_0, sp_MisReg, Option.bind_some, isReg_nI ha]
  dsimp only
  rw [if_neg bI_n1, sp_MisReg, Option.bind_some, isReg_nI hb]
  dsimp only
  rw [if_neg bI_n1, sp_Morder m rfl rfl (by omega) (by omega), Option.bind_some, hR a ha, hR b hb]
  rfl
-- words
theorem nv_word {g : Nat → Nat} (ok : okg g) (x : Nat) {i : Nat} (hi : i < 20) : nv g x / 4294967296 ^ i % 4294967296 = g (40 * x + 2 * i) + g (40 * x + (2 * i + 1)) * 65536 := by
  have hB : (4294967296 : Nat) ^ i = 65536 ^ (2 * i) := by rw [Nat.pow_mul]
  have h1 : nv g x / 65536 ^ (2 * i) % 65536 = g (40 * x + 2 * i) := pv_digit (by decide) (fun j _ => ok _) (by omega)
  have h2 : nv g x / 65536 ^ (2 * i + 1) % 65536 = g (40 * x + (2 * i + 1)) := pv_digit (by decide) (fun j _ => ok _) (by omega)
  rw [Nat.pow_succ, ← Nat.div_div_eq_div_mul] at h2
  rw [hB, ← h1, ← h2]
  omega
theorem rf_get (ok : okg g) {R : Nat → Nat} (hR : ∀ r, r < 8 → nv g r = R r) {a i : Nat} (ha : a < 8) (hi : i < 8) : c_M_get M (nI a) (nI i) (mS h M o g T F) = some (nI (R a / 4294967296 ^ i % 4294967296), mS h M o g T F) := by
  obtain ⟨fs, ho⟩ := mS_ob h M o g T F
  have m := mS_MO (h := h) (M := M) (o := o) (T := T) (F := F) ok
  have h1 := ok (40 * a + 2 * i)
  have h2 := ok (40 * a + (2 * i + 1))
  have e2 : (2 : Int32) * nI i = nI (2 * i) := pk_mul 2 i
  have hor : k_ishl (nI (g (40 * a + (2 * i + 1)))) 16 ||| nI (g (40 * a + 2 * i)) = nI (R a / 4294967296 ^ i % 4294967296) := by
    rw [← hR a ha, nv_word ok a (by omega)]
    apply w32_inj
    have h3 : w32 (k_ishl (nI (g (40 * a + (2 * i + 1)))) 16 ||| nI (g (40 * a + 2 * i))) = w32 (k_ishl (nI (g (40 * a + (2 * i + 1)))) 16) ||| w32 (nI (g (40 * a + 2 * i))) := BitVec.toNat_or _ _
    rw [h3, w32_shl _ 16 (k := 16) (by decide +kernel), w32_nI (by omega), w32_nI (by omega), w32_nI (by omega), Nat.mod_eq_of_lt (by omega)]
    rw [show g (40 * a + (2 * i + 1)) * 2 ^ 16 = g (40 * a + (2 * i + 1)) * 65536 from rfl, or16 _ h1]
    omega
  rw [cc_M_get _ _ _ _ ho, q_M_get_0, sp_MisReg, Option.bind_some, isReg_nI ha]
  dsimp only
  rw [if_neg bI_n1, if_neg (nI_pos (by omega)), if_pos (by rw [show (7 : Int32) = nI 7 from rfl]; exact nI_le (by omega) (by decide)), gM m, Option.bind_some, e2, ix40, nI_1, Nat.add_assoc, rM m (by omega), Option.bind_some, Option.bind_some, rM m (by omega), Option.bind_some, hor]
  rfl
theorem nv_put {g : Nat → Nat} (ok : okg g) (x : Nat) {i : Nat} (hi : i < 20) {y : Nat} (hy : y < 4294967296) : nv (gu (gu g (40 * x + 2 * i) (y % 65536)) (40 * x + (2 * i + 1)) (y / 65536)) x = putw (nv g x) i y := by
  have h1 := nv_mid (g := g) (x := x) (i := 2 * i) (v := y % 65536) (by omega)
  have h2 := nv_mid (g := gu g (40 * x + 2 * i) (y % 65536)) (x := x) (i := 2 * i + 1) (v := y / 65536) (by omega)
  rw [gu_n (by omega)] at h2
  unfold putw
  rw [nv_word ok x hi]
  have hB : (4294967296 : Nat) ^ i = 65536 ^ (2 * i) := by rw [Nat.pow_mul]
  rw [hB]
  rw [show (65536 : Nat) ^ (2 * i + 1) = 65536 ^ (2 * i) * 65536 from rfl] at h2
  have hle : g (40 * x + 2 * i) * 65536 ^ (2 * i) ≤ nv g x := pv_ge (d := fun k => g (40 * x + k)) (k := 2 * i) (n := 40) (by omega)
  generalize 65536 ^ (2 * i) = P at h1 h2 hle ⊢
  generalize nv (gu (gu g (40 * x + 2 * i) (y % 65536)) (40 * x + (2 * i + 1)) (y / 65536)) x = a at h2 ⊢
  generalize nv (gu g (40 * x + 2 * i) (y % 65536)) x = b at h1 h2
  generalize g (40 * x + 2 * i) = c at h1 hle ⊢
  generalize g (40 * x + (2 * i + 1)) = d at h2 ⊢
  have e1 : (c + d * 65536) * P = c * P + d * (P * 65536) := by
    rw [Nat.add_mul, Nat.mul_assoc, Nat.mul_comm 65536]
  have e2 : y * P = y % 65536 * P + y / 65536 * (P * 65536) := by
    rw [Nat.mul_comm P, ← Nat.mul_assoc, ← Nat.add_mul]
    congr 1
    omega
  rw [e1, e2]
  omega
theorem rf_put (ok : okg g) {R : Nat → Nat} (hR : ∀ r, r < 8 → nv g r = R r) {a i : Nat} (ha : a < 8) (hi : i < 8) (x : Int32) : ∃ h', c_M_put M (nI a) (nI i) x (mS h M o g T F) = some (1, h') ∧ MTo M h o g T F h' (gu R a (putw (R a) i (w32 x))) := by
  obtain ⟨fs, ho⟩ := mS_ob h M o g T F
  have m := mS_MO (h := h) (M := M) (o := o) (T := T) (F := F) ok
  have hx := w32_lt x
  have e2 : (2 : Int32) * nI i = nI (2 * i) := pk_mul 2 i
  have hand : ∀ z : Int32, w32 (z &&& 65535) = w32 z % 65536 := fun z => by
    rw [w32_and]
    exact Nat.and_two_pow_sub_one_eq_mod _ 16
  have hd0 : k_ishr x ((16 : Int32) * 0) &&& 65535 = nI (w32 x % 65536) := by
    have h1 := iT_shr x ((16 : Int32) * 0) (k := 0) (by decide +kernel)
    apply w32_inj
    rw [hand, w32_nI (by omega)]
    rw [w32_int, w32_int] at h1
    have h2 := w32_lt (k_ishr x ((16 : Int32) * 0))
    generalize w32 (k_ishr x ((16 : Int32) * 0)) = p at h1 h2 ⊢
    split at h1 <;> split at h1 <;> omega
  have hd1 : k_ishr x ((16 : Int32) * (0 + 1)) &&& 65535 = nI (w32 x / 65536) := by
    have h1 := iT_shr x ((16 : Int32) * (0 + 1)) (k := 16) (by decide +kernel)
    apply w32_inj
    rw [hand, w32_nI (by omega)]
    rw [w32_int, w32_int] at h1
    have h2 := w32_lt (k_ishr x ((16 : Int32) * (0 + 1)))
    generalize w32 (k_ishr x ((16 : Int32) * (0 + 1))) = p at h1 h2 ⊢
    split at h1 <;> split at h1 <;> omega
  have ok1 : okg (gu g (40 * a + 2 * i) (w32 x % 65536)) := ok.u (by omega)
  have ok2 : okg (gu (gu g (40 * a + 2 * i) (w32 x % 65536)) (40 * a + (2 * i + 1)) (w32 x / 65536)) := ok1.u (by omega)
  have m1 := mS_MO (h := h) (M := M) (o := o) (T := T) (F := F) ok1
  have a1 : dwI (mS h M o g T F) (M + 1) (nI (40 * a + 2 * i)) (nI (w32 x % 65536)) = some (mS h M o (gu g (40 * a + 2 * i) (w32 x % 65536)) T F) := by rw [wM m (by omega), hD_mS]
  have a2 : dwI (mS h M o (gu g (40 * a + 2 * i) (w32 x % 65536)) T F) (M + 1) (nI (40 * a + (2 * i + 1))) (nI (w32 x / 65536)) = some (mS h M o (gu (gu g (40 * a + 2 * i) (w32 x % 65536)) (40 * a + (2 * i + 1)) (w32 x / 65536)) T F) := by rw [wM m1 (by omega), hD_mS]
  have i0 : nI (40 * a + 2 * i) + 0 = nI (40 * a + 2 * i) := Int32.add_zero _
  have i1 : nI (40 * a + 2 * i) + (0 + 1) = nI (40 * a + (2 * i + 1)) := by
    rw [show ((0 : Int32) + 1) = nI 1 from rfl, nI_add, Nat.add_assoc]
  refine ⟨_, ?_, _, rfl, ok2, fun y hy => ?_, fun r hr => ?_⟩
  · rw [cc_M_put _ _ _ _ _ ho, q_M_put_0, sp_MisReg, Option.bind_some, isReg_nI ha]
    dsimp only
    rw [if_neg bI_n1, if_neg (nI_pos (by omega)), if_pos (by rw [show (7 : Int32) = nI 7 from rfl]; exact nI_le (by omega) (by decide)), q_M_put_22, if_pos (by decide), gM m, Option.bind_some, e2, ix40, i0, hd0, a1, Option.bind_some, q_M_put_22, if_pos (by decide), gM m1, Option.bind_some, e2, ix40, i1, hd1, a2, Option.bind_some, q_M_put_22, if_neg (by decide)]
    rfl
  · exact nv_congr (fun k hk => by rw [gu_n (by omega), gu_n (by omega)])
  · by_cases e : r = a
    · subst e
      rw [gu_s, nv_put ok r (by omega) hx, hR r hr]
    · rw [gu_n e, ← hR r hr]
      exact nv_congr (fun k hk => by rw [gu_n (by omega), gu_n (by omega)])
end
