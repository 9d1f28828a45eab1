/-! both objects in step: what holds between calls -/
def IV (A : Nat) (h : dzH) (o : Nat → Int32) (v : Nat → Nat) (T E : Nat → Int32) (F : Nat → Nat → Int32) (p : Nat → Int32) (g : Nat → Nat) (U : Nat → Int32) (G : Nat → Nat → Int32) (s n t : Nat) : Prop :=
  CW A h o v T E F ∧ h = mS h (A + 247) p g U G ∧ okg g ∧ nv g 21 = 1 ∧ (∀ r, r < 8 → v (2 + r) = nv g r) ∧ o 0 = nI s ∧ p 2 = nI s ∧ s ≤ 4000 ∧ (∀ i, i < s → U i = T i) ∧ o 9 = p 3 ∧ o 2 = nI t ∧ p 5 = nI t ∧ t ≤ 200 ∧ (∀ i, i < t → v (24 + i) = nv g (32 + i)) ∧ o 1 = nI n ∧ n ≤ 200 ∧ Right (tw T) s (tw E) (fun i => v (24 + i)) n
def Inv (A : Nat) (h : dzH) : Prop := ∃ o v T E F p g U G s n t, IV A h o v T E F p g U G s n t
def Pr (A : Nat) (h : dzH) (f k : dzH → Option (Int32 × dzH)) : Prop := ∃ x h1 h2, f h = some (x, h1) ∧ k h1 = some (x, h2) ∧ Inv A h2 ∧ (∀ q, q < A → h2.2 q = h.2 q) ∧ ∀ q, q < A → h1.2 q = h.2 q
theorem mS_mS (h : dzH) (M : Nat) (o o' : Nat → Int32) (g g' : Nat → Nat) (T T' : Nat → Int32) (F F' : Nat → Nat → Int32) : mS (mS h M o g T F) M o' g' T' F' = mS h M o' g' T' F' :=
  mS_ext rfl (fun q hq => by rw [mS_out hq, mS_out hq]) (mS_0 _ _ _ _ _ _) (mS_1 _ _ _ _ _ _) (mS_2 _ _ _ _ _ _) (mS_3 _ _ _ _ _ _) (mS_4 _ _ _ _ _ _) (mS_5 _ _ _ _ _ _)
theorem mS_keep {h h1 : dzH} {A : Nat} {o : Nat → Int32} {g : Nat → Nat} {T : Nat → Int32} {F : Nat → Nat → Int32} (e : h = mS h (A + 247) o g T F) (hf : fr h h1 (inC A)) : h1 = mS h1 (A + 247) o g T F := by
  have k : ∀ q, A + 247 ≤ q → h1.2 q = (mS h (A + 247) o g T F).2 q := fun q hq => by
    rw [← e]
    exact hf.2 q (fun z => by unfold inC at z; omega)
  exact mS_ext rfl (fun q hq => rfl) (by rw [k _ (by omega), mS_0]) (by rw [k _ (by omega), mS_1]) (by rw [k _ (by omega), mS_2]) (by rw [k _ (by omega), mS_3]) (by rw [k _ (by omega), mS_4]) (by rw [k _ (by omega), mS_5])
section
variable {A : Nat} {h h1 : dzH} {o : Nat → Int32} {v : Nat → Nat} {T E : Nat → Int32} {F : Nat → Nat → Int32} {p : Nat → Int32} {g : Nat → Nat} {U : Nat → Int32} {G : Nat → Nat → Int32} {s n t : Nat}
/-- both have run: the class to h1, then the reference over it -/
theorem IV.mk (w : CW A h1 o v T E F) (ok : okg g) (h21 : nv g 21 = 1) (hr : ∀ r, r < 8 → v (2 + r) = nv g r) (h0 : o 0 = nI s) (h2 : p 2 = nI s) (hs : s ≤ 4000) (hU : ∀ i, i < s → U i = T i) (h9 : o 9 = p 3) (ht : o 2 = nI t) (ht' : p 5 = nI t) (ht2 : t ≤ 200) (hl : ∀ i, i < t → v (24 + i) = nv g (32 + i)) (hn : o 1 = nI n) (hn2 : n ≤ 200) (hR : Right (tw T) s (tw E) (fun i => v (24 + i)) n) : IV A (mS h1 (A + 247) p g U G) o v T E F p g U G s n t :=
  ⟨w.eq (fun q hq => mS_out (by unfold inC at hq; omega)), (mS_mS _ _ _ _ _ _ _ _ _ _).symm, ok, h21, hr, h0, h2, hs, hU, h9, ht, ht', ht2, hl, hn, hn2, hR⟩
theorem Pr.mk {f k : dzH → Option (Int32 × dzH)} {x : Int32} {p' : Nat → Int32} {g' : Nat → Nat} {U' : Nat → Int32} {G' : Nat → Nat → Int32} {o' : Nat → Int32} {v' : Nat → Nat} {T' E' : Nat → Int32} {F' : Nat → Nat → Int32} {s' n' t' : Nat} (e : h = mS h (A + 247) p g U G) (hf : f h = some (x, h1)) (hfr : fr h h1 (inC A)) (hk : k (mS h1 (A + 247) p g U G) = some (x, mS h1 (A + 247) p' g' U' G')) (iv : IV A (mS h1 (A + 247) p' g' U' G') o' v' T' E' F' p' g' U' G' s' n' t') : Pr A h f k := by
  have e1 := mS_keep e hfr
  rw [← e1] at hk
  refine ⟨x, h1, _, hf, hk, ⟨_, _, _, _, _, _, _, _, _, _, _, _, iv⟩, fun q hq => ?_, fun q hq => hfr.2 q (fun z => by unfold inC at z; omega)⟩
  rw [mS_out (by omega)]
  exact hfr.2 q (fun z => by unfold inC at z; omega)
theorem IV.same (iv : IV A h o v T E F p g U G s n t) {f k : dzH → Option (Int32 × dzH)} {x : Int32} (hf : f h = some (x, h)) (hk : k (mS h (A + 247) p g U G) = some (x, mS h (A + 247) p g U G)) : Pr A h f k := by
  have e := iv.2.1
  rw [← e] at hk
  exact ⟨x, h, h, hf, hk, ⟨_, _, _, _, _, _, _, _, _, _, _, _, iv⟩, fun _ _ => rfl, fun _ _ => rfl⟩
theorem IV.reg (iv : IV A h o v T E F p g U G s n t) {f k : dzH → Option (Int32 × dzH)} {x : Int32} {R : Nat → Nat} (hf : f h = some (x, h1)) (rt : RegTo A h h1 o v T E F R) (hk : ∃ h2, k (mS h1 (A + 247) p g U G) = some (x, h2) ∧ MTo (A + 247) h1 p g U G h2 R) : Pr A h f k := by
  obtain ⟨v', w', fr', kv, hv⟩ := rt
  obtain ⟨h2, hk, g', e2, ok', kg, hg⟩ := hk
  obtain ⟨i1, i2, i3, i4, i5, i6, i7, i8, i9, i10, i11, i12, i13, i14, i15, i16, i17⟩ := iv
  subst e2
  refine Pr.mk i2 hf fr' hk (IV.mk w' ok' (by rw [kg 21 (by decide), i4]) (fun r hr => by rw [hv r hr, hg r hr]) i6 i7 i8 i9 i10 i11 i12 i13 (fun i hi => by rw [kv _ (by omega), kg _ (by omega)]; exact i14 i hi) i15 i16 ?_)
  have : (fun i => v' (24 + i)) = fun i => v (24 + i) := funext fun i => kv _ (by omega)
  rw [this]
  exact i17
theorem IV.hR (iv : IV A h o v T E F p g U G s n t) : ∀ r, r < 8 → v (2 + r) = nv g r := iv.2.2.2.2.1
theorem IV.hB (iv : IV A h o v T E F p g U G s n t) : ∀ r, r < 8 → nv g r < B8 := fun r hr => by
  rw [← iv.hR r hr]
  exact (iv.1.row (isR_r hr)).lt
theorem IV.ok (iv : IV A h o v T E F p g U G s n t) : okg g := iv.2.2.1
theorem are_ex {i j k : Int32} (hh : (isReg i && isReg j && isReg k) = true) : ∃ a b c, a < 8 ∧ b < 8 ∧ c < 8 ∧ i = nI a ∧ j = nI b ∧ k = nI c := by
  rw [Bool.and_eq_true, Bool.and_eq_true] at hh
  obtain ⟨a, a1, a2⟩ := isReg_ex hh.1.1
  obtain ⟨b, b1, b2⟩ := isReg_ex hh.1.2
  obtain ⟨c, c1, c2⟩ := isReg_ex hh.2
  exact ⟨a, b, c, a1, b1, c1, a2, b2, c2⟩
theorem pr_add (iv : IV A h o v T E F p g U G s n t) (i j k : Int32) : Pr A h (c_P_add A i j k) (c_M_add (A + 247) i j k) := by
  cases hh : (isReg i && isReg j && isReg k) with
  | true =>
    obtain ⟨a, b, c, a1, b1, c1, rfl, rfl, rfl⟩ := are_ex hh
    obtain ⟨h1, q1, q2⟩ := cl_add iv.1 iv.hR a1 b1 c1
    exact iv.reg q1 q2 (rf_add iv.ok (fun _ _ => rfl) iv.hB a1 b1 c1)
  | false =>
    obtain ⟨fs, ho⟩ := iv.1.ob
    obtain ⟨fs2, ho2⟩ := mS_ob h (A + 247) p g U G
    refine iv.same (x := -1) ?_ ?_
    · rw [cc_P_add _ _ _ _ _ ho, q_P_add_0, sp_are, hh]
      rfl
    · rw [cc_M_add _ _ _ _ _ ho2, q_M_add_0, sp_Mare, hh]
      rfl
theorem pr_sub (iv : IV A h o v T E F p g U G s n t) (i j k : Int32) : Pr A h (c_P_subtract A i j k) (c_M_subtract (A + 247) i j k) := by
  cases hh : (isReg i && isReg j && isReg k) with
  | true =>
    obtain ⟨a, b, c, a1, b1, c1, rfl, rfl, rfl⟩ := are_ex hh
    obtain ⟨h1, q1, q2⟩ := cl_sub iv.1 iv.hR a1 b1 c1
    exact iv.reg q1 q2 (rf_sub iv.ok (fun _ _ => rfl) iv.hB a1 b1 c1)
  | false =>
    obtain ⟨fs, ho⟩ := iv.1.ob
    obtain ⟨fs2, ho2⟩ := mS_ob h (A + 247) p g U G
    refine iv.same (x := -1) ?_ ?_
    · rw [cc_P_subtract _ _ _ _ _ ho, q_P_subtract_0, sp_are, hh]
      rfl
    · rw [cc_M_subtract _ _ _ _ _ ho2, q_M_subtract_0, sp_Mare, hh]
      rfl
theorem pr_mul (iv : IV A h o v T E F p g U G s n t) (i j k : Int32) : Pr A h (c_P_multiply A i j k) (c_M_multiply (A + 247) i j k) := by
  cases hh : (isReg i && isReg j && isReg k) with
  | true =>
    obtain ⟨a, b, c, a1, b1, c1, rfl, rfl, rfl⟩ := are_ex hh
    obtain ⟨h1, q1, q2⟩ := cl_mul iv.1 iv.hR a1 b1 c1
    exact iv.reg q1 q2 (rf_mul iv.ok (fun _ _ => rfl) iv.hB a1 b1 c1)
  | false =>
    obtain ⟨fs, ho⟩ := iv.1.ob
    obtain ⟨fs2, ho2⟩ := mS_ob h (A + 247) p g U G
    refine iv.same (x := -1) ?_ ?_
    · rw [cc_P_multiply _ _ _ _ _ ho, q_P_multiply_0, sp_are, hh]
      rfl
    · rw [cc_M_multiply _ _ _ _ _ ho2, q_M_multiply_0, sp_Mare, hh]
      rfl
theorem pr_com (iv : IV A h o v T E F p g U G s n t) (i j k : Int32) : Pr A h (c_P_common A i j k) (c_M_common (A + 247) i j k) := by
  cases hh : (isReg i && isReg j && isReg k) with
  | true =>
    obtain ⟨a, b, c, a1, b1, c1, rfl, rfl, rfl⟩ := are_ex hh
    obtain ⟨h1, q1, q2⟩ := cl_com iv.1 iv.hR a1 b1 c1
    exact iv.reg q1 q2 (rf_com iv.ok (fun _ _ => rfl) iv.hB a1 b1 c1)
  | false =>
    obtain ⟨fs, ho⟩ := iv.1.ob
    obtain ⟨fs2, ho2⟩ := mS_ob h (A + 247) p g U G
    refine iv.same (x := -1) ?_ ?_
    · rw [cc_P_common _ _ _ _ _ ho, q_P_common_0, sp_are, hh]
      rfl
    · rw [cc_M_common _ _ _ _ _ ho2, q_M_common_0, sp_Mare, hh]
      rfl
theorem pr_div (iv : IV A h o v T E F p g U G s n t) (i j k l : Int32) : Pr A h (c_P_divide A i j k l) (c_M_divide (A + 247) i j k l) := by
  obtain ⟨fs, ho⟩ := iv.1.ob
  obtain ⟨fs2, ho2⟩ := mS_ob h (A + 247) p g U G
  cases hh : (isReg i && isReg j && isReg k) with
  | true =>
    cases hh2 : isReg l with
    | true =>
      by_cases e : k = l
      · refine iv.same (x := -1) ?_ ?_
        · rw [cc_P_divide _ _ _ _ _ _ ho, q_P_divide_0, sp_are, hh, Option.bind_some]
          dsimp only
          rw [if_neg bI_n1, sp_isReg, hh2, Option.bind_some]
          dsimp only
          rw [if_neg bI_n1, if_pos e]
          rfl
        · rw [cc_M_divide _ _ _ _ _ _ ho2, q_M_divide_0, sp_Mare, hh, Option.bind_some]
          dsimp only
          rw [if_neg bI_n1, sp_MisReg, hh2, Option.bind_some]
          dsimp only
          rw [if_neg bI_n1, if_pos e]
          rfl
      · obtain ⟨a, b, c, a1, b1, c1, rfl, rfl, rfl⟩ := are_ex hh
        obtain ⟨d, d1, rfl⟩ := isReg_ex hh2
        have hcd : c ≠ d := fun z => e (by rw [z])
        obtain ⟨h1, q1, q2⟩ := cl_div iv.1 iv.hR a1 b1 c1 d1 hcd
        exact iv.reg q1 q2 (rf_div iv.ok (fun _ _ => rfl) iv.hB a1 b1 c1 d1 hcd)
    | false =>
      refine iv.same (x := -1) ?_ ?_
      · rw [cc_P_divide _ _ _ _ _ _ ho, q_P_divide_0, sp_are, hh, Option.bind_some]
        dsimp only
        rw [if_neg bI_n1, sp_isReg, hh2]
        rfl
      · rw [cc_M_divide _ _ _ _ _ _ ho2, q_M_divide_0, sp_Mare, hh, Option.bind_some]
        dsimp only
        rw [if_neg bI_n1, sp_MisReg, hh2]
        rfl
  | false =>
    refine iv.same (x := -1) ?_ ?_
    · rw [cc_P_divide _ _ _ _ _ _ ho, q_P_divide_0, sp_are, hh]
      rfl
    · rw [cc_M_divide _ _ _ _ _ _ ho2, q_M_divide_0, sp_Mare, hh]
      rfl
theorem pr_pow (iv : IV A h o v T E F p g U G s n t) (i j k l : Int32) : Pr A h (c_P_power A i j k l) (c_M_power (A + 247) i j k l) := by
  obtain ⟨fs, ho⟩ := iv.1.ob
  obtain ⟨fs2, ho2⟩ := mS_ob h (A + 247) p g U G
  by_cases hh : ((isReg i = true ∧ isReg j = true) ∧ isReg k = true) ∧ isReg l = true
  · obtain ⟨a, a1, rfl⟩ := isReg_ex hh.1.1.1
    obtain ⟨b, b1, rfl⟩ := isReg_ex hh.1.1.2
    obtain ⟨c, c1, rfl⟩ := isReg_ex hh.1.2
    obtain ⟨d, d1, rfl⟩ := isReg_ex hh.2
    obtain ⟨h1, q1, q2⟩ := cl_pow iv.1 iv.hR a1 b1 c1 d1
    exact iv.reg q1 q2 (rf_pow iv.ok iv.2.2.2.1 (fun _ _ => rfl) iv.hB a1 b1 c1 d1)
  · refine iv.same (x := -1) ?_ ?_
    · rw [cc_P_power _ _ _ _ _ _ ho, q_P_power_0, sp_are, Option.bind_some, sp_isReg]
      cases hi : isReg i <;> cases hj : isReg j <;> cases hk : isReg k <;> cases hl : isReg l <;> first | rfl | exact absurd ⟨⟨⟨hi, hj⟩, hk⟩, hl⟩ hh
    · rw [cc_M_power _ _ _ _ _ _ ho2, q_M_power_0, sp_Mare, Option.bind_some, sp_MisReg]
      cases hi : isReg i <;> cases hj : isReg j <;> cases hk : isReg k <;> cases hl : isReg l <;> first | rfl | exact absurd ⟨⟨⟨hi, hj⟩, hk⟩, hl⟩ hh
theorem pr_cmp (iv : IV A h o v T E F p g U G s n t) (i j : Int32) : Pr A h (c_P_compare A i j) (c_M_compare (A + 247) i j) := by
  obtain ⟨fs, ho⟩ := iv.1.ob
  obtain ⟨fs2, ho2⟩ := mS_ob h (A + 247) p g U G
  by_cases hh : isReg i = true ∧ isReg j = true
  · obtain ⟨a, a1, rfl⟩ := isReg_ex hh.1
    obtain ⟨b, b1, rfl⟩ := isReg_ex hh.2
    exact iv.same (cl_cmp iv.1 iv.hR a1 b1) (rf_cmp iv.ok (fun _ _ => rfl) a1 b1)
  · refine iv.same (x := 2) ?_ ?_
    · rw [cc_P_compare _ _ _ _ ho, q_P_compare_0, sp_isReg, Option.bind_some, sp_isReg]
      cases hi : isReg i <;> cases hj : isReg j <;> first | rfl | exact absurd ⟨hi, hj⟩ hh
    · rw [cc_M_compare _ _ _ _ ho2, q_M_compare_0, sp_MisReg, Option.bind_some, sp_MisReg]
      cases hi : isReg i <;> cases hj : isReg j <;> first | rfl | exact absurd ⟨hi, hj⟩ hh
theorem isReg_07 (i : Int32) {α : Type} (a b c : α) (ha : a = c) : (if i < 0 then a else if i ≤ 7 then b else c) = if isReg i = true then b else c := by
  have e : i < 8 ↔ i ≤ 7 := by
    rw [Int32.lt_iff_toInt_lt, Int32.le_iff_toInt_le, show (8 : Int32).toInt = 8 from rfl, show (7 : Int32).toInt = 7 from rfl]
    omega
  rw [← ite_reg i a b c ha]
  by_cases h1 : i < 0
  · rw [if_pos h1, if_pos h1]
  · rw [if_neg h1, if_neg h1]
    by_cases h2 : i < 8
    · rw [if_pos h2, if_pos (e.mp h2)]
    · rw [if_neg h2, if_neg (fun z => h2 (e.mpr z))]
theorem pr_put (iv : IV A h o v T E F p g U G s n t) (i j x : Int32) : Pr A h (c_P_put A i j x) (c_M_put (A + 247) i j x) := by
  obtain ⟨fs, ho⟩ := iv.1.ob
  obtain ⟨fs2, ho2⟩ := mS_ob h (A + 247) p g U G
  by_cases hh : isReg i = true ∧ isReg j = true
  · obtain ⟨a, a1, rfl⟩ := isReg_ex hh.1
    obtain ⟨b, b1, rfl⟩ := isReg_ex hh.2
    obtain ⟨h1, q1, q2⟩ := cl_put iv.1 iv.hR a1 b1 x
    exact iv.reg q1 q2 (rf_put iv.ok (fun _ _ => rfl) a1 b1 x)
  · refine iv.same (x := 0) ?_ ?_
    · rw [cc_P_put _ _ _ _ _ ho, q_P_put_0, sp_isReg, Option.bind_some, sp_isWord]
      cases hi : isReg i <;> cases hj : isReg j <;> first | rfl | exact absurd ⟨hi, hj⟩ hh
    · rw [cc_M_put _ _ _ _ _ ho2, q_M_put_0, sp_MisReg, Option.bind_some]
      dsimp only
      rw [isReg_07 j _ _ _ rfl]
      cases hi : isReg i <;> cases hj : isReg j <;> first | rfl | exact absurd ⟨hi, hj⟩ hh
theorem pr_get (iv : IV A h o v T E F p g U G s n t) (i j : Int32) : Pr A h (c_P_get A i j) (c_M_get (A + 247) i j) := by
  obtain ⟨fs, ho⟩ := iv.1.ob
  obtain ⟨fs2, ho2⟩ := mS_ob h (A + 247) p g U G
  by_cases hh : isReg i = true ∧ isReg j = true
  · obtain ⟨a, a1, rfl⟩ := isReg_ex hh.1
    obtain ⟨b, b1, rfl⟩ := isReg_ex hh.2
    exact iv.same (cl_get iv.1 iv.hR a1 b1) (rf_get iv.ok (fun _ _ => rfl) a1 b1)
  · refine iv.same (x := 0) ?_ ?_
    · rw [cc_P_get _ _ _ _ ho, q_P_get_0, sp_isReg, Option.bind_some, sp_isWord]
      cases hi : isReg i <;> cases hj : isReg j <;> first | rfl | exact absurd ⟨hi, hj⟩ hh
    · rw [cc_M_get _ _ _ _ ho2, q_M_get_0, sp_MisReg, Option.bind_some]
      dsimp only
      rw [isReg_07 j _ _ _ rfl]
      cases hi : isReg i <;> cases hj : isReg j <;> first | rfl | exact absurd ⟨hi, hj⟩ hh
-- tape and lines
theorem pr_say (iv : IV A h o v T E F p g U G s n t) (x : Int32) : Pr A h (c_P_say A x) (c_M_say (A + 247) x) := by
  obtain ⟨i1, i2, i3, i4, i5, i6, i7, i8, i9, i10, i11, i12, i13, i14, i15, i16, i17⟩ := id iv
  have cs := cl_say i1 i6 i8 x
  rcases Nat.lt_or_ge s 4000 with z | z
  · obtain ⟨h1, q1, q2, q3⟩ := cs.1 z
    refine Pr.mk (s' := s + 1) i2 q1 q3 (m_say i7 z x) (IV.mk q2 i3 i4 i5 pk_us pk_us (by omega) (fun i hi => ?_) (by rw [pk_un (by decide), pk_un (by decide), i10]) (by rw [pk_un (by decide), i11]) (by rw [pk_un (by decide), i12]) i13 i14 (by rw [pk_un (by decide), i15]) i16 ?_)
    · by_cases e : i = s
      · rw [e, pk_us, pk_us]
      · rw [pk_un e, pk_un e, i9 i (by omega)]
    · have hle : stt (tw E) n ≤ s := by
        rcases Nat.eq_zero_or_pos n with y | y
        · rw [y, stt_0]; omega
        · obtain ⟨m, rfl⟩ : ∃ m, n = m + 1 := ⟨n - 1, by omega⟩
          rw [stt_s]
          exact (i17.step (i := m) (by omega)).2
      exact i17.loc (Nat.le_refl _) (fun _ _ => rfl) (fun _ _ => rfl) (fun i hi => by show w32 (upd T s x i) = w32 (T i); rw [pk_un (by omega)]) (by omega)
  · have es : s = 4000 := by omega
    subst es
    exact iv.same (cs.2 rfl) (m_say0 i7 x)
theorem keepN_le (E : Nat → Nat) (z : Nat) : ∀ n, keepN E z n ≤ n
  | 0 => Nat.le_refl _
  | n + 1 => by
    unfold keepN
    split
    · exact Nat.le_refl _
    · exact Nat.le_trans (keepN_le E z n) (by omega)
theorem keepN_end (E : Nat → Nat) (z : Nat) : ∀ n, stt E (keepN E z n) ≤ z
  | 0 => Nat.zero_le _
  | n + 1 => by
    unfold keepN
    split
    · rename_i e
      rw [stt_s]
      exact e
    · exact keepN_end E z n
theorem pr_cut (iv : IV A h o v T E F p g U G s n t) (x : Int32) : Pr A h (c_P_cut A x) (c_M_cut (A + 247) x) := by
  obtain ⟨i1, i2, i3, i4, i5, i6, i7, i8, i9, i10, i11, i12, i13, i14, i15, i16, i17⟩ := id iv
  obtain ⟨fs2, ho2⟩ := mS_ob h (A + 247) p g U G
  have cs := cl_cut i1 i6 i8 i15 i16 (fun i hi => by have := (i17.step hi).2; have e : tw E i = w32 (E i) := rfl; omega) x
  by_cases hz : ∃ z, x = nI z ∧ z ≤ s
  · obtain ⟨z, rfl, hz⟩ := hz
    obtain ⟨h1, q1, q2, q3⟩ := cs.1 z rfl hz
    have hk : c_M_cut (A + 247) (nI z) (mS h1 (A + 247) p g U G) = some (1, mS h1 (A + 247) (upd p 2 (nI z)) g U G) := by
      obtain ⟨fs3, ho3⟩ := mS_ob h1 (A + 247) p g U G
      rw [cc_M_cut _ _ _ ho3, q_M_cut_0, if_neg (nI_pos (by omega)), mS_g2, Option.bind_some, i7, if_pos (nI_le hz (by omega)), mS_p2]
      rfl
    refine Pr.mk (s' := z) i2 q1 q3 hk (IV.mk q2 i3 i4 i5 (by rw [pk_un (by decide), pk_us]) pk_us (by omega) (fun i hi => i9 i (by omega)) (by rw [pk_un (by decide), pk_un (by decide), pk_un (by decide), i10]) (by rw [pk_un (by decide), pk_un (by decide), i11]) (by rw [pk_un (by decide), i12]) i13 i14 pk_us (Nat.le_trans (keepN_le _ _ _) i16) ?_)
    exact i17.loc (keepN_le _ _ _) (fun _ _ => rfl) (fun _ _ => rfl) (fun _ _ => rfl) (keepN_end _ _ _)
  · refine iv.same (cs.2 hz) ?_
    rw [cc_M_cut _ _ _ ho2, q_M_cut_0]
    by_cases hx : x < 0
    · rw [if_pos hx]
      rfl
    · rw [if_neg hx]
      obtain ⟨j, hj, ej⟩ := nI_of hx
      rw [mS_g2, Option.bind_some, i7, if_neg (fun q => hz ⟨j, ej, by rw [ej] at q; exact (nI_leI hj (by omega)).mp q⟩)]
      rfl
theorem pr_len (iv : IV A h o v T E F p g U G s n t) : Pr A h (c_P_length A) (c_M_length (A + 247)) := by
  obtain ⟨i1, i2, i3, i4, i5, i6, i7, i8, i9, i10, i11, i12, i13, i14, i15, i16, i17⟩ := id iv
  obtain ⟨fs2, ho2⟩ := mS_ob h (A + 247) p g U G
  refine iv.same (cl_len i1) ?_
  rw [cc_M_length _ _ ho2, q_M_length_0, mS_g2, i6, i7]
  rfl
theorem pr_at (iv : IV A h o v T E F p g U G s n t) (x : Int32) : Pr A h (c_P_at A x) (c_M_at (A + 247) x) := by
  obtain ⟨i1, i2, i3, i4, i5, i6, i7, i8, i9, i10, i11, i12, i13, i14, i15, i16, i17⟩ := id iv
  obtain ⟨fs2, ho2⟩ := mS_ob h (A + 247) p g U G
  have cs := cl_at i1 i6 i8 x
  by_cases hz : ∃ j, x = nI j ∧ j < s
  · obtain ⟨j, rfl, hj⟩ := hz
    refine iv.same (cs.1 j rfl hj) ?_
    rw [cc_M_at _ _ _ ho2, q_M_at_0, if_neg (nI_pos (by omega)), mS_g2, Option.bind_some, i7, if_pos (nI_lt hj (by omega)), mS_T, Option.bind_some, mS_rT (by omega), i9 j hj]
    rfl
  · refine iv.same (cs.2 hz) ?_
    rw [cc_M_at _ _ _ ho2, q_M_at_0]
    by_cases hx : x < 0
    · rw [if_pos hx]
      rfl
    · rw [if_neg hx]
      obtain ⟨j, hj, ej⟩ := nI_of hx
      rw [mS_g2, Option.bind_some, i7, if_neg (fun q => hz ⟨j, ej, by rw [ej] at q; exact (nI_ltI hj (by omega)).mp q⟩)]
      rfl
theorem pr_place (iv : IV A h o v T E F p g U G s n t) : Pr A h (c_P_place A) (c_M_place (A + 247)) := by
  obtain ⟨i1, i2, i3, i4, i5, i6, i7, i8, i9, i10, i11, i12, i13, i14, i15, i16, i17⟩ := id iv
  obtain ⟨fs2, ho2⟩ := mS_ob h (A + 247) p g U G
  refine iv.same (cl_place i1) ?_
  rw [cc_M_place _ _ ho2, q_M_place_0, mS_g3, i10]
  rfl
theorem pr_tell (iv : IV A h o v T E F p g U G s n t) (x y : Int32) : Pr A h (c_P_tell A x y) (c_M_tell (A + 247) x y) := by
  obtain ⟨i1, i2, i3, i4, i5, i6, i7, i8, i9, i10, i11, i12, i13, i14, i15, i16, i17⟩ := id iv
  obtain ⟨fs2, ho2⟩ := mS_ob h (A + 247) p g U G
  have cs := cl_tell i1 i11 i13 i5 x y
  by_cases hz : ∃ j r, x = nI j ∧ j < t ∧ y = nI r ∧ r < 8
  · obtain ⟨j, r, rfl, hj, rfl, hr⟩ := hz
    obtain ⟨h1, q1, q2⟩ := cs.1 j r rfl hj rfl hr
    refine iv.reg q1 q2 ?_
    obtain ⟨fs3, ho3⟩ := mS_ob h1 (A + 247) p g U G
    obtain ⟨g1, a1, a2, a3⟩ := m_copy (M := A + 247) (h := h1) (o := p) (T := U) (F := G) i3 (i32l j) (iy := nI r) rfl (by omega) (by omega) (by omega)
    refine ⟨_, ?_, g1, rfl, a2.1, fun z hz => a2.2 z (by simp; omega), fun z hz => ?_⟩
    · rw [cc_M_tell _ _ _ _ ho3, q_M_tell_0, if_neg (nI_pos (by omega)), mS_g5, Option.bind_some, i12, if_pos (nI_lt hj (by omega)), sp_MisReg, isReg_nI hr, Option.bind_some]
      dsimp only
      rw [if_neg bI_n1, a1]
      rfl
    · by_cases e : z = r
      · rw [e, gu_s, a3, i14 j hj]
      · rw [gu_n e, a2.2 z (by simp; exact e)]
  · refine iv.same (cs.2 hz) ?_
    rw [cc_M_tell _ _ _ _ ho2, q_M_tell_0]
    by_cases hx : x < 0
    · rw [if_pos hx]
      rfl
    · rw [if_neg hx]
      obtain ⟨j, hj, ej⟩ := nI_of hx
      rw [mS_g5, Option.bind_some, i12]
      by_cases hq : x < nI t
      · have hjt : j < t := by rw [ej] at hq; exact (nI_ltI hj (by omega)).mp hq
        rw [if_pos hq, sp_MisReg, Option.bind_some]
        cases hy : isReg y with
        | false => rfl
        | true =>
          obtain ⟨r, hr, er⟩ := isReg_ex hy
          exact absurd ⟨j, r, ej, hjt, er, hr⟩ hz
      · rw [if_neg hq]
        rfl
-- check and prove
theorem pr_check (iv : IV A h o v T E F p g U G s n t) : Pr A h (c_P_check A) (c_M_check (A + 247)) := by
  obtain ⟨i1, i2, i3, i4, i5, i6, i7, i8, i9, i10, i11, i12, i13, i14, i15, i16, i17⟩ := id iv
  obtain ⟨fs, ho⟩ := i1.ob
  have ff := kk_find i1 i6 i8 i15 i16 i17 (fun _ _ => rfl)
  have rq := chk_pair (t := tw T) (t' := tw U) i17 i16 (fun i hi => by show w32 (U i) = w32 (T i); rw [i9 i hi]) (fun _ => 0)
  revert ff rq
  cases chkF (tw T) s (200 - n + 1) n (stt (tw E) n) (fun i => v (24 + i)) with
  | error e =>
    rintro ⟨h1, o1, v1, E1, F1, n1, a1, a2, a3, a4, a5, a6, a7, a8⟩ rq
    have mc := m_check (M := A + 247) (h := h1) (o := p) (g := g) (T := U) (F := G) i3 i4 i7 i8 (fun _ => 0)
    revert rq mc
    cases chkF (tw U) s 201 0 0 (fun _ => 0) with
    | ok y => exact fun rq => rq.elim
    | error e' =>
      intro rq mc
      have ee : e = e' := rq
      subst ee
      obtain ⟨p1, g1, b1, b2, b3, b4, b5, b6, b7⟩ := mc
      refine Pr.mk (x := -100 - nI e.1) (t' := 0) i2 ?_ a3.2.1 b1 (IV.mk a3.1 b2 b3 (fun r hr => by rw [a3.2.2.2.1 _ (by omega), i5 r hr, b4 r hr]) (by rw [a3.2.2.1 0 (Or.inl rfl), i6]) (by rw [b5, i7]) i8 i9 (by rw [a7, b7]) (by rw [a6]; rfl) (by rw [b6]; rfl) (by decide) (fun i hi => by omega) a4 a5 a8)
      rw [cc_P_check _ _ ho, q_P_check_0, g_p6 i1, Option.bind_some, a1, Option.bind_some]
      dsimp only
      rw [if_neg (fl_ne a2.1 a2.2)]
      rfl
  | ok y =>
    rintro ⟨h1, o1, v1, E1, F1, a1, a3, a4, a5, a6, a7, a8, a9, a10⟩ rq
    have mc := m_check (M := A + 247) (h := h1) (o := p) (g := g) (T := U) (F := G) i3 i4 i7 i8 (fun _ => 0)
    revert rq mc
    cases chkF (tw U) s 201 0 0 (fun _ => 0) with
    | error e => exact fun rq => rq.elim
    | ok y' =>
      rintro ⟨rq1, rq2⟩ ⟨p1, g1, b1, b2, b3, b4, b5, b6, b7, b8, b9, b10⟩
      refine Pr.mk (x := nI y.1) (t' := y.1) i2 ?_ a3.2.1 (by rw [b1, ← rq1]) (IV.mk a3.1 b2 b3 (fun r hr => by rw [a3.2.2.2.1 _ (by omega), i5 r hr, b4 r hr]) (by rw [a3.2.2.1 0 (Or.inl rfl), i6]) (by rw [b5, i7]) i8 i9 (by rw [a7, b8]) a6 (by rw [b7, ← rq1]) a5 (fun i hi => by rw [a9 i hi, rq2 i hi, b10 i (by omega)]) a4 a5 a8)
      rw [cc_P_check _ _ ho, q_P_check_0, g_p6 i1, Option.bind_some, a1, Option.bind_some]
      dsimp only
      rw [if_pos rfl, g_p5 a3.1, Option.bind_some, g_o1 a3.1, a4]
      rfl
end
