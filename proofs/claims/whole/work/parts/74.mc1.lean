/-! the reference's checker: its small steps -/
def nK (L : List Nat) (g g' : Nat → Nat) : Prop := okg g' ∧ ∀ x, x ∉ L → nv g' x = nv g x
theorem nK.rf {g : Nat → Nat} (ok : okg g) (L : List Nat) : nK L g g := ⟨ok, fun _ _ => rfl⟩
theorem nK.tr {L : List Nat} {g g1 g2 : Nat → Nat} (a : nK L g g1) (b : nK L g1 g2) : nK L g g2 := ⟨b.1, fun x hx => (b.2 x hx).trans (a.2 x hx)⟩
theorem nK.mono {L L' : List Nat} {g g1 : Nat → Nat} (a : nK L g g1) (h : ∀ k, k ∈ L → k ∈ L') : nK L' g g1 := ⟨a.1, fun x hx => a.2 x (fun z => hx (h x z))⟩
theorem nK.of1 {g g' : Nat → Nat} {y : Nat} (ok : okg g') (h : ∀ z, z ≠ y → nv g' z = nv g z) : nK [y] g g' := ⟨ok, fun x hx => h x (fun z => hx (by rw [z]; exact List.mem_singleton.mpr rfl))⟩
section
variable {M : Nat} {h : dzH} {o : Nat → Int32} {g : Nat → Nat} {T : Nat → Int32} {F : Nat → Nat → Int32} {s c l : Nat}
theorem m_copy (ok : okg g) {ix iy : Int32} {x y : Nat} (ex : ix = nI x) (ey : iy = nI y) (hx : x < 232) (hy : y < 232) (hxy : x ≠ y) : ∃ g', c_M_copy M ix iy (mS h M o g T F) = some (mS h M o g' T F) ∧ nK [y] g g' ∧ nv g' y = nv g x := by
  obtain ⟨g', a1, a2, a3, a4⟩ := sp_Mcopy (mS_MO (h := h) (M := M) (o := o) (T := T) (F := F) ok) ex ey hx hy hxy
  rw [hD_mS] at a1
  exact ⟨g', a1, .of1 a2 a4, a3⟩
theorem m_set (ok : okg g) (v : Int64) {ix : Int32} {x : Nat} (ex : ix = nI x) (hx : x < 232) : ∃ g', c_M_set M ix v (mS h M o g T F) = some (mS h M o g' T F) ∧ nK [x] g g' ∧ nv g' x = uN v := by
  obtain ⟨g', a1, a2, a3, a4⟩ := sp_Mset v (mS_MO (h := h) (M := M) (o := o) (T := T) (F := F) ok) ex hx
  rw [hD_mS] at a1
  exact ⟨g', a1, .of1 a2 a4, a3⟩
theorem m_order (ok : okg g) {ix iy : Int32} {x y : Nat} (ex : ix = nI x) (ey : iy = nI y) (hx : x < 232) (hy : y < 232) : c_M_order M ix iy (mS h M o g T F) = some (ordI (nv g x) (nv g y), mS h M o g T F) :=
  sp_Morder (mS_MO ok) ex ey hx hy
theorem m_isOne (ok : okg g) {ix : Int32} {x : Nat} (ex : ix = nI x) (hx : x < 232) (h1 : nv g 21 = 1) : c_M_isOne M ix (mS h M o g T F) = some (bI (decide (nv g x = 1)), mS h M o g T F) := sp_MisOne (mS_MO ok) ex hx h1
theorem m_isZero (ok : okg g) {ix : Int32} {x : Nat} (ex : ix = nI x) (hx : x < 232) : c_M_isZero M ix (mS h M o g T F) = some (bI (decide (nv g x = 0)), mS h M o g T F) := sp_MisZero (mS_MO ok) ex hx
theorem m_fits (ok : okg g) {ix : Int32} {x : Nat} (ex : ix = nI x) (hx : x < 232) : c_M_fits M ix (mS h M o g T F) = some (bI (decide (nv g x < B8)), mS h M o g T F) := sp_Mfits (mS_MO ok) ex hx
theorem m_lower (ok : okg g) {ix iy : Int32} {x y : Nat} (ex : ix = nI x) (ey : iy = nI y) (hx : x < 232) (hy : y < 232) (hxy : x ≠ y) (hle : nv g y ≤ nv g x) : ∃ g', c_M_lower M ix iy (mS h M o g T F) = some (mS h M o g' T F) ∧ nK [x] g g' ∧ nv g' x = nv g x - nv g y := by
  obtain ⟨g', a1, a2, a3, a4⟩ := sp_Mlower (mS_MO (h := h) (M := M) (o := o) (T := T) (F := F) ok) ex ey hx hy hxy hle
  rw [hD_mS] at a1
  exact ⟨g', a1, .of1 a2 a4, a3⟩
theorem m_times (ok : okg g) {ix iy iz : Int32} {x y z : Nat} (ex : ix = nI x) (ey : iy = nI y) (ez : iz = nI z) (hx : x < 232) (hy : y < 232) (hz : z < 232) (hzx : z ≠ x) (hzy : z ≠ y) (hxB : nv g x < B8) (hyB : nv g y < B8) : ∃ g', c_M_times M ix iy iz (mS h M o g T F) = some (mS h M o g' T F) ∧ nK [z] g g' ∧ nv g' z = nv g x * nv g y := by
  obtain ⟨g', a1, a2, a3, a4⟩ := sp_Mtimes (mS_MO (h := h) (M := M) (o := o) (T := T) (F := F) ok) ex ey ez hx hy hz hzx hzy hxB hyB
  rw [hD_mS] at a1
  exact ⟨g', a1, .of1 a2 a4, a3⟩
theorem m_part (ok : okg g) {ix iy iq ir : Int32} {x y q r : Nat} (ex : ix = nI x) (ey : iy = nI y) (eq : iq = nI q) (er : ir = nI r) (hx : x < 232) (hy : y < 232) (hq : q < 232) (hr : r < 232) (hqx : q ≠ x) (hqy : q ≠ y) (hrx : r ≠ x) (hry : r ≠ y) (hqr : q ≠ r) (hY : 0 < nv g y) (hX : nv g x < B8) : ∃ g', c_M_part M ix iy iq ir (mS h M o g T F) = some (mS h M o g' T F) ∧ nK [q, r] g g' ∧ nv g' q = nv g x / nv g y ∧ nv g' r = nv g x % nv g y := by
  obtain ⟨g', a1, a2, a3, a4, a5⟩ := sp_Mpart (mS_MO (h := h) (M := M) (o := o) (T := T) (F := F) ok) ex ey eq er hx hy hq hr hqx hqy hrx hry hqr hY (ltB8 hX)
  rw [hD_mS] at a1
  refine ⟨g', a1, ⟨a2, fun z hz => a5 z (fun e => hz (by rw [e]; simp)) (fun e => hz (by rw [e]; simp))⟩, a3, a4⟩
theorem m_isWhole (ok : okg g) (h1 : nv g 21 = 1) {V a : Nat} (hV : nv g 10 = V) (hV0 : 0 < V) (hVB : V < B8) (hL : nv g 11 = V - 1) (ha : nv g 14 = a) (haB : a < B8) : ∃ g', c_M_isWhole M (mS h M o g T F) = some (bI (decide (a ^ (V - 1) % V = 1)), mS h M o g' T F) ∧ nK [16, 17, 18, 19] g g' := by
  obtain ⟨fs, ho⟩ := mS_ob h M o g T F
  obtain ⟨g', a1, a2, a3, a4⟩ := sp_MraiseTo (mS_MO (h := h) (M := M) (o := o) (T := T) (F := F) ok) (show (14 : Int32) = nI 14 from rfl) (show (11 : Int32) = nI 11 from rfl) (show (10 : Int32) = nI 10 from rfl) (show (16 : Int32) = nI 16 from rfl) (by decide) (by decide) (by decide) (by decide) (by decide) (by decide) (by decide) (by decide) (by decide) (by decide) (by decide) (by decide) (by decide) (by decide) (by decide) (by decide) (by decide) (by decide) (by rw [hV]; exact hV0) (by rw [hV]; exact hVB) (by rw [ha]; exact haB) h1
  rw [hD_mS] at a1
  rw [ha, hL, hV] at a3
  refine ⟨g', ?_, a2, fun x hx => a4 x (fun e => hx (by rw [e]; simp)) (fun e => hx (by rw [e]; simp)) (fun e => hx (by rw [e]; simp)) (fun e => hx (by rw [e]; simp))⟩
  rw [cc_M_isWhole _ _ ho, q_M_isWhole_0, a1, Option.bind_some, m_isOne a2 (show (16 : Int32) = nI 16 from rfl) (by decide) (by rw [a4 21 (by decide) (by decide) (by decide) (by decide), h1]), Option.bind_some, a3]
  dsimp only
  rw [dzB01_b]
  rfl
abbrev LR : List Nat := [15, 16, 17, 18, 19, 22]
theorem m_isRight0 (ok : okg g) (h1 : nv g 21 = 1) {V a q : Nat} (hV : nv g 10 = V) (hV0 : 0 < V) (hVB : V < B8) (hL : nv g 11 = V - 1) (ha : nv g 14 = a) (haB : a < B8) (hl : l < 200) (hq : nv g (32 + l) = q) (hq0 : 0 < q) : ∃ g', nK LR g g' ∧ nv g' 16 = pwq a q V ∧ (∀ i2, c_M_isRight M (nI l) i2 (mS h M o g T F) = dzRI (if i2 = 0 then (c_M_isOne M (16 : Int32) (mS h M o g' T F)).bind fun q3 => if q3.1 = 0 then some (some (.int (1 : Int32)), q3.2) else some (some (.int (0 : Int32)), q3.2)
    else (c_M_isZero M (16 : Int32) (mS h M o g' T F)).bind fun q3 => if q3.1 = 0 then dzF 144 62 [(0, .ref M), (1, .int (nI l)), (2, .int i2)] [] (0, 0) q3.2 else (c_M_copy M (10 : Int32) (16 : Int32) q3.2).bind fun h4 => dzF 144 62 [(0, .ref M), (1, .int (nI l)), (2, .int i2)] [] (0, 0) h4)) := by
  obtain ⟨fs, ho⟩ := mS_ob h M o g T F
  obtain ⟨g1, a1, a2, a3, a4⟩ := m_part (M := M) (h := h) (o := o) (T := T) (F := F) ok (show (11 : Int32) = nI 11 from rfl) (show (32 : Int32) + nI l = nI (32 + l) from by rw [show (32 : Int32) = nI 32 from rfl, nI_add]) (show (15 : Int32) = nI 15 from rfl) (show (16 : Int32) = nI 16 from rfl) (by decide) (by omega) (by decide) (by decide) (by decide) (by omega) (by decide) (by omega) (by decide) (by rw [hq]; exact hq0) (by rw [hL]; omega)
  rw [hL, hq] at a3
  obtain ⟨g2, b1, b2, b3, b4⟩ := sp_MraiseTo (mS_MO (h := h) (M := M) (o := o) (T := T) (F := F) a2.1) (show (14 : Int32) = nI 14 from rfl) (show (15 : Int32) = nI 15 from rfl) (show (10 : Int32) = nI 10 from rfl) (show (16 : Int32) = nI 16 from rfl) (by decide) (by decide) (by decide) (by decide) (by decide) (by decide) (by decide) (by decide) (by decide) (by decide) (by decide) (by decide) (by decide) (by decide) (by decide) (by decide) (by decide) (by decide) (by rw [a2.2 10 (by decide), hV]; exact hV0) (by rw [a2.2 10 (by decide), hV]; exact hVB) (by rw [a2.2 14 (by decide), ha]; exact haB) (by rw [a2.2 21 (by decide), h1])
  rw [hD_mS] at b1
  rw [a3, a2.2 10 (by decide), a2.2 14 (by decide), ha, hV] at b3
  have k2 : nK LR g1 g2 := ⟨b2, fun x hx => b4 x (fun e => hx (by rw [e]; simp)) (fun e => hx (by rw [e]; simp)) (fun e => hx (by rw [e]; simp)) (fun e => hx (by rw [e]; simp))⟩
  refine ⟨g2, (a2.mono (by decide)).tr k2, b3, fun i2 => ?_⟩
  rw [cc_M_isRight _ _ _ _ ho, q_M_isRight_0, a1, Option.bind_some, b1, Option.bind_some]
theorem m_isRightF (ok : okg g) (h1 : nv g 21 = 1) {V a q : Nat} (hV : nv g 10 = V) (hV0 : 0 < V) (hVB : V < B8) (hL : nv g 11 = V - 1) (ha : nv g 14 = a) (haB : a < B8) (hl : l < 200) (hq : nv g (32 + l) = q) (hq0 : 0 < q) : ∃ g', c_M_isRight M (nI l) 0 (mS h M o g T F) = some (bI (decide (¬ pwq a q V = 1)), mS h M o g' T F) ∧ nK LR g g' := by
  obtain ⟨g', k, e16, r⟩ := m_isRight0 (M := M) (h := h) (o := o) (T := T) (F := F) ok h1 hV hV0 hVB hL ha haB hl hq hq0
  refine ⟨g', ?_, k⟩
  rw [r 0, if_pos rfl, m_isOne k.1 (show (16 : Int32) = nI 16 from rfl) (by decide) (by rw [k.2 21 (by decide), h1]), Option.bind_some, e16]
  dsimp only
  by_cases hx : pwq a q V = 1
  · rw [decide_eq_true hx, if_neg bI_n1, decide_eq_false (fun z => z hx)]
    rfl
  · rw [decide_eq_false hx, if_pos bI_f, decide_eq_true hx]
    rfl
theorem m_isRightT (ok : okg g) (h1 : nv g 21 = 1) {V a q : Nat} (hV : nv g 10 = V) (hV0 : 1 < V) (hVB : V < B8) (hL : nv g 11 = V - 1) (ha : nv g 14 = a) (haB : a < B8) (hl : l < 200) (hq : nv g (32 + l) = q) (hq0 : 0 < q) : ∃ g', c_M_isRight M (nI l) 1 (mS h M o g T F) = some (bI (decide (Nat.gcd (pvn a q V) V = 1)), mS h M o g' T F) ∧ nK LR g g' := by
  obtain ⟨g1, k1, e16, r⟩ := m_isRight0 (M := M) (h := h) (o := o) (T := T) (F := F) ok h1 hV (by omega) hVB hL ha haB hl hq hq0
  have hlt : pwq a q V < V := Nat.mod_lt _ (by omega)
  have main : ∀ g2 : Nat → Nat, nK LR g g2 → nv g2 16 = pvn a q V + 1 → ∃ g', dzRI (dzF 144 62 [(0, .ref M), (1, .int (nI l)), (2, .int 1)] [] (0, 0) (mS h M o g2 T F)) = some (bI (decide (Nat.gcd (pvn a q V) V = 1)), mS h M o g' T F) ∧ nK LR g g' := by
    intro g2 k2 e2
    have e21 : nv g2 21 = 1 := by rw [k2.2 21 (by decide), h1]
    have e10 : nv g2 10 = V := by rw [k2.2 10 (by decide), hV]
    have hpv : pvn a q V < B8 := by
      unfold pvn
      split <;> omega
    obtain ⟨g3, a1, a2, a3⟩ := m_lower (M := M) (h := h) (o := o) (T := T) (F := F) k2.1 (show (16 : Int32) = nI 16 from rfl) (show (21 : Int32) = nI 21 from rfl) (by decide) (by decide) (by decide) (by rw [e21, e2]; omega)
    rw [e2, e21, Nat.add_sub_cancel] at a3
    obtain ⟨g4, b1, b2, b3, b4⟩ := sp_Mdivisor (mS_MO (h := h) (M := M) (o := o) (T := T) (F := F) a2.1) (show (16 : Int32) = nI 16 from rfl) (show (10 : Int32) = nI 10 from rfl) (show (22 : Int32) = nI 22 from rfl) (by decide) (by decide) (by decide) (by decide) (by decide) (by decide) (by decide) (by decide) (by decide) (by rw [a3]; exact hpv) (by rw [a2.2 10 (by decide), e10]; exact hVB)
    rw [hD_mS] at b1
    rw [a3, a2.2 10 (by decide), e10] at b3
    have k4 : nK LR g3 g4 := ⟨b2, fun x hx => b4 x (fun e => hx (by rw [e]; simp)) (fun e => hx (by rw [e]; simp)) (fun e => hx (by rw [e]; simp)) (fun e => hx (by rw [e]; simp))⟩
    have k5 : nK LR g g4 := (k2.tr (a2.mono (by decide))).tr k4
    refine ⟨g4, ?_, k5⟩
    rw [q_M_isRight_62, a1, Option.bind_some, b1, Option.bind_some, m_isOne b2 (show (22 : Int32) = nI 22 from rfl) (by decide) (by rw [k5.2 21 (by decide), h1]), Option.bind_some, b3]
    dsimp only
    rw [dzB01_b]
    rfl
  rw [r 1, if_neg one_n0, m_isZero k1.1 (show (16 : Int32) = nI 16 from rfl) (by decide), Option.bind_some, e16]
  dsimp only
  by_cases hz : pwq a q V = 0
  · obtain ⟨g2, a1, a2, a3⟩ := m_copy (M := M) (h := h) (o := o) (T := T) (F := F) k1.1 (show (10 : Int32) = nI 10 from rfl) (show (16 : Int32) = nI 16 from rfl) (by decide) (by decide) (by decide)
    rw [decide_eq_true hz, if_neg bI_n1, a1, Option.bind_some]
    refine main g2 (k1.tr (a2.mono (by decide))) ?_
    rw [a3, k1.2 10 (by decide), hV]
    unfold pvn
    rw [if_pos hz]
    omega
  · rw [decide_eq_false hz, if_pos bI_f]
    refine main g1 k1 ?_
    rw [e16]
    unfold pvn
    rw [if_neg hz]
    omega
-- faults, the next int
theorem m_good (hg : o 7 = 0) : c_M_isGood M (mS h M o g T F) = some (1, mS h M o g T F) := by
  obtain ⟨fs, ho⟩ := mS_ob h M o g T F
  rw [cc_M_isGood _ _ ho, q_M_isGood_0, mS_g7, Option.bind_some, if_pos hg]
  rfl
theorem m_bad (hg : ¬ o 7 = 0) : c_M_isGood M (mS h M o g T F) = some (0, mS h M o g T F) := by
  obtain ⟨fs, ho⟩ := mS_ob h M o g T F
  rw [cc_M_isGood _ _ ho, q_M_isGood_0, mS_g7, Option.bind_some, if_neg hg]
  rfl
theorem m_fail (hg : o 7 = 0) (x y : Int32) : c_M_fail M x y (mS h M o g T F) = some (mS h M (upd (upd o 7 x) 3 y) g T F) := by
  obtain ⟨fs, ho⟩ := mS_ob h M o g T F
  rw [cc_M_fail _ _ _ _ ho, q_M_fail_0, mS_g7, Option.bind_some, if_pos hg, mS_p7, Option.bind_some, mS_p3]
  rfl
theorem m_fail0 (hg : ¬ o 7 = 0) (x y : Int32) : c_M_fail M x y (mS h M o g T F) = some (mS h M o g T F) := by
  obtain ⟨fs, ho⟩ := mS_ob h M o g T F
  rw [cc_M_fail _ _ _ _ ho, q_M_fail_0, mS_g7, Option.bind_some, if_neg hg]
  rfl
/-- the reference stands at int c of s -/
def Mt (o : Nat → Int32) (s c : Nat) : Prop := o 2 = nI s ∧ s ≤ 4000 ∧ o 6 = nI c ∧ c ≤ s
theorem Mt.up (a : Mt o s c) {e : Nat} (he : e ≤ s) : Mt (upd o 6 (nI e)) s e := ⟨by rw [pk_un (by decide)]; exact a.1, a.2.1, pk_us, he⟩
theorem m_next (hg : o 7 = 0) (a : Mt o s c) (hc : c < s) : c_M_next M (mS h M o g T F) = some (T c, mS h M (upd o 6 (nI (c + 1))) g T F) := by
  obtain ⟨fs, ho⟩ := mS_ob h M o g T F
  obtain ⟨h2, h4, h6, h5⟩ := a
  rw [cc_M_next _ _ ho, q_M_next_0]
  simp only [m_good hg, Option.bind_some, if_neg one_n0, mS_g6, mS_g2, h6, h2]
  rw [if_neg (fun q => by have := (nI_eq (by omega) (by omega)).mp q; omega)]
  simp only [nI_1, mS_p6, Option.bind_some, mS_T, mS_g6, pk_us, nI_pred, mS_rT (j := c) (by omega)]
  rfl
theorem m_nextE (hg : o 7 = 0) (a : Mt o s c) (hc : ¬ c < s) : c_M_next M (mS h M o g T F) = some (0, mS h M (upd (upd o 7 1) 3 (nI s)) g T F) := by
  obtain ⟨fs, ho⟩ := mS_ob h M o g T F
  obtain ⟨h2, h4, h6, h5⟩ := a
  have e : c = s := by omega
  rw [cc_M_next _ _ ho, q_M_next_0]
  simp only [m_good hg, Option.bind_some, if_neg one_n0, mS_g6, mS_g2, h6, h2]
  rw [if_pos (by rw [e]), m_fail hg]
  rfl
theorem m_next0 (hg : ¬ o 7 = 0) : c_M_next M (mS h M o g T F) = some (0, mS h M o g T F) := by
  obtain ⟨fs, ho⟩ := mS_ob h M o g T F
  rw [cc_M_next _ _ ho, q_M_next_0, m_bad hg]
  rfl
theorem fl7 {x y : Int32} : upd (upd o 7 x) 3 y 7 = x := by rw [pk_un (by decide), pk_us]
theorem fl3 {x y : Int32} : upd (upd o 7 x) 3 y 3 = y := pk_us
theorem m_nIn (hg : o 7 = 0) (a : Mt o s c) (hc : c < s) {i j : Int32} (h1 : ¬ T c < i) (h2 : T c ≤ j) : c_M_nextIn M i j (mS h M o g T F) = some (T c, mS h M (upd o 6 (nI (c + 1))) g T F) := by
  obtain ⟨fs, ho⟩ := mS_ob h M o g T F
  rw [cc_M_nextIn _ _ _ _ ho, q_M_nextIn_0]
  simp only [m_next hg a hc, Option.bind_some, m_good (o := upd o 6 (nI (c + 1))) (show upd o 6 (nI (c + 1)) 7 = 0 by rw [pk_un (by decide), hg]), if_neg one_n0, if_neg h1, if_pos h2]
  rfl
theorem m_nInB (hg : o 7 = 0) (a : Mt o s c) (hc : c < s) {i j : Int32} (h1 : T c < i ∨ ¬ T c ≤ j) : c_M_nextIn M i j (mS h M o g T F) = some (T c, mS h M (upd (upd (upd o 6 (nI (c + 1))) 7 2) 3 (nI c)) g T F) := by
  obtain ⟨fs, ho⟩ := mS_ob h M o g T F
  have hg' : upd o 6 (nI (c + 1)) 7 = 0 := by rw [pk_un (by decide), hg]
  rw [cc_M_nextIn _ _ _ _ ho, q_M_nextIn_0]
  simp only [m_next hg a hc, Option.bind_some, m_good (o := upd o 6 (nI (c + 1))) hg', if_neg one_n0, q_M_nextIn_22, mS_g6, pk_us, nI_pred, m_fail hg']
  rcases h1 with h1 | h1
  · rw [if_pos h1]
    rfl
  · rw [if_neg h1]
    split <;> rfl
theorem m_nInE (hg : o 7 = 0) (a : Mt o s c) (hc : ¬ c < s) (i j : Int32) : c_M_nextIn M i j (mS h M o g T F) = some (0, mS h M (upd (upd o 7 1) 3 (nI s)) g T F) := by
  obtain ⟨fs, ho⟩ := mS_ob h M o g T F
  rw [cc_M_nextIn _ _ _ _ ho, q_M_nextIn_0]
  simp only [m_nextE hg a hc, Option.bind_some, m_bad (o := upd (upd o 7 1) 3 (nI s)) (show ¬ upd (upd o 7 1) 3 (nI s) 7 = 0 by rw [fl7]; decide)]
  rfl
theorem m_nIn0 (hg : ¬ o 7 = 0) (i j : Int32) : c_M_nextIn M i j (mS h M o g T F) = some (0, mS h M o g T F) := by
  obtain ⟨fs, ho⟩ := mS_ob h M o g T F
  rw [cc_M_nextIn _ _ _ _ ho, q_M_nextIn_0]
  simp only [m_next0 hg, Option.bind_some, m_bad hg]
  rfl
end
