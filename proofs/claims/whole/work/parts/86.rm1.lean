/-! the reference's maker: saying lines, dividing out, finding -/
section
variable {M : Nat} {h : dzH} {o : Nat → Int32} {g : Nat → Nat} {T : Nat → Int32} {F : Nat → Nat → Int32} {s c l n k m x V : Nat} {L X N : Nat → Nat}
theorem m_say (h2 : o 2 = nI s) (hs : s < 4000) (y : Int32) : c_M_say M y (mS h M o g T F) = some (nI (s + 1), mS h M (upd o 2 (nI (s + 1))) g (upd T s y) F) := by
  obtain ⟨fs, ho⟩ := mS_ob h M o g T F
  rw [cc_M_say _ _ _ ho, q_M_say_0, mS_g2, Option.bind_some, h2, if_neg (show ¬ nI s = 4000 from fun q => by have := (nI_eq (b := 4000) (by omega) (by decide)).mp q; omega), mS_T, Option.bind_some, Option.bind_some, mS_wT y hs, Option.bind_some, mS_g2, Option.bind_some, h2, nI_1, mS_p2, Option.bind_some, mS_g2, Option.bind_some, pk_us]
  rfl
theorem m_say0 (h2 : o 2 = nI 4000) (y : Int32) : c_M_say M y (mS h M o g T F) = some (-3, mS h M o g T F) := by
  obtain ⟨fs, ho⟩ := mS_ob h M o g T F
  rw [cc_M_say _ _ _ ho, q_M_say_0, mS_g2, Option.bind_some, h2]
  rfl
theorem lp_mlo (ok : okg g) {z : Nat} (hz : z < 232) (h4 : o 4 = nI l) (hl : l ≤ 200) : ∀ (k i : Nat), i + k = l → dzRI (dzF 150 2 [(0, .ref M), (1, .int (nI z)), (2, .int (nI i))] [] (0, 0) (mS h M o g T F)) = some (lnI (lnOf (fun j => nv g (32 + j)) (nv g z) k i) (-1), mS h M o g T F)
  | 0, i, e => by
    rw [q_M_lineOf_2, mS_g4, Option.bind_some, h4, if_neg (nI_nlt (by omega) (by omega)), q_M_lineOf_28, mS_g4, Option.bind_some, h4, if_neg (nI_nlt (by omega) (by omega))]
    rfl
  | k + 1, i, e => by
    rw [q_M_lineOf_2, mS_g4, Option.bind_some, h4, if_pos (nI_lt (by omega) (by omega)), m_order ok (i32l i) rfl (by omega) hz, Option.bind_some]
    dsimp only
    unfold lnOf
    by_cases h1 : nv g (32 + i) = nv g z
    · rw [if_pos (ordI_0.mpr h1), if_pos h1, q_M_lineOf_28, mS_g4, Option.bind_some, h4, if_pos (nI_lt (by omega) (by omega))]
      rfl
    · rw [if_neg (fun q => h1 (ordI_0.mp q)), if_neg h1, nI_1]
      exact lp_mlo ok hz h4 hl k (i + 1) (by omega)
theorem m_lineOf (ok : okg g) {z : Nat} (hz : z < 232) (h4 : o 4 = nI l) (hl : l ≤ 200) : c_M_lineOf M (nI z) (mS h M o g T F) = some (lnI (lnOf (fun j => nv g (32 + j)) (nv g z) l 0) (-1), mS h M o g T F) := by
  obtain ⟨fs, ho⟩ := mS_ob h M o g T F
  rw [cc_M_lineOf _ _ _ ho, q_M_lineOf_0, ← nI_0, lp_mlo ok hz h4 hl l 0 (by omega)]
theorem m_sayOne (ok : okg g) {p : Nat} (hp : p < 65536) (h2 : o 2 = nI s) (h4 : o 4 = nI l) (hl : l < 200) (hs : s + 2 ≤ 4000) : ∃ o' g', c_M_sayOne M (nI p) (mS h M o g T F) = some (1, mS h M o' g' (upd (upd T s 1) (s + 1) (nI p)) F) ∧ keL [2, 4] o o' ∧ o' 2 = nI (s + 2) ∧ o' 4 = nI (l + 1) ∧ nK [32 + l] g g' ∧ nv g' (32 + l) = p := by
  obtain ⟨fs, ho⟩ := mS_ob h M o g T F
  obtain ⟨g1, a1, a2, a3⟩ := m_set (M := M) (h := h) (o := upd (upd o 2 (nI (s + 1))) 2 (nI (s + 1 + 1))) (T := upd (upd T s 1) (s + 1) (nI p)) (F := F) ok (Int32.toInt64 (nI p)) (i32l l) (by omega)
  have e4 : upd (upd o 2 (nI (s + 1))) 2 (nI (s + 1 + 1)) 4 = nI l := by rw [pk_un (by decide), pk_un (by decide), h4]
  refine ⟨upd (upd (upd o 2 (nI (s + 1))) 2 (nI (s + 1 + 1))) 4 (nI (l + 1)), g1, ?_, fun q hq => ?_, ?_, pk_us, a2, ?_⟩
  · rw [cc_M_sayOne _ _ _ ho, q_M_sayOne_0, mS_g4, Option.bind_some, h4, if_neg (show ¬ nI l = 200 from fun q => by have := (nI_eq (b := 200) (by omega) (by decide)).mp q; omega), mS_g2, Option.bind_some, h2, show (2 : Int32) = nI 2 from rfl, nI_add, if_pos (show nI (s + 2) ≤ 4000 from nI_le (b := 4000) hs (by decide)), m_say h2 (by omega), Option.bind_some]
    dsimp only
    rw [m_say (o := upd o 2 (nI (s + 1))) (s := s + 1) pk_us (by omega), Option.bind_some]
    dsimp only
    rw [mS_g4, Option.bind_some, e4, a1, Option.bind_some, mS_g4, Option.bind_some, e4, nI_1, mS_p4, Option.bind_some]
    rfl
  · rw [pk_un (fun z => hq (by rw [z]; decide)), pk_un (fun z => hq (by rw [z]; decide)), pk_un (fun z => hq (by rw [z]; decide))]
  · rw [pk_un (by decide), pk_us]
  · rw [a3, uN_pos (by rw [w32_nI (by omega)]; omega), w32_nI (by omega)]
theorem m_sayOne0 (p : Int32) (h2 : o 2 = nI s) (h4 : o 4 = nI l) (hl : l ≤ 200) (hs : s ≤ 4000) (hno : ¬ (l < 200 ∧ s + 2 ≤ 4000)) : c_M_sayOne M p (mS h M o g T F) = some (0, mS h M o g T F) := by
  obtain ⟨fs, ho⟩ := mS_ob h M o g T F
  rw [cc_M_sayOne _ _ _ ho, q_M_sayOne_0, mS_g4, Option.bind_some, h4]
  by_cases hl2 : l < 200
  · rw [if_neg (show ¬ nI l = 200 from fun q => by have := (nI_eq (b := 200) (by omega) (by decide)).mp q; omega), mS_g2, Option.bind_some, h2, show (2 : Int32) = nI 2 from rfl, nI_add, if_neg (show ¬ nI (s + 2) ≤ 4000 from nI_ge (a := 4000) (by omega) (by omega))]
    rfl
  · have : l = 200 := by omega
    subst this
    rfl
theorem lp_often {p z : Nat} (hp : 2 ≤ p) (hz : z < 232) (z12 : z ≠ 12) (z15 : z ≠ 15) (z16 : z ≠ 16) : ∀ (d e : Nat) {y : Nat} {g : Nat → Nat}, okg g → 0 < y → y < 2 ^ (d + 1) → y < B8 → nv g z = p → nv g 12 = y → nv g 15 = y / p → nv g 16 = y % p →
    ∃ g', dzRI (dzF 152 13 [(0, .ref M), (1, .int (nI z)), (2, .int (nI e))] [] (0, 0) (mS h M o g T F)) = some (nI (e + (mlt p d y).1), mS h M o g' T F) ∧ nK [12, 15, 16] g g' ∧ nv g' 12 = (mlt p d y).2
  | 0, e, y, g, ok, hy, hlt, hB, hzp, h12, h15, h16 => by
    have ey : y = 1 := by
      rw [Nat.zero_add, Nat.pow_one] at hlt
      omega
    subst ey
    refine ⟨g, ?_, nK.rf ok _, h12⟩
    rw [q_M_often_13, m_isZero ok (show (16 : Int32) = nI 16 from rfl) (by decide), Option.bind_some, h16, Nat.mod_eq_of_lt (by omega)]
    rfl
  | d + 1, e, y, g, ok, hy, hlt, hB, hzp, h12, h15, h16 => by
    rw [q_M_often_13, m_isZero ok (show (16 : Int32) = nI 16 from rfl) (by decide), Option.bind_some, h16]
    dsimp only
    by_cases hd : y % p = 0
    · have hdv := Nat.dvd_of_mod_eq_zero hd
      have hyp : 0 < y / p := Nat.div_pos (Nat.le_of_dvd hy hdv) (by omega)
      have hle : y / p ≤ y / 2 := Nat.div_le_div_left hp (by decide)
      obtain ⟨g1, a1, a2, a3⟩ := m_copy (M := M) (h := h) (o := o) (T := T) (F := F) ok (show (15 : Int32) = nI 15 from rfl) (show (12 : Int32) = nI 12 from rfl) (by decide) (by decide) (by decide)
      rw [h15] at a3
      have ez : nv g1 z = p := by rw [a2.2 z (by simp; exact z12), hzp]
      obtain ⟨g2, b1, b2, b3, b4⟩ := m_part (M := M) (h := h) (o := o) (T := T) (F := F) a2.1 (show (12 : Int32) = nI 12 from rfl) (iy := nI z) rfl (show (15 : Int32) = nI 15 from rfl) (show (16 : Int32) = nI 16 from rfl) (by decide) hz (by decide) (by decide) (by decide) (Ne.symm z15) (by decide) (Ne.symm z16) (by decide) (by rw [ez]; omega) (by rw [a3]; omega)
      rw [a3, ez] at b3 b4
      obtain ⟨g3, c1, c2, c3⟩ := lp_often hp hz z12 z15 z16 d (e + 1) (y := y / p) b2.1 hyp (by rw [Nat.pow_succ] at hlt; omega) (by omega) (by rw [b2.2 z (by simp; exact ⟨z15, z16⟩), ez]) (by rw [b2.2 12 (by decide), a3]) b3 b4
      refine ⟨g3, ?_, ((a2.mono (by decide)).tr (b2.mono (by decide))).tr c2, ?_⟩
      · rw [decide_eq_true hd, if_neg bI_n1, a1, Option.bind_some, b1, Option.bind_some, nI_1, c1, mlt_y hd]
        congr 2
        show nI (e + 1 + _) = nI (e + (_ + 1))
        congr 1
        omega
      · rw [c3, mlt_y hd]
    · rw [decide_eq_false hd, if_pos bI_f, mlt_n hd]
      exact ⟨g, rfl, nK.rf ok _, h12⟩
theorem m_often (ok : okg g) {p z y : Nat} (hp : 2 ≤ p) (hz : z < 232) (z12 : z ≠ 12) (z15 : z ≠ 15) (z16 : z ≠ 16) (hzp : nv g z = p) (hy : 0 < y) (hB : y < B8) (h12 : nv g 12 = y) : ∃ g', c_M_often M (nI z) (mS h M o g T F) = some (nI (mlt p 255 y).1, mS h M o g' T F) ∧ nK [12, 15, 16] g g' ∧ nv g' 12 = (mlt p 255 y).2 := by
  obtain ⟨fs, ho⟩ := mS_ob h M o g T F
  obtain ⟨g2, b1, b2, b3, b4⟩ := m_part (M := M) (h := h) (o := o) (T := T) (F := F) ok (show (12 : Int32) = nI 12 from rfl) (iy := nI z) rfl (show (15 : Int32) = nI 15 from rfl) (show (16 : Int32) = nI 16 from rfl) (by decide) hz (by decide) (by decide) (by decide) (Ne.symm z15) (by decide) (Ne.symm z16) (by decide) (by rw [hzp]; omega) (by rw [h12]; exact hB)
  rw [h12, hzp] at b3 b4
  obtain ⟨g3, c1, c2, c3⟩ := lp_often (M := M) (h := h) (o := o) (T := T) (F := F) hp hz z12 z15 z16 255 0 (y := y) b2.1 hy (by rw [show 255 + 1 = 256 from rfl, ← B8_p]; exact hB) hB (by rw [b2.2 z (by simp; exact ⟨z15, z16⟩), hzp]) (by rw [b2.2 12 (by decide), h12]) b3 b4
  refine ⟨g3, ?_, (b2.mono (by decide)).tr c2, c3⟩
  rw [cc_M_often _ _ _ ho, q_M_often_0, b1, Option.bind_some, ← nI_0, c1, Nat.zero_add]
-- finding
def Nk (n : Nat) (g g' : Nat → Nat) : Prop := okg g' ∧ ∀ x, x < 8 ∨ x = 10 ∨ x = 11 ∨ x = 21 ∨ (32 ≤ x ∧ x < 32 + n) → nv g' x = nv g x
theorem Nk.rf (n : Nat) (ok : okg g) : Nk n g g := ⟨ok, fun _ _ => rfl⟩
theorem Nk.tr {g1 g2 : Nat → Nat} (a : Nk n g g1) (b : Nk n g1 g2) : Nk n g g2 := ⟨b.1, fun x hx => (b.2 x hx).trans (a.2 x hx)⟩
theorem Nk.of {g1 : Nat → Nat} {L : List Nat} (k : nK L g g1) (hL : ∀ x, x ∈ L → x = 8 ∨ x = 9 ∨ (11 < x ∧ x < 21) ∨ (21 < x ∧ x < 32) ∨ 32 + n ≤ x) : Nk n g g1 := ⟨k.1, fun x hx => k.2 x (fun z => by have := hL x z; omega)⟩
def H1 (M : Nat) (h : dzH) (n s : Nat) (o : Nat → Int32) (g : Nat → Nat) (T : Nat → Int32) (F : Nat → Nat → Int32) (e : Option dzR) (R : FS) : Prop :=
  (R.1 ≤ 40 ∧ n + R.2.1 ≤ 200 ∧ s + 2 * R.2.1 ≤ 4000 → ∃ o' g' T' F', e = dzF 154 7 [(0, .ref M), (1, .int (nI 1010))] [] (0, 0) (mS h M o' g' T' F') ∧ Nk n g g' ∧ keL [2, 4, 8] o o' ∧ (∀ j, j < s → T' j = T j) ∧ F' 2 = F 2 ∧ o' 2 = nI (s + 2 * R.2.1) ∧ o' 4 = nI (n + R.2.1) ∧ o' 8 = nI R.1 ∧ nv g' 12 = R.2.2.1 ∧ (∀ i, i < n + R.2.1 → nv g' (32 + i) = R.2.2.2.2.2 i) ∧ (∀ j, j < R.1 → F' 0 j = nI (R.2.2.2.1 j) ∧ F' 1 j = nI (R.2.2.2.2.1 j)) ∧ (∀ q, q < R.2.1 → T' (s + 2 * q) = nI 1 ∧ T' (s + 2 * q + 1) = nI (R.2.2.2.2.2 (n + q)))) ∧
  (¬ (R.1 ≤ 40 ∧ n + R.2.1 ≤ 200 ∧ s + 2 * R.2.1 ≤ 4000) → ∃ o' g' T' F', dzRI e = some (0, mS h M o' g' T' F') ∧ Nk n g g' ∧ keL [2, 4, 8] o o' ∧ (∀ j, j < s → T' j = T j))
theorem H1.after {o1 : Nat → Int32} {g1 : Nat → Nat} {T1 : Nat → Int32} {F1 : Nat → Nat → Int32} {e : Option dzR} {R : FS} (a : H1 M h n s o1 g1 T1 F1 e R) (kg : Nk n g g1) (ke : keL [2, 4, 8] o o1) (kt : ∀ j, j < s → T1 j = T j) (kF : F1 2 = F 2) : H1 M h n s o g T F e R := by
  refine ⟨fun c => ?_, fun c => ?_⟩
  · obtain ⟨o', g', T', F', a1, a2, a3, a4, a5, a6⟩ := a.1 c
    exact ⟨o', g', T', F', a1, kg.tr a2, ke.tr a3, fun j hj => by rw [a4 j hj, kt j hj], by rw [a5, kF], a6⟩
  · obtain ⟨o', g', T', F', a1, a2, a3, a4⟩ := a.2 c
    exact ⟨o', g', T', F', a1, kg.tr a2, ke.tr a3, fun j hj => by rw [a4 j hj, kt j hj]⟩
theorem nI_neg1 : (-1 : Int32) < 0 := by decide
theorem lp_m1 : ∀ (d p : Nat) {o : Nat → Int32} {g : Nat → Nat} {T : Nat → Int32} {F : Nat → Nat → Int32} {m k x : Nat} {L X N : Nat → Nat}, p + d = 1010 → 2 ≤ p → okg g → o 2 = nI (s + 2 * k) → s + 2 * k ≤ 4000 → o 4 = nI (n + k) → n + k ≤ 200 → o 8 = nI m → m ≤ 40 → nv g 12 = x → (∀ i, i < n + k → nv g (32 + i) = N i) → FI V n k m x L X N → asc m (fun j => N (L j)) → (∀ j, j < m → N (L j) < p) → (∀ i, n ≤ i → i < n + k → N i < p) → (∀ j, j < m → F 0 j = nI (L j) ∧ F 1 j = nI (X j)) → (∀ q, q < k → T (s + 2 * q) = nI 1 ∧ T (s + 2 * q + 1) = nI (N (n + q))) →
    H1 M h n s o g T F (dzF 154 7 [(0, .ref M), (1, .int (nI p))] [] (0, 0) (mS h M o g T F)) (r1 n d p m k x L X N)
  | 0, p, o, g, T, F, m, k, x, L, X, N, hd, hp, ok, h2, hs, h4, hl, h8, hm, h12, hN, fi, ha, hlt, hpl, hF, hT => by
    have ep : p = 1010 := by omega
    subst ep
    exact ⟨fun _ => ⟨o, g, T, F, rfl, Nk.rf n ok, fun _ _ => rfl, fun _ _ => rfl, rfl, h2, h4, h8, h12, hN, hF, hT⟩, fun q => absurd ⟨hm, hl, hs⟩ q⟩
  | d + 1, p, o, g, T, F, m, k, x, L, X, N, hd, hp, ok, h2, hs, h4, hl, h8, hm, h12, hN, fi, ha, hlt, hpl, hF, hT => by
    generalize head : dzF 154 7 [(0, .ref M), (1, .int (nI p))] [] (0, 0) (mS h M o g T F) = Q
    obtain ⟨g1, a1, a2, a3⟩ := m_set (M := M) (h := h) (o := o) (T := T) (F := F) ok (Int32.toInt64 (nI p)) (show (8 : Int32) = nI 8 from rfl) (by decide)
    rw [uN_pos (by rw [w32_nI (by omega)]; omega), w32_nI (by omega)] at a3
    rw [q_M_find_7, if_pos (show nI p ≤ 1009 from nI_le (b := 1009) (by omega) (by decide)), a1, Option.bind_some, sp_Msmall (n := p) (by omega), Option.bind_some] at head
    dsimp only at head
    have kg1 : Nk n g g1 := Nk.of a2 (by simp)
    have hN1 : ∀ i, i < n + k → nv g1 (32 + i) = N i := fun i hi => by rw [a2.2 _ (by simp; omega)]; exact hN i hi
    have skip : ∀ {g2 : Nat → Nat}, nK [12, 15, 16] g1 g2 → nv g2 12 = x → dzF 154 39 [(0, .ref M), (1, .int (nI p))] [.int 0] (0, 0) (mS h M o g2 T F) = Q → r1 n (d + 1) p m k x L X N = r1 n d (p + 1) m k x L X N → H1 M h n s o g T F Q (r1 n (d + 1) p m k x L X N) := fun {g2} k2 e12 hq hr => by
      have ih := lp_m1 d (p + 1) (by omega) (by omega) k2.1 h2 hs h4 hl h8 hm e12 (fun i hi => by rw [k2.2 _ (by simp; omega)]; exact hN1 i hi) fi ha (fun j hj => by have := hlt j hj; omega) (fun i a b => by have := hpl i a b; omega) hF hT
      rw [q_M_find_39, if_pos rfl, q_M_find_120, nI_1] at hq
      rw [← hr, hq] at ih
      exact ih.after (kg1.tr (Nk.of k2 (by simp))) (fun _ _ => rfl) (fun _ _ => rfl) rfl
    by_cases hsp : spB p = true
    · have hpp := spB_t.mp hsp
      obtain ⟨g2, b1, b2, b3⟩ := m_often (M := M) (h := h) (o := o) (T := T) (F := F) a2.1 (p := p) (z := 8) (y := x) hp (by decide) (by decide) (by decide) (by decide) a3 fi.1 fi.2.1 (by rw [a2.2 12 (by decide), h12])
      rw [hsp, if_neg bI_n1, show (8 : Int32) = nI 8 from rfl, b1, Option.bind_some] at head
      dsimp only at head
      by_cases he : (mlt p 255 x).1 = 0
      · rw [he] at head
        exact skip b2 (by rw [b3, mlt_0 he]) head (by rw [r1, if_neg (fun q => q.2 he)])
      · have hle := mlt_le (p := p) 255 x
        have kg2 : Nk n g g2 := kg1.tr (Nk.of b2 (by simp))
        have hN2 : ∀ i, i < n + k → nv g2 (32 + i) = N i := fun i hi => by rw [b2.2 _ (by simp; omega)]; exact hN1 i hi
        have e8 : nv g2 8 = p := by rw [b2.2 8 (by decide), a3]
        have lo := m_lineOf (M := M) (h := h) (o := o) (T := T) (F := F) b2.1 (z := 8) (by decide) h4 hl
        rw [e8, lnOf_cong (N := N) (fun j _ hj => hN2 j (by omega)), lnOf_more (k := n) (j := k) (fun a a1 a2 => by have := hpl a (by omega) (by omega); omega)] at lo
        rw [q_M_find_39, if_neg (nI_ne0 (by omega) (by omega)), show (8 : Int32) = nI 8 from rfl, lo, Option.bind_some] at head
        dsimp only at head
        cases hx : lnOf N p n 0 with
        | some i =>
          have hr1 := r1_s (d := d) (m := m) (k := k) (L := L) (X := X) hsp he hx
          obtain ⟨i1, i2, i3⟩ := lnOf_some hx
          have fa := fi.add (l := i) (by omega) (by rw [i3]; exact he)
          rw [i3] at fa
          have ha' : asc (m + 1) (fun j => N (gu L m i j)) := fun j hj => by
            show N (gu L m i j) < N (gu L m i (j + 1))
            rw [gu_n (by omega)]
            by_cases z : j + 1 = m
            · rw [z, gu_s, i3]; exact hlt j (by omega)
            · rw [gu_n z]; exact ha j (by omega)
          have hlt' : ∀ j, j < m + 1 → N (gu L m i j) < p + 1 := fun j hj => by
            by_cases z : j = m
            · rw [z, gu_s, i3]; omega
            · rw [gu_n z]
              have := hlt j (by omega)
              omega
          have hpl' : ∀ q, n ≤ q → q < n + k → N q < p + 1 := fun q a b => by have := hpl q a b; omega
          rw [hx] at head
          have head' : (if nI i < 0 then (c_M_sayOne M (nI p) (mS h M o g2 T F)).bind fun q2 => if q2.1 = 0 then some (some (.int (0 : Int32)), q2.2) else dzF 154 66 [(0, .ref M), (1, .int (nI p)), (2, .int (nI (mlt p 255 x).1)), (3, .int (nI i))] [] (0, 0) q2.2 else dzF 154 66 [(0, .ref M), (1, .int (nI p)), (2, .int (nI (mlt p 255 x).1)), (3, .int (nI i))] [] (0, 0) (mS h M o g2 T F)) = Q := head
          rw [if_neg (nI_pos (by omega)), q_M_find_66, mS_g8, Option.bind_some, h8] at head'
          rcases Nat.lt_or_ge m 40 with hm4 | hm4
          · rw [if_neg (show ¬ nI m = 40 from fun q => by have := (nI_eq (b := 40) (by omega) (by decide)).mp q; omega), mS_F0, Option.bind_some, Option.bind_some, if_neg (nI_pos (by omega)), q_M_find_99, mS_wF0 _ hm4, Option.bind_some, mS_F1, Option.bind_some, mS_g8, Option.bind_some, h8, mS_wF1 _ hm4, Option.bind_some, mS_g8, Option.bind_some, h8, nI_1, mS_p8, Option.bind_some, q_M_find_120, nI_1] at head'
            have ih := lp_m1 d (p + 1) (o := upd o 8 (nI (m + 1))) (T := T) (F := uF (uF F 0 m (nI i)) 1 m (nI (mlt p 255 x).1)) (by omega) (by omega) b2.1 (by rw [pk_un (by decide), h2]) hs (by rw [pk_un (by decide), h4]) hl pk_us (by omega) b3 hN2 fa ha' hlt' hpl' (fun j hj => by
              by_cases z : j = m
              · rw [z, gu_s, gu_s, uF_s, uF_r (by decide), uF_s]
                exact ⟨rfl, rfl⟩
              · rw [gu_n z, gu_n z, uF_j z, uF_r (show 0 ≠ 1 by decide), uF_j z, uF_r (show 1 ≠ 0 by decide)]
                exact hF j (by omega)) hT
            rw [← hr1, head'] at ih
            exact ih.after kg2 (fun q hq => pk_un (fun z => hq (by rw [z]; decide))) (fun _ _ => rfl) (by rw [uF_r (by decide), uF_r (by decide)])
          · have em : m = 40 := by omega
            subst em
            have inv := r1_inv d (p + 1) (by omega) fa ha' hlt' hpl'
            rw [← hr1] at inv
            rw [if_pos (show nI 40 = 40 from rfl)] at head'
            refine ⟨fun c => by have := inv.2.2.2.2.1; omega, fun _ => ⟨o, g2, T, F, ?_, kg2, fun _ _ => rfl, fun _ _ => rfl⟩⟩
            rw [← head']
            rfl
        | none =>
          have hr1 := r1_n (d := d) (m := m) (k := k) (L := L) (X := X) hsp he hx
          have fg := fi.grow hpp
          have eg : gu N (n + k) p (n + k) = p := gu_s _ _ _
          have fa := fg.add (l := n + k) (by omega) (by rw [eg]; exact he)
          rw [eg] at fa
          have eL : ∀ j, j < m → gu N (n + k) p (L j) = N (L j) := fun j hj => gu_n (by have := (fi.2.2.2.1 j hj).1; omega)
          have ha' : asc (m + 1) (fun j => gu N (n + k) p (gu L m (n + k) j)) := fun j hj => by
            show gu N (n + k) p (gu L m (n + k) j) < gu N (n + k) p (gu L m (n + k) (j + 1))
            rw [gu_n (i := j) (j := m) (by omega), eL j (by omega)]
            by_cases z : j + 1 = m
            · rw [z, gu_s, gu_s]; exact hlt j (by omega)
            · rw [gu_n z, eL (j + 1) (by omega)]; exact ha j (by omega)
          have hlt' : ∀ j, j < m + 1 → gu N (n + k) p (gu L m (n + k) j) < p + 1 := fun j hj => by
            by_cases z : j = m
            · rw [z, gu_s, gu_s]; omega
            · rw [gu_n z, eL j (by omega)]
              have := hlt j (by omega)
              omega
          have hpl' : ∀ q, n ≤ q → q < n + (k + 1) → gu N (n + k) p q < p + 1 := fun q a b => by
            by_cases z : q = n + k
            · rw [z, gu_s]; omega
            · rw [gu_n z]
              have := hpl q a (by omega)
              omega
          have inv := r1_inv d (p + 1) (by omega) fa ha' hlt' hpl'
          rw [← hr1] at inv
          rw [hx] at head
          have head' : (if (-1 : Int32) < 0 then (c_M_sayOne M (nI p) (mS h M o g2 T F)).bind fun q2 => if q2.1 = 0 then some (some (.int (0 : Int32)), q2.2) else dzF 154 66 [(0, .ref M), (1, .int (nI p)), (2, .int (nI (mlt p 255 x).1)), (3, .int (-1))] [] (0, 0) q2.2 else dzF 154 66 [(0, .ref M), (1, .int (nI p)), (2, .int (nI (mlt p 255 x).1)), (3, .int (-1))] [] (0, 0) (mS h M o g2 T F)) = Q := head
          rw [if_pos nI_neg1] at head'
          by_cases hc : n + k < 200 ∧ s + 2 * k + 2 ≤ 4000
          · obtain ⟨o3, g3, c1, c2, c3, c4, c5, c6⟩ := m_sayOne (M := M) (h := h) (T := T) (F := F) b2.1 (p := p) (by omega) h2 h4 hc.1 hc.2
            have h83 : o3 8 = nI m := by rw [c2 8 (by decide), h8]
            have kg3 : Nk n g g3 := kg2.tr (Nk.of c5 (by simp))
            rw [c1, Option.bind_some] at head'
            dsimp only at head'
            rw [if_neg one_n0, q_M_find_66, mS_g8, Option.bind_some, h83] at head'
            have kt : ∀ j, j < s → upd (upd T (s + 2 * k) 1) (s + 2 * k + 1) (nI p) j = T j := fun j hj => by rw [pk_un (by omega), pk_un (by omega)]
            rcases Nat.lt_or_ge m 40 with hm4 | hm4
            · rw [if_neg (show ¬ nI m = 40 from fun q => by have := (nI_eq (b := 40) (by omega) (by decide)).mp q; omega), mS_F0, Option.bind_some, Option.bind_some, if_pos nI_neg1, mS_g4, Option.bind_some, c4, nI_pred, q_M_find_99, mS_wF0 _ hm4, Option.bind_some, mS_F1, Option.bind_some, mS_g8, Option.bind_some, h83, mS_wF1 _ hm4, Option.bind_some, mS_g8, Option.bind_some, h83, nI_1, mS_p8, Option.bind_some, q_M_find_120, nI_1] at head'
              have ih := lp_m1 d (p + 1) (o := upd o3 8 (nI (m + 1))) (T := upd (upd T (s + 2 * k) 1) (s + 2 * k + 1) (nI p)) (F := uF (uF F 0 m (nI (n + k))) 1 m (nI (mlt p 255 x).1)) (k := k + 1) (by omega) (by omega) c5.1 (by rw [pk_un (by decide), c3]; rfl) (by omega) (by rw [pk_un (by decide), c4]; rfl) (by omega) pk_us (by omega) (by rw [c5.2 12 (by simp; omega), b3]) (fun i hi => by
                by_cases z : i = n + k
                · rw [z, gu_s, c6]
                · rw [gu_n z, c5.2 _ (by simp; omega), hN2 i (by omega)]) fa ha' hlt' hpl' (fun j hj => by
                by_cases z : j = m
                · rw [z, gu_s, gu_s, uF_s, uF_r (by decide), uF_s]
                  exact ⟨rfl, rfl⟩
                · rw [gu_n z, gu_n z, uF_j z, uF_r (show 0 ≠ 1 by decide), uF_j z, uF_r (show 1 ≠ 0 by decide)]
                  exact hF j (by omega)) (fun q hq => by
                by_cases z : q = k
                · subst z
                  rw [gu_s, pk_us, pk_un (by omega), pk_us]
                  exact ⟨rfl, rfl⟩
                · rw [pk_un (by omega), pk_un (by omega), pk_un (by omega), pk_un (by omega), gu_n (by omega)]
                  exact hT q (by omega))
              rw [← hr1, head'] at ih
              exact ih.after kg3 (fun q hq => by rw [pk_un (fun z => hq (by rw [z]; decide)), c2 q (fun z => hq (by simp at z ⊢; omega))]) kt (by rw [uF_r (by decide), uF_r (by decide)])
            · have em : m = 40 := by omega
              subst em
              rw [if_pos (show nI 40 = 40 from rfl)] at head'
              refine ⟨fun c => by have := inv.2.2.2.2.1; omega, fun _ => ⟨o3, g3, _, F, ?_, kg3, c2.mono (by decide), kt⟩⟩
              rw [← head']
              rfl
          · rw [m_sayOne0 _ h2 h4 hl hs hc, Option.bind_some] at head'
            refine ⟨fun c => by have := inv.2.2.2.2.2.1; omega, fun _ => ⟨o, g2, T, F, ?_, kg2, fun _ _ => rfl, fun _ _ => rfl⟩⟩
            rw [← head']
            rfl
    · have hsp' : spB p = false := by
        cases hz : spB p with
        | false => rfl
        | true => exact absurd hz hsp
      rw [hsp', if_pos bI_f] at head
      exact skip (nK.rf a2.1 _) (by rw [a2.2 12 (by decide), h12]) head (by rw [r1, if_neg (fun q => hsp q.1)])
def H2 (M : Nat) (h : dzH) (n k : Nat) (N : Nat → Nat) (sm : Int32) (o : Nat → Int32) (g : Nat → Nat) (T : Nat → Int32) (F : Nat → Nat → Int32) (e : Option dzR) (R : Nat × Nat × (Nat → Nat) × (Nat → Nat)) : Prop :=
  (R.1 ≤ 40 → ∃ o' g' F', e = dzF 154 142 [(0, .ref M), (1, .int sm), (2, .int (nI (n + k)))] [] (0, 0) (mS h M o' g' T F') ∧ Nk (n + k) g g' ∧ keL [8] o o' ∧ F' 2 = F 2 ∧ o' 8 = nI R.1 ∧ nv g' 12 = R.2.1 ∧ (∀ j, j < R.1 → F' 0 j = nI (R.2.2.1 j) ∧ F' 1 j = nI (R.2.2.2 j))) ∧
  (¬ R.1 ≤ 40 → ∃ o' g' F', dzRI e = some (0, mS h M o' g' T F') ∧ Nk (n + k) g g' ∧ keL [8] o o')
theorem H2.after {sm : Int32} {o1 : Nat → Int32} {g1 : Nat → Nat} {F1 : Nat → Nat → Int32} {e : Option dzR} {R : Nat × Nat × (Nat → Nat) × (Nat → Nat)} (a : H2 M h n k N sm o1 g1 T F1 e R) (kg : Nk (n + k) g g1) (ke : keL [8] o o1) (kF : F1 2 = F 2) : H2 M h n k N sm o g T F e R := by
  refine ⟨fun c => ?_, fun c => ?_⟩
  · obtain ⟨o', g', F', a1, a2, a3, a4, a5⟩ := a.1 c
    exact ⟨o', g', F', a1, kg.tr a2, ke.tr a3, by rw [a4, kF], a5⟩
  · obtain ⟨o', g', F', a1, a2, a3⟩ := a.2 c
    exact ⟨o', g', F', a1, kg.tr a2, ke.tr a3⟩
theorem lp_m2 (hl : n + k ≤ 200) (sm : Int32) : ∀ (d l : Nat) {o : Nat → Int32} {g : Nat → Nat} {F : Nat → Nat → Int32} {m x : Nat} {L X : Nat → Nat}, l + d = n + k → okg g → o 4 = nI (n + k) → o 8 = nI m → m ≤ 40 → nv g 9 = 1009 → nv g 12 = x → (∀ i, i < n + k → nv g (32 + i) = N i) → FI V n k m x L X N → (∀ j, j < m → F 0 j = nI (L j) ∧ F 1 j = nI (X j)) →
    H2 M h n k N sm o g T F (dzF 154 142 [(0, .ref M), (1, .int sm), (2, .int (nI l))] [] (0, 0) (mS h M o g T F)) (r2 N d l m x L X)
  | 0, l, o, g, F, m, x, L, X, hd, ok, h4, h8, hm, h9, h12, hN, fi, hF => by
    have el : l = n + k := by omega
    subst el
    exact ⟨fun _ => ⟨o, g, F, rfl, Nk.rf _ ok, fun _ _ => rfl, rfl, h8, h12, hF⟩, fun q => absurd hm q⟩
  | d + 1, l, o, g, F, m, x, L, X, hd, ok, h4, h8, hm, h9, h12, hN, fi, hF => by
    have hNl := hN l (by omega)
    have hpl := fi.2.2.2.2.1 l (by omega)
    generalize hr : dzF 154 142 [(0, .ref M), (1, .int sm), (2, .int (nI l))] [] (0, 0) (mS h M o g T F) = R
    rw [q_M_find_142, mS_g4, Option.bind_some, h4, if_pos (nI_lt (by omega) (by omega)), m_order ok (i32l l) (show (9 : Int32) = nI 9 from rfl) (by omega) (by decide), Option.bind_some, hNl, h9] at hr
    dsimp only at hr
    have skip : ∀ {g2 : Nat → Nat}, nK [12, 15, 16] g g2 → nv g2 12 = x → dzF 154 175 [(0, .ref M), (1, .int sm), (2, .int (nI l))] [.int 0] (0, 0) (mS h M o g2 T F) = R → r2 N (d + 1) l m x L X = r2 N d (l + 1) m x L X → H2 M h n k N sm o g T F R (r2 N (d + 1) l m x L X) := fun {g2} k2 e12 hq hrr => by
      have ih := lp_m2 hl sm d (l + 1) (o := o) (F := F) (by omega) k2.1 h4 h8 hm (by rw [k2.2 9 (by decide), h9]) e12 (fun i hi => by rw [k2.2 _ (by simp; omega)]; exact hN i hi) fi hF
      rw [q_M_find_175, if_pos rfl, q_M_find_224, nI_1] at hq
      rw [← hrr, hq] at ih
      exact ih.after (Nk.of k2 (by simp)) (fun _ _ => rfl) rfl
    by_cases hs : N l ≤ 1009
    · rw [if_pos (ordI_le.mpr hs)] at hr
      exact skip (nK.rf ok _) h12 hr (by rw [r2, if_neg (fun q => by omega)])
    · rw [if_neg (fun q => hs (ordI_le.mp q)), i32l l] at hr
      obtain ⟨g2, b1, b2, b3⟩ := m_often (M := M) (h := h) (o := o) (T := T) (F := F) ok (p := N l) (z := 32 + l) (y := x) hpl.1 (by omega) (by omega) (by omega) (by omega) hNl fi.1 fi.2.1 h12
      rw [b1, Option.bind_some] at hr
      dsimp only at hr
      by_cases he : (mlt (N l) 255 x).1 = 0
      · rw [he] at hr
        exact skip b2 (by rw [b3, mlt_0 he]) hr (by rw [r2, if_neg (fun q => q.2 he)])
      · have hle := mlt_le (p := N l) 255 x
        have hr2 := r2_y (d := d) (m := m) (L := L) (X := X) (show 1009 < N l by omega) he
        have fa := fi.add (l := l) (by omega) he
        have kg2 : Nk (n + k) g g2 := Nk.of b2 (by simp)
        rw [q_M_find_175, if_neg (nI_ne0 (by omega) (by omega)), mS_g8, Option.bind_some, h8] at hr
        rcases Nat.lt_or_ge m 40 with hm4 | hm4
        · rw [if_neg (show ¬ nI m = 40 from fun q => by have := (nI_eq (b := 40) (by omega) (by decide)).mp q; omega), mS_F0, Option.bind_some, Option.bind_some, mS_wF0 _ hm4, Option.bind_some, mS_F1, Option.bind_some, mS_g8, Option.bind_some, h8, mS_wF1 _ hm4, Option.bind_some, mS_g8, Option.bind_some, h8, nI_1, mS_p8, Option.bind_some, q_M_find_224, nI_1] at hr
          have ih := lp_m2 hl sm d (l + 1) (o := upd o 8 (nI (m + 1))) (F := uF (uF F 0 m (nI l)) 1 m (nI (mlt (N l) 255 x).1)) (by omega) b2.1 (by rw [pk_un (by decide), h4]) pk_us (by omega) (by rw [b2.2 9 (by decide), h9]) b3 (fun i hi => by rw [b2.2 _ (by simp; omega)]; exact hN i hi) fa (fun j hj => by
            by_cases z : j = m
            · rw [z, gu_s, gu_s, uF_s, uF_r (by decide), uF_s]
              exact ⟨rfl, rfl⟩
            · rw [gu_n z, gu_n z, uF_j z, uF_r (show 0 ≠ 1 by decide), uF_j z, uF_r (show 1 ≠ 0 by decide)]
              exact hF j (by omega))
          rw [← hr2, hr] at ih
          exact ih.after kg2 (fun q hq => pk_un (fun z => hq (by rw [z]; decide))) (by rw [uF_r (by decide), uF_r (by decide)])
        · have em : m = 40 := by omega
          subst em
          have inv := r2_inv d (l + 1) (by omega) fa
          rw [← hr2] at inv
          rw [if_pos (show nI 40 = 40 from rfl)] at hr
          refine ⟨fun c => by have := inv.2.1; omega, fun _ => ⟨o, g2, F, ?_, kg2, fun _ _ => rfl⟩⟩
          rw [← hr]
          rfl
end
