/-! the class's maker: all factors, witnesses -/
noncomputable def mR1 (n V : Nat) (N : Nat → Nat) : FS := r1 n 1008 2 0 0 (V - 1) (fun _ => 0) (fun _ => 0) N
noncomputable def mR2 (n V : Nat) (N : Nat → Nat) : Nat × Nat × (Nat → Nat) × (Nat → Nat) := r2 (mR1 n V N).2.2.2.2.2 n 0 (mR1 n V N).1 (mR1 n V N).2.2.1 (mR1 n V N).2.2.2.1 (mR1 n V N).2.2.2.2.1
noncomputable def mM (n V : Nat) (N : Nat → Nat) : Nat := (mR2 n V N).1
noncomputable def mK (n V : Nat) (N : Nat → Nat) : Nat := (mR1 n V N).2.1
noncomputable def mX (n V : Nat) (N : Nat → Nat) : Nat := (mR2 n V N).2.1
noncomputable def mN (n V : Nat) (N : Nat → Nat) : Nat → Nat := (mR1 n V N).2.2.2.2.2
theorem FI_0 {V n : Nat} {L X N : Nat → Nat} (hV : 2 ≤ V) (hB : V < B8) (hp : ∀ i, i < n → npP (N i)) : FI V n 0 0 (V - 1) L X N :=
  ⟨by omega, by omega, by show 1 * (V - 1) = V - 1; rw [Nat.one_mul], fun j hj => by omega, fun i hi => hp i (by omega), fun i j hi => by omega⟩
theorem mR_inv {n V : Nat} {N : Nat → Nat} (hV : 2 ≤ V) (hB : V < B8) (hp : ∀ i, i < n → npP (N i)) :
    FI V n (mK n V N) (mR1 n V N).1 (mR1 n V N).2.2.1 (mR1 n V N).2.2.2.1 (mR1 n V N).2.2.2.2.1 (mN n V N) ∧ asc (mR1 n V N).1 (fun j => mN n V N ((mR1 n V N).2.2.2.1 j)) ∧ (∀ j, j < (mR1 n V N).1 → mN n V N ((mR1 n V N).2.2.2.1 j) < 1010) ∧ (∀ i, n ≤ i → i < n + mK n V N → mN n V N i < 1010) ∧ (∀ i, i < n → mN n V N i = N i) ∧
    FI V n (mK n V N) (mM n V N) (mX n V N) (mR2 n V N).2.2.1 (mR2 n V N).2.2.2 (mN n V N) ∧ (mR1 n V N).1 ≤ mM n V N ∧ (∀ j, j < (mR1 n V N).1 → (mR2 n V N).2.2.1 j = (mR1 n V N).2.2.2.1 j ∧ (mR2 n V N).2.2.2 j = (mR1 n V N).2.2.2.2.1 j) ∧ (∀ j, (mR1 n V N).1 ≤ j → j < mM n V N → 1009 < mN n V N ((mR2 n V N).2.2.1 j)) := by
  obtain ⟨b1, b2, b3, b4, b5, b6, b7⟩ := r1_inv 1008 2 (by decide) (FI_0 (L := fun _ => 0) (X := fun _ => 0) hV hB hp) (fun j hj => by omega) (fun j hj => by omega) (fun i h1 h2 => by omega)
  obtain ⟨c1, c2, c3, c4⟩ := r2_inv n 0 (by omega) b1
  exact ⟨b1, b2, b3, b4, fun i hi => b7 i (by omega), c1, c2, c3, c4⟩
def Wc (V u : Nat) : Prop := u ≤ 8 ∧ V < 4294967296 ^ u ∧ (0 < u → 4294967296 ^ (u - 1) ≤ V)
theorem Wc.uniq {V u u' : Nat} (a : Wc V u) (b : Wc V u') : u = u' := by
  have key : ∀ {x y : Nat}, Wc V x → Wc V y → ¬ x < y := fun {x y} a b h => by
    have h1 := b.2.2 (by omega)
    have h2 : (4294967296 : Nat) ^ x ≤ 4294967296 ^ (y - 1) := Nat.pow_le_pow_right (by decide) (by omega)
    have h3 := a.2.1
    omega
  have h1 := key a b
  have h2 := key b a
  omega
section
variable {A : Nat} {h : dzH} {o : Nat → Int32} {v : Nat → Nat} {T E : Nat → Int32} {F : Nat → Nat → Int32} {n k m s V : Nat} {N C D q : Nat → Nat}
theorem kk_findF (w : CW A h o v T E F) (h1 : o 1 = nI n) (hn : n ≤ 200) (h11 : o 11 = nI 0) (hV : 2 ≤ V) (hB : V < B8) (h227 : v 227 = V - 1) (hN : ∀ i, i < n → v (24 + i) = N i) (hp : ∀ i, i < n → npP (N i)) :
    (mM n V N ≤ 40 ∧ n + mK n V N ≤ 200 → ∃ h' o' v' F' C D, c_Maker_findFactors (A + 238) h = some (1, h') ∧ Mk A h n o v F T E h' o' v' F' ∧ o' 11 = nI (mK n V N) ∧ o' 13 = nI (mM n V N) ∧ v' 243 = mX n V N ∧ (∀ i, i < n + mK n V N → v' (24 + i) = mN n V N i) ∧ Pm (mM n V N) (mR2 n V N).2.2.1 (mR2 n V N).2.2.2 C D ∧ asc (mM n V N) (fun j => mN n V N (C j)) ∧ pr (fun j => mN n V N (C j)) D (mM n V N) * mX n V N = V - 1 ∧ (∀ j, j < mM n V N → F' 3 j = nI (C j) ∧ F' 4 j = nI (D j))) ∧
    (¬ (mM n V N ≤ 40 ∧ n + mK n V N ≤ 200) → ∃ h' o' v' F', c_Maker_findFactors (A + 238) h = some (0, h') ∧ Mk A h n o v F T E h' o' v' F') := by
  obtain ⟨fs, ho⟩ := w.o238
  obtain ⟨k1, a1, a2, a3⟩ := p_o13 w 0
  obtain ⟨k2, b1, b2, b3⟩ := cw_copy a2 (r := 227) (k := 243) (isR_t (by decide) (by decide)) (isR_m (by decide) (by decide)) (by decide) (by decide)
  have mk2 : Mk A h n o v F T E k2 _ _ F := ⟨b2, a3.tr b3, fun q hq => pk_un (fun z => hq (by rw [z]; decide)), fun q hq => gu_n (by omega), fun _ _ => rfl⟩
  obtain ⟨i1, i2, i3, i4, i5, i6, i7, i8, i9⟩ := mR_inv hV hB hp
  have g1 := lp_f1 hn 1008 2 (by decide) (by decide) b2 (by rw [pk_un (by decide), h1]) (by rw [pk_un (by decide), h11]) (by omega) (m := 0) pk_us (by decide) (by rw [gu_s, h227]) (fun i hi => by rw [gu_n (by omega)]; exact hN i (by omega)) (FI_0 (L := fun _ => 0) (X := fun _ => 0) hV hB hp) (fun j hj => by omega) (fun j hj => by omega) (fun i h1 h2 => by omega) (fun j hj => by omega)
  have e0 : c_Maker_findFactors (A + 238) h = dzRI (dzF 91 24 [(0, .ref (A + 238)), (1, .int (nI 2))] [] (0, 0) k2) := by
    rw [cc_Maker_findFactors _ _ ho, q_Maker_findFactors_0]
    simp only [g_mk4 w, Option.bind_some, a1, g_mk3 a2, g_tr2 a2, g_mk5 a2, b1]
    rfl
  have g1' := g1.after mk2
  rw [e0]
  by_cases hc : (mR1 n V N).1 ≤ 40 ∧ n + mK n V N ≤ 200
  · obtain ⟨k3, o3, v3, F3, c1, c2, c3, c4, c5, c6, c7⟩ := g1'.1 hc
    have g2 := lp_f2 hn (k := mK n V N) hc.2 (N := mN n V N) n 0 (by omega) c2.1 (by rw [c2.ke (by decide), h1]) c4 hc.1 c5 c6 i1 (Pm.rf _ _ _) i2 i1.2.2.1 c7
    rw [c1, ← nI_0]
    constructor
    · intro hh
      obtain ⟨k4, o4, v4, F4, C, D, d1, d2, d3, d4⟩ := g2.1 hh.1
      exact ⟨k4, o4, v4, F4, C, D, d1, c2.tr d2, by rw [d3, c3]; rfl, d4⟩
    · intro hh
      obtain ⟨k4, o4, v4, F4, d1, d2⟩ := g2.2 (fun z => hh ⟨z, hc.2⟩)
      exact ⟨k4, o4, v4, F4, d1, c2.tr d2⟩
  · refine ⟨fun hh => absurd ⟨Nat.le_trans i7 hh.1, hh.2⟩ hc, fun _ => ?_⟩
    obtain ⟨k3, o3, v3, F3, c1, c2⟩ := g1'.2 hc
    exact ⟨k3, o3, v3, F3, c1, c2⟩
-- numbers of the last line
theorem kk_uw (w : CW A h o v T E F) {r : Nat} (hr : isR r) : ∃ u, Wc (v r) u ∧ c_Sums_usedWords (A + r) h = some (nI u, h) := by
  obtain ⟨f, f1, f2⟩ := w.row hr
  refine ⟨uw f 8, ⟨uw_le f 8, ?_, ?_⟩, sp_used f1 (by decide)⟩
  · rw [← f2]; exact wv_lt_uw f 8
  · rw [← f2]; exact wv_ge_uw f 8
theorem kk_ints (w : CW A h o v T E F) (h13 : o 13 = nI m) {u : Nat} (hu : Wc (v 226) u) (b : Bool) : c_Maker_lastLineInts (A + 238) (bI b) h = some (nI (if b = true then 4 + u + 2 * m else 3 + u + 3 * m), h) := by
  obtain ⟨fs, ho⟩ := w.o238
  obtain ⟨u', hu', e⟩ := kk_uw w (r := 226) (isR_t (by decide) (by decide))
  have eu := hu'.uniq hu
  subst eu
  rw [cc_Maker_lastLineInts _ _ _ ho, q_Maker_lastLineInts_0]
  simp only [g_mk3 w, g_tr1 w, Option.bind_some, e, g_mk4 w, g_o13 w, h13]
  cases b with
  | false =>
    rw [if_pos bI_f, show (3 : Int32) = nI 3 from rfl, pk_mul, nI_add, nI_add]
    rfl
  | true =>
    rw [if_neg bI_n1, show (4 : Int32) = nI 4 from rfl, show (2 : Int32) = nI 2 from rfl, pk_mul, nI_add, nI_add]
    rfl
theorem kk_suff (w : CW A h o v T E F) (h0 : 0 < v 243) : ∃ h' v', c_Maker_factorsSuffice (A + 238) h = some (bI (decide (v 226 < v 227 / v 243 * (v 227 / v 243))), h') ∧ CW A h' o v' T E F ∧ fr h h' (inC A) ∧ ∀ k, k < 244 → v' k = v k := by
  obtain ⟨fs, ho⟩ := w.o238
  obtain ⟨k1, a1, a2, a3⟩ := cw_quot w (x := 227) (y := 243) (t := 244) (r := 245) (isR_t (by decide) (by decide)) (isR_m (by decide) (by decide)) (isR_m (by decide) (by decide)) (by decide) (by decide) (isR_m (by decide) (by decide)) (by decide) (by decide) (by decide) h0
  obtain ⟨k2, b1, b2, b3⟩ := cw_sq a2 (x := 244) (y := 226) (isR_m (by decide) (by decide)) (isR_t (by decide) (by decide))
  rw [gu_s, gu_n (show 226 ≠ 244 by decide), gu_n (show 226 ≠ 245 by decide)] at b1
  refine ⟨k2, _, ?_, b2, a3.tr b3, fun k hk => by rw [gu_n (by omega), gu_n (by omega)]⟩
  rw [cc_Maker_factorsSuffice _ _ ho, q_Maker_factorsSuffice_0]
  simp only [g_mk2 w, g_mk3 w, g_tr2 w, g_mk5 w, g_mk6 w, g_mk7 w, Option.bind_some, a1, g_mk2 a2, g_mk6 a2, g_mk3 a2, g_tr1 a2, b1, dzB01_b]
  rfl
/-- the maker's factors, ready for trials -/
def MF (m V : Nat) (C q : Nat → Nat) (o : Nat → Int32) (v : Nat → Nat) (F : Nat → Nat → Int32) : Prop :=
  m ≤ 40 ∧ o 13 = nI m ∧ 3 ≤ V ∧ v 226 = V ∧ v 227 = V - 1 ∧ ∀ j, j < m → F 3 j = nI (C j) ∧ C j < 200 ∧ v (24 + C j) = q j ∧ 1 ≤ q j
theorem MF.up {v1 : Nat → Nat} {o1 : Nat → Int32} {F1 : Nat → Nat → Int32} (f : MF m V C q o v F) (e13 : o1 13 = o 13) (hv : ∀ k, k < 229 → v1 k = v k) (hF : F1 3 = F 3) : MF m V C q o1 v1 F1 := by
  obtain ⟨f1, f2, f3, f4, f5, f6⟩ := f
  refine ⟨f1, by rw [e13, f2], f3, by rw [hv 226 (by decide), f4], by rw [hv 227 (by decide), f5], fun j hj => ?_⟩
  obtain ⟨a, b, c, d⟩ := f6 j hj
  rw [hF, hv _ (by omega)]
  exact ⟨a, b, c, d⟩
theorem lp_rt {a : Nat} : ∀ (d i : Nat) {h : dzH} {v : Nat → Nat}, a < 2147483648 → i + d = m → CW A h o v T E F → MF m V C q o v F → ∃ h' v' j, CW A h' o v' T E F ∧ fr h h' (inC A) ∧ (∀ k, k < 229 ∨ 231 < k → v' k = v k) ∧ dzF 94 11 [(0, .ref (A + 238)), (1, .int (nI a)), (2, .int (nI i))] [] (0, 0) h = dzF 94 44 [(0, .ref (A + 238)), (1, .int (nI a)), (2, .int (nI j))] [] (0, 0) h' ∧ i ≤ j ∧ j ≤ m ∧ (∀ z, i ≤ z → z < j → pwq a (q z) V ≠ 1) ∧ (j < m → pwq a (q j) V = 1)
  | 0, i, h, v, hb, hd, w, mf => by
    have hm := mf.1
    refine ⟨h, v, i, w, fr.rf _ _, fun _ _ => rfl, ?_, Nat.le_refl _, by omega, fun z h1 h2 => by omega, fun z => by omega⟩
    rw [q_Maker_findRoot_11]
    simp only [g_mk4 w, g_o13 w, mf.2.1, Option.bind_some]
    rw [if_neg (nI_nlt (by omega) (by omega))]
  | d + 1, i, h, v, hb, hd, w, mf => by
    have hm := mf.1
    obtain ⟨f1, f2, f3, f4⟩ := mf.2.2.2.2.2 i (by omega)
    have n1 := kk_mfn w (j := i) (q := C i) (by omega) f2 f1
    have hV3 := mf.2.2.1
    obtain ⟨k1, v1, a1, a2, a3, a4⟩ := kk_parts w (by rw [mf.2.2.2.1]; omega) (nI a) (isR_n f2) (by omega) (by rw [f3]; omega)
    rw [f3, mf.2.2.2.1, mf.2.2.2.2.1, w32_nI (by omega)] at a1
    generalize hr : dzF 94 11 [(0, .ref (A + 238)), (1, .int (nI a)), (2, .int (nI i))] [] (0, 0) h = R
    rw [q_Maker_findRoot_11] at hr
    simp only [g_mk4 w, g_o13 w, mf.2.1, Option.bind_some, g_mk3 w, n1, a1] at hr
    rw [if_pos (nI_lt (by omega) (by omega))] at hr
    by_cases hq : pwq a (q i) V = 1
    · rw [decide_eq_false (show ¬ ¬ a ^ ((V - 1) / q i) % V = 1 from fun z => z hq), if_pos bI_f] at hr
      exact ⟨k1, v1, i, a2, a3, a4, hr.symm, Nat.le_refl _, by omega, fun z h1 h2 => by omega, fun _ => hq⟩
    · rw [decide_eq_true (show ¬ a ^ ((V - 1) / q i) % V = 1 from hq), if_neg bI_n1, nI_1] at hr
      obtain ⟨h', v', j, b1, b2, b3, b4, b5, b6, b7, b8⟩ := lp_rt d (i + 1) hb (by omega) a2 (mf.up rfl (fun k hk => a4 k (by omega)) rfl)
      refine ⟨h', v', j, b1, a3.tr b2, fun k hk => by rw [b3 k hk, a4 k hk], by rw [← hr, b4], by omega, b6, fun z h1 h2 => ?_, b8⟩
      by_cases e : z = i
      · rw [e]; exact hq
      · exact b7 z (by omega) h2
theorem lp_root2 : ∀ (d a : Nat) {h : dzH} {v : Nat → Nat}, a + d = 201 → 2 ≤ a → CW A h o v T E F → MF m V C q o v F → ∃ b h' o' v', dzRI (dzF 94 2 [(0, .ref (A + 238)), (1, .int (nI a))] [] (0, 0) h) = some (bI b, h') ∧ CW A h' o' v' T E F ∧ fr h h' (inC A) ∧ keL [12] o o' ∧ (∀ k, k < 229 ∨ 231 < k → v' k = v k) ∧
    (b = true → ∃ r, a ≤ r ∧ r ≤ 200 ∧ o' 12 = nI r ∧ closes r V ∧ (∀ j, j < m → pwq r (q j) V ≠ 1) ∧ ∀ z, a ≤ z → z < r → ∃ j, j < m ∧ pwq z (q j) V = 1) ∧
    (b = false → (∀ z, a ≤ z → z ≤ 200 → ∃ j, j < m ∧ pwq z (q j) V = 1) ∨ ∃ z, a ≤ z ∧ z ≤ 200 ∧ ¬ closes z V)
  | 0, a, h, v, hd, h2, w, mf => by
    refine ⟨false, h, o, v, ?_, w, fr.rf _ _, fun _ _ => rfl, fun _ _ => rfl, fun z => (by cases z), fun _ => Or.inl (fun z h1 h2 => by omega)⟩
    rw [q_Maker_findRoot_2, if_neg (show ¬ nI a ≤ 200 from nI_ge (a := 200) (by omega) (by omega))]
    rfl
  | d + 1, a, h, v, hd, h2, w, mf => by
    have hm := mf.1
    have hV3 := mf.2.2.1
    obtain ⟨k1, v1, j, a1, a2, a3, a4, a5, a6, a7, a8⟩ := lp_rt (a := a) m 0 (by omega) (Nat.zero_add m) w mf
    have mf1 := mf.up (o1 := o) rfl (fun k hk => a3 k (by omega)) rfl
    generalize hr : dzRI (dzF 94 2 [(0, .ref (A + 238)), (1, .int (nI a))] [] (0, 0) h) = R
    rw [q_Maker_findRoot_2, if_pos (show nI a ≤ 200 from nI_le (b := 200) (by omega) (by decide)), ← nI_0, a4, q_Maker_findRoot_44] at hr
    simp only [g_mk4 a1, g_o13 a1, mf.2.1, Option.bind_some] at hr
    by_cases hj : j = m
    · obtain ⟨k2, b1, b2, b3⟩ := p_o12 a1 (nI a)
      obtain ⟨k3, v3, c1, c2, c3, c4⟩ := kk_closes b2 (by rw [mf1.2.2.2.1]; omega) (nI a)
      rw [mf1.2.2.2.1, mf1.2.2.2.2.1, w32_nI (by omega)] at c1
      rw [if_pos (by rw [hj])] at hr
      simp only [b1, Option.bind_some, g_mk3 b2, c1, dzB01_b] at hr
      refine ⟨decide (a ^ (V - 1) % V = 1), k3, _, v3, hr.symm, c2, (a2.tr b3).tr c3, fun z hz => pk_un (fun e => hz (by rw [e]; decide)), fun k hk => by rw [c4 k hk, a3 k hk], fun z => ?_, fun z => ?_⟩
      · refine ⟨a, Nat.le_refl _, by omega, pk_us, (show a ^ (V - 1) % V = 1 from of_decide_eq_true z), fun i hi => a7 i (by omega) (by omega), fun z h1 h2 => by omega⟩
      · exact Or.inr ⟨a, Nat.le_refl _, by omega, (show ¬ a ^ (V - 1) % V = 1 from of_decide_eq_false z)⟩
    · rw [if_neg (fun z => hj ((nI_eq (by omega) (by omega)).mp z)), nI_1] at hr
      obtain ⟨b, h', o', v', b1, b2, b3, b4, b5, b6, b7⟩ := lp_root2 d (a + 1) (by omega) (by omega) a1 mf1
      refine ⟨b, h', o', v', by rw [← hr, b1], b2, a2.tr b3, b4, fun k hk => by rw [b5 k hk, a3 k hk], fun z => ?_, fun z => ?_⟩
      · obtain ⟨r, c1, c2, c3, c4, c5, c6⟩ := b6 z
        refine ⟨r, by omega, c2, c3, c4, c5, fun y h1 h2 => ?_⟩
        by_cases e : y = a
        · exact ⟨j, by omega, by rw [e]; exact a8 (by omega)⟩
        · exact c6 y (by omega) h2
      · rcases b7 z with c | ⟨y, c1, c2, c3⟩
        · refine Or.inl (fun y h1 h2 => ?_)
          by_cases e : y = a
          · exact ⟨j, by omega, by rw [e]; exact a8 (by omega)⟩
          · exact c y (by omega) h2
        · exact Or.inr ⟨y, by omega, c2, c3⟩
theorem k_max_nI {a b : Nat} (ha : a < 2147483648) (hb : b < 2147483648) : k_max (nI a) (nI b) = nI (max a b) := by
  unfold k_max
  by_cases h : a < b
  · rw [if_pos (nI_lt h (by omega)), Nat.max_eq_right (by omega)]
  · rw [if_neg (nI_nlt (by omega) (by omega)), Nat.max_eq_left (by omega)]
/-- the witness of one factor: behind it the run goes on with the next, or ends with false -/
theorem lp_w27 {f : Nat} (hf : f < m) : ∀ (d a z : Nat) {h : dzH} {v : Nat → Nat} {F : Nat → Nat → Int32}, a + d = 201 → 2 ≤ a → 1 ≤ z → z ≤ 200 → a ≤ z + 1 → CW A h o v T E F → MF m V C q o v F → F 5 f = 0 → (∀ y, 2 ≤ y → y ≤ z → closes y V) → (∀ y, 2 ≤ y → y < a → ¬ pev y (q f) V) →
    ∃ h' v' F' , CW A h' o v' T E F' ∧ fr h h' (inC A) ∧ (∀ k, k < 229 ∨ 231 < k → v' k = v k) ∧ (∀ r, r ≠ 5 → F' r = F r) ∧ (∀ j, j ≠ f → F' 5 j = F 5 j) ∧
      ((∃ z' r, dzF 95 27 [(0, .ref (A + 238)), (1, .int (nI z)), (2, .int (nI f)), (3, .int (nI a))] [] (0, 0) h = dzF 95 4 [(0, .ref (A + 238)), (1, .int (nI z')), (2, .int (nI (f + 1)))] [] (0, 0) h' ∧ 1 ≤ z' ∧ z' ≤ 200 ∧ (∀ y, 2 ≤ y → y ≤ z' → closes y V) ∧ F' 5 f = nI r ∧ 2 ≤ r ∧ r ≤ 200 ∧ closes r V ∧ pev r (q f) V ∧ ∀ y, 2 ≤ y → y < r → ¬ pev y (q f) V) ∨
       (dzF 95 27 [(0, .ref (A + 238)), (1, .int (nI z)), (2, .int (nI f)), (3, .int (nI a))] [] (0, 0) h = some (some (.int 0), h') ∧ ((∃ y, 2 ≤ y ∧ y ≤ 200 ∧ ¬ closes y V) ∨ ∀ y, 2 ≤ y → y ≤ 200 → ¬ pev y (q f) V)))
  | 0, a, z, h, v, F, hd, h2, hz, hz2, haz, w, mf, h5, hcl, hno => by
    have hm := mf.1
    refine ⟨h, v, F, w, fr.rf _ _, fun _ _ => rfl, fun _ _ => rfl, fun _ _ => rfl, Or.inr ⟨?_, Or.inr (fun y h1 h2 => hno y h1 (by omega))⟩⟩
    rw [q_Maker_findWitnesses_27, if_neg (show ¬ nI a ≤ 200 from nI_ge (a := 200) (by omega) (by omega)), q_Maker_findWitnesses_102]
    simp only [g_mk4 w, g_mf2 w, Option.bind_some, r_F5 w (j := f) (by omega), h5]
    rfl
  | d + 1, a, z, h, v, F, hd, h2, hz, hz2, haz, w, mf, h5, hcl, hno => by
    have hm := mf.1
    have hV3 := mf.2.2.1
    -- from 64 on
    have go : ∀ {h1 : dzH} {v1 : Nat → Nat} {R : Option dzR}, CW A h1 o v1 T E F → fr h h1 (inC A) → (∀ k, k < 229 ∨ 231 < k → v1 k = v k) → closes a V → dzF 95 64 [(0, .ref (A + 238)), (1, .int (nI z)), (2, .int (nI f)), (3, .int (nI a))] [] (0, 0) h1 = R →
        ∃ h' v' F' , CW A h' o v' T E F' ∧ fr h h' (inC A) ∧ (∀ k, k < 229 ∨ 231 < k → v' k = v k) ∧ (∀ r, r ≠ 5 → F' r = F r) ∧ (∀ j, j ≠ f → F' 5 j = F 5 j) ∧
          ((∃ z' r, R = dzF 95 4 [(0, .ref (A + 238)), (1, .int (nI z')), (2, .int (nI (f + 1)))] [] (0, 0) h' ∧ 1 ≤ z' ∧ z' ≤ 200 ∧ (∀ y, 2 ≤ y → y ≤ z' → closes y V) ∧ F' 5 f = nI r ∧ 2 ≤ r ∧ r ≤ 200 ∧ closes r V ∧ pev r (q f) V ∧ ∀ y, 2 ≤ y → y < r → ¬ pev y (q f) V) ∨
           (R = some (some (.int 0), h') ∧ ((∃ y, 2 ≤ y ∧ y ≤ 200 ∧ ¬ closes y V) ∨ ∀ y, 2 ≤ y → y ≤ 200 → ¬ pev y (q f) V))) := by
      intro h1 v1 R w1 hf1 hv1 hca hr
      have mf1 := mf.up (o1 := o) (F1 := F) rfl (fun k hk => hv1 k (by omega)) rfl
      obtain ⟨f1, f2, f3, f4⟩ := mf1.2.2.2.2.2 f hf
      have n1 := kk_mfn w1 (j := f) (q := C f) (by omega) f2 f1
      obtain ⟨y1, y2⟩ := pvn_c (a := a) (q := q f) (V := V) (by omega) hca
      obtain ⟨k2, v2, a1, a2, a3, a4⟩ := kk_pev w1 (by rw [mf1.2.2.2.1]; omega) (nI a) (isR_n f2) (by omega) (by rw [f3]; omega) (by rw [f3, mf1.2.2.2.1, mf1.2.2.2.2.1, w32_nI (by omega)]; exact y1)
      rw [f3, mf1.2.2.2.1, mf1.2.2.2.2.1, w32_nI (by omega)] at a1
      have y3 : a ^ ((V - 1) / q f) % V - 1 = pvn a (q f) V := y2.symm
      rw [y3] at a1
      have hmax : max z a ≤ 200 := by omega
      have hmax1 : 1 ≤ max z a := by omega
      have hclm : ∀ y, 2 ≤ y → y ≤ max z a → closes y V := fun y h1 h2 => by
        by_cases e : y ≤ z
        · exact hcl y h1 e
        · have : y = a := by omega
          rw [this]; exact hca
      rw [q_Maker_findWitnesses_64] at hr
      simp only [g_mk3 w1, n1, Option.bind_some, a1, k_max_nI (show z < 2147483648 by omega) (show a < 2147483648 by omega)] at hr
      by_cases hp : pev a (q f) V
      · rw [decide_eq_true (show Nat.gcd (pvn a (q f) V) V = 1 from hp), if_neg bI_n1] at hr
        obtain ⟨k3, b1, b2, b3⟩ := w_F5 a2 (j := f) (nI a) (by omega)
        simp only [g_mk4 a2, g_mf2 a2, Option.bind_some, b1] at hr
        have e102 : dzF 95 102 [(0, .ref (A + 238)), (1, .int (nI (max z a))), (2, .int (nI f)), (3, .int (nI (a + 1)))] [] (0, 0) k3 = dzF 95 4 [(0, .ref (A + 238)), (1, .int (nI (max z a))), (2, .int (nI (f + 1)))] [] (0, 0) k3 := by
          rw [q_Maker_findWitnesses_102]
          simp only [g_mk4 b2, g_mf2 b2, Option.bind_some, r_F5 b2 (j := f) (by omega), uF_s]
          rw [if_neg (nI_ne0 (by omega) (by omega)), nI_1]
        rw [q_Maker_findWitnesses_96, nI_1, q_Maker_findWitnesses_27] at hr
        simp only [g_mk4 b2, g_mf2 b2, Option.bind_some, r_F5 b2 (j := f) (by omega), uF_s, e102] at hr
        rw [if_neg (nI_ne0 (n := a) (by omega) (by omega))] at hr
        refine ⟨k3, v2, _, b2, (hf1.tr a3).tr b3, fun k hk => by rw [a4 k hk, hv1 k hk], fun r hr => uF_r hr, fun j hj => uF_j hj, Or.inl ⟨max z a, a, ?_, hmax1, hmax, hclm, uF_s, by omega, by omega, hca, hp, hno⟩⟩
        rw [← hr]
        split <;> rfl
      · rw [decide_eq_false (show ¬ Nat.gcd (pvn a (q f) V) V = 1 from hp), if_pos bI_f, q_Maker_findWitnesses_96, nI_1] at hr
        obtain ⟨h', v', F', b1, b2, b3, b4, b5, b6⟩ := lp_w27 hf d (a + 1) (max z a) (by omega) (by omega) hmax1 hmax (by omega) a2 (mf1.up (o1 := o) (F1 := F) rfl (fun k hk => a4 k (by omega)) rfl) h5 hclm (fun y h1 h2 => by
          by_cases e : y = a
          · rw [e]; exact hp
          · exact hno y h1 (by omega))
        rw [hr] at b6
        exact ⟨h', v', F', b1, (hf1.tr a3).tr b2, fun k hk => by rw [b3 k hk, a4 k hk, hv1 k hk], b4, b5, b6⟩
    generalize hr : dzF 95 27 [(0, .ref (A + 238)), (1, .int (nI z)), (2, .int (nI f)), (3, .int (nI a))] [] (0, 0) h = R
    rw [q_Maker_findWitnesses_27, if_pos (show nI a ≤ 200 from nI_le (b := 200) (by omega) (by decide))] at hr
    simp only [g_mk4 w, g_mf2 w, Option.bind_some, r_F5 w (j := f) (by omega), h5, g_mk3 w] at hr
    rw [if_pos trivial] at hr
    by_cases haz2 : a ≤ z
    · rw [if_pos (nI_le haz2 (by omega))] at hr
      exact go w (fr.rf _ _) (fun _ _ => rfl) (hcl a h2 haz2) hr
    · rw [if_neg (nI_ge (by omega) (by omega))] at hr
      obtain ⟨k1, v1, a1, a2, a3, a4⟩ := kk_closes w (by rw [mf.2.2.2.1]; omega) (nI a)
      rw [mf.2.2.2.1, mf.2.2.2.2.1, w32_nI (by omega)] at a1
      simp only [a1, Option.bind_some] at hr
      by_cases hca : closes a V
      · rw [decide_eq_true (show a ^ (V - 1) % V = 1 from hca), if_neg bI_n1] at hr
        exact go a2 a3 a4 hca hr
      · rw [decide_eq_false (show ¬ a ^ (V - 1) % V = 1 from hca), if_pos bI_f] at hr
        exact ⟨k1, v1, F, a2, a3, a4, fun _ _ => rfl, fun _ _ => rfl, Or.inr ⟨hr.symm, Or.inl ⟨a, h2, by omega, hca⟩⟩⟩
theorem lp_w4 : ∀ (d f z : Nat) {h : dzH} {v : Nat → Nat} {F : Nat → Nat → Int32}, f + d = m → 1 ≤ z → z ≤ 200 → CW A h o v T E F → MF m V C q o v F → (∀ y, 2 ≤ y → y ≤ z → closes y V) →
    ∃ b h' v' F', dzRI (dzF 95 4 [(0, .ref (A + 238)), (1, .int (nI z)), (2, .int (nI f))] [] (0, 0) h) = some (bI b, h') ∧ CW A h' o v' T E F' ∧ fr h h' (inC A) ∧ (∀ k, k < 229 ∨ 231 < k → v' k = v k) ∧ (∀ r, r ≠ 5 → F' r = F r) ∧ (∀ j, j < f → F' 5 j = F 5 j) ∧
      (b = true → ∀ j, f ≤ j → j < m → ∃ r, F' 5 j = nI r ∧ 2 ≤ r ∧ r ≤ 200 ∧ closes r V ∧ pev r (q j) V ∧ ∀ y, 2 ≤ y → y < r → ¬ pev y (q j) V) ∧
      (b = false → (∃ y, 2 ≤ y ∧ y ≤ 200 ∧ ¬ closes y V) ∨ ∃ j, j < m ∧ ∀ y, 2 ≤ y → y ≤ 200 → ¬ pev y (q j) V)
  | 0, f, z, h, v, F, hd, hz, hz2, w, mf, hcl => by
    have hm := mf.1
    refine ⟨true, h, v, F, ?_, w, fr.rf _ _, fun _ _ => rfl, fun _ _ => rfl, fun _ _ => rfl, fun _ j h1 h2 => by omega, fun z => (by cases z)⟩
    rw [q_Maker_findWitnesses_4]
    simp only [g_mk4 w, g_o13 w, mf.2.1, Option.bind_some]
    rw [if_neg (nI_nlt (by omega) (by omega))]
    rfl
  | d + 1, f, z, h, v, F, hd, hz, hz2, w, mf, hcl => by
    have hm := mf.1
    obtain ⟨k1, a1, a2, a3⟩ := w_F5 w (j := f) 0 (by omega)
    have mf1 := mf.up (o1 := o) (F1 := uF F 5 f 0) (v1 := v) rfl (fun _ _ => rfl) (uF_r (by decide))
    obtain ⟨k2, v2, F2, b1, b2, b3, b4, b5, b6⟩ := lp_w27 (f := f) (by omega) 199 2 z (by decide) (by decide) hz hz2 (by omega) a2 mf1 uF_s hcl (fun y h1 h2 => by omega)
    generalize hr : dzRI (dzF 95 4 [(0, .ref (A + 238)), (1, .int (nI z)), (2, .int (nI f))] [] (0, 0) h) = R
    rw [q_Maker_findWitnesses_4] at hr
    simp only [g_mk4 w, g_o13 w, mf.2.1, Option.bind_some, g_mf2 w, a1] at hr
    rw [if_pos (nI_lt (by omega) (by omega)), show (2 : Int32) = nI 2 from rfl] at hr
    have eF : ∀ r, r ≠ 5 → F2 r = F r := fun r hr => by rw [b4 r hr, uF_r hr]
    have eF5 : ∀ j, j ≠ f → F2 5 j = F 5 j := fun j hj => by rw [b5 j hj, uF_j hj]
    rcases b6 with ⟨z', r, c1, c2, c3, c4, c5, c6, c7, c8, c9, c10⟩ | ⟨c1, c2⟩
    · rw [c1] at hr
      obtain ⟨b, h', v', F', d1, d2, d3, d4, d5, d6, d7, d8⟩ := lp_w4 d (f + 1) z' (by omega) c2 c3 b1 (mf.up (o1 := o) (F1 := F2) (v1 := v2) rfl (fun k hk => b3 k (by omega)) (eF 3 (by decide))) c4
      refine ⟨b, h', v', F', by rw [← hr, d1], d2, (a3.tr b2).tr d3, fun k hk => by rw [d4 k hk, b3 k hk], fun r hr => by rw [d5 r hr, eF r hr], fun j hj => by rw [d6 j (by omega), eF5 j (by omega)], fun hb j h1 h2 => ?_, d8⟩
      by_cases e : j = f
      · subst e
        exact ⟨r, by rw [d6 j (by omega), c5], c6, c7, c8, c9, c10⟩
      · exact d7 hb j (by omega) h2
    · rw [c1] at hr
      refine ⟨false, k2, v2, F2, hr.symm, b1, a3.tr b2, b3, eF, fun j hj => eF5 j (by omega), fun z => (by cases z), fun _ => ?_⟩
      rcases c2 with c | c
      · exact Or.inl c
      · exact Or.inr ⟨f, by omega, c⟩
end
