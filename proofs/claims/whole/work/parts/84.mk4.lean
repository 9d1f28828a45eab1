/-! the class's maker writes lines -/
abbrev wd (V i : Nat) : Nat := V / 4294967296 ^ i % 4294967296
/-- where the count of factors stands -/
def cF (W c u : Nat) : Nat := if W = 2 then c + 2 + u + 1 else c + 2 + u
/-- a line of kind W stands at c -/
def Wl (T : Nat → Int32) (c W V u a m : Nat) (C D Q : Nat → Nat) : Prop :=
  T c = nI W ∧ T (c + 1) = nI u ∧ (∀ i, i < u → T (c + 2 + i) = nI (wd V i)) ∧ (W = 2 → T (c + 2 + u) = nI a) ∧ T (cF W c u) = nI m ∧ ∀ j, j < m → T (cF W c u + 1 + W * j) = nI (C j) ∧ T (cF W c u + 1 + W * j + 1) = nI (D j) ∧ (W = 3 → T (cF W c u + 1 + W * j + 2) = nI (Q j))
section
variable {A : Nat} {h : dzH} {o : Nat → Int32} {v : Nat → Nat} {T E : Nat → Int32} {F : Nat → Nat → Int32} {n k m s V c u : Nat} {C D Q : Nat → Nat}
theorem kk_wi (w : CW A h o v T E F) {r i : Nat} (hr : isR r) (hi : i < 8) : drI h (A + r) (nI i) = some (nI (wd (v r) i)) := by
  obtain ⟨f, f1, f2⟩ := w.row hr
  rw [drI_at f1 hi (by decide), ← f2]
  show some (f i) = some (nI (wv f 8 / 4294967296 ^ i % 4294967296))
  rw [wv_word f hi, nI_w32]
theorem wd_0 {V : Nat} (h : V < 4294967296) : wd V 0 = V := by
  unfold wd
  rw [Nat.pow_zero, Nat.div_one, Nat.mod_eq_of_lt h]
theorem lp_ws (hs : s + 2 * k ≤ 4000) (hn : n + k ≤ 200) (hv : ∀ q, q < k → v (24 + (n + q)) < 65536) : ∀ (d i : Nat) {h : dzH} {o : Nat → Int32} {T E : Nat → Int32}, i + d = k → CW A h o v T E F → o 0 = nI (s + 2 * i) → o 1 = nI (n + i) → o 11 = nI k →
    ∃ h' o' T' E', dzRI (dzF 86 2 [(0, .ref (A + 238)), (1, .int (nI i))] [] (0, 0) h) = some (nI (n + k) - 1, h') ∧ CW A h' o' v T' E' F ∧ fr h h' (inC A) ∧ keL [0, 1] o o' ∧ o' 0 = nI (s + 2 * k) ∧ o' 1 = nI (n + k) ∧ (∀ j, j < s + 2 * i → T' j = T j) ∧ (∀ q, i ≤ q → q < k → T' (s + 2 * q) = nI 1 ∧ T' (s + 2 * q + 1) = nI (v (24 + (n + q)))) ∧ (∀ j, j < n + i → E' j = E j) ∧ (∀ q, i ≤ q → q < k → E' (n + q) = nI (s + 2 * q + 2))
  | 0, i, h, o, T, E, hd, w, h0, h1, h11 => by
    have ei : i = k := by omega
    subst ei
    refine ⟨h, o, T, E, ?_, w, fr.rf _ _, fun _ _ => rfl, h0, h1, fun _ _ => rfl, fun q a b => by omega, fun _ _ => rfl, fun q a b => by omega⟩
    rw [q_Maker_writeSmallLines_2]
    simp only [g_o11 w, h11, Option.bind_some, g_mk1 w, g_o1 w, h1]
    rw [if_neg (nI_nlt (Nat.le_refl i) (by omega))]
    rfl
  | d + 1, i, h, o, T, E, hd, w, h0, h1, h11 => by
    obtain ⟨k1, a1, a2, a3⟩ := kk_app w h0 (by omega) 1
    have e1 : upd o 0 (nI (s + 2 * i + 1)) 1 = nI (n + i) := by rw [pk_un (by decide), h1]
    have hw := kk_wi a2 (r := 24 + (n + i)) (i := 0) (isR_n (by omega)) (by decide)
    rw [wd_0 (by have := hv i (by omega); omega), nI_0] at hw
    obtain ⟨k2, b1, b2, b3⟩ := kk_app a2 (s := s + 2 * i + 1) pk_us (by omega) (nI (v (24 + (n + i))))
    have e1' : upd (upd o 0 (nI (s + 2 * i + 1))) 0 (nI (s + 2 * i + 1 + 1)) 1 = nI (n + i) := by rw [pk_un (by decide), e1]
    obtain ⟨k3, c1, c2, c3⟩ := kk_keep b2 e1' (by omega) (nI (s + 2 * i + 1 + 1))
    obtain ⟨h', o', T', E', d1, d2, d3, d4, d5, d6, d7, d8, d9, d10⟩ := lp_ws hs hn hv d (i + 1) (by omega) c2 (by rw [pk_un (by decide), pk_us]; congr 1) (by rw [pk_us]; rfl) (by rw [pk_un (by decide), pk_un (by decide), pk_un (by decide), h11])
    have hd7 : ∀ j, j < s + 2 * i + 2 → T' j = upd (upd T (s + 2 * i) 1) (s + 2 * i + 1) (nI (v (24 + (n + i)))) j := fun j hj => d7 j (by omega)
    refine ⟨h', o', T', E', ?_, d2, ((a3.tr b3).tr c3).tr d3, fun q hq => ?_, d5, d6, fun j hj => ?_, fun q q1 q2 => ?_, fun j hj => ?_, fun q q1 q2 => ?_⟩
    · rw [q_Maker_writeSmallLines_2]
      simp only [g_o11 w, h11, Option.bind_some, g_mk0 w, a1, g_mk0 a2, g_mk1 a2, g_lines0 a2, g_o1 a2, e1, g_nm a2 (l := n + i) (by omega), hw, b1, g_mk1 b2, g_mk0 b2, g_o0 b2, pk_us, c1, nI_1]
      rw [if_pos (nI_lt (by omega) (by omega)), d1]
    · rw [d4 q hq, pk_un (fun z => hq (by rw [z]; decide)), pk_un (fun z => hq (by rw [z]; decide)), pk_un (fun z => hq (by rw [z]; decide))]
    · rw [hd7 j (by omega), pk_un (by omega), pk_un (by omega)]
    · by_cases e : q = i
      · subst e
        rw [hd7 _ (by omega), hd7 _ (by omega), pk_un (by omega), pk_us, pk_us]
        exact ⟨rfl, rfl⟩
      · exact d8 q (by omega) q2
    · rw [d9 j (by omega), pk_un (by omega)]
    · by_cases e : q = i
      · subst e
        rw [d9 _ (by omega), pk_us]
      · exact d10 q (by omega) q2
theorem kk_ws (w : CW A h o v T E F) (hs : s + 2 * k ≤ 4000) (hn : n + k ≤ 200) (hv : ∀ q, q < k → v (24 + (n + q)) < 65536) (h0 : o 0 = nI s) (h1 : o 1 = nI n) (h11 : o 11 = nI k) :
    ∃ h' o' T' E', c_Maker_writeSmallLines (A + 238) h = some (nI (n + k) - 1, h') ∧ CW A h' o' v T' E' F ∧ fr h h' (inC A) ∧ keL [0, 1] o o' ∧ o' 0 = nI (s + 2 * k) ∧ o' 1 = nI (n + k) ∧ (∀ j, j < s → T' j = T j) ∧ (∀ q, q < k → T' (s + 2 * q) = nI 1 ∧ T' (s + 2 * q + 1) = nI (v (24 + (n + q)))) ∧ (∀ j, j < n → E' j = E j) ∧ (∀ q, q < k → E' (n + q) = nI (s + 2 * q + 2)) := by
  obtain ⟨fs, ho⟩ := w.o238
  obtain ⟨h', o', T', E', d1, d2, d3, d4, d5, d6, d7, d8, d9, d10⟩ := lp_ws hs hn hv k 0 (Nat.zero_add k) w h0 h1 h11
  refine ⟨h', o', T', E', ?_, d2, d3, d4, d5, d6, d7, fun q hq => d8 q (Nat.zero_le _) hq, d9, fun q hq => d10 q (Nat.zero_le _) hq⟩
  rw [cc_Maker_writeSmallLines _ _ ho, q_Maker_writeSmallLines_0, ← nI_0, d1]
theorem lp_62 (hu : u ≤ 8) (hc : c + 2 + u ≤ 4000) (h226 : v 226 = V) (b : Int32) : ∀ (d i : Nat) {h : dzH} {o : Nat → Int32} {T : Nat → Int32}, i + d = u → CW A h o v T E F → o 0 = nI (c + 2 + i) →
    ∃ h' o' T', dzF 96 62 [(0, .ref (A + 238)), (1, .int b), (2, .int (nI u)), (3, .int (nI i))] [] (0, 0) h = dzF 96 62 [(0, .ref (A + 238)), (1, .int b), (2, .int (nI u)), (3, .int (nI u))] [] (0, 0) h' ∧ CW A h' o' v T' E F ∧ fr h h' (inC A) ∧ keL [0] o o' ∧ o' 0 = nI (c + 2 + u) ∧ (∀ j, j < c + 2 + i → T' j = T j) ∧ (∀ q, i ≤ q → q < u → T' (c + 2 + q) = nI (wd V q))
  | 0, i, h, o, T, hd, w, h0 => by
    have ei : i = u := by omega
    subst ei
    exact ⟨h, o, T, rfl, w, fr.rf _ _, fun _ _ => rfl, h0, fun _ _ => rfl, fun q a b => by omega⟩
  | d + 1, i, h, o, T, hd, w, h0 => by
    have hw := kk_wi w (r := 226) (i := i) (isR_t (by decide) (by decide)) (by omega)
    rw [h226] at hw
    obtain ⟨k1, a1, a2, a3⟩ := kk_app w h0 (by omega) (nI (wd V i))
    obtain ⟨h', o', T', d1, d2, d3, d4, d5, d6, d7⟩ := lp_62 hu hc h226 b d (i + 1) (by omega) a2 (by rw [pk_us]; congr 1)
    refine ⟨h', o', T', ?_, d2, a3.tr d3, fun q hq => by rw [d4 q hq, pk_un (fun z => hq (by rw [z]; decide))], d5, fun j hj => by rw [d6 j (by omega), pk_un (by omega)], fun q q1 q2 => ?_⟩
    · rw [q_Maker_writeLastLine_62, if_pos (nI_lt (by omega) (by omega))]
      simp only [g_mk0 w, Option.bind_some, g_mk3 w, g_tr1 w, hw, a1, nI_1]
      exact d1
    · by_cases e : q = i
      · subst e
        rw [d6 _ (by omega), pk_us]
      · exact d7 q (by omega) q2
theorem lp_120 {W cc : Nat} (hm : m ≤ 40) (hW : W = 2 ∨ W = 3) (hc : cc + 1 + W * m ≤ 4000) (b i2 : Int32) (hb : b = 0 ↔ W = 3) (hF : ∀ j, j < m → F 3 j = nI (C j) ∧ F 4 j = nI (D j) ∧ (W = 3 → F 5 j = nI (Q j))) : ∀ (d f : Nat) {h : dzH} {o : Nat → Int32} {T : Nat → Int32}, f + d = m → CW A h o v T E F → o 13 = nI m → o 0 = nI (cc + 1 + W * f) →
    ∃ h' o' T', dzF 96 120 [(0, .ref (A + 238)), (1, .int b), (2, .int i2), (3, .int (nI f))] [] (0, 0) h = dzF 96 120 [(0, .ref (A + 238)), (1, .int b), (2, .int i2), (3, .int (nI m))] [] (0, 0) h' ∧ CW A h' o' v T' E F ∧ fr h h' (inC A) ∧ keL [0] o o' ∧ o' 0 = nI (cc + 1 + W * m) ∧ (∀ j, j < cc + 1 + W * f → T' j = T j) ∧ (∀ j, f ≤ j → j < m → T' (cc + 1 + W * j) = nI (C j) ∧ T' (cc + 1 + W * j + 1) = nI (D j) ∧ (W = 3 → T' (cc + 1 + W * j + 2) = nI (Q j)))
  | 0, f, h, o, T, hd, w, h13, h0 => by
    have ef : f = m := by omega
    subst ef
    exact ⟨h, o, T, rfl, w, fr.rf _ _, fun _ _ => rfl, h0, fun _ _ => rfl, fun j a b => by omega⟩
  | d + 1, f, h, o, T, hd, w, h13, h0 => by
    obtain ⟨f3, f4, f5⟩ := hF f (by omega)
    have hin : W * f + W ≤ W * m := by
      have := Nat.mul_le_mul_left W (show f + 1 ≤ m by omega)
      rw [Nat.mul_add, Nat.mul_one] at this
      exact this
    have r3 := r_F3 w (j := f) (by omega)
    rw [f3] at r3
    obtain ⟨k1, a1, a2, a3⟩ := kk_app w h0 (by omega) (nI (C f))
    have r4 := r_F4 a2 (j := f) (by omega)
    rw [f4] at r4
    obtain ⟨k2, b1, b2, b3⟩ := kk_app a2 (s := cc + 1 + W * f + 1) pk_us (by omega) (nI (D f))
    generalize hr : dzF 96 120 [(0, .ref (A + 238)), (1, .int b), (2, .int i2), (3, .int (nI f))] [] (0, 0) h = R
    rw [q_Maker_writeLastLine_120] at hr
    simp only [g_mk4 w, g_o13 w, h13, Option.bind_some, g_mk0 w, g_mf0 w, r3, a1, g_mk0 a2, g_mk4 a2, g_mf1 a2, r4, b1] at hr
    rw [if_pos (nI_lt (by omega) (by omega))] at hr
    rcases hW with e | e
    · subst e
      rw [if_neg (fun z => by have := hb.mp z; omega), q_Maker_writeLastLine_183, nI_1] at hr
      obtain ⟨h', o', T', d1, d2, d3, d4, d5, d6, d7⟩ := lp_120 (W := 2) hm (Or.inl rfl) hc b i2 hb hF d (f + 1) (by omega) b2 (by rw [pk_un (by decide), pk_un (by decide), h13]) (by rw [pk_us]; congr 1)
      refine ⟨h', o', T', by rw [← hr, d1], d2, (a3.tr b3).tr d3, fun q hq => by rw [d4 q hq, pk_un (fun z => hq (by rw [z]; decide)), pk_un (fun z => hq (by rw [z]; decide))], d5, fun j hj => by rw [d6 j (by omega), pk_un (by omega), pk_un (by omega)], fun j j1 j2 => ?_⟩
      by_cases e : j = f
      · subst e
        refine ⟨?_, ?_, fun z => by omega⟩
        · rw [d6 _ (by omega), pk_un (by omega), pk_us]
        · rw [d6 _ (by omega), pk_us]
      · exact d7 j (by omega) j2
    · subst e
      have r5 := r_F5 b2 (j := f) (by omega)
      rw [f5 rfl] at r5
      obtain ⟨k3, c1, c2, c3⟩ := kk_app b2 (s := cc + 1 + 3 * f + 1 + 1) pk_us (by omega) (nI (Q f))
      rw [if_pos (hb.mpr rfl)] at hr
      simp only [g_mk0 b2, Option.bind_some, g_mk4 b2, g_mf2 b2, r5, c1] at hr
      rw [q_Maker_writeLastLine_183, nI_1] at hr
      obtain ⟨h', o', T', d1, d2, d3, d4, d5, d6, d7⟩ := lp_120 (W := 3) hm (Or.inr rfl) hc b i2 hb hF d (f + 1) (by omega) c2 (by rw [pk_un (by decide), pk_un (by decide), pk_un (by decide), h13]) (by rw [pk_us]; congr 1)
      refine ⟨h', o', T', by rw [← hr, d1], d2, ((a3.tr b3).tr c3).tr d3, fun q hq => by rw [d4 q hq, pk_un (fun z => hq (by rw [z]; decide)), pk_un (fun z => hq (by rw [z]; decide)), pk_un (fun z => hq (by rw [z]; decide))], d5, fun j hj => by rw [d6 j (by omega), pk_un (by omega), pk_un (by omega), pk_un (by omega)], fun j j1 j2 => ?_⟩
      by_cases e : j = f
      · subst e
        refine ⟨?_, ?_, fun _ => ?_⟩
        · rw [d6 _ (by omega), pk_un (by omega), pk_un (by omega), pk_us]
        · rw [d6 _ (by omega), pk_un (by omega), pk_us]
        · rw [d6 _ (by omega), pk_us]
      · exact d7 j (by omega) j2
theorem kk_wl (w : CW A h o v T E F) {W a : Nat} (hW : W = 2 ∨ W = 3) (hm : m ≤ 40) (h226 : v 226 = V) (hu : Wc V u) (h0 : o 0 = nI c) (h1 : o 1 = nI n) (hn : n < 200) (h13 : o 13 = nI m) (h12 : W = 2 → o 12 = nI a) (hc : cF W c u + 1 + W * m ≤ 4000) (hF : ∀ j, j < m → F 3 j = nI (C j) ∧ F 4 j = nI (D j) ∧ (W = 3 → F 5 j = nI (Q j))) :
    ∃ h' o' T', c_Maker_writeLastLine (A + 238) (bI (decide (W = 2))) h = some (nI n, h') ∧ CW A h' o' (gu v (24 + n) V) T' (upd E n (nI (cF W c u + 1 + W * m))) F ∧ fr h h' (inC A) ∧ keL [0, 1] o o' ∧ o' 0 = nI (cF W c u + 1 + W * m) ∧ o' 1 = nI (n + 1) ∧ (∀ j, j < c → T' j = T j) ∧ Wl T' c W V u a m C D Q := by
  obtain ⟨fs, ho⟩ := w.o238
  have hu8 := hu.1
  have hcc : c + 2 + u ≤ cF W c u := by
    unfold cF
    split <;> omega
  obtain ⟨k1, a1, a2, a3⟩ := cw_copy w (r := 226) (k := 24 + n) (isR_t (by decide) (by decide)) (isR_n hn) (by omega) (by omega)
  rw [h226] at a2
  have e226 : gu v (24 + n) V 226 = V := by rw [gu_n (by omega), h226]
  obtain ⟨u', hu', eu⟩ := kk_uw a2 (r := 226) (isR_t (by decide) (by decide))
  rw [e226] at hu'
  have := hu'.uniq hu
  subst this
  obtain ⟨k2, b1, b2, b3⟩ := kk_app a2 h0 (by omega) (nI W)
  obtain ⟨k3, c1, c2, c3⟩ := kk_app b2 (s := c + 1) pk_us (by omega) (nI u')
  obtain ⟨k4, o4, T4, d1, d2, d3, d4, d5, d6, d7⟩ := lp_62 (c := c) hu8 (by omega) e226 (bI (decide (W = 2))) u' 0 (Nat.zero_add _) c2 (by rw [pk_us])
  have hT2 : T4 c = nI W ∧ T4 (c + 1) = nI u' := by
    rw [d6 c (by omega), d6 (c + 1) (by omega), pk_un (by omega), pk_us, pk_us]
    exact ⟨rfl, rfl⟩
  have h134 : o4 13 = nI m := by rw [d4 13 (by decide), pk_un (by decide), pk_un (by decide), h13]
  have h14 : o4 1 = nI n := by rw [d4 1 (by decide), pk_un (by decide), pk_un (by decide), h1]
  have h124 : o4 12 = o 12 := by rw [d4 12 (by decide), pk_un (by decide), pk_un (by decide)]
  have hb : bI (decide (W = 2)) = 0 ↔ W = 3 := by
    rcases hW with e | e <;> subst e <;> decide
  -- to 104
  have mid : ∃ k5 o5 T5, dzF 96 62 [(0, .ref (A + 238)), (1, .int (bI (decide (W = 2)))), (2, .int (nI u')), (3, .int (nI u'))] [] (0, 0) k4 = dzF 96 104 [(0, .ref (A + 238)), (1, .int (bI (decide (W = 2)))), (2, .int (nI u')), (3, .int (nI u'))] [] (0, 0) k5 ∧ CW A k5 o5 (gu v (24 + n) V) T5 E F ∧ fr k4 k5 (inC A) ∧ keL [0] o4 o5 ∧ o5 0 = nI (cF W c u') ∧ (∀ j, j < c + 2 + u' → T5 j = T4 j) ∧ (W = 2 → T5 (c + 2 + u') = nI a) := by
    rw [q_Maker_writeLastLine_62, if_neg (nI_nlt (Nat.le_refl _) (by omega))]
    rcases hW with e | e
    · subst e
      obtain ⟨k5, f1, f2, f3⟩ := kk_app d2 d5 (by unfold cF at hc; rw [if_pos rfl] at hc; omega) (nI a)
      refine ⟨k5, _, _, ?_, f2, f3, fun q hq => pk_un (fun z => hq (by rw [z]; decide)), by rw [pk_us]; rfl, fun j hj => pk_un (by omega), fun _ => pk_us⟩
      rw [if_neg (by decide)]
      simp only [g_mk0 d2, Option.bind_some, g_o12 d2, h124, h12 rfl, f1]
    · subst e
      refine ⟨k4, o4, T4, ?_, d2, fr.rf _ _, fun _ _ => rfl, by rw [d5]; rfl, fun _ _ => rfl, fun z => by omega⟩
      rw [if_pos (by decide)]
  obtain ⟨k5, o5, T5, f1, f2, f3, f4, f5, f6, f7⟩ := mid
  have h135 : o5 13 = nI m := by rw [f4 13 (by decide), h134]
  obtain ⟨k6, g1, g2, g3⟩ := kk_app f2 f5 (by omega) (nI m)
  obtain ⟨k7, o7, T7, i1, i2, i3, i4, i5, i6, i7⟩ := lp_120 (W := W) (cc := cF W c u') hm hW hc (bI (decide (W = 2))) (nI u') hb hF m 0 (Nat.zero_add _) g2 (by rw [pk_un (by decide), h135]) (by rw [pk_us, Nat.mul_zero])
  have h17 : o7 1 = nI n := by rw [i4 1 (by decide), pk_un (by decide), f4 1 (by decide), h14]
  have h137 : o7 13 = nI m := by rw [i4 13 (by decide), pk_un (by decide), h135]
  obtain ⟨k8, j1, j2, j3⟩ := kk_keep i2 h17 hn (nI (cF W c u' + 1 + W * m))
  have hlow : ∀ j, j < c + 2 + u' → T7 j = T4 j := fun j hj => by rw [i6 j (by omega), pk_un (by omega), f6 j hj]
  refine ⟨k8, _, T7, ?_, j2, ((((((a3.tr b3).tr c3).tr d3).tr f3).tr g3).tr i3).tr j3, fun q hq => ?_, ?_, pk_us, fun j hj => ?_, ?_⟩
  · rw [cc_Maker_writeLastLine _ _ _ ho, q_Maker_writeLastLine_0]
    simp only [g_mk3 w, g_tr1 w, Option.bind_some, g_mk1 w, g_lines0 w, g_o1 w, h1, g_nm w hn, a1, g_mk3 a2, g_tr1 a2, eu, g_mk0 a2]
    have e49 : dzRI (dzF 96 49 [(0, .ref (A + 238)), (1, .int (bI (decide (W = 2)))), (2, .int (nI u'))] [.int (nI W), .ref (A + 20)] (0, 0) k1) = some (nI n, k8) := by
      rw [q_Maker_writeLastLine_49]
      simp only [b1, Option.bind_some, g_mk0 b2, c1]
      rw [← nI_0, d1, f1, q_Maker_writeLastLine_104]
      simp only [g_mk0 f2, g_mk4 f2, g_o13 f2, h135, Option.bind_some, g1]
      rw [← nI_0, i1, q_Maker_writeLastLine_120]
      simp only [g_mk4 i2, g_o13 i2, h137, Option.bind_some, g_mk1 i2, g_mk0 i2, g_o0 i2, i5, j1, g_mk1 j2, g_o1 j2, pk_us, nI_pred]
      rw [if_neg (nI_nlt (Nat.le_refl m) (by omega))]
      rfl
    rcases hW with e | e
    · subst e
      rw [if_neg (by decide)]
      exact e49
    · subst e
      rw [if_pos (by decide)]
      exact e49
  · rw [pk_un (fun z => hq (by rw [z]; decide)), i4 q (fun z => hq (by rw [List.mem_singleton.mp z]; decide)), pk_un (fun z => hq (by rw [z]; decide)), f4 q (fun z => hq (by rw [List.mem_singleton.mp z]; decide)), d4 q (fun z => hq (by rw [List.mem_singleton.mp z]; decide)), pk_un (fun z => hq (by rw [z]; decide)), pk_un (fun z => hq (by rw [z]; decide))]
  · rw [pk_un (by decide), i5]
  · rw [hlow j (by omega), d6 j (by omega), pk_un (by omega), pk_un (by omega)]
  · refine ⟨by rw [hlow c (by omega)]; exact hT2.1, by rw [hlow (c + 1) (by omega)]; exact hT2.2, fun i hi => by rw [hlow _ (by omega)]; exact d7 i (Nat.zero_le _) hi, fun e => ?_, ?_, fun j hj => i7 j (Nat.zero_le _) hj⟩
    · have : cF W c u' = c + 2 + u' + 1 := by unfold cF; rw [if_pos e]
      rw [i6 _ (by omega), pk_un (by omega)]
      exact f7 e
    · rw [i6 _ (by omega), pk_us]
end
