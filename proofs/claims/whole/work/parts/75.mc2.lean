/-! the reference's checker: numbers, witnesses, factors, products -/
/-- a fault e is left; slots out of L as they were -/
def RB (M : Nat) (h : dzH) (T : Nat → Int32) (F : Nat → Nat → Int32) (L : List Nat) (o : Nat → Int32) (g : Nat → Nat) (e : Nat × Nat) (r : Option dzH) : Prop := ∃ o' g', r = some (mS h M o' g' T F) ∧ nK L g g' ∧ keL [3, 6, 7] o o' ∧ o' 7 = nI e.1 ∧ o' 3 = nI e.2
theorem fl_ne {a : Nat} (h1 : 1 ≤ a) (h2 : a ≤ 10) : ¬ nI a = 0 := nI_ne0 (by omega) (by omega)
section
variable {M : Nat} {h : dzH} {o : Nat → Int32} {g : Nat → Nat} {T : Nat → Int32} {F : Nat → Nat → Int32} {s c l : Nat}
theorem ke_fail (x y : Int32) : keL [3, 6, 7] o (upd (upd o 7 x) 3 y) := fun k hk => by rw [pk_un (fun z => hk (by rw [z]; decide)), pk_un (fun z => hk (by rw [z]; decide))]
theorem ke_cur (x : Int32) : keL [3, 6, 7] o (upd o 6 x) := fun k hk => by rw [pk_un (fun z => hk (by rw [z]; decide))]
theorem RB.mk {L : List Nat} {o1 : Nat → Int32} {g1 : Nat → Nat} {a b : Nat} {x y : Int32} {r : Option dzH} (hr : r = some (mS h M (upd (upd o1 7 x) 3 y) g1 T F)) (hk : nK L g g1) (hke : keL [3, 6, 7] o o1) (ex : x = nI a) (ey : y = nI b) : RB M h T F L o g (a, b) r :=
  ⟨_, g1, hr, hk, hke.tr (ke_fail x y), by rw [fl7, ex], by rw [fl3, ey]⟩
theorem RB.mono {L L' : List Nat} {e : Nat × Nat} {r : Option dzH} (b : RB M h T F L o g e r) (hL : ∀ k, k ∈ L → k ∈ L') : RB M h T F L' o g e r := by
  obtain ⟨o', g', b1, b2, b3⟩ := b
  exact ⟨o', g', b1, b2.mono hL, b3⟩
theorem RB.after {L : List Nat} {e : Nat × Nat} {r : Option dzH} {o1 : Nat → Int32} {g1 : Nat → Nat} (b : RB M h T F L o1 g1 e r) (hk : nK L g g1) (hke : keL [3, 6, 7] o o1) : RB M h T F L o g e r := by
  obtain ⟨o', g', b1, b2, b3, b4⟩ := b
  exact ⟨o', g', b1, hk.tr b2, hke.tr b3, b4⟩
-- a number
theorem m_n140b (ok : okg g) (hg : ¬ o 7 = 0) (i1 i2 i3 i4 : Int32) : ∃ g', dzRV (dzF 139 140 [(0, .ref M), (1, .int i1), (2, .int i2), (3, .int i3), (4, .int i4)] [] (0, 0) (mS h M o g T F)) = some (mS h M o g' T F) ∧ nK [11] g g' := by
  obtain ⟨g1, a1, a2, a3⟩ := m_copy (M := M) (h := h) (o := o) (T := T) (F := F) ok (show (10 : Int32) = nI 10 from rfl) (show (11 : Int32) = nI 11 from rfl) (by decide) (by decide) (by decide)
  refine ⟨g1, ?_, a2⟩
  rw [q_M_number_140, a1, Option.bind_some, m_bad hg]
  rfl
theorem m_n85b (ok : okg g) (hg : ¬ o 7 = 0) (i1 i2 i3 i4 : Int32) : ∃ g', dzRV (dzF 139 85 [(0, .ref M), (1, .int i1), (2, .int i2), (3, .int i3), (4, .int i4)] [] (0, 0) (mS h M o g T F)) = some (mS h M o g' T F) ∧ nK [8, 11] g g' := by
  obtain ⟨g1, a1, a2, a3⟩ := m_set (M := M) (h := h) (o := o) (T := T) (F := F) ok 3 (show (8 : Int32) = nI 8 from rfl) (by decide)
  obtain ⟨g2, b1, b2⟩ := m_n140b (M := M) (h := h) (o := o) (T := T) (F := F) a2.1 hg i1 i2 i3 i4
  refine ⟨g2, ?_, (a2.mono (by decide)).tr (b2.mono (by decide))⟩
  rw [q_M_number_85, m_bad hg, Option.bind_some]
  dsimp only
  rw [if_pos rfl, q_M_number_107, a1, Option.bind_some, m_bad hg, Option.bind_some]
  dsimp only
  rw [if_pos rfl, b1]
theorem m_n25b (ok : okg g) (hg : ¬ o 7 = 0) (i1 i2 i3 i4 : Int32) : ∃ g', dzRV (dzF 139 25 [(0, .ref M), (1, .int i1), (2, .int i2), (3, .int i3), (4, .int i4)] [] (0, 0) (mS h M o g T F)) = some (mS h M o g' T F) ∧ nK [8, 11] g g' := by
  obtain ⟨g2, b1, b2⟩ := m_n85b (M := M) (h := h) (o := o) (T := T) (F := F) ok hg i1 i2 i3 i4
  refine ⟨g2, ?_, b2⟩
  rw [q_M_number_25]
  by_cases hc : i4 < i2
  · rw [if_pos hc, m_bad hg, Option.bind_some]
    dsimp only
    rw [if_pos rfl, b1]
  · rw [if_neg hc, b1]
/-- two digits of slot 10 -/
theorem m_two (ok : okg g) {i : Nat} (hi : i < 20) (x : Int32) : ∃ g', (∀ K : dzH → Option dzR, ((dgA (mS h M o g T F) M 1 0).bind fun r3 => (dwI (mS h M o g T F) r3 ((400 : Int32) + ((2 : Int32) * nI i)) (x &&& (65535 : Int32))).bind fun h4 => (dgA h4 M 1 0).bind fun r5 => (dwI h4 r5 (((400 : Int32) + ((2 : Int32) * nI i)) + (1 : Int32)) (k_iushr x (16 : Int32))).bind K) = K (mS h M o g' T F)) ∧ nK [10] g g' ∧ nv g' 10 = putw (nv g 10) i (w32 x) := by
  have m := mS_MO (h := h) (M := M) (o := o) (T := T) (F := F) ok
  have hx := w32_lt x
  have e2 : (400 : Int32) + (2 : Int32) * nI i = nI (40 * 10 + 2 * i) := by
    rw [show (2 : Int32) = nI 2 from rfl, pk_mul, show (400 : Int32) = nI 400 from rfl, nI_add]
  have e3 : nI (40 * 10 + 2 * i) + 1 = nI (40 * 10 + (2 * i + 1)) := by rw [nI_1, Nat.add_assoc]
  have hd0 : x &&& 65535 = nI (w32 x % 65536) := by
    apply w32_inj
    rw [w32_and, w32_nI (by omega)]
    exact Nat.and_two_pow_sub_one_eq_mod _ 16
  have hd1 : k_iushr x 16 = nI (w32 x / 65536) := by
    apply w32_inj
    rw [w32_ushr x 16 (k := 16) (by decide +kernel), w32_nI (by omega)]
  have ok1 : okg (gu g (40 * 10 + 2 * i) (w32 x % 65536)) := ok.u (by omega)
  have ok2 : okg (gu (gu g (40 * 10 + 2 * i) (w32 x % 65536)) (40 * 10 + (2 * i + 1)) (w32 x / 65536)) := ok1.u (by omega)
  have m1 := mS_MO (h := h) (M := M) (o := o) (T := T) (F := F) ok1
  refine ⟨_, fun K => ?_, .of1 ok2 (fun z hz => ?_), nv_put ok 10 hi hx⟩
  · rw [gM m, Option.bind_some, e2, e3, hd0, hd1, wM m (by omega), hD_mS, Option.bind_some, gM m1, Option.bind_some, wM m1 (by omega), hD_mS, Option.bind_some]
  · exact nv_congr (fun k hk => by rw [gu_n (by omega), gu_n (by omega)])
theorem putw_z {v i y : Nat} (h : v < 4294967296 ^ i) : putw v i y = v + y * 4294967296 ^ i := by
  unfold putw
  rw [Nat.div_eq_of_lt h, Nat.zero_mod, Nat.zero_mul, Nat.sub_zero]
theorem lp_mnum {k : Nat} (hk1 : 1 ≤ k) (hk8 : k ≤ 8) (hkt : w32 (T c) = k) : ∀ (d i : Nat) {o : Nat → Int32} {g : Nat → Nat} {i3 : Int32}, i + d = k → okg g → nv g 21 = 1 → o 7 = 0 → Mt o s (c + 1 + i) → nv g 10 = pv 4294967296 (fun j => tw T (c + 1 + j)) i → (0 < i → i3 = T (c + i)) →
    Res (if c + k < s then if w32 (T (c + k)) = 0 then .error (2, c + k) else if numv (tw T) c < 3 then .error (4, c) else .ok (numv (tw T) c, c + 1 + k) else .error (1, s) : rE)
      (fun e => RB M h T F [8, 10, 11] o g e (dzRV (dzF 139 25 [(0, .ref M), (1, .int (nI c)), (2, .int (nI k)), (3, .int i3), (4, .int (nI i))] [] (0, 0) (mS h M o g T F))))
      (fun y => ∃ g', dzRV (dzF 139 25 [(0, .ref M), (1, .int (nI c)), (2, .int (nI k)), (3, .int i3), (4, .int (nI i))] [] (0, 0) (mS h M o g T F)) = some (mS h M (upd o 6 (nI y.2)) g' T F) ∧ nK [8, 10, 11] g g' ∧ nv g' 10 = y.1 ∧ nv g' 11 = y.1 - 1)
  | 0, i, o, g, i3, e, ok, h21, hg, ha, hv, h3 => by
    have ek : i = k := by omega
    subst ek
    have h5 := h3 (by omega)
    obtain ⟨h2, h4, h6, h7⟩ := ha
    have hv' : nv g 10 = numv (tw T) c := by
      rw [hv]
      unfold numv
      rw [show tw T c = i from hkt]
    obtain ⟨g1, a1, a2, a3⟩ := m_set (M := M) (h := h) (o := o) (T := T) (F := F) ok 3 (show (8 : Int32) = nI 8 from rfl) (by decide)
    have e10 : nv g1 10 = numv (tw T) c := by rw [a2.2 10 (by decide), hv']
    have e8 : nv g1 8 = 3 := by rw [a3]; rfl
    rw [q_M_number_25, if_neg (nI_nlt (Nat.le_refl i) (by omega)), if_pos (by omega), q_M_number_85, m_good hg, Option.bind_some, h5]
    dsimp only
    rw [if_neg one_n0]
    by_cases z : w32 (T (c + i)) = 0
    · rw [if_pos z, if_pos (w32_eq0.mpr z), mS_g6, Option.bind_some, h6, m_fail hg, Option.bind_some]
      have hb : ¬ upd (upd o 7 2) 3 (nI (c + 1 + i) - 1) 7 = 0 := by rw [fl7]; decide
      obtain ⟨g1', a1', a2', a3'⟩ := m_set (M := M) (h := h) (o := upd (upd o 7 2) 3 (nI (c + 1 + i) - 1)) (T := T) (F := F) ok 3 (show (8 : Int32) = nI 8 from rfl) (by decide)
      obtain ⟨g2, b1, b2⟩ := m_n140b (M := M) (h := h) (T := T) (F := F) a2'.1 hb (nI c) (nI i) (T (c + i)) (nI i)
      rw [q_M_number_107, a1', Option.bind_some, m_bad hb, Option.bind_some]
      dsimp only
      rw [if_pos rfl, b1]
      exact Res.er (RB.mk rfl ((a2'.mono (by decide)).tr (b2.mono (by decide))) (fun _ _ => rfl) rfl (by rw [nI_sub1 (by omega)]; congr 1; omega))
    · rw [if_neg z, if_neg (fun q => z (w32_eq0.mp q)), q_M_number_107, a1, Option.bind_some, m_good hg, Option.bind_some]
      dsimp only
      rw [if_neg one_n0, m_order a2.1 (show (10 : Int32) = nI 10 from rfl) (show (8 : Int32) = nI 8 from rfl) (by decide) (by decide), Option.bind_some, e10, e8]
      dsimp only
      by_cases z2 : numv (tw T) c < 3
      · rw [if_pos z2, if_pos (ordI_lt.mpr z2), m_fail hg, Option.bind_some]
        have hb : ¬ upd (upd o 7 4) 3 (nI c) 7 = 0 := by rw [fl7]; decide
        obtain ⟨g2, b1, b2⟩ := m_n140b (M := M) (h := h) (T := T) (F := F) a2.1 hb (nI c) (nI i) (T (c + i)) (nI i)
        rw [b1]
        exact Res.er (RB.mk rfl ((a2.mono (by decide)).tr (b2.mono (by decide))) (fun _ _ => rfl) rfl rfl)
      · rw [if_neg z2, if_neg (fun q => z2 (ordI_lt.mp q))]
        obtain ⟨g2, b1, b2, b3⟩ := m_copy (M := M) (h := h) (o := o) (T := T) (F := F) a2.1 (show (10 : Int32) = nI 10 from rfl) (show (11 : Int32) = nI 11 from rfl) (by decide) (by decide) (by decide)
        have e21 : nv g2 21 = 1 := by rw [b2.2 21 (by decide), a2.2 21 (by decide), h21]
        obtain ⟨g3, c1, c2, c3⟩ := m_lower (M := M) (h := h) (o := o) (T := T) (F := F) b2.1 (show (11 : Int32) = nI 11 from rfl) (show (21 : Int32) = nI 21 from rfl) (by decide) (by decide) (by decide) (by rw [e21, b3, e10]; omega)
        refine Res.okk ⟨g3, ?_, ((a2.mono (by decide)).tr (b2.mono (by decide))).tr (c2.mono (by decide)), ?_, ?_⟩
        · rw [q_M_number_140, b1, Option.bind_some, m_good hg, Option.bind_some]
          dsimp only
          rw [if_neg one_n0, c1, Option.bind_some]
          have : upd o 6 (nI (c + 1 + i)) = o := by
            funext q
            by_cases e : q = 6
            · rw [e, pk_us, h6]
            · rw [pk_un e]
          rw [this]
          rfl
        · rw [c2.2 10 (by decide), b2.2 10 (by decide), e10]
        · rw [c3, b3, e21, e10]
  | d + 1, i, o, g, i3, e, ok, h21, hg, ha, hv, h3 => by
    generalize hr : dzRV (dzF 139 25 [(0, .ref M), (1, .int (nI c)), (2, .int (nI k)), (3, .int i3), (4, .int (nI i))] [] (0, 0) (mS h M o g T F)) = r
    rw [q_M_number_25, if_pos (nI_lt (a := i) (b := k) (by omega) (by omega)), m_good hg, Option.bind_some] at hr
    dsimp only at hr
    rw [if_neg one_n0] at hr
    by_cases h1 : c + 1 + i < s
    · rw [m_next hg ha h1, Option.bind_some] at hr
      dsimp only at hr
      obtain ⟨g1, a1, a2, a3⟩ := m_two (M := M) (h := h) (o := upd o 6 (nI (c + 1 + i + 1))) (T := T) (F := F) ok (i := i) (by omega) (T (c + 1 + i))
      have hv1 : nv g1 10 = pv 4294967296 (fun j => tw T (c + 1 + j)) (i + 1) := by
        rw [a3, putw_z (by rw [hv]; exact pv_lt (fun j _ => w32_lt _)), hv, pv_s]
      have ih := lp_mnum hk1 hk8 hkt d (i + 1) (i3 := T (c + 1 + i)) (by omega) a2.1 (by rw [a2.2 21 (by decide), h21]) (by rw [pk_un (by decide), hg]) (ha.up (e := c + 1 + i + 1) (by omega)) hv1 (fun _ => by congr 1; omega)
      have hr2 : r = dzRV (dzF 139 25 [(0, .ref M), (1, .int (nI c)), (2, .int (nI k)), (3, .int (T (c + 1 + i))), (4, .int (nI (i + 1)))] [] (0, 0) (mS h M (upd o 6 (nI (c + 1 + i + 1))) g1 T F)) := by
        rw [← hr, a1, nI_1 i]
      rw [← hr2] at ih
      revert ih
      split
      · split
        · exact fun ih => RB.after ih (a2.mono (by decide)) (ke_cur _)
        · split
          · exact fun ih => RB.after ih (a2.mono (by decide)) (ke_cur _)
          · rintro ⟨g', e1, e2, e3, e4⟩
            refine ⟨g', ?_, (a2.mono (by decide)).tr e2, e3, e4⟩
            rw [e1]
            congr 2
            funext q
            by_cases e : q = 6
            · rw [e, pk_us, pk_us]
            · rw [pk_un e, pk_un e, pk_un e]
      · exact fun ih => RB.after ih (a2.mono (by decide)) (ke_cur _)
    · rw [m_nextE hg ha h1, Option.bind_some] at hr
      dsimp only at hr
      obtain ⟨g1, a1, a2, a3⟩ := m_two (M := M) (h := h) (o := upd (upd o 7 1) 3 (nI s)) (T := T) (F := F) ok (i := i) (by omega) 0
      obtain ⟨g2, b1, b2⟩ := m_n25b (M := M) (h := h) (o := upd (upd o 7 1) 3 (nI s)) (T := T) (F := F) a2.1 (by rw [fl7]; decide) (nI c) (nI k) 0 (nI i + 1)
      have hr2 : r = some (mS h M (upd (upd o 7 1) 3 (nI s)) g2 T F) := by
        rw [← hr, ← b1, a1]
      rw [if_neg (by omega)]
      exact Res.er (RB.mk hr2 ((a2.mono (by decide)).tr (b2.mono (by decide))) (fun _ _ => rfl) rfl rfl)
theorem m_number (ok : okg g) (h21 : nv g 21 = 1) (hg : o 7 = 0) (ha : Mt o s c) : Res (rdNum (tw T) s c) (fun e => RB M h T F [8, 10, 11] o g e (c_M_number M (mS h M o g T F)))
    (fun y => ∃ g', c_M_number M (mS h M o g T F) = some (mS h M (upd o 6 (nI y.2)) g' T F) ∧ nK [8, 10, 11] g g' ∧ nv g' 10 = y.1 ∧ nv g' 11 = y.1 - 1) := by
  obtain ⟨fs, ho⟩ := mS_ob h M o g T F
  have h6 := ha.2.2.1
  generalize hr : c_M_number M (mS h M o g T F) = r
  rw [cc_M_number _ _ ho, q_M_number_0, mS_g6, Option.bind_some, h6] at hr
  unfold rdNum
  by_cases h1 : c < s
  · rw [if_pos h1]
    have hlt := lt_w (x := T c) (a := 1) (by decide)
    have hle := le_w (x := T c) (a := 8) (by decide)
    by_cases h2 : 1 ≤ w32 (T c) ∧ w32 (T c) ≤ 8
    · rw [if_pos h2]
      rw [m_nIn hg ha h1 (show ¬ T c < 1 from fun q => by have := hlt.mp q; omega) (show T c ≤ 8 from hle.mpr (Or.inl h2.2)), Option.bind_some] at hr
      dsimp only at hr
      obtain ⟨g1, a1, a2, a3⟩ := m_set (M := M) (h := h) (o := upd o 6 (nI (c + 1))) (T := T) (F := F) ok 0 (show (10 : Int32) = nI 10 from rfl) (by decide)
      rw [a1, Option.bind_some] at hr
      have ih := lp_mnum (M := M) (h := h) (F := F) (s := s) (c := c) h2.1 h2.2 rfl (w32 (T c)) 0 (o := upd o 6 (nI (c + 1))) (i3 := 1) (by omega) a2.1 (by rw [a2.2 21 (by decide), h21]) (by rw [pk_un (by decide), hg]) (ha.up (e := c + 1) (by omega)) (by rw [a3]; rfl) (fun z => by omega)
      rw [nI_0, nI_w32, hr] at ih
      revert ih
      split
      · split
        · exact fun ih => RB.after ih (a2.mono (by decide)) (ke_cur _)
        · split
          · exact fun ih => RB.after ih (a2.mono (by decide)) (ke_cur _)
          · rintro ⟨g', e1, e2, e3, e4⟩
            refine ⟨g', ?_, (a2.mono (by decide)).tr e2, e3, e4⟩
            rw [e1]
            congr 2
            funext q
            by_cases e : q = 6
            · rw [e, pk_us, pk_us]
            · rw [pk_un e, pk_un e, pk_un e]
      · exact fun ih => RB.after ih (a2.mono (by decide)) (ke_cur _)
    · rw [if_neg h2]
      have hB : T c < 1 ∨ ¬ T c ≤ 8 := by
        by_cases h3 : T c < 1
        · exact Or.inl h3
        · exact Or.inr (fun q => h3 (hlt.mpr (by have := hle.mp q; omega)))
      rw [m_nInB hg ha h1 hB, Option.bind_some] at hr
      dsimp only at hr
      obtain ⟨g1, a1, a2, a3⟩ := m_set (M := M) (h := h) (o := upd (upd (upd o 6 (nI (c + 1))) 7 2) 3 (nI c)) (T := T) (F := F) ok 0 (show (10 : Int32) = nI 10 from rfl) (by decide)
      rw [a1, Option.bind_some] at hr
      obtain ⟨g2, b1, b2⟩ := m_n25b (M := M) (h := h) (o := upd (upd (upd o 6 (nI (c + 1))) 7 2) 3 (nI c)) (T := T) (F := F) a2.1 (by rw [fl7]; decide) (nI c) (T c) 1 0
      rw [b1] at hr
      exact Res.er (RB.mk hr.symm ((a2.mono (by decide)).tr (b2.mono (by decide))) (ke_cur _) rfl rfl)
  · rw [if_neg h1]
    rw [m_nInE hg ha h1, Option.bind_some] at hr
    dsimp only at hr
    obtain ⟨g1, a1, a2, a3⟩ := m_set (M := M) (h := h) (o := upd (upd o 7 1) 3 (nI s)) (T := T) (F := F) ok 0 (show (10 : Int32) = nI 10 from rfl) (by decide)
    rw [a1, Option.bind_some] at hr
    obtain ⟨g2, b1, b2⟩ := m_n25b (M := M) (h := h) (o := upd (upd o 7 1) 3 (nI s)) (T := T) (F := F) a2.1 (by rw [fl7]; decide) (nI c) 0 1 0
    rw [b1] at hr
    exact Res.er (RB.mk hr.symm ((a2.mono (by decide)).tr (b2.mono (by decide))) (fun _ _ => rfl) rfl rfl)
-- a witness
theorem uN_pos {x : Int32} (hx : w32 x < 2147483648) : uN (Int32.toInt64 x) = w32 x := by rw [uN_i2l, if_pos (by omega)]
theorem uN_B8 (x : Int64) : uN x < B8 := by
  have := uN_lt x
  have h2 : (18446744073709551616 : Nat) = 4294967296 ^ 2 := rfl
  have h3 : (4294967296 : Nat) ^ 2 ≤ 4294967296 ^ 8 := Nat.pow_le_pow_right (by decide) (by decide)
  rw [B8_eq] at h3
  omega
theorem m_wit (ok : okg g) (hg : o 7 = 0) {p V : Nat} (hp : p < 4000) (hV : nv g 10 = V) : ∃ g', c_M_witness M (nI p) (mS h M o g T F) = some (mS h M (if isWit (tw T p) V then o else upd (upd o 7 8) 3 (nI p)) g' T F) ∧ nK [14] g g' := by
  obtain ⟨fs, ho⟩ := mS_ob h M o g T F
  obtain ⟨g1, a1, a2, a3⟩ := m_set (M := M) (h := h) (o := o) (T := T) (F := F) ok (Int32.toInt64 (T p)) (show (14 : Int32) = nI 14 from rfl) (by decide)
  refine ⟨g1, ?_, a2⟩
  have e10 : nv g1 10 = V := by rw [a2.2 10 (by decide), hV]
  have hlt := lt_w (x := T p) (a := 2) (by decide)
  rw [cc_M_witness _ _ _ ho, q_M_witness_0]
  simp only [mS_T, Option.bind_some, mS_rT hp, a1, q_M_witness_34, m_fail hg]
  by_cases h1 : T p < 2
  · have := hlt.mp h1
    rw [if_pos h1, if_neg (show ¬ isWit (tw T p) V from fun q => by have h2 := q.1; have h3 := q.2.1; have e : tw T p = w32 (T p) := rfl; omega)]
    rfl
  · have h2 : ¬ (w32 (T p) < 2 ∨ 2147483648 ≤ w32 (T p)) := fun q => h1 (hlt.mpr q)
    have e14 : nv g1 14 = w32 (T p) := by rw [a3, uN_pos (by omega)]
    rw [if_neg h1, m_order a2.1 (show (14 : Int32) = nI 14 from rfl) (show (10 : Int32) = nI 10 from rfl) (by decide) (by decide), Option.bind_some, e14, e10]
    dsimp only
    by_cases h3 : w32 (T p) < V
    · rw [if_pos (ordI_lt.mpr h3), if_pos (show isWit (w32 (T p)) V from ⟨by omega, by omega, h3⟩)]
      rfl
    · rw [if_neg (fun q => h3 (ordI_lt.mp q)), if_neg (show ¬ isWit (w32 (T p)) V from fun q => h3 q.2.2), m_fail hg]
      rfl
-- the factors
theorem m_f85b (hg : ¬ o 7 = 0) (i1 i2 i3 i4 : Int32) : dzRV (dzF 141 85 [(0, .ref M), (1, .int i1), (2, .int i2), (3, .int i3), (4, .int i4)] [] (0, 0) (mS h M o g T F)) = some (mS h M o g T F) := by
  have h10 : ∀ j : Int32, dzRV (dzF 141 10 [(0, .ref M), (1, .int i1), (2, .int i2), (3, .int j)] [] (0, 0) (mS h M o g T F)) = some (mS h M o g T F) := fun j => by
    rw [q_M_factors_10, m_bad hg, Option.bind_some]
    dsimp only
    rw [if_pos rfl]
    split <;> rfl
  rw [q_M_factors_85, m_nIn0 hg, Option.bind_some]
  dsimp only
  rw [m_next0 hg, Option.bind_some]
  dsimp only
  rw [q_M_factors_104]
  split <;> exact h10 _
theorem m_fac0 (hg : ¬ o 7 = 0) (i1 : Int32) : c_M_factors M i1 (mS h M o g T F) = some (mS h M o g T F) := by
  obtain ⟨fs, ho⟩ := mS_ob h M o g T F
  rw [cc_M_factors _ _ _ ho, q_M_factors_0, m_nIn0 hg, Option.bind_some]
  dsimp only
  rw [q_M_factors_10, if_neg (by decide)]
  rfl
theorem le_l {x : Int32} {l : Nat} (hl : l < 2147483648) (hx : ¬ x < 0) : x ≤ nI l - 1 ↔ w32 x < l := by
  have h0 : ¬ 2147483648 ≤ w32 x := fun q => hx (lt0_w.mpr q)
  rcases Nat.eq_zero_or_pos l with z | z
  · subst z
    refine ⟨fun q => ?_, fun q => by omega⟩
    exact absurd (Int32.lt_of_le_of_lt q (by decide)) hx
  · rw [nI_sub1 z, le_w (by omega)]
    omega
theorem lp_mfac (ok : okg g) {W m : Nat} (hm : m ≤ 40) (hW : W = 2 ∨ W = 3) (hl : l ≤ 199) {N : Nat → Nat} (hN : ∀ i, i < l → nv g (32 + i) = N i) : ∀ (d f : Nat) {o : Nat → Int32}, f + d = m → o 7 = 0 → o 4 = nI l → Mt o s (c + 1 + W * f) → (f = 0 ∨ tw T (c + 1 + W * (f - 1)) < l) →
    Res (rdFac (tw T) s N l W c d f) (fun e => RB M h T F [] o g e (dzRV (dzF 141 10 [(0, .ref M), (1, .int (nI W)), (2, .int (nI m)), (3, .int (nI f))] [] (0, 0) (mS h M o g T F))))
      (fun _ => dzRV (dzF 141 10 [(0, .ref M), (1, .int (nI W)), (2, .int (nI m)), (3, .int (nI f))] [] (0, 0) (mS h M o g T F)) = some (mS h M (upd o 6 (nI (c + 1 + W * m))) g T F))
  | 0, f, o, e, hg, h4, ha, hp => by
    have ef : f = m := by omega
    subst ef
    refine Res.okk ?_
    rw [q_M_factors_10, if_neg (nI_nlt (Nat.le_refl f) (by omega))]
    have : upd o 6 (nI (c + 1 + W * f)) = o := by
      funext q
      by_cases e : q = 6
      · rw [e, pk_us, ha.2.2.1]
      · rw [pk_un e]
    rw [this]
    rfl
  | d + 1, f, o, e, hg, h4, ha, hp => by
    generalize hr : dzRV (dzF 141 10 [(0, .ref M), (1, .int (nI W)), (2, .int (nI m)), (3, .int (nI f))] [] (0, 0) (mS h M o g T F)) = r
    rw [q_M_factors_10, if_pos (nI_lt (a := f) (b := m) (by omega) (by omega)), m_good hg, Option.bind_some] at hr
    dsimp only at hr
    rw [if_neg one_n0, mS_g4, Option.bind_some, h4] at hr
    have hs4 := ha.2.1
    rw [rdFac]
    by_cases h1 : c + 1 + W * f < s
    · rw [if_pos h1]
      by_cases h2 : tw T (c + 1 + W * f) < l
      · rw [if_pos h2]
        have h2' : w32 (T (c + 1 + W * f)) < l := h2
        have n0 : ¬ T (c + 1 + W * f) < 0 := fun q => by have := lt0_w.mp q; omega
        rw [m_nIn hg ha h1 n0 ((le_l (by omega) n0).mpr h2'), Option.bind_some] at hr
        dsimp only at hr
        have hg1 : upd o 6 (nI (c + 1 + W * f + 1)) 7 = 0 := by rw [pk_un (by decide), hg]
        rw [m_good hg1, Option.bind_some] at hr
        dsimp only at hr
        rw [if_neg one_n0] at hr
        have ha1 := ha.up (e := c + 1 + W * f + 1) (by omega)
        -- behind the order
        have tail : ∀ r : Option dzH, r = dzRV (dzF 141 85 [(0, .ref M), (1, .int (nI W)), (2, .int (nI m)), (3, .int (nI f)), (4, .int (T (c + 1 + W * f)))] [] (0, 0) (mS h M (upd o 6 (nI (c + 1 + W * f + 1))) g T F)) →
            Res (if c + 1 + W * f + 1 < s then if 1 ≤ tw T (c + 1 + W * f + 1) ∧ tw T (c + 1 + W * f + 1) ≤ 255 then if W = 2 ∨ c + 1 + W * f + 2 < s then rdFac (tw T) s N l W c d (f + 1) else .error (1, s) else .error (2, c + 1 + W * f + 1) else .error (1, s)) (fun e => RB M h T F [] o g e r) (fun _ => r = some (mS h M (upd o 6 (nI (c + 1 + W * m))) g T F)) := by
          intro r hr
          rw [q_M_factors_85] at hr
          by_cases h5 : c + 1 + W * f + 1 < s
          · rw [if_pos h5]
            have hlt := lt_w (x := T (c + 1 + W * f + 1)) (a := 1) (by decide)
            have hle := le_w (x := T (c + 1 + W * f + 1)) (a := 255) (by decide)
            by_cases h6 : 1 ≤ w32 (T (c + 1 + W * f + 1)) ∧ w32 (T (c + 1 + W * f + 1)) ≤ 255
            · rw [if_pos (show 1 ≤ tw T (c + 1 + W * f + 1) ∧ tw T (c + 1 + W * f + 1) ≤ 255 from h6)]
              rw [m_nIn hg1 ha1 h5 (show ¬ T (c + 1 + W * f + 1) < 1 from fun q => by have := hlt.mp q; omega) (show T (c + 1 + W * f + 1) ≤ 255 from hle.mpr (Or.inl h6.2)), Option.bind_some] at hr
              dsimp only at hr
              have hg2 : upd (upd o 6 (nI (c + 1 + W * f + 1))) 6 (nI (c + 1 + W * f + 1 + 1)) 7 = 0 := by rw [pk_un (by decide), hg1]
              have ha2 := ha1.up (e := c + 1 + W * f + 1 + 1) (by omega)
              have fin : ∀ (o2 : Nat → Int32) (r : Option dzH), o2 7 = 0 → Mt o2 s (c + 1 + W * (f + 1)) → keL [6] o o2 → r = dzRV (dzF 141 104 [(0, .ref M), (1, .int (nI W)), (2, .int (nI m)), (3, .int (nI f)), (4, .int (T (c + 1 + W * f)))] [] (0, 0) (mS h M o2 g T F)) →
                  Res (rdFac (tw T) s N l W c d (f + 1)) (fun e => RB M h T F [] o g e r) (fun _ => r = some (mS h M (upd o 6 (nI (c + 1 + W * m))) g T F)) := by
                intro o2 r hg2 ha2 hke hr
                rw [q_M_factors_104, nI_1] at hr
                have ih := lp_mfac ok hm hW hl hN d (f + 1) (o := o2) (by omega) hg2 (by rw [hke 4 (by decide), h4]) ha2 (Or.inr h2)
                rw [← hr] at ih
                revert ih
                cases rdFac (tw T) s N l W c d (f + 1) with
                | error e => exact fun ih => RB.after ih (nK.rf ok _) (hke.mono (by decide))
                | ok u =>
                  intro ih
                  show r = _
                  rw [show r = some (mS h M (upd o2 6 (nI (c + 1 + W * m))) g T F) from ih]
                  congr 2
                  funext q
                  by_cases e : q = 6
                  · rw [e, pk_us, pk_us]
                  · rw [pk_un e, pk_un e, hke q (fun z => e (List.mem_singleton.mp z))]
              have ke1 : keL [6] o (upd (upd o 6 (nI (c + 1 + W * f + 1))) 6 (nI (c + 1 + W * f + 1 + 1))) := fun q hq => by rw [pk_un (fun z => hq (by rw [z]; decide)), pk_un (fun z => hq (by rw [z]; decide))]
              rcases hW with e | e
              · subst e
                rw [if_pos (Or.inl rfl)]
                rw [if_neg (by decide)] at hr
                exact fin _ _ hg2 (by rw [show c + 1 + 2 * (f + 1) = c + 1 + 2 * f + 1 + 1 by omega]; exact ha2) ke1 hr
              · subst e
                rw [if_pos (show nI 3 = 3 from rfl)] at hr
                by_cases h7 : c + 1 + 3 * f + 2 < s
                · rw [if_pos (Or.inr h7)]
                  rw [m_next hg2 ha2 h7, Option.bind_some] at hr
                  have ha3 := ha2.up (e := c + 1 + 3 * f + 1 + 1 + 1) (by omega)
                  exact fin _ _ (by rw [pk_un (by decide), hg2]) (by rw [show c + 1 + 3 * (f + 1) = c + 1 + 3 * f + 1 + 1 + 1 by omega]; exact ha3) (fun q hq => by rw [pk_un (fun z => hq (by rw [z]; decide)), ke1 q hq]) hr
                · rw [if_neg (fun q => by rcases q with q | q; exact absurd q (by decide); exact h7 q)]
                  rw [m_nextE hg2 ha2 h7, Option.bind_some] at hr
                  dsimp only at hr
                  rw [q_M_factors_104] at hr
                  have hb : ¬ upd (upd (upd (upd o 6 (nI (c + 1 + 3 * f + 1))) 6 (nI (c + 1 + 3 * f + 1 + 1))) 7 1) 3 (nI s) 7 = 0 := by rw [fl7]; decide
                  rw [q_M_factors_10, m_bad hb, Option.bind_some] at hr
                  dsimp only at hr
                  rw [if_pos rfl] at hr
                  refine Res.er (RB.mk (r := r) ?_ (nK.rf ok _) (ke1.mono (by decide)) rfl rfl)
                  rw [hr]
                  split <;> rfl
            · rw [if_neg (show ¬ (1 ≤ tw T (c + 1 + W * f + 1) ∧ tw T (c + 1 + W * f + 1) ≤ 255) from h6)]
              have hB : T (c + 1 + W * f + 1) < 1 ∨ ¬ T (c + 1 + W * f + 1) ≤ 255 := by
                by_cases h3 : T (c + 1 + W * f + 1) < 1
                · exact Or.inl h3
                · exact Or.inr (fun q => h3 (hlt.mpr (by have := hle.mp q; omega)))
              rw [m_nInB hg1 ha1 h5 hB, Option.bind_some] at hr
              dsimp only at hr
              have hb : ¬ upd (upd (upd (upd o 6 (nI (c + 1 + W * f + 1))) 6 (nI (c + 1 + W * f + 1 + 1))) 7 2) 3 (nI (c + 1 + W * f + 1)) 7 = 0 := by rw [fl7]; decide
              rw [m_next0 hb, Option.bind_some] at hr
              dsimp only at hr
              rw [q_M_factors_104, q_M_factors_10, m_bad hb, Option.bind_some] at hr
              dsimp only at hr
              rw [if_pos rfl] at hr
              refine Res.er (RB.mk (r := r) (o1 := upd (upd o 6 (nI (c + 1 + W * f + 1))) 6 (nI (c + 1 + W * f + 1 + 1))) ?_ (nK.rf ok _) ((ke_cur _).tr (ke_cur _)) rfl rfl)
              rw [hr]
              split <;> split <;> rfl
          · rw [if_neg h5]
            rw [m_nInE hg1 ha1 h5, Option.bind_some] at hr
            dsimp only at hr
            have hb : ¬ upd (upd (upd o 6 (nI (c + 1 + W * f + 1))) 7 1) 3 (nI s) 7 = 0 := by rw [fl7]; decide
            rw [m_next0 hb, Option.bind_some] at hr
            dsimp only at hr
            rw [q_M_factors_104, q_M_factors_10, m_bad hb, Option.bind_some] at hr
            dsimp only at hr
            rw [if_pos rfl] at hr
            refine Res.er (RB.mk (r := r) (o1 := upd o 6 (nI (c + 1 + W * f + 1))) ?_ (nK.rf ok _) (ke_cur _) rfl rfl)
            rw [hr]
            split <;> split <;> rfl
        by_cases h3 : f = 0
        · rw [if_pos (Or.inl h3)]
          rw [if_pos (by rw [h3]; decide)] at hr
          exact tail r hr.symm
        · have hpl : w32 (T (c + 1 + W * (f - 1))) < l := by rcases hp with z | z; exact absurd z h3; exact z
          have hcur : nI (c + 1 + W * f + 1) - 1 - nI W = nI (c + 1 + W * (f - 1)) := by
            have e1 : W * f = W * (f - 1) + W := by
              obtain ⟨f', rfl⟩ : ∃ f', f = f' + 1 := ⟨f - 1, by omega⟩
              rw [Nat.add_sub_cancel, Nat.mul_add, Nat.mul_one]
            rw [nI_pred, pk_sub (by omega)]
            congr 1
            omega
          rw [if_neg (nI_nle (by omega) (by omega)), mS_T, Option.bind_some, mS_g6, Option.bind_some, pk_us, hcur, mS_rT (by have : W * (f - 1) ≤ W * f := Nat.mul_le_mul_left _ (by omega); omega), Option.bind_some, m_order ok (x := 32 + w32 (T (c + 1 + W * (f - 1)))) (y := 32 + w32 (T (c + 1 + W * f))) (by rw [show (32 : Int32) = nI 32 from rfl, ← nI_add, nI_w32]) (by rw [show (32 : Int32) = nI 32 from rfl, ← nI_add, nI_w32]) (by omega) (by omega), Option.bind_some, hN _ hpl, hN _ h2'] at hr
          dsimp only at hr
          by_cases h5 : N (tw T (c + 1 + W * (f - 1))) < N (tw T (c + 1 + W * f))
          · rw [if_pos (Or.inr h5)]
            rw [if_pos (ordI_lt.mpr (show N (w32 (T (c + 1 + W * (f - 1)))) < N (w32 (T (c + 1 + W * f))) from h5))] at hr
            exact tail r hr.symm
          · rw [if_neg (fun q => by rcases q with q | q; exact h3 q; exact h5 q)]
            rw [if_neg (fun q => h5 (ordI_lt.mp q)), mS_g6, Option.bind_some, pk_us, nI_pred, m_fail hg1, Option.bind_some, m_f85b (by rw [fl7]; decide)] at hr
            exact Res.er (RB.mk hr.symm (nK.rf ok _) (ke_cur _) rfl rfl)
      · rw [if_neg h2]
        have hB : T (c + 1 + W * f) < 0 ∨ ¬ T (c + 1 + W * f) ≤ nI l - 1 := by
          by_cases h3 : T (c + 1 + W * f) < 0
          · exact Or.inl h3
          · exact Or.inr (fun q => h2 ((le_l (by omega) h3).mp q))
        rw [m_nInB hg ha h1 hB, Option.bind_some] at hr
        dsimp only at hr
        have hb : ¬ upd (upd (upd o 6 (nI (c + 1 + W * f + 1))) 7 2) 3 (nI (c + 1 + W * f)) 7 = 0 := by rw [fl7]; decide
        rw [m_bad hb, Option.bind_some] at hr
        dsimp only at hr
        rw [if_pos rfl, m_f85b hb] at hr
        exact Res.er (RB.mk hr.symm (nK.rf ok _) (ke_cur _) rfl rfl)
    · rw [if_neg h1]
      rw [m_nInE hg ha h1, Option.bind_some] at hr
      dsimp only at hr
      have hb : ¬ upd (upd o 7 1) 3 (nI s) 7 = 0 := by rw [fl7]; decide
      rw [m_bad hb, Option.bind_some] at hr
      dsimp only at hr
      rw [if_pos rfl, m_f85b hb] at hr
      exact Res.er (RB.mk hr.symm (nK.rf ok _) (fun _ _ => rfl) rfl rfl)
theorem m_facs (ok : okg g) {W : Nat} (hW : W = 2 ∨ W = 3) (hl : l ≤ 199) {N : Nat → Nat} (hN : ∀ i, i < l → nv g (32 + i) = N i) (hg : o 7 = 0) (h4 : o 4 = nI l) (ha : Mt o s c) :
    Res (rdFacs (tw T) s N l W c) (fun e => RB M h T F [] o g e (c_M_factors M (nI W) (mS h M o g T F))) (fun _ => c_M_factors M (nI W) (mS h M o g T F) = some (mS h M (upd o 6 (nI (c + 1 + W * w32 (T c)))) g T F)) := by
  obtain ⟨fs, ho⟩ := mS_ob h M o g T F
  generalize hr : c_M_factors M (nI W) (mS h M o g T F) = r
  rw [cc_M_factors _ _ _ ho, q_M_factors_0] at hr
  unfold rdFacs
  by_cases h1 : c < s
  · rw [if_pos h1]
    have hlt := lt_w (x := T c) (a := 1) (by decide)
    have hle := le_w (x := T c) (a := 40) (by decide)
    by_cases h2 : 1 ≤ w32 (T c) ∧ w32 (T c) ≤ 40
    · rw [if_pos (show 1 ≤ tw T c ∧ tw T c ≤ 40 from h2)]
      rw [m_nIn hg ha h1 (show ¬ T c < 1 from fun q => by have := hlt.mp q; omega) (show T c ≤ 40 from hle.mpr (Or.inl h2.2)), Option.bind_some] at hr
      dsimp only at hr
      have ih := lp_mfac (M := M) (h := h) (T := T) (F := F) (s := s) (c := c) ok (m := w32 (T c)) h2.2 hW hl hN (w32 (T c)) 0 (o := upd o 6 (nI (c + 1))) (by omega) (by rw [pk_un (by decide), hg]) (by rw [pk_un (by decide), h4]) (ha.up (e := c + 1) (by omega)) (Or.inl rfl)
      rw [nI_0, nI_w32, hr] at ih
      revert ih
      show Res (rdFac (tw T) s N l W c (w32 (T c)) 0) _ _ → Res (rdFac (tw T) s N l W c (w32 (T c)) 0) _ _
      cases rdFac (tw T) s N l W c (w32 (T c)) 0 with
      | error e => exact fun ih => RB.after ih (nK.rf ok _) (ke_cur _)
      | ok u =>
        intro ih
        show r = _
        rw [show r = _ from ih]
        congr 2
        funext q
        by_cases e : q = 6
        · rw [e, pk_us, pk_us]
        · rw [pk_un e, pk_un e, pk_un e]
    · rw [if_neg (show ¬ (1 ≤ tw T c ∧ tw T c ≤ 40) from h2)]
      have hB : T c < 1 ∨ ¬ T c ≤ 40 := by
        by_cases h3 : T c < 1
        · exact Or.inl h3
        · exact Or.inr (fun q => h3 (hlt.mpr (by have := hle.mp q; omega)))
      rw [m_nInB hg ha h1 hB, Option.bind_some] at hr
      dsimp only at hr
      have hb : ¬ upd (upd (upd o 6 (nI (c + 1))) 7 2) 3 (nI c) 7 = 0 := by rw [fl7]; decide
      rw [q_M_factors_10, m_bad hb, Option.bind_some] at hr
      dsimp only at hr
      rw [if_pos rfl] at hr
      refine Res.er (RB.mk (r := r) (o1 := upd o 6 (nI (c + 1))) ?_ (nK.rf ok _) (ke_cur _) rfl rfl)
      rw [← hr]
      split <;> rfl
  · rw [if_neg h1]
    rw [m_nInE hg ha h1, Option.bind_some] at hr
    dsimp only at hr
    rw [q_M_factors_10, if_neg (by decide)] at hr
    exact Res.er (RB.mk hr.symm (nK.rf ok _) (fun _ _ => rfl) rfl rfl)
end
