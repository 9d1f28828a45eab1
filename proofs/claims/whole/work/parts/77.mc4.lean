/-! the reference's checker: lines of kind 3, the check -/
theorem tWit_ok {t : Nat → Nat} {V c : Nat} : ∀ {k f : Nat}, tWit t V c k f = .ok () → ∀ j, f ≤ j → j < f + k → isWit (t (c + 1 + 3 * j + 2)) V
  | 0, f, _, j, h1, h2 => by omega
  | k + 1, f, h, j, h1, h2 => by
    unfold tWit at h
    split at h
    · rename_i h3
      by_cases e : j = f
      · subst e; exact h3
      · exact tWit_ok h j (by omega) (by omega)
    · cases h
theorem numv_lt {T : Nat → Int32} {c : Nat} (h : w32 (T c) ≤ 8) : numv (tw T) c < B8 := by
  refine Nat.lt_of_lt_of_le (pv_lt (fun i _ => w32_lt _)) ?_
  rw [← B8_eq]
  exact Nat.pow_le_pow_right (by decide) h
theorem rdLine_lt {T : Nat → Int32} {s : Nat} {N : Nat → Nat} {l c : Nat} {y : Nat × Nat} (h : rdLine (tw T) s N l c = .ok y) : y.1 < B8 := by
  obtain ⟨V, e⟩ := y
  unfold rdLine at h
  split at h
  · obtain ⟨a1, a2, a3, a4, a5⟩ := rdSm_ok h
    have h1 : (4294967296 : Nat) ^ 1 ≤ 4294967296 ^ 8 := Nat.pow_le_pow_right (by decide) (by decide)
    rw [B8_eq, Nat.pow_one] at h1
    show V < B8
    omega
  · split at h
    · obtain ⟨c1, b1, -⟩ := rd2_ok h
      obtain ⟨d1, d2, d3, d4, d5, d6, d7, d8⟩ := rdNum_ok b1
      show V < B8
      rw [d7]
      exact numv_lt d3
    · split at h
      · obtain ⟨c1, b1, -⟩ := rd3_ok h
        obtain ⟨d1, d2, d3, d4, d5, d6, d7, d8⟩ := rdNum_ok b1
        show V < B8
        rw [d7]
        exact numv_lt d3
      · cases h
section
variable {M : Nat} {h : dzH} {o : Nat → Int32} {g : Nat → Nat} {T : Nat → Int32} {F : Nat → Nat → Int32} {s c l W m V : Nat} {N : Nat → Nat}
theorem m3_234 (ok : okg g) (hl : l ≤ 199) (h4 : o 4 = nI l) (i1 i2 : Int32) : ∃ g', dzRV (dzF 146 234 [(0, .ref M), (1, .int i1), (2, .int i2)] [] (0, 0) (mS h M o g T F)) = some (mS h M o g' T F) ∧ nL l g g' ∧ nv g' (32 + l) = nv g 10 := by
  obtain ⟨g1, a1, a2, a3⟩ := m_copy (M := M) (h := h) (o := o) (T := T) (F := F) ok (show (10 : Int32) = nI 10 from rfl) (i32l l) (by decide) (by omega) (by omega)
  refine ⟨g1, ?_, nL.ln a2, a3⟩
  rw [q_M_lineThree_234, mS_g4, Option.bind_some, h4, a1]
  rfl
theorem m3_136b (ok : okg g) (hl : l ≤ 199) (h4 : o 4 = nI l) (hg : ¬ o 7 = 0) (hc : c < 4000) (i2 : Int32) : ∃ g', dzRV (dzF 146 136 [(0, .ref M), (1, .int (nI c)), (2, .int i2)] [] (0, 0) (mS h M o g T F)) = some (mS h M o g' T F) ∧ nL l g g' := by
  obtain ⟨g1, a1, a2, a3⟩ := m3_234 (M := M) (h := h) (T := T) (F := F) ok hl h4 (nI c) i2
  refine ⟨g1, ?_, a2⟩
  rw [q_M_lineThree_136, mS_T, Option.bind_some, mS_rT hc, Option.bind_some, m_bad hg, Option.bind_some]
  dsimp only
  rw [if_pos rfl]
  split <;> exact a1
theorem m3_100b (ok : okg g) (hl : l ≤ 199) (h4 : o 4 = nI l) (hg : ¬ o 7 = 0) (hc : c < 4000) (i2 : Int32) : ∃ g', dzRV (dzF 146 100 [(0, .ref M), (1, .int (nI c)), (2, .int i2)] [] (0, 0) (mS h M o g T F)) = some (mS h M o g' T F) ∧ nL l g g' := by
  obtain ⟨g1, a1, a2⟩ := m3_136b (M := M) (h := h) (T := T) (F := F) ok hl h4 hg hc 0
  refine ⟨g1, ?_, a2⟩
  rw [q_M_lineThree_100, mS_T, Option.bind_some, mS_rT hc, Option.bind_some, m_bad hg, Option.bind_some]
  dsimp only
  rw [if_pos rfl, q_M_lineThree_134]
  split <;> exact a1
theorem m3_70b (ok : okg g) (hl : l ≤ 199) (h4 : o 4 = nI l) (hg : ¬ o 7 = 0) (hc : c < 4000) (h13 : nv g 13 < B8) : ∃ g', dzRV (dzF 146 70 [(0, .ref M), (1, .int (nI c))] [] (0, 0) (mS h M o g T F)) = some (mS h M o g' T F) ∧ nL l g g' := by
  obtain ⟨g1, a1, a2, a3⟩ := m_times (M := M) (h := h) (o := o) (T := T) (F := F) ok (show (13 : Int32) = nI 13 from rfl) (show (13 : Int32) = nI 13 from rfl) (show (8 : Int32) = nI 8 from rfl) (by decide) (by decide) (by decide) (by decide) (by decide) h13 h13
  obtain ⟨g2, b1, b2⟩ := m3_100b (M := M) (h := h) (T := T) (F := F) a2.1 hl h4 hg hc 0
  refine ⟨g2, ?_, (nL.of a2 (by decide)).tr b2⟩
  rw [q_M_lineThree_70, a1, Option.bind_some, m_order a2.1 (show (8 : Int32) = nI 8 from rfl) (show (10 : Int32) = nI 10 from rfl) (by decide) (by decide), Option.bind_some]
  dsimp only
  rw [m_fail0 hg, Option.bind_some, q_M_lineThree_98]
  split <;> exact b1
theorem lp_m136 (hl : l ≤ 199) (h3V : 3 ≤ V) (hVB : V < B8) (hw : ∀ j, j < m → isWit (w32 (T (c + 1 + 3 * j + 2))) V) : ∀ (d f : Nat) {o : Nat → Int32} {g : Nat → Nat}, f + d = m → FM T 3 c m l s N g → nv g 21 = 1 → nv g 10 = V → nv g 11 = V - 1 → o 4 = nI l → o 7 = 0 →
    Res (tPart (tw T) N V c d f) (fun e => RL M h T F l o g e (dzRV (dzF 146 136 [(0, .ref M), (1, .int (nI c)), (2, .int (nI f))] [] (0, 0) (mS h M o g T F))))
      (fun _ => ∃ g', dzRV (dzF 146 136 [(0, .ref M), (1, .int (nI c)), (2, .int (nI f))] [] (0, 0) (mS h M o g T F)) = some (mS h M o g' T F) ∧ nL l g g' ∧ nv g' (32 + l) = V)
  | 0, f, o, g, e, fm, h21, h10, h11, h4, hg => by
    have hm40 := fm.2.2.1
    obtain ⟨g1, a1, a2, a3⟩ := m3_234 (M := M) (h := h) (o := o) (T := T) (F := F) fm.1 hl h4 (nI c) (nI f)
    refine Res.okk ⟨g1, ?_, a2, by rw [a3, h10]⟩
    rw [q_M_lineThree_136, mS_T, Option.bind_some, mS_rT fm.inc, Option.bind_some, ← nI_w32 (T c), ← fm.2.1, if_neg (nI_nlt (by omega) (by omega)), a1]
  | d + 1, f, o, g, e, fm, h21, h10, h11, h4, hg => by
    have hm40 := fm.2.2.1
    have hin := fm.in (j := f) (by omega)
    obtain ⟨q1, q2, q3, q4⟩ := fm.q (j := f) (by omega)
    have hwf := hw f (by omega)
    have haB : w32 (T (c + 1 + 3 * f + 2)) < B8 := Nat.lt_trans hwf.2.2 hVB
    obtain ⟨g0, z1, z2, z3⟩ := m_set (M := M) (h := h) (o := o) (T := T) (F := F) fm.1 (Int32.toInt64 (T (c + 1 + 3 * f + 2))) (show (14 : Int32) = nI 14 from rfl) (by decide)
    rw [uN_pos hwf.2.1] at z3
    have y21 : nv g0 21 = 1 := by rw [z2.2 21 (by decide), h21]
    have y10 : nv g0 10 = V := by rw [z2.2 10 (by decide), h10]
    have y11 : nv g0 11 = V - 1 := by rw [z2.2 11 (by decide), h11]
    obtain ⟨g1, a1, a2⟩ := m_isWhole (M := M) (h := h) (o := o) (T := T) (F := F) z2.1 y21 y10 (by omega) hVB y11 z3 haB
    have kL1 : nL l g g1 := (nL.of z2 (by decide)).tr (nL.of a2 (by decide))
    have fm1 := (fm.up z2 (by decide)).up a2 (by decide)
    obtain ⟨p1, p2, p3, p4⟩ := fm1.q (j := f) (by omega)
    have x21 : nv g1 21 = 1 := by rw [a2.2 21 (by decide), y21]
    have x10 : nv g1 10 = V := by rw [a2.2 10 (by decide), y10]
    have x11 : nv g1 11 = V - 1 := by rw [a2.2 11 (by decide), y11]
    have x14 : nv g1 14 = w32 (T (c + 1 + 3 * f + 2)) := by rw [a2.2 14 (by decide), z3]
    obtain ⟨g2, b1, b2⟩ := m_isRightT (M := M) (h := h) (o := o) (T := T) (F := F) a2.1 x21 x10 (by omega) hVB x11 x14 haB p1 p2 p3
    rw [nI_w32] at b1
    have kL2 : nL l g g2 := kL1.tr (nL.of b2 (by decide))
    generalize hr : dzRV (dzF 146 136 [(0, .ref M), (1, .int (nI c)), (2, .int (nI f))] [] (0, 0) (mS h M o g T F)) = r
    rw [q_M_lineThree_136, mS_T, Option.bind_some, mS_rT fm.inc, Option.bind_some, ← nI_w32 (T c), ← fm.2.1, if_pos (nI_lt (by omega) (by omega)), m_good hg, Option.bind_some] at hr
    dsimp only at hr
    have i3 : nI c + 3 + 3 * nI f = nI (c + 1 + 3 * f + 2) := ix_3 c 3 f
    have i1 : nI c + 1 + 3 * nI f = nI (c + 1 + 3 * f) := ix_1 c 3 f
    rw [if_neg one_n0, mS_T, Option.bind_some, i3, i1, mS_rT (by omega), Option.bind_some, z1, Option.bind_some, a1, Option.bind_some] at hr
    dsimp only at hr
    unfold tPart
    by_cases hq : w32 (T (c + 1 + 3 * f + 2)) ^ (V - 1) % V = 1
    · rw [if_pos (show tw T (c + 1 + 3 * f + 2) ^ (V - 1) % V = 1 from hq)]
      rw [decide_eq_true hq, if_neg bI_n1, mS_T, Option.bind_some, mS_rT (by omega), Option.bind_some, b1, Option.bind_some] at hr
      dsimp only at hr
      by_cases hG : Nat.gcd (pvn (w32 (T (c + 1 + 3 * f + 2))) (N (w32 (T (c + 1 + 3 * f)))) V) V = 1
      · rw [if_pos (show Nat.gcd (pvn (tw T (c + 1 + 3 * f + 2)) (N (tw T (c + 1 + 3 * f))) V) V = 1 from hG)]
        rw [decide_eq_true hG, if_neg bI_n1, q_M_lineThree_228, nI_1] at hr
        have ih := lp_m136 hl h3V hVB hw d (f + 1) (o := o) (by omega) (fm1.up b2 (by decide)) (by rw [b2.2 21 (by decide), x21]) (by rw [b2.2 10 (by decide), x10]) (by rw [b2.2 11 (by decide), x11]) h4 hg
        rw [hr] at ih
        revert ih
        cases tPart (tw T) N V c d (f + 1) with
        | error e => exact fun ih => RL.after ih kL2 (fun _ _ => rfl)
        | ok u =>
          rintro ⟨g', e1, e2, e3⟩
          exact ⟨g', e1, kL2.tr e2, e3⟩
      · rw [if_neg (show ¬ Nat.gcd (pvn (tw T (c + 1 + 3 * f + 2)) (N (tw T (c + 1 + 3 * f))) V) V = 1 from hG)]
        rw [decide_eq_false hG, if_pos bI_f, m_fail hg, Option.bind_some, q_M_lineThree_228] at hr
        obtain ⟨g3, d1, d2⟩ := m3_136b (M := M) (h := h) (o := upd (upd o 7 10) 3 (nI (c + 1 + 3 * f))) (T := T) (F := F) b2.1 hl (by rw [pk_un (by decide), pk_un (by decide), h4]) (by rw [fl7]; decide) fm.inc (nI f + 1)
        rw [d1] at hr
        exact Res.er ⟨_, g3, hr.symm, kL2.tr d2, ke_fail _ _, fl7, fl3⟩
    · rw [if_neg (show ¬ tw T (c + 1 + 3 * f + 2) ^ (V - 1) % V = 1 from hq)]
      rw [decide_eq_false hq, if_pos bI_f, m_fail hg, Option.bind_some, q_M_lineThree_228] at hr
      obtain ⟨g3, d1, d2⟩ := m3_136b (M := M) (h := h) (o := upd (upd o 7 9) 3 (nI (c + 1 + 3 * f + 2))) (T := T) (F := F) a2.1 hl (by rw [pk_un (by decide), pk_un (by decide), h4]) (by rw [fl7]; decide) fm.inc (nI f + 1)
      rw [d1] at hr
      exact Res.er ⟨_, g3, hr.symm, kL1.tr d2, ke_fail _ _, fl7, fl3⟩
theorem lp_m100 (hl : l ≤ 199) : ∀ (d f : Nat) {o : Nat → Int32} {g : Nat → Nat}, f + d = m → FM T 3 c m l s N g → nv g 10 = V → o 4 = nI l → o 7 = 0 →
    Res (tWit (tw T) V c d f) (fun e => RL M h T F l o g e (dzRV (dzF 146 100 [(0, .ref M), (1, .int (nI c)), (2, .int (nI f))] [] (0, 0) (mS h M o g T F))))
      (fun _ => ∃ g', dzF 146 100 [(0, .ref M), (1, .int (nI c)), (2, .int (nI f))] [] (0, 0) (mS h M o g T F) = dzF 146 136 [(0, .ref M), (1, .int (nI c)), (2, .int 0)] [] (0, 0) (mS h M o g' T F) ∧ nK [14] g g')
  | 0, f, o, g, e, fm, h10, h4, hg => by
    have hm40 := fm.2.2.1
    refine Res.okk ⟨g, ?_, nK.rf fm.1 _⟩
    rw [q_M_lineThree_100, mS_T, Option.bind_some, mS_rT fm.inc, Option.bind_some, ← nI_w32 (T c), ← fm.2.1, if_neg (nI_nlt (by omega) (by omega)), q_M_lineThree_134]
  | d + 1, f, o, g, e, fm, h10, h4, hg => by
    have hm40 := fm.2.2.1
    have hin := fm.in (j := f) (by omega)
    obtain ⟨g1, a1, a2⟩ := m_wit (M := M) (h := h) (o := o) (T := T) (F := F) fm.1 hg (p := c + 1 + 3 * f + 2) (by omega) h10
    generalize hr : dzF 146 100 [(0, .ref M), (1, .int (nI c)), (2, .int (nI f))] [] (0, 0) (mS h M o g T F) = r
    rw [q_M_lineThree_100, mS_T, Option.bind_some, mS_rT fm.inc, Option.bind_some, ← nI_w32 (T c), ← fm.2.1, if_pos (nI_lt (by omega) (by omega)), m_good hg, Option.bind_some] at hr
    dsimp only at hr
    have i3 : nI c + 3 + 3 * nI f = nI (c + 1 + 3 * f + 2) := ix_3 c 3 f
    rw [if_neg one_n0, i3, a1, Option.bind_some, nI_1] at hr
    unfold tWit
    by_cases hq : isWit (tw T (c + 1 + 3 * f + 2)) V
    · rw [if_pos hq]
      rw [if_pos hq] at hr
      have ih := lp_m100 hl d (f + 1) (o := o) (by omega) (fm.up a2 (by decide)) (by rw [a2.2 10 (by decide), h10]) h4 hg
      rw [hr] at ih
      revert ih
      cases tWit (tw T) V c d (f + 1) with
      | error e => exact fun ih => RL.after ih (nL.of a2 (by decide)) (fun _ _ => rfl)
      | ok u =>
        rintro ⟨g', e1, e2⟩
        exact ⟨g', e1, a2.tr e2⟩
    · rw [if_neg hq]
      rw [if_neg hq] at hr
      obtain ⟨g3, d1, d2⟩ := m3_100b (M := M) (h := h) (o := upd (upd o 7 8) 3 (nI (c + 1 + 3 * f + 2))) (T := T) (F := F) a2.1 hl (by rw [pk_un (by decide), pk_un (by decide), h4]) (by rw [fl7]; decide) fm.inc (nI (f + 1))
      rw [hr] at d1
      exact Res.er ⟨_, g3, d1, (nL.of a2 (by decide)).tr d2, ke_fail _ _, fl7, fl3⟩
theorem m3_98 (hl : l ≤ 199) (h3V : 3 ≤ V) (hVB : V < B8) (fm : FM T 3 c m l s N g) (h21 : nv g 21 = 1) (h10 : nv g 10 = V) (h11 : nv g 11 = V - 1) (h4 : o 4 = nI l) (hg : o 7 = 0) :
    Res (twp (tw T) N V c m) (fun e => RL M h T F l o g e (dzRV (dzF 146 98 [(0, .ref M), (1, .int (nI c))] [] (0, 0) (mS h M o g T F))))
      (fun _ => ∃ g', dzRV (dzF 146 98 [(0, .ref M), (1, .int (nI c))] [] (0, 0) (mS h M o g T F)) = some (mS h M o g' T F) ∧ nL l g g' ∧ nv g' (32 + l) = V) := by
  have h1 := lp_m100 (M := M) (h := h) (F := F) hl m 0 (o := o) (Nat.zero_add m) fm h10 h4 hg
  rw [nI_0] at h1
  rw [q_M_lineThree_98]
  unfold twp
  cases hx : tWit (tw T) V c m 0 with
  | error e =>
    rw [hx] at h1
    exact Res.er h1
  | ok u =>
    rw [hx] at h1
    obtain ⟨g1, a1, a2⟩ := h1
    have hw := tWit_ok (show tWit (tw T) V c m 0 = .ok () from hx)
    rw [a1]
    have ih := lp_m136 (M := M) (h := h) (F := F) hl h3V hVB (fun j hj => hw j (by omega) (by omega)) m 0 (o := o) (Nat.zero_add m) (fm.up a2 (by decide)) (by rw [a2.2 21 (by decide), h21]) (by rw [a2.2 10 (by decide), h10]) (by rw [a2.2 11 (by decide), h11]) h4 hg
    rw [nI_0] at ih
    dsimp only
    revert ih
    cases tPart (tw T) N V c m 0 with
    | error e => exact fun ih => RL.after ih (nL.of a2 (by decide)) (fun _ _ => rfl)
    | ok u =>
      rintro ⟨g', e1, e2, e3⟩
      exact ⟨g', e1, (nL.of a2 (by decide)).tr e2, e3⟩
theorem m_three (ok : okg g) (h21 : nv g 21 = 1) (hl : l ≤ 199) (hN : ∀ i, i < l → nv g (32 + i) = N i ∧ 1 ≤ N i ∧ N i < B8) (h4 : o 4 = nI l) (hg : o 7 = 0) (ha : Mt o s c) :
    Res (rd3 (tw T) s N l c) (fun e => RL M h T F l o g e (c_M_lineThree M (mS h M o g T F))) (fun y => ∃ g', c_M_lineThree M (mS h M o g T F) = some (mS h M (upd o 6 (nI y.2)) g' T F) ∧ nL l g g' ∧ nv g' (32 + l) = y.1) := by
  obtain ⟨fs, ho⟩ := mS_ob h M o g T F
  have nm := m_number (M := M) (h := h) (T := T) (F := F) ok h21 hg ha
  have hs4 := ha.2.1
  generalize hr : c_M_lineThree M (mS h M o g T F) = r
  rw [cc_M_lineThree _ _ ho, q_M_lineThree_0] at hr
  unfold rd3
  cases hx : rdNum (tw T) s c with
  | error e =>
    rw [hx] at nm
    obtain ⟨o', g', b1, b2, b3, b4, b5⟩ := nm
    have hb := er_n0 (rdNum_er hx) b4
    rw [b1, Option.bind_some, mS_g6, Option.bind_some, m_fac0 hb, Option.bind_some, m_bad hb, Option.bind_some] at hr
    dsimp only at hr
    rw [if_pos rfl] at hr
    exact Res.er ⟨o', g', hr.symm, nL.of b2 (by decide), b3, b4, b5⟩
  | ok y =>
    obtain ⟨V, c1⟩ := y
    rw [hx] at nm
    obtain ⟨g1, b1, b2, b3, b4⟩ := nm
    obtain ⟨n1, n2, n3, n4, n5, n6, n7, n8⟩ := rdNum_ok hx
    dsimp only at b1 b3 b4 ⊢
    have hVB : V < B8 := by rw [n7]; exact numv_lt n3
    have hg1 : upd o 6 (nI c1) 7 = 0 := by rw [pk_un (by decide), hg]
    have ha1 := ha.up (e := c1) (by omega)
    have k1 : nL l g g1 := nL.of b2 (by decide)
    rw [b1, Option.bind_some, mS_g6, Option.bind_some, pk_us] at hr
    have hN1 : ∀ i, i < l → nv g1 (32 + i) = N i ∧ 1 ≤ N i ∧ N i < B8 := fun i hi => by
      rw [k1.2 (32 + i) (by simp; omega) (by omega)]
      exact hN i hi
    have fc := m_facs (M := M) (h := h) (T := T) (F := F) (s := s) (c := c1) b2.1 (W := 3) (Or.inr rfl) hl (N := N) (fun i hi => (hN1 i hi).1) hg1 (by rw [pk_un (by decide), h4]) ha1
    cases hz : rdFacs (tw T) s N l 3 c1 with
    | error e =>
      rw [hz] at fc
      obtain ⟨o', g', d1, d2, d3, d4, d5⟩ := fc
      have hb := er_n0 (rdFacs_er hz) d4
      rw [show (3 : Int32) = nI 3 from rfl, d1, Option.bind_some, m_bad hb] at hr
      exact Res.er ⟨o', g', hr.symm, k1.tr (nL.of d2 (by simp)), (ke_cur _).tr d3, d4, d5⟩
    | ok u =>
      rw [hz] at fc
      have fc' : c_M_factors M (nI 3) (mS h M (upd o 6 (nI c1)) g1 T F) = _ := fc
      obtain ⟨f1, f2, f3, f4⟩ := rdFacs_ok (Or.inr rfl) hz
      dsimp only
      have eo : upd (upd o 6 (nI c1)) 6 (nI (c1 + 1 + 3 * w32 (T c1))) = upd o 6 (nI (c1 + 1 + 3 * w32 (T c1))) := by
        funext q
        by_cases e : q = 6
        · rw [e, pk_us, pk_us]
        · rw [pk_un e, pk_un e, pk_un e]
      rw [eo] at fc'
      have hg3 : upd o 6 (nI (c1 + 1 + 3 * w32 (T c1))) 7 = 0 := by rw [pk_un (by decide), hg]
      have h43 : upd o 6 (nI (c1 + 1 + 3 * w32 (T c1))) 4 = nI l := by rw [pk_un (by decide), h4]
      have ke3 : keL [3, 6, 7] o (upd o 6 (nI (c1 + 1 + 3 * w32 (T c1)))) := ke_cur _
      rw [show (3 : Int32) = nI 3 from rfl, fc', Option.bind_some, m_good hg3, Option.bind_some] at hr
      dsimp only at hr
      have fm : FM T 3 c1 (w32 (T c1)) l s N g1 := ⟨b2.1, rfl, f2, hl, f3, hs4, fun j hj => ⟨(f4 j hj).1, (f4 j hj).2.2.2⟩, hN1⟩
      obtain ⟨g3, p1, p2, p3, p4⟩ := m_prod (M := M) (h := h) (o := upd o 6 (nI (c1 + 1 + 3 * w32 (T c1)))) (F := F) fm (Or.inr rfl)
      have k3 : nL l g g3 := k1.tr (nL.of p1 (by decide))
      have e10 : nv g3 10 = V := by rw [p1.2 10 (by decide), b3]
      have e11 : nv g3 11 = V - 1 := by rw [p1.2 11 (by decide), b4]
      have e21 : nv g3 21 = 1 := by rw [k3.2 21 (by decide) (by omega), h21]
      rw [if_neg one_n0, p3, Option.bind_some] at hr
      dsimp only at hr
      have fail6 : ∀ g4, nL l g g4 → nv g4 13 < B8 → nv g4 16 ≠ 0 → r = dzRV (dzF 146 54 [(0, .ref M), (1, .int (nI c1))] [] (0, 0) (mS h M (upd o 6 (nI (c1 + 1 + 3 * w32 (T c1)))) g4 T F)) → RL M h T F l o g (6, c1) r := by
        intro g4 k4 h13 h16 hr
        rw [q_M_lineThree_54, m_isZero k4.1 (show (16 : Int32) = nI 16 from rfl) (by decide), Option.bind_some, decide_eq_false h16] at hr
        dsimp only at hr
        rw [if_pos bI_f, m_fail hg3, Option.bind_some] at hr
        obtain ⟨g5, q1, q2⟩ := m3_70b (M := M) (h := h) (o := upd (upd (upd o 6 (nI (c1 + 1 + 3 * w32 (T c1)))) 7 6) 3 (nI c1)) (T := T) (F := F) k4.1 hl (by rw [pk_un (by decide), pk_un (by decide), h43]) (by rw [fl7]; decide) (c := c1) fm.inc h13
        rw [q1] at hr
        exact ⟨_, g5, hr, k4.tr q2, ke3.tr (ke_fail _ _), fl7, fl3⟩
      rw [ts3_pr]
      unfold prT
      rw [if_neg (by decide)]
      show Res (match (match (match mulF (tw T) N 3 c1 (w32 (T c1)) 0 1 with
          | none => .error (6, c1)
          | some P => if (V - 1) % P = 0 then if V < P * P then .ok () else .error (7, c1) else .error (6, c1) : rU) with
        | .error e => .error e
        | .ok _ => twp (tw T) N V c1 (w32 (T c1)) : rU) with
        | .error e => .error e
        | .ok _ => .ok (V, c1 + 1 + 3 * w32 (T c1))) _ _
      cases hm : mulF (tw T) N 3 c1 (w32 (T c1)) 0 1 with
      | none =>
        rw [hm] at hr
        obtain ⟨g4, q1, q2, q3⟩ := m_copy (M := M) (h := h) (o := upd o 6 (nI (c1 + 1 + 3 * w32 (T c1)))) (T := T) (F := F) p1.1 (show (21 : Int32) = nI 21 from rfl) (show (16 : Int32) = nI 16 from rfl) (by decide) (by decide) (by decide)
        rw [if_pos (show bI (none : Option Nat).isSome = 0 from bI_f), q1, Option.bind_some] at hr
        exact Res.er (fail6 g4 (k3.tr (nL.of q2 (by decide))) (by rw [q2.2 13 (by decide)]; exact p2) (by rw [q3, e21]; decide) hr.symm)
      | some P =>
        have hP := p4 P hm
        have hP0 : 0 < P := mulF_pos (fun j hj => (fm.q hj).2.2.1) hm
        rw [hm] at hr
        obtain ⟨g4, q1, q2, q3, q4⟩ := m_part (M := M) (h := h) (o := upd o 6 (nI (c1 + 1 + 3 * w32 (T c1)))) (T := T) (F := F) p1.1 (show (11 : Int32) = nI 11 from rfl) (show (13 : Int32) = nI 13 from rfl) (show (15 : Int32) = nI 15 from rfl) (show (16 : Int32) = nI 16 from rfl) (by decide) (by decide) (by decide) (by decide) (by decide) (by decide) (by decide) (by decide) (by decide) (by rw [hP]; exact hP0) (by rw [e11]; omega)
        rw [e11, hP] at q4
        have k4 : nL l g g4 := k3.tr (nL.of q2 (by decide))
        have e13 : nv g4 13 = P := by rw [q2.2 13 (by decide), hP]
        have h13 : nv g4 13 < B8 := by rw [q2.2 13 (by decide)]; exact p2
        rw [if_neg (show ¬ bI (some P).isSome = 0 from bI_n1), q1, Option.bind_some] at hr
        dsimp only
        by_cases hd : (V - 1) % P = 0
        · rw [if_pos hd]
          rw [q_M_lineThree_54, m_isZero k4.1 (show (16 : Int32) = nI 16 from rfl) (by decide), Option.bind_some, decide_eq_true (by rw [q4]; exact hd)] at hr
          dsimp only at hr
          rw [if_neg bI_n1, q_M_lineThree_70] at hr
          obtain ⟨g5, r1, r2, r3⟩ := m_times (M := M) (h := h) (o := upd o 6 (nI (c1 + 1 + 3 * w32 (T c1)))) (T := T) (F := F) k4.1 (show (13 : Int32) = nI 13 from rfl) (show (13 : Int32) = nI 13 from rfl) (show (8 : Int32) = nI 8 from rfl) (by decide) (by decide) (by decide) (by decide) (by decide) h13 h13
          rw [e13] at r3
          have k5 : nL l g g5 := k4.tr (nL.of r2 (by decide))
          have x10 : nv g5 10 = V := by rw [r2.2 10 (by decide), q2.2 10 (by decide), e10]
          have x11 : nv g5 11 = V - 1 := by rw [r2.2 11 (by decide), q2.2 11 (by decide), e11]
          have x21 : nv g5 21 = 1 := by rw [k5.2 21 (by decide) (by omega), h21]
          rw [r1, Option.bind_some, m_order r2.1 (show (8 : Int32) = nI 8 from rfl) (show (10 : Int32) = nI 10 from rfl) (by decide) (by decide), Option.bind_some, r3, x10] at hr
          dsimp only at hr
          by_cases hq : V < P * P
          · rw [if_pos hq]
            rw [if_neg (fun q => by have := ordI_le.mp q; omega)] at hr
            have t := m3_98 (M := M) (h := h) (F := F) hl (by omega) hVB (((fm.up p1 (by decide)).up q2 (by decide)).up r2 (by decide)) x21 x10 x11 h43 hg3
            rw [hr] at t
            dsimp only
            revert t
            cases twp (tw T) N V c1 (w32 (T c1)) with
            | error e => exact fun t => RL.after t k5 ke3
            | ok u =>
              rintro ⟨g', e1, e2, e3⟩
              exact ⟨g', e1, k5.tr e2, e3⟩
          · rw [if_neg hq]
            rw [if_pos (ordI_le.mpr (by omega)), m_fail hg3, Option.bind_some, q_M_lineThree_98] at hr
            obtain ⟨g6, t1, t2⟩ := m3_100b (M := M) (h := h) (o := upd (upd (upd o 6 (nI (c1 + 1 + 3 * w32 (T c1)))) 7 7) 3 (nI c1)) (T := T) (F := F) r2.1 hl (by rw [pk_un (by decide), pk_un (by decide), h43]) (by rw [fl7]; decide) (c := c1) fm.inc 0
            rw [t1] at hr
            exact Res.er ⟨_, g6, hr.symm, k5.tr t2, ke3.tr (ke_fail _ _), fl7, fl3⟩
        · rw [if_neg hd]
          exact Res.er (fail6 g4 k4 h13 (by rw [q4]; exact hd) hr.symm)
-- the check
theorem m_128b (hg : ¬ o 7 = 0) : dzRI (dzF 147 128 [(0, .ref M)] [] (0, 0) (mS h M o g T F)) = some (-100 - o 7, mS h M o g T F) := by
  rw [q_M_check_128, m_bad hg, Option.bind_some]
  dsimp only
  rw [if_pos rfl, mS_g7]
  rfl
theorem m_26b (hg : ¬ o 7 = 0) : dzRI (dzF 147 26 [(0, .ref M)] [] (0, 0) (mS h M o g T F)) = some (-100 - o 7, mS h M o g T F) := by
  rw [q_M_check_26, m_bad hg, Option.bind_some]
  dsimp only
  rw [if_pos rfl, m_128b hg]
def MBad (M : Nat) (h : dzH) (T : Nat → Int32) (F : Nat → Nat → Int32) (o : Nat → Int32) (g : Nat → Nat) (e : Nat × Nat) (r : Option (Int32 × dzH)) : Prop :=
  ∃ o' g', r = some (-100 - nI e.1, mS h M o' g' T F) ∧ okg g' ∧ nv g' 21 = 1 ∧ (∀ x, x < 8 → nv g' x = nv g x) ∧ keL [3, 4, 6, 7] o o' ∧ o' 3 = nI e.2
def MOk (M : Nat) (h : dzH) (T : Nat → Int32) (F : Nat → Nat → Int32) (o : Nat → Int32) (g : Nat → Nat) (y : Nat × (Nat → Nat)) (r : Option (Int32 × dzH)) : Prop :=
  ∃ o' g', r = some (nI y.1, mS h M o' g' T F) ∧ okg g' ∧ nv g' 21 = 1 ∧ (∀ x, x < 8 → nv g' x = nv g x) ∧ keL [4, 5, 6] o o' ∧ o' 4 = nI y.1 ∧ o' 5 = nI y.1 ∧ y.1 ≤ 200 ∧ ∀ i, i < y.1 → nv g' (32 + i) = y.2 i
theorem lp_mchk : ∀ (k l : Nat) {c : Nat} {o : Nat → Int32} {g N : Nat → Nat}, l + k = 200 → okg g → nv g 21 = 1 → o 7 = 0 → o 4 = nI l → Mt o s c → (∀ i, i < l → nv g (32 + i) = N i ∧ npP (N i) ∧ N i < B8) →
    Res (chkF (tw T) s (k + 1) l c N) (fun e => MBad M h T F o g e (dzRI (dzF 147 26 [(0, .ref M)] [] (0, 0) (mS h M o g T F)))) (fun y => MOk M h T F o g y (dzRI (dzF 147 26 [(0, .ref M)] [] (0, 0) (mS h M o g T F))))
  | k, l, c, o, g, N, hk, ok, h21, hg, h4, ha, hN => by
    have hs4 := ha.2.1
    obtain ⟨h2, -, h6, hcs⟩ := ha
    generalize hr : dzRI (dzF 147 26 [(0, .ref M)] [] (0, 0) (mS h M o g T F)) = r
    rw [q_M_check_26, m_good hg, Option.bind_some] at hr
    dsimp only at hr
    rw [if_neg one_n0, mS_g6, Option.bind_some, mS_g2, Option.bind_some, h6, h2] at hr
    unfold chkF
    by_cases hc : c < s
    · rw [if_pos hc]
      rw [if_pos (nI_lt hc (by omega)), mS_g4, Option.bind_some, h4] at hr
      by_cases hl : l < 200
      · rw [if_pos hl]
        obtain ⟨k', rfl⟩ : ∃ k', k = k' + 1 := ⟨k - 1, by omega⟩
        rw [if_neg (show ¬ nI l = 200 from fun q => by have := (nI_eq (b := 200) (by omega) (by decide)).mp q; omega), q_M_check_63] at hr
        have hlt := lt_w (x := T c) (a := 1) (by decide)
        have hle := le_w (x := T c) (a := 3) (by decide)
        -- behind a line
        have next : ∀ {y : Nat × Nat} {g1 : Nat → Nat}, rdLine (tw T) s N l c = .ok y → nL l g g1 → nv g1 (32 + l) = y.1 → r = dzRI (dzF 147 108 [(0, .ref M), (1, .int (T c))] [] (0, 0) (mS h M (upd (upd o 6 (nI (c + 1))) 6 (nI y.2)) g1 T F)) →
            Res (match rdLine (tw T) s N l c with | .error e => .error e | .ok y => chkF (tw T) s (k' + 1) (l + 1) y.2 (gu N l y.1)) (fun e => MBad M h T F o g e r) (fun y => MOk M h T F o g y r) := by
          intro y g1 hx kL hV hr
          have hpr : npP y.1 := prime_line (V := y.1) (e := y.2) (fun i hi => (hN i hi).2.1) hx
          have hB := rdLine_lt hx
          have hyle : y.2 ≤ s := by
            have := rdLine_loc (t' := tw T) (s' := y.2) (N' := N) (V := y.1) (e := y.2) hx (fun _ _ => rfl) (Nat.le_refl _) (fun _ _ => rfl)
            exact this.2.1
          have hg2 : upd (upd o 6 (nI (c + 1))) 6 (nI y.2) 7 = 0 := by rw [pk_un (by decide), pk_un (by decide), hg]
          rw [q_M_check_108, m_good hg2, Option.bind_some] at hr
          dsimp only at hr
          rw [if_neg one_n0, mS_g4, Option.bind_some, pk_un (by decide), pk_un (by decide), h4, nI_1, mS_p4, Option.bind_some, q_M_check_125] at hr
          have ih := lp_mchk k' (l + 1) (c := y.2) (o := upd (upd (upd o 6 (nI (c + 1))) 6 (nI y.2)) 4 (nI (l + 1))) (g := g1) (N := gu N l y.1) (by omega) kL.1 (by rw [kL.2 21 (by decide) (by omega), h21]) (by rw [pk_un (by decide), hg2]) pk_us ⟨by rw [pk_un (by decide), pk_un (by decide), pk_un (by decide), h2], hs4, by rw [pk_un (by decide), pk_us], hyle⟩ (fun i hi => by
            by_cases e : i = l
            · rw [e, gu_s]
              exact ⟨hV, hpr, hB⟩
            · rw [gu_n e, kL.2 (32 + i) (by simp; omega) (by omega)]
              exact hN i (by omega))
          rw [← hr] at ih
          have ke : keL [4, 6] o (upd (upd (upd o 6 (nI (c + 1))) 6 (nI y.2)) 4 (nI (l + 1))) := fun q hq => by rw [pk_un (fun z => hq (by rw [z]; decide)), pk_un (fun z => hq (by rw [z]; decide)), pk_un (fun z => hq (by rw [z]; decide))]
          rw [hx]
          show Res (chkF (tw T) s (k' + 1) (l + 1) y.2 (gu N l y.1)) _ _
          revert ih
          cases chkF (tw T) s (k' + 1) (l + 1) y.2 (gu N l y.1) with
          | error e =>
            rintro ⟨o', g', e1, e2, e3, e4, e5, e6⟩
            exact ⟨o', g', e1, e2, e3, fun x hx => by rw [e4 x hx, kL.2 x (by simp; omega) (by omega)], (ke.mono (by decide)).tr e5, e6⟩
          | ok z =>
            rintro ⟨o', g', e1, e2, e3, e4, e5, e6⟩
            exact ⟨o', g', e1, e2, e3, fun x hx => by rw [e4 x hx, kL.2 x (by simp; omega) (by omega)], (ke.mono (by decide)).tr e5, e6⟩
        have stop : ∀ {e : Nat × Nat} {r0 : Option dzH}, rdLine (tw T) s N l c = .error e → RL M h T F l (upd o 6 (nI (c + 1))) g e r0 → r = dzRI (r0.bind fun h3 => dzF 147 108 [(0, .ref M), (1, .int (T c))] [] (0, 0) h3) →
            Res (match rdLine (tw T) s N l c with | .error e => .error e | .ok y => chkF (tw T) s (k' + 1) (l + 1) y.2 (gu N l y.1)) (fun e => MBad M h T F o g e r) (fun y => MOk M h T F o g y r) := by
          intro e r0 hx hb hr
          obtain ⟨o', g', b1, b2, b3, b4, b5⟩ := hb
          have hb7 := er_n0 (rdLine_er hx) b4
          rw [b1, Option.bind_some, q_M_check_108, m_bad hb7, Option.bind_some] at hr
          dsimp only at hr
          rw [if_pos rfl, q_M_check_125, m_26b hb7, b4] at hr
          rw [hx]
          exact Res.er ⟨o', g', hr, b2.1, by rw [b2.2 21 (by decide) (by omega), h21], fun x hx => b2.2 x (by simp; omega) (by omega), ((ke_cur _).tr b3).mono (by decide), b5⟩
        by_cases t123 : 1 ≤ w32 (T c) ∧ w32 (T c) ≤ 3
        · have hg1 : upd o 6 (nI (c + 1)) 7 = 0 := by rw [pk_un (by decide), hg]
          have h41 : upd o 6 (nI (c + 1)) 4 = nI l := by rw [pk_un (by decide), h4]
          have ha0 : Mt o s c := ⟨h2, hs4, h6, hcs⟩
          have ha1 := ha0.up (e := c + 1) (by omega)
          have hN1 : ∀ i, i < l → nv g (32 + i) = N i ∧ 1 ≤ N i ∧ N i < B8 := fun i hi => ⟨(hN i hi).1, by have := (hN i hi).2.1.1; omega, (hN i hi).2.2⟩
          rw [m_nIn hg ha0 hc (show ¬ T c < 1 from fun q => by have := hlt.mp q; omega) (show T c ≤ 3 from hle.mpr (Or.inl t123.2)), Option.bind_some] at hr
          dsimp only at hr
          rw [m_good hg1, Option.bind_some] at hr
          dsimp only at hr
          rw [if_neg one_n0] at hr
          by_cases t1 : w32 (T c) = 1
          · rw [if_pos (show T c = 1 from (eq_w (x := T c) (a := 1) (by decide)).mpr t1)] at hr
            have ln := m_one (M := M) (h := h) (o := upd o 6 (nI (c + 1))) (T := T) (F := F) (s := s) (c := c + 1) ok (l := l) (by omega) h41 hg1 ha1
            cases hx : rdSm (tw T) s (c + 1) with
            | error e =>
              rw [hx] at ln
              exact stop (by rw [rdLine_1 (show tw T c = 1 from t1), hx]) ln hr.symm
            | ok y =>
              rw [hx] at ln
              obtain ⟨g1, a1, a2, a3⟩ := ln
              rw [a1, Option.bind_some] at hr
              exact next (by rw [rdLine_1 (show tw T c = 1 from t1), hx]) a2 a3 hr.symm
          · rw [if_neg (show ¬ T c = 1 from fun q => t1 ((eq_w (x := T c) (a := 1) (by decide)).mp q))] at hr
            by_cases t2 : w32 (T c) = 2
            · rw [if_pos (show T c = 2 from (eq_w (x := T c) (a := 2) (by decide)).mpr t2)] at hr
              have ln := m_two2 (M := M) (h := h) (o := upd o 6 (nI (c + 1))) (T := T) (F := F) (s := s) (c := c + 1) ok h21 (l := l) (by omega) hN1 h41 hg1 ha1
              have el : rdLine (tw T) s N l c = rd2 (tw T) s N l (c + 1) := by
                unfold rdLine
                rw [if_neg (show ¬ tw T c = 1 from t1), if_pos (show tw T c = 2 from t2)]
              cases hx : rd2 (tw T) s N l (c + 1) with
              | error e =>
                rw [hx] at ln
                exact stop (by rw [el, hx]) ln hr.symm
              | ok y =>
                rw [hx] at ln
                obtain ⟨g1, a1, a2, a3⟩ := ln
                rw [a1, Option.bind_some] at hr
                exact next (by rw [el, hx]) a2 a3 hr.symm
            · rw [if_neg (show ¬ T c = 2 from fun q => t2 ((eq_w (x := T c) (a := 2) (by decide)).mp q))] at hr
              have t3 : w32 (T c) = 3 := by omega
              have ln := m_three (M := M) (h := h) (o := upd o 6 (nI (c + 1))) (T := T) (F := F) (s := s) (c := c + 1) ok h21 (l := l) (by omega) hN1 h41 hg1 ha1
              have el : rdLine (tw T) s N l c = rd3 (tw T) s N l (c + 1) := by
                unfold rdLine
                rw [if_neg (show ¬ tw T c = 1 from t1), if_neg (show ¬ tw T c = 2 from t2), if_pos (show tw T c = 3 from t3)]
              cases hx : rd3 (tw T) s N l (c + 1) with
              | error e =>
                rw [hx] at ln
                exact stop (by rw [el, hx]) ln hr.symm
              | ok y =>
                rw [hx] at ln
                obtain ⟨g1, a1, a2, a3⟩ := ln
                rw [a1, Option.bind_some] at hr
                exact next (by rw [el, hx]) a2 a3 hr.symm
        · have hB : T c < 1 ∨ ¬ T c ≤ 3 := by
            by_cases h3 : T c < 1
            · exact Or.inl h3
            · exact Or.inr (fun q => h3 (hlt.mpr (by have := hle.mp q; omega)))
          rw [m_nInB hg ⟨h2, hs4, h6, hcs⟩ hc hB, Option.bind_some] at hr
          dsimp only at hr
          have hb : ¬ upd (upd (upd o 6 (nI (c + 1))) 7 2) 3 (nI c) 7 = 0 := by rw [fl7]; decide
          rw [m_bad hb, Option.bind_some] at hr
          dsimp only at hr
          rw [if_pos rfl, m_26b hb, fl7] at hr
          rw [rdLine_0 (t := tw T) (fun q => t123 (by have e : tw T c = w32 (T c) := rfl; omega)) (fun q => t123 (by have e : tw T c = w32 (T c) := rfl; omega)) (fun q => t123 (by have e : tw T c = w32 (T c) := rfl; omega))]
          exact Res.er ⟨_, g, hr.symm, ok, h21, fun _ _ => rfl, ((ke_cur _).tr (ke_fail _ _)).mono (by decide), fl3⟩
      · rw [if_neg hl]
        have el : l = 200 := by omega
        subst el
        rw [if_pos (show nI 200 = 200 from rfl), Option.bind_some, m_fail hg, Option.bind_some, q_M_check_63] at hr
        have hb : ¬ upd (upd o 7 2) 3 (nI c) 7 = 0 := by rw [fl7]; decide
        rw [m_nIn0 hb, Option.bind_some] at hr
        dsimp only at hr
        rw [m_bad hb, Option.bind_some] at hr
        dsimp only at hr
        rw [if_pos rfl, m_26b hb, fl7] at hr
        exact Res.er ⟨_, g, hr.symm, ok, h21, fun _ _ => rfl, (ke_fail _ _).mono (by decide), fl3⟩
    · rw [if_neg hc]
      rw [if_neg (nI_nlt (by omega) (by omega)), q_M_check_128, m_good hg, Option.bind_some] at hr
      dsimp only at hr
      rw [if_neg one_n0, mS_g4, Option.bind_some, mS_p5, Option.bind_some, mS_g4, Option.bind_some, pk_un (by decide), h4] at hr
      exact Res.okk ⟨_, g, hr.symm, ok, h21, fun _ _ => rfl, fun q hq => pk_un (fun z => hq (by rw [z]; decide)), by rw [pk_un (by decide), h4], pk_us, by show l ≤ 200; omega, fun i hi => (hN i hi).1⟩
theorem m_check (ok : okg g) (h21 : nv g 21 = 1) (h2 : o 2 = nI s) (hs4 : s ≤ 4000) (N : Nat → Nat) :
    Res (chkF (tw T) s 201 0 0 N) (fun e => ∃ o' g', c_M_check M (mS h M o g T F) = some (-100 - nI e.1, mS h M o' g' T F) ∧ okg g' ∧ nv g' 21 = 1 ∧ (∀ x, x < 8 → nv g' x = nv g x) ∧ o' 2 = o 2 ∧ o' 5 = 0 ∧ o' 3 = nI e.2)
      (fun y => ∃ o' g', c_M_check M (mS h M o g T F) = some (nI y.1, mS h M o' g' T F) ∧ okg g' ∧ nv g' 21 = 1 ∧ (∀ x, x < 8 → nv g' x = nv g x) ∧ o' 2 = o 2 ∧ o' 4 = nI y.1 ∧ o' 5 = nI y.1 ∧ o' 3 = -2 ∧ y.1 ≤ 200 ∧ ∀ i, i < y.1 → nv g' (32 + i) = y.2 i) := by
  obtain ⟨fs, ho⟩ := mS_ob h M o g T F
  have e0 : c_M_check M (mS h M o g T F) = dzRI (dzF 147 26 [(0, .ref M)] [] (0, 0) (mS h M (upd (upd (upd (upd (upd o 5 0) 3 (-2)) 7 0) 6 0) 4 0) g T F)) := by
    rw [cc_M_check _ _ ho, q_M_check_0, mS_p5, Option.bind_some, mS_p3, Option.bind_some, mS_p7, Option.bind_some, mS_p6, Option.bind_some, mS_p4, Option.bind_some]
  rw [e0]
  have main := lp_mchk (M := M) (h := h) (T := T) (F := F) (s := s) 200 0 (c := 0) (o := upd (upd (upd (upd (upd o 5 0) 3 (-2)) 7 0) 6 0) 4 0) (g := g) (N := N) rfl ok h21 (by rw [pk_un (by decide), pk_un (by decide), pk_us]) pk_us ⟨by rw [pk_un (by decide), pk_un (by decide), pk_un (by decide), pk_un (by decide), pk_un (by decide), h2], hs4, by rw [pk_un (by decide), pk_us]; rfl, Nat.zero_le _⟩ (fun i hi => by omega)
  revert main
  show Res (chkF (tw T) s 201 0 0 N) _ _ → _
  cases chkF (tw T) s 201 0 0 N with
  | error e =>
    rintro ⟨o', g', e1, e2, e3, e4, e5, e6⟩
    refine ⟨o', g', e1, e2, e3, e4, ?_, ?_, e6⟩
    · rw [e5 2 (by decide), pk_un (by decide), pk_un (by decide), pk_un (by decide), pk_un (by decide), pk_un (by decide)]
    · rw [e5 5 (by decide), pk_un (by decide), pk_un (by decide), pk_un (by decide), pk_un (by decide), pk_us]
  | ok y =>
    rintro ⟨o', g', e1, e2, e3, e4, e5, e6, e7, e8⟩
    refine ⟨o', g', e1, e2, e3, e4, ?_, e6, e7, ?_, e8⟩
    · rw [e5 2 (by decide), pk_un (by decide), pk_un (by decide), pk_un (by decide), pk_un (by decide), pk_un (by decide)]
    · rw [e5 3 (by decide), pk_un (by decide), pk_un (by decide), pk_un (by decide), pk_us]
end
