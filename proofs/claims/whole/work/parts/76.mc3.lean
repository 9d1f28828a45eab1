/-! the reference's checker: lines -/
abbrev L1 : List Nat := [8, 10, 11, 13, 14, 15, 16, 17, 18, 19, 22]
def nL (l : Nat) (g g' : Nat → Nat) : Prop := okg g' ∧ ∀ x, x ∉ L1 → x ≠ 32 + l → nv g' x = nv g x
theorem nL.of {l : Nat} {L : List Nat} {g g' : Nat → Nat} (k : nK L g g') (h : ∀ x, x ∈ L → x ∈ L1) : nL l g g' := ⟨k.1, fun x hx _ => k.2 x (fun z => hx (h x z))⟩
theorem nL.tr {l : Nat} {g g1 g2 : Nat → Nat} (a : nL l g g1) (b : nL l g1 g2) : nL l g g2 := ⟨b.1, fun x h1 h2 => (b.2 x h1 h2).trans (a.2 x h1 h2)⟩
theorem nL.ln {l : Nat} {g g' : Nat → Nat} (k : nK [32 + l] g g') : nL l g g' := ⟨k.1, fun x _ h2 => k.2 x (fun z => h2 (List.mem_singleton.mp z))⟩
def RL (M : Nat) (h : dzH) (T : Nat → Int32) (F : Nat → Nat → Int32) (l : Nat) (o : Nat → Int32) (g : Nat → Nat) (e : Nat × Nat) (r : Option dzH) : Prop := ∃ o' g', r = some (mS h M o' g' T F) ∧ nL l g g' ∧ keL [3, 6, 7] o o' ∧ o' 7 = nI e.1 ∧ o' 3 = nI e.2
/-- the factors of a line, as the reference looks at them -/
def FM (T : Nat → Int32) (W c m l s : Nat) (N : Nat → Nat) (g : Nat → Nat) : Prop :=
  okg g ∧ m = w32 (T c) ∧ m ≤ 40 ∧ l ≤ 199 ∧ c + 1 + W * m ≤ s ∧ s ≤ 4000 ∧ (∀ j, j < m → w32 (T (c + 1 + W * j)) < l ∧ w32 (T (c + 1 + W * j + 1)) ≤ 255) ∧ (∀ i, i < l → nv g (32 + i) = N i ∧ 1 ≤ N i ∧ N i < B8)
section
variable {M : Nat} {h : dzH} {o : Nat → Int32} {g : Nat → Nat} {T : Nat → Int32} {F : Nat → Nat → Int32} {s c l W m V : Nat} {N : Nat → Nat}
theorem FM.up {g1 : Nat → Nat} (f : FM T W c m l s N g) {L : List Nat} (k : nK L g g1) (hL : ∀ x, x ∈ L → x < 32) : FM T W c m l s N g1 := by
  obtain ⟨f1, f2, f3, f4, f5, f6, f7, f8⟩ := f
  exact ⟨k.1, f2, f3, f4, f5, f6, f7, fun i hi => by rw [k.2 (32 + i) (fun z => by have := hL _ z; omega)]; exact f8 i hi⟩
theorem FM.q (f : FM T W c m l s N g) {j : Nat} (hj : j < m) : w32 (T (c + 1 + W * j)) < 200 ∧ nv g (32 + w32 (T (c + 1 + W * j))) = N (w32 (T (c + 1 + W * j))) ∧ 1 ≤ N (w32 (T (c + 1 + W * j))) ∧ N (w32 (T (c + 1 + W * j))) < B8 := by
  obtain ⟨f1, f2, f3, f4, f5, f6, f7, f8⟩ := f
  have := (f7 j hj).1
  exact ⟨by omega, f8 _ this⟩
theorem FM.in (f : FM T W c m l s N g) {j : Nat} (hj : j < m) : c + 1 + W * j + W ≤ 4000 := by
  obtain ⟨f1, f2, f3, f4, f5, f6, f7, f8⟩ := f
  have := Nat.mul_le_mul_left W (show j + 1 ≤ m from hj)
  rw [Nat.mul_add, Nat.mul_one] at this
  omega
theorem FM.inc (f : FM T W c m l s N g) : c < 4000 := by
  obtain ⟨f1, f2, f3, f4, f5, f6, f7, f8⟩ := f
  omega
theorem ix_1 (c W j : Nat) : nI c + 1 + nI W * nI j = nI (c + 1 + W * j) := by rw [nI_1, pk_mul, nI_add]
theorem ix_2 (c W j : Nat) : nI c + 2 + nI W * nI j = nI (c + 1 + W * j + 1) := by
  rw [show (2 : Int32) = nI 2 from rfl, nI_add, pk_mul, nI_add]
  congr 1
  omega
theorem ix_3 (c W j : Nat) : nI c + 3 + nI W * nI j = nI (c + 1 + W * j + 2) := by
  rw [show (3 : Int32) = nI 3 from rfl, nI_add, pk_mul, nI_add]
  congr 1
  omega
theorem lp_mprE {f : Nat} (hf : f < m) : ∀ (d : Nat) {g : Nat → Nat}, d ≤ 255 → FM T W c m l s N g → nv g 13 < B8 → ∃ g', nK [8, 13] g g' ∧ nv g' 13 < B8 ∧
    ((∃ P, mulE (N (w32 (T (c + 1 + W * f)))) d (nv g 13) = some P ∧ nv g' 13 = P ∧ dzF 142 47 [(0, .ref M), (1, .int (nI c)), (2, .int (nI W)), (3, .int (nI f)), (4, .int (T (c + 1 + W * f))), (5, .int (nI d))] [] (0, 0) (mS h M o g T F) = dzF 142 9 [(0, .ref M), (1, .int (nI c)), (2, .int (nI W)), (3, .int (nI (f + 1)))] [] (0, 0) (mS h M o g' T F)) ∨
     (mulE (N (w32 (T (c + 1 + W * f)))) d (nv g 13) = none ∧ dzF 142 47 [(0, .ref M), (1, .int (nI c)), (2, .int (nI W)), (3, .int (nI f)), (4, .int (T (c + 1 + W * f))), (5, .int (nI d))] [] (0, 0) (mS h M o g T F) = some (some (.int 0), mS h M o g' T F)))
  | 0, g, hd, fm, hP => by
    refine ⟨g, nK.rf fm.1 _, hP, Or.inl ⟨_, rfl, rfl, ?_⟩⟩
    rw [q_M_product_47, if_pos (by decide), nI_1]
  | d + 1, g, hd, fm, hP => by
    obtain ⟨q1, q2, q3, q4⟩ := fm.q hf
    obtain ⟨g1, a1, a2, a3⟩ := m_times (M := M) (h := h) (o := o) (T := T) (F := F) fm.1 (show (13 : Int32) = nI 13 from rfl) (iy := (32 : Int32) + T (c + 1 + W * f)) (y := 32 + w32 (T (c + 1 + W * f))) (by rw [← nI_add, nI_w32]; rfl) (show (8 : Int32) = nI 8 from rfl) (by decide) (by omega) (by decide) (by decide) (by omega) hP (by rw [q2]; exact q4)
    rw [q2] at a3
    rw [q_M_product_47, if_neg (nI_nle (by omega) (by omega)), a1, Option.bind_some, m_fits a2.1 (show (8 : Int32) = nI 8 from rfl) (by decide), Option.bind_some, a3]
    dsimp only
    unfold mulE
    by_cases hlt : nv g 13 * N (w32 (T (c + 1 + W * f))) < B8
    · obtain ⟨g2, b1, b2, b3⟩ := m_copy (M := M) (h := h) (o := o) (T := T) (F := F) a2.1 (show (8 : Int32) = nI 8 from rfl) (show (13 : Int32) = nI 13 from rfl) (by decide) (by decide) (by decide)
      have k2 : nK [8, 13] g g2 := (a2.mono (by decide)).tr (b2.mono (by decide))
      rw [a3] at b3
      obtain ⟨g3, c1, c2, c3⟩ := lp_mprE hf d (by omega) (fm.up k2 (by decide)) (by rw [b3]; exact hlt)
      rw [if_pos hlt, decide_eq_true hlt, if_neg bI_n1, b1, Option.bind_some]
      rw [b3] at c3
      have e : nI (d + 1) + -1 = nI d := by rw [nI_succ, Int32.add_assoc, show (1 : Int32) + -1 = 0 from rfl, Int32.add_zero]
      rw [e]
      exact ⟨g3, k2.tr c1, c2, c3⟩
    · rw [if_neg hlt, decide_eq_false hlt, if_pos bI_f]
      exact ⟨g1, a2.mono (by decide), by rw [a2.2 13 (by decide)]; exact hP, Or.inr ⟨rfl, rfl⟩⟩
theorem lp_mprF : ∀ (d f : Nat) {g : Nat → Nat}, f + d = m → FM T W c m l s N g → nv g 13 < B8 → W = 2 ∨ W = 3 → ∃ g', nK [8, 13] g g' ∧ nv g' 13 < B8 ∧
    dzRI (dzF 142 9 [(0, .ref M), (1, .int (nI c)), (2, .int (nI W)), (3, .int (nI f))] [] (0, 0) (mS h M o g T F)) = some (bI (mulF (tw T) N W c d f (nv g 13)).isSome, mS h M o g' T F) ∧ ∀ P, mulF (tw T) N W c d f (nv g 13) = some P → nv g' 13 = P
  | 0, f, g, e, fm, hP, hW => by
    refine ⟨g, nK.rf fm.1 _, hP, ?_, fun P hP => by cases hP; rfl⟩
    rw [q_M_product_9, mS_T, Option.bind_some, mS_rT fm.inc, Option.bind_some, ← nI_w32 (T c), ← fm.2.1, if_neg (nI_nlt (by omega) (by have := fm.2.2.1; omega))]
    rfl
  | d + 1, f, g, e, fm, hP, hW => by
    have hin := fm.in (j := f) (by omega)
    have h255 := (fm.2.2.2.2.2.2.1 f (by omega)).2
    obtain ⟨g1, k1, b1, r⟩ := lp_mprE (M := M) (h := h) (o := o) (F := F) (f := f) (by omega) (w32 (T (c + 1 + W * f + 1))) h255 fm hP
    have hm40 := fm.2.2.1
    rw [nI_w32] at r
    rw [q_M_product_9, mS_T, Option.bind_some, mS_rT fm.inc, Option.bind_some, ← nI_w32 (T c), ← fm.2.1, if_pos (nI_lt (by omega) (by omega)), Option.bind_some, ix_1, ix_2, mS_rT (by omega), Option.bind_some, Option.bind_some, mS_rT (by omega), Option.bind_some]
    unfold mulF
    show ∃ g', nK [8, 13] g g' ∧ nv g' 13 < B8 ∧ dzRI _ = some (bI (Option.isSome (match mulE (N (w32 (T (c + 1 + W * f)))) (w32 (T (c + 1 + W * f + 1))) (nv g 13) with | some P' => mulF (tw T) N W c d (f + 1) P' | none => none)), mS h M o g' T F) ∧ ∀ P, (match mulE (N (w32 (T (c + 1 + W * f)))) (w32 (T (c + 1 + W * f + 1))) (nv g 13) with | some P' => mulF (tw T) N W c d (f + 1) P' | none => none) = some P → nv g' 13 = P
    rcases r with ⟨P, r1, r2, r3⟩ | ⟨r1, r2⟩
    · obtain ⟨g2, k2, b2, e1, e2⟩ := lp_mprF d (f + 1) (by omega) (fm.up k1 (by decide)) b1 hW
      rw [r2] at e1 e2
      rw [r3, r1]
      exact ⟨g2, k1.tr k2, b2, e1, e2⟩
    · rw [r2, r1]
      exact ⟨g1, k1, b1, rfl, fun P hP => by cases hP⟩
theorem m_prod (fm : FM T W c m l s N g) (hW : W = 2 ∨ W = 3) : ∃ g', nK [8, 13] g g' ∧ nv g' 13 < B8 ∧ c_M_product M (nI c) (nI W) (mS h M o g T F) = some (bI (mulF (tw T) N W c m 0 1).isSome, mS h M o g' T F) ∧ ∀ P, mulF (tw T) N W c m 0 1 = some P → nv g' 13 = P := by
  obtain ⟨fs, ho⟩ := mS_ob h M o g T F
  obtain ⟨g1, a1, a2, a3⟩ := m_set (M := M) (h := h) (o := o) (T := T) (F := F) fm.1 1 (show (13 : Int32) = nI 13 from rfl) (by decide)
  have e13 : nv g1 13 = 1 := by rw [a3]; rfl
  obtain ⟨g2, b1, b2, b3, b4⟩ := lp_mprF (M := M) (h := h) (o := o) (F := F) m 0 (Nat.zero_add m) (fm.up a2 (by decide)) (by rw [a3]; exact uN_B8 _) hW
  rw [e13] at b3 b4
  refine ⟨g2, (a2.mono (by decide)).tr b1, b2, ?_, b4⟩
  rw [cc_M_product _ _ _ _ ho, q_M_product_0, a1, Option.bind_some, ← nI_0, b3]
-- a line of kind 1
theorem i32l (l : Nat) : (32 : Int32) + nI l = nI (32 + l) := by rw [show (32 : Int32) = nI 32 from rfl, nI_add]
theorem m_one (ok : okg g) (hl : l ≤ 199) (h4 : o 4 = nI l) (hg : o 7 = 0) (ha : Mt o s c) : Res (rdSm (tw T) s c) (fun e => RL M h T F l o g e (c_M_lineOne M (mS h M o g T F))) (fun y => ∃ g', c_M_lineOne M (mS h M o g T F) = some (mS h M (upd o 6 (nI y.2)) g' T F) ∧ nL l g g' ∧ nv g' (32 + l) = y.1) := by
  obtain ⟨fs, ho⟩ := mS_ob h M o g T F
  have e41 : ∀ (o1 : Nat → Int32) (x : Int32), o1 4 = nI l → ∃ g', dzRV (dzF 138 41 [(0, .ref M), (1, .int x)] [] (0, 0) (mS h M o1 g T F)) = some (mS h M o1 g' T F) ∧ nL l g g' ∧ nv g' (32 + l) = uN (Int32.toInt64 x) := by
    intro o1 x h41
    obtain ⟨g1, a1, a2, a3⟩ := m_set (M := M) (h := h) (o := o1) (T := T) (F := F) ok (Int32.toInt64 x) (i32l l) (by omega)
    refine ⟨g1, ?_, nL.ln a2, a3⟩
    rw [q_M_lineOne_41, mS_g4, Option.bind_some, h41, a1]
    rfl
  generalize hr : c_M_lineOne M (mS h M o g T F) = r
  rw [cc_M_lineOne _ _ ho, q_M_lineOne_0] at hr
  unfold rdSm
  by_cases h1 : c < s
  · rw [if_pos h1]
    have hg1 : upd o 6 (nI (c + 1)) 7 = 0 := by rw [pk_un (by decide), hg]
    rw [m_next hg ha h1, Option.bind_some] at hr
    dsimp only at hr
    rw [m_good hg1, Option.bind_some] at hr
    dsimp only at hr
    rw [if_neg one_n0] at hr
    have bad : RL M h T F l o g (3, c) (dzRV (dzF 138 30 [(0, .ref M), (1, .int (T c))] [] (0, 0) (mS h M (upd o 6 (nI (c + 1))) g T F))) := by
      rw [q_M_lineOne_30, mS_g6, Option.bind_some, pk_us, nI_pred, m_fail hg1, Option.bind_some]
      obtain ⟨g1, a1, a2, a3⟩ := e41 (upd (upd (upd o 6 (nI (c + 1))) 7 3) 3 (nI c)) (T c) (by rw [pk_un (by decide), pk_un (by decide), pk_un (by decide), h4])
      exact ⟨_, g1, a1, a2, (ke_cur _).tr (ke_fail _ _), fl7, fl3⟩
    have hlt := lt_w (x := T c) (a := 2) (by decide)
    have hle := le_w (x := T c) (a := 65535) (by decide)
    by_cases h2 : w32 (T c) ≤ 65535 ∧ spB (w32 (T c)) = true
    · rw [if_pos (show tw T c ≤ 65535 ∧ spB (tw T c) = true from h2)]
      have h3 := (spB_t.mp h2.2).1
      have e1 : T c = nI (w32 (T c)) := (nI_w32 _).symm
      have e2 := sp_Msmall h2.1 (mS h M (upd o 6 (nI (c + 1))) g T F)
      rw [← e1, h2.2] at e2
      rw [if_neg (show ¬ T c < 2 from fun q => by have := hlt.mp q; omega), if_pos (show T c ≤ 65535 from hle.mpr (Or.inl h2.1)), e2, Option.bind_some] at hr
      dsimp only at hr
      rw [if_neg bI_n1] at hr
      obtain ⟨g1, a1, a2, a3⟩ := e41 (upd o 6 (nI (c + 1))) (T c) (by rw [pk_un (by decide), h4])
      rw [a1] at hr
      exact Res.okk ⟨g1, hr.symm, a2, by rw [a3, uN_pos (by omega)]⟩
    · rw [if_neg (show ¬ (tw T c ≤ 65535 ∧ spB (tw T c) = true) from h2), ← hr]
      refine Res.er ?_
      by_cases h3 : T c < 2
      · rw [if_pos h3]
        exact bad
      · rw [if_neg h3]
        have h3' : ¬ (w32 (T c) < 2 ∨ 2147483648 ≤ w32 (T c)) := fun q => h3 (hlt.mpr q)
        by_cases h5 : T c ≤ 65535
        · have h6 : w32 (T c) ≤ 65535 := by have := hle.mp h5; omega
          have e1 : T c = nI (w32 (T c)) := (nI_w32 _).symm
          have e2 := sp_Msmall h6 (mS h M (upd o 6 (nI (c + 1))) g T F)
          have e3 : spB (w32 (T c)) = false := by
            cases hx : spB (w32 (T c)) with
            | false => rfl
            | true => exact absurd ⟨h6, hx⟩ h2
          rw [← e1, e3] at e2
          rw [if_pos h5, e2, Option.bind_some]
          exact bad
        · rw [if_neg h5]
          exact bad
  · rw [if_neg h1]
    rw [m_nextE hg ha h1, Option.bind_some] at hr
    dsimp only at hr
    rw [m_bad (by rw [fl7]; decide), Option.bind_some] at hr
    dsimp only at hr
    rw [if_pos rfl] at hr
    obtain ⟨g1, a1, a2, a3⟩ := e41 (upd (upd o 7 1) 3 (nI s)) 0 (by rw [pk_un (by decide), pk_un (by decide), h4])
    rw [a1] at hr
    exact Res.er ⟨_, g1, hr.symm, a2, ke_fail _ _, fl7, fl3⟩
-- a line of kind 2
theorem m2_163 (ok : okg g) (hl : l ≤ 199) (h4 : o 4 = nI l) (i1 i2 i3 : Int32) : ∃ g', dzRV (dzF 145 163 [(0, .ref M), (1, .int i1), (2, .int i2), (3, .int i3)] [] (0, 0) (mS h M o g T F)) = some (mS h M o g' T F) ∧ nL l g g' ∧ nv g' (32 + l) = nv g 10 := by
  obtain ⟨g1, a1, a2, a3⟩ := m_copy (M := M) (h := h) (o := o) (T := T) (F := F) ok (show (10 : Int32) = nI 10 from rfl) (i32l l) (by decide) (by omega) (by omega)
  refine ⟨g1, ?_, nL.ln a2, a3⟩
  rw [q_M_lineTwo_163, mS_g4, Option.bind_some, h4, a1]
  rfl
theorem m2_107b (ok : okg g) (hl : l ≤ 199) (h4 : o 4 = nI l) (hg : ¬ o 7 = 0) (hc : c < 4000) (i1 i3 : Int32) : ∃ g', dzRV (dzF 145 107 [(0, .ref M), (1, .int i1), (2, .int (nI c)), (3, .int i3)] [] (0, 0) (mS h M o g T F)) = some (mS h M o g' T F) ∧ nL l g g' := by
  obtain ⟨g1, a1, a2, a3⟩ := m2_163 (M := M) (h := h) (T := T) (F := F) ok hl h4 i1 (nI c) i3
  refine ⟨g1, ?_, a2⟩
  rw [q_M_lineTwo_107, mS_T, Option.bind_some, mS_rT hc, Option.bind_some, m_bad hg, Option.bind_some]
  dsimp only
  rw [if_pos rfl]
  split <;> exact a1
theorem lp_m107 (hl : l ≤ 199) {a : Nat} (h3V : 3 ≤ V) (hVB : V < B8) (haB : a < B8) : ∀ (d f : Nat) {o : Nat → Int32} {g : Nat → Nat} {i1 : Int32}, f + d = m → FM T 2 c m l s N g → nv g 21 = 1 → nv g 10 = V → nv g 11 = V - 1 → nv g 14 = a → o 4 = nI l → o 7 = 0 →
    Res (tRoot (tw T) N V a c d f) (fun e => RL M h T F l o g e (dzRV (dzF 145 107 [(0, .ref M), (1, .int i1), (2, .int (nI c)), (3, .int (nI f))] [] (0, 0) (mS h M o g T F))))
      (fun _ => ∃ g', dzRV (dzF 145 107 [(0, .ref M), (1, .int i1), (2, .int (nI c)), (3, .int (nI f))] [] (0, 0) (mS h M o g T F)) = some (mS h M o g' T F) ∧ nL l g g' ∧ nv g' (32 + l) = V)
  | 0, f, o, g, i1, e, fm, h21, h10, h11, h14, h4, hg => by
    have hm40 := fm.2.2.1
    obtain ⟨g1, a1, a2, a3⟩ := m2_163 (M := M) (h := h) (o := o) (T := T) (F := F) fm.1 hl h4 i1 (nI c) (nI f)
    refine Res.okk ⟨g1, ?_, a2, by rw [a3, h10]⟩
    rw [q_M_lineTwo_107, mS_T, Option.bind_some, mS_rT fm.inc, Option.bind_some, ← nI_w32 (T c), ← fm.2.1, if_neg (nI_nlt (by omega) (by omega)), a1]
  | d + 1, f, o, g, i1, e, fm, h21, h10, h11, h14, h4, hg => by
    have hm40 := fm.2.2.1
    have hin := fm.in (j := f) (by omega)
    obtain ⟨q1, q2, q3, q4⟩ := fm.q (j := f) (by omega)
    obtain ⟨g1, a1, a2⟩ := m_isRightF (M := M) (h := h) (o := o) (T := T) (F := F) fm.1 h21 h10 (by omega) hVB h11 h14 haB q1 q2 q3
    rw [nI_w32] at a1
    generalize hr : dzRV (dzF 145 107 [(0, .ref M), (1, .int i1), (2, .int (nI c)), (3, .int (nI f))] [] (0, 0) (mS h M o g T F)) = r
    rw [q_M_lineTwo_107, mS_T, Option.bind_some, mS_rT fm.inc, Option.bind_some, ← nI_w32 (T c), ← fm.2.1, if_pos (nI_lt (by omega) (by omega)), m_good hg, Option.bind_some] at hr
    dsimp only at hr
    rw [if_neg one_n0, mS_T, Option.bind_some, show (2 : Int32) = nI 2 from rfl, ix_1, mS_rT (by omega), Option.bind_some, a1, Option.bind_some] at hr
    dsimp only at hr
    unfold tRoot
    have kL : nL l g g1 := nL.of a2 (by decide)
    by_cases hq : pwq a (N (tw T (c + 1 + 2 * f))) V = 1
    · rw [if_pos hq]
      rw [decide_eq_false (fun z => z (show pwq a (N (w32 (T (c + 1 + 2 * f)))) V = 1 from hq)), if_pos bI_f, m_fail hg, Option.bind_some, q_M_lineTwo_157] at hr
      obtain ⟨g2, b1, b2⟩ := m2_107b (M := M) (h := h) (o := upd (upd o 7 10) 3 (nI (c + 1 + 2 * f))) (T := T) (F := F) a2.1 hl (by rw [pk_un (by decide), pk_un (by decide), h4]) (by rw [fl7]; decide) fm.inc i1 (nI f + 1)
      rw [b1] at hr
      exact Res.er ⟨_, g2, hr.symm, kL.tr b2, ke_fail _ _, fl7, fl3⟩
    · rw [if_neg hq]
      rw [decide_eq_true (show ¬ pwq a (N (w32 (T (c + 1 + 2 * f)))) V = 1 from hq), if_neg bI_n1, q_M_lineTwo_157, nI_1] at hr
      have ih := lp_m107 hl h3V hVB haB d (f + 1) (o := o) (i1 := i1) (by omega) (fm.up a2 (by decide)) (by rw [a2.2 21 (by decide), h21]) (by rw [a2.2 10 (by decide), h10]) (by rw [a2.2 11 (by decide), h11]) (by rw [a2.2 14 (by decide), h14]) h4 hg
      rw [hr] at ih
      revert ih
      cases tRoot (tw T) N V a c d (f + 1) with
      | error e =>
        rintro ⟨o', g', e1, e2, e3⟩
        exact ⟨o', g', e1, kL.tr e2, e3⟩
      | ok u =>
        rintro ⟨g', e1, e2, e3⟩
        exact ⟨g', e1, kL.tr e2, e3⟩
theorem m2_71b (ok : okg g) (hl : l ≤ 199) (h4 : o 4 = nI l) (hg : ¬ o 7 = 0) {c1 : Nat} (hc1 : c1 < 4000) (hc : c < 4000) : ∃ g', dzRV (dzF 145 71 [(0, .ref M), (1, .int (nI c1)), (2, .int (nI c))] [] (0, 0) (mS h M o g T F)) = some (mS h M o g' T F) ∧ nL l g g' := by
  obtain ⟨g1, a1, a2, a3⟩ := m_set (M := M) (h := h) (o := o) (T := T) (F := F) ok (Int32.toInt64 (T c1)) (show (14 : Int32) = nI 14 from rfl) (by decide)
  obtain ⟨g2, b1, b2⟩ := m2_107b (M := M) (h := h) (T := T) (F := F) a2.1 hl h4 hg hc (nI c1) 0
  refine ⟨g2, ?_, (nL.of a2 (by decide)).tr b2⟩
  rw [q_M_lineTwo_71, mS_T, Option.bind_some, mS_rT hc1, Option.bind_some, a1, Option.bind_some, m_bad hg, Option.bind_some]
  dsimp only
  rw [if_pos rfl, q_M_lineTwo_105, b1]
theorem m2_71 (hl : l ≤ 199) (h3V : 3 ≤ V) (hVB : V < B8) {c1 : Nat} (fm : FM T 2 (c1 + 1) m l s N g) (hw : isWit (w32 (T c1)) V) (h21 : nv g 21 = 1) (h10 : nv g 10 = V) (h11 : nv g 11 = V - 1) (h4 : o 4 = nI l) (hg : o 7 = 0) :
    Res (if w32 (T c1) ^ (V - 1) % V = 1 then tRoot (tw T) N V (w32 (T c1)) (c1 + 1) m 0 else .error (9, c1)) (fun e => RL M h T F l o g e (dzRV (dzF 145 71 [(0, .ref M), (1, .int (nI c1)), (2, .int (nI (c1 + 1)))] [] (0, 0) (mS h M o g T F))))
      (fun _ => ∃ g', dzRV (dzF 145 71 [(0, .ref M), (1, .int (nI c1)), (2, .int (nI (c1 + 1)))] [] (0, 0) (mS h M o g T F)) = some (mS h M o g' T F) ∧ nL l g g' ∧ nv g' (32 + l) = V) := by
  have hc1 := fm.inc
  obtain ⟨g1, a1, a2, a3⟩ := m_set (M := M) (h := h) (o := o) (T := T) (F := F) fm.1 (Int32.toInt64 (T c1)) (show (14 : Int32) = nI 14 from rfl) (by decide)
  rw [uN_pos hw.2.1] at a3
  have haB : w32 (T c1) < B8 := Nat.lt_trans hw.2.2 hVB
  have e21 : nv g1 21 = 1 := by rw [a2.2 21 (by decide), h21]
  have e10 : nv g1 10 = V := by rw [a2.2 10 (by decide), h10]
  have e11 : nv g1 11 = V - 1 := by rw [a2.2 11 (by decide), h11]
  obtain ⟨g2, b1, b2⟩ := m_isWhole (M := M) (h := h) (o := o) (T := T) (F := F) a2.1 e21 e10 (by omega) hVB e11 a3 haB
  have kL : nL l g g2 := (nL.of a2 (by decide)).tr (nL.of b2 (by decide))
  generalize hr : dzRV (dzF 145 71 [(0, .ref M), (1, .int (nI c1)), (2, .int (nI (c1 + 1)))] [] (0, 0) (mS h M o g T F)) = r
  rw [q_M_lineTwo_71, mS_T, Option.bind_some, mS_rT (by omega), Option.bind_some, a1, Option.bind_some, m_good hg, Option.bind_some] at hr
  dsimp only at hr
  rw [if_neg one_n0, b1, Option.bind_some] at hr
  dsimp only at hr
  by_cases hq : w32 (T c1) ^ (V - 1) % V = 1
  · rw [if_pos hq]
    rw [decide_eq_true hq, if_neg bI_n1, q_M_lineTwo_105] at hr
    have ih := lp_m107 (M := M) (h := h) (F := F) hl h3V hVB haB m 0 (o := o) (i1 := nI c1) (Nat.zero_add m) ((fm.up a2 (by decide)).up b2 (by decide)) (by rw [b2.2 21 (by decide), e21]) (by rw [b2.2 10 (by decide), e10]) (by rw [b2.2 11 (by decide), e11]) (by rw [b2.2 14 (by decide), a3]) h4 hg
    rw [nI_0, hr] at ih
    revert ih
    cases tRoot (tw T) N V (w32 (T c1)) (c1 + 1) m 0 with
    | error e =>
      rintro ⟨o', g', e1, e2, e3⟩
      exact ⟨o', g', e1, kL.tr e2, e3⟩
    | ok u =>
      rintro ⟨g', e1, e2, e3⟩
      exact ⟨g', e1, kL.tr e2, e3⟩
  · rw [if_neg hq]
    rw [decide_eq_false hq, if_pos bI_f, m_fail hg, Option.bind_some, q_M_lineTwo_105] at hr
    obtain ⟨g3, d1, d2⟩ := m2_107b (M := M) (h := h) (o := upd (upd o 7 9) 3 (nI c1)) (T := T) (F := F) b2.1 hl (by rw [pk_un (by decide), pk_un (by decide), h4]) (by rw [fl7]; decide) hc1 (nI c1) 0
    rw [d1] at hr
    exact Res.er ⟨_, g3, hr.symm, kL.tr d2, ke_fail _ _, fl7, fl3⟩
theorem m2_26b (hg : ¬ o 7 = 0) (i1 : Int32) : dzRV (dzF 145 26 [(0, .ref M), (1, .int i1)] [] (0, 0) (mS h M o g T F)) = some (mS h M o g T F) := by
  rw [q_M_lineTwo_26, mS_g6, Option.bind_some, m_fac0 hg, Option.bind_some, m_bad hg, Option.bind_some]
  rfl
theorem RL.of {L : List Nat} {e : Nat × Nat} {r : Option dzH} (b : RB M h T F L o g e r) (hL : ∀ x, x ∈ L → x ∈ L1) : RL M h T F l o g e r := by
  obtain ⟨o', g', b1, b2, b3⟩ := b
  exact ⟨o', g', b1, nL.of b2 hL, b3⟩
theorem RL.after {e : Nat × Nat} {r : Option dzH} {o1 : Nat → Int32} {g1 : Nat → Nat} (b : RL M h T F l o1 g1 e r) (hk : nL l g g1) (hke : keL [3, 6, 7] o o1) : RL M h T F l o g e r := by
  obtain ⟨o', g', b1, b2, b3, b4⟩ := b
  exact ⟨o', g', b1, hk.tr b2, hke.tr b3, b4⟩
theorem er_n0 {e : Nat × Nat} (he : erOk e) {x : Int32} (h : x = nI e.1) : ¬ x = 0 := by
  rw [h]
  exact fl_ne he.1 he.2
theorem m_two2 (ok : okg g) (h21 : nv g 21 = 1) (hl : l ≤ 199) (hN : ∀ i, i < l → nv g (32 + i) = N i ∧ 1 ≤ N i ∧ N i < B8) (h4 : o 4 = nI l) (hg : o 7 = 0) (ha : Mt o s c) :
    Res (rd2 (tw T) s N l c) (fun e => RL M h T F l o g e (c_M_lineTwo M (mS h M o g T F))) (fun y => ∃ g', c_M_lineTwo M (mS h M o g T F) = some (mS h M (upd o 6 (nI y.2)) g' T F) ∧ nL l g g' ∧ nv g' (32 + l) = y.1) := by
  obtain ⟨fs, ho⟩ := mS_ob h M o g T F
  have nm := m_number (M := M) (h := h) (T := T) (F := F) ok h21 hg ha
  have hs4 := ha.2.1
  generalize hr : c_M_lineTwo M (mS h M o g T F) = r
  rw [cc_M_lineTwo _ _ ho, q_M_lineTwo_0] at hr
  unfold rd2
  cases hx : rdNum (tw T) s c with
  | error e =>
    rw [hx] at nm
    obtain ⟨o', g', b1, b2, b3, b4, b5⟩ := nm
    have hb := er_n0 (rdNum_er hx) b4
    rw [b1, Option.bind_some, mS_g6, Option.bind_some, m_next0 hb, Option.bind_some] at hr
    dsimp only at hr
    rw [m_bad hb, Option.bind_some] at hr
    dsimp only at hr
    rw [if_pos rfl, m2_26b hb] at hr
    exact Res.er ⟨o', g', hr.symm, nL.of b2 (by decide), b3, b4, b5⟩
  | ok y =>
    obtain ⟨V, c1⟩ := y
    rw [hx] at nm
    obtain ⟨g1, b1, b2, b3, b4⟩ := nm
    obtain ⟨n1, n2, n3, n4, n5, n6, n7, n8⟩ := rdNum_ok hx
    dsimp only at b1 b3 b4 ⊢
    have hVB : V < B8 := by
      rw [n7]
      refine Nat.lt_of_lt_of_le (pv_lt (fun i _ => w32_lt _)) ?_
      rw [← B8_eq]
      exact Nat.pow_le_pow_right (by decide) n3
    have hg1 : upd o 6 (nI c1) 7 = 0 := by rw [pk_un (by decide), hg]
    have ha1 := ha.up (e := c1) (by omega)
    have k1 : nL l g g1 := nL.of b2 (by decide)
    rw [b1, Option.bind_some, mS_g6, Option.bind_some, pk_us] at hr
    by_cases h1 : c1 < s
    · rw [if_pos h1]
      rw [m_next hg1 ha1 h1, Option.bind_some] at hr
      dsimp only at hr
      have hg2 : upd (upd o 6 (nI c1)) 6 (nI (c1 + 1)) 7 = 0 := by rw [pk_un (by decide), hg1]
      have ha2 := ha1.up (e := c1 + 1) (by omega)
      have ke2 : keL [3, 6, 7] o (upd (upd o 6 (nI c1)) 6 (nI (c1 + 1))) := (ke_cur _).tr (ke_cur _)
      rw [m_good hg2, Option.bind_some] at hr
      dsimp only at hr
      rw [if_neg one_n0] at hr
      obtain ⟨g2, w1, w2⟩ := m_wit (M := M) (h := h) (o := upd (upd o 6 (nI c1)) 6 (nI (c1 + 1))) (T := T) (F := F) b2.1 hg2 (p := c1) (by omega) b3
      rw [w1, Option.bind_some] at hr
      have k2 : nL l g g2 := k1.tr (nL.of w2 (by decide))
      by_cases hw : isWit (tw T c1) V
      · rw [if_pos hw]
        rw [if_pos hw, q_M_lineTwo_26, mS_g6, Option.bind_some, pk_us] at hr
        have hN2 : ∀ i, i < l → nv g2 (32 + i) = N i ∧ 1 ≤ N i ∧ N i < B8 := fun i hi => by
          rw [k2.2 (32 + i) (by simp; omega) (by omega)]
          exact hN i hi
        have fc := m_facs (M := M) (h := h) (T := T) (F := F) (s := s) (c := c1 + 1) w2.1 (W := 2) (Or.inl rfl) hl (N := N) (fun i hi => (hN2 i hi).1) hg2 (by rw [pk_un (by decide), pk_un (by decide), h4]) ha2
        cases hz : rdFacs (tw T) s N l 2 (c1 + 1) with
        | error e =>
          rw [hz] at fc
          obtain ⟨o', g', d1, d2, d3, d4, d5⟩ := fc
          have hb := er_n0 (rdFacs_er hz) d4
          rw [show (2 : Int32) = nI 2 from rfl, d1, Option.bind_some, m_bad hb] at hr
          exact Res.er ⟨o', g', hr.symm, k2.tr (nL.of d2 (by simp)), ke2.tr d3, d4, d5⟩
        | ok u =>
          rw [hz] at fc
          have fc' : c_M_factors M (nI 2) (mS h M (upd (upd o 6 (nI c1)) 6 (nI (c1 + 1))) g2 T F) = _ := fc
          obtain ⟨f1, f2, f3, f4⟩ := rdFacs_ok (Or.inl rfl) hz
          dsimp only
          have hg3 : upd (upd (upd o 6 (nI c1)) 6 (nI (c1 + 1))) 6 (nI (c1 + 1 + 1 + 2 * w32 (T (c1 + 1)))) 7 = 0 := by rw [pk_un (by decide), hg2]
          have eo : upd (upd (upd o 6 (nI c1)) 6 (nI (c1 + 1))) 6 (nI (c1 + 1 + 1 + 2 * w32 (T (c1 + 1)))) = upd o 6 (nI (c1 + 1 + 1 + 2 * w32 (T (c1 + 1)))) := by
            funext q
            by_cases e : q = 6
            · rw [e, pk_us, pk_us]
            · rw [pk_un e, pk_un e, pk_un e, pk_un e]
          rw [show (2 : Int32) = nI 2 from rfl, fc', Option.bind_some, m_good hg3, Option.bind_some] at hr
          dsimp only at hr
          rw [eo] at hr hg3
          have h43 : upd o 6 (nI (c1 + 1 + 1 + 2 * w32 (T (c1 + 1)))) 4 = nI l := by rw [pk_un (by decide), h4]
          have ke3 : keL [3, 6, 7] o (upd o 6 (nI (c1 + 1 + 1 + 2 * w32 (T (c1 + 1))))) := ke_cur _
          have fm : FM T 2 (c1 + 1) (w32 (T (c1 + 1))) l s N g2 := ⟨w2.1, rfl, f2, hl, f3, hs4, fun j hj => ⟨(f4 j hj).1, (f4 j hj).2.2.2⟩, hN2⟩
          obtain ⟨g3, p1, p2, p3, p4⟩ := m_prod (M := M) (h := h) (o := upd o 6 (nI (c1 + 1 + 1 + 2 * w32 (T (c1 + 1))))) (F := F) fm (Or.inl rfl)
          have k3 : nL l g g3 := k2.tr (nL.of p1 (by decide))
          have e10 : nv g3 10 = V := by rw [p1.2 10 (by decide), w2.2 10 (by decide), b3]
          have e11 : nv g3 11 = V - 1 := by rw [p1.2 11 (by decide), w2.2 11 (by decide), b4]
          have e21 : nv g3 21 = 1 := by rw [k3.2 21 (by decide) (by omega), h21]
          rw [if_neg one_n0, p3, Option.bind_some] at hr
          dsimp only at hr
          unfold ts2
          have fail6 : ∀ g4, nL l g g4 → r = dzRV (dzF 145 64 [(0, .ref M), (1, .int (nI c1)), (2, .int (nI (c1 + 1)))] [] (0, 0) (mS h M (upd o 6 (nI (c1 + 1 + 1 + 2 * w32 (T (c1 + 1))))) g4 T F)) → RL M h T F l o g (6, c1 + 1) r := by
            intro g4 k4 hr
            rw [q_M_lineTwo_64, m_fail hg3, Option.bind_some] at hr
            obtain ⟨g5, q1, q2⟩ := m2_71b (M := M) (h := h) (o := upd (upd (upd o 6 (nI (c1 + 1 + 1 + 2 * w32 (T (c1 + 1))))) 7 6) 3 (nI (c1 + 1))) (T := T) (F := F) k4.1 hl (by rw [pk_un (by decide), pk_un (by decide), h43]) (by rw [fl7]; decide) (c1 := c1) (by omega) (c := c1 + 1) (by omega)
            rw [q1] at hr
            exact ⟨_, g5, hr, k4.tr q2, ke3.tr (ke_fail _ _), fl7, fl3⟩
          show Res (match (if mulF (tw T) N 2 (c1 + 1) (w32 (T (c1 + 1))) 0 1 = some (V - 1) then (if w32 (T c1) ^ (V - 1) % V = 1 then tRoot (tw T) N V (w32 (T c1)) (c1 + 1) (w32 (T (c1 + 1))) 0 else .error (9, c1)) else .error (6, c1 + 1) : rU) with
            | .error e => .error e
            | .ok _ => .ok (V, c1 + 1 + 1 + 2 * w32 (T (c1 + 1)))) _ _
          cases hm : mulF (tw T) N 2 (c1 + 1) (w32 (T (c1 + 1))) 0 1 with
          | none =>
            rw [hm] at hr
            rw [if_neg (by simp)]
            exact Res.er (fail6 g3 k3 hr.symm)
          | some P =>
            have hP := p4 P hm
            rw [hm] at hr
            rw [if_neg (show ¬ bI (some P).isSome = 0 from bI_n1), m_order p1.1 (show (13 : Int32) = nI 13 from rfl) (show (11 : Int32) = nI 11 from rfl) (by decide) (by decide), Option.bind_some, hP, e11] at hr
            dsimp only at hr
            by_cases hq : P = V - 1
            · rw [if_pos (by rw [hq])]
              rw [if_pos (ordI_0.mpr hq)] at hr
              have t71 := m2_71 (M := M) (h := h) (F := F) hl (by omega) hVB (fm.up p1 (by decide)) hw e21 e10 e11 h43 hg3
              rw [hr] at t71
              revert t71
              cases (if w32 (T c1) ^ (V - 1) % V = 1 then tRoot (tw T) N V (w32 (T c1)) (c1 + 1) (w32 (T (c1 + 1))) 0 else .error (9, c1) : rU) with
              | error e => exact fun t71 => RL.after t71 k3 ke3
              | ok u =>
                rintro ⟨g', e1, e2, e3⟩
                exact ⟨g', e1, k3.tr e2, e3⟩
            · rw [if_neg (fun q => hq (Option.some.inj q))]
              rw [if_neg (fun q => hq (ordI_0.mp q))] at hr
              exact Res.er (fail6 g3 k3 hr.symm)
      · rw [if_neg hw]
        rw [if_neg hw, m2_26b (by rw [fl7]; decide)] at hr
        exact Res.er ⟨_, g2, hr.symm, k2, ke2.tr (ke_fail _ _), fl7, fl3⟩
    · rw [if_neg h1]
      rw [m_nextE hg1 ha1 h1, Option.bind_some] at hr
      dsimp only at hr
      rw [m_bad (by rw [fl7]; decide), Option.bind_some] at hr
      dsimp only at hr
      rw [if_pos rfl, m2_26b (by rw [fl7]; decide)] at hr
      exact Res.er ⟨_, g1, hr.symm, k1, (ke_cur _).tr (ke_fail _ _), fl7, fl3⟩
end
