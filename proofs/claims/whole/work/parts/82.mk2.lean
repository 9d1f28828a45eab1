/-! the class's maker finds the factors -/
theorem mlt_0 {p k x : Nat} (h : (mlt p k x).1 = 0) : (mlt p k x).2 = x := by
  have := mlt_eq (p := p) k x
  rw [h, Nat.pow_zero, Nat.one_mul] at this
  exact this
theorem nI_nm2 {i : Nat} (h : i < 2147483648) : ¬ nI i = -2 := fun q => by
  have h1 : w32 (nI i) = w32 (-2) := by rw [q]
  rw [w32_nI (by omega), show w32 (-2) = 4294967294 from rfl] at h1
  omega
theorem ins_m {a : Nat → Nat} {m x j : Nat} (hj : j < m + 1) : ins a m x j = gu a m x j := by
  by_cases z : j = m
  · rw [z, ins_f, gu_s]
  · rw [ins_l (by omega), gu_n z]
theorem pr_ins {q e : Nat → Nat} {f x y : Nat} : ∀ {m : Nat}, f ≤ m → pr (ins q f x) (ins e f y) (m + 1) = pr q e m * x ^ y
  | 0, h => by
    have e0 : f = 0 := by omega
    subst e0
    show 1 * ins q 0 x 0 ^ ins e 0 y 0 = 1 * x ^ y
    rw [ins_f, ins_f]
  | m + 1, h => by
    show pr (ins q f x) (ins e f y) (m + 1) * ins q f x (m + 1) ^ ins e f y (m + 1) = pr q e m * q m ^ e m * x ^ y
    by_cases z : f = m + 1
    · subst z
      rw [ins_f, ins_f, pr_congr (q := q) (e := e) (fun j hj => ⟨ins_l hj, ins_l hj⟩)]
      rfl
    · rw [pr_ins (by omega), ins_g (by omega), ins_g (by omega), Nat.add_sub_cancel, Nat.mul_assoc, Nat.mul_comm (x ^ y), ← Nat.mul_assoc]
theorem r1_s {n d p m k x i : Nat} {L X N : Nat → Nat} (h1 : spB p = true) (h2 : (mlt p 255 x).1 ≠ 0) (hi : lnOf N p n 0 = some i) : r1 n (d + 1) p m k x L X N = r1 n d (p + 1) (m + 1) k (mlt p 255 x).2 (gu L m i) (gu X m (mlt p 255 x).1) N := by
  rw [r1, if_pos ⟨h1, h2⟩, hi]
theorem r1_n {n d p m k x : Nat} {L X N : Nat → Nat} (h1 : spB p = true) (h2 : (mlt p 255 x).1 ≠ 0) (hi : lnOf N p n 0 = none) : r1 n (d + 1) p m k x L X N = r1 n d (p + 1) (m + 1) (k + 1) (mlt p 255 x).2 (gu L m (n + k)) (gu X m (mlt p 255 x).1) (gu N (n + k) p) := by
  rw [r1, if_pos ⟨h1, h2⟩, hi]
theorem r2_y {N : Nat → Nat} {d l m x : Nat} {L X : Nat → Nat} (h1 : 1009 < N l) (h2 : (mlt (N l) 255 x).1 ≠ 0) : r2 N (d + 1) l m x L X = r2 N d (l + 1) (m + 1) (mlt (N l) 255 x).2 (gu L m l) (gu X m (mlt (N l) 255 x).1) := by
  rw [r2, if_pos ⟨h1, h2⟩]
section
variable {A : Nat} {h : dzH} {o : Nat → Int32} {v : Nat → Nat} {T E : Nat → Int32} {F : Nat → Nat → Int32} {n k m s x p e V : Nat} {L X N : Nat → Nat}
theorem kk_insPs (w : CW A h o v T E F) (h1 : o 1 = nI n) (hn : n ≤ 200) (h13 : o 13 = nI m) (hm : m ≤ 40) (hN : ∀ i, i < n + k → v (24 + i) = N i) (h246 : v 246 = p) (fi : FI V n k m x L X N) (hk : n + k ≤ 200) (ha : asc m (fun j => N (L j))) (hlt : ∀ j, j < m → N (L j) < p) (hF : ∀ j, j < m → F 3 j = nI (L j) ∧ F 4 j = nI (X j)) {i : Nat} (hi : lnOf N p n 0 = some i) :
    (m < 40 → ∃ h' F', c_Maker_insertPrime (A + 238) (nI e) h = some (1, h') ∧ CW A h' (upd o 13 (nI (m + 1))) v T E F' ∧ fr h h' (inC A) ∧ (∀ j, j < m + 1 → F' 3 j = nI (gu L m i j) ∧ F' 4 j = nI (gu X m e j)) ∧ (∀ r, r ≠ 3 → r ≠ 4 → F' r = F r)) ∧ (m = 40 → c_Maker_insertPrime (A + 238) (nI e) h = some (0, h)) := by
  obtain ⟨fs, ho⟩ := w.o238
  obtain ⟨i1, i2, i3⟩ := lnOf_some hi
  have hlo := kk_lineOf w h1 hn (r := 246) (isR_m (by decide) (by decide))
  rw [h246, lnOf_cong (N := N) (fun j _ hj => hN j (by omega)), hi] at hlo
  have hlo' : c_Lines_lineOf (A + 22) (A + 246) h = some (nI i, h) := hlo
  have key : ∀ r, c_Maker_insertFactor (A + 238) (nI i) (nI e) h = r → c_Maker_insertPrime (A + 238) (nI e) h = dzRI (r.bind fun q => (dzB01 q.1).bind fun b => some (some (.int b), q.2)) := by
    intro r hr
    rw [cc_Maker_insertPrime _ _ _ ho, q_Maker_insertPrime_0]
    simp only [g_mk1 w, g_mk8 w, Option.bind_some, hlo', if_neg (nI_nm2 (i := i) (by omega)), hr]
  constructor
  · intro hm4
    have hL : ∀ j, j < m → v (24 + L j) = N (L j) := fun j hj => hN _ (fi.2.2.2.1 j hj).1
    have hi' : v (24 + i) = p := by rw [hN i (by omega), i3]
    obtain ⟨h', f, F', e1, e2, e3, e4, e5, e6, e7, e8⟩ := kk_ins (e := e) w (l := i) (by omega) hm4 (a := L) (b := X) (fun j hj => by have := (fi.2.2.2.1 j hj).1; omega) (fun j hj => by
      show v (24 + L j) < v (24 + L (j + 1))
      rw [hL j (by omega), hL (j + 1) (by omega)]
      exact ha j hj) (fun j hj => by rw [hL j hj, hi']; have := hlt j hj; omega) h13 hF
    have ef : f = m := by
      rcases Nat.eq_or_lt_of_le e4 with z | z
      · exact z
      · have h3 := e6 f (Nat.le_refl _) z
        rw [hL f z, hi'] at h3
        have := hlt f z
        omega
    subst ef
    refine ⟨h', F', ?_, e2, e3, fun j hj => ?_, e8⟩
    · rw [key _ e1]
      rfl
    · rw [← ins_m hj, ← ins_m hj]
      exact e7 j hj
  · intro hm4
    subst hm4
    rw [key _ (kk_ins0 w _ _ h13)]
    rfl
theorem kk_insPn (w : CW A h o v T E F) (h1 : o 1 = nI n) (hn : n ≤ 200) (h11 : o 11 = nI k) (h13 : o 13 = nI m) (hm : m ≤ 40) (hN : ∀ i, i < n + k → v (24 + i) = N i) (h246 : v 246 = p) (fi : FI V n k m x L X N) (hk : n + k ≤ 200) (ha : asc m (fun j => N (L j))) (hlt : ∀ j, j < m → N (L j) < p) (hF : ∀ j, j < m → F 3 j = nI (L j) ∧ F 4 j = nI (X j)) (hi : lnOf N p n 0 = none) :
    (m < 40 → n + k < 200 → ∃ h' F', c_Maker_insertPrime (A + 238) (nI e) h = some (1, h') ∧ CW A h' (upd (upd o 11 (nI (k + 1))) 13 (nI (m + 1))) (gu v (24 + (n + k)) p) T E F' ∧ fr h h' (inC A) ∧ (∀ j, j < m + 1 → F' 3 j = nI (gu L m (n + k) j) ∧ F' 4 j = nI (gu X m e j)) ∧ (∀ r, r ≠ 3 → r ≠ 4 → F' r = F r)) ∧ (¬ (m < 40 ∧ n + k < 200) → ∃ h' o' v', c_Maker_insertPrime (A + 238) (nI e) h = some (0, h') ∧ Mk A h n o v F T E h' o' v' F) := by
  obtain ⟨fs, ho⟩ := w.o238
  have hlo := kk_lineOf w h1 hn (r := 246) (isR_m (by decide) (by decide))
  rw [h246, lnOf_cong (N := N) (fun j _ hj => hN j (by omega)), hi] at hlo
  have hlo' : c_Lines_lineOf (A + 22) (A + 246) h = some (-2, h) := hlo
  have key : ∀ r, c_Maker_planSmallLine (A + 238) (A + 246) h = r → c_Maker_insertPrime (A + 238) (nI e) h = dzRI (r.bind fun q5 => if q5.1 = 0 then some (some (.int (0 : Int32)), q5.2) else
      (dgA q5.2 (A + 238) 5 1).bind fun r6 => (dgI q5.2 r6 4 2).bind fun v7 => (dgI q5.2 (A + 238) 5 9).bind fun v8 => (c_Maker_insertFactor (A + 238) ((v7 + v8) - (1 : Int32)) (nI e) q5.2).bind fun q9 => if q9.1 = 0 then some (some (.int (0 : Int32)), q9.2) else some (some (.int (1 : Int32)), q9.2)) := by
    intro r hr
    rw [cc_Maker_insertPrime _ _ _ ho, q_Maker_insertPrime_0]
    simp only [g_mk1 w, g_mk8 w, Option.bind_some, hlo', if_pos, hr]
  by_cases hlt2 : n + k < 200
  · obtain ⟨k1, a1, a2, a3⟩ := kk_plan w h1 h11 hlt2 (r := 246) (isR_m (by decide) (by decide))
    rw [h246] at a2
    have h13' : upd o 11 (nI (k + 1)) 13 = nI m := by rw [pk_un (by decide), h13]
    have e1 : upd o 11 (nI (k + 1)) 1 = nI n := by rw [pk_un (by decide), h1]
    have e11 : upd o 11 (nI (k + 1)) 11 = nI (k + 1) := pk_us
    have ei : nI n + nI (k + 1) - 1 = nI (n + k) := by rw [nI_add, ← Nat.add_assoc, nI_pred]
    constructor
    · intro hm4 _
      have hL : ∀ j, j < m → gu v (24 + (n + k)) p (24 + L j) = N (L j) := fun j hj => by
        have := (fi.2.2.2.1 j hj).1
        rw [gu_n (by omega), hN _ this]
      obtain ⟨h', f, F', b1, b2, b3, b4, b5, b6, b7, b8⟩ := kk_ins (e := e) a2 (l := n + k) hlt2 hm4 (a := L) (b := X) (fun j hj => by have := (fi.2.2.2.1 j hj).1; omega) (fun j hj => by
        show gu v (24 + (n + k)) p (24 + L j) < gu v (24 + (n + k)) p (24 + L (j + 1))
        rw [hL j (by omega), hL (j + 1) (by omega)]
        exact ha j hj) (fun j hj => by rw [hL j hj, gu_s]; have := hlt j hj; omega) h13' hF
      have ef : f = m := by
        rcases Nat.eq_or_lt_of_le b4 with z | z
        · exact z
        · have h3 := b6 f (Nat.le_refl _) z
          rw [hL f z, gu_s] at h3
          have := hlt f z
          omega
      subst ef
      refine ⟨h', F', ?_, b2, a3.tr b3, fun j hj => ?_, b8⟩
      · rw [key _ a1]
        simp only [Option.bind_some, if_neg one_n0, g_mk1 a2, g_o1 a2, g_o11 a2, e1, e11, ei, b1]
        rfl
      · rw [← ins_m hj, ← ins_m hj]
        exact b7 j hj
    · intro hno
      have em : m = 40 := by omega
      subst em
      refine ⟨k1, _, _, ?_, a2, a3, fun q hq => pk_un (fun z => hq (by rw [z]; decide)), fun q hq => gu_n (by omega), fun _ _ => rfl⟩
      rw [key _ a1]
      simp only [Option.bind_some, if_neg one_n0, g_mk1 a2, g_o1 a2, g_o11 a2, e1, e11, ei, kk_ins0 a2 _ _ h13']
      rfl
  · refine ⟨fun _ q => absurd q hlt2, fun _ => ⟨h, o, v, ?_, Mk.rf n w⟩⟩
    rw [key _ (kk_plan0 w h1 h11 hn (by omega) hlt2 246)]
    rfl
def G1 (A : Nat) (T E : Nat → Int32) (n : Nat) (h : dzH) (o : Nat → Int32) (v : Nat → Nat) (F : Nat → Nat → Int32) (e : Option dzR) (R : FS) : Prop :=
  (R.1 ≤ 40 ∧ n + R.2.1 ≤ 200 → ∃ h' o' v' F', e = dzF 91 77 [(0, .ref (A + 238)), (1, .int 0)] [] (0, 0) h' ∧ Mk A h n o v F T E h' o' v' F' ∧ o' 11 = nI R.2.1 ∧ o' 13 = nI R.1 ∧ v' 243 = R.2.2.1 ∧ (∀ i, i < n + R.2.1 → v' (24 + i) = R.2.2.2.2.2 i) ∧ (∀ j, j < R.1 → F' 3 j = nI (R.2.2.2.1 j) ∧ F' 4 j = nI (R.2.2.2.2.1 j))) ∧
  (¬ (R.1 ≤ 40 ∧ n + R.2.1 ≤ 200) → ∃ h' o' v' F', dzRI e = some (0, h') ∧ Mk A h n o v F T E h' o' v' F')
theorem G1.after {h1 : dzH} {o1 : Nat → Int32} {v1 : Nat → Nat} {F1 : Nat → Nat → Int32} {e : Option dzR} {R : FS} (g : G1 A T E n h1 o1 v1 F1 e R) (mk : Mk A h n o v F T E h1 o1 v1 F1) : G1 A T E n h o v F e R :=
  ⟨fun c => by
    obtain ⟨h', o', v', F', a1, a2, a3⟩ := g.1 c
    exact ⟨h', o', v', F', a1, mk.tr a2, a3⟩, fun c => by
    obtain ⟨h', o', v', F', a1, a2⟩ := g.2 c
    exact ⟨h', o', v', F', a1, mk.tr a2⟩⟩
def G2 (A : Nat) (T E : Nat → Int32) (V n k : Nat) (N : Nat → Nat) (h : dzH) (o : Nat → Int32) (v : Nat → Nat) (F : Nat → Nat → Int32) (e : Option dzR) (R : Nat × Nat × (Nat → Nat) × (Nat → Nat)) : Prop :=
  (R.1 ≤ 40 → ∃ h' o' v' F' C' D', dzRI e = some (1, h') ∧ Mk A h n o v F T E h' o' v' F' ∧ o' 11 = o 11 ∧ o' 13 = nI R.1 ∧ v' 243 = R.2.1 ∧ (∀ i, i < n + k → v' (24 + i) = N i) ∧ Pm R.1 R.2.2.1 R.2.2.2 C' D' ∧ asc R.1 (fun j => N (C' j)) ∧ pr (fun j => N (C' j)) D' R.1 * R.2.1 = V - 1 ∧ (∀ j, j < R.1 → F' 3 j = nI (C' j) ∧ F' 4 j = nI (D' j))) ∧
  (¬ R.1 ≤ 40 → ∃ h' o' v' F', dzRI e = some (0, h') ∧ Mk A h n o v F T E h' o' v' F')
theorem G2.after {h1 : dzH} {o1 : Nat → Int32} {v1 : Nat → Nat} {F1 : Nat → Nat → Int32} {e : Option dzR} {R : Nat × Nat × (Nat → Nat) × (Nat → Nat)} (g : G2 A T E V n k N h1 o1 v1 F1 e R) (mk : Mk A h n o v F T E h1 o1 v1 F1) (e11 : o1 11 = o 11) : G2 A T E V n k N h o v F e R :=
  ⟨fun c => by
    obtain ⟨h', o', v', F', C', D', a1, a2, a3, a4⟩ := g.1 c
    exact ⟨h', o', v', F', C', D', a1, mk.tr a2, by rw [a3, e11], a4⟩, fun c => by
    obtain ⟨h', o', v', F', a1, a2⟩ := g.2 c
    exact ⟨h', o', v', F', a1, mk.tr a2⟩⟩
theorem lp_f1 (hn : n ≤ 200) : ∀ (d p : Nat) {h : dzH} {o : Nat → Int32} {v : Nat → Nat} {F : Nat → Nat → Int32} {m k x : Nat} {L X N : Nat → Nat}, p + d = 1010 → 2 ≤ p → CW A h o v T E F → o 1 = nI n → o 11 = nI k → n + k ≤ 200 → o 13 = nI m → m ≤ 40 → v 243 = x → (∀ i, i < n + k → v (24 + i) = N i) → FI V n k m x L X N → asc m (fun j => N (L j)) → (∀ j, j < m → N (L j) < p) → (∀ i, n ≤ i → i < n + k → N i < p) → (∀ j, j < m → F 3 j = nI (L j) ∧ F 4 j = nI (X j)) →
    G1 A T E n h o v F (dzF 91 24 [(0, .ref (A + 238)), (1, .int (nI p))] [] (0, 0) h) (r1 n d p m k x L X N)
  | 0, p, h, o, v, F, m, k, x, L, X, N, hd, hp, w, h1, h11, hk, h13, hm, h243, hN, fi, ha, hlt, hpl, hF => by
    refine ⟨fun _ => ⟨h, o, v, F, ?_, Mk.rf n w, h11, h13, h243, hN, hF⟩, fun q => absurd ⟨hm, hk⟩ q⟩
    rw [q_Maker_findFactors_24, if_neg (show ¬ nI p ≤ 1009 from nI_ge (a := 1009) (by omega) (by omega))]
  | d + 1, p, h, o, v, F, m, k, x, L, X, N, hd, hp, w, h1, h11, hk, h13, hm, h243, hN, fi, ha, hlt, hpl, hF => by
    generalize head : dzF 91 24 [(0, .ref (A + 238)), (1, .int (nI p))] [] (0, 0) h = Q
    rw [q_Maker_findFactors_24, if_pos (show nI p ≤ 1009 from nI_le (b := 1009) (by omega) (by decide)), sp_small (n := p) (by omega), Option.bind_some] at head
    dsimp only at head
    -- to the next p
    have skip : ∀ {h1' : dzH} {v1 : Nat → Nat}, CW A h1' o v1 T E F → fr h h1' (inC A) → (∀ q, q < 243 → v1 q = v q) → v1 243 = x → dzF 91 69 [(0, .ref (A + 238)), (1, .int (nI p))] [] (0, 0) h1' = Q → r1 n (d + 1) p m k x L X N = r1 n d (p + 1) m k x L X N → G1 A T E n h o v F Q (r1 n (d + 1) p m k x L X N) := fun {h1'} {v1} w1 hf hv e243 hq hr => by
      have ih := lp_f1 hn d (p + 1) (by omega) (by omega) w1 h1 h11 hk h13 hm e243 (fun i hi => by rw [hv _ (by omega)]; exact hN i hi) fi ha (fun j hj => by have := hlt j hj; omega) (fun i a b => by have := hpl i a b; omega) hF
      rw [q_Maker_findFactors_69, nI_1] at hq
      rw [← hr, hq] at ih
      exact ih.after (Mk.rows w1 hf (fun q hq => hv q (by omega)))
    by_cases hs : spB p = true
    · have hpp := spB_t.mp hs
      rw [hs, if_neg bI_n1] at head
      obtain ⟨k1, a1, a2, a3⟩ := cw_small w (nI p) (k := 246) (isR_m (by decide) (by decide)) (by decide) (by decide)
      rw [w32_nI (by omega)] at a2
      obtain ⟨k2, v2, b1, b2, b3, b4, b5⟩ := kk_divOut a2 (r := 246) (isR_m (by decide) (by decide)) (by decide) (by decide) (by decide) (by rw [gu_s]; omega)
      rw [gu_s, gu_n (show 243 ≠ 246 by decide), h243] at b1 b4
      have hv2 : ∀ q, q < 243 → v2 q = v q := fun q hq => by rw [b5 q (by omega) (by omega) (by omega), gu_n (by omega)]
      have h246 : v2 246 = p := by rw [b5 246 (by decide) (by decide) (by decide), gu_s]
      simp only [g_mk8 w, Option.bind_some, a1, g_mk8 a2, b1] at head
      by_cases he : (mlt p 255 x).1 = 0
      · rw [he, if_pos (by decide)] at head
        refine skip b2 (a3.tr b3) hv2 (by rw [b4, mlt_0 he]) head ?_
        rw [r1, if_neg (fun q => q.2 he)]
      · have hle := mlt_le (p := p) 255 x
        rw [if_neg (nI_nle (by omega) (by omega))] at head
        have hN2 : ∀ i, i < n + k → v2 (24 + i) = N i := fun i hi => by rw [hv2 _ (by omega)]; exact hN i hi
        have mk2 : Mk A h n o v F T E k2 o v2 F := Mk.rows b2 (a3.tr b3) (fun q hq => hv2 q (by omega))
        cases hx : lnOf N p n 0 with
        | some i =>
          have hr1 := r1_s (d := d) (m := m) (k := k) (L := L) (X := X) hs he hx
          obtain ⟨i1, i2, i3⟩ := lnOf_some hx
          have fa := fi.add (l := i) (by omega) (by rw [i3]; exact he)
          rw [i3] at fa
          have ip := kk_insPs (e := (mlt p 255 x).1) b2 h1 hn h13 hm hN2 h246 fi hk ha hlt hF hx
          have ha' : asc (m + 1) (fun j => N (gu L m i j)) := fun j hj => by
            show N (gu L m i j) < N (gu L m i (j + 1))
            rw [gu_n (by omega)]
            by_cases z : j + 1 = m
            · rw [z, gu_s, i3]; exact hlt j (by omega)
            · rw [gu_n z]; exact ha j (by omega)
          have hlt' : ∀ j, j < m + 1 → N (gu L m i j) < p + 1 := fun j hj => by
            by_cases z : j = m
            · rw [z, gu_s, i3]; omega
            · rw [gu_n z]
              have := hlt j (by omega)
              omega
          have hpl' : ∀ q, n ≤ q → q < n + k → N q < p + 1 := fun q a b => by have := hpl q a b; omega
          rcases Nat.lt_or_ge m 40 with hm4 | hm4
          · obtain ⟨k3, F3, c1, c2, c3, c4, c5⟩ := ip.1 hm4
            simp only [c1, Option.bind_some, if_neg one_n0] at head
            rw [q_Maker_findFactors_69, nI_1] at head
            have ih := lp_f1 hn d (p + 1) (by omega) (by omega) c2 (by rw [pk_un (by decide), h1]) (by rw [pk_un (by decide), h11]) hk pk_us (by omega) b4 hN2 fa ha' hlt' hpl' c4
            have mk3 : Mk A h n o v F T E k3 _ v2 F3 := mk2.tr ⟨c2, c3, fun q hq => pk_un (fun z => hq (by rw [z]; decide)), fun _ _ => rfl, fun r hr => c5 r (by omega) (by omega)⟩
            rw [← hr1, head] at ih
            exact ih.after mk3
          · have em : m = 40 := by omega
            have inv := r1_inv d (p + 1) (by omega) fa ha' hlt' hpl'
            rw [← hr1] at inv
            refine ⟨fun c => by have := inv.2.2.2.2.1; omega, fun _ => ⟨k2, o, v2, F, ?_, mk2⟩⟩
            rw [← head, ip.2 em]
            rfl
        | none =>
          have hr1 := r1_n (d := d) (m := m) (k := k) (L := L) (X := X) hs he hx
          have fg := fi.grow hpp
          have eg : gu N (n + k) p (n + k) = p := gu_s _ _ _
          have fa := fg.add (l := n + k) (by omega) (by rw [eg]; exact he)
          rw [eg] at fa
          have ip := kk_insPn (e := (mlt p 255 x).1) b2 h1 hn h11 h13 hm hN2 h246 fi hk ha hlt hF hx
          have eL : ∀ j, j < m → gu N (n + k) p (L j) = N (L j) := fun j hj => gu_n (by have := (fi.2.2.2.1 j hj).1; omega)
          have ha' : asc (m + 1) (fun j => gu N (n + k) p (gu L m (n + k) j)) := fun j hj => by
            show gu N (n + k) p (gu L m (n + k) j) < gu N (n + k) p (gu L m (n + k) (j + 1))
            rw [gu_n (i := j) (j := m) (by omega), eL j (by omega)]
            by_cases z : j + 1 = m
            · rw [z, gu_s, gu_s]; exact hlt j (by omega)
            · rw [gu_n z, eL (j + 1) (by omega)]; exact ha j (by omega)
          have hlt' : ∀ j, j < m + 1 → gu N (n + k) p (gu L m (n + k) j) < p + 1 := fun j hj => by
            by_cases z : j = m
            · rw [z, gu_s, gu_s]; omega
            · rw [gu_n z, eL j (by omega)]
              have := hlt j (by omega)
              omega
          have hpl' : ∀ q, n ≤ q → q < n + (k + 1) → gu N (n + k) p q < p + 1 := fun q a b => by
            by_cases z : q = n + k
            · rw [z, gu_s]; omega
            · rw [gu_n z]
              have := hpl q a (by omega)
              omega
          by_cases hc : m < 40 ∧ n + k < 200
          · obtain ⟨k3, F3, c1, c2, c3, c4, c5⟩ := ip.1 hc.1 hc.2
            simp only [c1, Option.bind_some, if_neg one_n0] at head
            rw [q_Maker_findFactors_69, nI_1] at head
            have ih := lp_f1 hn d (p + 1) (by omega) (by omega) c2 (by rw [pk_un (by decide), pk_un (by decide), h1]) (by rw [pk_un (by decide), pk_us]) (by omega) pk_us (by omega) (by rw [gu_n (by omega)]; exact b4) (fun q hq => by
              by_cases z : q = n + k
              · rw [z, gu_s, gu_s]
              · rw [gu_n (by omega), gu_n z, hN2 q (by omega)]) fa ha' hlt' hpl' c4
            have mk3 : Mk A h n o v F T E k3 _ _ F3 := mk2.tr ⟨c2, c3, fun q hq => by rw [pk_un (fun z => hq (by rw [z]; decide)), pk_un (fun z => hq (by rw [z]; decide))], fun q hq => gu_n (by omega), fun r hr => c5 r (by omega) (by omega)⟩
            rw [← hr1, head] at ih
            exact ih.after mk3
          · have inv := r1_inv d (p + 1) (by omega) fa ha' hlt' hpl'
            rw [← hr1] at inv
            obtain ⟨k3, o3, v3, c1, c2⟩ := ip.2 hc
            refine ⟨fun c => by have := inv.2.2.2.2.1; have := inv.2.2.2.2.2.1; omega, fun _ => ⟨k3, o3, v3, F, ?_, mk2.tr c2⟩⟩
            rw [← head, c1]
            rfl
    · have hs' : spB p = false := by
        cases hz : spB p with
        | false => rfl
        | true => exact absurd hz hs
      rw [hs', if_pos bI_f] at head
      refine skip w (fr.rf _ _) (fun _ _ => rfl) h243 head ?_
      rw [r1, if_neg (fun q => hs q.1)]
theorem lp_f2 (hn : n ≤ 200) (hk : n + k ≤ 200) : ∀ (d l : Nat) {h : dzH} {o : Nat → Int32} {v : Nat → Nat} {F : Nat → Nat → Int32} {m x : Nat} {L X C D : Nat → Nat}, l + d = n → CW A h o v T E F → o 1 = nI n → o 13 = nI m → m ≤ 40 → v 243 = x → (∀ i, i < n + k → v (24 + i) = N i) → FI V n k m x L X N → Pm m L X C D → asc m (fun j => N (C j)) → pr (fun j => N (C j)) D m * x = V - 1 → (∀ j, j < m → F 3 j = nI (C j) ∧ F 4 j = nI (D j)) →
    G2 A T E V n k N h o v F (dzF 91 77 [(0, .ref (A + 238)), (1, .int (nI l))] [] (0, 0) h) (r2 N d l m x L X)
  | 0, l, h, o, v, F, m, x, L, X, C, D, hd, w, h1, h13, hm, h243, hN, fi, pm, ha, hpr, hF => by
    refine ⟨fun _ => ⟨h, o, v, F, C, D, ?_, Mk.rf n w, rfl, h13, h243, hN, pm, ha, hpr, hF⟩, fun q => absurd hm q⟩
    rw [q_Maker_findFactors_77]
    simp only [g_mk1 w, g_o1 w, h1, Option.bind_some]
    rw [if_neg (nI_nlt (by omega) (by omega))]
    rfl
  | d + 1, l, h, o, v, F, m, x, L, X, C, D, hd, w, h1, h13, hm, h243, hN, fi, pm, ha, hpr, hF => by
    have hNl : v (24 + l) = N l := hN l (by omega)
    have hpl := fi.2.2.2.2.1 l (by omega)
    have am := sp_atMost (i := 1009) (L := 1009) rfl (w.row (isR_n (l := l) (by omega))) (by decide)
    rw [hNl] at am
    generalize hr : dzF 91 77 [(0, .ref (A + 238)), (1, .int (nI l))] [] (0, 0) h = R
    rw [q_Maker_findFactors_77] at hr
    simp only [g_mk1 w, g_o1 w, h1, Option.bind_some, g_lines0 w, g_nm w (l := l) (by omega), am] at hr
    rw [if_pos (nI_lt (by omega) (by omega))] at hr
    have skip : ∀ {h1' : dzH} {v1 : Nat → Nat}, CW A h1' o v1 T E F → fr h h1' (inC A) → (∀ q, q < 243 → v1 q = v q) → v1 243 = x → dzF 91 117 [(0, .ref (A + 238)), (1, .int (nI l)), (2, .ref (A + (24 + l)))] [.int 0] (0, 0) h1' = R → r2 N (d + 1) l m x L X = r2 N d (l + 1) m x L X → G2 A T E V n k N h o v F R (r2 N (d + 1) l m x L X) := fun {h1'} {v1} w1 hf hv e243 hq hrr => by
      have ih := lp_f2 hn hk d (l + 1) (by omega) w1 h1 h13 hm e243 (fun i hi => by rw [hv _ (by omega)]; exact hN i hi) fi pm ha hpr hF
      rw [q_Maker_findFactors_117, if_pos (by decide), q_Maker_findFactors_133, nI_1] at hq
      rw [← hrr, hq] at ih
      exact ih.after (Mk.rows w1 hf (fun q hq => hv q (by omega))) rfl
    by_cases hs : N l ≤ 1009
    · rw [decide_eq_true hs, if_neg bI_n1] at hr
      refine skip w (fr.rf _ _) (fun _ _ => rfl) h243 hr ?_
      rw [r2, if_neg (fun q => by omega)]
    · rw [decide_eq_false hs, if_pos bI_f] at hr
      obtain ⟨k2, v2, b1, b2, b3, b4, b5⟩ := kk_divOut w (r := 24 + l) (isR_n (by omega)) (by omega) (by omega) (by omega) (by rw [hNl]; have := hpl.1; omega)
      rw [hNl, h243] at b1 b4
      have hv2 : ∀ q, q < 243 → v2 q = v q := fun q hq => b5 q (by omega) (by omega) (by omega)
      simp only [b1, Option.bind_some] at hr
      by_cases he : (mlt (N l) 255 x).1 = 0
      · rw [he] at hr
        refine skip b2 b3 hv2 (by rw [b4, mlt_0 he]) hr ?_
        rw [r2, if_neg (fun q => q.2 he)]
      · have hle := mlt_le (p := N l) 255 x
        have hr2 := r2_y (d := d) (m := m) (L := L) (X := X) (show 1009 < N l by omega) he
        have fa := fi.add (l := l) (by omega) he
        have mk2 : Mk A h n o v F T E k2 o v2 F := Mk.rows b2 b3 (fun q hq => hv2 q (by omega))
        have hN2 : ∀ i, i < n + k → v2 (24 + i) = N i := fun i hi => by rw [hv2 _ (by omega)]; exact hN i hi
        rw [q_Maker_findFactors_117, if_neg (nI_nle (by omega) (by omega))] at hr
        have hC : ∀ j, j < m → C j < n + k ∧ ¬ N (C j) ∣ x := fun j hj => by
          obtain ⟨i, a1, a2, a3⟩ := pm.2 j hj
          rw [a2]
          exact ⟨(fi.2.2.2.1 i a1).1, (fi.2.2.2.1 i a1).2.2.2⟩
        rcases Nat.lt_or_ge m 40 with hm4 | hm4
        · obtain ⟨k3, f, F3, c1, c2, c3, c4, c5, c6, c7, c8⟩ := kk_ins (e := (mlt (N l) 255 x).1) b2 (l := l) (by omega) hm4 (a := C) (b := D) (fun j hj => by have := (hC j hj).1; omega) (fun j hj => by
            show v2 (24 + C j) < v2 (24 + C (j + 1))
            rw [hN2 _ (hC j (by omega)).1, hN2 _ (hC (j + 1) (by omega)).1]
            exact ha j hj) (fun j hj q => by
            rw [hN2 _ (hC j hj).1, hN2 l (by omega)] at q
            exact (hC j hj).2 (by rw [q]; exact mlt_ne he)) h13 hF
          simp only [c1, Option.bind_some, if_neg one_n0] at hr
          rw [q_Maker_findFactors_133, nI_1] at hr
          have ih := lp_f2 hn hk d (l + 1) (by omega) c2 (by rw [pk_un (by decide), h1]) pk_us (by omega) b4 hN2 fa (Pm_ins pm c4) (asc_ins ha c4 (fun j hj => by
            have := c5 j hj
            rw [hN2 _ (hC j (by omega)).1, hN2 l (by omega)] at this
            exact this) (fun j h3 h4 => by
            have := c6 j h3 h4
            rw [hN2 _ (hC j h4).1, hN2 l (by omega)] at this
            exact this)) (by
            have e1 := pr_congr (q := ins (fun j => N (C j)) f (N l)) (q' := fun j => N (ins C f l j)) (e := ins D f (mlt (N l) 255 x).1) (e' := ins D f (mlt (N l) 255 x).1) (m := m + 1) (fun j hj => ⟨by
              show N (ins C f l j) = ins (fun j => N (C j)) f (N l) j
              unfold ins
              split
              · rfl
              · split <;> rfl, rfl⟩)
            rw [e1, pr_ins c4, Nat.mul_assoc, mlt_eq]
            exact hpr) c7
          have mk3 : Mk A h n o v F T E k3 _ v2 F3 := mk2.tr ⟨c2, c3, fun q hq => pk_un (fun z => hq (by rw [z]; decide)), fun _ _ => rfl, fun r hr => c8 r (by omega) (by omega)⟩
          rw [← hr2, hr] at ih
          exact ih.after mk3 (pk_un (by decide))
        · have em : m = 40 := by omega
          have inv := r2_inv d (l + 1) (by omega) fa
          rw [← hr2] at inv
          refine ⟨fun c => by have := inv.2.1; omega, fun _ => ⟨k2, o, v2, F, ?_, mk2⟩⟩
          rw [← hr, kk_ins0 b2 _ _ (by rw [h13, em])]
          rfl
end
