/-! the class's checker: the tests of a line -/
theorem pw_ne0 {a e V : Nat} (hV : 2 ≤ V) (he : e ≤ V - 1) (hc : a ^ (V - 1) % V = 1) : a ^ e % V ≠ 0 := by
  intro h0
  have h1 : V ∣ a ^ e := Nat.dvd_of_mod_eq_zero h0
  have h2 : V ∣ a ^ (V - 1) := Nat.dvd_trans h1 (Nat.pow_dvd_pow a he)
  rw [Nat.mod_eq_zero_of_dvd h2] at hc
  omega
theorem pvn_c {a q V : Nat} (hV : 2 ≤ V) (hc : a ^ (V - 1) % V = 1) : pwq a q V ≠ 0 ∧ pvn a q V = pwq a q V - 1 := by
  have h0 : pwq a q V ≠ 0 := pw_ne0 hV (Nat.div_le_self _ _) hc
  refine ⟨h0, ?_⟩
  unfold pvn
  rw [if_neg h0]
section
variable {A : Nat} {h : dzH} {o : Nat → Int32} {v : Nat → Nat} {T E : Nat → Int32} {F : Nat → Nat → Int32} {l : Nat} {s c : Nat} {W m V : Nat} {N : Nat → Nat}
def Tv (A : Nat) (h h' : dzH) (o : Nat → Int32) (v v' : Nat → Nat) (T E : Nat → Int32) (F : Nat → Nat → Int32) : Prop := CW A h' o v' T E F ∧ fr h h' (inC A) ∧ ∀ k, k < 229 ∨ 237 < k → v' k = v k
theorem Tv.rf (w : CW A h o v T E F) : Tv A h h o v v T E F := ⟨w, fr.rf _ _, fun _ _ => rfl⟩
theorem Tv.tr {h1 h2 : dzH} {v1 v2 : Nat → Nat} (a : Tv A h h1 o v v1 T E F) (b : Tv A h1 h2 o v1 v2 T E F) : Tv A h h2 o v v2 T E F := ⟨b.1, a.2.1.tr b.2.1, fun k hk => (b.2.2 k hk).trans (a.2.2 k hk)⟩
theorem Tv.wd {h1 : dzH} {v1 : Nat → Nat} (a : Tv A h h1 o v v1 T E F) (l : Nat) : Wd A h l [] o v F T E h1 o v1 F := ⟨a.1, a.2.1, fun _ _ => rfl, fun k _ hk => a.2.2 k (by omega), fun _ _ => rfl⟩
theorem Tv.of {h1 : dzH} {v1 : Nat → Nat} (w : CW A h1 o v1 T E F) (hf : fr h h1 (inC A)) (hv : ∀ k, k < 229 ∨ 231 < k → v1 k = v k) : Tv A h h1 o v v1 T E F := ⟨w, hf, fun k hk => hv k (by omega)⟩
/-- the factors of a line, as the checker holds them: their lines are below l, N tells their numbers -/
def FOk (T : Nat → Int32) (W c m l : Nat) (N : Nat → Nat) (o : Nat → Int32) (v : Nat → Nat) (F : Nat → Nat → Int32) : Prop :=
  m ≤ 40 ∧ l < 200 ∧ o 7 = nI c ∧ o 10 = nI m ∧ o 5 = nI W ∧ Fac T W c m F ∧ (∀ j, j < m → w32 (T (c + 1 + W * j)) < l ∧ w32 (T (c + 1 + W * j + 1)) ≤ 255) ∧ (∀ i, i < l → v (24 + i) = N i ∧ 1 ≤ N i)
theorem FOk.up {h1 : dzH} {v1 : Nat → Nat} (f : FOk T W c m l N o v F) (t : Tv A h h1 o v v1 T E F) : FOk T W c m l N o v1 F := by
  obtain ⟨f1, f2, f3, f4, f5, f6, f7, f8⟩ := f
  exact ⟨f1, f2, f3, f4, f5, f6, f7, fun i hi => by rw [t.2.2 (24 + i) (by omega)]; exact f8 i hi⟩
theorem FOk.num (f : FOk T W c m l N o v F) {j : Nat} (hj : j < m) : v (24 + w32 (T (c + 1 + W * j))) = N (w32 (T (c + 1 + W * j))) ∧ 1 ≤ N (w32 (T (c + 1 + W * j))) := f.2.2.2.2.2.2.2 _ (f.2.2.2.2.2.2.1 j hj).1
theorem FOk.fnum (w : CW A h o v T E F) (f : FOk T W c m l N o v F) {j : Nat} (hj : j < m) : c_Checker_factorNumber (A + 232) (nI j) h = some (A + (24 + w32 (T (c + 1 + W * j))), h) := by
  obtain ⟨f1, f2, f3, f4, f5, f6, f7, f8⟩ := f
  have := (f7 j hj).1
  exact kk_fnum w (by omega) (by omega) (by rw [(f6 j hj).1, nI_w32])
theorem FOk.lt (f : FOk T W c m l N o v F) {j : Nat} (hj : j < m) : w32 (T (c + 1 + W * j)) < 200 := by
  have := (f.2.2.2.2.2.2.1 j hj).1
  have := f.2.1
  omega
theorem kk_fplace (w : CW A h o v T E F) (f : FOk T W c m l N o v F) (hW : W = 2 ∨ W = 3) (j : Nat) : c_Checker_factorPlace (A + 232) (nI j) h = some (nI (c + 1 + W * j), h) := by
  obtain ⟨f1, f2, f3, f4, f5, f6, f7, f8⟩ := f
  obtain ⟨fs, ho⟩ := w.o232
  rw [cc_Checker_factorPlace _ _ _ ho, q_Checker_factorPlace_0]
  simp only [g_o7 w, g_o5 w, Option.bind_some, f3, f5, nI_1]
  rcases hW with e | e
  · subst e
    rw [if_neg (by decide), q_Checker_factorPlace_20, show (2 : Int32) = nI 2 from rfl, pk_mul, nI_add, Nat.mul_comm j 2]
    rfl
  · subst e
    rw [if_pos (by rfl), q_Checker_factorPlace_20, show (3 : Int32) = nI 3 from rfl, pk_mul, nI_add, Nat.mul_comm j 3]
    rfl
theorem lp_mulE {f : Nat} (hf : f < m) : ∀ (d e : Nat) {h : dzH} {v : Nat → Nat}, e + d = w32 (T (c + 1 + W * f + 1)) → CW A h o v T E F → FOk T W c m l N o v F → ∃ h' v', Tv A h h' o v v' T E F ∧
    ((∃ P, mulE (N (w32 (T (c + 1 + W * f)))) d (v 237) = some P ∧ v' 237 = P ∧ dzF 67 23 [(0, .ref (A + 232)), (1, .int (nI f)), (2, .int (nI e))] [] (0, 0) h = dzF 67 10 [(0, .ref (A + 232)), (1, .int (nI (f + 1)))] [] (0, 0) h') ∨
     (mulE (N (w32 (T (c + 1 + W * f)))) d (v 237) = none ∧ dzF 67 23 [(0, .ref (A + 232)), (1, .int (nI f)), (2, .int (nI e))] [] (0, 0) h = some (some (.int 0), h')))
  | 0, e, h, v, he, w, ok => by
    obtain ⟨f1, f2, f3, f4, f5, f6, f7, f8⟩ := ok
    refine ⟨h, v, Tv.rf w, Or.inl ⟨_, rfl, rfl, ?_⟩⟩
    rw [q_Checker_multiplyFactors_23]
    have hb := (f7 f hf).2
    simp only [g_ck4 w, g_cf1 w, Option.bind_some, r_F1 w (j := f) (by omega), (f6 f hf).2.1]
    rw [← nI_w32 (T (c + 1 + W * f + 1)), if_neg (nI_nlt (by omega) (by omega)), nI_1]
  | d + 1, e, h, v, he, w, ok => by
    have hb := (ok.2.2.2.2.2.2.1 f hf).2
    have hm := ok.1
    have hF1 := (ok.2.2.2.2.2.1 f hf).2.1
    have hn := ok.num hf
    obtain ⟨k1, a1, a2, a3⟩ := cw_prod w (x := 237) (t := 237) isR_p (isR_n (ok.lt hf)) isR_p (by decide) (by decide)
    rw [hn.1] at a1 a2
    have t1 : Tv A h k1 o v _ T E F := ⟨a2, a3, fun k hk => gu_n (by omega)⟩
    unfold mulE
    by_cases hlt : v 237 * N (w32 (T (c + 1 + W * f))) < B8
    · rw [if_pos hlt]
      obtain ⟨h', v', t2, r⟩ := lp_mulE hf d (e + 1) (by omega) a2 (ok.up t1)
      rw [gu_s, if_pos hlt] at r
      have eq : dzF 67 23 [(0, .ref (A + 232)), (1, .int (nI f)), (2, .int (nI e))] [] (0, 0) h = dzF 67 23 [(0, .ref (A + 232)), (1, .int (nI f)), (2, .int (nI (e + 1)))] [] (0, 0) k1 := by
        rw [q_Checker_multiplyFactors_23]
        simp only [g_ck4 w, g_cf1 w, g_ck2 w, g_ck5 w, Option.bind_some, r_F1 w (j := f) (by omega), hF1, FOk.fnum w ok hf, a1, decide_eq_true hlt, if_neg bI_n1, nI_1]
        rw [← nI_w32 (T (c + 1 + W * f + 1)), if_pos (nI_lt (by omega) (by omega))]
      rw [eq]
      exact ⟨h', v', t1.tr t2, r⟩
    · rw [if_neg hlt]
      refine ⟨k1, _, t1, Or.inr ⟨rfl, ?_⟩⟩
      rw [q_Checker_multiplyFactors_23]
      simp only [g_ck4 w, g_cf1 w, g_ck2 w, g_ck5 w, Option.bind_some, r_F1 w (j := f) (by omega), hF1, FOk.fnum w ok hf, a1, decide_eq_false hlt, if_pos bI_f]
      rw [← nI_w32 (T (c + 1 + W * f + 1)), if_pos (nI_lt (by omega) (by omega))]
theorem lp_mulF : ∀ (d f : Nat) {h : dzH} {v : Nat → Nat}, f + d = m → CW A h o v T E F → FOk T W c m l N o v F → ∃ h' v', Tv A h h' o v v' T E F ∧
    dzRI (dzF 67 10 [(0, .ref (A + 232)), (1, .int (nI f))] [] (0, 0) h) = some (bI (mulF (tw T) N W c d f (v 237)).isSome, h') ∧ ∀ P, mulF (tw T) N W c d f (v 237) = some P → v' 237 = P
  | 0, f, h, v, he, w, ok => by
    obtain ⟨f1, f2, f3, f4, f5, f6, f7, f8⟩ := ok
    refine ⟨h, v, Tv.rf w, ?_, fun P hP => by cases hP; rfl⟩
    rw [q_Checker_multiplyFactors_10]
    simp only [g_ck4 w, g_o10 w, Option.bind_some, f4]
    rw [if_neg (nI_nlt (by omega) (by omega))]
    rfl
  | d + 1, f, h, v, he, w, ok => by
    have hm := ok.1
    have h10 := ok.2.2.2.1
    obtain ⟨k1, v1, t1, r⟩ := lp_mulE (f := f) (by omega) _ 0 (Nat.zero_add _) w ok
    rw [q_Checker_multiplyFactors_10]
    simp only [g_ck4 w, g_o10 w, Option.bind_some, h10]
    rw [if_pos (nI_lt (by omega) (by omega))]
    unfold mulF
    rw [nI_0] at r
    rcases r with ⟨P, r1, r2, r3⟩ | ⟨r1, r2⟩
    · obtain ⟨k2, v2, t2, e1, e2⟩ := lp_mulF d (f + 1) (by omega) t1.1 (ok.up t1)
      rw [r2] at e1 e2
      rw [r3]
      show ∃ h' v', Tv A h h' o v v' T E F ∧ dzRI _ = some (bI (Option.isSome (match mulE (N (w32 (T (c + 1 + W * f)))) (w32 (T (c + 1 + W * f + 1))) (v 237) with | some P' => _ | none => none)), h') ∧ ∀ P, (match mulE (N (w32 (T (c + 1 + W * f)))) (w32 (T (c + 1 + W * f + 1))) (v 237) with | some P' => _ | none => none) = some P → v' 237 = P
      rw [r1]
      exact ⟨k2, v2, t1.tr t2, e1, e2⟩
    · rw [r2]
      show ∃ h' v', Tv A h h' o v v' T E F ∧ dzRI _ = some (bI (Option.isSome (match mulE (N (w32 (T (c + 1 + W * f)))) (w32 (T (c + 1 + W * f + 1))) (v 237) with | some P' => mulF (tw T) N W c d (f + 1) P' | none => none)), h') ∧ ∀ P, (match mulE (N (w32 (T (c + 1 + W * f)))) (w32 (T (c + 1 + W * f + 1))) (v 237) with | some P' => mulF (tw T) N W c d (f + 1) P' | none => none) = some P → v' 237 = P
      rw [r1]
      exact ⟨k1, v1, t1, rfl, fun P hP => by cases hP⟩
theorem kk_mulF (w : CW A h o v T E F) (ok : FOk T W c m l N o v F) : ∃ h' v', Tv A h h' o v v' T E F ∧ c_Checker_multiplyFactors (A + 232) h = some (bI (mulF (tw T) N W c m 0 1).isSome, h') ∧ ∀ P, mulF (tw T) N W c m 0 1 = some P → v' 237 = P := by
  obtain ⟨fs, ho⟩ := w.o232
  obtain ⟨k1, a1, a2, a3⟩ := cw_small w 1 isR_p (by decide) (by decide)
  have t1 : Tv A h k1 o v _ T E F := ⟨a2, a3, fun k hk => gu_n (by omega)⟩
  obtain ⟨h', v', t2, e1, e2⟩ := lp_mulF m 0 (Nat.zero_add m) a2 (ok.up t1)
  rw [gu_s, show w32 1 = 1 from rfl] at e1 e2
  refine ⟨h', v', t1.tr t2, ?_, e2⟩
  rw [cc_Checker_multiplyFactors _ _ ho, q_Checker_multiplyFactors_0]
  simp only [g_ck5 w, Option.bind_some, a1]
  rw [nI_0] at e1
  exact e1
def prT (t N : Nat → Nat) (V c : Nat) (W : Nat) : rU :=
  if W = 2 then if mulF t N 2 c (t c) 0 1 = some (V - 1) then .ok () else .error (6, c)
  else match mulF t N 3 c (t c) 0 1 with
    | none => .error (6, c)
    | some P => if (V - 1) % P = 0 then if V < P * P then .ok () else .error (7, c) else .error (6, c)
theorem mulF_pos {t N : Nat → Nat} {W c m P : Nat} (hN : ∀ j, j < m → 1 ≤ N (t (c + 1 + W * j))) (h : mulF t N W c m 0 1 = some P) : 0 < P := by
  have h1 := mulF_v h
  rw [Nat.one_mul] at h1
  rw [h1]
  exact npM_pos (fun j _ hj => hN j (by omega))
theorem kk_prod (w : CW A h o v T E F) (ok : FOk T W c m l N o v F) (hW : W = 2 ∨ W = 3) (hm : m = w32 (T c)) (h226 : v 226 = V) (h227 : v 227 = V - 1) : Res (prT (tw T) N V c W) (fun e => Bad A h l o v F T E e (c_Checker_productHolds (A + 232) h)) (fun _ => ∃ h' v', c_Checker_productHolds (A + 232) h = some (1, h') ∧ Tv A h h' o v v' T E F) := by
  obtain ⟨fs, ho⟩ := w.o232
  obtain ⟨k1, v1, t1, a1, a2⟩ := kk_mulF w ok
  have w1 := t1.1
  have ok1 := ok.up t1
  have h7 := ok.2.2.1
  have h5 := ok.2.2.2.2.1
  have e226 : v1 226 = V := by rw [t1.2.2 226 (by omega), h226]
  have e227 : v1 227 = V - 1 := by rw [t1.2.2 227 (by omega), h227]
  generalize hr : c_Checker_productHolds (A + 232) h = r
  rw [cc_Checker_productHolds _ _ ho, q_Checker_productHolds_0] at hr
  simp only [a1, Option.bind_some, g_o7 w1, h7, g_o5 w1, h5, g_ck5 w1, g_ck3 w1, g_tr2 w1, g_tr1 w1, g_ck2 w1] at hr
  unfold prT
  have ht : tw T c = m := hm.symm
  rw [ht]
  rcases hW with e | e
  · subst e
    rw [if_pos rfl]
    cases hx : mulF (tw T) N 2 c m 0 1 with
    | none =>
      rw [hx] at hr
      simp only [Option.isSome_none, if_pos bI_f] at hr
      rw [if_neg (by simp), ← hr]
      exact Res.er (((kk_bad w1 l rfl rfl).b01).after (t1.wd l) (by decide))
    | some P =>
      have hP := a2 P hx
      rw [hx] at hr
      simp only [Option.isSome_some, if_neg bI_n1, sp_order8 (w1.row isR_p) (w1.row (isR_t (k := 227) (by decide) (by decide))), Option.bind_some, ordI_0, hP, e227, g_o7 w1, h7] at hr
      rw [if_pos (show nI 2 = 2 from rfl)] at hr
      by_cases hq : P = V - 1
      · rw [if_pos (by rw [hq])]
        rw [if_pos hq, q_Checker_productHolds_56] at hr
        exact Res.okk ⟨k1, v1, hr.symm, t1⟩
      · rw [if_neg (fun q => hq (Option.some.inj q))]
        rw [if_neg hq] at hr
        rw [← hr]
        exact Res.er (((kk_bad w1 l rfl rfl).br _).after (t1.wd l) (by decide))
  · subst e
    rw [if_neg (by decide)]
    cases hx : mulF (tw T) N 3 c m 0 1 with
    | none =>
      rw [hx] at hr
      simp only [Option.isSome_none, if_pos bI_f] at hr
      rw [← hr]
      exact Res.er (((kk_bad w1 l rfl rfl).b01).after (t1.wd l) (by decide))
    | some P =>
      have hP := a2 P hx
      have hP0 : 0 < P := mulF_pos (fun j hj => (ok.num hj).2) hx
      obtain ⟨k2, b1, b2, b3⟩ := cw_dvd w1 (x := 227) (y := 237) (isR_t (by decide) (by decide)) isR_p (by rw [hP]; exact hP0)
      have t2 := t1.tr (Tv.of (v := v1) b2 b3 (fun _ _ => rfl))
      obtain ⟨k3, c1, c2, c3⟩ := cw_sq b2 (x := 237) (y := 226) isR_p (isR_t (by decide) (by decide))
      have t3 := t2.tr (Tv.of (v := v1) c2 c3 (fun _ _ => rfl))
      rw [hP, e227] at b1
      rw [hP, e226] at c1
      rw [hx] at hr
      simp only [Option.isSome_some, if_neg bI_n1, if_neg (show ¬ nI 3 = 2 by decide), b1, Option.bind_some, g_o7 b2, h7, g_ck2 b2, g_ck5 b2, g_ck3 b2, g_tr1 b2, c1, g_o7 c2] at hr
      dsimp only
      by_cases hd : (V - 1) % P = 0
      · rw [if_pos hd]
        rw [decide_eq_true hd, if_neg bI_n1] at hr
        by_cases hq : V < P * P
        · rw [if_pos hq]
          rw [decide_eq_true hq, if_neg bI_n1, q_Checker_productHolds_128] at hr
          exact Res.okk ⟨k3, v1, hr.symm, t3⟩
        · rw [if_neg hq]
          rw [decide_eq_false hq, if_pos bI_f] at hr
          rw [← hr]
          exact Res.er (((kk_bad c2 l rfl rfl).br _).after (t3.wd l) (by decide))
      · rw [if_neg hd]
        rw [decide_eq_false hd, if_pos bI_f] at hr
        rw [← hr]
        exact Res.er (((kk_bad b2 l rfl rfl).b01).after (t2.wd l) (by decide))
theorem lp_root {a : Int32} (hV : 3 ≤ V) (h6 : o 6 = a) : ∀ (d f : Nat) {h : dzH} {v : Nat → Nat}, f + d = m → CW A h o v T E F → FOk T 2 c m l N o v F → v 226 = V → v 227 = V - 1 →
    Res (tRoot (tw T) N V (w32 a) c d f) (fun e => Bad A h l o v F T E e (dzRI (dzF 75 29 [(0, .ref (A + 232)), (1, .int (nI f))] [] (0, 0) h)))
      (fun _ => ∃ h' v', dzRI (dzF 75 29 [(0, .ref (A + 232)), (1, .int (nI f))] [] (0, 0) h) = some (1, h') ∧ Tv A h h' o v v' T E F)
  | 0, f, h, v, he, w, ok, h226, h227 => by
    have h10 := ok.2.2.2.1
    have hm := ok.1
    refine Res.okk ⟨h, v, ?_, Tv.rf w⟩
    rw [q_Checker_rootHolds_29]
    simp only [g_ck4 w, g_o10 w, Option.bind_some, h10]
    rw [if_neg (nI_nlt (by omega) (by omega))]
    rfl
  | d + 1, f, h, v, he, w, ok, h226, h227 => by
    have h10 := ok.2.2.2.1
    have hm := ok.1
    have hn := ok.num (j := f) (by omega)
    have hlt := ok.lt (j := f) (by omega)
    obtain ⟨k1, v1, a1, a2, a3, a4⟩ := kk_parts w (by rw [h226]; omega) a (isR_n hlt) (by omega) (by rw [hn.1]; exact hn.2)
    have t1 := Tv.of a2 a3 a4
    rw [hn.1, h226, h227] at a1
    generalize hr : dzRI (dzF 75 29 [(0, .ref (A + 232)), (1, .int (nI f))] [] (0, 0) h) = r
    rw [q_Checker_rootHolds_29] at hr
    simp only [g_ck4 w, g_o10 w, g_ck3 w, g_o6 w, h6, Option.bind_some, h10, FOk.fnum w ok (j := f) (by omega), a1, kk_fplace a2 (ok.up t1) (Or.inl rfl) f] at hr
    rw [if_pos (nI_lt (by omega) (by omega))] at hr
    unfold tRoot
    by_cases hq : pwq (w32 a) (N (tw T (c + 1 + 2 * f))) V = 1
    · rw [if_pos hq]
      rw [decide_eq_false (fun q => q hq), if_pos bI_f] at hr
      rw [← hr]
      exact Res.er (((kk_bad a2 l rfl rfl).b01).after (t1.wd l) (by decide))
    · rw [if_neg hq]
      rw [decide_eq_true (show ¬ w32 a ^ ((V - 1) / N (w32 (T (c + 1 + 2 * f)))) % V = 1 from hq), if_neg bI_n1, nI_1] at hr
      have ih := lp_root hV h6 d (f + 1) (by omega) a2 (ok.up t1) (by rw [t1.2.2 226 (by omega), h226]) (by rw [t1.2.2 227 (by omega), h227])
      rw [hr] at ih
      revert ih
      cases tRoot (tw T) N V (w32 a) c d (f + 1) with
      | error e => exact fun ih => Bad.after ih (t1.wd l) (by decide)
      | ok u =>
        rintro ⟨h', v', e1, e2⟩
        exact ⟨h', v', e1, t1.tr e2⟩
theorem kk_rootH (w : CW A h o v T E F) (hV : 3 ≤ V) {c1 : Nat} (h6 : o 6 = T c1) (ok : FOk T 2 (c1 + 1) m l N o v F) (h226 : v 226 = V) (h227 : v 227 = V - 1) :
    Res (if w32 (T c1) ^ (V - 1) % V = 1 then tRoot (tw T) N V (w32 (T c1)) (c1 + 1) m 0 else .error (9, c1)) (fun e => Bad A h l o v F T E e (c_Checker_rootHolds (A + 232) h)) (fun _ => ∃ h' v', c_Checker_rootHolds (A + 232) h = some (1, h') ∧ Tv A h h' o v v' T E F) := by
  obtain ⟨fs, ho⟩ := w.o232
  have h7 := ok.2.2.1
  obtain ⟨k1, v1, a1, a2, a3, a4⟩ := kk_closes w (by rw [h226]; omega) (T c1)
  have t1 := Tv.of a2 a3 a4
  rw [h226, h227] at a1
  generalize hr : c_Checker_rootHolds (A + 232) h = r
  rw [cc_Checker_rootHolds _ _ ho, q_Checker_rootHolds_0] at hr
  simp only [g_ck3 w, g_o6 w, h6, Option.bind_some, a1, g_o7 a2, h7, nI_pred] at hr
  by_cases hq : w32 (T c1) ^ (V - 1) % V = 1
  · rw [if_pos hq]
    rw [decide_eq_true hq, if_neg bI_n1] at hr
    have ih := lp_root hV h6 m 0 (Nat.zero_add m) a2 (ok.up t1) (by rw [t1.2.2 226 (by omega), h226]) (by rw [t1.2.2 227 (by omega), h227])
    rw [nI_0, hr] at ih
    revert ih
    cases tRoot (tw T) N V (w32 (T c1)) (c1 + 1) m 0 with
    | error e => exact fun ih => Bad.after ih (t1.wd l) (by decide)
    | ok u =>
      rintro ⟨h', v', e1, e2⟩
      exact ⟨h', v', e1, t1.tr e2⟩
  · rw [if_neg hq]
    rw [decide_eq_false hq, if_pos bI_f] at hr
    rw [← hr]
    exact Res.er (((kk_bad a2 l rfl rfl).b01).after (t1.wd l) (by decide))
theorem lp_wit (w : CW A h o v T E F) (ok : FOk T 3 c m l N o v F) (h226 : v 226 = V) : ∀ (d f : Nat), f + d = m →
    Res (tWit (tw T) V c d f) (fun e => Bad A h l o v F T E e (dzRI (dzF 77 2 [(0, .ref (A + 232)), (1, .int (nI f))] [] (0, 0) h)))
      (fun _ => dzF 77 2 [(0, .ref (A + 232)), (1, .int (nI f))] [] (0, 0) h = dzF 77 57 [(0, .ref (A + 232)), (1, .int 0)] [] (0, 0) h)
  | 0, f, he => by
    have h10 := ok.2.2.2.1
    have hm := ok.1
    refine Res.okk ?_
    rw [q_Checker_witnessesHold_2]
    simp only [g_ck4 w, g_o10 w, Option.bind_some, h10]
    rw [if_neg (nI_nlt (by omega) (by omega))]
  | d + 1, f, he => by
    have h10 := ok.2.2.2.1
    have hm := ok.1
    have hF := (ok.2.2.2.2.2.1 f (by omega)).2.2 rfl
    have hrow := w.row (isR_t (k := 226) (by decide) (by decide))
    rw [h226] at hrow
    generalize hr : dzF 77 2 [(0, .ref (A + 232)), (1, .int (nI f))] [] (0, 0) h = r
    rw [q_Checker_witnessesHold_2] at hr
    simp only [g_ck4 w, g_o10 w, Option.bind_some, h10, g_cf2 w, r_F2 w (j := f) (by omega), hF, g_ck3 w, g_tr1 w, sp_isWit _ hrow, kk_fplace w ok (Or.inr rfl) f] at hr
    rw [if_pos (nI_lt (by omega) (by omega))] at hr
    unfold tWit
    by_cases hq : isWit (tw T (c + 1 + 3 * f + 2)) V
    · rw [if_pos hq]
      rw [decide_eq_true (show isWit (w32 (T (c + 1 + 3 * f + 2))) V from hq), if_neg bI_n1, nI_1] at hr
      have ih := lp_wit w ok h226 d (f + 1) (by omega)
      rw [hr] at ih
      exact ih
    · rw [if_neg hq]
      rw [decide_eq_false (show ¬ isWit (w32 (T (c + 1 + 3 * f + 2))) V from hq), if_pos bI_f] at hr
      rw [← hr]
      exact Res.er ((kk_bad w l rfl (by rw [show (2 : Int32) = nI 2 from rfl, nI_add])).b01)
theorem lp_part (hV : 3 ≤ V) : ∀ (d f : Nat) {h : dzH} {v : Nat → Nat}, f + d = m → CW A h o v T E F → FOk T 3 c m l N o v F → v 226 = V → v 227 = V - 1 →
    Res (tPart (tw T) N V c d f) (fun e => Bad A h l o v F T E e (dzRI (dzF 77 57 [(0, .ref (A + 232)), (1, .int (nI f))] [] (0, 0) h)))
      (fun _ => ∃ h' v', dzRI (dzF 77 57 [(0, .ref (A + 232)), (1, .int (nI f))] [] (0, 0) h) = some (1, h') ∧ Tv A h h' o v v' T E F)
  | 0, f, h, v, he, w, ok, h226, h227 => by
    have h10 := ok.2.2.2.1
    have hm := ok.1
    refine Res.okk ⟨h, v, ?_, Tv.rf w⟩
    rw [q_Checker_witnessesHold_57]
    simp only [g_ck4 w, g_o10 w, Option.bind_some, h10]
    rw [if_neg (nI_nlt (by omega) (by omega))]
    rfl
  | d + 1, f, h, v, he, w, ok, h226, h227 => by
    have h10 := ok.2.2.2.1
    have hm := ok.1
    have hF := (ok.2.2.2.2.2.1 f (by omega)).2.2 rfl
    have hn := ok.num (j := f) (by omega)
    have hlt := ok.lt (j := f) (by omega)
    obtain ⟨k1, v1, a1, a2, a3, a4⟩ := kk_closes w (by rw [h226]; omega) (T (c + 1 + 3 * f + 2))
    have t1 := Tv.of a2 a3 a4
    have ok1 := ok.up t1
    rw [h226, h227] at a1
    have e226 : v1 226 = V := by rw [t1.2.2 226 (by omega), h226]
    have e227 : v1 227 = V - 1 := by rw [t1.2.2 227 (by omega), h227]
    have hn1 := ok1.num (j := f) (by omega)
    generalize hr : dzRI (dzF 77 57 [(0, .ref (A + 232)), (1, .int (nI f))] [] (0, 0) h) = r
    rw [q_Checker_witnessesHold_57] at hr
    simp only [g_ck4 w, g_o10 w, Option.bind_some, h10, g_cf2 w, r_F2 w (j := f) (by omega), hF, g_ck3 w, a1, kk_fplace a2 ok1 (Or.inr rfl) f, g_ck3 a2, FOk.fnum a2 ok1 (j := f) (by omega)] at hr
    rw [if_pos (nI_lt (by omega) (by omega))] at hr
    unfold tPart
    by_cases hq : w32 (T (c + 1 + 3 * f + 2)) ^ (V - 1) % V = 1
    · rw [if_pos (show tw T (c + 1 + 3 * f + 2) ^ (V - 1) % V = 1 from hq)]
      rw [decide_eq_true hq, if_neg bI_n1] at hr
      obtain ⟨z1, z2⟩ := pvn_c (a := w32 (T (c + 1 + 3 * f + 2))) (q := N (w32 (T (c + 1 + 3 * f)))) (by omega) hq
      obtain ⟨k2, v2, b1, b2, b3, b4⟩ := kk_pev a2 (by rw [e226]; omega) (T (c + 1 + 3 * f + 2)) (isR_n hlt) (by omega) (by rw [hn1.1]; exact hn1.2) (by rw [hn1.1, e226, e227]; exact z1)
      have t2 := t1.tr (Tv.of b2 b3 b4)
      rw [hn1.1, e226, e227] at b1
      have z3 : w32 (T (c + 1 + 3 * f + 2)) ^ ((V - 1) / N (w32 (T (c + 1 + 3 * f)))) % V - 1 = pvn (w32 (T (c + 1 + 3 * f + 2))) (N (w32 (T (c + 1 + 3 * f)))) V := z2.symm
      rw [z3] at b1
      simp only [b1, Option.bind_some, kk_fplace b2 (ok.up t2) (Or.inr rfl) f] at hr
      by_cases hg : Nat.gcd (pvn (w32 (T (c + 1 + 3 * f + 2))) (N (w32 (T (c + 1 + 3 * f)))) V) V = 1
      · rw [if_pos (show Nat.gcd (pvn (tw T (c + 1 + 3 * f + 2)) (N (tw T (c + 1 + 3 * f))) V) V = 1 from hg)]
        rw [decide_eq_true hg, if_neg bI_n1, nI_1] at hr
        have ih := lp_part hV d (f + 1) (by omega) b2 (ok.up t2) (by rw [t2.2.2 226 (by omega), h226]) (by rw [t2.2.2 227 (by omega), h227])
        rw [hr] at ih
        revert ih
        cases tPart (tw T) N V c d (f + 1) with
        | error e => exact fun ih => Bad.after ih (t2.wd l) (by decide)
        | ok u =>
          rintro ⟨h', v', e1, e2⟩
          exact ⟨h', v', e1, t2.tr e2⟩
      · rw [if_neg (show ¬ Nat.gcd (pvn (tw T (c + 1 + 3 * f + 2)) (N (tw T (c + 1 + 3 * f))) V) V = 1 from hg)]
        rw [decide_eq_false hg, if_pos bI_f] at hr
        rw [← hr]
        exact Res.er (((kk_bad b2 l rfl rfl).b01).after (t2.wd l) (by decide))
    · rw [if_neg (show ¬ tw T (c + 1 + 3 * f + 2) ^ (V - 1) % V = 1 from hq)]
      rw [decide_eq_false hq, if_pos bI_f] at hr
      rw [← hr]
      exact Res.er (((kk_bad a2 l rfl (by rw [show (2 : Int32) = nI 2 from rfl, nI_add])).b01).after (t1.wd l) (by decide))
def twp (t N : Nat → Nat) (V c m : Nat) : rU := match tWit t V c m 0 with
  | .error e => .error e
  | .ok _ => tPart t N V c m 0
theorem kk_witH (w : CW A h o v T E F) (hV : 3 ≤ V) (ok : FOk T 3 c m l N o v F) (h226 : v 226 = V) (h227 : v 227 = V - 1) :
    Res (twp (tw T) N V c m) (fun e => Bad A h l o v F T E e (c_Checker_witnessesHold (A + 232) h)) (fun _ => ∃ h' v', c_Checker_witnessesHold (A + 232) h = some (1, h') ∧ Tv A h h' o v v' T E F) := by
  obtain ⟨fs, ho⟩ := w.o232
  have hw := lp_wit w ok h226 m 0 (Nat.zero_add m)
  rw [cc_Checker_witnessesHold _ _ ho, q_Checker_witnessesHold_0]
  rw [nI_0] at hw
  unfold twp
  cases hx : tWit (tw T) V c m 0 with
  | error e =>
    rw [hx] at hw
    exact Res.er hw
  | ok u =>
    rw [hx] at hw
    have hw' : dzF 77 2 [(0, .ref (A + 232)), (1, .int 0)] [] (0, 0) h = dzF 77 57 [(0, .ref (A + 232)), (1, .int 0)] [] (0, 0) h := hw
    rw [hw']
    have ih := lp_part hV m 0 (Nat.zero_add m) w ok h226 h227
    rw [nI_0] at ih
    exact ih
end
