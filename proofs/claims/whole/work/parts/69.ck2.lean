/-! the class's checker reads a line -/
theorem one_n0 : ¬ (1 : Int32) = 0 := by decide
theorem tk4 {o : Nat → Int32} {x y : Int32} : upd (upd o 4 x) 3 y 4 = x := by rw [pk_un (by decide), pk_us]
theorem tk3 {o : Nat → Int32} {x y : Int32} : upd (upd o 4 x) 3 y 3 = y := pk_us
theorem lt0_w {x : Int32} : x < 0 ↔ 2147483648 ≤ w32 x := by
  have := lt_w (x := x) (a := 0) (by decide)
  rw [nI_0] at this
  rw [this]
  omega
theorem row8_at {h : dzH} {a v : Nat} {f : Nat → Int32} (r : row8 h a v) (hf : h.2 a = some (eI 8 f)) : wv f 8 = v := by
  obtain ⟨g, h1, h2⟩ := r
  rw [hf] at h1
  cases h1
  exact h2
def rdRt (t : Nat → Nat) (s V c : Nat) : rU := if c < s then if isWit (t c) V then .ok () else .error (8, c) else .error (1, s)
def rdFL (t : Nat → Nat) (s : Nat) (N : Nat → Nat) (l w c f : Nat) : rU :=
  if c + 1 + w * f < s then
    if t (c + 1 + w * f) < l then
      if f = 0 ∨ N (t (c + 1 + w * (f - 1))) < N (t (c + 1 + w * f)) then .ok () else .error (5, c + 1 + w * f)
    else .error (2, c + 1 + w * f)
  else .error (1, s)
def rdEx (t : Nat → Nat) (s p : Nat) : rU := if p < s then if 1 ≤ t p ∧ t p ≤ 255 then .ok () else .error (2, p) else .error (1, s)
theorem rdFac_s {t : Nat → Nat} {s : Nat} {N : Nat → Nat} {l w c k f : Nat} : rdFac t s N l w c (k + 1) f = match rdFL t s N l w c f with
    | .error e => .error e
    | .ok _ => match rdEx t s (c + 1 + w * f + 1) with
      | .error e => .error e
      | .ok _ => if w = 2 ∨ c + 1 + w * f + 2 < s then rdFac t s N l w c k (f + 1) else .error (1, s) := by
  rw [rdFac]
  unfold rdFL rdEx
  split
  · split
    · split
      · dsimp only
        split
        · split <;> rfl
        · rfl
      · rfl
    · rfl
  · rfl
section
variable {A : Nat} {h : dzH} {o : Nat → Int32} {v : Nat → Nat} {T E : Nat → Int32} {F : Nat → Nat → Int32} {l : Nat} {s c : Nat}
theorem kk_small (w : CW A h o v T E F) (hl : l < 200) (ha : At o s c) : Res (rdSm (tw T) s c) (fun e => Bad A h l o v F T E e (c_Checker_readSmallPrime (A + 232) (A + (24 + l)) h))
    (fun y => ∃ h' o' v', c_Checker_readSmallPrime (A + 232) (A + (24 + l)) h = some (1, h') ∧ Wd A h l [3, 4] o v F T E h' o' v' F ∧ At o' s y.2 ∧ v' (24 + l) = y.1) := by
  obtain ⟨fs, ho⟩ := w.o232
  generalize hr : c_Checker_readSmallPrime (A + 232) (A + (24 + l)) h = r
  rw [cc_Checker_readSmallPrime _ _ _ ho, q_Checker_readSmallPrime_0] at hr
  unfold rdSm
  by_cases h1 : c < s
  · obtain ⟨k1, a1, W, ha1⟩ := kk_take w l ha h1
    have w1 := W.cw
    rw [if_pos h1]
    simp only [a1, Option.bind_some, if_neg one_n0, g_o4 w1, tk4] at hr
    have bad : Bad A h l o v F T E (3, c) (dzRI (dzF 56 28 [(0, .ref (A + 232)), (1, .ref (A + (24 + l)))] [] (0, 0) k1)) := by
      rw [q_Checker_readSmallPrime_28]
      exact ((kk_badT w1 l rfl tk3).b01).after W (by decide)
    have hle := le_w (x := T c) (a := 65535) (by decide)
    by_cases h2 : w32 (T c) ≤ 65535
    · have e1 : T c = nI (w32 (T c)) := (nI_w32 _).symm
      have e2 := sp_small h2 k1
      rw [← e1] at e2
      rw [if_pos (show T c ≤ 65535 from hle.mpr (Or.inl h2)), e2, Option.bind_some] at hr
      by_cases h3 : spB (w32 (T c)) = true
      · obtain ⟨k2, b1, b2, b3⟩ := sp_setSmall8 (T c) (w1.row (isR_n hl)).row
        simp only [h3, if_neg bI_n1, g_o4 w1, tk4, b1, Option.bind_some] at hr
        rw [if_pos ⟨h2, h3⟩]
        have w2 := w1.rowup (isR_n hl) (by omega) (fun e => by omega) b2 b3
        exact Res.okk ⟨k2, _, _, hr.symm, W.tr (Wd.num w2 (fr_C1 b3 (by omega)) (fun k hk _ => gu_n hk)), ha1, gu_s _ _ _⟩
      · have h3' : spB (w32 (T c)) = false := by revert h3; cases spB (w32 (T c)) <;> simp
        simp only [h3', if_pos bI_f] at hr
        rw [if_neg (fun q => h3 q.2), ← hr]
        exact Res.er bad
    · rw [if_neg (fun q => h2 q.1), ← hr]
      refine Res.er ?_
      by_cases h3 : T c ≤ 65535
      · have h4 : T c < 0 := lt0_w.mpr (by have := hle.mp h3; omega)
        rw [if_pos h3, sp_smallNeg h4, Option.bind_some]
        exact bad
      · rw [if_neg h3]
        exact bad
  · have b := kk_take0 w l ha h1
    rw [if_neg h1, ← hr]
    exact Res.er (b.br _)
/-- the words of a number -/
theorem lp_num (hl : l < 200) {k : Nat} (hk1 : 1 ≤ k) (hk8 : k ≤ 8) (hkt : w32 (T c) = k) : ∀ (d i : Nat) {h : dzH} {o : Nat → Int32} {v : Nat → Nat} {f : Nat → Int32}, i + d = k → CW A h o v T E F → h.2 (A + (24 + l)) = some (eI 8 f) → (∀ j, j < i → f j = T (c + 1 + j)) → (∀ j, i ≤ j → j < 8 → f j = 0) → At o s (c + 1 + i) → (0 < i → o 4 = T (c + i)) →
    Res (if c + k < s then if w32 (T (c + k)) = 0 then .error (2, c + k) else if numv (tw T) c < 3 then .error (4, c) else .ok (numv (tw T) c, c + 1 + k) else .error (1, s) : rE)
      (fun e => Bad A h l o v F T E e (dzRI (dzF 58 46 [(0, .ref (A + 232)), (1, .ref (A + (24 + l))), (2, .int (nI c)), (3, .int (nI k)), (4, .int (nI i))] [] (0, 0) h)))
      (fun y => ∃ h' o' v', dzRI (dzF 58 46 [(0, .ref (A + 232)), (1, .ref (A + (24 + l))), (2, .int (nI c)), (3, .int (nI k)), (4, .int (nI i))] [] (0, 0) h) = some (1, h') ∧ Wd A h l [3, 4] o v F T E h' o' v' F ∧ At o' s y.2 ∧ v' (24 + l) = y.1)
  | 0, i, h, o, v, f, e, w, hf, hf1, hf2, ha, h4 => by
    have ek : i = k := by omega
    subst ek
    have h5 := h4 (by omega)
    have hv : wv f 8 = numv (tw T) c := by
      show wv f 8 = pv 4294967296 (fun j => w32 (T (c + 1 + j))) (w32 (T c))
      rw [hkt]
      rw [show wv f 8 = pv 4294967296 (fun j => w32 (f j)) 8 from rfl, pv_ext (m := i) (n := 8) (by omega) (fun j h1 h2 => by rw [hf2 j h1 h2]; rfl)]
      exact pv_congr (fun j hj => by rw [hf1 j hj])
    have hrow := w.row (isR_n hl)
    have hv2 := row8_at hrow hf
    obtain ⟨hs, hs4, hc3, hcs⟩ := ha
    have hc3' : o 3 = nI (c + i + 1) := by rw [hc3]; congr 1; omega
    rw [q_Checker_readNumber_46, if_neg (nI_nlt (Nat.le_refl i) (by omega)), if_pos (by omega)]
    simp only [g_o4 w, Option.bind_some, h5]
    by_cases z : w32 (T (c + i)) = 0
    · rw [if_pos z, if_pos (w32_eq0.mpr z)]
      exact Res.er ((kk_badT w l rfl hc3').b01)
    · rw [if_neg z, if_neg (fun q => z (w32_eq0.mp q)), sp_atMost (i := 2) (L := 2) rfl hrow (by decide), Option.bind_some]
      by_cases z2 : numv (tw T) c < 3
      · simp only [decide_eq_true (show v (24 + l) ≤ 2 by omega), if_neg bI_n1]
        rw [if_pos z2]
        exact Res.er ((kk_bad w l rfl rfl).br _)
      · simp only [decide_eq_false (show ¬ v (24 + l) ≤ 2 by omega), if_pos bI_f]
        rw [if_neg z2]
        refine Res.okk ⟨h, o, v, ?_, Wd.rf _ _ w, ⟨hs, hs4, by rw [hc3], hcs⟩, by omega⟩
        rw [q_Checker_readNumber_105]
        rfl
  | d + 1, i, h, o, v, f, e, w, hf, hf1, hf2, ha, h4 => by
    generalize hr : dzRI (dzF 58 46 [(0, .ref (A + 232)), (1, .ref (A + (24 + l))), (2, .int (nI c)), (3, .int (nI k)), (4, .int (nI i))] [] (0, 0) h) = r
    rw [q_Checker_readNumber_46, if_pos (nI_lt (a := i) (b := k) (by omega) (by omega))] at hr
    by_cases h1 : c + 1 + i < s
    · obtain ⟨k1, a1, W, ha1⟩ := kk_take w l ha h1
      have w1 := W.cw
      obtain ⟨g, g1, g2⟩ := w1.row (isR_n hl)
      have g3 := row8_at (w.row (isR_n hl)) hf
      have g4 : ∀ j, j < 8 → g j = f j := wv_inj (by rw [g2, g3])
      have hw := dwI_at (T (c + 1 + i)) g1 (j := i) (by omega) (by decide)
      have w2 := w1.rowup (h' := hU k1 (A + (24 + l)) (eI 8 (upd g i (T (c + 1 + i))))) (isR_n hl) (by omega) (fun e => by omega) ⟨_, hU_s _ _ _, rfl⟩ (fr.up _ _ _)
      simp only [a1, Option.bind_some, if_neg one_n0, g_o4 w1, tk4, hw, nI_1] at hr
      have W2 : Wd A h l [3, 4] o v F T E _ _ _ F := W.tr (Wd.num w2 (fr_C1 (fr.up _ _ _) (by omega)) (fun k hk _ => gu_n hk))
      have ih := lp_num hl hk1 hk8 hkt d (i + 1) (by omega) w2 (hU_s _ _ _) (fun j hj => by
        by_cases e : j = i
        · subst e; rw [pk_us]
        · rw [pk_un e, g4 j (by omega), hf1 j (by omega)]) (fun j hj hj8 => by rw [pk_un (by omega), g4 j hj8, hf2 j (by omega) hj8]) (by rw [← Nat.add_assoc]; exact ha1) (fun _ => by rw [tk4]; congr 1; omega)
      rw [hr] at ih
      revert ih
      split
      · split
        · exact fun ih => Bad.after ih W2 (by decide)
        · split
          · exact fun ih => Bad.after ih W2 (by decide)
          · rintro ⟨h', o', v', e1, e2, e3, e4⟩
            exact ⟨h', o', v', e1, W2.tr e2, e3, e4⟩
      · exact fun ih => Bad.after ih W2 (by decide)
    · have b := kk_take0 w l ha h1
      rw [if_neg (by omega), ← hr]
      exact Res.er (b.br _)
theorem kk_number (w : CW A h o v T E F) (hl : l < 200) (ha : At o s c) : Res (rdNum (tw T) s c) (fun e => Bad A h l o v F T E e (c_Checker_readNumber (A + 232) (A + (24 + l)) h))
    (fun y => ∃ h' o' v', c_Checker_readNumber (A + 232) (A + (24 + l)) h = some (1, h') ∧ Wd A h l [3, 4] o v F T E h' o' v' F ∧ At o' s y.2 ∧ v' (24 + l) = y.1) := by
  obtain ⟨fs, ho⟩ := w.o232
  generalize hr : c_Checker_readNumber (A + 232) (A + (24 + l)) h = r
  rw [cc_Checker_readNumber _ _ _ ho, q_Checker_readNumber_0] at hr
  unfold rdNum
  by_cases h1 : c < s
  · obtain ⟨k1, a1, W, ha1⟩ := kk_take w l ha h1
    have w1 := W.cw
    rw [if_pos h1]
    simp only [a1, Option.bind_some, if_neg one_n0, g_o4 w1, g_o3 w1, tk4, tk3, nI_pred] at hr
    have bad : Bad A h l o v F T E (2, c) (dzRI (dzF 58 32 [(0, .ref (A + 232)), (1, .ref (A + (24 + l))), (2, .int (nI c)), (3, .int (T c))] [] (0, 0) k1)) := by
      rw [q_Checker_readNumber_32]
      exact ((kk_badT w1 l rfl tk3).b01).after W (by decide)
    have hlt := lt_w (x := T c) (a := 1) (by decide)
    have hle := le_w (x := T c) (a := 8) (by decide)
    by_cases h2 : 1 ≤ w32 (T c) ∧ w32 (T c) ≤ 8
    · rw [if_pos h2]
      rw [if_neg (show ¬ T c < 1 from fun q => by have := hlt.mp q; omega), if_pos (show T c ≤ 8 from hle.mpr (Or.inl h2.2))] at hr
      obtain ⟨g, g1, g2⟩ := w1.row (isR_n hl)
      rw [sp_fill 0 g1 (by decide), Option.bind_some] at hr
      have w2 := w1.rowup (h' := hU k1 (A + (24 + l)) (eI 8 (fun j => if j < 8 then 0 else g j))) (isR_n hl) (by omega) (fun e => by omega) ⟨_, hU_s _ _ _, rfl⟩ (fr.up _ _ _)
      have W2 : Wd A h l [3, 4] o v F T E _ _ _ F := W.tr (Wd.num w2 (fr_C1 (fr.up _ _ _) (by omega)) (fun k hk _ => gu_n hk))
      have ih := lp_num (s := s) (c := c) hl h2.1 h2.2 rfl (w32 (T c)) 0 (by omega) w2 (hU_s _ _ _) (fun j hj => by omega) (fun j _ hj8 => if_pos hj8) ha1 (fun h0 => by omega)
      rw [nI_0, nI_w32, hr] at ih
      revert ih
      split
      · split
        · exact fun ih => Bad.after ih W2 (by decide)
        · split
          · exact fun ih => Bad.after ih W2 (by decide)
          · rintro ⟨h', o', v', e1, e2, e3, e4⟩
            exact ⟨h', o', v', e1, W2.tr e2, e3, e4⟩
      · exact fun ih => Bad.after ih W2 (by decide)
    · rw [if_neg h2, ← hr]
      refine Res.er ?_
      by_cases h3 : T c < 1
      · rw [if_pos h3]
        exact bad
      · rw [if_neg h3, if_neg (show ¬ T c ≤ 8 from fun q => h3 (hlt.mpr (by have := hle.mp q; omega)))]
        exact bad
  · have b := kk_take0 w l ha h1
    rw [if_neg h1, ← hr]
    exact Res.er (b.br _)
theorem kk_root (w : CW A h o v T E F) (hl : l < 200) (ha : At o s c) : Res (rdRt (tw T) s (v (24 + l)) c) (fun e => Bad A h l o v F T E e (c_Checker_readRoot (A + 232) (A + (24 + l)) h))
    (fun _ => ∃ h' o', c_Checker_readRoot (A + 232) (A + (24 + l)) h = some (1, h') ∧ Wd A h l [3, 4, 6] o v F T E h' o' v F ∧ At o' s (c + 1) ∧ o' 6 = T c) := by
  obtain ⟨fs, ho⟩ := w.o232
  generalize hr : c_Checker_readRoot (A + 232) (A + (24 + l)) h = r
  rw [cc_Checker_readRoot _ _ _ ho, q_Checker_readRoot_0] at hr
  unfold rdRt
  by_cases h1 : c < s
  · obtain ⟨k1, a1, W, ha1⟩ := kk_take w l ha h1
    have w1 := W.cw
    obtain ⟨k2, b1, b2, b3⟩ := p_o6 w1 (T c)
    have W2 : Wd A h l [3, 4, 6] o v F T E _ _ _ F := (W.mono (by decide)).tr (Wd.int b2 b3 (by decide))
    rw [if_pos h1]
    simp only [a1, Option.bind_some, if_neg one_n0, g_o4 w1, tk4, b1, g_o6 b2, pk_us, sp_isWit (T c) (b2.row (isR_n hl))] at hr
    by_cases h2 : isWit (w32 (T c)) (v (24 + l))
    · rw [if_pos h2]
      rw [decide_eq_true h2, if_neg bI_n1, q_Checker_readRoot_37] at hr
      refine Res.okk ⟨k2, _, hr.symm, W2, ⟨?_, ha1.2.1, ?_, ha1.2.2.2⟩, pk_us⟩
      · rw [pk_un (by decide)]; exact ha1.1
      · rw [pk_un (by decide)]; exact ha1.2.2.1
    · rw [if_neg h2]
      rw [decide_eq_false h2, if_pos bI_f] at hr
      rw [← hr]
      exact Res.er (((kk_badT (c := c) b2 l (x := 8) (a := 8) rfl (by rw [pk_un (by decide), tk3])).br _).after W2 (by decide))
  · have b := kk_take0 w l ha h1
    rw [if_neg h1, ← hr]
    exact Res.er (b.br _)
theorem kk_fnum (w : CW A h o v T E F) {j q : Nat} (hj : j < 40) (hq : q < 200) (hF : F 0 j = nI q) : c_Checker_factorNumber (A + 232) (nI j) h = some (A + (24 + q), h) := by
  obtain ⟨fs, ho⟩ := w.o232
  rw [cc_Checker_factorNumber _ _ _ ho, q_Checker_factorNumber_0]
  simp only [g_ck1 w, g_ck4 w, g_lines0 w, g_cf0 w, Option.bind_some, r_F0 w hj, hF, g_nm w hq]
  rfl
theorem uF_s {F : Nat → Nat → Int32} {r j : Nat} {x : Int32} : uF F r j x r j = x := by
  unfold uF
  rw [if_pos rfl, pk_us]
theorem uF_j {F : Nat → Nat → Int32} {r j i : Nat} {x : Int32} (h : i ≠ j) : uF F r j x r i = F r i := by
  unfold uF
  rw [if_pos rfl, pk_un h]
theorem uF_r {F : Nat → Nat → Int32} {r j q : Nat} {x : Int32} (h : q ≠ r) : uF F r j x q = F q := by
  unfold uF
  rw [if_neg h]
theorem kk_fline (w : CW A h o v T E F) (hl : l < 200) {W c f : Nat} (hf : f < 40) (hfl : ∀ j, j < f → F 0 j = T (c + 1 + W * j) ∧ w32 (T (c + 1 + W * j)) < l) (ha : At o s (c + 1 + W * f)) : Res (rdFL (tw T) s (fun i => v (24 + i)) l W c f) (fun e => Bad A h l o v F T E e (c_Checker_readFactorLine (A + 232) (nI f) (nI l) h))
    (fun _ => ∃ h' o', c_Checker_readFactorLine (A + 232) (nI f) (nI l) h = some (1, h') ∧ Wd A h l [3, 4] o v F T E h' o' v (uF F 0 f (T (c + 1 + W * f))) ∧ At o' s (c + 1 + W * f + 1) ∧ w32 (T (c + 1 + W * f)) < l) := by
  obtain ⟨fs, ho⟩ := w.o232
  generalize hr : c_Checker_readFactorLine (A + 232) (nI f) (nI l) h = r
  rw [cc_Checker_readFactorLine _ _ _ _ ho, q_Checker_readFactorLine_0] at hr
  unfold rdFL
  by_cases h1 : c + 1 + W * f < s
  · obtain ⟨k1, a1, W1, ha1⟩ := kk_take w l ha h1
    have w1 := W1.cw
    rw [if_pos h1]
    simp only [a1, Option.bind_some, if_neg one_n0, g_o4 w1, tk4, g_ck4 w1, g_cf0 w1] at hr
    have bad : Bad A h l o v F T E (2, c + 1 + W * f) (dzRI (dzF 62 24 [(0, .ref (A + 232)), (1, .int (nI f)), (2, .int (nI l))] [] (0, 0) k1)) := by
      rw [q_Checker_readFactorLine_24]
      exact ((kk_badT w1 l rfl tk3).b01).after W1 (by decide)
    have hlt := lt_w (x := T (c + 1 + W * f)) (a := l) (by omega)
    by_cases h2 : w32 (T (c + 1 + W * f)) < l
    · rw [if_pos h2]
      obtain ⟨k2, b1, b2, b3⟩ := w_F0 w1 (j := f) (T (c + 1 + W * f)) hf
      have W2 : Wd A h l [3, 4] o v F T E _ _ _ _ := W1.tr (Wd.fac b2 b3 (by decide))
      rw [if_neg (fun q => by have := lt0_w.mp q; omega), if_pos (hlt.mpr (Or.inl h2)), b1, Option.bind_some] at hr
      by_cases h3 : f = 0
      · rw [if_pos (Or.inl h3)]
        rw [if_pos (by rw [h3]; rfl), q_Checker_readFactorLine_73] at hr
        exact Res.okk ⟨k2, _, hr.symm, W2, ha1, h2⟩
      · obtain ⟨hp1, hp2⟩ := hfl (f - 1) (by omega)
        have n1 := kk_fnum b2 (j := f - 1) (q := w32 (T (c + 1 + W * (f - 1)))) (by omega) (by omega) (by rw [uF_j (by omega), hp1, nI_w32])
        have n2 := kk_fnum b2 (j := f) (q := w32 (T (c + 1 + W * f))) hf (by omega) (by rw [uF_s, nI_w32])
        rw [if_neg (nI_ne0 (by omega) (by omega)), nI_sub1 (by omega), n1, Option.bind_some] at hr
        dsimp only at hr
        rw [n2, Option.bind_some] at hr
        dsimp only at hr
        rw [sp_order8 (b2.row (isR_n (by omega))) (b2.row (isR_n (by omega))), Option.bind_some] at hr
        dsimp only at hr
        by_cases h4 : v (24 + w32 (T (c + 1 + W * (f - 1)))) < v (24 + w32 (T (c + 1 + W * f)))
        · rw [if_pos (Or.inr h4)]
          rw [if_pos (ordI_lt.mpr h4), q_Checker_readFactorLine_73] at hr
          exact Res.okk ⟨k2, _, hr.symm, W2, ha1, h2⟩
        · rw [if_neg (fun q => by rcases q with q | q; exact h3 q; exact h4 q)]
          rw [if_neg (fun q => h4 (ordI_lt.mp q))] at hr
          rw [← hr]
          exact Res.er (((kk_badT b2 l rfl tk3).br _).after W2 (by decide))
    · rw [if_neg h2, ← hr]
      refine Res.er ?_
      by_cases h3 : T (c + 1 + W * f) < 0
      · rw [if_pos h3]
        exact bad
      · rw [if_neg h3, if_neg (fun q => h3 (lt0_w.mpr (by have := hlt.mp q; omega)))]
        exact bad
  · have b := kk_take0 w l ha h1
    rw [if_neg h1, ← hr]
    exact Res.er (b.br _)
theorem kk_exp (w : CW A h o v T E F) {p f : Nat} (hf : f < 40) (ha : At o s p) : Res (rdEx (tw T) s p) (fun e => Bad A h l o v F T E e (c_Checker_readExponent (A + 232) (nI f) h))
    (fun _ => ∃ h' o', c_Checker_readExponent (A + 232) (nI f) h = some (1, h') ∧ Wd A h l [3, 4] o v F T E h' o' v (uF F 1 f (T p)) ∧ At o' s (p + 1)) := by
  obtain ⟨fs, ho⟩ := w.o232
  generalize hr : c_Checker_readExponent (A + 232) (nI f) h = r
  rw [cc_Checker_readExponent _ _ _ ho, q_Checker_readExponent_0] at hr
  unfold rdEx
  by_cases h1 : p < s
  · obtain ⟨k1, a1, W1, ha1⟩ := kk_take w l ha h1
    have w1 := W1.cw
    obtain ⟨k2, b1, b2, b3⟩ := w_F1 w1 (j := f) (T p) hf
    have W2 : Wd A h l [3, 4] o v F T E _ _ _ _ := W1.tr (Wd.fac b2 b3 (by decide))
    rw [if_pos h1]
    simp only [a1, Option.bind_some, if_neg one_n0, g_o4 w1, tk4, g_ck4 w1, g_cf1 w1, b1, g_o4 b2] at hr
    have bad : Bad A h l o v F T E (2, p) (dzRI (dzF 63 40 [(0, .ref (A + 232)), (1, .int (nI f))] [] (0, 0) k2)) := by
      rw [q_Checker_readExponent_40]
      exact ((kk_badT b2 l rfl tk3).br _).after W2 (by decide)
    have hlt := lt_w (x := T p) (a := 1) (by decide)
    have hle := le_w (x := T p) (a := 255) (by decide)
    by_cases h2 : 1 ≤ w32 (T p) ∧ w32 (T p) ≤ 255
    · rw [if_pos h2]
      rw [if_neg (show ¬ T p < 1 from fun q => by have := hlt.mp q; omega), if_pos (show T p ≤ 255 from hle.mpr (Or.inl h2.2)), q_Checker_readExponent_48] at hr
      exact Res.okk ⟨k2, _, hr.symm, W2, ha1⟩
    · rw [if_neg h2, ← hr]
      refine Res.er ?_
      by_cases h3 : T p < 1
      · rw [if_pos h3]
        exact bad
      · rw [if_neg h3, if_neg (show ¬ T p ≤ 255 from fun q => h3 (hlt.mpr (by have := hle.mp q; omega)))]
        exact bad
  · have b := kk_take0 w l ha h1
    rw [if_neg h1, ← hr]
    exact Res.er (b.br _)
/-- the factors as they were read, W ints each, their count at c -/
def Fac (T : Nat → Int32) (W c m : Nat) (F : Nat → Nat → Int32) : Prop := ∀ j, j < m → F 0 j = T (c + 1 + W * j) ∧ F 1 j = T (c + 1 + W * j + 1) ∧ (W = 3 → F 2 j = T (c + 1 + W * j + 2))
theorem lp_facs (hl : l < 200) {W c m : Nat} (hm : m ≤ 40) (hW : W = 2 ∨ W = 3) : ∀ (d f : Nat) {h : dzH} {o : Nat → Int32} {F : Nat → Nat → Int32}, f + d = m → CW A h o v T E F → o 5 = nI W → o 10 = nI m → Fac T W c f F → (∀ j, j < f → w32 (T (c + 1 + W * j)) < l) → At o s (c + 1 + W * f) →
    Res (rdFac (tw T) s (fun i => v (24 + i)) l W c d f)
      (fun e => Bad A h l o v F T E e (dzRI (dzF 64 55 [(0, .ref (A + 232)), (1, .int (nI l)), (2, .int (nI f))] [] (0, 0) h)))
      (fun _ => ∃ h' o' F', dzRI (dzF 64 55 [(0, .ref (A + 232)), (1, .int (nI l)), (2, .int (nI f))] [] (0, 0) h) = some (1, h') ∧ Wd A h l [3, 4] o v F T E h' o' v F' ∧ At o' s (c + 1 + W * m) ∧ Fac T W c m F')
  | 0, f, h, o, F, e, w, h5, h10, hF, hq, ha => by
    have ef : f = m := by omega
    subst ef
    rw [q_Checker_readFactors_55]
    simp only [g_ck4 w, g_o10 w, Option.bind_some, h10, if_neg (nI_nlt (Nat.le_refl f) (by omega))]
    exact Res.okk ⟨h, o, F, rfl, Wd.rf _ _ w, ha, hF⟩
  | d + 1, f, h, o, F, e, w, h5, h10, hF, hq, ha => by
    generalize hr : dzRI (dzF 64 55 [(0, .ref (A + 232)), (1, .int (nI l)), (2, .int (nI f))] [] (0, 0) h) = r
    rw [q_Checker_readFactors_55] at hr
    simp only [g_ck4 w, g_o10 w, Option.bind_some, h10, if_pos (nI_lt (a := f) (b := m) (by omega) (by omega))] at hr
    rw [rdFac_s]
    have hfl := kk_fline w hl (W := W) (c := c) (f := f) (by omega) (fun j hj => ⟨(hF j hj).1, hq j hj⟩) ha
    cases hx : rdFL (tw T) s (fun i => v (24 + i)) l W c f with
    | error e =>
      rw [hx] at hfl
      rw [← hr]
      exact Res.er (Bad.br hfl _)
    | ok u =>
      rw [hx] at hfl
      obtain ⟨k1, o1, a1, W1, ha1, hql⟩ := hfl
      have w1 := W1.cw
      have hex := kk_exp (l := l) w1 (f := f) (by omega) ha1
      dsimp only
      simp only [a1, Option.bind_some, if_neg one_n0] at hr
      cases hy : rdEx (tw T) s (c + 1 + W * f + 1) with
      | error e =>
        rw [hy] at hex
        rw [← hr]
        exact Res.er ((Bad.br hex _).after W1 (by decide))
      | ok u2 =>
        rw [hy] at hex
        obtain ⟨k2, o2, b1, W2, ha2⟩ := hex
        have w2 := W2.cw
        have W12 := W1.tr W2
        dsimp only
        have h5' : o2 5 = nI W := by rw [W12.ke (by decide), h5]
        have h10' : o2 10 = nI m := by rw [W12.ke (by decide), h10]
        simp only [b1, Option.bind_some, if_neg one_n0, g_o5 w2, h5'] at hr
        have hq' : ∀ j, j < f + 1 → w32 (T (c + 1 + W * j)) < l := fun j hj => by
          by_cases e : j = f
          · rw [e]; exact hql
          · exact hq j (by omega)
        rcases hW with hW2 | hW3
        · subst hW2
          rw [if_pos (Or.inl rfl)]
          rw [if_neg (by decide), q_Checker_readFactors_115, nI_1] at hr
          have ih := lp_facs hl (W := 2) (c := c) hm (Or.inl rfl) d (f + 1) (by omega) w2 h5' h10' (fun j hj => by
            by_cases e : j = f
            · subst e
              refine ⟨?_, uF_s, fun q => by omega⟩
              rw [uF_r (by decide), uF_s]
            · obtain ⟨z1, z2, z3⟩ := hF j (by omega)
              refine ⟨?_, ?_, fun q => by omega⟩
              · rw [uF_r (by decide), uF_j e, z1]
              · rw [uF_j e, uF_r (by decide), z2]) hq' (by rw [show c + 1 + 2 * (f + 1) = c + 1 + 2 * f + 1 + 1 by omega]; exact ha2)
          rw [hr] at ih
          revert ih
          cases rdFac (tw T) s (fun i => v (24 + i)) l 2 c d (f + 1) with
          | error e => exact fun ih => Bad.after ih W12 (by decide)
          | ok u3 =>
            rintro ⟨h', o', F', e1, e2, e3⟩
            exact ⟨h', o', F', e1, W12.tr e2, e3⟩
        · subst hW3
          rw [if_pos (show nI 3 = 3 from rfl)] at hr
          by_cases h6 : c + 1 + 3 * f + 2 < s
          · obtain ⟨k3, c1, W3, ha3⟩ := kk_take w2 l ha2 h6
            have w3 := W3.cw
            obtain ⟨k4, d1, d2, d3⟩ := w_F2 w3 (j := f) (T (c + 1 + 3 * f + 1 + 1)) (by omega)
            have W4 : Wd A h l [3, 4] o v F T E _ _ _ _ := (W12.tr W3).tr (Wd.fac d2 d3 (by decide))
            simp only [c1, Option.bind_some, if_neg one_n0, g_ck4 w3, g_cf2 w3, g_o4 w3, tk4, d1] at hr
            rw [if_pos (Or.inr h6)]
            rw [q_Checker_readFactors_115, nI_1] at hr
            have ih := lp_facs hl (W := 3) (c := c) hm (Or.inr rfl) d (f + 1) (by omega) d2 (by rw [W4.ke (by decide), h5]) (by rw [W4.ke (by decide), h10]) (fun j hj => by
              by_cases e : j = f
              · subst e
                refine ⟨?_, ?_, fun _ => uF_s⟩
                · rw [uF_r (by decide), uF_r (by decide), uF_s]
                · rw [uF_r (by decide), uF_s]
              · obtain ⟨z1, z2, z3⟩ := hF j (by omega)
                refine ⟨?_, ?_, fun _ => ?_⟩
                · rw [uF_r (by decide), uF_r (by decide), uF_j e, z1]
                · rw [uF_r (by decide), uF_j e, uF_r (by decide), z2]
                · rw [uF_j e, uF_r (by decide), uF_r (by decide), z3 rfl]) hq' (by rw [show c + 1 + 3 * (f + 1) = c + 1 + 3 * f + 1 + 1 + 1 by omega]; exact ha3)
            rw [hr] at ih
            revert ih
            cases rdFac (tw T) s (fun i => v (24 + i)) l 3 c d (f + 1) with
            | error e => exact fun ih => Bad.after ih W4 (by decide)
            | ok u3 =>
              rintro ⟨h', o', F', e1, e2, e3⟩
              exact ⟨h', o', F', e1, W4.tr e2, e3⟩
          · rw [if_neg (fun q => by rcases q with q | q; exact absurd q (by decide); exact h6 q), ← hr]
            exact Res.er (((kk_take0 w2 l ha2 h6).br _).after W12 (by decide))
theorem kk_facs (w : CW A h o v T E F) (hl : l < 200) {W c : Nat} (hW : W = 2 ∨ W = 3) (h5 : o 5 = nI W) (ha : At o s c) : Res (rdFacs (tw T) s (fun i => v (24 + i)) l W c)
      (fun e => Bad A h l o v F T E e (c_Checker_readFactors (A + 232) (nI l) h))
      (fun _ => ∃ h' o' F', c_Checker_readFactors (A + 232) (nI l) h = some (1, h') ∧ Wd A h l [3, 4, 7, 10] o v F T E h' o' v F' ∧ At o' s (c + 1 + W * w32 (T c)) ∧ Fac T W c (w32 (T c)) F' ∧ o' 7 = nI c ∧ o' 10 = nI (w32 (T c))) := by
  obtain ⟨fs, ho⟩ := w.o232
  generalize hr : c_Checker_readFactors (A + 232) (nI l) h = r
  rw [cc_Checker_readFactors _ _ _ ho, q_Checker_readFactors_0] at hr
  unfold rdFacs
  by_cases h1 : c < s
  · obtain ⟨k1, a1, W1, ha1⟩ := kk_take w l ha h1
    have w1 := W1.cw
    rw [if_pos h1]
    simp only [a1, Option.bind_some, if_neg one_n0, g_o4 w1, g_o3 w1, tk4, tk3, nI_pred] at hr
    have bad : Bad A h l o v F T E (2, c) (dzRI (dzF 64 26 [(0, .ref (A + 232)), (1, .int (nI l))] [] (0, 0) k1)) := by
      rw [q_Checker_readFactors_26]
      exact ((kk_badT w1 l rfl tk3).b01).after W1 (by decide)
    have hlt := lt_w (x := T c) (a := 1) (by decide)
    have hle := le_w (x := T c) (a := 40) (by decide)
    by_cases h2 : 1 ≤ w32 (T c) ∧ w32 (T c) ≤ 40
    · obtain ⟨k2, b1, b2, b3⟩ := p_o7 w1 (nI c)
      have e4 : upd (upd (upd o 4 (T c)) 3 (nI (c + 1))) 7 (nI c) 4 = T c := by rw [pk_un (by decide), tk4]
      obtain ⟨k3, c1, c2, c3⟩ := p_o10 b2 (T c)
      have W3 : Wd A h l [3, 4, 7, 10] o v F T E _ _ _ _ := ((W1.mono (by decide)).tr (Wd.int b2 b3 (by decide))).tr (Wd.int c2 c3 (by decide))
      rw [if_pos h2]
      rw [if_neg (show ¬ T c < 1 from fun q => by have := hlt.mp q; omega), if_pos (show T c ≤ 40 from hle.mpr (Or.inl h2.2))] at hr
      simp only [b1, Option.bind_some, g_ck4 b2, g_o4 b2, e4, c1] at hr
      have ih := lp_facs (s := s) hl (W := W) (c := c) h2.2 hW (w32 (T c)) 0 (by omega) c2 (by rw [W3.ke (by decide), h5]) (by rw [pk_us, nI_w32]) (fun j hj => by omega) (fun j hj => by omega) (by
        rw [Nat.mul_zero]
        refine ⟨?_, ha1.2.1, ?_, ha1.2.2.2⟩
        · rw [pk_un (by decide), pk_un (by decide)]; exact ha1.1
        · rw [pk_un (by decide), pk_un (by decide)]; exact ha1.2.2.1)
      rw [nI_0, hr] at ih
      revert ih
      show Res (rdFac (tw T) s (fun i => v (24 + i)) l W c (w32 (T c)) 0) _ _ → Res (rdFac (tw T) s (fun i => v (24 + i)) l W c (w32 (T c)) 0) _ _
      cases rdFac (tw T) s (fun i => v (24 + i)) l W c (w32 (T c)) 0 with
      | error e => exact fun ih => Bad.after ih W3 (by decide)
      | ok u =>
        rintro ⟨h', o', F', e1, e2, e3, e5⟩
        exact ⟨h', o', F', e1, W3.tr (e2.mono (by decide)), e3, e5, by rw [e2.ke (by decide), pk_un (by decide), pk_us], by rw [e2.ke (by decide), pk_us, nI_w32]⟩
    · rw [if_neg h2, ← hr]
      refine Res.er ?_
      by_cases h3 : T c < 1
      · rw [if_pos h3]
        exact bad
      · rw [if_neg h3, if_neg (show ¬ T c ≤ 40 from fun q => h3 (hlt.mpr (by have := hle.mp q; omega)))]
        exact bad
  · have b := kk_take0 w l ha h1
    rw [if_neg h1, ← hr]
    exact Res.er (b.br _)
end
