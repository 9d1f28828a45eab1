/-! the class's maker: dividing out, planning lines, keeping factors in order -/
section
variable {A : Nat} {h : dzH} {o : Nat → Int32} {v : Nat → Nat} {T E : Nat → Int32} {F : Nat → Nat → Int32} {n k m s : Nat}
def Mk (A : Nat) (h : dzH) (n : Nat) (o : Nat → Int32) (v : Nat → Nat) (F : Nat → Nat → Int32) (T E : Nat → Int32) (h' : dzH) (o' : Nat → Int32) (v' : Nat → Nat) (F' : Nat → Nat → Int32) : Prop :=
  CW A h' o' v' T E F' ∧ fr h h' (inC A) ∧ keL [11, 12, 13] o o' ∧ (∀ k, k < 24 + n ∨ (226 ≤ k ∧ k < 229) → v' k = v k) ∧ ∀ r, r < 3 → F' r = F r
theorem Mk.rf (n : Nat) (w : CW A h o v T E F) : Mk A h n o v F T E h o v F := ⟨w, fr.rf _ _, fun _ _ => rfl, fun _ _ => rfl, fun _ _ => rfl⟩
theorem Mk.tr {h1 h2 : dzH} {o1 o2 : Nat → Int32} {v1 v2 : Nat → Nat} {F1 F2 : Nat → Nat → Int32} (a : Mk A h n o v F T E h1 o1 v1 F1) (b : Mk A h1 n o1 v1 F1 T E h2 o2 v2 F2) : Mk A h n o v F T E h2 o2 v2 F2 :=
  ⟨b.1, a.2.1.tr b.2.1, a.2.2.1.tr b.2.2.1, fun k hk => (b.2.2.2.1 k hk).trans (a.2.2.2.1 k hk), fun r hr => (b.2.2.2.2 r hr).trans (a.2.2.2.2 r hr)⟩
theorem Mk.rows {h1 : dzH} {v1 : Nat → Nat} (w : CW A h1 o v1 T E F) (hf : fr h h1 (inC A)) (hv : ∀ k, k < 24 + n ∨ (226 ≤ k ∧ k < 229) → v1 k = v k) : Mk A h n o v F T E h1 o v1 F := ⟨w, hf, fun _ _ => rfl, hv, fun _ _ => rfl⟩
theorem Mk.ke {h1 : dzH} {o1 : Nat → Int32} {v1 : Nat → Nat} {F1 : Nat → Nat → Int32} (a : Mk A h n o v F T E h1 o1 v1 F1) {k : Nat} (hk : k ∉ [11, 12, 13]) : o1 k = o k := a.2.2.1 k hk
theorem kk_mfn (w : CW A h o v T E F) {j q : Nat} (hj : j < 40) (hq : q < 200) (hF : F 3 j = nI q) : c_Maker_factorNumber (A + 238) (nI j) h = some (A + (24 + q), h) := by
  obtain ⟨fs, ho⟩ := w.o238
  rw [cc_Maker_factorNumber _ _ _ ho, q_Maker_factorNumber_0]
  simp only [g_mk1 w, g_mk4 w, g_lines0 w, g_mf0 w, Option.bind_some, r_F3 w hj, hF, g_nm w hq]
  rfl
theorem lp_div {r : Nat} (hr : isR r) (r1 : r ≠ 243) (r2 : r ≠ 244) (r3 : r ≠ 245) : ∀ (d e : Nat) {h : dzH} {v : Nat → Nat}, e + d = 255 → CW A h o v T E F → 0 < v r → ∃ h' v', dzRI (dzF 87 4 [(0, .ref (A + 238)), (1, .ref (A + r)), (2, .int (nI e)), (3, .int 1)] [] (0, 0) h) = some (nI (e + (mlt (v r) d (v 243)).1), h') ∧ CW A h' o v' T E F ∧ fr h h' (inC A) ∧ v' 243 = (mlt (v r) d (v 243)).2 ∧ ∀ k, k ≠ 243 → k ≠ 244 → k ≠ 245 → v' k = v k
  | 0, e, h, v, he, w, h0 => by
    have ee : e = 255 := by omega
    subst ee
    refine ⟨h, v, ?_, w, fr.rf _ _, rfl, fun _ _ _ _ => rfl⟩
    rw [q_Maker_divideOut_4, if_neg one_n0, if_neg (by decide)]
    rfl
  | d + 1, e, h, v, he, w, h0 => by
    obtain ⟨k1, a1, a2, a3⟩ := cw_quot w (x := 243) (y := r) (t := 244) (r := 245) (isR_m (by decide) (by decide)) hr (isR_m (by decide) (by decide)) (by decide) (by decide) (isR_m (by decide) (by decide)) (by decide) (by decide) (by decide) h0
    have hz := sp_isZ a2 (k := 245) (isR_m (by decide) (by decide))
    rw [gu_n (show 245 ≠ 244 by decide), gu_s] at hz
    generalize hrr : dzRI (dzF 87 4 [(0, .ref (A + 238)), (1, .ref (A + r)), (2, .int (nI e)), (3, .int 1)] [] (0, 0) h) = R
    rw [q_Maker_divideOut_4, if_neg one_n0, if_pos (show nI e < 255 from nI_lt (b := 255) (by omega) (by decide))] at hrr
    simp only [g_mk2 w, g_mk5 w, g_mk6 w, g_mk7 w, Option.bind_some, a1, g_mk7 a2, hz, g_mk6 a2, g_mk5 a2] at hrr
    by_cases hd : v 243 % v r = 0
    · obtain ⟨k2, b1, b2, b3⟩ := cw_copy a2 (r := 244) (k := 243) (isR_m (by decide) (by decide)) (isR_m (by decide) (by decide)) (by decide) (by decide)
      rw [gu_s] at b2
      have er : gu (gu (gu v 245 (v 243 % v r)) 244 (v 243 / v r)) 243 (v 243 / v r) r = v r := by rw [gu_n r1, gu_n r2, gu_n r3]
      obtain ⟨h', v', c1, c2, c3, c4, c5⟩ := lp_div hr r1 r2 r3 d (e + 1) (by omega) b2 (by rw [er]; exact h0)
      rw [er, gu_s] at c1 c4
      rw [decide_eq_true hd, if_neg bI_n1, b1, Option.bind_some, nI_1] at hrr
      rw [mlt_y hd]
      refine ⟨h', v', ?_, c2, (a3.tr b3).tr c3, c4, fun k h1 h2 h3 => by rw [c5 k h1 h2 h3, gu_n h1, gu_n h2, gu_n h3]⟩
      rw [← hrr]
      rw [show bI true = 1 from rfl, c1]
      congr 2
      show nI (e + 1 + _) = nI (e + (_ + 1))
      congr 1
      omega
    · rw [decide_eq_false hd, if_pos bI_f, q_Maker_divideOut_4, if_pos bI_f] at hrr
      rw [mlt_n hd]
      exact ⟨k1, _, hrr.symm, a2, a3, by rw [gu_n (by decide), gu_n (by decide)], fun k h1 h2 h3 => by rw [gu_n h2, gu_n h3]⟩
theorem kk_divOut (w : CW A h o v T E F) {r : Nat} (hr : isR r) (r1 : r ≠ 243) (r2 : r ≠ 244) (r3 : r ≠ 245) (h0 : 0 < v r) : ∃ h' v', c_Maker_divideOut (A + 238) (A + r) h = some (nI (mlt (v r) 255 (v 243)).1, h') ∧ CW A h' o v' T E F ∧ fr h h' (inC A) ∧ v' 243 = (mlt (v r) 255 (v 243)).2 ∧ ∀ k, k ≠ 243 → k ≠ 244 → k ≠ 245 → v' k = v k := by
  obtain ⟨fs, ho⟩ := w.o238
  obtain ⟨h', v', c1, c2⟩ := lp_div hr r1 r2 r3 255 0 rfl w h0
  refine ⟨h', v', ?_, c2⟩
  rw [cc_Maker_divideOut _ _ _ ho, q_Maker_divideOut_0, ← nI_0, c1, Nat.zero_add]
theorem kk_plan (w : CW A h o v T E F) (h1 : o 1 = nI n) (h11 : o 11 = nI k) (hlt : n + k < 200) {r : Nat} (hr : isR r) : ∃ h', c_Maker_planSmallLine (A + 238) (A + r) h = some (1, h') ∧ CW A h' (upd o 11 (nI (k + 1))) (gu v (24 + (n + k)) (v r)) T E F ∧ fr h h' (inC A) := by
  obtain ⟨fs, ho⟩ := w.o238
  obtain ⟨k1, a1, a2, a3⟩ := cw_copy w hr (isR_n hlt) (by omega) (by omega)
  obtain ⟨k2, b1, b2, b3⟩ := p_o11 a2 (nI (k + 1))
  refine ⟨k2, ?_, b2, a3.tr b3⟩
  rw [cc_Maker_planSmallLine _ _ _ ho, q_Maker_planSmallLine_0]
  simp only [g_mk1 w, g_o1 w, g_o11 w, h1, h11, Option.bind_some, nI_add, if_pos (show nI (n + k) < 200 from nI_lt hlt (by decide)), g_lines0 w, g_nm w hlt, a1, g_o11 a2, nI_1, b1]
  rfl
theorem kk_plan0 (w : CW A h o v T E F) (h1 : o 1 = nI n) (h11 : o 11 = nI k) (hn : n ≤ 200) (hk : k ≤ 200) (hlt : ¬ n + k < 200) (r : Nat) : c_Maker_planSmallLine (A + 238) (A + r) h = some (0, h) := by
  obtain ⟨fs, ho⟩ := w.o238
  rw [cc_Maker_planSmallLine _ _ _ ho, q_Maker_planSmallLine_0]
  simp only [g_mk1 w, g_o1 w, g_o11 w, h1, h11, Option.bind_some, nI_add]
  rw [if_neg (show ¬ nI (n + k) < 200 from nI_nlt (b := 200) (by omega) (by omega))]
  rfl
theorem kk_hasRoom (w : CW A h o v T E F) (h0 : o 0 = nI s) (hs : s ≤ 4000) (h1 : o 1 = nI n) (h11 : o 11 = nI k) (hn : n ≤ 200) (hk : k ≤ 200) {i : Nat} (hi : i ≤ 4000) : c_Maker_hasRoom (A + 238) (nI i) h = some (bI (decide (n + k + (if i = 0 then 0 else 1) ≤ 200 ∧ s + 2 * k + i ≤ 4000)), h) := by
  obtain ⟨fs, ho⟩ := w.o238
  have key : ∀ j, j ≤ 1 → dzRI (dzF 85 9 [(0, .ref (A + 238)), (1, .int (nI i))] [.int (nI j)] (0, 0) h) = some (bI (decide (n + k + j ≤ 200 ∧ s + 2 * k + i ≤ 4000)), h) := by
    intro j hj
    have hroom := kk_room w
    rw [h0, show (4000 : Int32) = nI 4000 from rfl, pk_sub hs] at hroom
    rw [q_Maker_hasRoom_9]
    simp only [g_mk1 w, g_o1 w, g_o11 w, h1, h11, Option.bind_some, nI_add, g_mk0 w, hroom]
    rw [show (2 : Int32) = nI 2 from rfl, pk_mul, nI_add]
    by_cases z1 : n + k + j ≤ 200
    · rw [if_pos (show nI (n + k + j) ≤ 200 from nI_le (b := 200) z1 (by decide))]
      by_cases z2 : s + 2 * k + i ≤ 4000
      · rw [if_pos (nI_le (by omega) (by omega)), decide_eq_true ⟨z1, z2⟩]
        rfl
      · rw [if_neg (nI_ge (by omega) (by omega)), decide_eq_false (fun q => z2 q.2)]
        rfl
    · rw [if_neg (show ¬ nI (n + k + j) ≤ 200 from nI_ge (a := 200) (by omega) (by omega)), decide_eq_false (fun q => z1 q.1)]
      rfl
  rw [cc_Maker_hasRoom _ _ _ ho, q_Maker_hasRoom_0]
  by_cases hz : i = 0
  · rw [if_pos (by rw [hz]; rfl), if_pos hz]
    exact key 0 (by decide)
  · rw [if_neg (nI_ne0 (by omega) (by omega)), if_neg hz]
    exact key 1 (by decide)
-- factors in order
theorem lp_ins {l e x : Nat} (hl : l < 200) (hm : m < 40) {a b : Nat → Nat} (ha : ∀ j, j < m → a j < 200) (hx : v (24 + l) = x) (hasc : asc m (fun j => v (24 + a j))) (hne : ∀ j, j < m → v (24 + a j) ≠ x) (h13 : o 13 = nI m) : ∀ (f : Nat) {h : dzH} {F : Nat → Nat → Int32}, f ≤ m → CW A h o v T E F → (∀ j, j < f → F 3 j = nI (a j) ∧ F 4 j = nI (b j)) → (∀ j, f < j → j ≤ m → F 3 j = nI (a (j - 1)) ∧ F 4 j = nI (b (j - 1))) → (∀ j, f ≤ j → j < m → x < v (24 + a j)) →
    ∃ h' f' F', dzRI (dzF 89 22 [(0, .ref (A + 238)), (1, .int (nI l)), (2, .int (nI e)), (3, .int (nI f))] [] (0, 0) h) = some (1, h') ∧ CW A h' (upd o 13 (nI (m + 1))) v T E F' ∧ fr h h' (inC A) ∧ f' ≤ m ∧ (∀ j, j < f' → v (24 + a j) < x) ∧ (∀ j, f' ≤ j → j < m → x < v (24 + a j)) ∧ (∀ j, j < m + 1 → F' 3 j = nI (ins a f' l j) ∧ F' 4 j = nI (ins b f' e j)) ∧ (∀ r, r ≠ 3 → r ≠ 4 → F' r = F r) := by
  have fin : ∀ (f : Nat) {h : dzH} {F : Nat → Nat → Int32}, f ≤ m → CW A h o v T E F → (∀ j, j < f → F 3 j = nI (a j) ∧ F 4 j = nI (b j)) → (∀ j, f < j → j ≤ m → F 3 j = nI (a (j - 1)) ∧ F 4 j = nI (b (j - 1))) →
      ∃ h' F', dzRI (dzF 89 94 [(0, .ref (A + 238)), (1, .int (nI l)), (2, .int (nI e)), (3, .int (nI f))] [] (0, 0) h) = some (1, h') ∧ CW A h' (upd o 13 (nI (m + 1))) v T E F' ∧ fr h h' (inC A) ∧ (∀ j, j < m + 1 → F' 3 j = nI (ins a f l j) ∧ F' 4 j = nI (ins b f e j)) ∧ (∀ r, r ≠ 3 → r ≠ 4 → F' r = F r) := by
    intro f h F hf w h1 h2
    obtain ⟨k1, a1, a2, a3⟩ := w_F3 w (j := f) (nI l) (by omega)
    obtain ⟨k2, b1, b2, b3⟩ := w_F4 a2 (j := f) (nI e) (by omega)
    obtain ⟨k3, c1, c2, c3⟩ := p_o13 b2 (nI (m + 1))
    refine ⟨k3, _, ?_, c2, (a3.tr b3).tr c3, fun j hj => ?_, fun r r3 r4 => by rw [uF_r r4, uF_r r3]⟩
    · rw [q_Maker_insertFactor_94]
      simp only [g_mk4 w, g_mf0 w, Option.bind_some, a1, g_mk4 a2, g_mf1 a2, b1, g_mk4 b2, g_o13 b2, h13, nI_1, c1]
      rfl
    · rw [uF_r (show 3 ≠ 4 by decide)]
      rcases Nat.lt_or_ge j f with y | y
      · rw [ins_l y, ins_l y, uF_j (by omega), uF_j (by omega), uF_r (show 4 ≠ 3 by decide)]
        exact h1 j y
      · rcases Nat.eq_or_lt_of_le y with z | z
        · subst z
          rw [ins_f, ins_f, uF_s, uF_s]
          exact ⟨rfl, rfl⟩
        · rw [ins_g z, ins_g z, uF_j (by omega), uF_j (by omega), uF_r (show 4 ≠ 3 by decide)]
          exact h2 j z (by omega)
  intro f
  induction f with
  | zero =>
    intro h F hf w h1 h2 h3
    obtain ⟨h', F', e1, e2, e3, e4, e5⟩ := fin 0 hf w h1 h2
    refine ⟨h', 0, F', ?_, e2, e3, hf, fun j hj => by omega, h3, e4, e5⟩
    rw [q_Maker_insertFactor_22, if_pos (by decide), e1]
  | succ f ih =>
    intro h F hf w h1 h2 h3
    have haf := ha f (by omega)
    have n1 := kk_mfn w (j := f) (q := a f) (by omega) haf (h1 f (by omega)).1
    have od := sp_order8 (w.row (isR_n haf)) (w.row (isR_n hl))
    rw [hx] at od
    by_cases hle : v (24 + a f) ≤ x
    · obtain ⟨h', F', e1, e2, e3, e4, e5⟩ := fin (f + 1) hf w h1 h2
      have hlt : v (24 + a f) < x := Nat.lt_of_le_of_ne hle (hne f (by omega))
      refine ⟨h', f + 1, F', ?_, e2, e3, hf, fun j hj => ?_, h3, e4, e5⟩
      · rw [q_Maker_insertFactor_22, if_neg (nI_nle (by omega) (by omega)), nI_pred, n1, Option.bind_some]
        simp only [g_mk1 w, g_lines0 w, Option.bind_some, g_nm w hl, od]
        rw [if_pos (ordI_le.mpr hle), e1]
      · rcases Nat.eq_or_lt_of_le (show j ≤ f by omega) with z | z
        · rw [z]; exact hlt
        · have := hasc.mono z (by omega)
          exact Nat.lt_trans this hlt
    · obtain ⟨k1, b1, b2, b3⟩ := w_F3 w (j := f + 1) (nI (a f)) (by omega)
      obtain ⟨k2, c1, c2, c3⟩ := w_F4 b2 (j := f + 1) (nI (b f)) (by omega)
      have r3 := r_F3 w (j := f) (by omega)
      rw [(h1 f (by omega)).1] at r3
      have r4 := r_F4 b2 (j := f) (by omega)
      rw [uF_r (show 4 ≠ 3 by decide), (h1 f (by omega)).2] at r4
      obtain ⟨h', f', F', e1, e2, e3, e4, e5, e6, e7, e8⟩ := ih (by omega) c2 (fun j hj => by
        rw [uF_r (show 3 ≠ 4 by decide), uF_j (by omega), uF_j (by omega), uF_r (show 4 ≠ 3 by decide)]
        exact h1 j (by omega)) (fun j h4 h5 => by
        by_cases z : j = f + 1
        · subst z
          rw [uF_r (show 3 ≠ 4 by decide), uF_s, uF_s, Nat.add_sub_cancel]
          exact ⟨rfl, rfl⟩
        · rw [uF_r (show 3 ≠ 4 by decide), uF_j (by omega), uF_j (by omega), uF_r (show 4 ≠ 3 by decide)]
          exact h2 j (by omega) h5) (fun j h4 h5 => by
        by_cases z : j = f
        · subst z; omega
        · exact h3 j (by omega) h5)
      refine ⟨h', f', F', ?_, e2, (b3.tr c3).tr e3, e4, e5, e6, e7, fun r r3 r4 => by rw [e8 r r3 r4, uF_r r4, uF_r r3]⟩
      rw [q_Maker_insertFactor_22, if_neg (nI_nle (by omega) (by omega)), nI_pred, n1, Option.bind_some]
      simp only [g_mk1 w, g_lines0 w, Option.bind_some, g_nm w hl, od]
      rw [if_neg (fun q => hle (ordI_le.mp q))]
      simp only [g_mk4 w, g_mf0 w, Option.bind_some, r3, b1, g_mk4 b2, g_mf1 b2, r4, c1]
      rw [show nI (f + 1) + -1 = nI f by rw [nI_succ, Int32.add_assoc, show (1 : Int32) + -1 = 0 from rfl, Int32.add_zero], e1]
theorem kk_ins (w : CW A h o v T E F) {l e : Nat} (hl : l < 200) (hm : m < 40) {a b : Nat → Nat} (ha : ∀ j, j < m → a j < 200) (hasc : asc m (fun j => v (24 + a j))) (hne : ∀ j, j < m → v (24 + a j) ≠ v (24 + l)) (h13 : o 13 = nI m) (hF : ∀ j, j < m → F 3 j = nI (a j) ∧ F 4 j = nI (b j)) :
    ∃ h' f F', c_Maker_insertFactor (A + 238) (nI l) (nI e) h = some (1, h') ∧ CW A h' (upd o 13 (nI (m + 1))) v T E F' ∧ fr h h' (inC A) ∧ f ≤ m ∧ (∀ j, j < f → v (24 + a j) < v (24 + l)) ∧ (∀ j, f ≤ j → j < m → v (24 + l) < v (24 + a j)) ∧ (∀ j, j < m + 1 → F' 3 j = nI (ins a f l j) ∧ F' 4 j = nI (ins b f e j)) ∧ (∀ r, r ≠ 3 → r ≠ 4 → F' r = F r) := by
  obtain ⟨fs, ho⟩ := w.o238
  obtain ⟨h', f, F', e1, e2⟩ := lp_ins (e := e) hl hm ha rfl hasc hne h13 m (Nat.le_refl _) w hF (fun j h1 h2 => by omega) (fun j h1 h2 => by omega)
  refine ⟨h', f, F', ?_, e2⟩
  rw [cc_Maker_insertFactor _ _ _ _ ho, q_Maker_insertFactor_0]
  simp only [g_mk4 w, g_o13 w, Option.bind_some, h13]
  rw [if_pos (show nI m < 40 from nI_lt hm (by decide)), e1]
theorem kk_ins0 (w : CW A h o v T E F) (l e : Int32) (h13 : o 13 = nI 40) : c_Maker_insertFactor (A + 238) l e h = some (0, h) := by
  obtain ⟨fs, ho⟩ := w.o238
  rw [cc_Maker_insertFactor _ _ _ _ ho, q_Maker_insertFactor_0]
  simp only [g_mk4 w, g_o13 w, Option.bind_some, h13]
  rfl
end
