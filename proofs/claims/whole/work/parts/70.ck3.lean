/-! the class's checker: a line read whole; the trial -/
def rl (t : Nat → Nat) (s : Nat) (N : Nat → Nat) (l c : Nat) : rE :=
  if t c = 2 then
    match rdNum t s (c + 1) with
    | .error e => .error e
    | .ok (V, c1) => match rdRt t s V c1 with
      | .error e => .error e
      | .ok _ => match rdFacs t s N l 2 (c1 + 1) with
        | .error e => .error e
        | .ok _ => .ok (V, c1)
  else match rdNum t s (c + 1) with
    | .error e => .error e
    | .ok (V, c1) => match rdFacs t s N l 3 c1 with
      | .error e => .error e
      | .ok _ => .ok (V, c1)
theorem rdLine_1 {t : Nat → Nat} {s : Nat} {N : Nat → Nat} {l c : Nat} (h : t c = 1) : rdLine t s N l c = rdSm t s (c + 1) := by
  unfold rdLine
  rw [if_pos h]
theorem rdLine_2 {t : Nat → Nat} {s : Nat} {N : Nat → Nat} {l c : Nat} (h : t c = 2) : rdLine t s N l c = match rl t s N l c with
    | .error e => .error e
    | .ok (V, c1) => match ts2 t N V c1 with
      | .error e => .error e
      | .ok _ => .ok (V, c1 + 1 + 1 + 2 * t (c1 + 1)) := by
  unfold rdLine rl rd2 rdRt
  rw [if_neg (by omega), if_pos h, if_pos h]
  cases rdNum t s (c + 1) with
  | error e => rfl
  | ok y =>
    obtain ⟨V, c1⟩ := y
    dsimp only
    split
    · split
      · dsimp only
        cases rdFacs t s N l 2 (c1 + 1) with
        | error e => rfl
        | ok u => rfl
      · rfl
    · rfl
theorem rdLine_3 {t : Nat → Nat} {s : Nat} {N : Nat → Nat} {l c : Nat} (h : t c = 3) : rdLine t s N l c = match rl t s N l c with
    | .error e => .error e
    | .ok (V, c1) => match ts3 t N V c1 with
      | .error e => .error e
      | .ok _ => .ok (V, c1 + 1 + 3 * t c1) := by
  unfold rdLine rl rd3
  rw [if_neg (by omega), if_neg (by omega), if_pos h, if_neg (by omega)]
  cases rdNum t s (c + 1) with
  | error e => rfl
  | ok y =>
    obtain ⟨V, c1⟩ := y
    dsimp only
    cases rdFacs t s N l 3 c1 with
    | error e => rfl
    | ok u => rfl
theorem rdLine_0 {t : Nat → Nat} {s : Nat} {N : Nat → Nat} {l c : Nat} (h1 : t c ≠ 1) (h2 : t c ≠ 2) (h3 : t c ≠ 3) : rdLine t s N l c = .error (2, c) := by
  unfold rdLine
  rw [if_neg h1, if_neg h2, if_neg h3]
theorem rdFac_N {t : Nat → Nat} {s : Nat} {N N' : Nat → Nat} {l w c : Nat} (hN : ∀ i, i < l → N' i = N i) : ∀ (k f : Nat), (f = 0 ∨ t (c + 1 + w * (f - 1)) < l) → rdFac t s N' l w c k f = rdFac t s N l w c k f
  | 0, f, _ => rfl
  | k + 1, f, hf => by
    rw [rdFac, rdFac]
    by_cases h1 : c + 1 + w * f < s
    · rw [if_pos h1, if_pos h1]
      by_cases h2 : t (c + 1 + w * f) < l
      · rw [if_pos h2, if_pos h2, hN _ h2, rdFac_N hN k (f + 1) (Or.inr h2)]
        by_cases h3 : f = 0
        · rw [if_pos (Or.inl h3), if_pos (Or.inl h3)]
        · rw [hN (t (c + 1 + w * (f - 1))) (by omega)]
      · rw [if_neg h2, if_neg h2]
    · rw [if_neg h1, if_neg h1]
theorem rdFacs_N {t : Nat → Nat} {s : Nat} {N N' : Nat → Nat} {l w c : Nat} (hN : ∀ i, i < l → N' i = N i) : rdFacs t s N' l w c = rdFacs t s N l w c := by
  unfold rdFacs
  rw [rdFac_N hN (t c) 0 (Or.inl rfl)]
theorem isR_t {k : Nat} (h1 : 226 ≤ k) (h2 : k ≤ 231) : isR k := by unfold isR; omega
theorem isR_p : isR 237 := by unfold isR; omega
theorem isR_m {k : Nat} (h1 : 243 ≤ k) (h2 : k ≤ 246) : isR k := by unfold isR; omega
section
variable {A : Nat} {h : dzH} {o : Nat → Int32} {v : Nat → Nat} {T E : Nat → Int32} {F : Nat → Nat → Int32} {l : Nat} {s c : Nat}
/-- what reading a line leaves: V is told at c1 -/
def RdOk (T : Nat → Int32) (s c c1 : Nat) (o : Nat → Int32) (F : Nat → Nat → Int32) : Prop :=
  (w32 (T c) = 2 → o 6 = T c1 ∧ At o s (c1 + 1 + 1 + 2 * w32 (T (c1 + 1))) ∧ Fac T 2 (c1 + 1) (w32 (T (c1 + 1))) F ∧ o 7 = nI (c1 + 1) ∧ o 10 = nI (w32 (T (c1 + 1)))) ∧
  (w32 (T c) = 3 → At o s (c1 + 1 + 3 * w32 (T c1)) ∧ Fac T 3 c1 (w32 (T c1)) F ∧ o 7 = nI c1 ∧ o 10 = nI (w32 (T c1)))
theorem kk_line0 (w : CW A h o v T E F) (hl : l < 200) (ha : At o s c) (hc : c < s) : ∃ k1 o1, Wd A h l [3, 4, 5] o v F T E k1 o1 v F ∧ At o1 s (c + 1) ∧ o1 5 = T c ∧
    (w32 (T c) = 1 → c_Checker_readLine (A + 232) (nI l) h = dzRI ((c_Checker_readSmallPrime (A + 232) (A + (24 + l)) k1).bind fun q => (dzB01 q.1).bind fun b => some (some (.int b), q.2))) ∧
    (w32 (T c) = 2 → c_Checker_readLine (A + 232) (nI l) h = dzRI ((c_Checker_readNumber (A + 232) (A + (24 + l)) k1).bind fun q8 => if q8.1 = 0 then some (some (.int (0 : Int32)), q8.2) else (c_Checker_readRoot (A + 232) (A + (24 + l)) q8.2).bind fun q9 => if q9.1 = 0 then some (some (.int (0 : Int32)), q9.2) else (c_Checker_readFactors (A + 232) (nI l) q9.2).bind fun q10 => if q10.1 = 0 then some (some (.int (0 : Int32)), q10.2) else some (some (.int (1 : Int32)), q10.2))) ∧
    (w32 (T c) = 3 → c_Checker_readLine (A + 232) (nI l) h = dzRI ((c_Checker_readNumber (A + 232) (A + (24 + l)) k1).bind fun q8 => if q8.1 = 0 then some (some (.int (0 : Int32)), q8.2) else (c_Checker_readFactors (A + 232) (nI l) q8.2).bind fun q9 => if q9.1 = 0 then some (some (.int (0 : Int32)), q9.2) else some (some (.int (1 : Int32)), q9.2))) ∧
    (w32 (T c) ≠ 1 → w32 (T c) ≠ 2 → w32 (T c) ≠ 3 → Bad A h l o v F T E (2, c) (c_Checker_readLine (A + 232) (nI l) h)) := by
  obtain ⟨fs, ho⟩ := w.o232
  obtain ⟨k1, a1, W1, ha1⟩ := kk_take w l ha hc
  have w1 := W1.cw
  obtain ⟨k2, b1, b2, b3⟩ := p_o5 w1 (T c)
  have W2 : Wd A h l [3, 4, 5] o v F T E _ _ _ _ := (W1.mono (by decide)).tr (Wd.int b2 b3 (by decide))
  generalize hr : c_Checker_readLine (A + 232) (nI l) h = r
  rw [cc_Checker_readLine _ _ _ ho, q_Checker_readLine_0] at hr
  simp only [a1, Option.bind_some, if_neg one_n0, g_o4 w1, tk4, b1, g_ck1 b2, g_lines0 b2, g_nm b2 hl, g_o5 b2, pk_us] at hr
  have e1 : ∀ {n : Nat}, n < 4 → (T c = nI n ↔ w32 (T c) = n) := fun hn => eq_w (by omega)
  have n1 : T c = 1 ↔ w32 (T c) = 1 := e1 (by decide)
  have n2 : T c = 2 ↔ w32 (T c) = 2 := e1 (by decide)
  have n3 : T c = 3 ↔ w32 (T c) = 3 := e1 (by decide)
  refine ⟨k2, _, W2, ⟨?_, ha1.2.1, ?_, ha1.2.2.2⟩, pk_us, fun z => ?_, fun z => ?_, fun z => ?_, fun z1 z2 z3 => ?_⟩
  · rw [pk_un (by decide)]; exact ha1.1
  · rw [pk_un (by decide)]; exact ha1.2.2.1
  · rw [if_pos (n1.mpr z)] at hr
    exact hr.symm
  · rw [if_neg (fun q => by have := n1.mp q; omega), if_pos (n2.mpr z)] at hr
    exact hr.symm
  · rw [if_neg (fun q => by have := n1.mp q; omega), if_neg (fun q => by have := n2.mp q; omega), if_pos (n3.mpr z)] at hr
    exact hr.symm
  · rw [if_neg (fun q => z1 (n1.mp q)), if_neg (fun q => z2 (n2.mp q)), if_neg (fun q => z3 (n3.mp q))] at hr
    rw [← hr]
    exact ((kk_badT (c := c) b2 l (x := 2) (a := 2) rfl (by rw [pk_un (by decide), tk3])).b01).after W2 (by decide)
theorem kk_line1 (w : CW A h o v T E F) (hl : l < 200) (ha : At o s c) (hc : c < s) (ht : w32 (T c) = 1) : Res (rdSm (tw T) s (c + 1)) (fun e => Bad A h l o v F T E e (c_Checker_readLine (A + 232) (nI l) h))
    (fun y => ∃ h' o' v', c_Checker_readLine (A + 232) (nI l) h = some (1, h') ∧ Wd A h l [3, 4, 5] o v F T E h' o' v' F ∧ v' (24 + l) = y.1 ∧ o' 5 = T c ∧ At o' s y.2) := by
  obtain ⟨k1, o1, W1, ha1, h5, r1, -⟩ := kk_line0 w hl ha hc
  have sm := kk_small W1.cw hl ha1
  rw [r1 ht]
  revert sm
  cases rdSm (tw T) s (c + 1) with
  | error e => exact fun sm => (Bad.b01 sm).after W1 (by decide)
  | ok y =>
    rintro ⟨h', o', v', e1, e2, e3, e4⟩
    refine ⟨h', o', v', ?_, W1.tr (e2.mono (by decide)), e4, by rw [e2.ke (by decide), h5], e3⟩
    rw [e1]
    rfl
theorem kk_line2 (w : CW A h o v T E F) (hl : l < 200) (ha : At o s c) (hc : c < s) (ht : w32 (T c) = 2 ∨ w32 (T c) = 3) : Res (rl (tw T) s (fun i => v (24 + i)) l c) (fun e => Bad A h l o v F T E e (c_Checker_readLine (A + 232) (nI l) h))
    (fun y => ∃ h' o' v' F', c_Checker_readLine (A + 232) (nI l) h = some (1, h') ∧ Wd A h l [3, 4, 5, 6, 7, 10] o v F T E h' o' v' F' ∧ v' (24 + l) = y.1 ∧ o' 5 = T c ∧ RdOk T s c y.2 o' F') := by
  obtain ⟨k1, o1, W1, ha1, h5, -, r2, r3, -⟩ := kk_line0 w hl ha hc
  have W1' : Wd A h l [3, 4, 5, 6, 7, 10] o v F T E _ _ _ _ := W1.mono (by decide)
  have nm := kk_number W1.cw hl ha1
  unfold rl
  rcases ht with ht | ht
  · rw [if_pos (show tw T c = 2 from ht), r2 ht]
    cases hx : rdNum (tw T) s (c + 1) with
    | error e =>
      rw [hx] at nm
      exact Res.er ((Bad.br nm _).after W1 (by decide))
    | ok y =>
      obtain ⟨V, c1⟩ := y
      rw [hx] at nm
      obtain ⟨k2, o2, v2, a1, W2, ha2, hV⟩ := nm
      have W2' := W1'.tr (W2.mono (by decide))
      dsimp only at hV ha2 ⊢
      have rt := kk_root W2.cw hl ha2
      rw [hV] at rt
      simp only [a1, Option.bind_some, if_neg one_n0]
      cases hy : rdRt (tw T) s V c1 with
      | error e =>
        rw [hy] at rt
        exact Res.er ((Bad.br rt _).after W2' (by decide))
      | ok u =>
        rw [hy] at rt
        obtain ⟨k3, o3, b1, W3, ha3, h6⟩ := rt
        have W3' := W2'.tr (W3.mono (by decide))
        have fc := kk_facs W3.cw hl (W := 2) (Or.inl rfl) (by rw [W3.ke (by decide), W2.ke (by decide), h5, ← nI_w32 (T c), ht]) ha3
        rw [rdFacs_N (N := fun i => v (24 + i)) (fun i hi => W3'.kv (by omega) (by omega))] at fc
        simp only [b1, Option.bind_some, if_neg one_n0]
        cases hz : rdFacs (tw T) s (fun i => v (24 + i)) l 2 (c1 + 1) with
        | error e =>
          rw [hz] at fc
          exact Res.er ((Bad.br fc _).after W3' (by decide))
        | ok u2 =>
          rw [hz] at fc
          obtain ⟨k4, o4, F4, d1, W4, ha4, hF, h7, h10⟩ := fc
          have W4' := W3'.tr (W4.mono (by decide))
          refine Res.okk ⟨k4, o4, v2, F4, ?_, W4', hV, ?_, fun _ => ⟨?_, ha4, hF, h7, h10⟩, fun z => by omega⟩
          · rw [d1]
            rfl
          · rw [W4.ke (by decide), W3.ke (by decide), W2.ke (by decide), h5]
          · rw [W4.ke (by decide), h6]
  · rw [if_neg (show ¬ tw T c = 2 by show ¬ w32 (T c) = 2; omega), r3 ht]
    cases hx : rdNum (tw T) s (c + 1) with
    | error e =>
      rw [hx] at nm
      exact Res.er ((Bad.br nm _).after W1 (by decide))
    | ok y =>
      obtain ⟨V, c1⟩ := y
      rw [hx] at nm
      obtain ⟨k2, o2, v2, a1, W2, ha2, hV⟩ := nm
      have W2' := W1'.tr (W2.mono (by decide))
      dsimp only at hV ha2 ⊢
      simp only [a1, Option.bind_some, if_neg one_n0]
      have fc := kk_facs W2.cw hl (W := 3) (Or.inr rfl) (by rw [W2.ke (by decide), h5, ← nI_w32 (T c), ht]) ha2
      rw [rdFacs_N (N := fun i => v (24 + i)) (fun i hi => W2'.kv (by omega) (by omega))] at fc
      cases hz : rdFacs (tw T) s (fun i => v (24 + i)) l 3 c1 with
      | error e =>
        rw [hz] at fc
        exact Res.er ((Bad.br fc _).after W2' (by decide))
      | ok u2 =>
        rw [hz] at fc
        obtain ⟨k4, o4, F4, d1, W4, ha4, hF, h7, h10⟩ := fc
        have W4' := W2'.tr (W4.mono (by decide))
        refine Res.okk ⟨k4, o4, v2, F4, ?_, W4', hV, ?_, fun z => by omega, fun _ => ⟨ha4, hF, h7, h10⟩⟩
        · rw [d1]
          rfl
        · rw [W4.ke (by decide), W2.ke (by decide), h5]
-- sums on rows
theorem cw_copy (w : CW A h o v T E F) {r k : Nat} (hr : isR r) (hk : isR k) (k1 : k ≠ 228) (k2 : k ≠ 229) : ∃ h', c_Sums_copy (A + r) (A + k) h = some h' ∧ CW A h' o (gu v k (v r)) T E F ∧ fr h h' (inC A) := by
  obtain ⟨h1, a1, a2, a3⟩ := sp_copy8 (w.row hr) (w.row hk).row
  exact ⟨h1, a1, w.rowup hk k1 (fun e => absurd e k2) a2 a3, fr_C1 a3 (by unfold isR at hk; omega)⟩
theorem cw_small (w : CW A h o v T E F) (x : Int32) {k : Nat} (hk : isR k) (k1 : k ≠ 228) (k2 : k ≠ 229) : ∃ h', c_Sums_setSmall (A + k) x h = some h' ∧ CW A h' o (gu v k (w32 x)) T E F ∧ fr h h' (inC A) := by
  obtain ⟨h1, a1, a2, a3⟩ := sp_setSmall8 x (w.row hk).row
  exact ⟨h1, a1, w.rowup hk k1 (fun e => absurd e k2) a2 a3, fr_C1 a3 (by unfold isR at hk; omega)⟩
theorem cw_diff (w : CW A h o v T E F) {x y t : Nat} (hx : isR x) (hy : isR y) (ht : isR t) (t1 : t ≠ 228) (t2 : t ≠ 229) (hle : v y ≤ v x) : ∃ h', c_Sums_difference (A + x) (A + y) (A + t) h = some (1, h') ∧ CW A h' o (gu v t (v x - v y)) T E F ∧ fr h h' (inC A) := by
  obtain ⟨h1, z, a1, a2, az, a3⟩ := sp_diff (w.row hx) (w.row hy) (w.row ht).row
  rw [decide_eq_true hle] at a1
  rw [az hle] at a2
  exact ⟨h1, a1, w.rowup ht t1 (fun e => absurd e t2) a2 a3, fr_C1 a3 (by unfold isR at ht; omega)⟩
theorem cw_prod (w : CW A h o v T E F) {x y t : Nat} (hx : isR x) (hy : isR y) (ht : isR t) (t1 : t ≠ 228) (t2 : t ≠ 229) : ∃ h', c_Sums_product (A + 12) (A + x) (A + y) (A + t) h = some (bI (decide (v x * v y < B8)), h') ∧ CW A h' o (gu v t (if v x * v y < B8 then v x * v y else v t)) T E F ∧ fr h h' (inC A) := by
  obtain ⟨h1, a1, a2, a3, a4, a5⟩ := sp_product w.sums (w.row hx) (w.row hy) (w.row ht).row (nS_r hx) (nS_r hy) (nS_r ht)
  refine ⟨h1, a1, ?_, fr_CS a5 (by unfold isR at ht; omega)⟩
  by_cases hlt : v x * v y < B8
  · rw [if_pos hlt]
    exact w.rowop ht t1 (fun e => absurd e t2) a2 (a3 hlt) a5
  · rw [if_neg hlt]
    exact w.rowop ht t1 (fun e => absurd e t2) a2 ((w.row ht).eq (a4 hlt)) a5
theorem cw_quot (w : CW A h o v T E F) {x y t r : Nat} (hx : isR x) (hy : isR y) (ht : isR t) (t1 : t ≠ 228) (t2 : t ≠ 229) (hr : isR r) (r1 : r ≠ 228) (r2 : r ≠ 229) (htr : t ≠ r) (h0 : 0 < v y) : ∃ h', c_Sums_quotient (A + 12) (A + x) (A + y) (A + t) (A + r) h = some h' ∧ CW A h' o (gu (gu v r (v x % v y)) t (v x / v y)) T E F ∧ fr h h' (inC A) := by
  obtain ⟨h1, a1, a2, a3, a4, a5⟩ := sp_quotient w.sums (w.row hx) (w.row hy) h0 (w.row ht).row (w.row hr).row (nS_r hx) (nS_r ht) (nS_r hr) (by omega)
  refine ⟨h1, a1, ?_, a5.mono (fun q hq => by unfold isR at ht hr; unfold inS at hq; unfold inC; omega)⟩
  refine w.rows a4 (fun j hj => ?_) (fun q h1 h2 => a5.2 q (fun z => ?_)) ?_ ?_
  · by_cases e : j = t
    · subst e; rw [gu_s]; exact a2
    · rw [gu_n e]
      by_cases e2 : j = r
      · subst e2; rw [gu_s]; exact a3
      · rw [gu_n e2]
        exact (w.row hj).eq (a5.2 _ (fun z => by unfold isR at hj; unfold inS at z; omega))
  · rcases z with z | z | z
    · exact h1 z
    · exact h2 t ht z
    · exact h2 r hr z
  · rw [gu_n (Ne.symm t1), gu_n (Ne.symm r1)]; exact w.2.2.2.1
  · rw [gu_n (Ne.symm t2), gu_n (Ne.symm r2)]; exact w.2.2.2.2
theorem cw_pow (w : CW A h o v T E F) {x e m t : Nat} (hx : isR x) (he : isR e) (hm : isR m) (ht : isR t) (t1 : t ≠ 228) (t2 : t ≠ 229) (h0 : 0 < v m) : ∃ h', c_Sums_powerModulo (A + 12) (A + x) (A + e) (A + m) (A + t) h = some h' ∧ CW A h' o (gu v t (v x ^ v e % v m)) T E F ∧ fr h h' (inC A) := by
  obtain ⟨h1, a1, a2, a3, a4⟩ := sp_power w.sums (w.row hx) (w.row he) (w.row hm) h0 (w.row ht).row (nS_r hx) (nS_r he) (nS_r ht)
  exact ⟨h1, a1, w.rowop ht t1 (fun e => absurd e t2) a3 a2 a4, fr_CS a4 (by unfold isR at ht; omega)⟩
theorem cw_gcd (w : CW A h o v T E F) {x y t : Nat} (hx : isR x) (hy : isR y) (ht : isR t) (t1 : t ≠ 228) (t2 : t ≠ 229) : ∃ h', c_Sums_greatestDivisor (A + 12) (A + x) (A + y) (A + t) h = some h' ∧ CW A h' o (gu v t (Nat.gcd (v x) (v y))) T E F ∧ fr h h' (inC A) := by
  obtain ⟨h1, a1, a2, a3, a4⟩ := sp_gcd w.sums (w.row hx) (w.row hy) (w.row ht).row (nS_r hx) (nS_r hy) (nS_r ht)
  exact ⟨h1, a1, w.rowop ht t1 (fun e => absurd e t2) a3 a2 a4, fr_CS a4 (by unfold isR at ht; omega)⟩
theorem cw_dvd (w : CW A h o v T E F) {x y : Nat} (hx : isR x) (hy : isR y) (h0 : 0 < v y) : ∃ h', c_Sums_divides (A + 12) (A + y) (A + x) h = some (bI (decide (v x % v y = 0)), h') ∧ CW A h' o v T E F ∧ fr h h' (inC A) := by
  obtain ⟨h1, a1, a2, a3⟩ := sp_divides w.sums (w.row hx) (w.row hy) h0 (nS_r hx)
  exact ⟨h1, a1, w.scr a2 a3, a3.mono (fun q hq => by unfold inS at hq; unfold inC; omega)⟩
theorem cw_sq (w : CW A h o v T E F) {x y : Nat} (hx : isR x) (hy : isR y) : ∃ h', c_Sums_squareIsAbove (A + 12) (A + x) (A + y) h = some (bI (decide (v y < v x * v x)), h') ∧ CW A h' o v T E F ∧ fr h h' (inC A) := by
  obtain ⟨h1, a1, a2, a3⟩ := sp_square w.sums (w.row hx) (w.row hy) (nS_r hx) (nS_r hy)
  exact ⟨h1, a1, w.scr a2 a3, a3.mono (fun q hq => by unfold inS at hq; unfold inC; omega)⟩
-- the trial
theorem kk_begin (w : CW A h o v T E F) {r : Nat} (hr : isR r) (r1 : r ≠ 226) (h1 : 1 ≤ v r) : ∃ h', c_Trial_begin (A + 225) (A + r) h = some h' ∧ CW A h' o (gu (gu v 226 (v r)) 227 (v r - 1)) T E F ∧ fr h h' (inC A) := by
  obtain ⟨fs, ho⟩ := w.o225
  obtain ⟨k1, a1, a2, a3⟩ := cw_copy w hr (isR_t (k := 226) (by decide) (by decide)) (by decide) (by decide)
  have e228 := w.2.2.2.1
  obtain ⟨k2, b1, b2, b3⟩ := cw_diff a2 (isR_t (k := 226) (by decide) (by decide)) (isR_t (k := 228) (by decide) (by decide)) (isR_t (k := 227) (by decide) (by decide)) (by decide) (by decide) (by rw [gu_s, gu_n (by decide), e228]; exact h1)
  rw [gu_s, gu_n (show 228 ≠ 226 by decide), e228] at b2
  refine ⟨k2, ?_, b2, a3.tr b3⟩
  rw [cc_Trial_begin _ _ _ ho, q_Trial_begin_0]
  simp only [g_tr1 w, Option.bind_some, a1, g_tr1 a2, g_tr3 a2, g_tr2 a2, b1]
  rfl
/-- base holds a -/
theorem cw_base (w : CW A h o v T E F) (a : Int32) : ∃ h', dwI h (A + 229) 0 a = some h' ∧ CW A h' o (gu v 229 (w32 a)) T E F ∧ fr h h' (inC A) := by
  obtain ⟨f, f1, f2⟩ := w.row (isR_t (k := 229) (by decide) (by decide))
  have hlt := w.2.2.2.2
  have hw := dwI_at a f1 (j := 0) (by decide) (by decide)
  rw [nI_0] at hw
  have hz : ∀ j, j < 8 → 0 < j → f j = 0 := fun j hj h0 => by
    have := wv_word f hj
    have h3 : v 229 / 4294967296 ^ j = 0 := Nat.div_eq_of_lt (by
      have : (4294967296 : Nat) ^ 1 ≤ 4294967296 ^ j := Nat.pow_le_pow_right (by decide) h0
      rw [Nat.pow_one] at this
      omega)
    rw [f2, h3] at this
    exact w32_eq0.mpr this.symm
  have hv : wv (upd f 0 a) 8 = w32 a := by
    have e := pv_ext (B := 4294967296) (d := fun i => w32 (upd f 0 a i)) (m := 1) (n := 8) (by decide) (fun i h1 h2 => by rw [pk_un (by omega), hz i h2 (by omega)]; rfl)
    have e2 : wv (upd f 0 a) 8 = pv 4294967296 (fun i => w32 (upd f 0 a i)) 8 := rfl
    rw [e2, e, pv_s, pv_0, Nat.pow_zero, Nat.mul_one, Nat.zero_add, pk_us]
  refine ⟨_, hw, w.rowup (isR_t (by decide) (by decide)) (by decide) (fun _ => w32_lt a) ⟨_, hU_s _ _ _, hv⟩ (fr.up _ _ _), fr_C1 (fr.up _ _ _) (by decide)⟩
theorem kk_closes (w : CW A h o v T E F) (hN : 0 < v 226) (a : Int32) : ∃ h' v', c_Trial_closes (A + 225) a h = some (bI (decide (w32 a ^ v 227 % v 226 = 1)), h') ∧ CW A h' o v' T E F ∧ fr h h' (inC A) ∧ ∀ k, k < 229 ∨ 231 < k → v' k = v k := by
  obtain ⟨fs, ho⟩ := w.o225
  obtain ⟨k1, a1, a2, a3⟩ := cw_base w a
  obtain ⟨k2, b1, b2, b3⟩ := cw_pow a2 (x := 229) (e := 227) (m := 226) (t := 231) (isR_t (by decide) (by decide)) (isR_t (by decide) (by decide)) (isR_t (by decide) (by decide)) (isR_t (by decide) (by decide)) (by decide) (by decide) (by rw [gu_n (by decide)]; exact hN)
  rw [gu_s, gu_n (show 227 ≠ 229 by decide), gu_n (show 226 ≠ 229 by decide)] at b2
  refine ⟨k2, _, ?_, b2, a3.tr b3, fun k hk => by rw [gu_n (by omega), gu_n (by omega)]⟩
  have h1 := sp_isOne (b2.row (isR_t (k := 231) (by decide) (by decide)))
  rw [gu_s] at h1
  rw [cc_Trial_closes _ _ _ ho, q_Trial_closes_0]
  simp only [g_tr4 w, Option.bind_some, a1, g_tr0 a2, g_tr4 a2, g_tr2 a2, g_tr1 a2, g_tr6 a2, b1, g_tr6 b2, h1, dzB01_b]
  rfl
theorem kk_parts (w : CW A h o v T E F) (hN : 0 < v 226) (a : Int32) {p : Nat} (hp : isR p) (p1 : p < 226) (h0 : 0 < v p) : ∃ h' v', c_Trial_parts (A + 225) a (A + p) h = some (bI (decide (¬ w32 a ^ (v 227 / v p) % v 226 = 1)), h') ∧ CW A h' o v' T E F ∧ fr h h' (inC A) ∧ ∀ k, k < 229 ∨ 231 < k → v' k = v k := by
  obtain ⟨fs, ho⟩ := w.o225
  obtain ⟨k1, a1, a2, a3⟩ := cw_base w a
  obtain ⟨k2, b1, b2, b3⟩ := cw_quot a2 (x := 227) (y := p) (t := 230) (r := 231) (isR_t (by decide) (by decide)) hp (isR_t (by decide) (by decide)) (by decide) (by decide) (isR_t (by decide) (by decide)) (by decide) (by decide) (by decide) (by rw [gu_n (by omega)]; exact h0)
  rw [gu_n (show 227 ≠ 229 by decide), gu_n (show p ≠ 229 by omega)] at b2
  obtain ⟨k3, c1, c2, c3⟩ := cw_pow b2 (x := 229) (e := 230) (m := 226) (t := 231) (isR_t (by decide) (by decide)) (isR_t (by decide) (by decide)) (isR_t (by decide) (by decide)) (isR_t (by decide) (by decide)) (by decide) (by decide) (by rw [gu_n (by decide), gu_n (by decide), gu_n (by decide)]; exact hN)
  rw [gu_s, gu_n (show 229 ≠ 230 by decide), gu_n (show 229 ≠ 231 by decide), gu_s, gu_n (show 226 ≠ 230 by decide), gu_n (show 226 ≠ 231 by decide), gu_n (show 226 ≠ 229 by decide)] at c2
  refine ⟨k3, _, ?_, c2, (a3.tr b3).tr c3, fun k hk => by rw [gu_n (by omega), gu_n (by omega), gu_n (by omega), gu_n (by omega)]⟩
  have h1 := sp_isOne (c2.row (isR_t (k := 231) (by decide) (by decide)))
  rw [gu_s] at h1
  rw [cc_Trial_parts _ _ _ _ ho, q_Trial_parts_0]
  simp only [g_tr4 w, Option.bind_some, a1, g_tr0 a2, g_tr2 a2, g_tr5 a2, g_tr6 a2, b1, g_tr0 b2, g_tr4 b2, g_tr5 b2, g_tr1 b2, g_tr6 b2, c1, g_tr6 c2, h1]
  by_cases hx : w32 a ^ (v 227 / v p) % v 226 = 1
  · rw [decide_eq_true hx, if_neg bI_n1, decide_eq_false (fun q => q hx)]
    rfl
  · rw [decide_eq_false hx, if_pos bI_f, decide_eq_true hx]
    rfl
theorem kk_pev (w : CW A h o v T E F) (hN : 0 < v 226) (a : Int32) {p : Nat} (hp : isR p) (p1 : p < 226) (h0 : 0 < v p) (hz : w32 a ^ (v 227 / v p) % v 226 ≠ 0) : ∃ h' v', c_Trial_partsEverywhere (A + 225) a (A + p) h = some (bI (decide (Nat.gcd (w32 a ^ (v 227 / v p) % v 226 - 1) (v 226) = 1)), h') ∧ CW A h' o v' T E F ∧ fr h h' (inC A) ∧ ∀ k, k < 229 ∨ 231 < k → v' k = v k := by
  obtain ⟨fs, ho⟩ := w.o225
  obtain ⟨k1, a1, a2, a3⟩ := cw_base w a
  obtain ⟨k2, b1, b2, b3⟩ := cw_quot a2 (x := 227) (y := p) (t := 230) (r := 231) (isR_t (by decide) (by decide)) hp (isR_t (by decide) (by decide)) (by decide) (by decide) (isR_t (by decide) (by decide)) (by decide) (by decide) (by decide) (by rw [gu_n (by omega)]; exact h0)
  rw [gu_n (show 227 ≠ 229 by decide), gu_n (show p ≠ 229 by omega)] at b2
  obtain ⟨k3, c1, c2, c3⟩ := cw_pow b2 (x := 229) (e := 230) (m := 226) (t := 231) (isR_t (by decide) (by decide)) (isR_t (by decide) (by decide)) (isR_t (by decide) (by decide)) (isR_t (by decide) (by decide)) (by decide) (by decide) (by rw [gu_n (by decide), gu_n (by decide), gu_n (by decide)]; exact hN)
  rw [gu_s, gu_n (show 229 ≠ 230 by decide), gu_n (show 229 ≠ 231 by decide), gu_s, gu_n (show 226 ≠ 230 by decide), gu_n (show 226 ≠ 231 by decide), gu_n (show 226 ≠ 229 by decide)] at c2
  have e228 := c2.2.2.2.1
  obtain ⟨k4, d1, d2, d3⟩ := cw_diff c2 (x := 231) (y := 228) (t := 231) (isR_t (by decide) (by decide)) (isR_t (by decide) (by decide)) (isR_t (by decide) (by decide)) (by decide) (by decide) (by rw [e228, gu_s]; omega)
  rw [e228, gu_s] at d2
  obtain ⟨k5, f1, f2, f3⟩ := cw_gcd d2 (x := 231) (y := 226) (t := 231) (isR_t (by decide) (by decide)) (isR_t (by decide) (by decide)) (isR_t (by decide) (by decide)) (by decide) (by decide)
  rw [gu_s, gu_n (show 226 ≠ 231 by decide), gu_n (show 226 ≠ 231 by decide), gu_n (show 226 ≠ 230 by decide), gu_n (show 226 ≠ 231 by decide), gu_n (show 226 ≠ 229 by decide)] at f2
  refine ⟨k5, _, ?_, f2, (((a3.tr b3).tr c3).tr d3).tr f3, fun k hk => by rw [gu_n (by omega), gu_n (by omega), gu_n (by omega), gu_n (by omega), gu_n (by omega), gu_n (by omega)]⟩
  have h1 := sp_isOne (f2.row (isR_t (k := 231) (by decide) (by decide)))
  rw [gu_s] at h1
  rw [cc_Trial_partsEverywhere _ _ _ _ ho, q_Trial_partsEverywhere_0]
  simp only [g_tr4 w, Option.bind_some, a1, g_tr0 a2, g_tr2 a2, g_tr5 a2, g_tr6 a2, b1, g_tr0 b2, g_tr4 b2, g_tr5 b2, g_tr1 b2, g_tr6 b2, c1, g_tr6 c2, g_tr3 c2, d1, g_tr0 d2, g_tr6 d2, g_tr1 d2, f1, g_tr6 f2, h1, dzB01_b]
  rfl
end
