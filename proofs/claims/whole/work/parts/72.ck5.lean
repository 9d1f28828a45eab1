/-! the class's checker, whole -/
def erOk (e : Nat × Nat) : Prop := 1 ≤ e.1 ∧ e.1 ≤ 10
theorem er_mk {a b : Nat} (h1 : 1 ≤ a) (h2 : a ≤ 10) : erOk (a, b) := ⟨h1, h2⟩
theorem rdNum_er {t : Nat → Nat} {s c : Nat} {e : Nat × Nat} (h : rdNum t s c = .error e) : erOk e := by
  unfold rdNum at h
  repeat' split at h
  all_goals first
    | (cases h; exact er_mk (by decide) (by decide))
    | cases h
theorem rdRt_er {t : Nat → Nat} {s V c : Nat} {e : Nat × Nat} (h : rdRt t s V c = .error e) : erOk e := by
  unfold rdRt at h
  repeat' split at h
  all_goals first
    | (cases h; exact er_mk (by decide) (by decide))
    | cases h
theorem rdSm_er {t : Nat → Nat} {s c : Nat} {e : Nat × Nat} (h : rdSm t s c = .error e) : erOk e := by
  unfold rdSm at h
  repeat' split at h
  all_goals first
    | (cases h; exact er_mk (by decide) (by decide))
    | cases h
theorem rdFac_er {t : Nat → Nat} {s : Nat} {N : Nat → Nat} {l w c : Nat} {e : Nat × Nat} : ∀ (k f : Nat), rdFac t s N l w c k f = .error e → erOk e
  | 0, f, h => by cases h
  | k + 1, f, h => by
    unfold rdFac at h
    repeat' split at h
    all_goals first
      | exact rdFac_er k (f + 1) h
      | (cases h; exact er_mk (by decide) (by decide))
theorem rdFacs_er {t : Nat → Nat} {s : Nat} {N : Nat → Nat} {l w c : Nat} {e : Nat × Nat} (h : rdFacs t s N l w c = .error e) : erOk e := by
  unfold rdFacs at h
  repeat' split at h
  all_goals first
    | exact rdFac_er _ _ h
    | (cases h; exact er_mk (by decide) (by decide))
theorem tRoot_er {t N : Nat → Nat} {V a c : Nat} {e : Nat × Nat} : ∀ (k f : Nat), tRoot t N V a c k f = .error e → erOk e
  | 0, f, h => by cases h
  | k + 1, f, h => by
    unfold tRoot at h
    split at h
    · cases h; exact er_mk (by decide) (by decide)
    · exact tRoot_er k (f + 1) h
theorem tWit_er {t : Nat → Nat} {V c : Nat} {e : Nat × Nat} : ∀ (k f : Nat), tWit t V c k f = .error e → erOk e
  | 0, f, h => by cases h
  | k + 1, f, h => by
    unfold tWit at h
    split at h
    · exact tWit_er k (f + 1) h
    · cases h; exact er_mk (by decide) (by decide)
theorem tPart_er {t N : Nat → Nat} {V c : Nat} {e : Nat × Nat} : ∀ (k f : Nat), tPart t N V c k f = .error e → erOk e
  | 0, f, h => by cases h
  | k + 1, f, h => by
    unfold tPart at h
    split at h
    · split at h
      · exact tPart_er k (f + 1) h
      · cases h; exact er_mk (by decide) (by decide)
    · cases h; exact er_mk (by decide) (by decide)
theorem ts2_er {t N : Nat → Nat} {V c : Nat} {e : Nat × Nat} (h : ts2 t N V c = .error e) : erOk e := by
  unfold ts2 at h
  split at h
  · split at h
    · exact tRoot_er _ _ h
    · cases h; exact er_mk (by decide) (by decide)
  · cases h; exact er_mk (by decide) (by decide)
theorem ts3_er {t N : Nat → Nat} {V c : Nat} {e : Nat × Nat} (h : ts3 t N V c = .error e) : erOk e := by
  unfold ts3 at h
  split at h
  · cases h; exact er_mk (by decide) (by decide)
  · split at h
    · split at h
      · split at h
        · rename_i hw
          cases h
          exact tWit_er _ _ hw
        · exact tPart_er _ _ h
      · cases h; exact er_mk (by decide) (by decide)
    · cases h; exact er_mk (by decide) (by decide)
theorem rl_er {t : Nat → Nat} {s : Nat} {N : Nat → Nat} {l c : Nat} {e : Nat × Nat} (h : rl t s N l c = .error e) : erOk e := by
  unfold rl at h
  split at h
  · split at h
    · rename_i hx
      cases h
      exact rdNum_er hx
    · split at h
      · rename_i hx
        cases h
        exact rdRt_er hx
      · split at h
        · rename_i hx
          cases h
          exact rdFacs_er hx
        · cases h
  · split at h
    · rename_i hx
      cases h
      exact rdNum_er hx
    · split at h
      · rename_i hx
        cases h
        exact rdFacs_er hx
      · cases h
theorem rdLine_er {t : Nat → Nat} {s : Nat} {N : Nat → Nat} {l c : Nat} {e : Nat × Nat} (h : rdLine t s N l c = .error e) : erOk e := by
  by_cases h1 : t c = 1
  · rw [rdLine_1 h1] at h
    exact rdSm_er h
  · by_cases h2 : t c = 2
    · rw [rdLine_2 h2] at h
      split at h
      · rename_i hx
        cases h
        exact rl_er hx
      · split at h
        · rename_i hx
          cases h
          exact ts2_er hx
        · cases h
    · by_cases h3 : t c = 3
      · rw [rdLine_3 h3] at h
        split at h
        · rename_i hx
          cases h
          exact rl_er hx
        · split at h
          · rename_i hx
            cases h
            exact ts3_er hx
          · cases h
      · rw [rdLine_0 h1 h2 h3] at h
        cases h
        exact er_mk (by decide) (by decide)
theorem rl_ok2 {t : Nat → Nat} {s : Nat} {N : Nat → Nat} {l c V c1 : Nat} (h2 : t c = 2) (h : rl t s N l c = .ok (V, c1)) : rdNum t s (c + 1) = .ok (V, c1) ∧ rdRt t s V c1 = .ok () ∧ rdFacs t s N l 2 (c1 + 1) = .ok () := by
  unfold rl at h
  rw [if_pos h2] at h
  split at h
  · cases h
  · rename_i V' c1' hn
    split at h
    · cases h
    · rename_i hr
      split at h
      · cases h
      · rename_i hf
        cases h
        exact ⟨hn, hr, hf⟩
theorem rl_ok3 {t : Nat → Nat} {s : Nat} {N : Nat → Nat} {l c V c1 : Nat} (h2 : t c ≠ 2) (h : rl t s N l c = .ok (V, c1)) : rdNum t s (c + 1) = .ok (V, c1) ∧ rdFacs t s N l 3 c1 = .ok () := by
  unfold rl at h
  rw [if_neg h2] at h
  split at h
  · cases h
  · rename_i V' c1' hn
    split at h
    · cases h
    · rename_i hf
      cases h
      exact ⟨hn, hf⟩
theorem rl_N {t : Nat → Nat} {s : Nat} {N N' : Nat → Nat} {l c : Nat} (hN : ∀ i, i < l → N' i = N i) : rl t s N' l c = rl t s N l c := by
  unfold rl
  by_cases h2 : t c = 2
  · rw [if_pos h2, if_pos h2]
    split
    · rfl
    · rw [rdFacs_N hN]
  · rw [if_neg h2, if_neg h2]
    split
    · rfl
    · rw [rdFacs_N hN]
theorem rdLine_N {t : Nat → Nat} {s : Nat} {N N' : Nat → Nat} {l c : Nat} (hN : ∀ i, i < l → N' i = N i) : rdLine t s N' l c = rdLine t s N l c := by
  by_cases h1 : t c = 1
  · rw [rdLine_1 h1, rdLine_1 h1]
  · by_cases h2 : t c = 2
    · rw [rdLine_2 h2, rdLine_2 h2, rl_N hN]
      cases hx : rl t s N l c with
      | error e => rfl
      | ok y =>
        obtain ⟨V, c1⟩ := y
        obtain ⟨a1, a2, a3⟩ := rl_ok2 h2 hx
        obtain ⟨b1, b2, b3, b4⟩ := rdFacs_ok (Or.inl rfl) a3
        dsimp only
        rw [ts2_loc (t := t) (t' := t) (l := l) rfl rfl (fun _ _ => rfl) (fun j hj => (b4 j hj).1) hN]
    · by_cases h3 : t c = 3
      · rw [rdLine_3 h3, rdLine_3 h3, rl_N hN]
        cases hx : rl t s N l c with
        | error e => rfl
        | ok y =>
          obtain ⟨V, c1⟩ := y
          obtain ⟨a1, a3⟩ := rl_ok3 h2 hx
          obtain ⟨b1, b2, b3, b4⟩ := rdFacs_ok (Or.inr rfl) a3
          dsimp only
          rw [ts3_loc (t := t) (t' := t) (l := l) rfl (fun _ _ => rfl) (fun j hj => (b4 j hj).1) hN]
      · rw [rdLine_0 h1 h2 h3, rdLine_0 h1 h2 h3]
/-- the check: from line l at int c on, the lines before l tell N -/
noncomputable def chkF (t : Nat → Nat) (s : Nat) : Nat → Nat → Nat → (Nat → Nat) → Except (Nat × Nat) (Nat × (Nat → Nat))
  | 0, l, _, N => .ok (l, N)
  | k + 1, l, c, N => if c < s then
      if l < 200 then match rdLine t s N l c with
        | .error e => .error e
        | .ok y => chkF t s k (l + 1) y.2 (gu N l y.1)
      else .error (2, c)
    else .ok (l, N)
theorem ts2_pr {t N : Nat → Nat} {V c1 : Nat} : ts2 t N V c1 = match prT t N V (c1 + 1) 2 with
    | .error e => .error e
    | .ok _ => if t c1 ^ (V - 1) % V = 1 then tRoot t N V (t c1) (c1 + 1) (t (c1 + 1)) 0 else .error (9, c1) := by
  unfold ts2 prT
  rw [if_pos rfl]
  split <;> rfl
theorem ts3_pr {t N : Nat → Nat} {V c : Nat} : ts3 t N V c = match prT t N V c 3 with
    | .error e => .error e
    | .ok _ => twp t N V c (t c) := by
  unfold ts3 prT twp
  rw [if_neg (by decide)]
  cases mulF t N 3 c (t c) 0 1 with
  | none => rfl
  | some P =>
    dsimp only
    split
    · split <;> rfl
    · rfl
section
variable {A : Nat} {h : dzH} {o : Nat → Int32} {v : Nat → Nat} {T E : Nat → Int32} {F : Nat → Nat → Int32} {l : Nat} {s c : Nat}
theorem kk_fin0 (i1 : Int32) : dzF 79 130 [(0, .ref (A + 232)), (1, .int i1), (2, .int 0)] [] (0, 0) h = dzF 79 30 [(0, .ref (A + 232)), (1, .int (i1 + 1))] [] (0, 0) h := by
  rw [q_Checker_findFault_130, if_pos rfl, q_Checker_findFault_145]
theorem kk_fin (w : CW A h o v T E F) (h1 : o 1 = nI l) (hl : l < 200) {e : Nat} (h3 : o 3 = nI e) : ∃ h', dzF 79 130 [(0, .ref (A + 232)), (1, .int (nI l)), (2, .int 1)] [] (0, 0) h = dzF 79 30 [(0, .ref (A + 232)), (1, .int (nI (l + 1)))] [] (0, 0) h' ∧ CW A h' (upd o 1 (nI (l + 1))) v T (upd E l (nI e)) F ∧ fr h h' (inC A) := by
  obtain ⟨h', a1, a2, a3⟩ := kk_keep w h1 hl (nI e)
  refine ⟨h', ?_, a2, a3⟩
  rw [q_Checker_findFault_130, if_neg one_n0]
  simp only [g_ck1 w, g_o3 w, h3, Option.bind_some, a1]
  rw [q_Checker_findFault_145, nI_1]
abbrev LK : List Nat := [1, 3, 4, 5, 6, 7, 10]
/-- what a right line leaves -/
def OkI (A : Nat) (h : dzH) (l s : Nat) (o : Nat → Int32) (v : Nat → Nat) (F : Nat → Nat → Int32) (T E : Nat → Int32) (y : Nat × Nat) : Prop :=
  ∃ h' o' v' F', dzF 79 30 [(0, .ref (A + 232)), (1, .int (nI l))] [] (0, 0) h = dzF 79 30 [(0, .ref (A + 232)), (1, .int (nI (l + 1)))] [] (0, 0) h' ∧ CW A h' o' v' T (upd E l (nI y.2)) F' ∧ fr h h' (inC A) ∧ keL LK o o' ∧ o' 1 = nI (l + 1) ∧ At o' s y.2 ∧ (∀ k, k ≠ 24 + l → k < 226 ∨ 237 < k → v' k = v k) ∧ (∀ r, 2 < r → F' r = F r) ∧ v' (24 + l) = y.1
def BadI (A : Nat) (h : dzH) (l : Nat) (o : Nat → Int32) (v : Nat → Nat) (F : Nat → Nat → Int32) (T E : Nat → Int32) (e : Nat × Nat) : Prop :=
  ∃ h' o' v' F', dzF 79 30 [(0, .ref (A + 232)), (1, .int (nI l))] [] (0, 0) h = dzF 79 30 [(0, .ref (A + 232)), (1, .int (nI (l + 1)))] [] (0, 0) h' ∧ Wd A h l LL o v F T E h' o' v' F' ∧ o' 8 = nI e.1 ∧ o' 9 = nI e.2
theorem OkI.mk {h1 : dzH} {o1 : Nat → Int32} {v1 : Nat → Nat} {F1 : Nat → Nat → Int32} {y : Nat × Nat} (W : Wd A h l [3, 4, 5, 6, 7, 10] o v F T E h1 o1 v1 F1) (h1' : o 1 = nI l) (hl : l < 200) (ha : At o1 s y.2) (hV : v1 (24 + l) = y.1)
    (e : dzF 79 30 [(0, .ref (A + 232)), (1, .int (nI l))] [] (0, 0) h = dzF 79 130 [(0, .ref (A + 232)), (1, .int (nI l)), (2, .int 1)] [] (0, 0) h1) : OkI A h l s o v F T E y := by
  obtain ⟨h', a1, a2, a3⟩ := kk_fin W.cw (by rw [W.ke (by decide), h1']) hl ha.2.2.1
  refine ⟨h', _, v1, F1, e.trans a1, a2, W.2.1.tr a3, ?_, pk_us, ⟨?_, ha.2.1, ?_, ha.2.2.2⟩, W.2.2.2.1, W.2.2.2.2, hV⟩
  · intro k hk
    rw [pk_un (fun z => hk (by rw [z]; decide))]
    exact W.2.2.1 k (fun z => hk (List.mem_cons_of_mem _ z))
  · rw [pk_un (by decide)]; exact ha.1
  · rw [pk_un (by decide)]; exact ha.2.2.1
theorem BadI.mk {e : Nat × Nat} {r : Option (Int32 × dzH)} (b : Bad A h l o v F T E e r) (hr : ∀ h', r = some (0, h') → dzF 79 30 [(0, .ref (A + 232)), (1, .int (nI l))] [] (0, 0) h = dzF 79 130 [(0, .ref (A + 232)), (1, .int (nI l)), (2, .int 0)] [] (0, 0) h') : BadI A h l o v F T E e := by
  obtain ⟨h', o', v', F', e1, W, e2, e3⟩ := b
  refine ⟨h', o', v', F', ?_, W, e2, e3⟩
  rw [hr h' e1, kk_fin0, nI_1]
theorem kk_iter (w : CW A h o v T E F) (hl : l < 200) (h1 : o 1 = nI l) (h8 : o 8 = 0) (ha : At o s c) (hc : c < s) {N : Nat → Nat} (hN : ∀ i, i < l → v (24 + i) = N i ∧ 1 ≤ N i) :
    Res (rdLine (tw T) s N l c) (BadI A h l o v F T E) (OkI A h l s o v F T E) := by
  have hN' : ∀ i, i < l → N i = (fun i => v (24 + i)) i := fun i hi => (hN i hi).1.symm
  generalize hr : dzF 79 30 [(0, .ref (A + 232)), (1, .int (nI l))] [] (0, 0) h = r
  have hr0 := hr
  rw [q_Checker_findFault_30, if_pos (show nI l < 200 from nI_lt hl (by decide))] at hr
  simp only [g_o8 w, h8, Option.bind_some, g_o3 w, g_ck0 w, g_o0 w, ha.1, ha.2.2.1] at hr
  rw [if_pos trivial, if_pos (nI_lt hc (by have := ha.2.1; omega))] at hr
  by_cases t1 : w32 (T c) = 1
  · rw [rdLine_1 (show tw T c = 1 from t1)]
    have rr := kk_line1 w hl ha hc t1
    cases hx : rdSm (tw T) s (c + 1) with
    | error e =>
      rw [hx] at rr
      refine Res.er (BadI.mk rr (fun h' e1 => ?_))
      rw [hr0, ← hr, e1]
      rfl
    | ok y =>
      rw [hx] at rr
      obtain ⟨h', o', v', e1, W, hV, h5, ha'⟩ := rr
      refine Res.okk (OkI.mk (W.mono (by decide)) h1 hl ha' hV ?_)
      rw [hr0, ← hr]
      simp only [e1, Option.bind_some, if_neg one_n0, g_o5 W.cw, h5]
      rw [if_pos (show T c = 1 from (eq_w (x := T c) (a := 1) (by decide)).mpr t1)]
  · by_cases t23 : w32 (T c) = 2 ∨ w32 (T c) = 3
    · have rr := kk_line2 w hl ha hc t23
      rw [rl_N (N := N) (fun i hi => (hN' i hi).symm)] at rr
      have n1 : ¬ T c = 1 := fun q => t1 (by rw [q]; rfl)
      have hbad : ∀ {e : Nat × Nat}, Bad A h l o v F T E e (c_Checker_readLine (A + 232) (nI l) h) → BadI A h l o v F T E e := fun b => BadI.mk b (fun h' e1 => by
        rw [hr0, ← hr, e1]
        rfl)
      cases hx : rl (tw T) s N l c with
      | error e =>
        rw [hx] at rr
        have b := hbad rr
        rcases t23 with t2 | t3
        · rw [rdLine_2 (show tw T c = 2 from t2), hx]
          exact b
        · rw [rdLine_3 (show tw T c = 3 from t3), hx]
          exact b
      | ok y =>
        obtain ⟨V, c1⟩ := y
        rw [hx] at rr
        obtain ⟨k1, o1, v1, F1, e1, W, hV, h5, hok⟩ := rr
        dsimp only at hV hok
        have w1 := W.cw
        have hV3 : 3 ≤ V := by
          rcases t23 with t2 | t3
          · obtain ⟨a1, -⟩ := rl_ok2 (t := tw T) t2 hx
            have := rdNum_ok a1
            omega
          · obtain ⟨a1, -⟩ := rl_ok3 (t := tw T) (show w32 (T c) ≠ 2 by omega) hx
            have := rdNum_ok a1
            omega
        obtain ⟨k2, b1, b2, b3⟩ := kk_begin w1 (r := 24 + l) (isR_n hl) (by omega) (by rw [hV]; omega)
        rw [hV] at b2
        have W2 : Wd A h l [3, 4, 5, 6, 7, 10] o v F T E _ _ _ _ := W.tr (Wd.num b2 b3 (fun k _ hk => by rw [gu_n (by omega), gu_n (by omega)]))
        simp only [e1, Option.bind_some, if_neg one_n0, g_o5 w1, h5, if_neg n1, g_ck3 w1, g_ck1 w1, g_lines0 w1, g_nm w1 hl, b1] at hr
        have e226 : gu (gu v1 226 V) 227 (V - 1) 226 = V := by rw [gu_n (by decide), gu_s]
        have e227 : gu (gu v1 226 V) 227 (V - 1) 227 = V - 1 := gu_s _ _ _
        have hN2 : ∀ i, i < l → gu (gu v1 226 V) 227 (V - 1) (24 + i) = N i ∧ 1 ≤ N i := fun i hi => by
          refine ⟨?_, (hN i hi).2⟩
          rw [gu_n (by omega), gu_n (by omega), W.kv (by omega) (by omega)]
          exact (hN i hi).1
        rcases t23 with t2 | t3
        · rw [rdLine_2 (show tw T c = 2 from t2), hx]
          dsimp only
          obtain ⟨h6, hat, hF, h7, h10⟩ := hok.1 t2
          obtain ⟨-, -, a3⟩ := rl_ok2 (t := tw T) t2 hx
          obtain ⟨f1, f2, f3, f4⟩ := rdFacs_ok (Or.inl rfl) a3
          have fok : FOk T 2 (c1 + 1) (w32 (T (c1 + 1))) l N o1 (gu (gu v1 226 V) 227 (V - 1)) F1 := ⟨f2, hl, h7, h10, by rw [h5, ← nI_w32 (T c), t2], hF, fun j hj => ⟨(f4 j hj).1, (f4 j hj).2.2.2⟩, hN2⟩
          have pr := kk_prod b2 fok (Or.inl rfl) rfl e226 e227
          rw [ts2_pr]
          cases hp : prT (tw T) N V (c1 + 1) 2 with
          | error e =>
            rw [hp] at pr
            obtain ⟨k3, o3, v3, F3, p1, p2, p3⟩ := pr
            refine Res.er (BadI.mk (r := some (0, k3)) (Bad.after (⟨k3, o3, v3, F3, rfl, p2, p3⟩ : Bad A k2 l o1 _ F1 T E e _) W2 (by decide)) (fun h' z => ?_))
            cases z
            rw [hr0, ← hr, p1, Option.bind_some]
            dsimp only
            rw [if_pos rfl, q_Checker_findFault_128, q_Checker_findFault_129]
          | ok u =>
            rw [hp] at pr
            obtain ⟨k3, v3, p1, p2⟩ := pr
            have e226' : v3 226 = V := by rw [p2.2.2 226 (by omega), e226]
            have e227' : v3 227 = V - 1 := by rw [p2.2.2 227 (by omega), e227]
            have rt := kk_rootH p2.1 hV3 h6 (fok.up p2) e226' e227'
            have W3 := W2.tr ((p2.wd l).mono (by simp))
            simp only [p1, Option.bind_some, if_neg one_n0, g_o5 p2.1, h5] at hr
            rw [if_pos (show T c = 2 from (eq_w (x := T c) (a := 2) (by decide)).mpr t2)] at hr
            dsimp only
            show Res (match (if w32 (T c1) ^ (V - 1) % V = 1 then tRoot (tw T) N V (w32 (T c1)) (c1 + 1) (w32 (T (c1 + 1))) 0 else .error (9, c1) : rU) with
              | .error e => .error e
              | .ok _ => .ok (V, c1 + 1 + 1 + 2 * w32 (T (c1 + 1)))) _ _
            cases hq : (if w32 (T c1) ^ (V - 1) % V = 1 then tRoot (tw T) N V (w32 (T c1)) (c1 + 1) (w32 (T (c1 + 1))) 0 else .error (9, c1) : rU) with
            | error e =>
              rw [hq] at rt
              obtain ⟨k4, o4, v4, F4, q1, q2, q3⟩ := rt
              refine Res.er (BadI.mk (r := some (0, k4)) (Bad.after (⟨k4, o4, v4, F4, rfl, q2, q3⟩ : Bad A k3 l o1 _ F1 T E e _) W3 (by decide)) (fun h' z => ?_))
              cases z
              rw [hr0, ← hr, q1, Option.bind_some]
              dsimp only
              rw [if_pos rfl, q_Checker_findFault_128, q_Checker_findFault_129]
            | ok u2 =>
              rw [hq] at rt
              obtain ⟨k4, v4, q1, q2⟩ := rt
              have W4 := W3.tr ((q2.wd l).mono (by simp))
              refine Res.okk (OkI.mk W4 h1 hl hat ?_ ?_)
              · rw [q2.2.2 (24 + l) (by omega), p2.2.2 (24 + l) (by omega), gu_n (by omega), gu_n (by omega), hV]
              · rw [hr0, ← hr, q1, Option.bind_some]
                dsimp only
                rw [if_neg one_n0, q_Checker_findFault_124, q_Checker_findFault_129]
        · rw [rdLine_3 (show tw T c = 3 from t3), hx]
          dsimp only
          have t2 : ¬ w32 (T c) = 2 := by omega
          obtain ⟨hat, hF, h7, h10⟩ := hok.2 t3
          obtain ⟨-, a3⟩ := rl_ok3 (t := tw T) t2 hx
          obtain ⟨f1, f2, f3, f4⟩ := rdFacs_ok (Or.inr rfl) a3
          have fok : FOk T 3 c1 (w32 (T c1)) l N o1 (gu (gu v1 226 V) 227 (V - 1)) F1 := ⟨f2, hl, h7, h10, by rw [h5, ← nI_w32 (T c), t3], hF, fun j hj => ⟨(f4 j hj).1, (f4 j hj).2.2.2⟩, hN2⟩
          have pr := kk_prod b2 fok (Or.inr rfl) rfl e226 e227
          rw [ts3_pr]
          cases hp : prT (tw T) N V c1 3 with
          | error e =>
            rw [hp] at pr
            obtain ⟨k3, o3, v3, F3, p1, p2, p3⟩ := pr
            refine Res.er (BadI.mk (r := some (0, k3)) (Bad.after (⟨k3, o3, v3, F3, rfl, p2, p3⟩ : Bad A k2 l o1 _ F1 T E e _) W2 (by decide)) (fun h' z => ?_))
            cases z
            rw [hr0, ← hr, p1, Option.bind_some]
            dsimp only
            rw [if_pos rfl, q_Checker_findFault_128, q_Checker_findFault_129]
          | ok u =>
            rw [hp] at pr
            obtain ⟨k3, v3, p1, p2⟩ := pr
            have e226' : v3 226 = V := by rw [p2.2.2 226 (by omega), e226]
            have e227' : v3 227 = V - 1 := by rw [p2.2.2 227 (by omega), e227]
            have rt := kk_witH p2.1 hV3 (fok.up p2) e226' e227'
            have W3 := W2.tr ((p2.wd l).mono (by simp))
            simp only [p1, Option.bind_some, if_neg one_n0, g_o5 p2.1, h5] at hr
            rw [if_neg (show ¬ T c = 2 from fun q => t2 ((eq_w (x := T c) (a := 2) (by decide)).mp q))] at hr
            dsimp only
            show Res (match twp (tw T) N V c1 (w32 (T c1)) with
              | .error e => .error e
              | .ok _ => .ok (V, c1 + 1 + 3 * w32 (T c1))) _ _
            cases hq : twp (tw T) N V c1 (w32 (T c1)) with
            | error e =>
              rw [hq] at rt
              obtain ⟨k4, o4, v4, F4, q1, q2, q3⟩ := rt
              refine Res.er (BadI.mk (r := some (0, k4)) (Bad.after (⟨k4, o4, v4, F4, rfl, q2, q3⟩ : Bad A k3 l o1 _ F1 T E e _) W3 (by decide)) (fun h' z => ?_))
              cases z
              rw [hr0, ← hr, q1, Option.bind_some]
              dsimp only
              rw [if_pos rfl, q_Checker_findFault_128, q_Checker_findFault_129]
            | ok u2 =>
              rw [hq] at rt
              obtain ⟨k4, v4, q1, q2⟩ := rt
              have W4 := W3.tr ((q2.wd l).mono (by simp))
              refine Res.okk (OkI.mk W4 h1 hl hat ?_ ?_)
              · rw [q2.2.2 (24 + l) (by omega), p2.2.2 (24 + l) (by omega), gu_n (by omega), gu_n (by omega), hV]
              · rw [hr0, ← hr, q1, Option.bind_some]
                dsimp only
                rw [if_neg one_n0, q_Checker_findFault_124, q_Checker_findFault_129]
    · obtain ⟨-, -, -, -, -, -, -, -, hb⟩ := kk_line0 w hl ha hc
      have b := hb t1 (fun q => t23 (Or.inl q)) (fun q => t23 (Or.inr q))
      rw [rdLine_0 (show tw T c ≠ 1 from t1) (fun q => t23 (Or.inl q)) (fun q => t23 (Or.inr q))]
      refine Res.er (BadI.mk b (fun h' e1 => ?_))
      rw [hr0, ← hr, e1]
      rfl
end
