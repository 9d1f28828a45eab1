/-! the class's check, from its first line to its last; the calls on tape and lines -/
/-- what a check leaves as it was -/
def Fin (A : Nat) (h : dzH) (o : Nat → Int32) (v : Nat → Nat) (F : Nat → Nat → Int32) (T : Nat → Int32) (h' : dzH) (o' : Nat → Int32) (v' : Nat → Nat) (E' : Nat → Int32) (F' : Nat → Nat → Int32) : Prop :=
  CW A h' o' v' T E' F' ∧ fr h h' (inC A) ∧ (∀ j, j = 0 ∨ 10 < j → o' j = o j) ∧ (∀ j, j < 24 ∨ 237 < j → v' j = v j) ∧ ∀ r, 2 < r → F' r = F r
section
variable {A : Nat} {h : dzH} {o : Nat → Int32} {v : Nat → Nat} {T E : Nat → Int32} {F : Nat → Nat → Int32} {l : Nat} {s c : Nat}
theorem Fin.tr {h1 h2 : dzH} {o1 o2 : Nat → Int32} {v1 v2 : Nat → Nat} {E1 E2 : Nat → Int32} {F1 F2 : Nat → Nat → Int32} (a : Fin A h o v F T h1 o1 v1 E1 F1) (b : Fin A h1 o1 v1 F1 T h2 o2 v2 E2 F2) : Fin A h o v F T h2 o2 v2 E2 F2 :=
  ⟨b.1, a.2.1.tr b.2.1, fun j hj => (b.2.2.1 j hj).trans (a.2.2.1 j hj), fun j hj => (b.2.2.2.1 j hj).trans (a.2.2.2.1 j hj), fun r hr => (b.2.2.2.2 r hr).trans (a.2.2.2.2 r hr)⟩
theorem Fin.rf (w : CW A h o v T E F) : Fin A h o v F T h o v E F := ⟨w, fr.rf _ _, fun _ _ => rfl, fun _ _ => rfl, fun _ _ => rfl⟩
theorem Fin.wd {h1 : dzH} {o1 : Nat → Int32} {v1 : Nat → Nat} {F1 : Nat → Nat → Int32} (a : Wd A h l LL o v F T E h1 o1 v1 F1) (hl : l < 200) : Fin A h o v F T h1 o1 v1 E F1 :=
  ⟨a.1, a.2.1, fun j hj => a.2.2.1 j (fun z => by simp at z; omega), fun j hj => a.2.2.2.1 j (by omega) (by omega), a.2.2.2.2⟩
theorem Fin.int {h1 : dzH} {k : Nat} {x : Int32} (w : CW A h1 (upd o k x) v T E F) (hf : fr h h1 (inC A)) (hk : 0 < k) (hk2 : k ≤ 10) : Fin A h o v F T h1 (upd o k x) v E F :=
  ⟨w, hf, fun j hj => pk_un (by omega), fun _ _ => rfl, fun _ _ => rfl⟩
theorem kk_exit (w : CW A h o v T E F) (i1 : Int32) {f : Nat} (hf : 1 ≤ f) (hf2 : f ≤ 10) (h8 : o 8 = nI f) : ∃ h', dzRI (dzF 79 182 [(0, .ref (A + 232)), (1, .int i1)] [] (0, 0) h) = some (nI f, h') ∧ CW A h' (upd o 2 0) v T E F ∧ fr h h' (inC A) := by
  obtain ⟨h', a1, a2, a3⟩ := p_o2 w 0
  refine ⟨h', ?_, a2, a3⟩
  rw [q_Checker_findFault_182]
  simp only [g_ck1 w, g_o8 w, h8, Option.bind_some]
  rw [if_neg (nI_ne0 (by omega) (by omega)), q_Checker_findFault_204]
  simp only [a1, Option.bind_some, g_o8 a2, pk_un (f := o) (k := 2) (j := 8) (x := 0) (by decide), h8]
  rfl
theorem kk_exit0 (w : CW A h o v T E F) (i1 : Int32) (h8 : o 8 = 0) : ∃ h', dzRI (dzF 79 182 [(0, .ref (A + 232)), (1, .int i1)] [] (0, 0) h) = some (0, h') ∧ CW A h' (upd o 2 (o 1)) v T E F ∧ fr h h' (inC A) := by
  obtain ⟨h', a1, a2, a3⟩ := p_o2 w (o 1)
  refine ⟨h', ?_, a2, a3⟩
  rw [q_Checker_findFault_182]
  simp only [g_ck1 w, g_o8 w, h8, Option.bind_some, g_o1 w]
  rw [if_pos trivial, q_Checker_findFault_204]
  simp only [a1, Option.bind_some, g_o8 a2, pk_un (f := o) (k := 2) (j := 8) (x := o 1) (by decide), h8]
  rfl
theorem kk_151 (w : CW A h o v T E F) (i1 : Int32) {f : Nat} (hf : 1 ≤ f) (hf2 : f ≤ 10) (h8 : o 8 = nI f) : dzF 79 151 [(0, .ref (A + 232)), (1, .int i1)] [] (0, 0) h = dzF 79 182 [(0, .ref (A + 232)), (1, .int i1)] [] (0, 0) h := by
  rw [q_Checker_findFault_151]
  simp only [g_o8 w, h8, Option.bind_some]
  rw [if_neg (nI_ne0 (by omega) (by omega))]
theorem kk_30f (w : CW A h o v T E F) (i1 : Int32) {f : Nat} (hf : 1 ≤ f) (hf2 : f ≤ 10) (h8 : o 8 = nI f) : dzF 79 30 [(0, .ref (A + 232)), (1, .int i1)] [] (0, 0) h = dzF 79 182 [(0, .ref (A + 232)), (1, .int i1)] [] (0, 0) h := by
  rw [q_Checker_findFault_30]
  simp only [g_o8 w, h8, Option.bind_some]
  rw [if_neg (nI_ne0 (n := f) (by omega) (by omega)), kk_151 w i1 hf hf2 h8]
  split <;> rfl
theorem tw_upd {E : Nat → Int32} {l e : Nat} (he : e < 4294967296) : tw (upd E l (nI e)) = gu (tw E) l e := by
  funext i
  show w32 (upd E l (nI e) i) = gu (tw E) l e i
  by_cases h : i = l
  · subst h
    rw [pk_us, gu_s, w32_nI he]
  · rw [pk_un h, gu_n h]
theorem lp_find : ∀ (k l : Nat) {c : Nat} {h : dzH} {o : Nat → Int32} {v : Nat → Nat} {E : Nat → Int32} {F : Nat → Nat → Int32} {N : Nat → Nat}, l + k = 200 → CW A h o v T E F → o 8 = 0 → o 1 = nI l → At o s c → stt (tw E) l = c → Right (tw T) s (tw E) N l → (∀ i, i < l → v (24 + i) = N i) →
    Res (chkF (tw T) s (k + 1) l c N)
      (fun e => ∃ h' o' v' E' F' n, dzRI (dzF 79 30 [(0, .ref (A + 232)), (1, .int (nI l))] [] (0, 0) h) = some (nI e.1, h') ∧ erOk e ∧ Fin A h o v F T h' o' v' E' F' ∧ o' 1 = nI n ∧ n ≤ 200 ∧ o' 2 = 0 ∧ o' 9 = nI e.2 ∧ Right (tw T) s (tw E') (fun i => v' (24 + i)) n)
      (fun y => ∃ h' o' v' E' F', dzRI (dzF 79 30 [(0, .ref (A + 232)), (1, .int (nI l))] [] (0, 0) h) = some (0, h') ∧ Fin A h o v F T h' o' v' E' F' ∧ o' 1 = nI y.1 ∧ y.1 ≤ 200 ∧ o' 2 = nI y.1 ∧ o' 9 = o 9 ∧ Right (tw T) s (tw E') (fun i => v' (24 + i)) y.1 ∧ (∀ i, i < y.1 → v' (24 + i) = y.2 i) ∧ stt (tw E') y.1 = s)
  | k, l, c, h, o, v, E, F, N, hk, w, h8, h1, ha, hst, hR, hN => by
    have hRv : Right (tw T) s (tw E) (fun i => v (24 + i)) l := hR.loc (Nat.le_refl _) (fun _ _ => rfl) hN (fun _ _ => rfl) (by rw [hst]; exact ha.2.2.2)
    have hs4 := ha.2.1
    unfold chkF
    by_cases hc : c < s
    · rw [if_pos hc]
      by_cases hl : l < 200
      · rw [if_pos hl]
        obtain ⟨k', rfl⟩ : ∃ k', k = k' + 1 := ⟨k - 1, by omega⟩
        have it := kk_iter w hl h1 h8 ha hc (N := N) (fun i hi => ⟨hN i hi, by have := (hR.prime i hi).1; omega⟩)
        cases hx : rdLine (tw T) s N l c with
        | error e =>
          rw [hx] at it
          obtain ⟨h', o', v', F', e1, W, e8, e9⟩ := it
          have he := rdLine_er hx
          obtain ⟨h2, b1, b2, b3⟩ := kk_exit W.cw (nI (l + 1)) he.1 he.2 e8
          have Fi : Fin A h o v F T h2 _ v' E F' := (Fin.wd W hl).tr (Fin.int b2 b3 (by decide) (by decide))
          refine Res.er ⟨h2, _, v', E, F', l, ?_, he, Fi, ?_, by omega, pk_us, ?_, ?_⟩
          · rw [e1, kk_30f W.cw _ he.1 he.2 e8, b1]
          · rw [pk_un (by decide), W.ke (by decide), h1]
          · rw [pk_un (by decide), e9]
          · exact hRv.loc (Nat.le_refl _) (fun _ _ => rfl) (fun i hi => W.kv (by omega) (by omega)) (fun _ _ => rfl) (by rw [hst]; exact ha.2.2.2)
        | ok y =>
          rw [hx] at it
          obtain ⟨h', o', v', F', e1, w', hf, ke, e2, ha', kv, kF, hV⟩ := it
          have hys : y.2 ≤ s := ha'.2.2.2
          have Fi : Fin A h o v F T h' o' v' (upd E l (nI y.2)) F' := ⟨w', hf, fun j hj => ke j (fun z => by simp at z; omega), fun j hj => kv j (by omega) (by omega), kF⟩
          have hx' : rdLine (tw T) s N l (stt (tw E) l) = .ok (y.1, y.2) := by rw [hst]; exact hx
          have hR' := hR.push hx'
          have ih := lp_find k' (l + 1) (c := y.2) (N := gu N l y.1) (by omega) w' (by rw [ke 8 (by decide), h8]) e2 ha' (by rw [tw_upd (by omega), stt_s, gu_s]) (by rw [tw_upd (by omega)]; exact hR') (fun i hi => by
            by_cases z : i = l
            · rw [z, gu_s, hV]
            · rw [gu_n z, kv _ (by omega) (by omega), hN i (by omega)])
          rw [e1]
          show Res (chkF (tw T) s (k' + 1) (l + 1) y.2 (gu N l y.1)) _ _
          revert ih
          cases chkF (tw T) s (k' + 1) (l + 1) y.2 (gu N l y.1) with
          | error e =>
            rintro ⟨h2, o2, v2, E2, F2, n, z1, z2, z3, z4⟩
            exact ⟨h2, o2, v2, E2, F2, n, z1, z2, Fi.tr z3, z4⟩
          | ok z =>
            rintro ⟨h2, o2, v2, E2, F2, z1, z2, z3, z4, z5, z6, z7⟩
            exact ⟨h2, o2, v2, E2, F2, z1, Fi.tr z2, z3, z4, z5, by rw [z6, ke 9 (by decide)], z7⟩
      · rw [if_neg hl]
        have el : l = 200 := by omega
        obtain ⟨k1, a1, a2, a3⟩ := kk_refuse w 2 (nI c)
        have h8' : upd (upd o 8 2) 9 (nI c) 8 = nI 2 := by rw [pk_un (by decide), pk_us]; rfl
        obtain ⟨h2, b1, b2, b3⟩ := kk_exit a2 (nI l) (f := 2) (by decide) (by decide) h8'
        have Fi : Fin A h o v F T h2 _ v E F := ⟨b2, a3.tr b3, fun j hj => by rw [pk_un (by omega), pk_un (by omega), pk_un (by omega)], fun _ _ => rfl, fun _ _ => rfl⟩
        refine Res.er ⟨h2, _, v, E, F, l, ?_, er_mk (by decide) (by decide), Fi, ?_, by omega, pk_us, ?_, hRv⟩
        · rw [q_Checker_findFault_30, if_neg (show ¬ nI l < 200 from nI_nlt (b := 200) (by omega) (by omega)), q_Checker_findFault_151]
          simp only [g_o8 w, h8, Option.bind_some, g_o3 w, g_ck0 w, g_o0 w, ha.1, ha.2.2.1]
          rw [if_pos trivial, if_pos (nI_lt hc (by omega)), a1, Option.bind_some, b1]
        · rw [pk_un (by decide), pk_un (by decide), pk_un (by decide), h1]
        · rw [pk_un (by decide), pk_us]
    · rw [if_neg hc]
      obtain ⟨h2, b1, b2, b3⟩ := kk_exit0 w (nI l) h8
      have ec : c = s := by have := ha.2.2.2; omega
      refine Res.okk ⟨h2, _, v, E, F, ?_, Fin.int b2 b3 (by decide) (by decide), ?_, by show l ≤ 200; omega, ?_, ?_, hRv, hN, by rw [hst, ec]⟩
      · have e151 : dzF 79 151 [(0, .ref (A + 232)), (1, .int (nI l))] [] (0, 0) h = dzF 79 182 [(0, .ref (A + 232)), (1, .int (nI l))] [] (0, 0) h := by
          rw [q_Checker_findFault_151]
          simp only [g_o8 w, h8, Option.bind_some, g_o3 w, g_ck0 w, g_o0 w, ha.1, ha.2.2.1]
          rw [if_pos trivial, if_neg (nI_nlt (by omega) (by omega))]
        rw [q_Checker_findFault_30]
        simp only [g_o8 w, h8, Option.bind_some, g_o3 w, g_ck0 w, g_o0 w, ha.1, ha.2.2.1]
        rw [if_pos trivial, if_neg (nI_nlt (by omega) (by omega)), e151]
        split <;> exact b1
      · rw [pk_un (by decide), h1]
      · rw [pk_us, h1]
      · rw [pk_un (by decide)]
/-- findFault -/
theorem kk_find (w : CW A h o v T E F) {n : Nat} (hs : o 0 = nI s) (hs4 : s ≤ 4000) (h1 : o 1 = nI n) (hn : n ≤ 200) {N : Nat → Nat} (hR : Right (tw T) s (tw E) N n) (hN : ∀ i, i < n → v (24 + i) = N i) :
    Res (chkF (tw T) s (200 - n + 1) n (stt (tw E) n) N)
      (fun e => ∃ h' o' v' E' F' n', c_Checker_findFault (A + 232) h = some (nI e.1, h') ∧ erOk e ∧ Fin A h o v F T h' o' v' E' F' ∧ o' 1 = nI n' ∧ n' ≤ 200 ∧ o' 2 = 0 ∧ o' 9 = nI e.2 ∧ Right (tw T) s (tw E') (fun i => v' (24 + i)) n')
      (fun y => ∃ h' o' v' E' F', c_Checker_findFault (A + 232) h = some (0, h') ∧ Fin A h o v F T h' o' v' E' F' ∧ o' 1 = nI y.1 ∧ y.1 ≤ 200 ∧ o' 2 = nI y.1 ∧ o' 9 = -2 ∧ Right (tw T) s (tw E') (fun i => v' (24 + i)) y.1 ∧ (∀ i, i < y.1 → v' (24 + i) = y.2 i) ∧ stt (tw E') y.1 = s) := by
  obtain ⟨fs, ho⟩ := w.o232
  obtain ⟨k1, a1, a2, a3⟩ := p_o8 w 0
  obtain ⟨k2, b1, b2, b3⟩ := p_o9 a2 (-2)
  have en := kk_end b2 (n := n) (by rw [pk_un (by decide), pk_un (by decide), h1]) hn
  have est : (if n = 0 then 0 else E (n - 1)) = nI (stt (tw E) n) := by
    unfold stt
    by_cases z : n = 0
    · rw [if_pos z, if_pos z]; rfl
    · rw [if_neg z, if_neg z, nI_w32]
  rw [est] at en
  obtain ⟨k3, c1, c2, c3⟩ := p_o3 b2 (nI (stt (tw E) n))
  have hle : stt (tw E) n ≤ s := by
    rcases Nat.eq_zero_or_pos n with z | z
    · rw [z, stt_0]; omega
    · obtain ⟨m, rfl⟩ : ∃ m, n = m + 1 := ⟨n - 1, by omega⟩
      rw [stt_s]
      exact (hR.step (i := m) (by omega)).2
  have Fi : Fin A h o v F T k3 _ v E F := ((Fin.int a2 a3 (by decide) (by decide)).tr (Fin.int b2 b3 (by decide) (by decide))).tr (Fin.int c2 c3 (by decide) (by decide))
  have main := lp_find (s := s) (200 - n) n (by omega) c2 (by rw [pk_un (by decide), pk_un (by decide), pk_us]) (by rw [pk_un (by decide), pk_un (by decide), pk_un (by decide), h1]) ⟨by rw [pk_un (by decide), pk_un (by decide), pk_un (by decide), hs], hs4, pk_us, hle⟩ rfl hR hN
  have e0 : c_Checker_findFault (A + 232) h = dzRI (dzF 79 30 [(0, .ref (A + 232)), (1, .int (nI n))] [] (0, 0) k3) := by
    rw [cc_Checker_findFault _ _ ho, q_Checker_findFault_0]
    simp only [a1, Option.bind_some, b1, g_ck1 b2, en, c1, g_ck1 c2, g_o1 c2]
    rw [pk_un (by decide), pk_un (by decide), pk_un (by decide), h1]
  rw [e0]
  revert main
  cases chkF (tw T) s (200 - n + 1) n (stt (tw E) n) N with
  | error e =>
    rintro ⟨h2, o2, v2, E2, F2, n', z1, z2, z3, z4⟩
    exact ⟨h2, o2, v2, E2, F2, n', z1, z2, Fi.tr z3, z4⟩
  | ok z =>
    rintro ⟨h2, o2, v2, E2, F2, z1, z2, z3, z4, z5, z6, z7⟩
    exact ⟨h2, o2, v2, E2, F2, z1, Fi.tr z2, z3, z4, z5, by rw [z6, pk_un (by decide), pk_us], z7⟩
-- the calls on tape and lines
theorem cl_say (w : CW A h o v T E F) (hs : o 0 = nI s) (hs4 : s ≤ 4000) (x : Int32) : (s < 4000 → ∃ h', c_P_say A x h = some (nI (s + 1), h') ∧ CW A h' (upd o 0 (nI (s + 1))) v (upd T s x) E F ∧ fr h h' (inC A)) ∧ (s = 4000 → c_P_say A x h = some (-3, h)) := by
  obtain ⟨fs, ho⟩ := w.ob
  have hroom := kk_room w
  rw [hs] at hroom
  constructor
  · intro hlt
    obtain ⟨h', a1, a2, a3⟩ := kk_app w hs hlt x
    refine ⟨h', ?_, a2, a3⟩
    have hne : ¬ (4000 : Int32) - nI s = 0 := by
      rw [show (4000 : Int32) = nI 4000 from rfl, pk_sub hs4]
      exact nI_ne0 (by omega) (by omega)
    rw [cc_P_say _ _ _ ho, q_P_say_0]
    simp only [g_p4 w, Option.bind_some, hroom, if_neg hne, a1, g_p4 a2, g_o0 a2, pk_us]
    rfl
  · intro heq
    subst heq
    rw [cc_P_say _ _ _ ho, q_P_say_0]
    simp only [g_p4 w, Option.bind_some, hroom]
    rfl
theorem cl_cut (w : CW A h o v T E F) (hs : o 0 = nI s) (hs4 : s ≤ 4000) {n : Nat} (h1 : o 1 = nI n) (hn : n ≤ 200) (hE : ∀ i, i < n → w32 (E i) ≤ 4000) (x : Int32) :
    (∀ z, x = nI z → z ≤ s → ∃ h', c_P_cut A x h = some (1, h') ∧ CW A h' (upd (upd o 0 (nI z)) 1 (nI (keepN (tw E) z n))) v T E F ∧ fr h h' (inC A)) ∧ ((¬ ∃ z, x = nI z ∧ z ≤ s) → c_P_cut A x h = some (0, h)) := by
  obtain ⟨fs, ho⟩ := w.ob
  constructor
  · intro z ez hz
    subst ez
    obtain ⟨k1, a1, a2, a3⟩ := p_o0 w (nI z)
    obtain ⟨k2, b1, b2, b3⟩ := kk_forget (z := z) (by omega) a2 (by rw [pk_un (by decide), h1]) hn hE
    refine ⟨k2, ?_, b2, a3.tr b3⟩
    rw [cc_P_cut _ _ _ ho, q_P_cut_0, if_neg (nI_pos (by omega))]
    simp only [g_p4 w, Option.bind_some, g_o0 w, hs, if_pos (nI_le (a := z) (b := s) hz (by omega)), a1, g_p5 a2, b1]
    rfl
  · intro hno
    rw [cc_P_cut _ _ _ ho, q_P_cut_0]
    by_cases hx : x < 0
    · rw [if_pos hx]
      rfl
    · rw [if_neg hx]
      obtain ⟨j, hj, ej⟩ := nI_of hx
      simp only [g_p4 w, Option.bind_some, g_o0 w, hs]
      rw [if_neg (fun q => hno ⟨j, ej, by rw [ej] at q; exact (nI_leI hj (by omega)).mp q⟩)]
      rfl
theorem cl_len (w : CW A h o v T E F) : c_P_length A h = some (o 0, h) := by
  obtain ⟨fs, ho⟩ := w.ob
  rw [cc_P_length _ _ ho, q_P_length_0]
  simp only [g_p4 w, Option.bind_some, g_o0 w]
  rfl
theorem cl_at (w : CW A h o v T E F) (hs : o 0 = nI s) (hs4 : s ≤ 4000) (x : Int32) : (∀ j, x = nI j → j < s → c_P_at A x h = some (T j, h)) ∧ ((¬ ∃ j, x = nI j ∧ j < s) → c_P_at A x h = some (0, h)) := by
  obtain ⟨fs, ho⟩ := w.ob
  constructor
  · intro j ej hj
    subst ej
    rw [cc_P_at _ _ _ ho, q_P_at_0, if_neg (nI_pos (by omega))]
    simp only [g_p4 w, Option.bind_some, g_o0 w, hs, if_pos (nI_lt (a := j) (b := s) hj (by omega)), g_tape0 w, r_T w (j := j) (by omega)]
    rfl
  · intro hno
    rw [cc_P_at _ _ _ ho, q_P_at_0]
    by_cases hx : x < 0
    · rw [if_pos hx]
      rfl
    · rw [if_neg hx]
      obtain ⟨j, hj, ej⟩ := nI_of hx
      simp only [g_p4 w, Option.bind_some, g_o0 w, hs]
      rw [if_neg (fun q => hno ⟨j, ej, by rw [ej] at q; exact (nI_ltI hj (by omega)).mp q⟩)]
      rfl
theorem cl_place (w : CW A h o v T E F) : c_P_place A h = some (o 9, h) := by
  obtain ⟨fs, ho⟩ := w.ob
  rw [cc_P_place _ _ ho, q_P_place_0]
  simp only [g_p6 w, Option.bind_some, g_o9 w]
  rfl
theorem cl_tell (w : CW A h o v T E F) {t : Nat} (ht : o 2 = nI t) (ht2 : t ≤ 200) {R : Nat → Nat} (hR : ∀ r, r < 8 → v (2 + r) = R r) (x y : Int32) :
    (∀ j r, x = nI j → j < t → y = nI r → r < 8 → ∃ h', c_P_tell A x y h = some (1, h') ∧ RegTo A h h' o v T E F (gu R r (v (24 + j)))) ∧ ((¬ ∃ j r, x = nI j ∧ j < t ∧ y = nI r ∧ r < 8) → c_P_tell A x y h = some (0, h)) := by
  obtain ⟨fs, ho⟩ := w.ob
  constructor
  · intro j r ex hj ey hr
    subst ex
    subst ey
    obtain ⟨h', a1, a2, a3⟩ := cw_copy w (r := 24 + j) (k := 2 + r) (isR_n (by omega)) (isR_r hr) (by omega) (by omega)
    refine ⟨h', ?_, _, a2, a3, fun k hk => gu_n (by omega), fun i hi => ?_⟩
    · rw [cc_P_tell _ _ _ _ ho, q_P_tell_0, if_neg (nI_pos (by omega))]
      simp only [g_p5 w, Option.bind_some, g_o2 w, ht, if_pos (nI_lt (a := j) (b := t) hj (by omega)), sp_isReg, isReg_nI hr, if_neg bI_n1, g_lines0 w, g_nm w (l := j) (by omega), g_p0 w, g_rg w hr, a1]
      rfl
    · by_cases e : i = r
      · rw [e, gu_s, gu_s]
      · rw [gu_n (by omega), gu_n e, hR i hi]
  · intro hno
    rw [cc_P_tell _ _ _ _ ho, q_P_tell_0]
    by_cases hx : x < 0
    · rw [if_pos hx]
      rfl
    · rw [if_neg hx]
      obtain ⟨j, hj, ej⟩ := nI_of hx
      simp only [g_p5 w, Option.bind_some, g_o2 w, ht, sp_isReg]
      by_cases hq : x < nI t
      · rw [if_pos hq]
        have hjt : j < t := by rw [ej] at hq; exact (nI_ltI hj (by omega)).mp hq
        cases hy : isReg y with
        | false => rfl
        | true =>
          obtain ⟨r, hr, er⟩ := isReg_ex hy
          exact absurd ⟨j, r, ej, hjt, er, hr⟩ hno
      · rw [if_neg hq]
        rfl
end
