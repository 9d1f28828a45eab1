/-! the reference's maker: its order of factors, its witnesses -/
def sg (i j : Nat) : Nat := if j = i then i + 1 else if j = i + 1 then i else j
theorem swp_sg (a : Nat → Nat) (i j : Nat) : swp a i j = a (sg i j) := by
  unfold swp sg
  split
  · rfl
  · split <;> rfl
theorem sg_inj {i a b : Nat} (h : sg i a = sg i b) : a = b := by
  unfold sg at h
  split at h <;> split at h <;> first | omega | (split at h <;> first | omega | (split at h <;> omega))
theorem sg_lt {i j m : Nat} (hi : i + 1 < m) (hj : j < m) : sg i j < m := by
  unfold sg
  split
  · exact hi
  · split <;> omega
/-- factors with the first f of them in order and small, the others large -/
def SB (f m P : Nat) (L X N C D : Nat → Nat) : Prop :=
  Pm m L X C D ∧ (∀ i j, i < m → j < m → N (C i) = N (C j) → i = j) ∧ pr (fun j => N (C j)) D m = P ∧ (∀ j, j + 1 < f → N (C j) < N (C (j + 1))) ∧ (∀ j, j < f → N (C j) ≤ 1009) ∧ (∀ j, f ≤ j → j < m → 1009 < N (C j))
theorem SB_swp {f m P : Nat} {L X N C D : Nat → Nat} (s : SB f m P L X N C D) {i : Nat} (hf : f ≤ i) (hi : i + 1 < m) : SB f m P L X N (swp C i) (swp D i) := by
  obtain ⟨s1, s2, s3, s4, s5, s6⟩ := s
  refine ⟨Pm_swp s1 hi, fun a b ha hb e => ?_, ?_, fun j hj => ?_, fun j hj => ?_, fun j h1 h2 => ?_⟩
  · rw [swp_sg, swp_sg] at e
    exact sg_inj (s2 _ _ (sg_lt hi ha) (sg_lt hi hb) e)
  · have e := pr_swp (q := fun j => N (C j)) (e := D) hi
    rw [s3] at e
    rw [← e]
    refine pr_congr (fun j hj => ⟨?_, rfl⟩)
    show N (swp C i j) = swp (fun j => N (C j)) i j
    rw [swp_sg, swp_sg]
  · rw [swp_n (by omega) (by omega), swp_n (by omega) (by omega)]
    exact s4 j hj
  · rw [swp_n (by omega) (by omega)]
    exact s5 j hj
  · rw [swp_sg]
    refine s6 _ ?_ (sg_lt hi h2)
    unfold sg
    split
    · omega
    · split <;> omega
def Tl (f m t : Nat) (K : Nat → Nat) : Prop := ∀ j, t ≤ j → j < m → ∀ i, f ≤ i → i < j → K i < K j
section
variable {M : Nat} {h : dzH} {o : Nat → Int32} {g : Nat → Nat} {T : Nat → Int32} {F : Nat → Nat → Int32} {s l n k m x V f P : Nat} {L X N C D q : Nat → Nat}
def Ar (m l : Nat) (C D : Nat → Nat) (F : Nat → Nat → Int32) : Prop := ∀ j, j < m → F 0 j = nI (C j) ∧ F 1 j = nI (D j) ∧ C j < l
theorem lp_s12 (ok : okg g) (hl : l ≤ 200) (hN : ∀ i, i < l → nv g (32 + i) = N i) (h8 : o 8 = nI m) (hm : m ≤ 40) {t : Nat} (ht : t ≤ m) (ht0 : 0 < t) (tu : Int32) : ∀ (d k : Nat) {F : Nat → Nat → Int32} {C D : Nat → Nat}, k + 1 + d = m → f ≤ k → SB f m P L X N C D → Ar m l C D F → Tl f m t (fun j => N (C j)) → (∀ i, f ≤ i → i < k → N (C i) < N (C k)) → (t ≤ k + 1 → Tl f m (t - 1) (fun j => N (C j))) →
    ∃ F' C' D', dzF 153 12 [(0, .ref M), (1, .int (nI f)), (2, .int tu), (3, .int (nI k))] [] (0, 0) (mS h M o g T F) = dzF 153 2 [(0, .ref M), (1, .int (nI f)), (2, .int (tu + 1))] [] (0, 0) (mS h M o g T F') ∧ F' 2 = F 2 ∧ SB f m P L X N C' D' ∧ Ar m l C' D' F' ∧ Tl f m (t - 1) (fun j => N (C' j))
  | 0, k, F, C, D, hd, hf, sb, ar, tl, i1, i3 => by
    refine ⟨F, C, D, ?_, rfl, sb, ar, i3 (by omega)⟩
    rw [q_M_sort_12, mS_g8, Option.bind_some, h8, nI_1, if_neg (nI_nlt (by omega) (by omega))]
  | d + 1, k, F, C, D, hd, hf, sb, ar, tl, i1, i3 => by
    obtain ⟨a1, a2, a3⟩ := ar k (by omega)
    obtain ⟨b1, b2, b3⟩ := ar (k + 1) (by omega)
    have hne : N (C k) ≠ N (C (k + 1)) := fun e => by have := sb.2.1 k (k + 1) (by omega) (by omega) e; omega
    generalize hr : dzF 153 12 [(0, .ref M), (1, .int (nI f)), (2, .int tu), (3, .int (nI k))] [] (0, 0) (mS h M o g T F) = R
    rw [q_M_sort_12, mS_g8, Option.bind_some, h8, nI_1, if_pos (nI_lt (by omega) (by omega)), mS_F0, Option.bind_some, mS_rF0 (by omega), Option.bind_some, Option.bind_some, mS_rF0 (by omega), Option.bind_some, a1, b1, m_order ok (i32l (C k)) (i32l (C (k + 1))) (by omega) (by omega), Option.bind_some, hN _ a3, hN _ b3] at hr
    dsimp only at hr
    by_cases hlt : N (C k) < N (C (k + 1))
    · rw [if_pos (ordI_lt.mpr hlt), q_M_sort_116, nI_1] at hr
      have i1' : ∀ i, f ≤ i → i < k + 1 → N (C i) < N (C (k + 1)) := fun i h1 h2 => by
        by_cases e : i = k
        · rw [e]; exact hlt
        · exact Nat.lt_trans (i1 i h1 (by omega)) hlt
      have ih := lp_s12 (tu := tu) ok hl hN h8 hm ht ht0 d (k + 1) (by omega) (by omega) sb ar tl i1' (fun hh => by
        by_cases e : t ≤ k + 1
        · exact i3 e
        · intro j h1 h2 i h3 h4
          by_cases e2 : j = k + 1
          · subst e2
            exact i1' i h3 h4
          · exact tl j (by omega) h2 i h3 h4)
      rw [hr] at ih
      exact ih
    · have hgt : N (C (k + 1)) < N (C k) := by omega
      have htk : ¬ t ≤ k + 1 := fun e => by
        have := tl (k + 1) e (by omega) k hf (by omega)
        exact hlt this
      rw [if_neg (fun z => hlt (ordI_lt.mp z)), mS_F0, Option.bind_some, mS_rF0 (by omega), Option.bind_some, Option.bind_some, Option.bind_some, mS_rF0 (by omega), Option.bind_some, a1, b1, mS_wF0 _ (by omega), Option.bind_some, mS_F0, Option.bind_some, mS_wF0 _ (by omega), Option.bind_some, mS_F1, Option.bind_some, mS_rF1 (by omega), Option.bind_some, Option.bind_some, Option.bind_some, mS_rF1 (by omega), Option.bind_some, mS_wF1 _ (by omega), Option.bind_some, mS_F1, Option.bind_some, mS_wF1 _ (by omega), Option.bind_some, q_M_sort_116, nI_1] at hr
      have e1 : uF (uF F 0 k (nI (C (k + 1)))) 0 (k + 1) (nI (C k)) 1 = F 1 := by rw [uF_r (by decide), uF_r (by decide)]
      rw [e1, a2, b2] at hr
      have sb' := SB_swp sb hf (show k + 1 < m by omega)
      have ar' : Ar m l (swp C k) (swp D k) (uF (uF (uF (uF F 0 k (nI (C (k + 1)))) 0 (k + 1) (nI (C k))) 1 k (nI (D (k + 1)))) 1 (k + 1) (nI (D k))) := fun j hj => by
        rw [uF_r (show 0 ≠ 1 by decide), uF_r (show 0 ≠ 1 by decide)]
        by_cases e0 : j = k
        · subst e0
          rw [swp_0, swp_0, uF_j (by omega), uF_s, uF_j (by omega), uF_s]
          exact ⟨rfl, rfl, b3⟩
        · by_cases e1' : j = k + 1
          · subst e1'
            rw [swp_1, swp_1, uF_s, uF_s]
            exact ⟨rfl, rfl, a3⟩
          · rw [swp_n e0 e1', swp_n e0 e1', uF_j e1', uF_j e0, uF_j e1', uF_j e0, uF_r (by decide), uF_r (by decide)]
            exact ar j hj
      have i1' : ∀ i, f ≤ i → i < k + 1 → N (swp C k i) < N (swp C k (k + 1)) := fun i h1 h2 => by
        rw [swp_1]
        by_cases e : i = k
        · rw [e, swp_0]; exact hgt
        · rw [swp_n e (by omega)]; exact i1 i h1 (by omega)
      have tl' : Tl f m t (fun j => N (swp C k j)) := fun j h1 h2 i h3 h4 => by
        show N (swp C k i) < N (swp C k j)
        rw [swp_n (i := k) (j := j) (by omega) (by omega), swp_sg]
        refine tl j h1 h2 _ ?_ ?_
        · unfold sg
          split
          · omega
          · split <;> omega
        · unfold sg
          split
          · omega
          · split <;> omega
      have ih := lp_s12 (tu := tu) ok hl hN h8 hm ht ht0 d (k + 1) (by omega) (by omega) sb' ar' tl' i1' (fun hh => by
        intro j h1 h2 i h3 h4
        by_cases e2 : j = k + 1
        · subst e2
          exact i1' i h3 h4
        · exact tl' j (by omega) h2 i h3 h4)
      obtain ⟨F', C', D', c1, c2, c3⟩ := ih
      rw [hr] at c1
      refine ⟨F', C', D', c1, ?_, c3⟩
      rw [c2, uF_r (by decide), uF_r (by decide), uF_r (by decide), uF_r (by decide)]
theorem lp_s2 (ok : okg g) (hl : l ≤ 200) (hN : ∀ i, i < l → nv g (32 + i) = N i) (h8 : o 8 = nI m) (hm : m ≤ 40) : ∀ (d tu : Nat) {F : Nat → Nat → Int32} {C D : Nat → Nat}, tu + d = m → f ≤ tu → SB f m P L X N C D → Ar m l C D F → Tl f m (f + d) (fun j => N (C j)) →
    ∃ F' C' D', dzRV (dzF 153 2 [(0, .ref M), (1, .int (nI f)), (2, .int (nI tu))] [] (0, 0) (mS h M o g T F)) = some (mS h M o g T F') ∧ F' 2 = F 2 ∧ SB f m P L X N C' D' ∧ Ar m l C' D' F' ∧ Tl f m f (fun j => N (C' j))
  | 0, tu, F, C, D, hd, hf, sb, ar, tl => by
    refine ⟨F, C, D, ?_, rfl, sb, ar, tl⟩
    rw [q_M_sort_2, mS_g8, Option.bind_some, h8, if_neg (nI_nlt (by omega) (by omega))]
    rfl
  | d + 1, tu, F, C, D, hd, hf, sb, ar, tl => by
    obtain ⟨F1, C1, D1, a1, a2, a3, a4, a5⟩ := lp_s12 (M := M) (h := h) (o := o) (T := T) ok hl hN h8 hm (t := f + (d + 1)) (by omega) (by omega) (nI tu) (m - f - 1) f (by omega) (Nat.le_refl _) sb ar tl (fun i h1 h2 => by omega) (fun hh j h1 h2 i h3 h4 => by
      by_cases e : f + (d + 1) ≤ j
      · exact tl j e h2 i h3 h4
      · omega)
    obtain ⟨F2, C2, D2, b1, b2, b3⟩ := lp_s2 ok hl hN h8 hm d (tu + 1) (by omega) (by omega) a3 a4 a5
    refine ⟨F2, C2, D2, ?_, by rw [b2, a2], b3⟩
    rw [q_M_sort_2, mS_g8, Option.bind_some, h8, if_pos (nI_lt (by omega) (by omega)), a1, nI_1, b1]
theorem m_sort (ok : okg g) (hl : l ≤ 200) (hN : ∀ i, i < l → nv g (32 + i) = N i) (h8 : o 8 = nI m) (hm : m ≤ 40) (hf : f ≤ m) (sb : SB f m P L X N C D) (ar : Ar m l C D F) : ∃ F' C' D', c_M_sort M (nI f) (mS h M o g T F) = some (mS h M o g T F') ∧ F' 2 = F 2 ∧ Pm m L X C' D' ∧ asc m (fun j => N (C' j)) ∧ pr (fun j => N (C' j)) D' m = P ∧ Ar m l C' D' F' := by
  obtain ⟨fs, ho⟩ := mS_ob h M o g T F
  obtain ⟨F', C', D', a1, a2, a3, a4, a5⟩ := lp_s2 (M := M) (h := h) (o := o) (T := T) ok hl hN h8 hm (m - f) f (by omega) (Nat.le_refl _) sb ar (fun j h1 h2 => by omega)
  refine ⟨F', C', D', ?_, a2, a3.1, fun j hj => ?_, a3.2.2.1, a4⟩
  · rw [cc_M_sort _ _ _ ho, q_M_sort_0, a1]
  · show N (C' j) < N (C' (j + 1))
    rcases Nat.lt_or_ge (j + 1) f with y | y
    · exact a3.2.2.2.1 j y
    · rcases Nat.lt_or_ge j f with z | z
      · have h1 := a3.2.2.2.2.1 j z
        have h2 := a3.2.2.2.2.2 (j + 1) y hj
        omega
      · exact a5 (j + 1) (by omega) hj j z (by omega)
-- find
theorem m_find {N : Nat → Nat} (ok : okg g) (hn : n ≤ 200) (hs : s ≤ 4000) (hV : 2 ≤ V) (hB : V < B8) (h2 : o 2 = nI s) (h4 : o 4 = nI n) (h12 : nv g 12 = V - 1) (hN : ∀ i, i < n → nv g (32 + i) = N i) (hp : ∀ i, i < n → npP (N i)) :
    (mM n V N ≤ 40 ∧ n + mK n V N ≤ 200 ∧ s + 2 * mK n V N ≤ 4000 → ∃ o' g' T' F' C D, c_M_find M (mS h M o g T F) = some (1, mS h M o' g' T' F') ∧ Nk n g g' ∧ keL [2, 4, 8] o o' ∧ (∀ j, j < s → T' j = T j) ∧ o' 2 = nI (s + 2 * mK n V N) ∧ o' 4 = nI (n + mK n V N) ∧ o' 8 = nI (mM n V N) ∧ nv g' 12 = mX n V N ∧ (∀ i, i < n + mK n V N → nv g' (32 + i) = mN n V N i) ∧ Tab n V N C D ∧ Ar (mM n V N) (n + mK n V N) C D F' ∧ (∀ q, q < mK n V N → T' (s + 2 * q) = nI 1 ∧ T' (s + 2 * q + 1) = nI (mN n V N (n + q)))) ∧
    (¬ (mM n V N ≤ 40 ∧ n + mK n V N ≤ 200 ∧ s + 2 * mK n V N ≤ 4000) → ∃ o' g' T' F', c_M_find M (mS h M o g T F) = some (0, mS h M o' g' T' F') ∧ Nk n g g' ∧ keL [2, 4, 8] o o' ∧ (∀ j, j < s → T' j = T j)) := by
  obtain ⟨fs, ho⟩ := mS_ob h M o g T F
  obtain ⟨i1, i2, i3, i4, i5, i6, i7, i8, i9⟩ := mR_inv (n := n) (V := V) (N := N) hV hB hp
  have g1 := lp_m1 (M := M) (h := h) (s := s) (n := n) (V := V) 1008 2 (o := upd o 8 0) (g := g) (T := T) (F := F) (m := 0) (k := 0) (x := V - 1) (L := fun _ => 0) (X := fun _ => 0) (N := N) (by decide) (by decide) ok (by rw [pk_un (by decide), h2]; rfl) hs (by rw [pk_un (by decide), h4]; rfl) hn pk_us (by decide) h12 (fun i hi => hN i hi) (FI_0 hV hB hp) (fun j hj => by omega) (fun j hj => by omega) (fun i h1 h2 => by omega) (fun j hj => by omega) (fun q hq => by omega)
  have e0 : c_M_find M (mS h M o g T F) = dzRI (dzF 154 7 [(0, .ref M), (1, .int (nI 2))] [] (0, 0) (mS h M (upd o 8 0) g T F)) := by
    rw [cc_M_find _ _ ho, q_M_find_0, mS_p8, Option.bind_some]
    rfl
  have ke0 : keL [2, 4, 8] o (upd o 8 0) := fun q hq => pk_un (fun z => hq (by rw [z]; decide))
  have g1' := g1.after (o := o) (g := g) (T := T) (F := F) (Nk.rf n ok) ke0 (fun _ _ => rfl) rfl
  rw [e0]
  by_cases hc : (mR1 n V N).1 ≤ 40 ∧ n + mK n V N ≤ 200 ∧ s + 2 * mK n V N ≤ 4000
  · obtain ⟨o1, g2, T1, F1, c1, c2, c3, c4, c5, c6, c7, c8, c9, c10, c11, c12⟩ := g1'.1 hc
    obtain ⟨g3, d1, d2, d3⟩ := m_set (M := M) (h := h) (o := o1) (T := T1) (F := F1) c2.1 1009 (show (9 : Int32) = nI 9 from rfl) (by decide)
    have d3' : nv g3 9 = 1009 := by rw [d3]; rfl
    have hN3 : ∀ i, i < n + mK n V N → nv g3 (32 + i) = mN n V N i := fun i hi => by rw [d2.2 _ (by simp; omega)]; exact c10 i hi
    have g4 := lp_m2 (M := M) (h := h) (T := T1) (V := V) (n := n) (k := mK n V N) (N := mN n V N) hc.2.1 (nI (mR1 n V N).1) (n + mK n V N) 0 (o := o1) (g := g3) (F := F1) (m := (mR1 n V N).1) (x := (mR1 n V N).2.2.1) (L := (mR1 n V N).2.2.2.1) (X := (mR1 n V N).2.2.2.2.1) (by omega) d2.1 c7 c8 hc.1 d3' (by rw [d2.2 12 (by decide)]; exact c9) hN3 i1 c11
    have er : r2 (mN n V N) (n + mK n V N) 0 (mR1 n V N).1 (mR1 n V N).2.2.1 (mR1 n V N).2.2.2.1 (mR1 n V N).2.2.2.2.1 = mR2 n V N := r2_more n 0 (mK n V N) (fun i h1 h2 => by have := i4 i (by omega) (by omega); omega)
    rw [er] at g4
    have e1 : dzF 154 7 [(0, .ref M), (1, .int (nI 1010))] [] (0, 0) (mS h M o1 g2 T1 F1) = dzF 154 142 [(0, .ref M), (1, .int (nI (mR1 n V N).1)), (2, .int (nI 0))] [] (0, 0) (mS h M o1 g3 T1 F1) := by
      rw [q_M_find_7, if_neg (show ¬ nI 1010 ≤ 1009 by decide), mS_g8, Option.bind_some, c8, d1, Option.bind_some]
      rfl
    rw [c1, e1]
    have kg3 : Nk n g g3 := c2.tr (Nk.of d2 (by simp))
    have nkm : ∀ {a b : Nat → Nat}, Nk (n + mK n V N) a b → Nk n a b := fun z => ⟨z.1, fun x hx => z.2 x (by omega)⟩
    constructor
    · intro hh
      obtain ⟨o5, g5, F5, f1, f2, f3, f4, f5, f6, f7⟩ := g4.1 hh.1
      have hN5 : ∀ i, i < n + mK n V N → nv g5 (32 + i) = mN n V N i := fun i hi => by rw [f2.2 _ (by omega)]; exact hN3 i hi
      have h45 : o5 4 = nI (n + mK n V N) := by rw [f3 4 (by decide), c7]; rfl
      have sb : SB (mR1 n V N).1 (mM n V N) (pr (fun j => mN n V N ((mR2 n V N).2.2.1 j)) (mR2 n V N).2.2.2 (mM n V N)) (mR2 n V N).2.2.1 (mR2 n V N).2.2.2 (mN n V N) (mR2 n V N).2.2.1 (mR2 n V N).2.2.2 := by
        refine ⟨Pm.rf _ _ _, i6.2.2.2.2.2, rfl, fun j hj => ?_, fun j hj => ?_, i9⟩
        · rw [(i8 j (by omega)).1, (i8 (j + 1) hj).1]
          exact i2 j hj
        · rw [(i8 j hj).1]
          have := i3 j hj
          omega
      obtain ⟨F6, C, D, s1, s2, s3, s4, s5, s6⟩ := m_sort (M := M) (h := h) (T := T1) f2.1 hc.2.1 hN5 f5 hh.1 i7 sb (fun j hj => ⟨(f7 j hj).1, (f7 j hj).2, (i6.2.2.2.1 j hj).1⟩)
      refine ⟨o5, g5, T1, F6, C, D, ?_, kg3.tr (nkm f2), c3.tr (f3.mono (by decide)), c4, ?_, h45, f5, f6, hN5, ⟨s3, s4, ?_⟩, s6, c12⟩
      · rw [f1, q_M_find_142, mS_g4, Option.bind_some, h45, if_neg (nI_nlt (Nat.le_refl _) (by omega)), s1]
        rfl
      · rw [f3 2 (by decide), c6]; rfl
      · have s5' : pr (fun j => mN n V N (C j)) D (mM n V N) = _ := s5
        rw [s5']
        exact i6.2.2.1
    · intro hh
      obtain ⟨o5, g5, F5, f1, f2, f3⟩ := g4.2 (fun z => hh ⟨z, hc.2⟩)
      exact ⟨o5, g5, T1, F5, f1, kg3.tr (nkm f2), c3.tr (f3.mono (by decide)), c4⟩
  · refine ⟨fun hh => absurd ⟨Nat.le_trans i7 hh.1, hh.2⟩ hc, fun _ => ?_⟩
    obtain ⟨o1, g2, T1, F1, c1, c2, c3, c4⟩ := g1'.2 hc
    exact ⟨o1, g2, T1, F1, c1, c2, c3, c4⟩
-- witnesses
def MG (m V : Nat) (C q : Nat → Nat) (o : Nat → Int32) (g : Nat → Nat) (F : Nat → Nat → Int32) : Prop :=
  okg g ∧ m ≤ 40 ∧ o 8 = nI m ∧ 3 ≤ V ∧ V < B8 ∧ nv g 21 = 1 ∧ nv g 10 = V ∧ nv g 11 = V - 1 ∧ ∀ j, j < m → F 0 j = nI (C j) ∧ C j < 200 ∧ nv g (32 + C j) = q j ∧ 1 ≤ q j
abbrev LW : List Nat := [14, 15, 16, 17, 18, 19, 22]
theorem MG.up {g1 : Nat → Nat} {F1 : Nat → Nat → Int32} (mg : MG m V C q o g F) (kk : nK LW g g1) (hF : F1 0 = F 0) : MG m V C q o g1 F1 := by
  obtain ⟨a1, a2, a3, a4, a5, a6, a7, a8, a9⟩ := mg
  refine ⟨kk.1, a2, a3, a4, a5, by rw [kk.2 21 (by decide), a6], by rw [kk.2 10 (by decide), a7], by rw [kk.2 11 (by decide), a8], fun j hj => ?_⟩
  obtain ⟨b1, b2, b3, b4⟩ := a9 j hj
  rw [hF, kk.2 _ (by simp; omega)]
  exact ⟨b1, b2, b3, b4⟩
theorem lp_w24 {a : Nat} (haB : a < B8) : ∀ (d i : Nat) (b : Bool) {g : Nat → Nat}, i + d = m → MG m V C q o g F → nv g 14 = a → ∃ g' b' j, nK LW g g' ∧ dzF 155 24 [(0, .ref M), (1, .int (nI a)), (2, .int (bI b)), (3, .int (nI i))] [] (0, 0) (mS h M o g T F) = dzF 155 54 [(0, .ref M), (1, .int (nI a)), (2, .int (bI b')), (3, .int j)] [] (0, 0) (mS h M o g' T F) ∧ (b' = true ↔ b = true ∧ ∀ z, i ≤ z → z < m → pwq a (q z) V ≠ 1)
  | 0, i, b, g, hd, mg, h14 => by
    have hm := mg.2.1
    refine ⟨g, b, nI i, nK.rf mg.1 _, ?_, ⟨fun e => ⟨e, fun z h1 h2 => by omega⟩, fun e => e.1⟩⟩
    rw [q_M_wholeWitness_24, mS_g8, Option.bind_some, mg.2.2.1, if_neg (nI_nlt (by omega) (by omega))]
  | d + 1, i, b, g, hd, mg, h14 => by
    have hm := mg.2.1
    obtain ⟨a1, a2, a3, a4, a5, a6, a7, a8, a9⟩ := mg
    obtain ⟨b1, b2, b3, b4⟩ := a9 i (by omega)
    cases b with
    | false =>
      refine ⟨g, false, nI i, nK.rf a1 _, ?_, ⟨fun e => (by cases e), fun e => e.1⟩⟩
      rw [q_M_wholeWitness_24, mS_g8, Option.bind_some, a3, if_pos (nI_lt (by omega) (by omega)), if_pos bI_f]
    | true =>
      obtain ⟨g1, c1, c2⟩ := m_isRightF (M := M) (h := h) (o := o) (T := T) (F := F) a1 a6 a7 (by omega) a5 a8 h14 haB b2 b3 b4
      have kk : nK LW g g1 := c2.mono (by decide)
      obtain ⟨g', b', j, d1, d2, d3⟩ := lp_w24 haB d (i + 1) (decide (¬ pwq a (q i) V = 1)) (by omega) (MG.up ⟨a1, a2, a3, a4, a5, a6, a7, a8, a9⟩ kk rfl) (by rw [c2.2 14 (by decide), h14])
      refine ⟨g', b', j, kk.tr d1, ?_, ?_⟩
      · rw [q_M_wholeWitness_24, mS_g8, Option.bind_some, a3, if_pos (nI_lt (by omega) (by omega)), if_neg bI_n1, mS_F0, Option.bind_some, mS_rF0 (by omega), Option.bind_some, b1, c1, Option.bind_some, nI_1]
        exact d2
      · rw [d3]
        constructor
        · rintro ⟨e1, e2⟩
          refine ⟨rfl, fun z h1 h2 => ?_⟩
          by_cases e : z = i
          · rw [e]; exact of_decide_eq_true e1
          · exact e2 z (by omega) h2
        · rintro ⟨-, e2⟩
          exact ⟨decide_eq_true (e2 i (Nat.le_refl _) (by omega)), fun z h1 h2 => e2 z (by omega) h2⟩
theorem small_B8 {a : Nat} (h : a ≤ 65536) : a < B8 := by
  have h1 : (4294967296 : Nat) ^ 1 ≤ 4294967296 ^ 8 := Nat.pow_le_pow_right (by decide) (by decide)
  rw [B8_eq, Nat.pow_one] at h1
  omega
theorem lp_ww : ∀ (d a : Nat) {g : Nat → Nat}, a + d = 201 → 2 ≤ a → MG m V C q o g F → ∃ r g', dzRI (dzF 155 2 [(0, .ref M), (1, .int (nI a))] [] (0, 0) (mS h M o g T F)) = some (nI r, mS h M o g' T F) ∧ nK LW g g' ∧ (r = 0 → ∀ z, a ≤ z → z ≤ 200 → ¬ Rt V m q z) ∧ (r ≠ 0 → a ≤ r ∧ r ≤ 200 ∧ Rt V m q r ∧ ∀ z, a ≤ z → z < r → ¬ Rt V m q z)
  | 0, a, g, hd, h2, mg => by
    refine ⟨0, g, ?_, nK.rf mg.1 _, fun _ z h1 h2 => by omega, fun z => absurd rfl z⟩
    rw [q_M_wholeWitness_2, if_neg (show ¬ nI a ≤ 200 from nI_ge (a := 200) (by omega) (by omega))]
    rfl
  | d + 1, a, g, hd, h2, mg => by
    obtain ⟨g1, a1, a2, a3⟩ := m_set (M := M) (h := h) (o := o) (T := T) (F := F) mg.1 (Int32.toInt64 (nI a)) (show (14 : Int32) = nI 14 from rfl) (by decide)
    rw [uN_pos (by rw [w32_nI (by omega)]; omega), w32_nI (by omega)] at a3
    have k1 : nK LW g g1 := a2.mono (by decide)
    have mg1 := mg.up k1 (F1 := F) rfl
    have hV3 := mg.2.2.2.1
    obtain ⟨g2, b1, b2⟩ := m_isWhole (M := M) (h := h) (o := o) (T := T) (F := F) mg1.1 mg1.2.2.2.2.2.1 mg1.2.2.2.2.2.2.1 (by omega) mg1.2.2.2.2.1 mg1.2.2.2.2.2.2.2.1 a3 (small_B8 (by omega))
    have k2 : nK LW g1 g2 := b2.mono (by decide)
    obtain ⟨g3, b', j, c1, c2, c3⟩ := lp_w24 (M := M) (h := h) (T := T) (a := a) (small_B8 (by omega)) m 0 (decide (a ^ (V - 1) % V = 1)) (Nat.zero_add _) (mg1.up k2 (F1 := F) rfl) (by rw [b2.2 14 (by decide), a3])
    have hiff : b' = true ↔ Rt V m q a := by
      rw [c3]
      exact ⟨fun e => ⟨(show a ^ (V - 1) % V = 1 from of_decide_eq_true e.1), fun z hz => e.2 z (Nat.zero_le _) hz⟩, fun e => ⟨decide_eq_true (show a ^ (V - 1) % V = 1 from e.1), fun z _ hz => e.2 z hz⟩⟩
    have kk : nK LW g g3 := (k1.tr k2).tr c1
    generalize hr : dzRI (dzF 155 2 [(0, .ref M), (1, .int (nI a))] [] (0, 0) (mS h M o g T F)) = R
    rw [q_M_wholeWitness_2, if_pos (show nI a ≤ 200 from nI_le (b := 200) (by omega) (by decide)), a1, Option.bind_some, b1, Option.bind_some] at hr
    dsimp only at hr
    rw [← nI_0, c2, q_M_wholeWitness_54] at hr
    cases hb : b' with
    | true =>
      rw [hb, if_neg bI_n1] at hr
      exact ⟨a, g3, hr.symm, kk, fun z => by omega, fun _ => ⟨Nat.le_refl _, by omega, hiff.mp hb, fun z h1 h2 => by omega⟩⟩
    | false =>
      have hno : ¬ Rt V m q a := fun e => by rw [hiff.mpr e] at hb; cases hb
      rw [hb, if_pos bI_f, nI_1] at hr
      obtain ⟨r, g4, d1, d2, d3, d4⟩ := lp_ww d (a + 1) (by omega) (by omega) (mg.up kk (F1 := F) rfl)
      refine ⟨r, g4, by rw [← hr, d1], kk.tr d2, fun z y h1 h2 => ?_, fun z => ?_⟩
      · by_cases e : y = a
        · rw [e]; exact hno
        · exact d3 z y (by omega) h2
      · obtain ⟨e1, e2, e3, e4⟩ := d4 z
        refine ⟨by omega, e2, e3, fun y h1 h2 => ?_⟩
        by_cases e : y = a
        · rw [e]; exact hno
        · exact e4 y (by omega) h2
theorem lp_p14 {f : Nat} (hf : f < m) : ∀ (d a : Nat) {g : Nat → Nat}, a + d = 200 → 1 ≤ a → MG m V C q o g F → ∃ g', nK LW g g' ∧
    ((∃ r, a < r ∧ r ≤ 200 ∧ Pt V (q f) r ∧ (∀ z, a < z → z < r → ¬ Pt V (q f) z) ∧ dzF 156 14 [(0, .ref M), (1, .int (nI f)), (2, .int (nI a)), (3, .int 0)] [] (0, 0) (mS h M o g T F) = dzF 156 2 [(0, .ref M), (1, .int (nI (f + 1)))] [] (0, 0) (mS h M o g' T (uF F 2 f (nI r)))) ∨
     ((∀ z, a < z → z ≤ 200 → ¬ Pt V (q f) z) ∧ dzF 156 14 [(0, .ref M), (1, .int (nI f)), (2, .int (nI a)), (3, .int 0)] [] (0, 0) (mS h M o g T F) = some (some (.int 0), mS h M o g' T F)))
  | 0, a, g, hd, h1, mg => by
    refine ⟨g, nK.rf mg.1 _, Or.inr ⟨fun z h1 h2 => by omega, ?_⟩⟩
    rw [q_M_partWitnesses_14, if_pos rfl, if_neg (show ¬ nI a < 200 from nI_nlt (b := 200) (by omega) (by omega)), q_M_partWitnesses_66, if_pos rfl]
  | d + 1, a, g, hd, h1, mg => by
    have hm := mg.2.1
    obtain ⟨g1, a1, a2, a3⟩ := m_set (M := M) (h := h) (o := o) (T := T) (F := F) mg.1 (Int32.toInt64 (nI (a + 1))) (show (14 : Int32) = nI 14 from rfl) (by decide)
    rw [uN_pos (by rw [w32_nI (by omega)]; omega), w32_nI (by omega)] at a3
    have k1 : nK LW g g1 := a2.mono (by decide)
    have mg1 := mg.up k1 (F1 := F) rfl
    have hV3 := mg.2.2.2.1
    obtain ⟨g2, b1, b2⟩ := m_isWhole (M := M) (h := h) (o := o) (T := T) (F := F) mg1.1 mg1.2.2.2.2.2.1 mg1.2.2.2.2.2.2.1 (by omega) mg1.2.2.2.2.1 mg1.2.2.2.2.2.2.2.1 a3 (small_B8 (by omega))
    have k2 : nK LW g g2 := k1.tr (b2.mono (by decide))
    have mg2 := mg.up k2 (F1 := F) rfl
    obtain ⟨e1, e2, e3, e4⟩ := mg2.2.2.2.2.2.2.2.2 f hf
    generalize hr : dzF 156 14 [(0, .ref M), (1, .int (nI f)), (2, .int (nI a)), (3, .int 0)] [] (0, 0) (mS h M o g T F) = R
    rw [q_M_partWitnesses_14, if_pos rfl, if_pos (show nI a < 200 from nI_lt (b := 200) (by omega) (by decide)), nI_1, a1, Option.bind_some, b1, Option.bind_some] at hr
    dsimp only at hr
    have go : ∀ {g3 : Nat → Nat}, nK LW g g3 → ¬ Pt V (q f) (a + 1) → dzF 156 61 [(0, .ref M), (1, .int (nI f)), (2, .int (nI (a + 1))), (3, .int 0)] [] (0, 0) (mS h M o g3 T F) = R → ∃ g', nK LW g g' ∧
        ((∃ r, a < r ∧ r ≤ 200 ∧ Pt V (q f) r ∧ (∀ z, a < z → z < r → ¬ Pt V (q f) z) ∧ R = dzF 156 2 [(0, .ref M), (1, .int (nI (f + 1)))] [] (0, 0) (mS h M o g' T (uF F 2 f (nI r)))) ∨ ((∀ z, a < z → z ≤ 200 → ¬ Pt V (q f) z) ∧ R = some (some (.int 0), mS h M o g' T F))) := fun {g3} k3 hno hq => by
      rw [q_M_partWitnesses_61, q_M_partWitnesses_62] at hq
      obtain ⟨g4, c1, c2⟩ := lp_p14 hf d (a + 1) (by omega) (by omega) (mg.up k3 (F1 := F) rfl)
      rw [hq] at c2
      refine ⟨g4, k3.tr c1, ?_⟩
      rcases c2 with ⟨r, r1, r2, r3, r4, r5⟩ | ⟨r1, r2⟩
      · refine Or.inl ⟨r, by omega, r2, r3, fun z z1 z2 => ?_, r5⟩
        by_cases e : z = a + 1
        · rw [e]; exact hno
        · exact r4 z (by omega) z2
      · refine Or.inr ⟨fun z z1 z2 => ?_, r2⟩
        by_cases e : z = a + 1
        · rw [e]; exact hno
        · exact r1 z (by omega) z2
    by_cases hc : (a + 1) ^ (V - 1) % V = 1
    · rw [decide_eq_true hc, if_neg bI_n1, mS_F0, Option.bind_some, mS_rF0 (by omega), Option.bind_some, e1] at hr
      obtain ⟨g3, c1, c2⟩ := m_isRightT (M := M) (h := h) (o := o) (T := T) (F := F) mg2.1 mg2.2.2.2.2.2.1 mg2.2.2.2.2.2.2.1 (by omega) mg2.2.2.2.2.1 mg2.2.2.2.2.2.2.2.1 (by rw [b2.2 14 (by decide), a3]) (small_B8 (by omega)) e2 e3 e4
      have k3 : nK LW g g3 := k2.tr (c2.mono (by decide))
      rw [c1, Option.bind_some] at hr
      dsimp only at hr
      by_cases hG : Nat.gcd (pvn (a + 1) (q f) V) V = 1
      · rw [decide_eq_true hG, if_neg bI_n1, q_M_partWitnesses_62, q_M_partWitnesses_14, if_neg one_n0, q_M_partWitnesses_66, if_neg one_n0, mS_F2, Option.bind_some, mS_wF2 _ (by omega), Option.bind_some, nI_1] at hr
        exact ⟨g3, k3, Or.inl ⟨a + 1, by omega, by omega, ⟨hc, hG⟩, fun z z1 z2 => by omega, hr.symm⟩⟩
      · rw [decide_eq_false hG, if_pos bI_f] at hr
        exact go k3 (fun z => hG z.2) hr
    · rw [decide_eq_false hc, if_pos bI_f] at hr
      exact go k2 (fun z => hc z.1) hr
theorem lp_p2 : ∀ (d f : Nat) {g : Nat → Nat} {F : Nat → Nat → Int32}, f + d = m → MG m V C q o g F → ∃ b g' F', dzRI (dzF 156 2 [(0, .ref M), (1, .int (nI f))] [] (0, 0) (mS h M o g T F)) = some (bI b, mS h M o g' T F') ∧ nK LW g g' ∧ (∀ r, r ≠ 2 → F' r = F r) ∧ (∀ j, j < f → F' 2 j = F 2 j) ∧
    (b = true → ∀ j, f ≤ j → j < m → ∃ r, F' 2 j = nI r ∧ 2 ≤ r ∧ r ≤ 200 ∧ Pt V (q j) r ∧ ∀ z, 2 ≤ z → z < r → ¬ Pt V (q j) z) ∧ (b = false → ∃ j, j < m ∧ ∀ z, 2 ≤ z → z ≤ 200 → ¬ Pt V (q j) z)
  | 0, f, g, F, hd, mg => by
    have hm := mg.2.1
    refine ⟨true, g, F, ?_, nK.rf mg.1 _, fun _ _ => rfl, fun _ _ => rfl, fun _ j h1 h2 => by omega, fun z => (by cases z)⟩
    rw [q_M_partWitnesses_2, mS_g8, Option.bind_some, mg.2.2.1, if_neg (nI_nlt (by omega) (by omega))]
    rfl
  | d + 1, f, g, F, hd, mg => by
    have hm := mg.2.1
    obtain ⟨g1, a1, a2⟩ := lp_p14 (M := M) (h := h) (T := T) (f := f) (by omega) 199 1 (by decide) (by decide) mg
    generalize hr : dzRI (dzF 156 2 [(0, .ref M), (1, .int (nI f))] [] (0, 0) (mS h M o g T F)) = R
    rw [q_M_partWitnesses_2, mS_g8, Option.bind_some, mg.2.2.1, if_pos (nI_lt (by omega) (by omega)), show (1 : Int32) = nI 1 from rfl] at hr
    rcases a2 with ⟨r, r1, r2, r3, r4, r5⟩ | ⟨r1, r2⟩
    · rw [r5] at hr
      obtain ⟨b, g', F', d1, d2, d3, d4, d5, d6⟩ := lp_p2 d (f + 1) (by omega) (mg.up a1 (F1 := uF F 2 f (nI r)) (uF_r (by decide)))
      refine ⟨b, g', F', by rw [← hr, d1], a1.tr d2, fun r hr => by rw [d3 r hr, uF_r hr], fun j hj => by rw [d4 j (by omega), uF_j (by omega)], fun hb j h1 h2 => ?_, d6⟩
      by_cases e : j = f
      · subst e
        exact ⟨r, by rw [d4 j (by omega), uF_s], by omega, r2, r3, fun z z1 z2 => r4 z (by omega) z2⟩
      · exact d5 hb j (by omega) h2
    · rw [r2] at hr
      exact ⟨false, g1, F, hr.symm, a1, fun _ _ => rfl, fun _ _ => rfl, fun z => (by cases z), fun _ => ⟨f, by omega, fun z z1 z2 => r1 z (by omega) z2⟩⟩
end
