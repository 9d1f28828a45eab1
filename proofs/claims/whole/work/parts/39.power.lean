/-! Sums: quotient, remainder, powers, greatest common divisor -/
theorem low8 {W : Nat → Int32} {m : Nat} (hm : 8 ≤ m) (h : wv W m < B8) : wv W 8 = wv W m := (wv_hi hm (wv_hi0 h)).symm
theorem SumsOk.ob {a : Nat} {h : dzH} (hs : SumsOk a h) : ∃ dw sh, h.2 a = some (sumsO a dw sh) := hs.1
/-- what remains of the wide row, copied to a row -/
theorem sp_redcopy {h : dzH} {a v n sh V t : Nat} {D W : Nat → Int32} (hs : SumsOk a h) (hd : DivOk a h v n sh D) (hw : h.2 (a + 1) = some (eI 17 W)) (hV : wv W 17 = V) (hW16 : W 16 = 0) (hvB : v < B8) (ht : rowN h t 8) (nt : t ≠ a + 3) :
    ∃ h1 h2, c_Sums_reduceWide a h = some h1 ∧ h1.2 a = h.2 a ∧ c_Sums_copy (a + 1) t h1 = some h2 ∧ row8 h2 t (V % v) ∧ DivOk a h2 v n sh D ∧ SumsOk a h2 ∧ fr h h2 (fun q => q = a + 1 ∨ q = a + 2 ∨ q = t) := by
  obtain ⟨h1, W', G', g1, g2, g3, g4, g5, g6⟩ := sp_reduce hs hd hw hV hW16
  have hd0 := hd
  obtain ⟨ho, hD, hn1, hn8, hsh, hDv, htop, hv, hvn⟩ := hd
  obtain ⟨g, ht⟩ := ht
  have nta : t ≠ a := fun e => by rw [e, ho] at ht; cases ht
  have nt1 : t ≠ a + 1 := fun e => by rw [e, hw] at ht; cases ht
  have nt2 : t ≠ a + 2 := fun e => by
    obtain ⟨-, -, ⟨G0, hG0⟩, -⟩ := hs
    rw [e, hG0] at ht
    cases ht
  have ht1 : h1.2 t = some (eI 8 g) := by rw [g4.2 t (by omega)]; exact ht
  have hVv : V % v < B8 := Nat.lt_trans (Nat.mod_lt _ hv) hvB
  refine ⟨h1, hU h1 t (eI 8 (fun i => if i < 8 then W' i else g i)), g1, g4.2 a (by omega), sp_copy g2 ht1 (by decide) (by decide), ⟨_, hU_s _ _ _, ?_⟩, ?_, ?_, g4.1, fun q hq => ?_⟩
  · rw [wv_congr (g := W') (fun i hi => if_pos hi), low8 (m := 17) (by decide) (by rw [g5]; exact hVv), g5]
  · exact hd0.keep (by rw [hU_n (Ne.symm nta)]; exact g4.2 a (by omega)) (by rw [hU_n (Ne.symm nt)]; exact g4.2 (a + 3) (by omega))
  · obtain ⟨h3, h4, h5, h6⟩ := hs
    refine ⟨⟨_, _, by rw [hU_n (Ne.symm nta), g4.2 a (by omega)]; exact ho⟩, ⟨W', by rw [hU_n (Ne.symm nt1)]; exact g2⟩, ⟨G', by rw [hU_n (Ne.symm nt2)]; exact g3⟩, fun k hk1 hk2 => ?_⟩
    by_cases e : a + k = t
    · exact ⟨_, by rw [e]; exact hU_s _ _ _⟩
    · exact (h6 k hk1 hk2).eq (by rw [hU_n e]; exact g4.2 _ (by omega))
  · rw [hU_n (fun e => hq (Or.inr (Or.inr e))), g4.2 q (fun z => hq (by rcases z with z | z <;> simp [z]))]
theorem sp_quotient {h : dzH} {a x y t r vx vy : Nat} (hs : SumsOk a h) (hx : row8 h x vx) (hy : row8 h y vy) (hv : 0 < vy) (ht : rowN h t 8) (hr : rowN h r 8) (nx : ¬ inS a x) (nt : ¬ inS a t) (nr : ¬ inS a r) (htr : t ≠ r) :
    ∃ h', c_Sums_quotient a x y t r h = some h' ∧ row8 h' t (vx / vy) ∧ row8 h' r (vx % vy) ∧ SumsOk a h' ∧ fr h h' (fun q => inS a q ∨ q = t ∨ q = r) := by
  unfold inS at nx nt nr
  obtain ⟨dw0, sh0, ho0⟩ := hs.ob
  obtain ⟨h1, n, sh, D, a1, a2, a3, a4⟩ := sp_setDivisor hs hy hv
  obtain ⟨W, b1, b2, b3⟩ := sp_setWide a3 (hx.eq (a4.2 x (by omega))) (by omega)
  have hs2 : SumsOk a (hU h1 (a + 1) (eI 17 W)) := a3.row1 (by decide) (by decide) (fun _ _ _ => trivial) rfl
  have hd2 : DivOk a (hU h1 (a + 1) (eI 17 W)) vy n sh D := a2.keep (hU_n (by omega)) (hU_n (by omega))
  obtain ⟨h3, W', G', g1, g2, g3, g4, g5, g6⟩ := sp_reduce hs2 hd2 (hU_s _ _ _) b2 b3
  have hvx := hx.lt
  obtain ⟨gt, ht⟩ := ht
  obtain ⟨gr, hr⟩ := hr
  have hold : ∀ q, ¬ (a ≤ q ∧ q ≤ a + 7) → h3.2 q = h.2 q := fun q hq => by rw [g4.2 q (by omega), hU_n (by omega), a4.2 q (by omega)]
  have ho3 : h3.2 a = some (sumsO a (nI n) (nI sh)) := by rw [g4.2 a (by omega)]; exact hd2.1
  have ht3 : h3.2 t = some (eI 8 gt) := by rw [hold t nt]; exact ht
  have hr3 : h3.2 r = some (eI 8 gr) := by rw [hold r nr]; exact hr
  have hG : wv G' 17 < B8 := by rw [g6]; exact Nat.lt_of_le_of_lt (Nat.div_le_self _ _) hvx
  have hW : wv W' 17 < B8 := by rw [g5]; exact Nat.lt_of_le_of_lt (Nat.mod_le _ _) hvx
  have c1 := sp_copy g3 ht3 (by decide) (by decide)
  have ho4 : (hU h3 t (eI 8 (fun i => if i < 8 then G' i else gt i))).2 a = some (sumsO a (nI n) (nI sh)) := by rw [hU_n (by omega)]; exact ho3
  have hw4 : (hU h3 t (eI 8 (fun i => if i < 8 then G' i else gt i))).2 (a + 1) = some (eI 17 W') := by rw [hU_n (by omega)]; exact g2
  have hr4 : (hU h3 t (eI 8 (fun i => if i < 8 then G' i else gt i))).2 r = some (eI 8 gr) := by rw [hU_n (Ne.symm htr)]; exact hr3
  have c2 := sp_copy hw4 hr4 (by decide) (by decide)
  refine ⟨hU (hU h3 t (eI 8 (fun i => if i < 8 then G' i else gt i))) r (eI 8 (fun i => if i < 8 then W' i else gr i)), ?_, ⟨fun i => if i < 8 then G' i else gt i, by rw [hU_n htr]; exact hU_s _ _ _, ?_⟩, ⟨fun i => if i < 8 then W' i else gr i, hU_s _ _ _, ?_⟩, ?_, ?_, fun q hq => ?_⟩
  · rw [cc_Sums_quotient _ _ _ _ _ _ ho0, q_Sums_quotient_0, a1, Option.bind_some, b1, Option.bind_some, g1, Option.bind_some, gS_goes ho3, Option.bind_some, c1, Option.bind_some, gS_wide ho4, Option.bind_some, c2, Option.bind_some]
    rfl
  · rw [wv_congr (g := G') (fun i hi => if_pos hi), low8 (m := 17) (by decide) hG, g6]
  · rw [wv_congr (g := W') (fun i hi => if_pos hi), low8 (m := 17) (by decide) hW, g5]
  · obtain ⟨h3', h4', h5', h6'⟩ := hs2
    refine ⟨⟨_, _, by rw [hU_n (by omega)]; exact ho4⟩, ⟨W', by rw [hU_n (by omega)]; exact hw4⟩, ⟨G', by rw [hU_n (by omega), hU_n (by omega)]; exact g3⟩, fun k hk1 hk2 => (h6' k hk1 hk2).eq (by rw [hU_n (by omega), hU_n (by omega)]; exact g4.2 _ (by omega))⟩
  · show h3.1 = h.1
    rw [g4.1]
    exact a4.1
  · unfold inS at hq
    rw [hU_n (by omega), hU_n (by omega), hold q (by omega)]
theorem sp_divides {h : dzH} {a x y vx vy : Nat} (hs : SumsOk a h) (hx : row8 h x vx) (hy : row8 h y vy) (hv : 0 < vy) (nx : ¬ inS a x) :
    ∃ h', c_Sums_divides a y x h = some (bI (decide (vx % vy = 0)), h') ∧ SumsOk a h' ∧ fr h h' (fun q => inS a q) := by
  unfold inS at nx
  obtain ⟨dw0, sh0, ho0⟩ := hs.ob
  obtain ⟨h1, n, sh, D, a1, a2, a3, a4⟩ := sp_setDivisor hs hy hv
  obtain ⟨W, b1, b2, b3⟩ := sp_setWide a3 (hx.eq (a4.2 x (by omega))) (by omega)
  have hs2 : SumsOk a (hU h1 (a + 1) (eI 17 W)) := a3.row1 (by decide) (by decide) (fun _ _ _ => trivial) rfl
  have hd2 : DivOk a (hU h1 (a + 1) (eI 17 W)) vy n sh D := a2.keep (hU_n (by omega)) (hU_n (by omega))
  obtain ⟨h3, W', G', g1, g2, g3, g4, g5, g6⟩ := sp_reduce hs2 hd2 (hU_s _ _ _) b2 b3
  have ho3 : h3.2 a = some (sumsO a (nI n) (nI sh)) := by rw [g4.2 a (by omega)]; exact hd2.1
  refine ⟨h3, ?_, ?_, ?_, fun q hq => ?_⟩
  · rw [cc_Sums_divides _ _ _ _ ho0, q_Sums_divides_0, a1, Option.bind_some, b1, Option.bind_some, g1, Option.bind_some, gS_wide ho3, Option.bind_some, sp_isZero g2 (by decide), Option.bind_some]
    dsimp only
    rw [dzB01_b, Option.bind_some, g5]
    rfl
  · obtain ⟨h3', h4', h5', h6'⟩ := hs2
    exact ⟨⟨_, _, ho3⟩, ⟨W', g2⟩, ⟨G', g3⟩, fun k hk1 hk2 => (h6' k hk1 hk2).eq (g4.2 _ (by omega))⟩
  · rw [g4.1]
    exact a4.1
  · unfold inS at hq
    rw [g4.2 q (by omega), hU_n (by omega), a4.2 q (by omega)]
theorem sp_square {h : dzH} {a x l vx vl : Nat} (hs : SumsOk a h) (hx : row8 h x vx) (hl : row8 h l vl) (nx : ¬ inS a x) (nl : ¬ inS a l) :
    ∃ h', c_Sums_squareIsAbove a x l h = some (bI (decide (vl < vx * vx)), h') ∧ SumsOk a h' ∧ fr h h' (fun q => inS a q) := by
  unfold inS at nx nl
  obtain ⟨dw, sh, ho⟩ := hs.ob
  obtain ⟨W, k1, k2, k3⟩ := sp_setProd hs hx hx (by omega) (by omega)
  obtain ⟨gl, hl1, hl2⟩ := hl
  have hl3 : (hU h (a + 1) (eI 17 W)).2 l = some (eI 8 gl) := by rw [hU_n (by omega)]; exact hl1
  have ho1 : (hU h (a + 1) (eI 17 W)).2 a = some (sumsO a dw sh) := by rw [hU_n (by omega)]; exact ho
  have hu := uw_le W 17
  have e8 : (8 : Int32) = nI 8 := rfl
  have hvl : vl < B8 := by rw [← hl2]; exact wv_lt8 gl
  refine ⟨hU h (a + 1) (eI 17 W), ?_, hs.row1 (by decide) (by decide) (fun _ _ _ => trivial) rfl, (fr.up _ _ _).mono (fun q hq => ⟨by omega, by omega⟩)⟩
  rw [cc_Sums_squareIsAbove _ _ _ _ ho, q_Sums_squareIsAbove_0, k1, Option.bind_some, gS_wide ho1, Option.bind_some, sp_used (hU_s _ _ _) (by decide), Option.bind_some]
  dsimp only
  by_cases hlt : vx * vx < B8
  · rw [e8, if_pos (nI_le ((wv_17 k2).mpr hlt) (by decide)), gS_wide ho1, Option.bind_some, sp_order (hU_s _ _ _) hl3 (by decide) (by decide) (by decide) (by decide), Option.bind_some]
    dsimp only
    rw [low8 (m := 17) (by decide) (by rw [k2]; exact hlt), k2, hl2]
    by_cases hle : vx * vx ≤ vl
    · rw [if_pos (ordI_le.mpr hle), decide_eq_false (by omega)]
      rfl
    · rw [if_neg (fun z => hle (ordI_le.mp z)), decide_eq_true (by omega), q_Sums_squareIsAbove_29]
      rfl
  · rw [e8, if_neg (fun q => hlt ((wv_17 k2).mp ((nI_leI (by omega) (by decide)).mp q))), decide_eq_true (by omega), q_Sums_squareIsAbove_29]
    rfl
