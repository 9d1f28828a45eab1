/-! both objects in step: prove -/
theorem neg_f0 : ∀ f, f < 11 → (-100 : Int32) - nI f < 0 := by decide +kernel
theorem m_prove0 {M : Nat} {h : dzH} {p : Nat → Int32} {g : Nat → Nat} {U : Nat → Int32} {G : Nat → Nat → Int32} {s r : Nat} {N : Nat → Nat} {y : Nat × (Nat → Nat)} (ok : okg g) (h21 : nv g 21 = 1) (h2 : p 2 = nI s) (hs : s ≤ 4000) (hr : r < 8) (hc : chkF (tw U) s 201 0 0 N = .ok y) :
    ∃ p2 g2, okg g2 ∧ nv g2 21 = 1 ∧ (∀ x, x < 8 → nv g2 x = nv g x) ∧ nv g2 10 = nv g r ∧ p2 2 = nI s ∧ p2 4 = nI y.1 ∧ p2 5 = nI y.1 ∧ p2 3 = -2 ∧ y.1 ≤ 200 ∧ (∀ i, i < y.1 → nv g2 (32 + i) = y.2 i) ∧
      (∀ i, lnOf y.2 (nv g r) y.1 0 = some i → c_M_prove M (nI r) (mS h M p g U G) = some (nI i, mS h M p2 g2 U G)) ∧
      (lnOf y.2 (nv g r) y.1 0 = none →
        (∀ p3 g3 U3 G3, c_M_make M (mS h M p2 g2 U G) = some (1, mS h M p3 g3 U3 G3) → c_M_prove M (nI r) (mS h M p g U G) = some (p3 4 - 1, mS h M (upd p3 5 (p3 4)) g3 U3 G3)) ∧
        (∀ p3 g3 U3 G3, c_M_make M (mS h M p2 g2 U G) = some (0, mS h M p3 g3 U3 G3) → c_M_prove M (nI r) (mS h M p g U G) = some (-2, mS h M (upd (upd (upd p3 2 (nI s)) 4 (nI y.1)) 5 (nI y.1)) g3 U3 G3))) := by
  obtain ⟨fs, ho⟩ := mS_ob h M p g U G
  have mc := m_check (M := M) (h := h) (o := p) (g := g) (T := U) (F := G) ok h21 h2 hs N
  rw [hc] at mc
  obtain ⟨p1, g1, b1, b2, b3, b4, b5, b6, b7, b8, b9, b10⟩ := mc
  obtain ⟨g2, a1, a2, a3⟩ := m_copy (M := M) (h := h) (o := p1) (T := U) (F := G) b2 (ix := nI r) rfl (show (10 : Int32) = nI 10 from rfl) (by omega) (by decide) (by omega)
  have hN2 : ∀ i, i < y.1 → nv g2 (32 + i) = y.2 i := fun i hi => by rw [a2.2 _ (by simp; omega)]; exact b10 i hi
  have e10 : nv g2 10 = nv g r := by rw [a3, b4 r hr]
  have lo := m_lineOf (M := M) (h := h) (o := p1) (T := U) (F := G) a2.1 (z := 10) (by decide) b6 b9
  rw [e10, lnOf_cong (N := y.2) (fun j _ hj => hN2 j (by omega))] at lo
  have pre : ∀ R, c_M_prove M (nI r) (mS h M p g U G) = R → R = dzRI (if lnI (lnOf y.2 (nv g r) y.1 0) (-1) < 0 then
        (dgI (mS h M p1 g2 U G) M 1 2).bind fun v5 => (c_M_make M (mS h M p1 g2 U G)).bind fun q6 => if q6.1 = 0 then (dpF q6.2 M 1 2 (.int v5)).bind fun h7 => (dpF h7 M 1 4 (.int (nI y.1))).bind fun h8 => dzF 159 68 [(0, .ref M), (1, .int (nI r)), (2, .int (nI y.1)), (3, .int (lnI (lnOf y.2 (nv g r) y.1 0) (-1))), (4, .int v5), (5, .int q6.1)] [] (0, 0) h8
          else dzF 159 68 [(0, .ref M), (1, .int (nI r)), (2, .int (nI y.1)), (3, .int (lnI (lnOf y.2 (nv g r) y.1 0) (-1))), (4, .int v5), (5, .int q6.1)] [] (0, 0) q6.2
      else some (some (.int (lnI (lnOf y.2 (nv g r) y.1 0) (-1))), mS h M p1 g2 U G)) := by
    intro R hR
    rw [cc_M_prove _ _ _ ho, q_M_prove_0, sp_MisReg, isReg_nI hr, Option.bind_some] at hR
    dsimp only at hR
    rw [if_neg bI_n1, b1, Option.bind_some] at hR
    dsimp only at hR
    rw [if_neg (nI_pos (by omega)), a1, Option.bind_some, show (10 : Int32) = nI 10 from rfl, lo, Option.bind_some] at hR
    exact hR.symm
  refine ⟨p1, g2, a2.1, by rw [a2.2 21 (by decide), b3], fun x hx => by rw [a2.2 x (by simp; omega), b4 x hx], e10, by rw [b5, h2], b6, b7, b8, b9, hN2, fun i hi => ?_, fun hno => ⟨fun p3 g3 U3 G3 hm => ?_, fun p3 g3 U3 G3 hm => ?_⟩⟩
  · have := lnOf_some hi
    rw [pre _ rfl, hi]
    show dzRI (if nI i < 0 then _ else _) = _
    rw [if_neg (nI_pos (by omega))]
    rfl
  · rw [pre _ rfl, hno]
    show dzRI (if (-1 : Int32) < 0 then _ else _) = _
    rw [if_pos nI_neg1, mS_g2, Option.bind_some, hm, Option.bind_some]
    dsimp only
    rw [if_neg one_n0, q_M_prove_68, mS_g4, Option.bind_some, mS_p5, Option.bind_some, if_neg one_n0, mS_g4, Option.bind_some, pk_un (by decide)]
    rfl
  · rw [pre _ rfl, hno]
    show dzRI (if (-1 : Int32) < 0 then _ else _) = _
    rw [if_pos nI_neg1, mS_g2, Option.bind_some, b5, h2, hm, Option.bind_some]
    dsimp only
    rw [if_pos rfl, mS_p2, Option.bind_some, mS_p4, Option.bind_some, q_M_prove_68, mS_g4, Option.bind_some, pk_us, mS_p5, Option.bind_some]
    rfl
section
variable {A : Nat} {h : dzH} {o : Nat → Int32} {v : Nat → Nat} {T E : Nat → Int32} {F : Nat → Nat → Int32} {p : Nat → Int32} {g : Nat → Nat} {U : Nat → Int32} {G : Nat → Nat → Int32} {s n t : Nat}
theorem pr_prove (iv : IV A h o v T E F p g U G s n t) (i : Int32) : Pr A h (c_P_prove A i) (c_M_prove (A + 247) i) := by
  obtain ⟨i1, i2, i3, i4, i5, i6, i7, i8, i9, i10, i11, i12, i13, i14, i15, i16, i17⟩ := id iv
  obtain ⟨fs, ho⟩ := i1.ob
  cases hi : isReg i with
  | false =>
    obtain ⟨fs2, ho2⟩ := mS_ob h (A + 247) p g U G
    refine iv.same (x := -1) ?_ ?_
    · rw [cc_P_prove _ _ _ ho, q_P_prove_0, sp_isReg, hi]
      rfl
    · rw [cc_M_prove _ _ _ ho2, q_M_prove_0, sp_MisReg, hi]
      rfl
  | true =>
    obtain ⟨r, hr, rfl⟩ := isReg_ex hi
    have ff := kk_find i1 i6 i8 i15 i16 i17 (fun _ _ => rfl)
    have rq := chk_pair (t := tw T) (t' := tw U) i17 i16 (fun i hi => by show w32 (U i) = w32 (T i); rw [i9 i hi]) (fun _ => 0)
    revert ff rq
    cases chkF (tw T) s (200 - n + 1) n (stt (tw E) n) (fun i => v (24 + i)) with
    | error e =>
      rintro ⟨h1, o1, v1, E1, F1, n1, a1, a2, a3, a4, a5, a6, a7, a8⟩ rq
      have mc := m_check (M := A + 247) (h := h1) (o := p) (g := g) (T := U) (F := G) i3 i4 i7 i8 (fun _ => 0)
      revert rq mc
      cases chkF (tw U) s 201 0 0 (fun _ => 0) with
      | ok y => exact fun rq => rq.elim
      | error e' =>
        intro rq mc
        have ee : e = e' := rq
        subst ee
        obtain ⟨p1, g1, b1, b2, b3, b4, b5, b6, b7⟩ := mc
        obtain ⟨fs2, ho2⟩ := mS_ob h1 (A + 247) p g U G
        refine Pr.mk (x := -100 - nI e.1) (p' := p1) (g' := g1) (U' := U) (G' := G) (t' := 0) i2 ?_ a3.2.1 ?_ (IV.mk a3.1 b2 b3 (fun r hr => by rw [a3.2.2.2.1 _ (by omega), i5 r hr, b4 r hr]) (by rw [a3.2.2.1 0 (Or.inl rfl), i6]) (by rw [b5, i7]) i8 i9 (by rw [a7, b7]) (by rw [a6]; rfl) (by rw [b6]; rfl) (by decide) (fun i hi => by omega) a4 a5 a8)
        · rw [cc_P_prove _ _ _ ho, q_P_prove_0, sp_isReg, isReg_nI hr, Option.bind_some]
          dsimp only
          rw [if_neg bI_n1, g_p6 i1, Option.bind_some, a1, Option.bind_some]
          dsimp only
          rw [if_neg (fl_ne a2.1 a2.2)]
          rfl
        · rw [cc_M_prove _ _ _ ho2, q_M_prove_0, sp_MisReg, isReg_nI hr, Option.bind_some]
          dsimp only
          rw [if_neg bI_n1, b1, Option.bind_some]
          dsimp only
          rw [if_pos (neg_f0 e.1 (by have := a2.2; omega))]
          rfl
    | ok y =>
      rintro ⟨h1, o1, v1, E1, F1, a1, a3, a4, a5, a6, a7, a8, a9, a10⟩ rq
      have w1 := a3.1
      have hV : v1 (2 + r) = nv g r := by rw [a3.2.2.2.1 _ (by omega), i5 r hr]
      have hB : nv g r < B8 := iv.hB r hr
      have o10 : o1 0 = nI s := by rw [a3.2.2.1 0 (Or.inl rfl), i6]
      -- the class's end
      have hcp : ∀ {x : Int32} {h2 : dzH} {o2 : Nat → Int32} {v2 : Nat → Nat} {T2 E2 : Nat → Int32} {F2 : Nat → Nat → Int32}, c_Maker_lineFor (A + 238) (A + (2 + r)) h1 = some (x, h2) → CW A h2 o2 v2 T2 E2 F2 → ∃ h3, c_P_prove A (nI r) h = some (x, h3) ∧ CW A h3 (upd o2 2 (o2 1)) v2 T2 E2 F2 ∧ fr h2 h3 (inC A) := by
        intro x h2 o2 v2 T2 E2 F2 hl w2
        obtain ⟨h3, c1, c2, c3⟩ := p_o2 w2 (o2 1)
        refine ⟨h3, ?_, c2, c3⟩
        rw [cc_P_prove _ _ _ ho, q_P_prove_0, sp_isReg, isReg_nI hr, Option.bind_some]
        dsimp only
        rw [if_neg bI_n1, g_p6 i1, Option.bind_some, a1, Option.bind_some]
        dsimp only
        rw [if_pos rfl, g_p7 w1, Option.bind_some, g_p0 w1, Option.bind_some, g_rg w1 hr, Option.bind_some, hl, Option.bind_some]
        dsimp only
        rw [g_p5 w2, Option.bind_some, Option.bind_some, g_o1 w2, Option.bind_some, c1]
        rfl
      cases hcu : chkF (tw U) s 201 0 0 (fun _ => 0) with
      | error e =>
        rw [hcu] at rq
        exact rq.elim
      | ok y' =>
        rw [hcu] at rq
        obtain ⟨rq1, rq2⟩ := rq
        have hlc : lnOf y'.2 (nv g r) y'.1 0 = lnOf (fun i => v1 (24 + i)) (nv g r) y.1 0 := by
          rw [← rq1]
          exact lnOf_cong (fun j _ hj => by rw [← rq2 j (by omega)]; exact (a9 j (by omega)).symm)
        have hNy : ∀ i, i < y.1 → y'.2 i = v1 (24 + i) := fun i hi => by rw [← rq2 i hi]; exact (a9 i hi).symm
        have hp := a8.prime
        cases hx : lnOf (fun i => v1 (24 + i)) (nv g r) y.1 0 with
        | some k =>
          obtain ⟨h3, c1, c2, c3⟩ := hcp (kk_known w1 a4 a5 (N := fun i => v1 (24 + i)) (fun _ _ => rfl) hr hV hx) w1
          obtain ⟨p2, g2, d1, d2, d3, d4, d5, d6, d7, d8, d9, d10, d11, d12⟩ := m_prove0 (M := A + 247) (h := h3) (G := G) i3 i4 i7 i8 hr hcu
          refine Pr.mk (t' := y.1) i2 c1 (a3.2.1.tr c3) (d11 k (by rw [hlc, hx])) (IV.mk c2 d1 d2 (fun z hz => by rw [a3.2.2.2.1 _ (by omega), i5 z hz, d3 z hz]) (by rw [pk_un (by decide), o10]) d5 i8 i9 (by rw [pk_un (by decide), a7, d8]) (by rw [pk_us, a4]) (by rw [d7, ← rq1]) a5 (fun i hi => by rw [d10 i (by omega), hNy i hi]) (by rw [pk_un (by decide), a4]) a5 a8)
        | none =>
          -- no line can be made
          have fail : ∀ {h2 : dzH} {o2 : Nat → Int32} {v2 : Nat → Nat} {F2 : Nat → Nat → Int32}, c_Maker_lineFor (A + 238) (A + (2 + r)) h1 = some (-2, h2) → Mw A h1 y.1 o1 v1 F1 T E1 h2 o2 v2 F2 → (∀ (h3 : dzH) (p2 : Nat → Int32) (g2 : Nat → Nat), okg g2 → nv g2 21 = 1 → nv g2 10 = nv g r → p2 2 = nI s → p2 4 = nI y.1 → (∀ i, i < y.1 → nv g2 (32 + i) = v1 (24 + i)) → ∃ p3 g3 U3 G3, c_M_make (A + 247) (mS h3 (A + 247) p2 g2 U G) = some (0, mS h3 (A + 247) p3 g3 U3 G3) ∧ Nr y.1 g2 g3 ∧ keL [2, 4, 8] p2 p3 ∧ ∀ j, j < s → U3 j = U j) → Pr A h (c_P_prove A (nI r)) (c_M_prove (A + 247) (nI r)) := by
            intro h2 o2 v2 F2 hl mw hmk
            obtain ⟨h3, c1, c2, c3⟩ := hcp hl mw.1
            obtain ⟨p2, g2, d1, d2, d3, d4, d5, d6, d7, d8, d9, d10, d11, d12⟩ := m_prove0 (M := A + 247) (h := h3) (G := G) i3 i4 i7 i8 hr hcu
            obtain ⟨p3, g3, U3, G3, e1, e2, e3, e4⟩ := hmk h3 p2 g2 d1 d2 d4 d5 (by rw [d6, ← rq1]) (fun i hi => by rw [d10 i (by omega), hNy i hi])
            have hk := (d12 (by rw [hlc, hx])).2 p3 g3 U3 G3 e1
            have o21 : o2 1 = nI y.1 := by rw [mw.2.2.1 1 (by decide), a4]
            refine Pr.mk (x := -2) (t' := y.1) i2 c1 ((a3.2.1.tr mw.2.1).tr c3) hk (IV.mk c2 e2.1 (by rw [e2.2 21 (by omega), d2]) (fun z hz => by rw [mw.2.2.2.1 _ (by omega), a3.2.2.2.1 _ (by omega), i5 z hz, e2.2 z (by omega), d3 z hz]) (by rw [pk_un (by decide), mw.2.2.1 0 (by decide), o10]) (by rw [pk_un (by decide), pk_un (by decide), pk_us]) i8 (fun i hi => by rw [e4 i hi, i9 i hi]) (by rw [pk_un (by decide), mw.2.2.1 9 (by decide), a7, pk_un (by decide), pk_un (by decide), pk_un (by decide), e3 3 (by decide), d8]) (by rw [pk_us, o21]) (by rw [pk_us, rq1]) a5 (fun i hi => by rw [mw.2.2.2.1 _ (by omega), e2.2 _ (by omega), d10 i (by omega), hNy i hi]) (by rw [pk_un (by decide), o21]) a5 ?_)
            exact a8.loc (Nat.le_refl _) (fun _ _ => rfl) (fun i hi => mw.2.2.2.1 _ (by omega)) (fun _ _ => rfl) (by rw [a10]; exact Nat.le_refl _)
          by_cases hsm : nv g r ≤ 65535
          · have ks := kk_small1 w1 o10 i8 a4 a5 (N := fun i => v1 (24 + i)) (fun _ _ => rfl) hr hV hx hsm
            by_cases hc : spB (nv g r) = true ∧ y.1 + 1 ≤ 200 ∧ s + 2 ≤ 4000
            · obtain ⟨h2, o2, v2, T2, E2, c1, c2, c3, c4, c5, c6, c7, c8, c9, c10, c11, c12, c13⟩ := ks.1 hc
              obtain ⟨h3, k1, k2, k3⟩ := hcp c1 c2
              obtain ⟨p2, g2, d1, d2, d3, d4, d5, d6, d7, d8, d9, d10, d11, d12⟩ := m_prove0 (M := A + 247) (h := h3) (G := G) i3 i4 i7 i8 hr hcu
              obtain ⟨p3, g3, U3, e1, e2, e3, e4, e5, e6, e7, e8, e9⟩ := (m_small1 (M := A + 247) (h := h3) (T := U) (F := G) d1 d4 hsm a5 i8 d5 (by rw [d6, ← rq1])).1 hc
              have hk := (d12 (by rw [hlc, hx])).1 p3 g3 U3 G e1
              rw [e5, nI_pred] at hk
              have hNv : ∀ i, i < y.1 → v2 (24 + i) = nv g3 (32 + i) := fun i hi => by rw [c7 _ (by omega), e2.2 _ (by omega), d10 i (by omega), hNy i hi]
              refine Pr.mk (s' := s + 2) (n' := y.1 + 1) (t' := y.1 + 1) i2 k1 ((a3.2.1.tr c3).tr k3) hk (IV.mk k2 e2.1 (by rw [e2.2 21 (by omega), d2]) (fun z hz => by rw [c7 _ (by omega), a3.2.2.2.1 _ (by omega), i5 z hz, e2.2 z (by omega), d3 z hz]) (by rw [pk_un (by decide), c5]) (by rw [pk_un (by decide), e4]) hc.2.2 (fun i hi => ?_) (by rw [pk_un (by decide), c4 9 (by decide), a7, pk_un (by decide), e3 3 (by decide), d8]) (by rw [pk_us, c6]) pk_us hc.2.1 (fun i hi => ?_) (by rw [pk_un (by decide), c6]) hc.2.1 ?_)
              · by_cases z0 : i < s
                · rw [e7 i z0, c9 i z0, i9 i z0]
                · by_cases z1 : i = s
                  · rw [z1, e8, c10]
                  · rw [show i = s + 1 by omega, e9, c11]
              · by_cases z : i = y.1
                · rw [z, c8, e6]
                · exact hNv i (by omega)
              · exact small_right (spB_t.mp hc.1) hsm hc.2.1 hc.2.2 a8 a10 (fun i hi => c7 _ (by omega)) c8 c9 c10 c11 c12 c13
            · obtain ⟨h2, o2, v2, c1, c2⟩ := ks.2 hc
              refine fail c1 c2 (fun h3 p2 g2 d1 d2 d4 d5 d6 d10 => ?_)
              obtain ⟨g3, e1, e2⟩ := (m_small1 (M := A + 247) (h := h3) (T := U) (F := G) d1 d4 hsm a5 i8 d5 d6).2 hc
              exact ⟨p2, g3, U, G, e1, e2, fun _ _ => rfl, fun _ _ => rfl⟩
          · obtain ⟨u, hu, -⟩ := kk_uw w1 (r := 2 + r) (isR_r hr)
            rw [hV] at hu
            have kb := kk_big w1 o10 i8 a4 a5 (N := fun i => v1 (24 + i)) (fun _ _ => rfl) hp hr hV hx (by omega) hB hu
            by_cases hc : Suc y.1 (nv g r) (fun i => v1 (24 + i)) s u
            · obtain ⟨h2, o2, v2, T2, E2, F2, C, D, W, a, Q, c1, c2, c3, c4, c5, c6, c7, c8, c9, c10, c11, c12, c13, c14⟩ := kb.1 hc
              obtain ⟨h3, k1, k2, k3⟩ := hcp c1 c2
              obtain ⟨p2, g2, d1, d2, d3, d4, d5, d6, d7, d8, d9, d10, d11, d12⟩ := m_prove0 (M := A + 247) (h := h3) (G := G) i3 i4 i7 i8 hr hcu
              obtain ⟨p3, g3, U3, G3, C', D', W', a', Q', e1, e2, e3, e4, e5, e6, e7, e8⟩ := (m_big (M := A + 247) (h := h3) (T := U) (F := G) (N := fun i => v1 (24 + i)) d1 d2 d4 (by omega) hB hu a5 i8 d5 (by rw [d6, ← rq1]) (fun i hi => by rw [d10 i (by omega), hNy i hi]) hp).1 hc
              have hk := (d12 (by rw [hlc, hx])).1 p3 g3 U3 G3 e1
              rw [e5, nI_pred] at hk
              have hs4 := hc.2.2.1
              refine Pr.mk (t' := y.1 + mK y.1 (nv g r) (fun i => v1 (24 + i)) + 1) i2 k1 ((a3.2.1.tr c3).tr k3) hk (IV.mk k2 e2.1 (by rw [e2.2 21 (by omega), d2]) (fun z hz => by rw [c7 _ (by omega), a3.2.2.2.1 _ (by omega), i5 z hz, e2.2 z (by omega), d3 z hz]) (by rw [pk_un (by decide), c5]) (by rw [pk_un (by decide), e4]) hs4 (c11.same (by omega) hB hp e8 i9) (by rw [pk_un (by decide), c4 9 (by decide), a7, pk_un (by decide), e3 3 (by decide), d8]) (by rw [pk_us, c6]) pk_us hc.2.1 (fun i hi => ?_) (by rw [pk_un (by decide), c6]) hc.2.1 ?_)
              · by_cases z : i = y.1 + mK y.1 (nv g r) (fun i => v1 (24 + i))
                · rw [z, c9, e7]
                · rw [c8 i (by omega), e6 i (by omega)]
              · exact c11.right (by omega) hB hu hc.2.1 hc.1 a8 a10 c8 c9 hs4 c12 c13 c14
            · obtain ⟨h2, o2, v2, F2, c1, c2⟩ := kb.2 hc
              refine fail c1 c2 (fun h3 p2 g2 d1 d2 d4 d5 d6 d10 => ?_)
              exact (m_big (M := A + 247) (h := h3) (T := U) (F := G) (N := fun i => v1 (24 + i)) d1 d2 d4 (by omega) hB hu a5 i8 d5 d6 d10 hp).2 hc
end
