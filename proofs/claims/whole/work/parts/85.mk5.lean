/-! when a line for a large number can be made; the class makes it -/
noncomputable def mq (n V : Nat) (N : Nat → Nat) : Nat → Nat := fun j => mN n V N ((mR2 n V N).2.2.1 j)
def Rt (V m : Nat) (q : Nat → Nat) (a : Nat) : Prop := closes a V ∧ ∀ j, j < m → pwq a (q j) V ≠ 1
def Pt (V q a : Nat) : Prop := closes a V ∧ pev a q V
def sW (V m X : Nat) (q : Nat → Nat) : Prop := X = 1 ∧ ∃ a, 2 ≤ a ∧ a ≤ 200 ∧ Rt V m q a
def sP (V m X : Nat) (q : Nat → Nat) : Prop := X ≠ 1 ∧ V < (V - 1) / X * ((V - 1) / X) ∧ ∀ j, j < m → ∃ a, 2 ≤ a ∧ a ≤ 200 ∧ Pt V (q j) a
def lnl (X u m : Nat) : Nat := if X = 1 then 4 + u + 2 * m else 3 + u + 3 * m
def Suc (n V : Nat) (N : Nat → Nat) (s u : Nat) : Prop := mM n V N ≤ 40 ∧ n + mK n V N + 1 ≤ 200 ∧ s + 2 * mK n V N + lnl (mX n V N) u (mM n V N) ≤ 4000 ∧ (sW V (mM n V N) (mX n V N) (mq n V N) ∨ sP V (mM n V N) (mX n V N) (mq n V N))
/-- the factors in their order -/
def Tab (n V : Nat) (N C D : Nat → Nat) : Prop := Pm (mM n V N) (mR2 n V N).2.2.1 (mR2 n V N).2.2.2 C D ∧ asc (mM n V N) (fun j => mN n V N (C j)) ∧ pr (fun j => mN n V N (C j)) D (mM n V N) * mX n V N = V - 1
/-- what is written of witnesses: the least -/
def Dat (V m X : Nat) (q : Nat → Nat) (W a : Nat) (Q : Nat → Nat) : Prop :=
  (X = 1 ∧ W = 2 ∧ 2 ≤ a ∧ a ≤ 200 ∧ Rt V m q a ∧ ∀ z, 2 ≤ z → z < a → ¬ Rt V m q z) ∨
  (X ≠ 1 ∧ W = 3 ∧ V < (V - 1) / X * ((V - 1) / X) ∧ ∀ j, j < m → 2 ≤ Q j ∧ Q j ≤ 200 ∧ Pt V (q j) (Q j) ∧ ∀ z, 2 ≤ z → z < Q j → ¬ Pt V (q j) z)
theorem Pm.all {m : Nat} {L X C D N : Nat → Nat} (h : Pm m L X C D) {P : Nat → Prop} (hp : ∀ j, j < m → P (N (L j))) : ∀ j, j < m → P (N (C j)) := fun j hj => by
  obtain ⟨i, a1, a2, a3⟩ := h.2 j hj
  rw [a2]
  exact hp i a1
theorem Pm.all' {m : Nat} {L X C D N : Nat → Nat} (h : Pm m L X C D) {P : Nat → Prop} (hp : ∀ j, j < m → P (N (C j))) : ∀ j, j < m → P (N (L j)) := fun j hj => by
  obtain ⟨i, a1, a2, a3⟩ := h.1 j hj
  rw [← a2]
  exact hp i a1
theorem Rt_pm {m : Nat} {L X C D N : Nat → Nat} (h : Pm m L X C D) {V a : Nat} : Rt V m (fun j => N (C j)) a ↔ Rt V m (fun j => N (L j)) a :=
  ⟨fun r => ⟨r.1, h.all' (P := fun q => pwq a q V ≠ 1) r.2⟩, fun r => ⟨r.1, h.all (P := fun q => pwq a q V ≠ 1) r.2⟩⟩
section
variable {n V : Nat} {N C D : Nat → Nat}
theorem Tab.ent (hV : 2 ≤ V) (hB : V < B8) (hp : ∀ i, i < n → npP (N i)) (t : Tab n V N C D) : ∀ j, j < mM n V N → C j < n + mK n V N ∧ npP (mN n V N (C j)) ∧ 1 ≤ D j ∧ D j ≤ 255 := by
  obtain ⟨i1, i2, i3, i4, i5, i6, i7, i8, i9⟩ := mR_inv hV hB hp
  intro j hj
  obtain ⟨i, a1, a2, a3⟩ := t.1.2 j hj
  obtain ⟨b1, b2, b3, b4⟩ := i6.2.2.2.1 i a1
  rw [a2, a3]
  exact ⟨b1, i6.2.2.2.2.1 _ b1, b2, b3⟩
theorem Tab.X (hV : 2 ≤ V) (hB : V < B8) (hp : ∀ i, i < n → npP (N i)) (t : Tab n V N C D) : 0 < mX n V N ∧ (V - 1) / mX n V N = pr (fun j => mN n V N (C j)) D (mM n V N) := by
  obtain ⟨i1, i2, i3, i4, i5, i6, i7, i8, i9⟩ := mR_inv hV hB hp
  refine ⟨i6.1, ?_⟩
  rw [← t.2.2]
  exact Nat.mul_div_cancel _ i6.1
theorem closes_prime {a : Nat} (hV : 65535 < V) (hp : npP V) (h2 : 2 ≤ a) (h3 : a ≤ 200) : closes a V := by
  have := np_fermat hp (a := a) (fun q => by have := Nat.le_of_dvd (by omega) q; omega)
  unfold closes
  rw [this, one_mod (by omega)]
theorem Tab.primeW (hV : 65535 < V) (hB : V < B8) (hp : ∀ i, i < n → npP (N i)) (t : Tab n V N C D) (hX : mX n V N = 1) {a : Nat} (hr : Rt V (mM n V N) (fun j => mN n V N (C j)) a) : npP V := by
  have h1 := t.2.2
  rw [hX, Nat.mul_one, ← pr_npM] at h1
  exact lucas_fl (by omega) (fun j hj => (t.ent (by omega) hB hp j hj).2.1) h1 hr.1 hr.2
theorem Tab.primeP (hV : 65535 < V) (hB : V < B8) (hp : ∀ i, i < n → npP (N i)) (t : Tab n V N C D) (h2 : V < (V - 1) / mX n V N * ((V - 1) / mX n V N)) (hw : ∀ j, j < mM n V N → ∃ a, Pt V (mN n V N (C j)) a) : npP V := by
  obtain ⟨x1, x2⟩ := t.X (by omega) hB hp
  rw [x2, ← pr_npM] at h2
  refine pock_fl (by omega) (fun j hj => (t.ent (by omega) hB hp j hj).2.1) (fun j h3 h4 => ?_) (fun j hj => (t.ent (by omega) hB hp j hj).2.2.1) ?_ h2 hw
  · have := t.2.1 (j - 1) (by omega)
    rw [show j - 1 + 1 = j by omega] at this
    exact this
  · rw [pr_npM]
    exact ⟨mX n V N, t.2.2.symm⟩
/-- from a success to what is written: V is prime -/
theorem Dat.prime (hV : 65535 < V) (hB : V < B8) (hp : ∀ i, i < n → npP (N i)) (t : Tab n V N C D) {W a : Nat} {Q : Nat → Nat} (d : Dat V (mM n V N) (mX n V N) (fun j => mN n V N (C j)) W a Q) : npP V := by
  rcases d with ⟨d1, d2, d3, d4, d5, d6⟩ | ⟨d1, d2, d3, d4⟩
  · exact t.primeW hV hB hp d1 d5
  · exact t.primeP hV hB hp d3 (fun j hj => ⟨Q j, (d4 j hj).2.2.1⟩)
theorem Suc.prime (hV : 65535 < V) (hB : V < B8) (hp : ∀ i, i < n → npP (N i)) (t : Tab n V N C D) {s u : Nat} (hs : Suc n V N s u) : npP V := by
  obtain ⟨s1, s2, s3, s4⟩ := hs
  rcases s4 with ⟨c1, a, c2, c3, c4⟩ | ⟨c1, c2, c3⟩
  · exact t.primeW hV hB hp c1 ((Rt_pm t.1).mpr c4)
  · exact t.primeP hV hB hp c2 (t.1.all (P := fun q => ∃ a, Pt V q a) (fun j hj => by
      obtain ⟨a, b1, b2, b3⟩ := c3 j hj
      exact ⟨a, b3⟩))
theorem Dat.suc (t : Tab n V N C D) {W a s u : Nat} {Q : Nat → Nat} (d : Dat V (mM n V N) (mX n V N) (fun j => mN n V N (C j)) W a Q) (s1 : mM n V N ≤ 40) (s2 : n + mK n V N + 1 ≤ 200) (s3 : s + 2 * mK n V N + lnl (mX n V N) u (mM n V N) ≤ 4000) : Suc n V N s u := by
  refine ⟨s1, s2, s3, ?_⟩
  rcases d with ⟨d1, d2, d3, d4, d5, d6⟩ | ⟨d1, d2, d3, d4⟩
  · exact Or.inl ⟨d1, a, d3, d4, (Rt_pm t.1).mp d5⟩
  · exact Or.inr ⟨d1, d3, t.1.all' (P := fun q => ∃ a, 2 ≤ a ∧ a ≤ 200 ∧ Pt V q a) (fun j hj => ⟨Q j, (d4 j hj).1, (d4 j hj).2.1, (d4 j hj).2.2.1⟩)⟩
end
theorem lnl_W {X u m c W : Nat} (h : (X = 1 ∧ W = 2) ∨ (X ≠ 1 ∧ W = 3)) : cF W c u + 1 + W * m = c + lnl X u m := by
  unfold cF lnl
  rcases h with ⟨h1, h2⟩ | ⟨h1, h2⟩
  · subst h2
    rw [if_pos rfl, if_pos h1]
    omega
  · subst h2
    rw [if_neg (by decide), if_neg h1]
    omega
section
variable {A : Nat} {h : dzH} {o : Nat → Int32} {v : Nat → Nat} {T E : Nat → Int32} {F : Nat → Nat → Int32} {n k m s V u : Nat}
def Mw (A : Nat) (h : dzH) (n : Nat) (o : Nat → Int32) (v : Nat → Nat) (F : Nat → Nat → Int32) (T E : Nat → Int32) (h' : dzH) (o' : Nat → Int32) (v' : Nat → Nat) (F' : Nat → Nat → Int32) : Prop :=
  CW A h' o' v' T E F' ∧ fr h h' (inC A) ∧ keL [11, 12, 13] o o' ∧ (∀ k, k < 24 + n → v' k = v k) ∧ ∀ r, r < 3 → F' r = F r
theorem Mw.mk {h1 h2 : dzH} {o1 o2 : Nat → Int32} {v1 v2 : Nat → Nat} {F1 F2 : Nat → Nat → Int32} (a : Mw A h n o v F T E h1 o1 v1 F1) (b : Mk A h1 n o1 v1 F1 T E h2 o2 v2 F2) : Mw A h n o v F T E h2 o2 v2 F2 :=
  ⟨b.1, a.2.1.tr b.2.1, a.2.2.1.tr b.2.2.1, fun k hk => (b.2.2.2.1 k (Or.inl hk)).trans (a.2.2.2.1 k hk), fun r hr => (b.2.2.2.2 r hr).trans (a.2.2.2.2 r hr)⟩
theorem Mw.tr {h1 h2 : dzH} {o1 o2 : Nat → Int32} {v1 v2 : Nat → Nat} {F1 F2 : Nat → Nat → Int32} (a : Mw A h n o v F T E h1 o1 v1 F1) (b : Mw A h1 n o1 v1 F1 T E h2 o2 v2 F2) : Mw A h n o v F T E h2 o2 v2 F2 :=
  ⟨b.1, a.2.1.tr b.2.1, a.2.2.1.tr b.2.2.1, fun k hk => (b.2.2.2.1 k hk).trans (a.2.2.2.1 k hk), fun r hr => (b.2.2.2.2 r hr).trans (a.2.2.2.2 r hr)⟩
/-- a line for a large number: what both leave -/
def Big (n V : Nat) (N : Nat → Nat) (s u : Nat) (T : Nat → Int32) (T' : Nat → Int32) (C D : Nat → Nat) (W a : Nat) (Q : Nat → Nat) : Prop :=
  Tab n V N C D ∧ Dat V (mM n V N) (mX n V N) (fun j => mN n V N (C j)) W a Q ∧ (∀ j, j < s → T' j = T j) ∧ (∀ q, q < mK n V N → T' (s + 2 * q) = nI 1 ∧ T' (s + 2 * q + 1) = nI (mN n V N (n + q))) ∧ Wl T' (s + 2 * mK n V N) W V u a (mM n V N) C D Q
theorem kk_big (w : CW A h o v T E F) (h0 : o 0 = nI s) (hs : s ≤ 4000) (h1 : o 1 = nI n) (hn : n ≤ 200) {N : Nat → Nat} (hN : ∀ i, i < n → v (24 + i) = N i) (hp : ∀ i, i < n → npP (N i)) {r : Nat} (hr : r < 8) (hV : v (2 + r) = V) (hln : lnOf N V n 0 = none) (hbig : 65535 < V) (hB : V < B8) (hu : Wc V u) :
    (Suc n V N s u → ∃ h' o' v' T' E' F' C D W a Q, c_Maker_lineFor (A + 238) (A + (2 + r)) h = some (nI (n + mK n V N), h') ∧ CW A h' o' v' T' E' F' ∧ fr h h' (inC A) ∧ keL [0, 1, 11, 12, 13] o o' ∧ o' 0 = nI (s + 2 * mK n V N + lnl (mX n V N) u (mM n V N)) ∧ o' 1 = nI (n + mK n V N + 1) ∧ (∀ k, k < 24 + n → v' k = v k) ∧ (∀ i, i < n + mK n V N → v' (24 + i) = mN n V N i) ∧ v' (24 + (n + mK n V N)) = V ∧ (∀ r, r < 3 → F' r = F r) ∧ Big n V N s u T T' C D W a Q ∧
      (∀ j, j < n → E' j = E j) ∧ (∀ q, q < mK n V N → E' (n + q) = nI (s + 2 * q + 2)) ∧ E' (n + mK n V N) = nI (s + 2 * mK n V N + lnl (mX n V N) u (mM n V N))) ∧
    (¬ Suc n V N s u → ∃ h' o' v' F', c_Maker_lineFor (A + 238) (A + (2 + r)) h = some (-2, h') ∧ Mw A h n o v F T E h' o' v' F') := by
  obtain ⟨fs, ho⟩ := w.o238
  have hlo := kk_lineOf w h1 hn (r := 2 + r) (isR_r hr)
  rw [hV, lnOf_cong (N := N) (fun j _ hj => hN j (by omega)), hln] at hlo
  have hlo' : c_Lines_lineOf (A + 22) (A + (2 + r)) h = some (-2, h) := hlo
  obtain ⟨k1, a1, a2, a3⟩ := p_o11 w 0
  have am := sp_atMost (i := 65535) (L := 65535) rfl (a2.row (isR_r hr)) (by decide)
  rw [hV, decide_eq_false (by omega)] at am
  obtain ⟨k2, b1, b2, b3⟩ := kk_begin a2 (r := 2 + r) (isR_r hr) (by omega) (by rw [hV]; omega)
  rw [hV] at b2
  have mw2 : Mw A h n o v F T E k2 _ _ F := ⟨b2, a3.tr b3, fun q hq => pk_un (fun z => hq (by rw [z]; decide)), fun q hq => by rw [gu_n (by omega), gu_n (by omega)], fun _ _ => rfl⟩
  have ff := kk_findF (V := V) (N := N) b2 (by rw [pk_un (by decide), h1]) hn pk_us (by omega) hB (gu_s _ _ _) (fun i hi => by rw [gu_n (by omega), gu_n (by omega)]; exact hN i hi) hp
  generalize hR : c_Maker_lineFor (A + 238) (A + (2 + r)) h = R
  rw [cc_Maker_lineFor _ _ _ ho, q_Maker_lineFor_0] at hR
  simp only [g_mk1 w, Option.bind_some, hlo', if_pos, a1, am, bI_f, g_mk3 a2, b1] at hR
  by_cases hff : mM n V N ≤ 40 ∧ n + mK n V N ≤ 200
  · obtain ⟨k3, o3, v3, F3, C, D, c1, c2, c3, c4, c5, c6, c7, c8, c9, c10⟩ := ff.1 hff
    have w3 := c2.1
    have tab : Tab n V N C D := ⟨c7, c8, c9⟩
    have ent := tab.ent (by omega) hB hp
    obtain ⟨x1, x2⟩ := tab.X (by omega) hB hp
    have mw3 := mw2.mk c2
    have e226 : v3 226 = V := by rw [c2.2.2.2.1 226 (Or.inr (by decide)), gu_n (by decide), gu_s]
    have e227 : v3 227 = V - 1 := by rw [c2.2.2.2.1 227 (Or.inr (by decide)), gu_s]
    have e0 : o3 0 = nI s := by rw [mw3.2.2.1 0 (by decide), h0]
    have e1 : o3 1 = nI n := by rw [mw3.2.2.1 1 (by decide), h1]
    have mf : MF (mM n V N) V C (fun j => mN n V N (C j)) o3 v3 F3 := ⟨hff.1, c4, by omega, e226, e227, fun j hj => ⟨(c10 j hj).1, by have := (ent j hj).1; omega, c6 _ (ent j hj).1, Nat.le_trans (by decide) (ent j hj).2.1.1⟩⟩
    have one := sp_isOne (w3.row (isR_m (k := 243) (by decide) (by decide)))
    rw [c5] at one
    have ints := kk_ints w3 c4 (by rw [e226]; exact hu) (decide (mX n V N = 1))
    have elnl : (if decide (mX n V N = 1) = true then 4 + u + 2 * mM n V N else 3 + u + 3 * mM n V N) = lnl (mX n V N) u (mM n V N) := by
      unfold lnl
      by_cases z : mX n V N = 1
      · rw [if_pos z, if_pos (decide_eq_true z)]
      · rw [if_neg z, if_neg (by rw [decide_eq_false z]; decide)]
    rw [elnl] at ints
    have hu8 := hu.1
    have hl0 : lnl (mX n V N) u (mM n V N) ≠ 0 ∧ lnl (mX n V N) u (mM n V N) ≤ 4000 := by
      unfold lnl
      split <;> omega
    have room := kk_hasRoom w3 e0 hs e1 c3 hn (by omega) hl0.2
    rw [if_neg hl0.1] at room
    simp only [c1, Option.bind_some, if_neg one_n0, g_mk5 w3, one, ints, room] at hR
    by_cases hroom : n + mK n V N + 1 ≤ 200 ∧ s + 2 * mK n V N + lnl (mX n V N) u (mM n V N) ≤ 4000
    · rw [decide_eq_true hroom, if_neg bI_n1] at hR
      -- the line is written
      have wr : ∀ {h4 : dzH} {o4 : Nat → Int32} {v4 : Nat → Nat} {F4 : Nat → Nat → Int32} {W a : Nat} {Q : Nat → Nat}, CW A h4 o4 v4 T E F4 → fr k3 h4 (inC A) → keL [12] o3 o4 → (∀ k, k < 229 → v4 k = v3 k) → (∀ r, r ≠ 5 → F4 r = F3 r) → (W = 2 → o4 12 = nI a) → (W = 3 → ∀ j, j < mM n V N → F4 5 j = nI (Q j)) → Dat V (mM n V N) (mX n V N) (fun j => mN n V N (C j)) W a Q → R = dzRI (dzF 97 142 [(0, .ref (A + 238)), (1, .ref (A + (2 + r))), (2, .int (-2)), (3, .int (bI (decide (mX n V N = 1))))] [] (0, 0) h4) →
          (Suc n V N s u → ∃ h' o' v' T' E' F' C D W a Q, R = some (nI (n + mK n V N), h') ∧ CW A h' o' v' T' E' F' ∧ fr h h' (inC A) ∧ keL [0, 1, 11, 12, 13] o o' ∧ o' 0 = nI (s + 2 * mK n V N + lnl (mX n V N) u (mM n V N)) ∧ o' 1 = nI (n + mK n V N + 1) ∧ (∀ k, k < 24 + n → v' k = v k) ∧ (∀ i, i < n + mK n V N → v' (24 + i) = mN n V N i) ∧ v' (24 + (n + mK n V N)) = V ∧ (∀ r, r < 3 → F' r = F r) ∧ Big n V N s u T T' C D W a Q ∧
            (∀ j, j < n → E' j = E j) ∧ (∀ q, q < mK n V N → E' (n + q) = nI (s + 2 * q + 2)) ∧ E' (n + mK n V N) = nI (s + 2 * mK n V N + lnl (mX n V N) u (mM n V N))) ∧
          (¬ Suc n V N s u → ∃ h' o' v' F', R = some (-2, h') ∧ Mw A h n o v F T E h' o' v' F') := by
        intro h4 o4 v4 F4 W a Q w4 hf4 ke4 hv4 hF4 h12 hQ dat hRR
        have hWX : (mX n V N = 1 ∧ W = 2) ∨ (mX n V N ≠ 1 ∧ W = 3) := by
          rcases dat with ⟨d1, d2, -⟩ | ⟨d1, d2, -⟩
          · exact Or.inl ⟨d1, d2⟩
          · exact Or.inr ⟨d1, d2⟩
        have hW : W = 2 ∨ W = 3 := by rcases hWX with z | z; exact Or.inl z.2; exact Or.inr z.2
        have eb : decide (mX n V N = 1) = decide (W = 2) := by
          rcases hWX with ⟨z1, z2⟩ | ⟨z1, z2⟩
          · rw [decide_eq_true z1, decide_eq_true z2]
          · rw [decide_eq_false z1, decide_eq_false (by omega)]
        have elen := lnl_W (u := u) (m := mM n V N) (c := s + 2 * mK n V N) hWX
        have i45 := mR_inv (n := n) (V := V) (N := N) (by omega) hB hp
        obtain ⟨k5, o5, T5, E5, p1, p2, p3, p4, p5, p6, p7, p8, p9, p10⟩ := kk_ws w4 (s := s) (n := n) (k := mK n V N) (by omega) hff.2 (fun q hq => by
          rw [hv4 _ (by omega), c6 (n + q) (by omega)]
          have := i45.2.2.2.1 (n + q) (by omega) (by omega)
          omega) (by rw [ke4 0 (by decide), e0]) (by rw [ke4 1 (by decide), e1]) (by rw [ke4 11 (by decide), c3])
        have hFF : ∀ j, j < mM n V N → F4 3 j = nI (C j) ∧ F4 4 j = nI (D j) ∧ (W = 3 → F4 5 j = nI (Q j)) := fun j hj => by
          rw [hF4 3 (by decide), hF4 4 (by decide)]
          exact ⟨(c10 j hj).1, (c10 j hj).2, fun z => hQ z j hj⟩
        obtain ⟨k6, o6, T6, q1, q2, q3, q4, q5, q6, q7, q8⟩ := kk_wl p2 (a := a) hW hff.1 (by rw [hv4 226 (by decide), e226]) hu p5 p6 (by omega) (by rw [p4 13 (by decide), ke4 13 (by decide), c4]) (fun z => by rw [p4 12 (by decide), h12 z]) (by rw [elen]; exact hroom.2) hFF
        rw [elen] at q2 q5
        refine ⟨fun _ => ⟨k6, o6, _, T6, _, F4, C, D, W, a, Q, ?_, q2, ((mw3.2.1.tr hf4).tr p3).tr q3, ?_, q5, q6, ?_, ?_, gu_s _ _ _, ?_, ?_, ?_, ?_, pk_us⟩, fun z => absurd (dat.suc tab hff.1 hroom.1 hroom.2) z⟩
        · rw [hRR, q_Maker_lineFor_142, p1, Option.bind_some, eb, q1]
          rfl
        · intro z hz
          rw [q4 z (fun y => hz (by simp at y ⊢; omega)), p4 z (fun y => hz (by simp at y ⊢; omega)), ke4 z (fun y => hz (by simp at y ⊢; omega)), mw3.2.2.1 z (fun y => hz (by simp at y ⊢; omega))]
        · intro k hk
          rw [gu_n (by omega), hv4 k (by omega)]
          exact mw3.2.2.2.1 k hk
        · intro i hi
          rw [gu_n (by omega), hv4 _ (by omega), c6 i hi]
        · intro z hz
          rw [hF4 z (by omega)]
          exact mw3.2.2.2.2 z hz
        · refine ⟨tab, dat, fun j hj => by rw [q7 j (by omega), p7 j hj], fun q hq => ?_, q8⟩
          rw [q7 _ (by omega), q7 _ (by omega)]
          have := p8 q hq
          rw [hv4 _ (by omega), c6 _ (by omega)] at this
          exact this
        · intro j hj
          rw [pk_un (by omega), p9 j hj]
        · intro q hq
          rw [pk_un (by omega), p10 q hq]
      by_cases hX : mX n V N = 1
      · have hX' : (decide (mX n V N = 1)) = true := decide_eq_true hX
        rw [hX', if_neg bI_n1, q_Maker_lineFor_118, if_neg bI_n1] at hR
        obtain ⟨fs3, ho3⟩ := w3.o238
        obtain ⟨b, k4, o4, v4, d1, d2, d3, d4, d5, d6, d7⟩ := lp_root2 199 2 (by decide) (by decide) w3 mf
        have er : c_Maker_findRoot (A + 238) k3 = some (bI b, k4) := by
          rw [cc_Maker_findRoot _ _ ho3, q_Maker_findRoot_0]
          exact d1
        rw [er, Option.bind_some] at hR
        cases b with
        | true =>
          obtain ⟨ra, f1, f2, f3, f4, f5, f6⟩ := d6 rfl
          refine wr (W := 2) (a := ra) (Q := fun _ => 0) d2 d3 d4 (fun k hk => d5 k (Or.inl hk)) (fun _ _ => rfl) (fun _ => f3) (fun z => by omega) (Or.inl ⟨hX, rfl, f1, f2, ⟨f4, f5⟩, fun z z1 z2 y => ?_⟩) ?_
          · obtain ⟨j, j1, j2⟩ := f6 z z1 z2
            exact y.2 j j1 j2
          · rw [← hR, hX']
            rfl
        | false =>
          refine ⟨fun hs => ?_, fun _ => ⟨k4, o4, v4, F3, hR.symm, mw3.tr ⟨d2, d3, d4.mono (by decide), fun k hk => d5 k (by omega), fun _ _ => rfl⟩⟩⟩
          have hpr := hs.prime hbig hB hp tab
          rcases d7 rfl with y | ⟨z, z1, z2, z3⟩
          · obtain ⟨s1, s2, s3, s4⟩ := hs
            rcases s4 with ⟨y1, a, y2, y3, y4⟩ | ⟨y1, y2⟩
            · obtain ⟨j, j1, j2⟩ := y a y2 y3
              exact absurd j2 (((Rt_pm tab.1).mpr y4).2 j j1)
            · exact absurd hX y1
          · exact absurd (closes_prime hbig hpr z1 z2) z3
      · have hX' : (decide (mX n V N = 1)) = false := decide_eq_false hX
        obtain ⟨k4, v4, d1, d2, d3, d4⟩ := kk_suff w3 (by rw [c5]; exact x1)
        rw [e226, e227, c5] at d1
        rw [hX', if_pos bI_f, d1, Option.bind_some] at hR
        dsimp only at hR
        have mw4 : Mw A h n o v F T E k4 o3 v4 F3 := mw3.tr ⟨d2, d3, fun _ _ => rfl, fun k hk => d4 k (by omega), fun _ _ => rfl⟩
        by_cases hsf : V < (V - 1) / mX n V N * ((V - 1) / mX n V N)
        · rw [decide_eq_true hsf, if_neg bI_n1, q_Maker_lineFor_118, if_pos bI_f] at hR
          obtain ⟨fs4, ho4⟩ := d2.o238
          obtain ⟨b, k5, v5, F5, f1, f2, f3, f4, f5, f6, f7, f8⟩ := lp_w4 (mM n V N) 0 1 (Nat.zero_add _) (by decide) (by decide) d2 (mf.up (o1 := o3) (F1 := F3) rfl (fun k hk => d4 k (by omega)) rfl) (fun y y1 y2 => by omega)
          have er : c_Maker_findWitnesses (A + 238) k4 = some (bI b, k5) := by
            rw [cc_Maker_findWitnesses _ _ ho4, q_Maker_findWitnesses_0]
            exact f1
          rw [er, Option.bind_some] at hR
          cases b with
          | true =>
            have hex : ∃ Q : Nat → Nat, ∀ j, j < mM n V N → F5 5 j = nI (Q j) ∧ 2 ≤ Q j ∧ Q j ≤ 200 ∧ Pt V (mN n V N (C j)) (Q j) ∧ ∀ z, 2 ≤ z → z < Q j → ¬ Pt V (mN n V N (C j)) z := by
              refine ⟨fun j => w32 (F5 5 j), fun j hj => ?_⟩
              obtain ⟨ra, g1, g2, g3, g4, g5, g6⟩ := f7 rfl j (Nat.zero_le _) hj
              have ew : w32 (F5 5 j) = ra := by rw [g1, w32_nI (by omega)]
              dsimp only
              rw [ew]
              exact ⟨g1, g2, g3, ⟨g4, g5⟩, fun z z1 z2 y => g6 z z1 z2 y.2⟩
            obtain ⟨Q, hQ⟩ := hex
            refine wr (W := 3) (a := 0) (Q := Q) f2 (d3.tr f3) (fun _ _ => rfl) (fun k hk => by rw [f4 k (Or.inl hk), d4 k (by omega)]) f5 (fun z => by omega) (fun _ j hj => (hQ j hj).1) (Or.inr ⟨hX, rfl, hsf, fun j hj => (hQ j hj).2⟩) ?_
            rw [← hR, hX']
            rfl
          | false =>
            refine ⟨fun hs => ?_, fun _ => ⟨k5, o3, v5, F5, hR.symm, mw4.tr ⟨f2, f3, fun _ _ => rfl, fun k hk => f4 k (by omega), fun r hr => f5 r (by omega)⟩⟩⟩
            have hpr := hs.prime hbig hB hp tab
            rcases f8 rfl with ⟨z, z1, z2, z3⟩ | ⟨j, j1, j2⟩
            · exact absurd (closes_prime hbig hpr z1 z2) z3
            · obtain ⟨s1, s2, s3, s4⟩ := hs
              rcases s4 with ⟨y1, y2⟩ | ⟨y1, y2, y3⟩
              · exact absurd y1 hX
              · obtain ⟨a, b1, b2, b3⟩ := tab.1.all (N := mN n V N) (P := fun q => ∃ a, 2 ≤ a ∧ a ≤ 200 ∧ Pt V q a) y3 j j1
                exact absurd b3.2 (j2 a b1 b2)
        · rw [decide_eq_false hsf, if_pos bI_f] at hR
          refine ⟨fun hs => ?_, fun _ => ⟨k4, o3, v4, F3, hR.symm, mw4⟩⟩
          obtain ⟨s1, s2, s3, s4⟩ := hs
          rcases s4 with ⟨y1, y2⟩ | ⟨y1, y2, y3⟩
          · exact absurd y1 hX
          · exact absurd y2 hsf
    · rw [decide_eq_false hroom, if_pos bI_f] at hR
      exact ⟨fun hs => absurd ⟨hs.2.1, hs.2.2.1⟩ hroom, fun _ => ⟨k3, o3, v3, F3, hR.symm, mw3⟩⟩
  · obtain ⟨k3, o3, v3, F3, c1, c2⟩ := ff.2 hff
    rw [c1, Option.bind_some] at hR
    exact ⟨fun hs => absurd ⟨hs.1, by have := hs.2.1; omega⟩ hff, fun _ => ⟨k3, o3, v3, F3, hR.symm, mw2.mk c2⟩⟩
theorem kk_small1 (w : CW A h o v T E F) (h0 : o 0 = nI s) (hs : s ≤ 4000) (h1 : o 1 = nI n) (hn : n ≤ 200) {N : Nat → Nat} (hN : ∀ i, i < n → v (24 + i) = N i) {r : Nat} (hr : r < 8) (hV : v (2 + r) = V) (hln : lnOf N V n 0 = none) (hsm : V ≤ 65535) :
    (spB V = true ∧ n + 1 ≤ 200 ∧ s + 2 ≤ 4000 → ∃ h' o' v' T' E', c_Maker_lineFor (A + 238) (A + (2 + r)) h = some (nI n, h') ∧ CW A h' o' v' T' E' F ∧ fr h h' (inC A) ∧ keL [0, 1, 11, 12, 13] o o' ∧ o' 0 = nI (s + 2) ∧ o' 1 = nI (n + 1) ∧ (∀ k, k < 24 + n → v' k = v k) ∧ v' (24 + n) = V ∧ (∀ j, j < s → T' j = T j) ∧ T' s = nI 1 ∧ T' (s + 1) = nI V ∧ (∀ j, j < n → E' j = E j) ∧ E' n = nI (s + 2)) ∧
    (¬ (spB V = true ∧ n + 1 ≤ 200 ∧ s + 2 ≤ 4000) → ∃ h' o' v', c_Maker_lineFor (A + 238) (A + (2 + r)) h = some (-2, h') ∧ Mw A h n o v F T E h' o' v' F) := by
  obtain ⟨fs, ho⟩ := w.o238
  have hlo := kk_lineOf w h1 hn (r := 2 + r) (isR_r hr)
  rw [hV, lnOf_cong (N := N) (fun j _ hj => hN j (by omega)), hln] at hlo
  have hlo' : c_Lines_lineOf (A + 22) (A + (2 + r)) h = some (-2, h) := hlo
  obtain ⟨k1, a1, a2, a3⟩ := p_o11 w 0
  have am := sp_atMost (i := 65535) (L := 65535) rfl (a2.row (isR_r hr)) (by decide)
  rw [hV, decide_eq_true (by omega)] at am
  have hw := kk_wi a2 (r := 2 + r) (i := 0) (isR_r hr) (by decide)
  rw [hV, wd_0 (by omega), nI_0] at hw
  have mw1 : Mw A h n o v F T E k1 _ v F := ⟨a2, a3, fun q hq => pk_un (fun z => hq (by rw [z]; decide)), fun _ _ => rfl, fun _ _ => rfl⟩
  have e1 : upd o 11 0 1 = nI n := by rw [pk_un (by decide), h1]
  have e0 : upd o 11 0 0 = nI s := by rw [pk_un (by decide), h0]
  generalize hR : c_Maker_lineFor (A + 238) (A + (2 + r)) h = R
  rw [cc_Maker_lineFor _ _ _ ho, q_Maker_lineFor_0] at hR
  simp only [g_mk1 w, Option.bind_some, hlo', if_pos, a1, am, if_neg bI_n1, hw, sp_small hsm] at hR
  by_cases hsp : spB V = true
  · rw [hsp, if_neg bI_n1] at hR
    by_cases hn2 : n + 0 < 200
    · obtain ⟨k2, b1, b2, b3⟩ := kk_plan a2 e1 (k := 0) pk_us hn2 (r := 2 + r) (isR_r hr)
      rw [hV] at b2
      have mw2 : Mw A h n o v F T E k2 _ _ F := mw1.tr ⟨b2, b3, fun q hq => pk_un (fun z => hq (by rw [z]; decide)), fun q hq => gu_n (by omega), fun _ _ => rfl⟩
      have room := kk_hasRoom b2 (by rw [pk_un (by decide), e0]) hs (by rw [pk_un (by decide), e1]) (k := 0 + 1) pk_us hn (by decide) (i := 0) (by decide)
      rw [if_pos rfl, nI_0] at room
      simp only [b1, Option.bind_some, if_neg one_n0, room] at hR
      by_cases hrm : n + (0 + 1) + 0 ≤ 200 ∧ s + 2 * (0 + 1) + 0 ≤ 4000
      · rw [decide_eq_true hrm, if_neg bI_n1] at hR
        obtain ⟨k3, o3, T3, E3, c1, c2, c3, c4, c5, c6, c7, c8, c9, c10⟩ := kk_ws b2 (s := s) (n := n) (k := 0 + 1) (by omega) (by omega) (fun q hq => by
          have : q = 0 := by omega
          subst this
          rw [gu_s]; omega) (by rw [pk_un (by decide), e0]) (by rw [pk_un (by decide), e1]) pk_us
        rw [c1, Option.bind_some, Nat.zero_add, nI_pred] at hR
        refine ⟨fun _ => ⟨k3, o3, _, T3, E3, hR.symm, c2, mw2.2.1.tr c3, fun q hq => ?_, c5, c6, fun q hq => gu_n (by omega), gu_s _ _ _, c7, (c8 0 (by decide)).1, ?_, c9, c10 0 (by decide)⟩, fun z => absurd ⟨hsp, by omega, by omega⟩ z⟩
        · rw [c4 q (fun y => hq (by simp at y ⊢; omega)), mw2.2.2.1 q (fun y => hq (by simp at y ⊢; omega))]
        · have this : T3 (s + 1) = nI (gu v (24 + (n + 0)) V (24 + (n + 0))) := (c8 0 (by decide)).2
          rw [this, gu_s]
      · rw [decide_eq_false hrm, if_pos bI_f] at hR
        exact ⟨fun z => absurd ⟨by omega, by omega⟩ hrm, fun _ => ⟨k2, _, _, hR.symm, mw2⟩⟩
    · rw [kk_plan0 a2 e1 (k := 0) pk_us hn (by decide) hn2 (2 + r), Option.bind_some] at hR
      exact ⟨fun z => absurd z.2.1 (by omega), fun _ => ⟨k1, _, _, hR.symm, mw1⟩⟩
  · have hsp' : spB V = false := by
      cases hz : spB V with
      | false => rfl
      | true => exact absurd hz hsp
    rw [hsp', if_pos bI_f] at hR
    exact ⟨fun z => absurd z.1 hsp, fun _ => ⟨k1, _, _, hR.symm, mw1⟩⟩
theorem kk_known (w : CW A h o v T E F) (h1 : o 1 = nI n) (hn : n ≤ 200) {N : Nat → Nat} (hN : ∀ i, i < n → v (24 + i) = N i) {r i : Nat} (hr : r < 8) (hV : v (2 + r) = V) (hln : lnOf N V n 0 = some i) : c_Maker_lineFor (A + 238) (A + (2 + r)) h = some (nI i, h) := by
  obtain ⟨fs, ho⟩ := w.o238
  have hlo := kk_lineOf w h1 hn (r := 2 + r) (isR_r hr)
  rw [hV, lnOf_cong (N := N) (fun j _ hj => hN j (by omega)), hln] at hlo
  have hlo' : c_Lines_lineOf (A + 22) (A + (2 + r)) h = some (nI i, h) := hlo
  have := lnOf_some hln
  rw [cc_Maker_lineFor _ _ _ ho, q_Maker_lineFor_0]
  simp only [g_mk1 w, Option.bind_some, hlo']
  rw [if_neg (nI_nm2 (by omega))]
  rfl
end
