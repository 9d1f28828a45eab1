/-! the lines that a maker writes are right; both write the same -/
theorem w32_n {y : Nat} (h : y < 4294967296) : w32 (nI y) = y := w32_nI h
section
variable {T T' : Nat → Int32} {c W V u a m s l : Nat} {C D Q q N : Nat → Nat}
theorem wd_lt (V i : Nat) : wd V i < 4294967296 := Nat.mod_lt _ (by decide)
theorem Wl.num (h : Wl T c W V u a m C D Q) (hu : Wc V u) (hV : 3 ≤ V) (hs : c + 2 + u ≤ s) : rdNum (tw T) s (c + 1) = .ok (V, c + 2 + u) := by
  obtain ⟨h1, h2, h3, h4, h5, h6⟩ := h
  have hu8 := hu.1
  have u1 : 1 ≤ u := by
    rcases Nat.eq_zero_or_pos u with z | z
    · have := hu.2.1
      rw [z, Nat.pow_zero] at this
      omega
    · exact z
  have e1 : tw T (c + 1) = u := by
    show w32 (T (c + 1)) = u
    rw [h2, w32_n (by omega)]
  have e2 : numv (tw T) (c + 1) = V := by
    unfold numv
    rw [e1, pv_congr (e := dgt 4294967296 V) (fun i hi => by
      show w32 (T (c + 1 + 1 + i)) = _
      rw [show c + 1 + 1 + i = c + 2 + i by omega, h3 i hi, w32_n (wd_lt V i)]
      rfl), pv_dgt, Nat.mod_eq_of_lt hu.2.1]
  have e3 : tw T (c + 1 + tw T (c + 1)) ≠ 0 := by
    rw [e1]
    show w32 (T (c + 1 + u)) ≠ 0
    rw [show c + 1 + u = c + 2 + (u - 1) by omega, h3 (u - 1) (by omega), w32_n (wd_lt V _)]
    have h7 := hu.2.2 (by omega)
    have h8 := hu.2.1
    unfold wd
    have h9 : V / 4294967296 ^ (u - 1) < 4294967296 := by
      rw [Nat.div_lt_iff_lt_mul (Nat.pow_pos (by decide)), Nat.mul_comm, ← Nat.pow_succ, show (u - 1).succ = u by omega]
      exact h8
    rw [Nat.mod_eq_of_lt h9]
    have := Nat.div_pos h7 (Nat.pow_pos (by decide))
    omega
  have := rdNum_mk (t := tw T) (s := s) (c := c + 1) (by omega) (by omega) (by omega) e3 (by omega)
  rw [this, e2, e1]
/-- what the factors of a written line are -/
def Fs (m l V X : Nat) (C D q N : Nat → Nat) : Prop :=
  m ≤ 40 ∧ l ≤ 200 ∧ 65535 < V ∧ V < B8 ∧ 0 < X ∧ pr q D m * X = V - 1 ∧ asc m q ∧ (∀ j, j < m → C j < l ∧ N (C j) = q j ∧ npP (q j) ∧ 1 ≤ D j ∧ D j ≤ 255)
theorem Wl.facs (h : Wl T c W V u a m C D Q) {X : Nat} (hW : W = 2 ∨ W = 3) (fs : Fs m l V X C D q N) (hm : 1 ≤ m) (hs : cF W c u + 1 + W * m ≤ s) : rdFacs (tw T) s N l W (cF W c u) = .ok () ∧ tw T (cF W c u) = m ∧ (∀ j, j < m → N (tw T (cF W c u + 1 + W * j)) = q j ∧ tw T (cF W c u + 1 + W * j + 1) = D j) := by
  obtain ⟨h1, h2, h3, h4, h5, h6⟩ := h
  obtain ⟨f1, f2, f3, f4, f5, f6, f7, f8⟩ := fs
  have em : tw T (cF W c u) = m := by
    show w32 (T _) = m
    rw [h5, w32_n (by omega)]
  have eC : ∀ j, j < m → tw T (cF W c u + 1 + W * j) = C j := fun j hj => by
    show w32 (T _) = C j
    rw [(h6 j hj).1, w32_n (by have := (f8 j hj).1; omega)]
  have eD : ∀ j, j < m → tw T (cF W c u + 1 + W * j + 1) = D j := fun j hj => by
    show w32 (T _) = D j
    rw [(h6 j hj).2.1, w32_n (by have := (f8 j hj).2.2.2.2; omega)]
  refine ⟨rdFacs_mk hW (by omega) (by omega) (by rw [em]; exact hs) (fun j hj => ?_), em, fun j hj => ⟨by rw [eC j hj]; exact (f8 j hj).2.1, eD j hj⟩⟩
  rw [em] at hj
  rw [eC j hj, eD j hj]
  refine ⟨(f8 j hj).1, ?_, (f8 j hj).2.2.2⟩
  rcases Nat.eq_zero_or_pos j with z | z
  · exact Or.inl z
  · refine Or.inr ?_
    rw [eC (j - 1) (by omega), (f8 (j - 1) (by omega)).2.1, (f8 j hj).2.1]
    have := f7 (j - 1) (by omega)
    rw [show j - 1 + 1 = j by omega] at this
    exact this
theorem Wl.line (h : Wl T c W V u a m C D Q) (hu : Wc V u) {X : Nat} (fs : Fs m l V X C D q N) (dat : Dat V m X q W a Q) (hs : cF W c u + 1 + W * m ≤ s) : rdLine (tw T) s N l c = .ok (V, cF W c u + 1 + W * m) := by
  have hh := h
  obtain ⟨f1, f2, f3, f4, f5, f6, f7, f8⟩ := fs
  obtain ⟨h1, h2, h3, h4, h5, h6⟩ := h
  have hu8 := hu.1
  have hcc : c + 2 + u ≤ cF W c u := by
    unfold cF
    split <;> omega
  have num := hh.num hu (by omega) (s := s) (by omega)
  have hm1 : pr q D m ≠ 1 → 1 ≤ m := fun z => by
    rcases Nat.eq_zero_or_pos m with y | y
    · subst y
      exact absurd rfl z
    · exact y
  have hprod : ∀ {cc : Nat}, (∀ j, j < m → N (tw T (cc + 1 + W * j)) = q j ∧ tw T (cc + 1 + W * j + 1) = D j) → mulF (tw T) N W cc m 0 1 = some (pr q D m) := fun {cc} hq => by
    have e1 : npM (fl (fun j => N (tw T (cc + 1 + W * j))) (fun j => tw T (cc + 1 + W * j + 1)) m 0) = pr q D m := by
      rw [pr_npM]
      exact pr_congr (fun j hj => hq j hj)
    have hle : pr q D m ≤ V - 1 := by
      rw [← f6]
      exact Nat.le_mul_of_pos_right _ f5
    have := mulF_s (t := tw T) (N := N) (w := W) (c := cc) (k := m) (f := 0) (P := 1) (fun j _ hj => by
      rw [(hq j (by omega)).1]
      have := (f8 j (by omega)).2.2.1.1
      omega) (by rw [e1, Nat.one_mul]; omega)
    rw [e1, Nat.one_mul] at this
    exact this
  rcases dat with ⟨d1, d2, d3, d4, d5, d6⟩ | ⟨d1, d2, d3, d4⟩
  · subst d2
    have eV : pr q D m = V - 1 := by rw [d1, Nat.mul_one] at f6; exact f6
    have hm : 1 ≤ m := hm1 (by omega)
    have ecF : cF 2 c u = c + 2 + u + 1 := by unfold cF; rw [if_pos rfl]
    obtain ⟨r1, r2, r3⟩ := hh.facs (s := s) (Or.inl rfl) ⟨f1, f2, f3, f4, f5, f6, f7, f8⟩ hm hs
    rw [ecF] at r1 r2 r3 hs ⊢
    have ea : tw T (c + 2 + u) = a := by
      show w32 (T _) = a
      rw [h4 rfl, w32_n (by omega)]
    have et : tw T c = 2 := by
      show w32 (T c) = 2
      rw [h1, w32_n (by decide)]
    have ts : ts2 (tw T) N V (c + 2 + u) = .ok () := by
      unfold ts2
      rw [r2, hprod r3, if_pos (by rw [eV]), ea, if_pos (show a ^ (V - 1) % V = 1 from d5.1)]
      exact tRoot_mk (fun j _ hj => by rw [(r3 j (by omega)).1]; exact d5.2 j (by omega))
    have main := rd2_mk num (by omega) (by rw [ea]; exact ⟨d3, by omega, by omega⟩) r1 ts
    unfold rdLine
    rw [if_neg (by omega), if_pos et, main, r2]
  · subst d2
    have hP : (V - 1) / X = pr q D m := by
      rw [← f6]
      exact Nat.mul_div_cancel _ f5
    rw [hP] at d3
    have hm : 1 ≤ m := hm1 (fun z => by rw [z] at d3; omega)
    have ecF : cF 3 c u = c + 2 + u := by unfold cF; rw [if_neg (by decide)]
    obtain ⟨r1, r2, r3⟩ := hh.facs (s := s) (Or.inr rfl) ⟨f1, f2, f3, f4, f5, f6, f7, f8⟩ hm hs
    rw [ecF] at r1 r2 r3 hs h6 ⊢
    have et : tw T c = 3 := by
      show w32 (T c) = 3
      rw [h1, w32_n (by decide)]
    have eQ : ∀ j, j < m → tw T (c + 2 + u + 1 + 3 * j + 2) = Q j := fun j hj => by
      show w32 (T _) = Q j
      rw [(h6 j hj).2.2 rfl, w32_n (by have := (d4 j hj).2.1; omega)]
    have ts : ts3 (tw T) N V (c + 2 + u) = .ok () := by
      unfold ts3
      rw [r2, hprod r3]
      dsimp only
      rw [if_pos (by rw [← f6]; exact Nat.mul_mod_right _ _), if_pos d3, tWit_mk (fun j _ hj => by
        rw [eQ j (by omega)]
        obtain ⟨y1, y2, -⟩ := d4 j (by omega)
        exact ⟨y1, by omega, by omega⟩)]
      dsimp only
      exact tPart_mk (fun j _ hj => by
        rw [eQ j (by omega), (r3 j (by omega)).1]
        exact ⟨(d4 j (by omega)).2.2.1.1, (d4 j (by omega)).2.2.1.2⟩)
    have main := rd3_mk num r1 ts
    unfold rdLine
    rw [if_neg (by omega), if_neg (by omega), if_pos et, main, r2]
/-- two tapes with the same line -/
theorem Wl.same {C' D' Q' : Nat → Nat} {a' : Nat} (h : Wl T c W V u a m C D Q) (h' : Wl T' c W V u a' m C' D' Q') (hW : W = 2 ∨ W = 3) (hC : ∀ j, j < m → C' j = C j ∧ D' j = D j) (ha : W = 2 → a' = a) (hQ : W = 3 → ∀ j, j < m → Q' j = Q j) : ∀ i, c ≤ i → i < cF W c u + 1 + W * m → T' i = T i := by
  obtain ⟨h1, h2, h3, h4, h5, h6⟩ := h
  obtain ⟨k1, k2, k3, k4, k5, k6⟩ := h'
  intro i i1 i2
  by_cases e0 : i = c
  · rw [e0, h1, k1]
  by_cases e1 : i = c + 1
  · rw [e1, h2, k2]
  by_cases e2 : i < c + 2 + u
  · rw [show i = c + 2 + (i - c - 2) by omega, h3 _ (by omega), k3 _ (by omega)]
  by_cases e3 : i < cF W c u
  · have eW : W = 2 := by
      rcases hW with z | z
      · exact z
      · unfold cF at e3
        rw [if_neg (by omega)] at e3
        omega
    have : i = c + 2 + u := by
      unfold cF at e3
      rw [if_pos eW] at e3
      omega
    rw [this, h4 eW, k4 eW, ha eW]
  by_cases e4 : i = cF W c u
  · rw [e4, h5, k5]
  · have hj : (i - cF W c u - 1) / W < m := by
      rcases hW with z | z <;> subst z <;> omega
    obtain ⟨a1, a2, a3⟩ := h6 _ hj
    obtain ⟨b1, b2, b3⟩ := k6 _ hj
    obtain ⟨c1, c2⟩ := hC _ hj
    rcases (show i = cF W c u + 1 + W * ((i - cF W c u - 1) / W) ∨ i = cF W c u + 1 + W * ((i - cF W c u - 1) / W) + 1 ∨ (W = 3 ∧ i = cF W c u + 1 + W * ((i - cF W c u - 1) / W) + 2) by rcases hW with z | z <;> subst z <;> omega) with z | z | ⟨z1, z2⟩
    · rw [z, a1, b1, c1]
    · rw [z, a2, b2, c2]
    · rw [z2, a3 z1, b3 z1, hQ z1 _ hj]
end
section
variable {n V s u : Nat} {N : Nat → Nat} {T T' Tr Tr' : Nat → Int32} {C D Q C' D' Q' : Nat → Nat} {W a W' a' : Nat}
theorem Big.fs (hV : 65535 < V) (hB : V < B8) (hp : ∀ i, i < n → npP (N i)) (b : Big n V N s u T T' C D W a Q) (hm : mM n V N ≤ 40) (hl : n + mK n V N ≤ 200) {N' : Nat → Nat} (hN' : ∀ i, i < n + mK n V N → N' i = mN n V N i) : Fs (mM n V N) (n + mK n V N) V (mX n V N) C D (fun j => mN n V N (C j)) N' := by
  obtain ⟨tab, dat, -⟩ := b
  have ent := tab.ent (by omega) hB hp
  obtain ⟨x1, x2⟩ := tab.X (by omega) hB hp
  exact ⟨hm, hl, hV, hB, x1, tab.2.2, tab.2.1, fun j hj => ⟨(ent j hj).1, hN' _ (ent j hj).1, (ent j hj).2⟩⟩
theorem Big.WX (b : Big n V N s u T T' C D W a Q) : (mX n V N = 1 ∧ W = 2) ∨ (mX n V N ≠ 1 ∧ W = 3) := by
  rcases b.2.1 with ⟨d1, d2, -⟩ | ⟨d1, d2, -⟩
  · exact Or.inl ⟨d1, d2⟩
  · exact Or.inr ⟨d1, d2⟩
theorem Big.same (hV : 65535 < V) (hB : V < B8) (hp : ∀ i, i < n → npP (N i)) (b : Big n V N s u T T' C D W a Q) (b' : Big n V N s u Tr Tr' C' D' W' a' Q') (ht : ∀ i, i < s → Tr i = T i) : ∀ i, i < s + 2 * mK n V N + lnl (mX n V N) u (mM n V N) → Tr' i = T' i := by
  have wx := b.WX
  have wx' := b'.WX
  obtain ⟨tab, dat, c1, c2, c3⟩ := b
  obtain ⟨tab', dat', c1', c2', c3'⟩ := b'
  have eW : W' = W := by omega
  subst eW
  have hW : W' = 2 ∨ W' = 3 := by omega
  obtain ⟨i1, i2, i3, i4, i5, i6, i7, i8, i9⟩ := mR_inv (n := n) (V := V) (N := N) (by omega) hB hp
  have hC := Pm.uniq tab.1 tab'.1 tab.2.1 tab'.2.1 i6.2.2.2.2.2
  have hq : ∀ j, j < mM n V N → mN n V N (C' j) = mN n V N (C j) := fun j hj => by rw [(hC j hj).1]
  have rt : ∀ z, Rt V (mM n V N) (fun j => mN n V N (C' j)) z ↔ Rt V (mM n V N) (fun j => mN n V N (C j)) z := fun z => ⟨fun r => ⟨r.1, fun j hj => by have := r.2 j hj; dsimp only at this ⊢; rw [hq j hj] at this; exact this⟩, fun r => ⟨r.1, fun j hj => by have := r.2 j hj; dsimp only at this ⊢; rw [hq j hj]; exact this⟩⟩
  have ea : W' = 2 → a' = a := fun e => by
    rcases dat with ⟨d1, d2, d3, d4, d5, d6⟩ | ⟨d1, d2, d3, d4⟩
    · rcases dat' with ⟨f1, f2, f3, f4, f5, f6⟩ | ⟨f1, f2, f3, f4⟩
      · rcases Nat.lt_trichotomy a a' with z | z | z
        · exact absurd ((rt a).mpr d5) (f6 a d3 z)
        · exact z.symm
        · exact absurd ((rt a').mp f5) (d6 a' f3 z)
      · omega
    · omega
  have eQ : W' = 3 → ∀ j, j < mM n V N → Q' j = Q j := fun e j hj => by
    rcases dat with ⟨d1, d2, d3, d4, d5, d6⟩ | ⟨d1, d2, d3, d4⟩
    · omega
    · rcases dat' with ⟨f1, f2, f3, f4, f5, f6⟩ | ⟨f1, f2, f3, f4⟩
      · omega
      · obtain ⟨y1, y2, y3, y4⟩ := d4 j hj
        obtain ⟨z1, z2, z3, z4⟩ := f4 j hj
        have e1 := hq j hj
        dsimp only at y3 y4 z3 z4
        rw [e1] at z3 z4
        rcases Nat.lt_trichotomy (Q j) (Q' j) with x | x | x
        · exact absurd y3 (z4 _ y1 x)
        · exact x.symm
        · exact absurd z3 (y4 _ z1 x)
  have elen := lnl_W (u := u) (m := mM n V N) (c := s + 2 * mK n V N) wx
  intro i hi
  by_cases h1 : i < s
  · rw [c1' i h1, c1 i h1, ht i h1]
  by_cases h2 : i < s + 2 * mK n V N
  · have hq2 : (i - s) / 2 < mK n V N := by omega
    obtain ⟨y1, y2⟩ := c2 _ hq2
    obtain ⟨z1, z2⟩ := c2' _ hq2
    rcases (show i = s + 2 * ((i - s) / 2) ∨ i = s + 2 * ((i - s) / 2) + 1 by omega) with x | x
    · rw [x, y1, z1]
    · rw [x, y2, z2]
  · exact c3.same c3' hW (fun j hj => ⟨(hC j hj).1.symm, (hC j hj).2.symm⟩) ea eQ i (by omega) (by rw [elen]; exact hi)
theorem sm_line {t M : Nat → Nat} {s' l c p : Nat} (h1 : t c = 1) (h2 : t (c + 1) = p) (hp : npP p) (hl : p ≤ 65535) (hs : c + 2 ≤ s') : rdLine t s' M l c = .ok (p, c + 2) := by
  unfold rdLine
  rw [if_pos h1]
  unfold rdSm
  rw [if_pos (by omega), h2, if_pos ⟨hl, spB_t.mpr hp⟩]
theorem Big.right (hV : 65535 < V) (hB : V < B8) (hu : Wc V u) (hn : n + mK n V N + 1 ≤ 200) (hm : mM n V N ≤ 40) {E E' : Nat → Int32} (hR : Right (tw T) s (tw E) N n) (hst : stt (tw E) n = s) (b : Big n V N s u T T' C D W a Q) {N' : Nat → Nat} (hN' : ∀ i, i < n + mK n V N → N' i = mN n V N i) (hNV : N' (n + mK n V N) = V)
    (hs4 : s + 2 * mK n V N + lnl (mX n V N) u (mM n V N) ≤ 4000) (hE : ∀ j, j < n → E' j = E j) (hE2 : ∀ q, q < mK n V N → E' (n + q) = nI (s + 2 * q + 2)) (hE3 : E' (n + mK n V N) = nI (s + 2 * mK n V N + lnl (mX n V N) u (mM n V N))) :
    Right (tw T') (s + 2 * mK n V N + lnl (mX n V N) u (mM n V N)) (tw E') N' (n + mK n V N + 1) := by
  have hp := hR.prime
  have fs := b.fs hV hB hp hm (by omega) hN'
  have wx := b.WX
  have elen := lnl_W (u := u) (m := mM n V N) (c := s + 2 * mK n V N) wx
  obtain ⟨i1, i2, i3, i4, i5, i6, i7, i8, i9⟩ := mR_inv (n := n) (V := V) (N := N) (by omega) hB hp
  obtain ⟨tab, dat, c1, c2, c3⟩ := b
  have R0 : Right (tw T') (s + 2 * mK n V N + lnl (mX n V N) u (mM n V N)) (tw E') N' n := hR.loc (Nat.le_refl _) (fun i hi => by show w32 (E' i) = w32 (E i); rw [hE i hi]) (fun i hi => by rw [hN' i (by omega), i5 i hi]) (fun i hi => by
    rw [hst] at hi
    show w32 (T' i) = w32 (T i)
    rw [c1 i hi]) (by rw [hst]; omega)
  have st2 : ∀ q, q ≤ mK n V N → stt (tw E') (n + q) = s + 2 * q := fun q hq => by
    rcases Nat.eq_zero_or_pos q with z | z
    · subst z
      rw [Nat.add_zero, Nat.mul_zero, Nat.add_zero, ← hst]
      rcases Nat.eq_zero_or_pos n with y | y
      · subst y; rfl
      · obtain ⟨n', rfl⟩ : ∃ n', n = n' + 1 := ⟨n - 1, by omega⟩
        rw [stt_s, stt_s]
        show w32 (E' n') = w32 (E n')
        rw [hE n' (by omega)]
    · obtain ⟨q', rfl⟩ : ∃ q', q = q' + 1 := ⟨q - 1, by omega⟩
      rw [← Nat.add_assoc, stt_s]
      show w32 (E' (n + q')) = _
      rw [hE2 q' (by omega), w32_n (by omega)]
      omega
  intro i hi
  by_cases h1 : i < n
  · exact R0 i h1
  by_cases h2 : i < n + mK n V N
  · obtain ⟨q, rfl⟩ : ∃ q, i = n + q := ⟨i - n, by omega⟩
    obtain ⟨y1, y2⟩ := c2 q (by omega)
    have hq := i4 (n + q) (by omega) h2
    have eE : tw E' (n + q) = s + 2 * q + 2 := by
      show w32 (E' (n + q)) = _
      rw [hE2 q (by omega), w32_n (by omega)]
    rw [st2 q (by omega), hN' _ h2, eE]
    refine sm_line ?_ ?_ (i6.2.2.2.2.1 _ h2) (by omega) (by omega)
    · show w32 (T' _) = 1
      rw [y1, w32_n (by decide)]
    · show w32 (T' _) = _
      rw [y2, w32_n (by omega)]
  · have ei : i = n + mK n V N := by omega
    subst ei
    have eE : tw E' (n + mK n V N) = s + 2 * mK n V N + lnl (mX n V N) u (mM n V N) := by
      show w32 (E' _) = _
      rw [hE3, w32_n (by omega)]
    rw [st2 _ (Nat.le_refl _), hNV, eE, ← elen]
    exact c3.line hu fs dat (Nat.le_refl _)
theorem small_right (hsp : npP V) (hsm : V ≤ 65535) (hn : n + 1 ≤ 200) (hs : s + 2 ≤ 4000) {E E' : Nat → Int32} (hR : Right (tw T) s (tw E) N n) (hst : stt (tw E) n = s) {N' : Nat → Nat} (hN' : ∀ i, i < n → N' i = N i) (hNV : N' n = V) (hT : ∀ j, j < s → T' j = T j) (h1 : T' s = nI 1) (h2 : T' (s + 1) = nI V) (hE : ∀ j, j < n → E' j = E j) (hE2 : E' n = nI (s + 2)) :
    Right (tw T') (s + 2) (tw E') N' (n + 1) := by
  have R0 : Right (tw T') (s + 2) (tw E') N' n := hR.loc (Nat.le_refl _) (fun i hi => by show w32 (E' i) = w32 (E i); rw [hE i hi]) hN' (fun i hi => by
    rw [hst] at hi
    show w32 (T' i) = w32 (T i)
    rw [hT i hi]) (by rw [hst]; omega)
  have st2 : stt (tw E') n = s := by
    rw [← hst]
    rcases Nat.eq_zero_or_pos n with y | y
    · subst y; rfl
    · obtain ⟨n', rfl⟩ : ∃ n', n = n' + 1 := ⟨n - 1, by omega⟩
      rw [stt_s, stt_s]
      show w32 (E' n') = w32 (E n')
      rw [hE n' (by omega)]
  intro i hi
  by_cases h3 : i < n
  · exact R0 i h3
  · have ei : i = n := by omega
    subst ei
    have eE : tw E' i = s + 2 := by
      show w32 (E' i) = _
      rw [hE2, w32_n (by omega)]
    rw [st2, hNV, eE]
    refine sm_line ?_ ?_ hsp hsm (by omega)
    · show w32 (T' s) = 1
      rw [h1, w32_n (by decide)]
    · show w32 (T' (s + 1)) = V
      rw [h2, w32_n (by omega)]
end
