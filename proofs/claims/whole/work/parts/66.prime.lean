/-! a right line tells a prime -/
def fl (q e : Nat → Nat) : Nat → Nat → List (Nat × Nat)
  | 0, _ => []
  | k + 1, f => (q f, e f) :: fl q e k (f + 1)
theorem fl_mem {q e : Nat → Nat} : ∀ {k f : Nat} {x : Nat × Nat}, x ∈ fl q e k f → ∃ j, f ≤ j ∧ j < f + k ∧ x = (q j, e j)
  | 0, f, x, h => by cases h
  | k + 1, f, x, h => by
    unfold fl at h
    rcases List.mem_cons.mp h with h | h
    · exact ⟨f, by omega, by omega, h⟩
    · obtain ⟨j, h1, h2, h3⟩ := fl_mem h
      exact ⟨j, by omega, by omega, h3⟩
theorem fl_up {q e : Nat → Nat} : ∀ {k f : Nat}, (∀ j, f ≤ j → j < f + k → npP (q j)) → (∀ j, f < j → j < f + k → q (j - 1) < q j) → npUp (fl q e k f)
  | 0, f, _, _ => trivial
  | k + 1, f, h1, h2 => by
    refine ⟨h1 f (by omega) (by omega), fun x hx => ?_, fl_up (fun j a b => h1 j (by omega) (by omega)) (fun j a b => h2 j (by omega) (by omega))⟩
    obtain ⟨j, a1, a2, a3⟩ := fl_mem hx
    rw [a3]
    show q f < q j
    have : ∀ i, f + 1 + i < f + (k + 1) → q f < q (f + 1 + i) := by
      intro i
      induction i with
      | zero => intro hi; exact h2 (f + 1) (by omega) hi
      | succ n ih =>
        intro hi
        have := h2 (f + 1 + (n + 1)) (by omega) hi
        rw [show f + 1 + (n + 1) - 1 = f + 1 + n by omega] at this
        exact Nat.lt_trans (ih (by omega)) this
    have h3 := this (j - (f + 1)) (by omega)
    rwa [show f + 1 + (j - (f + 1)) = j by omega] at h3
theorem one_mod {V : Nat} (h : 2 ≤ V) : 1 % V = 1 := Nat.mod_eq_of_lt (by omega)
theorem lucas_fl {q e : Nat → Nat} {V a m : Nat} (hV : 3 ≤ V) (hq : ∀ j, j < m → npP (q j)) (hP : npM (fl q e m 0) = V - 1) (hc : a ^ (V - 1) % V = 1) (hr : ∀ j, j < m → pwq a (q j) V ≠ 1) : npP V := by
  refine np_lucas (a := a) (by omega) (by rw [hc, one_mod (by omega)]) (fun p hp hd => ?_)
  rw [one_mod (by omega)]
  rw [← hP] at hd
  obtain ⟨x, hx, hxp⟩ := npM_prime hp (fun y hy => by
    obtain ⟨j, a1, a2, a3⟩ := fl_mem hy
    rw [a3]
    exact hq j (by omega)) hd
  obtain ⟨j, a1, a2, a3⟩ := fl_mem hx
  rw [a3] at hxp
  have := hr j (by omega)
  unfold pwq at this
  rw [show q j = p from hxp] at this
  exact this
theorem pev_d {a q V : Nat} (hV : 3 ≤ V) (h : pev a q V) : ∀ d, d ∣ V → a ^ ((V - 1) / q) % d = 1 % d → d = 1 := by
  intro d hd h1
  unfold pev pvn at h
  have h2 : pwq a q V % d = 1 % d := by
    unfold pwq
    rw [Nat.mod_mod_of_dvd _ hd]
    exact h1
  by_cases h0 : pwq a q V = 0
  · rw [h0, Nat.zero_mod] at h2
    rcases Nat.lt_or_ge 1 d with h3 | h3
    · rw [Nat.mod_eq_of_lt h3] at h2
      omega
    · have : 0 < d := Nat.pos_of_dvd_of_pos hd (by omega)
      omega
  · rw [if_neg h0] at h
    have h3 : d ∣ pwq a q V - 1 := np_dvd_of_mod h2
    have h4 := Nat.dvd_gcd h3 hd
    rw [h] at h4
    exact Nat.dvd_one.mp h4
theorem pock_fl {q e : Nat → Nat} {V m : Nat} (hV : 3 ≤ V) (hq : ∀ j, j < m → npP (q j)) (hup : ∀ j, 0 < j → j < m → q (j - 1) < q j) (he : ∀ j, j < m → 1 ≤ e j) (hd : npM (fl q e m 0) ∣ V - 1) (h2 : V < npM (fl q e m 0) * npM (fl q e m 0)) (hw : ∀ j, j < m → ∃ a, a ^ (V - 1) % V = 1 ∧ pev a (q j) V) : npP V := by
  refine np_pock (by omega) (fl_up (fun j _ hj => hq j (by omega)) (fun j h1 h2 => hup j h1 (by omega))) (fun x hx => ?_) hd h2 (fun x hx => ?_)
  · obtain ⟨j, a1, a2, a3⟩ := fl_mem hx
    rw [a3]
    exact he j (by omega)
  · obtain ⟨j, a1, a2, a3⟩ := fl_mem hx
    obtain ⟨a, b1, b2⟩ := hw j (by omega)
    rw [a3]
    exact ⟨a, by rw [b1, one_mod (by omega)], pev_d hV b2⟩
theorem mulE_v {q : Nat} : ∀ {e P P' : Nat}, mulE q e P = some P' → P' = P * q ^ e
  | 0, P, P', h => by
    cases h
    rw [Nat.pow_zero, Nat.mul_one]
  | e + 1, P, P', h => by
    unfold mulE at h
    split at h
    · rw [mulE_v h, Nat.pow_succ, Nat.mul_comm (q ^ e) q, Nat.mul_assoc]
    · cases h
theorem mulE_s {q : Nat} (hq : 1 ≤ q) : ∀ {e P : Nat}, P * q ^ e < B8 → mulE q e P = some (P * q ^ e)
  | 0, P, h => by
    rw [Nat.pow_zero, Nat.mul_one]
    rfl
  | e + 1, P, h => by
    unfold mulE
    have h1 : P * q ^ (e + 1) = P * q * q ^ e := by rw [Nat.pow_succ, Nat.mul_comm (q ^ e) q, Nat.mul_assoc]
    have h2 : 1 ≤ q ^ e := Nat.one_le_pow _ _ hq
    have h3 : P * q * 1 ≤ P * q * q ^ e := Nat.mul_le_mul_left _ h2
    rw [if_pos (by omega), mulE_s hq (by omega), h1]
theorem mulF_v {t N : Nat → Nat} {w c : Nat} : ∀ {k f P P' : Nat}, mulF t N w c k f P = some P' → P' = P * npM (fl (fun j => N (t (c + 1 + w * j))) (fun j => t (c + 1 + w * j + 1)) k f)
  | 0, f, P, P', h => by
    cases h
    show P = P * 1
    rw [Nat.mul_one]
  | k + 1, f, P, P', h => by
    unfold mulF at h
    split at h
    · rename_i Q hQ
      rw [mulF_v h, mulE_v hQ, Nat.mul_assoc]
      rfl
    · cases h
theorem npM_pos {q e : Nat → Nat} : ∀ {k f : Nat}, (∀ j, f ≤ j → j < f + k → 1 ≤ q j) → 1 ≤ npM (fl q e k f)
  | 0, f, _ => Nat.le_refl _
  | k + 1, f, h => by
    have h1 : 1 ≤ q f ^ e f := Nat.one_le_pow _ _ (h f (by omega) (by omega))
    have h2 := npM_pos (q := q) (e := e) (k := k) (f := f + 1) (fun j a b => h j (by omega) (by omega))
    exact Nat.mul_le_mul h1 h2
theorem mulF_s {t N : Nat → Nat} {w c : Nat} : ∀ {k f P : Nat}, (∀ j, f ≤ j → j < f + k → 1 ≤ N (t (c + 1 + w * j))) → P * npM (fl (fun j => N (t (c + 1 + w * j))) (fun j => t (c + 1 + w * j + 1)) k f) < B8 → mulF t N w c k f P = some (P * npM (fl (fun j => N (t (c + 1 + w * j))) (fun j => t (c + 1 + w * j + 1)) k f))
  | 0, f, P, _, h => by
    show some P = some (P * 1)
    rw [Nat.mul_one]
  | k + 1, f, P, hN, h => by
    have h1 : P * npM (fl (fun j => N (t (c + 1 + w * j))) (fun j => t (c + 1 + w * j + 1)) (k + 1) f) = P * N (t (c + 1 + w * f)) ^ t (c + 1 + w * f + 1) * npM (fl (fun j => N (t (c + 1 + w * j))) (fun j => t (c + 1 + w * j + 1)) k (f + 1)) := (Nat.mul_assoc _ _ _).symm
    rw [h1] at h ⊢
    have h2 := npM_pos (q := fun j => N (t (c + 1 + w * j))) (e := fun j => t (c + 1 + w * j + 1)) (k := k) (f := f + 1) (fun j a b => hN j (by omega) (by omega))
    have h3 : P * N (t (c + 1 + w * f)) ^ t (c + 1 + w * f + 1) * 1 ≤ P * N (t (c + 1 + w * f)) ^ t (c + 1 + w * f + 1) * npM (fl (fun j => N (t (c + 1 + w * j))) (fun j => t (c + 1 + w * j + 1)) k (f + 1)) := Nat.mul_le_mul_left _ h2
    unfold mulF
    rw [mulE_s (hN f (by omega) (by omega)) (by omega)]
    dsimp only
    exact mulF_s (fun j a b => hN j (by omega) (by omega)) h
theorem tRoot_ok {t N : Nat → Nat} {V a c : Nat} : ∀ {k f : Nat}, tRoot t N V a c k f = .ok () → ∀ j, f ≤ j → j < f + k → pwq a (N (t (c + 1 + 2 * j))) V ≠ 1
  | 0, f, _, j, h1, h2 => by omega
  | k + 1, f, h, j, h1, h2 => by
    unfold tRoot at h
    split at h
    · cases h
    · rename_i h3
      by_cases e : j = f
      · subst e; exact h3
      · exact tRoot_ok h j (by omega) (by omega)
theorem tRoot_mk {t N : Nat → Nat} {V a c : Nat} : ∀ {k f : Nat}, (∀ j, f ≤ j → j < f + k → pwq a (N (t (c + 1 + 2 * j))) V ≠ 1) → tRoot t N V a c k f = .ok ()
  | 0, f, _ => rfl
  | k + 1, f, h => by
    unfold tRoot
    rw [if_neg (h f (by omega) (by omega))]
    exact tRoot_mk (fun j a b => h j (by omega) (by omega))
theorem tWit_mk {t : Nat → Nat} {V c : Nat} : ∀ {k f : Nat}, (∀ j, f ≤ j → j < f + k → isWit (t (c + 1 + 3 * j + 2)) V) → tWit t V c k f = .ok ()
  | 0, f, _ => rfl
  | k + 1, f, h => by
    unfold tWit
    rw [if_pos (h f (by omega) (by omega))]
    exact tWit_mk (fun j a b => h j (by omega) (by omega))
theorem tPart_ok {t N : Nat → Nat} {V c : Nat} : ∀ {k f : Nat}, tPart t N V c k f = .ok () → ∀ j, f ≤ j → j < f + k → t (c + 1 + 3 * j + 2) ^ (V - 1) % V = 1 ∧ pev (t (c + 1 + 3 * j + 2)) (N (t (c + 1 + 3 * j))) V
  | 0, f, _, j, h1, h2 => by omega
  | k + 1, f, h, j, h1, h2 => by
    unfold tPart at h
    split at h
    · split at h
      · rename_i h3 h4
        by_cases e : j = f
        · subst e; exact ⟨h3, h4⟩
        · exact tPart_ok h j (by omega) (by omega)
      · cases h
    · cases h
theorem tPart_mk {t N : Nat → Nat} {V c : Nat} : ∀ {k f : Nat}, (∀ j, f ≤ j → j < f + k → t (c + 1 + 3 * j + 2) ^ (V - 1) % V = 1 ∧ pev (t (c + 1 + 3 * j + 2)) (N (t (c + 1 + 3 * j))) V) → tPart t N V c k f = .ok ()
  | 0, f, _ => rfl
  | k + 1, f, h => by
    obtain ⟨h1, h2⟩ := h f (by omega) (by omega)
    unfold pev at h2
    unfold tPart
    rw [if_pos h1, if_pos h2]
    exact tPart_mk (fun j a b => h j (by omega) (by omega))
theorem ts3_ok {t N : Nat → Nat} {V c : Nat} (h : ts3 t N V c = .ok ()) : ∃ P, mulF t N 3 c (t c) 0 1 = some P ∧ (V - 1) % P = 0 ∧ V < P * P ∧ tPart t N V c (t c) 0 = .ok () := by
  unfold ts3 at h
  split at h
  · cases h
  · rename_i P hP
    split at h
    · split at h
      · split at h
        · cases h
        · rename_i h1 h2 _ _ _
          exact ⟨P, hP, h1, h2, h⟩
      · cases h
    · cases h
theorem prime_line {t : Nat → Nat} {s : Nat} {N : Nat → Nat} {l c V e : Nat} (hN : ∀ i, i < l → npP (N i)) (h : rdLine t s N l c = .ok (V, e)) : npP V := by
  unfold rdLine at h
  split at h
  · obtain ⟨a1, a2, a3, a4, a5⟩ := rdSm_ok h
    rw [a4]
    exact a3
  · split at h
    · obtain ⟨c1, b1, b2, b3, b4, b5, b6⟩ := rd2_ok h
      obtain ⟨d1, d2, d3, d4, d5, d6, d7, d8⟩ := rdNum_ok b1
      obtain ⟨f1, f2, f3, f4⟩ := rdFacs_ok (Or.inl rfl) b4
      unfold ts2 at b5
      split at b5
      · split at b5
        · rename_i k1 k2
          have k3 := mulF_v k1
          rw [Nat.one_mul] at k3
          have k4 := tRoot_ok b5
          exact lucas_fl (by omega) (fun j hj => hN _ (f4 j hj).1) k3.symm k2 (fun j hj => k4 j (by omega) (by omega))
        · cases b5
      · cases b5
    · split at h
      · obtain ⟨c1, b1, b4, b5, b6⟩ := rd3_ok h
        obtain ⟨d1, d2, d3, d4, d5, d6, d7, d8⟩ := rdNum_ok b1
        obtain ⟨f1, f2, f3, f4⟩ := rdFacs_ok (Or.inr rfl) b4
        obtain ⟨P, p1, p2, p3, p4⟩ := ts3_ok b5
        have k3 := mulF_v p1
        rw [Nat.one_mul] at k3
        have k4 := tPart_ok p4
        refine pock_fl (q := fun j => N (t (c1 + 1 + 3 * j))) (e := fun j => t (c1 + 1 + 3 * j + 1)) (m := t c1) (by omega) (fun j hj => hN _ (f4 j hj).1) (fun j h1 h2 => ?_) (fun j hj => (f4 j hj).2.2.1) ?_ ?_ (fun j hj => ⟨_, k4 j (by omega) (by omega)⟩)
        · rcases (f4 j h2).2.1 with z | z
          · omega
          · exact z
        · rw [← k3]
          exact Nat.dvd_of_mod_eq_zero p2
        · rw [← k3]
          exact p3
      · cases h
/-- where line i begins -/
def stt (E : Nat → Nat) (i : Nat) : Nat := if i = 0 then 0 else E (i - 1)
theorem stt_0 (E : Nat → Nat) : stt E 0 = 0 := rfl
theorem stt_s (E : Nat → Nat) (i : Nat) : stt E (i + 1) = E i := if_neg (by omega)
/-- the first n lines are right -/
def Right (t : Nat → Nat) (s : Nat) (E N : Nat → Nat) (n : Nat) : Prop := ∀ i, i < n → rdLine t s N i (stt E i) = .ok (N i, E i)
theorem Right.prime {t : Nat → Nat} {s : Nat} {E N : Nat → Nat} {n : Nat} (h : Right t s E N n) : ∀ i, i < n → npP (N i) := by
  intro i
  induction i using Nat.strongRecOn with
  | ind i ih => exact fun hi => prime_line (fun j hj => ih j hj (by omega)) (h i hi)
theorem Right.step {t : Nat → Nat} {s : Nat} {E N : Nat → Nat} {n : Nat} (h : Right t s E N n) {i : Nat} (hi : i < n) : stt E i < E i ∧ E i ≤ s := by
  obtain ⟨h1, h2, -⟩ := rdLine_loc (t' := t) (s' := E i) (N' := N) (h i hi) (fun _ _ => rfl) (Nat.le_refl _) (fun _ _ => rfl)
  exact ⟨h1, h2⟩
theorem Right.le {t : Nat → Nat} {s : Nat} {E N : Nat → Nat} {n : Nat} (h : Right t s E N n) {i j : Nat} (hij : i ≤ j) (hj : j < n) : E i ≤ E j := by
  obtain ⟨d, hd⟩ := Nat.le.dest hij
  subst hd
  induction d with
  | zero => exact Nat.le_refl _
  | succ d ih =>
    have h1 := ih (by omega) (by omega)
    have h2 := (h.step hj).1
    rw [← Nat.add_assoc, stt_s] at h2
    rw [← Nat.add_assoc]
    omega
theorem Right.loc {t t' : Nat → Nat} {s s' : Nat} {E E' N N' : Nat → Nat} {n n' : Nat} (h : Right t s E N n) (hn : n' ≤ n) (hE : ∀ i, i < n' → E' i = E i) (hN : ∀ i, i < n' → N' i = N i) (ht : ∀ i, i < stt E n' → t' i = t i) (hs : stt E n' ≤ s') : Right t' s' E' N' n' := by
  intro i hi
  have h1 : E i ≤ stt E n' := by
    obtain ⟨k, hk⟩ : ∃ k, n' = k + 1 := ⟨n' - 1, by omega⟩
    rw [hk, stt_s]
    exact h.le (by omega) (by omega)
  have h2 : stt E' i = stt E i := by
    unfold stt
    by_cases e : i = 0
    · rw [if_pos e, if_pos e]
    · rw [if_neg e, if_neg e, hE _ (by omega)]
  rw [h2, hE i hi, hN i hi]
  exact (rdLine_loc (h i (by omega)) (fun j hj => ht j (by omega)) (by omega) (fun j hj => hN j (by omega))).2.2
theorem Right.push {t : Nat → Nat} {s : Nat} {E N : Nat → Nat} {n : Nat} (h : Right t s E N n) {V e : Nat} (hl : rdLine t s N n (stt E n) = .ok (V, e)) : Right t s (gu E n e) (gu N n V) (n + 1) := by
  have h1 : Right t s (gu E n e) (gu N n V) n := by
    refine h.loc (Nat.le_refl _) (fun i hi => gu_n (by omega)) (fun i hi => gu_n (by omega)) (fun _ _ => rfl) ?_
    have := (rdLine_loc (t' := t) (s' := e) (N' := N) hl (fun _ _ => rfl) (Nat.le_refl _) (fun _ _ => rfl))
    omega
  intro i hi
  by_cases e1 : i = n
  · subst e1
    rw [gu_s, gu_s]
    have h2 : stt (gu E i e) i = stt E i := by
      unfold stt
      by_cases e : i = 0
      · rw [if_pos e, if_pos e]
      · rw [if_neg e, if_neg e, gu_n (by omega)]
    rw [h2]
    have h3 := rdLine_loc (t' := t) (s' := s) (N' := gu N i V) hl (fun _ _ => rfl) (by
      have := (rdLine_loc (t' := t) (s' := e) (N' := N) hl (fun _ _ => rfl) (Nat.le_refl _) (fun _ _ => rfl))
      omega) (fun j hj => gu_n (by omega))
    exact h3.2.2
  · exact h1 i (by omega)
