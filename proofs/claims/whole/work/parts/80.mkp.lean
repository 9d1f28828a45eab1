/-! the makers: what both find, without a machine -/
/-- how often p goes into x, at most k times, and what is left -/
def mlt (p : Nat) : Nat → Nat → Nat × Nat
  | 0, x => (0, x)
  | k + 1, x => if x % p = 0 then ((mlt p k (x / p)).1 + 1, (mlt p k (x / p)).2) else (0, x)
theorem mlt_y {p k x : Nat} (h : x % p = 0) : mlt p (k + 1) x = ((mlt p k (x / p)).1 + 1, (mlt p k (x / p)).2) := by
  rw [mlt, if_pos h]
theorem mlt_n {p k x : Nat} (h : ¬ x % p = 0) : mlt p (k + 1) x = (0, x) := by
  rw [mlt, if_neg h]
theorem mlt_eq {p : Nat} : ∀ (k x : Nat), p ^ (mlt p k x).1 * (mlt p k x).2 = x
  | 0, x => by
    show p ^ 0 * x = x
    rw [Nat.pow_zero, Nat.one_mul]
  | k + 1, x => by
    by_cases h : x % p = 0
    · rw [mlt_y h]
      show p ^ ((mlt p k (x / p)).1 + 1) * (mlt p k (x / p)).2 = x
      have ih := mlt_eq (p := p) k (x / p)
      rw [Nat.pow_succ, Nat.mul_comm (p ^ _) p, Nat.mul_assoc, ih]
      exact Nat.mul_div_cancel' (Nat.dvd_of_mod_eq_zero h)
    · rw [mlt_n h]
      show p ^ 0 * x = x
      rw [Nat.pow_zero, Nat.one_mul]
theorem mlt_le {p : Nat} : ∀ (k x : Nat), (mlt p k x).1 ≤ k
  | 0, x => Nat.le_refl _
  | k + 1, x => by
    by_cases h : x % p = 0
    · rw [mlt_y h]
      exact Nat.succ_le_succ (mlt_le k (x / p))
    · rw [mlt_n h]
      exact Nat.zero_le _
theorem mlt_pos {p k x : Nat} (h : 0 < x) : 0 < (mlt p k x).2 := by
  rcases Nat.eq_zero_or_pos (mlt p k x).2 with z | z
  · have := mlt_eq (p := p) k x
    rw [z, Nat.mul_zero] at this
    omega
  · exact z
theorem mlt_dvd {p k x : Nat} : (mlt p k x).2 ∣ x := ⟨p ^ (mlt p k x).1, by rw [Nat.mul_comm, mlt_eq]⟩
theorem mlt_nd {p : Nat} (hp : 2 ≤ p) : ∀ (k x : Nat), 0 < x → x < 2 ^ (k + 1) → ¬ p ∣ (mlt p k x).2
  | 0, x, h0, h1 => by
    have : x = 1 := by
      rw [Nat.zero_add, Nat.pow_one] at h1
      omega
    subst this
    intro hd
    have hd' : p ∣ 1 := hd
    have := Nat.le_of_dvd (by decide) hd'
    omega
  | k + 1, x, h0, h1 => by
    by_cases h : x % p = 0
    · rw [mlt_y h]
      have hd := Nat.dvd_of_mod_eq_zero h
      refine mlt_nd hp k (x / p) (Nat.div_pos (Nat.le_of_dvd h0 hd) (by omega)) ?_
      have h2 : x / p ≤ x / 2 := Nat.div_le_div_left hp (by decide)
      rw [Nat.pow_succ] at h1
      omega
    · rw [mlt_n h]
      exact fun hd => h (Nat.mod_eq_zero_of_dvd hd)
theorem mlt_ne {p k x : Nat} (h : (mlt p k x).1 ≠ 0) : p ∣ x := by
  cases k with
  | zero => exact absurd rfl h
  | succ k =>
    by_cases z : x % p = 0
    · exact Nat.dvd_of_mod_eq_zero z
    · rw [mlt_n z] at h
      exact absurd rfl h
theorem B8_p : B8 = 2 ^ 256 := rfl
/-- the product of q 0 to the e 0, and on -/
def pr (q e : Nat → Nat) : Nat → Nat
  | 0 => 1
  | m + 1 => pr q e m * q m ^ e m
theorem npM_app : ∀ (a b : List (Nat × Nat)), npM (a ++ b) = npM a * npM b
  | [], b => (Nat.one_mul _).symm
  | x :: a, b => by
    show x.1 ^ x.2 * npM (a ++ b) = x.1 ^ x.2 * npM a * npM b
    rw [npM_app a b, Nat.mul_assoc]
theorem fl_snoc {q e : Nat → Nat} : ∀ (k f : Nat), fl q e (k + 1) f = fl q e k f ++ [(q (f + k), e (f + k))]
  | 0, f => rfl
  | k + 1, f => by
    show (q f, e f) :: fl q e (k + 1) (f + 1) = (q f, e f) :: (fl q e k (f + 1) ++ [(q (f + (k + 1)), e (f + (k + 1)))])
    rw [fl_snoc k (f + 1), show f + 1 + k = f + (k + 1) by omega]
theorem pr_npM {q e : Nat → Nat} : ∀ (m : Nat), npM (fl q e m 0) = pr q e m
  | 0 => rfl
  | m + 1 => by
    rw [fl_snoc, npM_app, pr_npM m, Nat.zero_add]
    show pr q e m * (q m ^ e m * 1) = pr q e m * q m ^ e m
    rw [Nat.mul_one]
theorem pr_congr {q q' e e' : Nat → Nat} : ∀ {m : Nat}, (∀ j, j < m → q' j = q j ∧ e' j = e j) → pr q' e' m = pr q e m
  | 0, _ => rfl
  | m + 1, h => by
    unfold pr
    rw [pr_congr (fun j hj => h j (by omega)), (h m (by omega)).1, (h m (by omega)).2]
def swp (a : Nat → Nat) (i : Nat) : Nat → Nat := fun j => if j = i then a (i + 1) else if j = i + 1 then a i else a j
theorem swp_0 (a : Nat → Nat) (i : Nat) : swp a i i = a (i + 1) := if_pos rfl
theorem swp_1 (a : Nat → Nat) (i : Nat) : swp a i (i + 1) = a i := by
  unfold swp
  rw [if_neg (by omega), if_pos rfl]
theorem swp_n {a : Nat → Nat} {i j : Nat} (h0 : j ≠ i) (h1 : j ≠ i + 1) : swp a i j = a j := by
  unfold swp
  rw [if_neg h0, if_neg h1]
theorem pr_swp {q e : Nat → Nat} {i : Nat} : ∀ {m : Nat}, i + 1 < m → pr (swp q i) (swp e i) m = pr q e m
  | 0, h => by omega
  | m + 1, h => by
    by_cases e1 : i + 1 = m
    · subst e1
      show pr (swp q i) (swp e i) i * swp q i i ^ swp e i i * swp q i (i + 1) ^ swp e i (i + 1) = pr q e i * q i ^ e i * q (i + 1) ^ e (i + 1)
      rw [swp_0, swp_0, swp_1, swp_1, pr_congr (q := q) (e := e) (fun j hj => ⟨swp_n (by omega) (by omega), swp_n (by omega) (by omega)⟩), Nat.mul_assoc, Nat.mul_comm (q (i + 1) ^ _), ← Nat.mul_assoc]
    · show pr (swp q i) (swp e i) m * swp q i m ^ swp e i m = pr q e m * q m ^ e m
      rw [pr_swp (by omega), swp_n (by omega) (by omega), swp_n (by omega) (by omega)]
-- what is found
abbrev FS : Type := Nat × Nat × Nat × (Nat → Nat) × (Nat → Nat) × (Nat → Nat)
/-- the primes from p on, d of them: n lines are there, m factors found, k lines planned -/
noncomputable def r1 (n : Nat) : Nat → Nat → Nat → Nat → Nat → (Nat → Nat) → (Nat → Nat) → (Nat → Nat) → FS
  | 0, _, m, k, x, L, X, N => (m, k, x, L, X, N)
  | d + 1, p, m, k, x, L, X, N =>
    if spB p = true ∧ (mlt p 255 x).1 ≠ 0 then
      match lnOf N p n 0 with
      | some i => r1 n d (p + 1) (m + 1) k (mlt p 255 x).2 (gu L m i) (gu X m (mlt p 255 x).1) N
      | none => r1 n d (p + 1) (m + 1) (k + 1) (mlt p 255 x).2 (gu L m (n + k)) (gu X m (mlt p 255 x).1) (gu N (n + k) p)
    else r1 n d (p + 1) m k x L X N
/-- the lines from l on, d of them -/
def r2 (N : Nat → Nat) : Nat → Nat → Nat → Nat → (Nat → Nat) → (Nat → Nat) → Nat × Nat × (Nat → Nat) × (Nat → Nat)
  | 0, _, m, x, L, X => (m, x, L, X)
  | d + 1, l, m, x, L, X =>
    if 1009 < N l ∧ (mlt (N l) 255 x).1 ≠ 0 then r2 N d (l + 1) (m + 1) (mlt (N l) 255 x).2 (gu L m l) (gu X m (mlt (N l) 255 x).1)
    else r2 N d (l + 1) m x L X
theorem lnOf_some {N : Nat → Nat} {x : Nat} : ∀ {k i j : Nat}, lnOf N x k i = some j → i ≤ j ∧ j < i + k ∧ N j = x
  | 0, i, j, h => by cases h
  | k + 1, i, j, h => by
    unfold lnOf at h
    split at h
    · cases h
      rename_i z
      exact ⟨Nat.le_refl _, by omega, z⟩
    · obtain ⟨a, b, c⟩ := lnOf_some h
      exact ⟨by omega, by omega, c⟩
theorem lnOf_none {N : Nat → Nat} {x : Nat} : ∀ {k i : Nat}, lnOf N x k i = none → ∀ j, i ≤ j → j < i + k → N j ≠ x
  | 0, i, h, j, a, b => by omega
  | k + 1, i, h, j, a, b => by
    unfold lnOf at h
    split at h
    · cases h
    · rename_i z
      by_cases e : j = i
      · subst e; exact z
      · exact lnOf_none h j (by omega) (by omega)
theorem lnOf_cong {N N' : Nat → Nat} {x : Nat} : ∀ {k i : Nat}, (∀ j, i ≤ j → j < i + k → N' j = N j) → lnOf N' x k i = lnOf N x k i
  | 0, i, h => rfl
  | k + 1, i, h => by
    unfold lnOf
    rw [h i (Nat.le_refl _) (by omega), lnOf_cong (fun j a b => h j (by omega) (by omega))]
theorem lnOf_more {N : Nat → Nat} {x : Nat} : ∀ {k i j : Nat}, (∀ a, i + k ≤ a → a < i + k + j → N a ≠ x) → lnOf N x (k + j) i = lnOf N x k i
  | 0, i, 0, h => rfl
  | 0, i, j + 1, h => by
    rw [Nat.zero_add]
    unfold lnOf
    rw [if_neg (h i (by omega) (by omega))]
    have := lnOf_more (k := 0) (i := i + 1) (j := j) (fun a h1 h2 => h a (by omega) (by omega))
    rw [Nat.zero_add] at this
    rw [this]
    rfl
  | k + 1, i, j, h => by
    rw [show k + 1 + j = (k + j) + 1 by omega]
    unfold lnOf
    rw [lnOf_more (k := k) (i := i + 1) (j := j) (fun a h1 h2 => h a (by omega) (by omega))]
/-- what holds of what is found -/
def FI (V n k m x : Nat) (L X N : Nat → Nat) : Prop :=
  0 < x ∧ x < B8 ∧ pr (fun j => N (L j)) X m * x = V - 1 ∧ (∀ j, j < m → L j < n + k ∧ 1 ≤ X j ∧ X j ≤ 255 ∧ ¬ N (L j) ∣ x) ∧ (∀ i, i < n + k → npP (N i)) ∧ (∀ i j, i < m → j < m → N (L i) = N (L j) → i = j)
theorem FI.add {V n k m x : Nat} {L X N : Nat → Nat} (f : FI V n k m x L X N) {l : Nat} (hl : l < n + k) (he : (mlt (N l) 255 x).1 ≠ 0) : FI V n k (m + 1) (mlt (N l) 255 x).2 (gu L m l) (gu X m (mlt (N l) 255 x).1) N := by
  obtain ⟨f1, f2, f3, f4, f5, f6⟩ := f
  have hp := f5 l hl
  have hle := Nat.le_of_dvd f1 (mlt_dvd (p := N l) (k := 255) (x := x))
  have hnd := mlt_nd hp.1 255 x f1 (by rw [show (255 + 1) = 256 from rfl, ← B8_p]; exact f2)
  refine ⟨mlt_pos f1, by omega, ?_, fun j hj => ?_, f5, fun i j hi hj e => ?_⟩
  · show pr (fun j => N (gu L m l j)) (gu X m (mlt (N l) 255 x).1) m * N (gu L m l m) ^ gu X m (mlt (N l) 255 x).1 m * (mlt (N l) 255 x).2 = V - 1
    rw [gu_s, gu_s, Nat.mul_assoc, mlt_eq, pr_congr (q := fun j => N (L j)) (e := X) (fun j hj => ⟨by show N (gu L m l j) = N (L j); rw [gu_n (by omega)], gu_n (by omega)⟩), f3]
  · by_cases z : j = m
    · subst z
      rw [gu_s, gu_s]
      exact ⟨hl, by omega, mlt_le 255 x, hnd⟩
    · rw [gu_n z, gu_n z]
      obtain ⟨a, b, c, d⟩ := f4 j (by omega)
      exact ⟨a, b, c, fun q => d (Nat.dvd_trans q mlt_dvd)⟩
  · have hd : ∀ j, j < m → N (L j) ≠ N l := fun j hj q => (f4 j hj).2.2.2 (by rw [q]; exact mlt_ne he)
    by_cases zi : i = m
    · by_cases zj : j = m
      · omega
      · rw [zi, gu_s, gu_n zj] at e
        exact absurd e.symm (hd j (by omega))
    · by_cases zj : j = m
      · rw [zj, gu_s, gu_n zi] at e
        exact absurd e (hd i (by omega))
      · rw [gu_n zi, gu_n zj] at e
        exact f6 i j (by omega) (by omega) e
theorem FI.grow {V n k m x : Nat} {L X N : Nat → Nat} (f : FI V n k m x L X N) {p : Nat} (hp : npP p) : FI V n (k + 1) m x L X (gu N (n + k) p) := by
  obtain ⟨f1, f2, f3, f4, f5, f6⟩ := f
  have e : ∀ j, j < m → gu N (n + k) p (L j) = N (L j) := fun j hj => gu_n (by have := (f4 j hj).1; omega)
  refine ⟨f1, f2, ?_, fun j hj => ?_, fun i hi => ?_, fun i j hi hj z => ?_⟩
  · rw [pr_congr (q := fun j => N (L j)) (e := X) (fun j hj => ⟨e j hj, rfl⟩), f3]
  · obtain ⟨a, b, c, d⟩ := f4 j hj
    rw [e j hj]
    exact ⟨by omega, b, c, d⟩
  · by_cases z : i = n + k
    · rw [z, gu_s]; exact hp
    · rw [gu_n z]; exact f5 i (by omega)
  · rw [e i hi, e j hj] at z
    exact f6 i j hi hj z
def asc (m : Nat) (a : Nat → Nat) : Prop := ∀ j, j + 1 < m → a j < a (j + 1)
theorem asc.lt {m : Nat} {a : Nat → Nat} (h : asc m a) : ∀ {d i : Nat}, i + 1 + d < m → a i < a (i + 1 + d)
  | 0, i, hd => h i hd
  | d + 1, i, hd => Nat.lt_trans (asc.lt h (d := d) (by omega)) (h (i + 1 + d) hd)
theorem asc.mono {m : Nat} {a : Nat → Nat} (h : asc m a) {i j : Nat} (hij : i < j) (hj : j < m) : a i < a j := by
  obtain ⟨d, hd⟩ := Nat.le.dest (show i + 1 ≤ j from hij)
  rw [← hd] at hj ⊢
  exact h.lt hj
theorem asc.ge {m : Nat} {a b : Nat → Nat} (ha : asc m a) (hb : asc m b) (hab : ∀ i, i < m → ∃ j, j < m ∧ b j = a i) : ∀ i, i < m → ∃ j, i ≤ j ∧ j < m ∧ b j = a i
  | 0, h => by
    obtain ⟨j, h1, h2⟩ := hab 0 h
    exact ⟨j, Nat.zero_le _, h1, h2⟩
  | i + 1, h => by
    obtain ⟨j, h1, h2, h3⟩ := asc.ge ha hb hab i (by omega)
    obtain ⟨j', h4, h5⟩ := hab (i + 1) h
    have h6 := ha i h
    refine ⟨j', ?_, h4, h5⟩
    rcases Nat.lt_or_ge j j' with z | z
    · omega
    · rcases Nat.eq_or_lt_of_le z with y | y
      · rw [y] at h5
        omega
      · have := hb.mono y h2
        omega
theorem asc.eq {m : Nat} {a b : Nat → Nat} (ha : asc m a) (hb : asc m b) (hab : ∀ i, i < m → ∃ j, j < m ∧ b j = a i) (hba : ∀ i, i < m → ∃ j, j < m ∧ a j = b i) : ∀ i, i < m → a i = b i := by
  intro i hi
  obtain ⟨j, h1, h2, h3⟩ := asc.ge ha hb hab i hi
  obtain ⟨j', h4, h5, h6⟩ := asc.ge hb ha hba i hi
  have h7 : b i ≤ b j := by
    rcases Nat.eq_or_lt_of_le h1 with z | z
    · rw [z]; exact Nat.le_refl _
    · exact Nat.le_of_lt (hb.mono z h2)
  have h8 : a i ≤ a j' := by
    rcases Nat.eq_or_lt_of_le h4 with z | z
    · rw [z]; exact Nat.le_refl _
    · exact Nat.le_of_lt (ha.mono z h5)
  omega
/-- the same entries, in another order -/
def Pm (m : Nat) (L X L' X' : Nat → Nat) : Prop := (∀ i, i < m → ∃ j, j < m ∧ L' j = L i ∧ X' j = X i) ∧ (∀ j, j < m → ∃ i, i < m ∧ L' j = L i ∧ X' j = X i)
theorem Pm.rf (m : Nat) (L X : Nat → Nat) : Pm m L X L X := ⟨fun i hi => ⟨i, hi, rfl, rfl⟩, fun i hi => ⟨i, hi, rfl, rfl⟩⟩
theorem Pm.uniq {m : Nat} {L X N A B C D : Nat → Nat} (h1 : Pm m L X A B) (h2 : Pm m L X C D) (a1 : asc m (fun j => N (A j))) (a2 : asc m (fun j => N (C j))) (hd : ∀ i j, i < m → j < m → N (L i) = N (L j) → i = j) : ∀ j, j < m → A j = C j ∧ B j = D j := by
  have he := asc.eq a1 a2 (fun i hi => by
    obtain ⟨i', b1, b2, b3⟩ := h1.2 i hi
    obtain ⟨j, c1, c2, c3⟩ := h2.1 i' b1
    exact ⟨j, c1, by show N (C j) = N (A i); rw [c2, b2]⟩) (fun i hi => by
    obtain ⟨i', b1, b2, b3⟩ := h2.2 i hi
    obtain ⟨j, c1, c2, c3⟩ := h1.1 i' b1
    exact ⟨j, c1, by show N (A j) = N (C i); rw [c2, b2]⟩)
  intro j hj
  obtain ⟨i1, b1, b2, b3⟩ := h1.2 j hj
  obtain ⟨i2, c1, c2, c3⟩ := h2.2 j hj
  have := he j hj
  have h3 : N (L i1) = N (L i2) := by
    rw [← b2, ← c2]
    exact this
  have h4 := hd i1 i2 b1 c1 h3
  subst h4
  exact ⟨by rw [b2, c2], by rw [b3, c3]⟩
def ins (a : Nat → Nat) (f x : Nat) : Nat → Nat := fun j => if j < f then a j else if j = f then x else a (j - 1)
theorem ins_l {a : Nat → Nat} {f x j : Nat} (h : j < f) : ins a f x j = a j := if_pos h
theorem ins_f (a : Nat → Nat) (f x : Nat) : ins a f x f = x := by
  unfold ins
  rw [if_neg (by omega), if_pos rfl]
theorem ins_g {a : Nat → Nat} {f x j : Nat} (h : f < j) : ins a f x j = a (j - 1) := by
  unfold ins
  rw [if_neg (by omega), if_neg (by omega)]
theorem Pm_ins {m : Nat} {L X A B : Nat → Nat} (h : Pm m L X A B) {f l e : Nat} (hf : f ≤ m) : Pm (m + 1) (gu L m l) (gu X m e) (ins A f l) (ins B f e) := by
  constructor
  · intro i hi
    by_cases z : i = m
    · subst z
      exact ⟨f, by omega, by rw [ins_f, gu_s], by rw [ins_f, gu_s]⟩
    · obtain ⟨j, a1, a2, a3⟩ := h.1 i (by omega)
      rcases Nat.lt_or_ge j f with y | y
      · exact ⟨j, by omega, by rw [ins_l y, gu_n z, a2], by rw [ins_l y, gu_n z, a3]⟩
      · exact ⟨j + 1, by omega, by rw [ins_g (by omega), Nat.add_sub_cancel, gu_n z, a2], by rw [ins_g (by omega), Nat.add_sub_cancel, gu_n z, a3]⟩
  · intro j hj
    rcases Nat.lt_or_ge j f with y | y
    · obtain ⟨i, a1, a2, a3⟩ := h.2 j (by omega)
      exact ⟨i, by omega, by rw [ins_l y, gu_n (by omega), a2], by rw [ins_l y, gu_n (by omega), a3]⟩
    · rcases Nat.eq_or_lt_of_le y with z | z
      · subst z
        exact ⟨m, by omega, by rw [ins_f, gu_s], by rw [ins_f, gu_s]⟩
      · obtain ⟨i, a1, a2, a3⟩ := h.2 (j - 1) (by omega)
        exact ⟨i, by omega, by rw [ins_g z, gu_n (by omega), a2], by rw [ins_g z, gu_n (by omega), a3]⟩
theorem asc_ins {m : Nat} {A N : Nat → Nat} (h : asc m (fun j => N (A j))) {f l : Nat} (hf : f ≤ m) (h1 : ∀ j, j < f → N (A j) < N l) (h2 : ∀ j, f ≤ j → j < m → N l < N (A j)) : asc (m + 1) (fun j => N (ins A f l j)) := by
  intro j hj
  show N (ins A f l j) < N (ins A f l (j + 1))
  rcases Nat.lt_or_ge (j + 1) f with y | y
  · rw [ins_l (by omega), ins_l y]
    exact h j (by omega)
  · rcases Nat.eq_or_lt_of_le y with z | z
    · rw [ins_l (by omega), ← z, ins_f]
      exact h1 j (by omega)
    · rw [ins_g z, Nat.add_sub_cancel]
      rcases Nat.eq_or_lt_of_le (show f ≤ j by omega) with q | q
      · rw [← q, ins_f]
        exact h2 f (Nat.le_refl _) (by omega)
      · rw [ins_g q]
        have := h (j - 1) (by omega)
        rw [show j - 1 + 1 = j by omega] at this
        exact this
theorem Pm_swp {m : Nat} {L X A B : Nat → Nat} (h : Pm m L X A B) {i : Nat} (hi : i + 1 < m) : Pm m L X (swp A i) (swp B i) := by
  constructor
  · intro q hq
    obtain ⟨j, a1, a2, a3⟩ := h.1 q hq
    by_cases z0 : j = i
    · exact ⟨i + 1, hi, by rw [swp_1, ← z0, a2], by rw [swp_1, ← z0, a3]⟩
    · by_cases z1 : j = i + 1
      · exact ⟨i, by omega, by rw [swp_0, ← z1, a2], by rw [swp_0, ← z1, a3]⟩
      · exact ⟨j, a1, by rw [swp_n z0 z1, a2], by rw [swp_n z0 z1, a3]⟩
  · intro j hj
    by_cases z0 : j = i
    · obtain ⟨q, a1, a2, a3⟩ := h.2 (i + 1) hi
      exact ⟨q, a1, by rw [z0, swp_0, a2], by rw [z0, swp_0, a3]⟩
    · by_cases z1 : j = i + 1
      · obtain ⟨q, a1, a2, a3⟩ := h.2 i (by omega)
        exact ⟨q, a1, by rw [z1, swp_1, a2], by rw [z1, swp_1, a3]⟩
      · obtain ⟨q, a1, a2, a3⟩ := h.2 j hj
        exact ⟨q, a1, by rw [swp_n z0 z1, a2], by rw [swp_n z0 z1, a3]⟩
theorem r1_inv {V n : Nat} : ∀ (d p : Nat) {m k x : Nat} {L X N : Nat → Nat}, 2 ≤ p → FI V n k m x L X N → asc m (fun j => N (L j)) → (∀ j, j < m → N (L j) < p) → (∀ i, n ≤ i → i < n + k → N i < p) →
    FI V n (r1 n d p m k x L X N).2.1 (r1 n d p m k x L X N).1 (r1 n d p m k x L X N).2.2.1 (r1 n d p m k x L X N).2.2.2.1 (r1 n d p m k x L X N).2.2.2.2.1 (r1 n d p m k x L X N).2.2.2.2.2 ∧
    asc (r1 n d p m k x L X N).1 (fun j => (r1 n d p m k x L X N).2.2.2.2.2 ((r1 n d p m k x L X N).2.2.2.1 j)) ∧ (∀ j, j < (r1 n d p m k x L X N).1 → (r1 n d p m k x L X N).2.2.2.2.2 ((r1 n d p m k x L X N).2.2.2.1 j) < p + d) ∧
    (∀ i, n ≤ i → i < n + (r1 n d p m k x L X N).2.1 → (r1 n d p m k x L X N).2.2.2.2.2 i < p + d) ∧ m ≤ (r1 n d p m k x L X N).1 ∧ k ≤ (r1 n d p m k x L X N).2.1 ∧ (∀ i, i < n + k → (r1 n d p m k x L X N).2.2.2.2.2 i = N i)
  | 0, p, m, k, x, L, X, N, hp, f, ha, hlt, hpl => ⟨f, ha, hlt, hpl, Nat.le_refl _, Nat.le_refl _, fun _ _ => rfl⟩
  | d + 1, p, m, k, x, L, X, N, hp, f, ha, hlt, hpl => by
    unfold r1
    by_cases h1 : spB p = true ∧ (mlt p 255 x).1 ≠ 0
    · rw [if_pos h1]
      have hpp := spB_t.mp h1.1
      cases hx : lnOf N p n 0 with
      | some i =>
        obtain ⟨a1, a2, a3⟩ := lnOf_some hx
        dsimp only
        have fa := f.add (l := i) (by omega) (by rw [a3]; exact h1.2)
        rw [a3] at fa
        obtain ⟨b1, b2, b3, b4, b5, b6, b7⟩ := r1_inv d (p + 1) (by omega) fa (fun j hj => by
          show N (gu L m i j) < N (gu L m i (j + 1))
          rw [gu_n (by omega)]
          by_cases z : j + 1 = m
          · rw [z, gu_s, a3]
            exact hlt j (by omega)
          · rw [gu_n z]
            exact ha j (by omega)) (fun j hj => by
          by_cases z : j = m
          · rw [z, gu_s, a3]; omega
          · rw [gu_n z]
            have := hlt j (by omega)
            omega) (fun q h1 h2 => by have := hpl q h1 h2; omega)
        exact ⟨b1, b2, fun j hj => by have := b3 j hj; omega, fun q h1 h2 => by have := b4 q h1 h2; omega, by omega, b6, b7⟩
      | none =>
        dsimp only
        have fg := f.grow hpp
        have e1 : gu N (n + k) p (n + k) = p := gu_s _ _ _
        have fa := fg.add (l := n + k) (by omega) (by rw [e1]; exact h1.2)
        rw [e1] at fa
        have eL : ∀ j, j < m → gu N (n + k) p (L j) = N (L j) := fun j hj => gu_n (by have := (f.2.2.2.1 j hj).1; omega)
        obtain ⟨b1, b2, b3, b4, b5, b6, b7⟩ := r1_inv d (p + 1) (by omega) fa (fun j hj => by
          show gu N (n + k) p (gu L m (n + k) j) < gu N (n + k) p (gu L m (n + k) (j + 1))
          rw [gu_n (i := j) (j := m) (by omega), eL j (by omega)]
          by_cases z : j + 1 = m
          · rw [z, gu_s, gu_s]
            exact hlt j (by omega)
          · rw [gu_n z, eL (j + 1) (by omega)]
            exact ha j (by omega)) (fun j hj => by
          by_cases z : j = m
          · rw [z, gu_s, gu_s]; omega
          · rw [gu_n z, eL j (by omega)]
            have := hlt j (by omega)
            omega) (fun q h1 h2 => by
          by_cases z : q = n + k
          · rw [z, gu_s]; omega
          · rw [gu_n z]
            have := hpl q h1 (by omega)
            omega)
        exact ⟨b1, b2, fun j hj => by have := b3 j hj; omega, fun q h1 h2 => by have := b4 q h1 h2; omega, by omega, by omega, fun q hq => by rw [b7 q (by omega), gu_n (by omega)]⟩
    · rw [if_neg h1]
      obtain ⟨b1, b2, b3, b4, b5, b6, b7⟩ := r1_inv d (p + 1) (by omega) f ha (fun j hj => by have := hlt j hj; omega) (fun q h1 h2 => by have := hpl q h1 h2; omega)
      exact ⟨b1, b2, fun j hj => by have := b3 j hj; omega, fun q h1 h2 => by have := b4 q h1 h2; omega, b5, b6, b7⟩
theorem r2_inv {V n k : Nat} {N : Nat → Nat} : ∀ (d l : Nat) {m x : Nat} {L X : Nat → Nat}, l + d ≤ n + k → FI V n k m x L X N →
    FI V n k (r2 N d l m x L X).1 (r2 N d l m x L X).2.1 (r2 N d l m x L X).2.2.1 (r2 N d l m x L X).2.2.2 N ∧ m ≤ (r2 N d l m x L X).1 ∧ (∀ j, j < m → (r2 N d l m x L X).2.2.1 j = L j ∧ (r2 N d l m x L X).2.2.2 j = X j) ∧ (∀ j, m ≤ j → j < (r2 N d l m x L X).1 → 1009 < N ((r2 N d l m x L X).2.2.1 j))
  | 0, l, m, x, L, X, hl, f => ⟨f, Nat.le_refl _, fun _ _ => ⟨rfl, rfl⟩, fun j a b => by
      have : j < m := b
      omega⟩
  | d + 1, l, m, x, L, X, hl, f => by
    unfold r2
    by_cases h1 : 1009 < N l ∧ (mlt (N l) 255 x).1 ≠ 0
    · rw [if_pos h1]
      obtain ⟨b1, b2, b3, b4⟩ := r2_inv d (l + 1) (by omega) (f.add (l := l) (by omega) h1.2)
      refine ⟨b1, by omega, fun j hj => ?_, fun j a b => ?_⟩
      · rw [(b3 j (by omega)).1, (b3 j (by omega)).2, gu_n (by omega), gu_n (by omega)]
        exact ⟨rfl, rfl⟩
      · by_cases z : j = m
        · rw [z, (b3 m (by omega)).1, gu_s]
          exact h1.1
        · exact b4 j (by omega) b
    · rw [if_neg h1]
      exact r2_inv d (l + 1) (by omega) f
/-- lines of small numbers say nothing more -/
theorem r2_more {N : Nat → Nat} : ∀ (d l e : Nat) {m x : Nat} {L X : Nat → Nat}, (∀ i, l + d ≤ i → i < l + d + e → N i ≤ 1009) → r2 N (d + e) l m x L X = r2 N d l m x L X
  | 0, l, 0, m, x, L, X, h => rfl
  | 0, l, e + 1, m, x, L, X, h => by
    rw [Nat.zero_add]
    unfold r2
    rw [if_neg (fun q => by have := h l (by omega) (by omega); omega)]
    have := r2_more 0 (l + 1) e (m := m) (x := x) (L := L) (X := X) (fun i a b => h i (by omega) (by omega))
    rw [Nat.zero_add] at this
    rw [this]
    rfl
  | d + 1, l, e, m, x, L, X, h => by
    rw [show d + 1 + e = (d + e) + 1 by omega]
    unfold r2
    rw [r2_more d (l + 1) e (fun i a b => h i (by omega) (by omega)), r2_more d (l + 1) e (fun i a b => h i (by omega) (by omega))]
