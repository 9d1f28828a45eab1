/-! number theory: Fermat, Lucas, Pocklington; nothing of the machine here -/
def npP (p : Nat) : Prop := 2 ≤ p ∧ ∀ d, d ∣ p → d = 1 ∨ d = p
theorem np_mod_of_dvd {p x y : Nat} (h : y ≤ x) (hd : p ∣ x - y) : x % p = y % p := by
  obtain ⟨k, hk⟩ := hd
  have e : x = y + p * k := by omega
  rw [e, Nat.add_mul_mod_self_left]
theorem np_dvd_of_mod {p x y : Nat} (hd : x % p = y % p) : p ∣ x - y := Nat.dvd_of_mod_eq_zero (Nat.sub_mod_eq_zero_of_mod_eq hd)
theorem np_cancel0 {p c x y : Nat} (hc : Nat.Coprime p c) (hyx : y ≤ x) (h : (c * x) % p = (c * y) % p) : x % p = y % p := by
  have h1 := np_dvd_of_mod h
  rw [← Nat.mul_sub] at h1
  exact np_mod_of_dvd hyx (hc.dvd_of_dvd_mul_left h1)
theorem np_cancel {p c x y : Nat} (hc : Nat.Coprime p c) (h : (c * x) % p = (c * y) % p) : x % p = y % p := by
  rcases Nat.le_total y x with hyx | hyx
  · exact np_cancel0 hc hyx h
  · exact (np_cancel0 hc hyx h.symm).symm
theorem np_factor : ∀ n : Nat, 2 ≤ n → ∃ p, npP p ∧ p ∣ n := by
  intro n
  induction n using Nat.strongRecOn with
  | ind n ih =>
    intro hn
    by_cases hp : npP n
    · exact ⟨n, hp, Nat.dvd_refl n⟩
    · have h1 : ∃ d, d ∣ n ∧ d ≠ 1 ∧ d ≠ n := by
        apply Classical.byContradiction
        intro h
        apply hp
        refine ⟨hn, fun d hd => ?_⟩
        by_cases a : d = 1
        · exact Or.inl a
        · by_cases b : d = n
          · exact Or.inr b
          · exact absurd ⟨d, hd, a, b⟩ h
      obtain ⟨d, hd, d1, d2⟩ := h1
      have d3 : d ≤ n := Nat.le_of_dvd (by omega) hd
      have d0 : d ≠ 0 := by
        intro e
        subst e
        have := Nat.eq_zero_of_zero_dvd hd
        omega
      obtain ⟨p, hp, hpd⟩ := ih d (by omega) (by omega)
      exact ⟨p, hp, Nat.dvd_trans hpd hd⟩
theorem np_cop {p a : Nat} (hp : npP p) (h : ¬ p ∣ a) : Nat.Coprime p a := by
  rcases hp.2 _ (Nat.gcd_dvd_left p a) with h1 | h1
  · exact h1
  · exact absurd (h1 ▸ Nat.gcd_dvd_right p a) h
theorem np_euclid {p a b : Nat} (hp : npP p) (h : p ∣ a * b) : p ∣ a ∨ p ∣ b := by
  by_cases ha : p ∣ a
  · exact Or.inl ha
  · exact Or.inr ((np_cop hp ha).dvd_of_dvd_mul_left h)
theorem np_euclid_pow {p a : Nat} (hp : npP p) : ∀ n, p ∣ a ^ n → p ∣ a
  | 0, h => by
    have := Nat.le_of_dvd (by decide) (Nat.pow_zero a ▸ h)
    have := hp.1
    omega
  | n + 1, h => by
    rw [Nat.pow_succ] at h
    rcases np_euclid hp h with h | h
    · exact np_euclid_pow hp n h
    · exact h
theorem np_eq {p q : Nat} (hp : npP p) (hq : npP q) (h : p ∣ q) : p = q := by
  rcases hq.2 p h with e | e
  · have := hp.1
    omega
  · exact e
-- powers modulo n
theorem np_pow_one {n a : Nat} (h : a % n = 1 % n) (k : Nat) : a ^ k % n = 1 % n := by
  rw [Nat.pow_mod, h, ← Nat.pow_mod, Nat.one_pow]
theorem np_mul_one {n a b : Nat} (h : a % n = 1 % n) : a * b % n = b % n := by
  rw [Nat.mul_mod, h, ← Nat.mul_mod, Nat.one_mul]
theorem np_gcd_pow {n a : Nat} (x y : Nat) : a ^ x % n = 1 % n → a ^ y % n = 1 % n → a ^ (Nat.gcd x y) % n = 1 % n := by
  induction x, y using Nat.gcd.induction with
  | H0 y => intro _ h; rw [Nat.gcd_zero_left]; exact h
  | H1 x y hx ih =>
    intro h1 h2
    rw [Nat.gcd_rec]
    refine ih ?_ h1
    have e : a ^ y = (a ^ x) ^ (y / x) * a ^ (y % x) := by
      rw [← Nat.pow_mul, ← Nat.pow_add, Nat.div_add_mod]
    rw [e] at h2
    rw [← np_mul_one (b := a ^ (y % x)) (np_pow_one h1 (y / x))]
    exact h2
-- lists without repetition
theorem np_perm {α : Type} [DecidableEq α] : ∀ (l1 l2 : List α), l1.Nodup → (∀ x, x ∈ l1 → x ∈ l2) → l2.length ≤ l1.length → List.Perm l1 l2
  | [], l2, _, _, hl => by
    have : l2 = [] := List.eq_nil_of_length_eq_zero (by simpa using hl)
    subst this
    exact List.Perm.refl _
  | x :: t, l2, hn, hs, hl => by
    have hx : x ∈ l2 := hs x List.mem_cons_self
    have hn' := List.nodup_cons.mp hn
    have hp := List.perm_cons_erase hx
    refine List.Perm.trans ?_ hp.symm
    refine List.Perm.cons x (np_perm t (l2.erase x) hn'.2 (fun y hy => ?_) ?_)
    · have hy2 : y ∈ l2 := hs y (List.mem_cons_of_mem _ hy)
      have hne : y ≠ x := fun e => hn'.1 (e ▸ hy)
      exact (List.mem_erase_of_ne hne).mpr hy2
    · rw [List.length_erase_of_mem hx]
      simp at hl
      omega
theorem np_nodup_map {f : Nat → Nat} : ∀ (l : List Nat), l.Nodup → (∀ x, x ∈ l → ∀ y, y ∈ l → f x = f y → x = y) → (l.map f).Nodup
  | [], _, _ => by simp
  | x :: t, hn, hf => by
    have hn' := List.nodup_cons.mp hn
    rw [List.map_cons, List.nodup_cons]
    refine ⟨fun h => ?_, np_nodup_map t hn'.2 (fun a ha b hb => hf a (List.mem_cons_of_mem _ ha) b (List.mem_cons_of_mem _ hb))⟩
    obtain ⟨y, hy, e⟩ := List.mem_map.mp h
    have := hf y (List.mem_cons_of_mem _ hy) x List.mem_cons_self e
    exact hn'.1 (this ▸ hy)
theorem np_prod_mod (p a : Nat) : ∀ l : List Nat, (l.map (fun x => a * x % p)).prod % p = (a ^ l.length * l.prod) % p
  | [] => by simp
  | x :: t => by
    have ih := np_prod_mod p a t
    have e1 : ((x :: t).map (fun x => a * x % p)).prod = (a * x % p) * (t.map (fun x => a * x % p)).prod := by simp
    have e2 : a ^ (x :: t).length * (x :: t).prod = (a * x) * (a ^ t.length * t.prod) := by
      simp only [List.length_cons, List.prod_cons, Nat.pow_succ]
      simp only [Nat.mul_comm, Nat.mul_left_comm, Nat.mul_assoc]
    rw [e1, e2, Nat.mul_mod, ih, Nat.mod_mod, ← Nat.mul_mod]
theorem np_prod_cop {p : Nat} (hp : npP p) : ∀ l : List Nat, (∀ x, x ∈ l → 0 < x ∧ x < p) → Nat.Coprime p l.prod
  | [], _ => by simp
  | x :: t, h => by
    rw [List.prod_cons]
    refine Nat.Coprime.mul_right (np_cop hp (fun hd => ?_)) (np_prod_cop hp t (fun y hy => h y (List.mem_cons_of_mem _ hy)))
    have h1 := h x List.mem_cons_self
    have := Nat.le_of_dvd h1.1 hd
    omega
theorem np_fermat {p a : Nat} (hp : npP p) (ha : ¬ p ∣ a) : a ^ (p - 1) % p = 1 % p := by
  have hp2 := hp.1
  have hca := np_cop hp ha
  have hin : ∀ x, x ∈ List.range' 1 (p - 1) ↔ (0 < x ∧ x < p) := by
    intro x
    rw [List.mem_range'_1]
    omega
  have hnd : ((List.range' 1 (p - 1)).map (fun x => a * x % p)).Nodup := by
    refine np_nodup_map _ List.nodup_range' (fun x hx y hy e => ?_)
    have h1 := (hin x).mp hx
    have h2 := (hin y).mp hy
    have h3 := np_cancel hca e
    rw [Nat.mod_eq_of_lt h1.2, Nat.mod_eq_of_lt h2.2] at h3
    exact h3
  have hperm : List.Perm ((List.range' 1 (p - 1)).map (fun x => a * x % p)) (List.range' 1 (p - 1)) := by
    refine np_perm _ _ hnd (fun z hz => ?_) (by simp)
    obtain ⟨x, hx, rfl⟩ := List.mem_map.mp hz
    have h1 := (hin x).mp hx
    refine (hin _).mpr ⟨?_, Nat.mod_lt _ (by omega)⟩
    apply Nat.pos_of_ne_zero
    intro e
    rcases np_euclid hp (Nat.dvd_of_mod_eq_zero e) with h | h
    · exact ha h
    · have := Nat.le_of_dvd h1.1 h
      omega
  have h1 := np_prod_mod p a (List.range' 1 (p - 1))
  rw [hperm.prod_nat] at h1
  have hlen : (List.range' 1 (p - 1)).length = p - 1 := by simp
  rw [hlen] at h1
  have hc := np_prod_cop hp (List.range' 1 (p - 1)) (fun x hx => (hin x).mp hx)
  refine np_cancel hc ?_
  rw [Nat.mul_one, Nat.mul_comm]
  exact h1.symm
-- a prime power that the powers of a show, in q - 1
theorem np_part {N q p e a : Nat} (hq : npP q) (hqN : q ∣ N) (hp : npP p) (he : p ^ e ∣ N - 1) (hpN : p ∣ N - 1)
    (h1 : a ^ (N - 1) % N = 1 % N) (h2 : ∀ d, d ∣ N → a ^ ((N - 1) / p) % d = 1 % d → d = 1) : p ^ e ∣ q - 1 := by
  have hq2 := hq.1
  have hp2 := hp.1
  have hmodq : ∀ x y : Nat, x % N = y % N → x % q = y % q := by
    intro x y h
    rw [← Nat.mod_mod_of_dvd x hqN, ← Nat.mod_mod_of_dvd y hqN, h]
  have h1q : a ^ (N - 1) % q = 1 % q := hmodq _ _ h1
  by_cases hN : N - 1 = 0
  · -- then the power is a ^ 0
    exfalso
    have hd := h2 q hqN (by rw [hN]; simp)
    omega
  have hqa : ¬ q ∣ a := by
    intro h
    have h3 : q ∣ a ^ (N - 1) := Nat.dvd_trans h (Nat.dvd_trans (by rw [Nat.pow_one]; exact Nat.dvd_refl a) (Nat.pow_dvd_pow a (show 1 ≤ N - 1 by omega)))
    rw [Nat.mod_eq_zero_of_dvd h3, Nat.mod_eq_of_lt (by omega)] at h1q
    omega
  have hf := np_fermat hq hqa
  have hg := np_gcd_pow (N - 1) (q - 1) h1q hf
  obtain ⟨t, ht⟩ := Nat.gcd_dvd_left (N - 1) (q - 1)
  have hgq := Nat.gcd_dvd_right (N - 1) (q - 1)
  generalize hG : Nat.gcd (N - 1) (q - 1) = g at hg ht hgq
  by_cases hpt : p ∣ t
  · exfalso
    obtain ⟨k, hk⟩ := hpt
    have e1 : (N - 1) / p = g * k := by
      rw [ht, hk, ← Nat.mul_assoc, Nat.mul_comm g p, Nat.mul_assoc, Nat.mul_div_cancel_left _ (by omega)]
    have h3 : a ^ ((N - 1) / p) % q = 1 % q := by
      rw [e1, Nat.pow_mul]
      exact np_pow_one hg k
    have := h2 q hqN h3
    omega
  · have hc : Nat.Coprime (p ^ e) t := Nat.Coprime.pow_left e (np_cop hp hpt)
    rw [ht] at he
    exact Nat.dvd_trans (hc.dvd_of_dvd_mul_right he) hgq
/-- the product of the powers p ^ e of a list -/
def npM : List (Nat × Nat) → Nat
  | [] => 1
  | (p, e) :: r => p ^ e * npM r
/-- primes that go up -/
def npUp : List (Nat × Nat) → Prop
  | [] => True
  | (p, _) :: r => npP p ∧ (∀ q, q ∈ r → p < q.1) ∧ npUp r
theorem npUp_prime : ∀ {l : List (Nat × Nat)}, npUp l → ∀ q, q ∈ l → npP q.1
  | [], _, q, hq => by cases hq
  | (p, e) :: r, h, q, hq => by
    rcases List.mem_cons.mp hq with rfl | hq
    · exact h.1
    · exact npUp_prime h.2.2 q hq
theorem npM_dvd : ∀ {l : List (Nat × Nat)} (q : Nat × Nat), q ∈ l → q.1 ^ q.2 ∣ npM l
  | [], q, hq => by cases hq
  | (p, e) :: r, q, hq => by
    rcases List.mem_cons.mp hq with rfl | hq
    · exact Nat.dvd_mul_right _ _
    · exact Nat.dvd_trans (npM_dvd q hq) (Nat.dvd_mul_left _ _)
theorem npM_prime {p : Nat} (hp : npP p) : ∀ {l : List (Nat × Nat)}, (∀ q, q ∈ l → npP q.1) → p ∣ npM l → ∃ q, q ∈ l ∧ q.1 = p
  | [], _, h => by
    have := Nat.le_of_dvd (by decide) h
    have := hp.1
    simp [npM] at *
    omega
  | (a, e) :: r, hl, h => by
    rcases np_euclid hp h with h | h
    · have h2 := np_euclid_pow hp e h
      exact ⟨(a, e), List.mem_cons_self, (np_eq hp (hl _ List.mem_cons_self) h2).symm⟩
    · obtain ⟨q, hq, e2⟩ := npM_prime hp (fun q hq => hl q (List.mem_cons_of_mem _ hq)) h
      exact ⟨q, List.mem_cons_of_mem _ hq, e2⟩
theorem npM_all {d : Nat} : ∀ {l : List (Nat × Nat)}, npUp l → (∀ q, q ∈ l → q.1 ^ q.2 ∣ d) → npM l ∣ d
  | [], _, _ => Nat.one_dvd d
  | (p, e) :: r, h, hd => by
    refine Nat.Coprime.mul_dvd_of_dvd_of_dvd ?_ (hd _ List.mem_cons_self) (npM_all h.2.2 (fun q hq => hd q (List.mem_cons_of_mem _ hq)))
    refine Nat.Coprime.pow_left e (np_cop h.1 (fun hx => ?_))
    obtain ⟨q, hq, e2⟩ := npM_prime h.1 (npUp_prime h.2.2) hx
    have := h.2.1 q hq
    omega
theorem np_least {N : Nat} (hN : 2 ≤ N) (hn : ¬ npP N) : ∃ q, npP q ∧ q ∣ N ∧ q * q ≤ N := by
  have h1 : ∃ d, d ∣ N ∧ d ≠ 1 ∧ d ≠ N := by
    apply Classical.byContradiction
    intro h
    apply hn
    refine ⟨hN, fun d hd => ?_⟩
    by_cases a : d = 1
    · exact Or.inl a
    · by_cases b : d = N
      · exact Or.inr b
      · exact absurd ⟨d, hd, a, b⟩ h
  obtain ⟨d, ⟨c, hc⟩, d1, d2⟩ := h1
  have hd0 : d ≠ 0 := by intro e; subst e; omega
  have hc0 : c ≠ 0 := by intro e; subst e; omega
  have hc1 : c ≠ 1 := by intro e; subst e; omega
  have key : ∀ x y : Nat, 2 ≤ x → x ≤ y → N = x * y → ∃ q, npP q ∧ q ∣ N ∧ q * q ≤ N := by
    intro x y hx hxy e
    obtain ⟨q, hq, hqx⟩ := np_factor x hx
    have hle := Nat.le_of_dvd (by omega) hqx
    refine ⟨q, hq, Nat.dvd_trans hqx ⟨y, e⟩, ?_⟩
    rw [e]
    exact Nat.mul_le_mul hle (Nat.le_trans hle hxy)
  rcases Nat.le_total d c with h | h
  · exact key d c (by omega) h hc
  · exact key c d (by omega) h (by rw [hc, Nat.mul_comm])
/-- Pocklington: F, the product of powers of primes, divides N - 1, F * F is above N, and each prime has a witness -/
theorem np_pock {N : Nat} (hN : 2 ≤ N) {l : List (Nat × Nat)} (hl : npUp l) (hpos : ∀ q, q ∈ l → 0 < q.2) (hF : npM l ∣ N - 1) (hF2 : N < npM l * npM l)
    (hw : ∀ q, q ∈ l → ∃ a, a ^ (N - 1) % N = 1 % N ∧ ∀ d, d ∣ N → a ^ ((N - 1) / q.1) % d = 1 % d → d = 1) : npP N := by
  apply Classical.byContradiction
  intro hn
  obtain ⟨q, hq, hqN, hqq⟩ := np_least hN hn
  have h1 : npM l ∣ q - 1 := by
    refine npM_all hl (fun x hx => ?_)
    obtain ⟨a, h1, h2⟩ := hw x hx
    have hx1 : x.1 ∣ x.1 ^ x.2 := by
      have := Nat.pow_dvd_pow x.1 (show 1 ≤ x.2 from hpos x hx)
      rwa [Nat.pow_one] at this
    exact np_part hq hqN (npUp_prime hl x hx) (Nat.dvd_trans (npM_dvd x hx) hF) (Nat.dvd_trans hx1 (Nat.dvd_trans (npM_dvd x hx) hF)) h1 h2
  have hq2 := hq.1
  have h2 := Nat.le_of_dvd (by omega) h1
  have h3 : npM l * npM l ≤ q * q := Nat.mul_le_mul (by omega) (by omega)
  omega
/-- Lucas: the powers of a come back to 1 at N - 1, and at no (N - 1) / p -/
theorem np_lucas {N a : Nat} (hN : 2 ≤ N) (h1 : a ^ (N - 1) % N = 1 % N) (h2 : ∀ p, npP p → p ∣ N - 1 → a ^ ((N - 1) / p) % N ≠ 1 % N) : npP N := by
  have hno : ∀ k, 0 < k → k < N - 1 → a ^ k % N ≠ 1 % N := by
    intro k hk hk2 hk3
    have hg := np_gcd_pow k (N - 1) hk3 h1
    obtain ⟨t, ht⟩ := Nat.gcd_dvd_right k (N - 1)
    have hgk := Nat.le_of_dvd hk (Nat.gcd_dvd_left k (N - 1))
    generalize Nat.gcd k (N - 1) = g at hg ht hgk
    have ht2 : 2 ≤ t := by
      rcases Nat.lt_or_ge t 2 with h | h
      · exfalso
        have : g * t ≤ g * 1 := Nat.mul_le_mul_left g (by omega)
        omega
      · exact h
    obtain ⟨p, hp, s, hs⟩ := np_factor t ht2
    have hp2 := hp.1
    have e1 : (N - 1) / p = g * s := by
      rw [ht, hs, ← Nat.mul_assoc, Nat.mul_comm g p, Nat.mul_assoc, Nat.mul_div_cancel_left _ (by omega)]
    refine h2 p hp ⟨g * s, ?_⟩ ?_
    · rw [ht, hs, ← Nat.mul_assoc, Nat.mul_comm g p, Nat.mul_assoc]
    · rw [e1, Nat.pow_mul]
      exact np_pow_one hg s
  have hca : ∀ k, Nat.Coprime N (a ^ k) := by
    intro k
    refine Nat.Coprime.pow_right k ?_
    rcases Nat.lt_or_ge (N - 1) 1 with h | h
    · omega
    · apply Classical.byContradiction
      intro hc
      have hd1 := Nat.gcd_dvd_left N a
      have hd2 := Nat.gcd_dvd_right N a
      have hg0 : Nat.gcd N a ≠ 1 := hc
      generalize Nat.gcd N a = g at hd1 hd2 hg0
      have h3 : g ∣ a ^ (N - 1) := Nat.dvd_trans hd2 (by have := Nat.pow_dvd_pow a h; rwa [Nat.pow_one] at this)
      have h4 : g ∣ a ^ (N - 1) % N := (Nat.dvd_mod_iff hd1).mpr h3
      rw [h1, Nat.mod_eq_of_lt (by omega)] at h4
      exact hg0 (Nat.dvd_one.mp h4)
  have hnd : ((List.range (N - 1)).map (fun k => a ^ k % N)).Nodup := by
    refine np_nodup_map _ List.nodup_range ?_
    have key : ∀ x y, x < y → y < N - 1 → a ^ x % N = a ^ y % N → False := by
      intro x y hxy hy e
      have e2 : a ^ y = a ^ x * a ^ (y - x) := by rw [← Nat.pow_add]; congr 1; omega
      rw [e2] at e
      have e3 : (a ^ x * 1) % N = (a ^ x * a ^ (y - x)) % N := by rw [Nat.mul_one]; exact e
      exact hno (y - x) (by omega) (by omega) (np_cancel (hca x) e3).symm
    intro x hx y hy e
    rw [List.mem_range] at hx hy
    rcases Nat.lt_trichotomy x y with h | h | h
    · exact (key x y h hy e).elim
    · exact h
    · exact (key y x h hx e.symm).elim
  have hperm : List.Perm ((List.range (N - 1)).map (fun k => a ^ k % N)) (List.range' 1 (N - 1)) := by
    refine np_perm _ _ hnd (fun z hz => ?_) (by simp)
    obtain ⟨k, hk, rfl⟩ := List.mem_map.mp hz
    rw [List.mem_range'_1]
    have hlt := Nat.mod_lt (a ^ k) (show 0 < N by omega)
    refine ⟨?_, by omega⟩
    apply Nat.pos_of_ne_zero
    intro e
    have h3 : N ∣ a ^ k := Nat.dvd_of_mod_eq_zero e
    have := (hca k).eq_one_of_dvd h3
    omega
  refine ⟨hN, fun d hd => ?_⟩
  by_cases hdN : d = N
  · exact Or.inr hdN
  · left
    have hd1 := Nat.le_of_dvd (by omega) hd
    have hd0 : d ≠ 0 := by
      intro e
      subst e
      have := Nat.eq_zero_of_zero_dvd hd
      omega
    have hm : d ∈ List.range' 1 (N - 1) := by rw [List.mem_range'_1]; omega
    obtain ⟨k, hk, e⟩ := List.mem_map.mp (hperm.mem_iff.mpr hm)
    have h3 : d ∣ a ^ k := by
      have h4 : d ∣ a ^ k % N := e ▸ Nat.dvd_refl _
      exact (Nat.dvd_mod_iff hd).mp h4
    have hc := hca k
    exact Nat.Coprime.eq_one_of_dvd (Nat.Coprime.coprime_dvd_left hd hc) h3
