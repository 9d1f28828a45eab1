/-! numbers written with digits: pv B d n, the value of the n lowest digits d to the base B -/
def pv (B : Nat) (d : Nat → Nat) : Nat → Nat
  | 0 => 0
  | n + 1 => pv B d n + d n * B ^ n
theorem pv_0 (B : Nat) (d : Nat → Nat) : pv B d 0 = 0 := rfl
theorem pv_s (B : Nat) (d : Nat → Nat) (n : Nat) : pv B d (n + 1) = pv B d n + d n * B ^ n := rfl
theorem pv_congr {B : Nat} {d e : Nat → Nat} : ∀ {n : Nat}, (∀ i, i < n → d i = e i) → pv B d n = pv B e n
  | 0, _ => rfl
  | n + 1, h => by
    rw [pv_s, pv_s, pv_congr (fun i hi => h i (by omega)), h n (by omega)]
theorem pv_lt {B : Nat} {d : Nat → Nat} : ∀ {n : Nat}, (∀ i, i < n → d i < B) → pv B d n < B ^ n
  | 0, _ => by simp [pv]
  | n + 1, h => by
    have ih := pv_lt (n := n) (fun i hi => h i (by omega))
    have hn := h n (by omega)
    rw [pv_s, Nat.pow_succ]
    have h2 : (d n + 1) * B ^ n ≤ B * B ^ n := Nat.mul_le_mul_right _ hn
    rw [Nat.add_mul, Nat.one_mul] at h2
    rw [Nat.mul_comm (B ^ n) B]
    omega
theorem pv_add (B : Nat) (d : Nat → Nat) (m : Nat) : ∀ n : Nat, pv B d (m + n) = pv B d m + B ^ m * pv B (fun i => d (m + i)) n
  | 0 => by simp [pv]
  | n + 1 => by
    rw [← Nat.add_assoc, pv_s, pv_add B d m n, pv_s, Nat.mul_add, Nat.pow_add]
    simp only [Nat.mul_comm, Nat.mul_left_comm, Nat.mul_assoc, Nat.add_assoc]
theorem pv_zeros {B : Nat} {d : Nat → Nat} : ∀ {n : Nat}, (∀ i, i < n → d i = 0) → pv B d n = 0
  | 0, _ => rfl
  | n + 1, h => by rw [pv_s, pv_zeros (fun i hi => h i (by omega)), h n (by omega)]; simp
theorem pv_ext {B : Nat} {d : Nat → Nat} {m n : Nat} (hmn : m ≤ n) (h : ∀ i, m ≤ i → i < n → d i = 0) : pv B d n = pv B d m := by
  obtain ⟨k, rfl⟩ := Nat.exists_eq_add_of_le hmn
  rw [pv_add, pv_zeros (fun i hi => h (m + i) (by omega) (by omega))]
  simp
theorem pv_le {B : Nat} {d : Nat → Nat} {m n : Nat} (hmn : m ≤ n) : pv B d m ≤ pv B d n := by
  obtain ⟨k, rfl⟩ := Nat.exists_eq_add_of_le hmn
  rw [pv_add]
  omega
theorem pv_ge {B : Nat} {d : Nat → Nat} {k n : Nat} (hk : k < n) : d k * B ^ k ≤ pv B d n := by
  have h := pv_le (B := B) (d := d) (show k + 1 ≤ n from hk)
  rw [pv_s] at h
  omega
theorem pv_eq0 {B : Nat} (hB : 0 < B) {d : Nat → Nat} {n : Nat} (h : pv B d n = 0) : ∀ i, i < n → d i = 0 := by
  intro i hi
  have h1 := pv_ge (B := B) (d := d) hi
  rw [h] at h1
  have h2 : 0 < B ^ i := Nat.pow_pos hB
  rcases Nat.eq_zero_or_pos (d i) with h3 | h3
  · exact h3
  · have := Nat.mul_pos h3 h2
    omega
/-- the highest digit in which two numbers differ decides -/
theorem pv_lex {B : Nat} {d e : Nat → Nat} {k n : Nat} (hk : k < n) (hd : ∀ i, i < n → d i < B) (hs : ∀ i, k < i → i < n → d i = e i) (hlt : d k < e k) : pv B d n < pv B e n := by
  obtain ⟨m, rfl⟩ := Nat.exists_eq_add_of_le (show k + 1 ≤ n from hk)
  rw [pv_add, pv_add B e]
  have h1 : pv B (fun i => d (k + 1 + i)) m = pv B (fun i => e (k + 1 + i)) m := pv_congr (fun i hi => hs _ (by omega) (by omega))
  rw [h1]
  have h2 := pv_lt (B := B) (d := d) (n := k) (fun i hi => hd i (by omega))
  have h3 : (d k + 1) * B ^ k ≤ e k * B ^ k := Nat.mul_le_mul_right _ hlt
  rw [Nat.add_mul, Nat.one_mul] at h3
  rw [pv_s, pv_s]
  omega
theorem pv_inj {B : Nat} {d e : Nat → Nat} : ∀ {n : Nat}, (∀ i, i < n → d i < B) → (∀ i, i < n → e i < B) → pv B d n = pv B e n → ∀ i, i < n → d i = e i
  | 0, _, _, _, i, hi => by omega
  | n + 1, hd, he, h, i, hi => by
    have top : d n = e n := by
      rcases Nat.lt_trichotomy (d n) (e n) with h1 | h1 | h1
      · have := pv_lex (B := B) (k := n) (n := n + 1) (by omega) hd (fun i h2 h3 => by omega) h1
        omega
      · exact h1
      · have := pv_lex (B := B) (k := n) (n := n + 1) (by omega) he (fun i h2 h3 => by omega) h1
        omega
    rw [pv_s, pv_s, top] at h
    rcases Nat.lt_or_ge i n with h1 | h1
    · exact pv_inj (n := n) (fun i hi => hd i (by omega)) (fun i hi => he i (by omega)) (by omega) i h1
    · have : i = n := by omega
      rw [this]
      exact top
/-- one digit changed -/
theorem pv_up {B : Nat} {d : Nat → Nat} {k x : Nat} {n : Nat} (hk : n ≤ k) : pv B (fun i => if i = k then x else d i) n = pv B d n := pv_congr (fun i hi => if_neg (by omega))
/-- digits of a number -/
def dgt (B v i : Nat) : Nat := v / B ^ i % B
theorem pv_dgt {B : Nat} (v : Nat) : ∀ n : Nat, pv B (dgt B v) n = v % B ^ n
  | 0 => by simp [pv, Nat.mod_one]
  | n + 1 => by
    rw [pv_s, pv_dgt v n, Nat.mod_pow_succ, dgt, Nat.mul_comm]
