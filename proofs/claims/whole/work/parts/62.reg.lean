/-! the class's calls on registers -/
def isReg (i : Int32) : Bool := decide (¬ i < 0) && decide (i < 8)
theorem isReg_ex {i : Int32} (h : isReg i = true) : ∃ r, r < 8 ∧ i = nI r := by
  unfold isReg at h
  rw [Bool.and_eq_true, decide_eq_true_eq, decide_eq_true_eq] at h
  rcases pk_ix i (n := 8) (by decide) with h1 | h1 | ⟨j, h1, h2⟩
  · exact absurd h1 h.1
  · exact absurd h.2 (Int32.not_lt.mpr h1)
  · exact ⟨j, h1, h2⟩
theorem isReg_nI {r : Nat} (h : r < 8) : isReg (nI r) = true := by
  unfold isReg
  rw [Bool.and_eq_true, decide_eq_true_eq, decide_eq_true_eq]
  exact ⟨nI_pos (by omega), by rw [show (8 : Int32) = nI 8 from rfl]; exact nI_lt h (by decide)⟩
theorem ite_reg (i : Int32) {α : Type} (a b c : α) (ha : a = c) : (if i < 0 then a else if i < 8 then b else c) = if isReg i = true then b else c := by
  unfold isReg
  by_cases h1 : i < 0
  · rw [if_pos h1, if_neg (by simp [h1])]
    exact ha
  · rw [if_neg h1]
    by_cases h2 : i < 8
    · rw [if_pos h2, if_pos (by rw [Bool.and_eq_true, decide_eq_true_eq, decide_eq_true_eq]; exact ⟨h1, h2⟩)]
    · rw [if_neg h2, if_neg (by rw [Bool.and_eq_true, decide_eq_true_eq, decide_eq_true_eq]; exact fun q => h2 q.2)]
theorem ite_bI (b : Bool) {h : dzH} : (if b = true then (some (some (.int (1 : Int32)), h) : Option dzR) else some (some (.int (0 : Int32)), h)) = some (some (.int (bI b)), h) := by
  cases b <;> rfl
theorem sp_isReg (i : Int32) (h : dzH) : c_P_isRegister i h = some (bI (isReg i), h) := by
  rw [cc_P_isRegister, q_P_isRegister_0, ite_reg i _ _ _ rfl, ite_bI]
  rfl
theorem sp_isWord (i : Int32) (h : dzH) : c_P_isWord i h = some (bI (isReg i), h) := by
  rw [cc_P_isWord, q_P_isWord_0, ite_reg i _ _ _ rfl, ite_bI]
  rfl
theorem sp_MisReg (i : Int32) (h : dzH) : c_M_isRegister i h = some (bI (isReg i), h) := by
  rw [cc_M_isRegister, q_M_isRegister_0, ite_reg i _ _ _ rfl, ite_bI]
  rfl
theorem sp_are (i j k : Int32) (h : dzH) : c_P_areRegisters i j k h = some (bI (isReg i && isReg j && isReg k), h) := by
  rw [cc_P_areRegisters, q_P_areRegisters_0, sp_isReg, Option.bind_some]
  dsimp only
  rw [sp_isReg, Option.bind_some]
  dsimp only
  rw [sp_isReg, Option.bind_some]
  dsimp only
  cases isReg i <;> cases isReg j <;> cases isReg k <;> rfl
theorem sp_Mare (i j k : Int32) (h : dzH) : c_M_are i j k h = some (bI (isReg i && isReg j && isReg k), h) := by
  rw [cc_M_are, q_M_are_0, sp_MisReg, Option.bind_some]
  dsimp only
  rw [sp_MisReg, Option.bind_some]
  dsimp only
  rw [sp_MisReg, Option.bind_some]
  dsimp only
  cases isReg i <;> cases isReg j <;> cases isReg k <;> rfl
theorem are_t {a b c : Nat} (ha : a < 8) (hb : b < 8) (hc : c < 8) : (isReg (nI a) && isReg (nI b) && isReg (nI c)) = true := by
  rw [isReg_nI ha, isReg_nI hb, isReg_nI hc]
  rfl
theorem bI_n1 : ¬ bI true = 0 := by decide
section
variable {A : Nat} {h : dzH} {o : Nat → Int32} {v : Nat → Nat} {T E : Nat → Int32} {F : Nat → Nat → Int32}
theorem CW.ob (w : CW A h o v T E F) : ∃ fs, h.2 A = some (eO 0 fs) := ⟨_, w.1 0 _ rfl⟩
theorem g_rg (w : CW A h o v T E F) {r : Nat} (hr : r < 8) : drA h (A + 1) (nI r) = some (A + (2 + r)) := by rw [g_reg w hr, Nat.add_assoc]
theorem isR_r {r : Nat} (hr : r < 8) : isR (2 + r) := by unfold isR; omega
theorem isR_10 : isR 10 := by unfold isR; omega
theorem isR_11 : isR 11 := by unfold isR; omega
theorem nS_r {k : Nat} (hk : isR k) : ¬ inS (A + 12) (A + k) := by unfold isR at hk; unfold inS; omega
theorem fr_C1 {h h' : dzH} {k : Nat} (hf : fr h h' (fun q => q = A + k)) (hk : k < 247) : fr h h' (inC A) := hf.mono (fun q hq => by unfold inC; omega)
theorem fr_CS {h h' : dzH} {k : Nat} (hf : fr h h' (fun q => inS (A + 12) q ∨ q = A + k)) (hk : k < 247) : fr h h' (inC A) := hf.mono (fun q hq => by unfold inS at hq; unfold inC; omega)
theorem sp_keep (w : CW A h o v T E F) {t : Nat} (ht : t < 8) : ∃ h', c_P_keepAnswer A (nI t) h = some (0, h') ∧ CW A h' o (gu v (2 + t) (v 10)) T E F ∧ fr h h' (inC A) := by
  obtain ⟨fs, ho⟩ := w.ob
  obtain ⟨h1, a1, a2, a3⟩ := sp_copy8 (w.row isR_10) (w.row (isR_r ht)).row
  refine ⟨h1, ?_, w.rowup (isR_r ht) (by omega) (fun e => by omega) a2 a3, fr_C1 a3 (by omega)⟩
  rw [cc_P_keepAnswer _ _ _ ho, q_P_keepAnswer_0, g_p1 w, Option.bind_some, g_p0 w, Option.bind_some, g_rg w ht, Option.bind_some, a1, Option.bind_some]
  rfl
/-- what the calls on registers leave: registers by R', the rest as it was -/
def RegTo (A : Nat) (h h' : dzH) (o : Nat → Int32) (v : Nat → Nat) (T E : Nat → Int32) (F : Nat → Nat → Int32) (R' : Nat → Nat) : Prop := ∃ v', CW A h' o v' T E F ∧ fr h h' (inC A) ∧ (∀ k, 11 < k → v' k = v k) ∧ ∀ r, r < 8 → v' (2 + r) = R' r
theorem RegTo.same (w : CW A h o v T E F) {R : Nat → Nat} (hR : ∀ r, r < 8 → v (2 + r) = R r) : RegTo A h h o v T E F R := ⟨v, w, fr.rf _ _, fun _ _ => rfl, hR⟩
/-- the answer's row goes to a register -/
theorem keepTo (w : CW A h o v T E F) {h1 : dzH} {x y : Nat} (w1 : CW A h1 o (gu (gu v 11 y) 10 x) T E F ∨ CW A h1 o (gu v 10 x) T E F) (hf : fr h h1 (inC A)) {R : Nat → Nat} (hR : ∀ r, r < 8 → v (2 + r) = R r) {t : Nat} (ht : t < 8) : ∃ h', c_P_keepAnswer A (nI t) h1 = some (0, h') ∧ RegTo A h h' o v T E F (gu R t x) := by
  have main : ∀ v1, CW A h1 o v1 T E F → v1 10 = x → (∀ k, 11 < k → v1 k = v k) → (∀ r, r < 8 → v1 (2 + r) = R r) → ∃ h', c_P_keepAnswer A (nI t) h1 = some (0, h') ∧ RegTo A h h' o v T E F (gu R t x) := by
    intro v1 w1 e10 e1 e2
    obtain ⟨h', a1, a2, a3⟩ := sp_keep w1 ht
    refine ⟨h', a1, _, a2, hf.tr a3, fun k hk => by rw [gu_n (by omega), e1 k hk], fun r hr => ?_⟩
    by_cases e : r = t
    · subst e
      rw [gu_s, gu_s, e10]
    · rw [gu_n (by omega), gu_n e, e2 r hr]
  rcases w1 with w1 | w1
  · exact main _ w1 (gu_s _ _ _) (fun k hk => by rw [gu_n (by omega), gu_n (by omega)]) (fun r hr => by rw [gu_n (by omega), gu_n (by omega), hR r hr])
  · exact main _ w1 (gu_s _ _ _) (fun k hk => by rw [gu_n (by omega)]) (fun r hr => by rw [gu_n (by omega), hR r hr])
theorem RegTo.ans (w : CW A h o v T E F) {h1 : dzH} {x : Nat} (w1 : CW A h1 o (gu v 10 x) T E F) (hf : fr h h1 (inC A)) {R : Nat → Nat} (hR : ∀ r, r < 8 → v (2 + r) = R r) : RegTo A h h1 o v T E F R :=
  ⟨_, w1, hf, fun k hk => gu_n (by omega), fun r hr => by rw [gu_n (by omega), hR r hr]⟩
theorem cl_add (w : CW A h o v T E F) {R : Nat → Nat} (hR : ∀ r, r < 8 → v (2 + r) = R r) {a b t : Nat} (ha : a < 8) (hb : b < 8) (ht : t < 8) :
    ∃ h', c_P_add A (nI a) (nI b) (nI t) h = some (if R a + R b < B8 then 0 else -3, h') ∧ RegTo A h h' o v T E F (if R a + R b < B8 then gu R t (R a + R b) else R) := by
  obtain ⟨fs, ho⟩ := w.ob
  obtain ⟨h1, a1, a2, a3⟩ := sp_sum (w.row (isR_r ha)) (w.row (isR_r hb)) (w.row isR_10).row
  rw [hR a ha, hR b hb] at a1 a2
  have w1 := w.rowup isR_10 (by omega) (fun e => by omega) a2 a3
  have hf := fr_C1 a3 (by omega)
  rw [cc_P_add _ _ _ _ _ ho, q_P_add_0, sp_are, Option.bind_some, are_t ha hb ht]
  dsimp only
  rw [if_neg bI_n1, g_p0 w, Option.bind_some, g_rg w ha, Option.bind_some, Option.bind_some, g_rg w hb, Option.bind_some, g_p1 w, Option.bind_some, a1, Option.bind_some]
  dsimp only
  by_cases hlt : R a + R b < B8
  · rw [Nat.mod_eq_of_lt hlt] at w1
    obtain ⟨h', b1, b2⟩ := keepTo (y := 0) w (Or.inr w1) hf hR ht
    rw [decide_eq_true hlt, if_neg bI_n1, b1, Option.bind_some, if_pos hlt, if_pos hlt]
    exact ⟨h', rfl, b2⟩
  · rw [decide_eq_false hlt, if_pos bI_f, if_neg hlt, if_neg hlt]
    exact ⟨h1, rfl, .ans w w1 hf hR⟩
theorem cl_sub (w : CW A h o v T E F) {R : Nat → Nat} (hR : ∀ r, r < 8 → v (2 + r) = R r) {a b t : Nat} (ha : a < 8) (hb : b < 8) (ht : t < 8) :
    ∃ h', c_P_subtract A (nI a) (nI b) (nI t) h = some (if R b ≤ R a then 0 else -2, h') ∧ RegTo A h h' o v T E F (if R b ≤ R a then gu R t (R a - R b) else R) := by
  obtain ⟨fs, ho⟩ := w.ob
  obtain ⟨h1, x, a1, a2, ax, a3⟩ := sp_diff (w.row (isR_r ha)) (w.row (isR_r hb)) (w.row isR_10).row
  rw [hR a ha, hR b hb] at a1 ax
  have w1 := w.rowup isR_10 (by omega) (fun e => by omega) a2 a3
  have hf := fr_C1 a3 (by omega)
  rw [cc_P_subtract _ _ _ _ _ ho, q_P_subtract_0, sp_are, Option.bind_some, are_t ha hb ht]
  dsimp only
  rw [if_neg bI_n1, g_p0 w, Option.bind_some, g_rg w ha, Option.bind_some, Option.bind_some, g_rg w hb, Option.bind_some, g_p1 w, Option.bind_some, a1, Option.bind_some]
  dsimp only
  by_cases hlt : R b ≤ R a
  · rw [ax hlt] at w1
    obtain ⟨h', b1, b2⟩ := keepTo (y := 0) w (Or.inr w1) hf hR ht
    rw [decide_eq_true hlt, if_neg bI_n1, b1, Option.bind_some, if_pos hlt, if_pos hlt]
    exact ⟨h', rfl, b2⟩
  · rw [decide_eq_false hlt, if_pos bI_f, if_neg hlt, if_neg hlt]
    exact ⟨h1, rfl, .ans w w1 hf hR⟩
theorem cl_mul (w : CW A h o v T E F) {R : Nat → Nat} (hR : ∀ r, r < 8 → v (2 + r) = R r) {a b t : Nat} (ha : a < 8) (hb : b < 8) (ht : t < 8) :
    ∃ h', c_P_multiply A (nI a) (nI b) (nI t) h = some (if R a * R b < B8 then 0 else -3, h') ∧ RegTo A h h' o v T E F (if R a * R b < B8 then gu R t (R a * R b) else R) := by
  obtain ⟨fs, ho⟩ := w.ob
  obtain ⟨h1, a1, a2, a3, a4, a5⟩ := sp_product w.sums (w.row (isR_r ha)) (w.row (isR_r hb)) (w.row isR_10).row (nS_r (isR_r ha)) (nS_r (isR_r hb)) (nS_r isR_10)
  rw [hR a ha, hR b hb] at a1 a3 a4
  have hf := fr_CS a5 (by omega)
  rw [cc_P_multiply _ _ _ _ _ ho, q_P_multiply_0, sp_are, Option.bind_some, are_t ha hb ht]
  dsimp only
  rw [if_neg bI_n1, g_p3 w, Option.bind_some, g_p0 w, Option.bind_some, g_rg w ha, Option.bind_some, Option.bind_some, g_rg w hb, Option.bind_some, g_p1 w, Option.bind_some, a1, Option.bind_some]
  dsimp only
  by_cases hlt : R a * R b < B8
  · have w1 := w.rowop isR_10 (by omega) (fun e => by omega) a2 (a3 hlt) a5
    obtain ⟨h', b1, b2⟩ := keepTo (y := 0) w (Or.inr w1) hf hR ht
    rw [decide_eq_true hlt, if_neg bI_n1, b1, Option.bind_some, if_pos hlt, if_pos hlt]
    exact ⟨h', rfl, b2⟩
  · have w1 := w.rowop isR_10 (by omega) (fun e => by omega) a2 ((w.row isR_10).eq (a4 hlt)) a5
    rw [decide_eq_false hlt, if_pos bI_f, if_neg hlt, if_neg hlt]
    exact ⟨h1, rfl, .ans w w1 hf hR⟩
theorem sp_isZ {k : Nat} (w : CW A h o v T E F) (hk : isR k) : c_Sums_isZero (A + k) h = some (bI (decide (v k = 0)), h) := by
  obtain ⟨f, h1, h2⟩ := w.row hk
  rw [sp_isZero h1 (by decide), h2]
theorem cl_div (w : CW A h o v T E F) {R : Nat → Nat} (hR : ∀ r, r < 8 → v (2 + r) = R r) {a b t s : Nat} (ha : a < 8) (hb : b < 8) (ht : t < 8) (hs : s < 8) (hts : t ≠ s) :
    ∃ h', c_P_divide A (nI a) (nI b) (nI t) (nI s) h = some (if R b = 0 then -2 else 0, h') ∧ RegTo A h h' o v T E F (if R b = 0 then R else gu (gu R s (R a % R b)) t (R a / R b)) := by
  obtain ⟨fs, ho⟩ := w.ob
  rw [cc_P_divide _ _ _ _ _ _ ho, q_P_divide_0, sp_are, Option.bind_some, are_t ha hb ht]
  dsimp only
  rw [if_neg bI_n1, sp_isReg, Option.bind_some, isReg_nI hs]
  dsimp only
  rw [if_neg bI_n1, if_neg (fun q => hts ((nI_eq (by omega) (by omega)).mp q)), g_p0 w, Option.bind_some, g_rg w hb, Option.bind_some, sp_isZ w (isR_r hb), Option.bind_some]
  dsimp only
  rw [hR b hb]
  by_cases h0 : R b = 0
  · rw [decide_eq_true h0, if_neg bI_n1, if_pos h0, if_pos h0]
    exact ⟨h, rfl, .same w hR⟩
  · obtain ⟨h1, a1, a2, a3, a4, a5⟩ := sp_quotient w.sums (w.row (isR_r ha)) (w.row (isR_r hb)) (by rw [hR b hb]; omega) (w.row isR_10).row (w.row isR_11).row (nS_r (isR_r ha)) (nS_r isR_10) (nS_r isR_11) (by omega)
    rw [hR a ha, hR b hb] at a2 a3
    have w1 : CW A h1 o (gu (gu v 11 (R a % R b)) 10 (R a / R b)) T E F := by
      refine w.rows a4 (fun j hj => ?_) (fun q h1 h2 => a5.2 q (fun z => ?_)) ?_ ?_
      · by_cases e : j = 10
        · subst e; rw [gu_s]; exact a2
        · rw [gu_n e]
          by_cases e2 : j = 11
          · subst e2; rw [gu_s]; exact a3
          · rw [gu_n e2]
            exact (w.row hj).eq (a5.2 _ (fun z => by unfold isR at hj; unfold inS at z; omega))
      · rcases z with z | z | z
        · exact h1 z
        · exact h2 10 isR_10 z
        · exact h2 11 isR_11 z
      · rw [gu_n (by omega), gu_n (by omega)]; exact w.2.2.2.1
      · rw [gu_n (by omega), gu_n (by omega)]; exact w.2.2.2.2
    have hf : fr h h1 (inC A) := a5.mono (fun q hq => by unfold inS at hq; unfold inC; omega)
    obtain ⟨h2, b1, b2, b3⟩ := sp_copy8 (w1.row isR_11) (w1.row (isR_r hs)).row
    have w2 := w1.rowup (isR_r hs) (by omega) (fun e => by omega) b2 b3
    have hf2 := hf.tr (fr_C1 b3 (by omega))
    obtain ⟨h3, c1, c2, c3⟩ := sp_keep w2 ht
    rw [decide_eq_false h0, if_pos bI_f, g_p3 w, Option.bind_some, g_p0 w, Option.bind_some, g_rg w ha, Option.bind_some, Option.bind_some, g_rg w hb, Option.bind_some, g_p1 w, Option.bind_some, g_p2 w, Option.bind_some, a1, Option.bind_some, g_p2 w1, Option.bind_some, g_p0 w1, Option.bind_some, g_rg w1 hs, Option.bind_some, b1, Option.bind_some, c1, Option.bind_some, if_neg h0, if_neg h0]
    refine ⟨h3, rfl, _, c2, hf2.tr c3, fun k hk => by rw [gu_n (by omega), gu_n (by omega), gu_n (by omega), gu_n (by omega)], fun r hr => ?_⟩
    by_cases e : r = t
    · subst e
      rw [gu_s, gu_s, gu_n (by omega), gu_s]
    · rw [gu_n (by omega), gu_n e]
      by_cases e2 : r = s
      · subst e2
        rw [gu_s, gu_s, gu_n (by omega), gu_s]
      · rw [gu_n (by omega), gu_n e2, gu_n (by omega), gu_n (by omega), hR r hr]
theorem cl_pow (w : CW A h o v T E F) {R : Nat → Nat} (hR : ∀ r, r < 8 → v (2 + r) = R r) {a b m t : Nat} (ha : a < 8) (hb : b < 8) (hm : m < 8) (ht : t < 8) :
    ∃ h', c_P_power A (nI a) (nI b) (nI m) (nI t) h = some (if R m = 0 then -2 else 0, h') ∧ RegTo A h h' o v T E F (if R m = 0 then R else gu R t (R a ^ R b % R m)) := by
  obtain ⟨fs, ho⟩ := w.ob
  rw [cc_P_power _ _ _ _ _ _ ho, q_P_power_0, sp_are, Option.bind_some, are_t ha hb ht]
  dsimp only
  rw [if_neg bI_n1, sp_isReg, Option.bind_some, isReg_nI hm]
  dsimp only
  rw [if_neg bI_n1, g_p0 w, Option.bind_some, g_rg w hm, Option.bind_some, sp_isZ w (isR_r hm), Option.bind_some]
  dsimp only
  rw [hR m hm]
  by_cases h0 : R m = 0
  · rw [decide_eq_true h0, if_neg bI_n1, if_pos h0, if_pos h0]
    exact ⟨h, rfl, .same w hR⟩
  · obtain ⟨h1, a1, a2, a3, a4⟩ := sp_power w.sums (w.row (isR_r ha)) (w.row (isR_r hb)) (w.row (isR_r hm)) (by rw [hR m hm]; omega) (w.row isR_10).row (nS_r (isR_r ha)) (nS_r (isR_r hb)) (nS_r isR_10)
    rw [hR a ha, hR b hb, hR m hm] at a2
    have w1 := w.rowop isR_10 (by omega) (fun e => by omega) a3 a2 a4
    obtain ⟨h', b1, b2⟩ := keepTo (y := 0) w (Or.inr w1) (fr_CS a4 (by omega)) hR ht
    rw [decide_eq_false h0, if_pos bI_f, g_p3 w, Option.bind_some, g_p0 w, Option.bind_some, g_rg w ha, Option.bind_some, Option.bind_some, g_rg w hb, Option.bind_some, Option.bind_some, g_rg w hm, Option.bind_some, g_p1 w, Option.bind_some, a1, Option.bind_some, b1, Option.bind_some, if_neg h0, if_neg h0]
    exact ⟨h', rfl, b2⟩
theorem cl_com (w : CW A h o v T E F) {R : Nat → Nat} (hR : ∀ r, r < 8 → v (2 + r) = R r) {a b t : Nat} (ha : a < 8) (hb : b < 8) (ht : t < 8) :
    ∃ h', c_P_common A (nI a) (nI b) (nI t) h = some (0, h') ∧ RegTo A h h' o v T E F (gu R t (Nat.gcd (R a) (R b))) := by
  obtain ⟨fs, ho⟩ := w.ob
  obtain ⟨h1, a1, a2, a3, a4⟩ := sp_gcd w.sums (w.row (isR_r ha)) (w.row (isR_r hb)) (w.row isR_10).row (nS_r (isR_r ha)) (nS_r (isR_r hb)) (nS_r isR_10)
  rw [hR a ha, hR b hb] at a2
  have w1 := w.rowop isR_10 (by omega) (fun e => by omega) a3 a2 a4
  obtain ⟨h', b1, b2⟩ := keepTo (y := 0) w (Or.inr w1) (fr_CS a4 (by omega)) hR ht
  rw [cc_P_common _ _ _ _ _ ho, q_P_common_0, sp_are, Option.bind_some, are_t ha hb ht]
  dsimp only
  rw [if_neg bI_n1, g_p3 w, Option.bind_some, g_p0 w, Option.bind_some, g_rg w ha, Option.bind_some, Option.bind_some, g_rg w hb, Option.bind_some, g_p1 w, Option.bind_some, a1, Option.bind_some, b1, Option.bind_some]
  exact ⟨h', rfl, b2⟩
theorem cl_cmp (w : CW A h o v T E F) {R : Nat → Nat} (hR : ∀ r, r < 8 → v (2 + r) = R r) {a b : Nat} (ha : a < 8) (hb : b < 8) : c_P_compare A (nI a) (nI b) h = some (ordI (R a) (R b), h) := by
  obtain ⟨fs, ho⟩ := w.ob
  rw [cc_P_compare _ _ _ _ ho, q_P_compare_0, sp_isReg, Option.bind_some, isReg_nI ha]
  dsimp only
  rw [if_neg bI_n1, sp_isReg, Option.bind_some, isReg_nI hb]
  dsimp only
  rw [if_neg bI_n1, g_p0 w, Option.bind_some, g_rg w ha, Option.bind_some, Option.bind_some, g_rg w hb, Option.bind_some, sp_order8 (w.row (isR_r ha)) (w.row (isR_r hb)), Option.bind_some, hR a ha, hR b hb]
  rfl
/-- the number v with word i changed to x -/
def putw (v i x : Nat) : Nat := v + x * 4294967296 ^ i - v / 4294967296 ^ i % 4294967296 * 4294967296 ^ i
theorem pv_digit {B : Nat} (hB : 0 < B) {d : Nat → Nat} {n i : Nat} (hd : ∀ i, i < n → d i < B) (hi : i < n) : pv B d n / B ^ i % B = d i := by
  have h1 := pv_add B d i (n - i)
  rw [show i + (n - i) = n by omega] at h1
  have h2 := pv_add B (fun j => d (i + j)) 1 (n - i - 1)
  rw [show 1 + (n - i - 1) = n - i by omega, Nat.pow_one, pv_s, pv_0, Nat.zero_add, Nat.pow_zero, Nat.mul_one] at h2
  have h3 : pv B d i < B ^ i := pv_lt (fun j hj => hd j (by omega))
  have hP : 0 < B ^ i := Nat.pow_pos hB
  rw [h1, Nat.add_mul_div_left _ _ hP, Nat.div_eq_of_lt h3, Nat.zero_add, h2, Nat.add_mul_mod_self_left]
  exact Nat.mod_eq_of_lt (hd i hi)
theorem wv_word (f : Nat → Int32) {i : Nat} (hi : i < 8) : wv f 8 / 4294967296 ^ i % 4294967296 = w32 (f i) := pv_digit (by decide) (fun j _ => w32_lt (f j)) hi
theorem wv_put (f : Nat → Int32) {i : Nat} (hi : i < 8) (x : Int32) : wv (upd f i x) 8 = putw (wv f 8) i (w32 x) := by
  unfold putw
  rw [wv_word f hi]
  have h := wv_mid (f := f) (q := i) (d := x) (n := 8) hi
  omega
theorem cl_put (w : CW A h o v T E F) {R : Nat → Nat} (hR : ∀ r, r < 8 → v (2 + r) = R r) {a i : Nat} (ha : a < 8) (hi : i < 8) (x : Int32) : ∃ h', c_P_put A (nI a) (nI i) x h = some (1, h') ∧ RegTo A h h' o v T E F (gu R a (putw (R a) i (w32 x))) := by
  obtain ⟨fs, ho⟩ := w.ob
  obtain ⟨f, f1, f2⟩ := w.row (isR_r ha)
  have hw := dwI_at x f1 hi (by decide)
  have w1 := w.rowup (h' := hU h (A + (2 + a)) (eI 8 (upd f i x))) (isR_r ha) (by omega) (fun e => by omega) ⟨_, hU_s _ _ _, wv_put f hi x⟩ (fr.up _ _ _)
  rw [cc_P_put _ _ _ _ _ ho, q_P_put_0, sp_isReg, Option.bind_some, isReg_nI ha]
  dsimp only
  rw [if_neg bI_n1, sp_isWord, Option.bind_some, isReg_nI hi]
  dsimp only
  rw [if_neg bI_n1, g_p0 w, Option.bind_some, g_rg w ha, Option.bind_some, hw, Option.bind_some]
  refine ⟨_, rfl, _, w1, fr_C1 (fr.up _ _ _) (by omega), fun k hk => gu_n (by omega), fun r hr => ?_⟩
  by_cases e : r = a
  · subst e
    rw [gu_s, gu_s, f2, hR r hr]
  · rw [gu_n (by omega), gu_n e, hR r hr]
theorem cl_get (w : CW A h o v T E F) {R : Nat → Nat} (hR : ∀ r, r < 8 → v (2 + r) = R r) {a i : Nat} (ha : a < 8) (hi : i < 8) : c_P_get A (nI a) (nI i) h = some (nI (R a / 4294967296 ^ i % 4294967296), h) := by
  obtain ⟨fs, ho⟩ := w.ob
  obtain ⟨f, f1, f2⟩ := w.row (isR_r ha)
  rw [cc_P_get _ _ _ _ ho, q_P_get_0, sp_isReg, Option.bind_some, isReg_nI ha]
  dsimp only
  rw [if_neg bI_n1, sp_isWord, Option.bind_some, isReg_nI hi]
  dsimp only
  rw [if_neg bI_n1, g_p0 w, Option.bind_some, g_rg w ha, Option.bind_some, drI_at f1 hi (by decide), Option.bind_some, ← hR a ha, ← f2, wv_word f hi, nI_w32]
  rfl
end
