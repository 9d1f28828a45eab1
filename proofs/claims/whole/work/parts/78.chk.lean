/-! both checks are one: tapes that agree below s, lines already known right -/
section
variable {t t' N N' : Nat → Nat} {s l c : Nat}
theorem rdNum_T (ht : ∀ i, i < s → t' i = t i) : rdNum t' s c = rdNum t s c := by
  unfold rdNum
  by_cases h1 : c < s
  · rw [if_pos h1, if_pos h1, ht c h1]
    by_cases h2 : 1 ≤ t c ∧ t c ≤ 8
    · rw [if_pos h2, if_pos h2]
      by_cases h3 : c + t c < s
      · have e : numv t' c = numv t c := by
          unfold numv
          rw [ht c h1]
          exact pv_congr (fun i hi => ht _ (by omega))
        rw [if_pos h3, if_pos h3, ht _ h3, e]
      · rw [if_neg h3, if_neg h3]
    · rw [if_neg h2, if_neg h2]
  · rw [if_neg h1, if_neg h1]
theorem rdSm_T (ht : ∀ i, i < s → t' i = t i) : rdSm t' s c = rdSm t s c := by
  unfold rdSm
  by_cases h1 : c < s
  · rw [if_pos h1, if_pos h1, ht c h1]
  · rw [if_neg h1, if_neg h1]
theorem rdRt_T (ht : ∀ i, i < s → t' i = t i) (V : Nat) : rdRt t' s V c = rdRt t s V c := by
  unfold rdRt
  by_cases h1 : c < s
  · rw [if_pos h1, if_pos h1, ht c h1]
  · rw [if_neg h1, if_neg h1]
theorem rdFac_T (ht : ∀ i, i < s → t' i = t i) {w : Nat} (hw : w = 2 ∨ w = 3) : ∀ (k f : Nat), (f = 0 ∨ c + 1 + w * (f - 1) < s) → rdFac t' s N l w c k f = rdFac t s N l w c k f
  | 0, f, _ => rfl
  | k + 1, f, hf => by
    rw [rdFac, rdFac]
    by_cases h1 : c + 1 + w * f < s
    · have ih := rdFac_T ht hw k (f + 1) (Or.inr h1)
      have e1 : (f = 0 ∨ N (t' (c + 1 + w * (f - 1))) < N (t (c + 1 + w * f))) = (f = 0 ∨ N (t (c + 1 + w * (f - 1))) < N (t (c + 1 + w * f))) := by
        rcases hf with z | z
        · rw [eq_true z, true_or, true_or]
        · rw [ht _ z]
      rw [if_pos h1, if_pos h1, ht _ h1, ih]
      by_cases h2 : c + 1 + w * f + 1 < s
      · rw [if_pos h2, if_pos h2, ht _ h2]
        split
        · by_cases h3 : f = 0 ∨ N (t (c + 1 + w * (f - 1))) < N (t (c + 1 + w * f))
          · rw [if_pos h3, if_pos (by rw [e1]; exact h3)]
          · rw [if_neg h3, if_neg (by rw [e1]; exact h3)]
        · rfl
      · rw [if_neg h2, if_neg h2]
        split
        · by_cases h3 : f = 0 ∨ N (t (c + 1 + w * (f - 1))) < N (t (c + 1 + w * f))
          · rw [if_pos h3, if_pos (by rw [e1]; exact h3)]
          · rw [if_neg h3, if_neg (by rw [e1]; exact h3)]
        · rfl
    · rw [if_neg h1, if_neg h1]
theorem rdFacs_T (ht : ∀ i, i < s → t' i = t i) {w : Nat} (hw : w = 2 ∨ w = 3) : rdFacs t' s N l w c = rdFacs t s N l w c := by
  unfold rdFacs
  by_cases h1 : c < s
  · rw [if_pos h1, if_pos h1, ht c h1, rdFac_T ht hw (t c) 0 (Or.inl rfl)]
  · rw [if_neg h1, if_neg h1]
theorem rl_T (ht : ∀ i, i < s → t' i = t i) (hc : c < s) : rl t' s N l c = rl t s N l c := by
  unfold rl
  rw [ht c hc, rdNum_T ht]
  by_cases h2 : t c = 2
  · rw [if_pos h2, if_pos h2]
    split
    · rfl
    · rw [rdRt_T ht, rdFacs_T ht (Or.inl rfl)]
  · rw [if_neg h2, if_neg h2]
    split
    · rfl
    · rw [rdFacs_T ht (Or.inr rfl)]
theorem rdLine_T (ht : ∀ i, i < s → t' i = t i) (hc : c < s) : rdLine t' s N l c = rdLine t s N l c := by
  by_cases h1 : t c = 1
  · rw [rdLine_1 h1, rdLine_1 (by rw [ht c hc]; exact h1), rdSm_T ht]
  · by_cases h2 : t c = 2
    · rw [rdLine_2 h2, rdLine_2 (by rw [ht c hc]; exact h2), rl_T ht hc]
      cases hx : rl t s N l c with
      | error e => rfl
      | ok y =>
        obtain ⟨V, c1⟩ := y
        obtain ⟨a1, a2, a3⟩ := rl_ok2 h2 hx
        obtain ⟨b1, b2, b3, b4⟩ := rdFacs_ok (Or.inl rfl) a3
        dsimp only
        rw [ts2_loc (t := t) (t' := t') (N' := N) (l := l) (ht _ (by omega)) (ht _ (by omega)) (fun i hi => ht _ (by omega)) (fun j hj => (b4 j hj).1) (fun _ _ => rfl), ht (c1 + 1) (by omega)]
    · by_cases h3 : t c = 3
      · rw [rdLine_3 h3, rdLine_3 (by rw [ht c hc]; exact h3), rl_T ht hc]
        cases hx : rl t s N l c with
        | error e => rfl
        | ok y =>
          obtain ⟨V, c1⟩ := y
          obtain ⟨a1, a3⟩ := rl_ok3 h2 hx
          obtain ⟨b1, b2, b3, b4⟩ := rdFacs_ok (Or.inr rfl) a3
          dsimp only
          rw [ts3_loc (t := t) (t' := t') (N' := N) (l := l) (ht _ (by omega)) (fun i hi => ht _ (by omega)) (fun j hj => (b4 j hj).1) (fun _ _ => rfl), ht c1 (by omega)]
      · rw [rdLine_0 h1 h2 h3, rdLine_0 (by rw [ht c hc]; exact h1) (by rw [ht c hc]; exact h2) (by rw [ht c hc]; exact h3)]
def Rq (r r' : Except (Nat × Nat) (Nat × (Nat → Nat))) : Prop := match r, r' with
  | .error e, .error e' => e = e'
  | .ok y, .ok y' => y.1 = y'.1 ∧ ∀ i, i < y.1 → y.2 i = y'.2 i
  | _, _ => False
theorem chkF_cong (ht : ∀ i, i < s → t' i = t i) : ∀ (k l c : Nat) {N N' : Nat → Nat}, (∀ i, i < l → N' i = N i) → Rq (chkF t s k l c N) (chkF t' s k l c N')
  | 0, l, c, N, N', hN => ⟨rfl, fun i hi => (hN i hi).symm⟩
  | k + 1, l, c, N, N', hN => by
    unfold chkF
    by_cases hc : c < s
    · rw [if_pos hc, if_pos hc]
      by_cases hl : l < 200
      · rw [if_pos hl, if_pos hl, rdLine_T ht hc, rdLine_N hN]
        cases rdLine t s N l c with
        | error e => exact rfl
        | ok y => exact chkF_cong ht k (l + 1) y.2 (fun i hi => by
            by_cases e : i = l
            · rw [e, gu_s, gu_s]
            · rw [gu_n e, gu_n e, hN i (by omega)])
      · rw [if_neg hl, if_neg hl]
        exact rfl
    · rw [if_neg hc, if_neg hc]
      exact ⟨rfl, fun i hi => (hN i hi).symm⟩
theorem chkF_skip {E : Nat → Nat} {n : Nat} (hR : Right t s E N n) (hn : n ≤ 200) : ∀ (d i : Nat) {N0 : Nat → Nat}, i + d = n → (∀ j, j < i → N0 j = N j) → Rq (chkF t s (200 - n + 1) n (stt E n) N) (chkF t s (200 - i + 1) i (stt E i) N0)
  | 0, i, N0, e, h => by
    have ei : i = n := by omega
    subst ei
    exact chkF_cong (fun _ _ => rfl) _ _ _ h
  | d + 1, i, N0, e, h => by
    have st := hR.step (i := i) (by omega)
    have ih := chkF_skip hR hn d (i + 1) (N0 := gu N0 i (N i)) (by omega) (fun j hj => by
      by_cases z : j = i
      · rw [z, gu_s]
      · rw [gu_n z, h j (by omega)])
    have e1 : chkF t s (200 - i + 1) i (stt E i) N0 = chkF t s (200 - (i + 1) + 1) (i + 1) (stt E (i + 1)) (gu N0 i (N i)) := by
      rw [show 200 - i + 1 = (200 - (i + 1) + 1) + 1 by omega]
      rw [chkF, if_pos (by omega), if_pos (by omega), rdLine_N h, hR i (by omega), stt_s]
    rw [e1]
    exact ih
theorem chk_pair {E : Nat → Nat} {n : Nat} (hR : Right t s E N n) (hn : n ≤ 200) (ht : ∀ i, i < s → t' i = t i) (N0 : Nat → Nat) : Rq (chkF t s (200 - n + 1) n (stt E n) N) (chkF t' s 201 0 0 N0) := by
  have h1 := chkF_skip hR hn n 0 (N0 := N0) (by omega) (fun j hj => by omega)
  have h2 := chkF_cong ht 201 0 0 (N := N0) (N' := N0) (fun _ _ => rfl)
  rw [stt_0] at h1
  revert h1 h2
  cases chkF t s (200 - n + 1) n (stt E n) N with
  | error e =>
    cases chkF t s (200 - 0 + 1) 0 0 N0 with
    | error e1 =>
      cases chkF t' s 201 0 0 N0 with
      | error e2 => exact fun h1 h2 => Eq.trans h1 h2
      | ok y => exact fun _ h2 => h2
    | ok y1 => exact fun h1 _ => h1.elim
  | ok y =>
    cases chkF t s (200 - 0 + 1) 0 0 N0 with
    | error e1 => exact fun h1 _ => h1.elim
    | ok y1 =>
      cases chkF t' s 201 0 0 N0 with
      | error e2 => exact fun _ h2 => h2
      | ok y2 => exact fun h1 h2 => ⟨h1.1.trans h2.1, fun i hi => (h1.2 i hi).trans (h2.2 i (by have := h1.1; omega))⟩
end
