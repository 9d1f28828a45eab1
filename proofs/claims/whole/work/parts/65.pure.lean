/-! what a line says: over the tape's ints as natural numbers, both readers keep to this -/
noncomputable def spB (p : Nat) : Bool := @decide (npP p) (Classical.propDecidable _)
theorem spB_t {p : Nat} : spB p = true ↔ npP p := by
  unfold spB
  exact @decide_eq_true_iff (npP p) (Classical.propDecidable _)
theorem spB_f {p : Nat} : spB p = false ↔ ¬ npP p := by
  rw [← spB_t]
  cases spB p <;> simp
abbrev rE : Type := Except (Nat × Nat) (Nat × Nat)
abbrev rU : Type := Except (Nat × Nat) Unit
abbrev isWit (a V : Nat) : Prop := 2 ≤ a ∧ a < 2147483648 ∧ a < V
/-- a number of t c words from c + 1 on -/
def numv (t : Nat → Nat) (c : Nat) : Nat := pv 4294967296 (fun i => t (c + 1 + i)) (t c)
def rdNum (t : Nat → Nat) (s c : Nat) : rE :=
  if c < s then
    if 1 ≤ t c ∧ t c ≤ 8 then
      if c + t c < s then
        if t (c + t c) = 0 then .error (2, c + t c)
        else if numv t c < 3 then .error (4, c)
        else .ok (numv t c, c + 1 + t c)
      else .error (1, s)
    else .error (2, c)
  else .error (1, s)
/-- factors from the f-th on, k of them; w ints each -/
def rdFac (t : Nat → Nat) (s : Nat) (N : Nat → Nat) (l w c : Nat) : Nat → Nat → rU
  | 0, _ => .ok ()
  | k + 1, f =>
    if c + 1 + w * f < s then
      if t (c + 1 + w * f) < l then
        if f = 0 ∨ N (t (c + 1 + w * (f - 1))) < N (t (c + 1 + w * f)) then
          if c + 1 + w * f + 1 < s then
            if 1 ≤ t (c + 1 + w * f + 1) ∧ t (c + 1 + w * f + 1) ≤ 255 then
              if w = 2 ∨ c + 1 + w * f + 2 < s then rdFac t s N l w c k (f + 1)
              else .error (1, s)
            else .error (2, c + 1 + w * f + 1)
          else .error (1, s)
        else .error (5, c + 1 + w * f)
      else .error (2, c + 1 + w * f)
    else .error (1, s)
def rdFacs (t : Nat → Nat) (s : Nat) (N : Nat → Nat) (l w c : Nat) : rU :=
  if c < s then
    if 1 ≤ t c ∧ t c ≤ 40 then rdFac t s N l w c (t c) 0
    else .error (2, c)
  else .error (1, s)
/-- P times q, e times, while it is a number -/
def mulE (q : Nat) : Nat → Nat → Option Nat
  | 0, P => some P
  | e + 1, P => if P * q < B8 then mulE q e (P * q) else none
def mulF (t : Nat → Nat) (N : Nat → Nat) (w c : Nat) : Nat → Nat → Nat → Option Nat
  | 0, _, P => some P
  | k + 1, f, P => match mulE (N (t (c + 1 + w * f))) (t (c + 1 + w * f + 1)) P with
    | some P' => mulF t N w c k (f + 1) P'
    | none => none
/-- a to the (V - 1) / q, modulo V -/
def pwq (a q V : Nat) : Nat := a ^ ((V - 1) / q) % V
def closes (a V : Nat) : Prop := a ^ (V - 1) % V = 1
/-- a parts everywhere: what is one less than the power has nothing in common with V -/
def pvn (a q V : Nat) : Nat := if pwq a q V = 0 then V - 1 else pwq a q V - 1
def pev (a q V : Nat) : Prop := Nat.gcd (pvn a q V) V = 1
def tRoot (t : Nat → Nat) (N : Nat → Nat) (V a c : Nat) : Nat → Nat → rU
  | 0, _ => .ok ()
  | k + 1, f => if pwq a (N (t (c + 1 + 2 * f))) V = 1 then .error (10, c + 1 + 2 * f) else tRoot t N V a c k (f + 1)
def tWit (t : Nat → Nat) (V c : Nat) : Nat → Nat → rU
  | 0, _ => .ok ()
  | k + 1, f => if isWit (t (c + 1 + 3 * f + 2)) V then tWit t V c k (f + 1) else .error (8, c + 1 + 3 * f + 2)
def tPart (t : Nat → Nat) (N : Nat → Nat) (V c : Nat) : Nat → Nat → rU
  | 0, _ => .ok ()
  | k + 1, f =>
    if t (c + 1 + 3 * f + 2) ^ (V - 1) % V = 1 then
      if Nat.gcd (pvn (t (c + 1 + 3 * f + 2)) (N (t (c + 1 + 3 * f))) V) V = 1 then tPart t N V c k (f + 1)
      else .error (10, c + 1 + 3 * f)
    else .error (9, c + 1 + 3 * f + 2)
noncomputable def rdSm (t : Nat → Nat) (s c : Nat) : rE :=
  if c < s then
    if t c ≤ 65535 ∧ spB (t c) = true then .ok (t c, c + 1) else .error (3, c)
  else .error (1, s)
/-- the tests of a line of kind 2, number V, root at c, factors from c + 1 on -/
def ts2 (t : Nat → Nat) (N : Nat → Nat) (V c : Nat) : rU :=
  if mulF t N 2 (c + 1) (t (c + 1)) 0 1 = some (V - 1) then
    if t c ^ (V - 1) % V = 1 then tRoot t N V (t c) (c + 1) (t (c + 1)) 0
    else .error (9, c)
  else .error (6, c + 1)
/-- the tests of a line of kind 3, number V, factors from c on -/
def ts3 (t : Nat → Nat) (N : Nat → Nat) (V c : Nat) : rU :=
  match mulF t N 3 c (t c) 0 1 with
  | none => .error (6, c)
  | some P =>
    if (V - 1) % P = 0 then
      if V < P * P then
        match tWit t V c (t c) 0 with
        | .error e => .error e
        | .ok _ => tPart t N V c (t c) 0
      else .error (7, c)
    else .error (6, c)
def rd2 (t : Nat → Nat) (s : Nat) (N : Nat → Nat) (l c : Nat) : rE :=
  match rdNum t s c with
  | .error e => .error e
  | .ok (V, c1) =>
    if c1 < s then
      if isWit (t c1) V then
        match rdFacs t s N l 2 (c1 + 1) with
        | .error e => .error e
        | .ok _ => match ts2 t N V c1 with
          | .error e => .error e
          | .ok _ => .ok (V, c1 + 1 + 1 + 2 * t (c1 + 1))
      else .error (8, c1)
    else .error (1, s)
def rd3 (t : Nat → Nat) (s : Nat) (N : Nat → Nat) (l c : Nat) : rE :=
  match rdNum t s c with
  | .error e => .error e
  | .ok (V, c1) =>
    match rdFacs t s N l 3 c1 with
    | .error e => .error e
    | .ok _ => match ts3 t N V c1 with
      | .error e => .error e
      | .ok _ => .ok (V, c1 + 1 + 3 * t c1)
/-- the line that begins at c < s -/
noncomputable def rdLine (t : Nat → Nat) (s : Nat) (N : Nat → Nat) (l c : Nat) : rE :=
  if t c = 1 then rdSm t s (c + 1)
  else if t c = 2 then rd2 t s N l (c + 1)
  else if t c = 3 then rd3 t s N l (c + 1)
  else .error (2, c)
-- a right line stays right while its ints and the numbers of the lines ahead stay
theorem rdNum_ok {t : Nat → Nat} {s c V e : Nat} (h : rdNum t s c = .ok (V, e)) : c < s ∧ 1 ≤ t c ∧ t c ≤ 8 ∧ c + t c < s ∧ t (c + t c) ≠ 0 ∧ 3 ≤ numv t c ∧ V = numv t c ∧ e = c + 1 + t c := by
  unfold rdNum at h
  split at h
  · split at h
    · split at h
      · split at h
        · cases h
        · split at h
          · cases h
          · rename_i h1 h2 h3 h4 h5
            cases h
            exact ⟨h1, h2.1, h2.2, h3, h4, by omega, rfl, rfl⟩
      · cases h
    · cases h
  · cases h
theorem rdNum_mk {t : Nat → Nat} {s c : Nat} (h1 : 1 ≤ t c) (h2 : t c ≤ 8) (h3 : c + t c < s) (h4 : t (c + t c) ≠ 0) (h5 : 3 ≤ numv t c) : rdNum t s c = .ok (numv t c, c + 1 + t c) := by
  unfold rdNum
  rw [if_pos (by omega), if_pos ⟨h1, h2⟩, if_pos h3, if_neg h4, if_neg (by omega)]
theorem rdNum_loc {t t' : Nat → Nat} {s s' c V e : Nat} (h : rdNum t s c = .ok (V, e)) (ht : ∀ i, i < e → t' i = t i) (hs : e ≤ s') : rdNum t' s' c = .ok (V, e) := by
  obtain ⟨h1, h2, h3, h4, h5, h6, h7, h8⟩ := rdNum_ok h
  have e1 : t' c = t c := ht c (by omega)
  have e2 : numv t' c = numv t c := by
    unfold numv
    rw [e1]
    exact pv_congr (fun i hi => ht _ (by omega))
  have := rdNum_mk (t := t') (s := s') (c := c) (by omega) (by omega) (by omega) (by rw [e1, ht _ (by omega)]; exact h5) (by omega)
  rw [this, e2, e1, ← h7, ← h8]
theorem rdFac_ok {t : Nat → Nat} {s : Nat} {N : Nat → Nat} {l w c : Nat} (hw : w = 2 ∨ w = 3) : ∀ {k f : Nat}, rdFac t s N l w c k f = .ok () → ∀ j, f ≤ j → j < f + k → c + 1 + w * j + w ≤ s ∧ t (c + 1 + w * j) < l ∧ (j = 0 ∨ N (t (c + 1 + w * (j - 1))) < N (t (c + 1 + w * j))) ∧ 1 ≤ t (c + 1 + w * j + 1) ∧ t (c + 1 + w * j + 1) ≤ 255
  | 0, f, _, j, h1, h2 => by omega
  | k + 1, f, h, j, h1, h2 => by
    unfold rdFac at h
    split at h
    · split at h
      · split at h
        · split at h
          · split at h
            · split at h
              · rename_i a1 a2 a3 a4 a5 a6
                by_cases e : j = f
                · subst e
                  exact ⟨by omega, a2, a3, a5.1, a5.2⟩
                · exact rdFac_ok hw h j (by omega) (by omega)
              · cases h
            · cases h
          · cases h
        · cases h
      · cases h
    · cases h
theorem rdFac_mk {t : Nat → Nat} {s : Nat} {N : Nat → Nat} {l w c : Nat} (hw : w = 2 ∨ w = 3) : ∀ {k f : Nat}, (∀ j, f ≤ j → j < f + k → c + 1 + w * j + w ≤ s ∧ t (c + 1 + w * j) < l ∧ (j = 0 ∨ N (t (c + 1 + w * (j - 1))) < N (t (c + 1 + w * j))) ∧ 1 ≤ t (c + 1 + w * j + 1) ∧ t (c + 1 + w * j + 1) ≤ 255) → rdFac t s N l w c k f = .ok ()
  | 0, f, _ => rfl
  | k + 1, f, h => by
    obtain ⟨h1, h2, h3, h4, h5⟩ := h f (by omega) (by omega)
    unfold rdFac
    rw [if_pos (by omega), if_pos h2, if_pos h3, if_pos (by omega), if_pos ⟨h4, h5⟩, if_pos (by omega)]
    exact rdFac_mk hw (fun j hj1 hj2 => h j (by omega) (by omega))
theorem rdFacs_ok {t : Nat → Nat} {s : Nat} {N : Nat → Nat} {l w c : Nat} (hw : w = 2 ∨ w = 3) (h : rdFacs t s N l w c = .ok ()) : 1 ≤ t c ∧ t c ≤ 40 ∧ c + 1 + w * t c ≤ s ∧ ∀ j, j < t c → t (c + 1 + w * j) < l ∧ (j = 0 ∨ N (t (c + 1 + w * (j - 1))) < N (t (c + 1 + w * j))) ∧ 1 ≤ t (c + 1 + w * j + 1) ∧ t (c + 1 + w * j + 1) ≤ 255 := by
  unfold rdFacs at h
  split at h
  · split at h
    · rename_i h1 h2
      have h3 := rdFac_ok hw h
      refine ⟨h2.1, h2.2, ?_, fun j hj => (h3 j (by omega) (by omega)).2⟩
      have h4 := (h3 (t c - 1) (by omega) (by omega)).1
      obtain ⟨m, hm⟩ : ∃ m, t c = m + 1 := ⟨t c - 1, by omega⟩
      rw [hm, Nat.add_sub_cancel] at h4
      rw [hm, Nat.mul_add, Nat.mul_one]
      omega
    · cases h
  · cases h
theorem rdFacs_mk {t : Nat → Nat} {s : Nat} {N : Nat → Nat} {l w c : Nat} (hw : w = 2 ∨ w = 3) (h1 : 1 ≤ t c) (h2 : t c ≤ 40) (h3 : c + 1 + w * t c ≤ s) (h4 : ∀ j, j < t c → t (c + 1 + w * j) < l ∧ (j = 0 ∨ N (t (c + 1 + w * (j - 1))) < N (t (c + 1 + w * j))) ∧ 1 ≤ t (c + 1 + w * j + 1) ∧ t (c + 1 + w * j + 1) ≤ 255) : rdFacs t s N l w c = .ok () := by
  have h5 : ∀ j, j < t c → w * j + w ≤ w * t c := fun j hj => by
    have := Nat.mul_le_mul_left w (show j + 1 ≤ t c from hj)
    rw [Nat.mul_add, Nat.mul_one] at this
    exact this
  have := h5 0 (by omega)
  unfold rdFacs
  rw [if_pos (by omega), if_pos ⟨h1, h2⟩]
  exact rdFac_mk hw (fun j _ hj => ⟨by have := h5 j (by omega); omega, h4 j (by omega)⟩)
theorem rdFacs_loc {t t' : Nat → Nat} {s s' : Nat} {N N' : Nat → Nat} {l w c : Nat} (hw : w = 2 ∨ w = 3) (h : rdFacs t s N l w c = .ok ()) (ht : ∀ i, i < c + 1 + w * t c → t' i = t i) (hs : c + 1 + w * t c ≤ s') (hN : ∀ i, i < l → N' i = N i) : rdFacs t' s' N' l w c = .ok () := by
  obtain ⟨h1, h2, h3, h4⟩ := rdFacs_ok hw h
  have e1 : t' c = t c := ht c (by omega)
  have h5 : ∀ j, j < t c → w * j + w ≤ w * t c := fun j hj => by
    have := Nat.mul_le_mul_left w (show j + 1 ≤ t c from hj)
    rw [Nat.mul_add, Nat.mul_one] at this
    exact this
  refine rdFacs_mk hw (by omega) (by omega) (by rw [e1]; exact hs) (fun j hj => ?_)
  rw [e1] at hj
  obtain ⟨a1, a2, a3, a4⟩ := h4 j hj
  have h6 := h5 j hj
  rw [ht (c + 1 + w * j) (by omega), ht (c + 1 + w * j + 1) (by omega)]
  refine ⟨a1, ?_, a3, a4⟩
  rcases a2 with a2 | a2
  · exact Or.inl a2
  · rcases Nat.eq_zero_or_pos j with e | e
    · exact Or.inl e
    · have h7 := h5 (j - 1) (by omega)
      rw [ht (c + 1 + w * (j - 1)) (by omega), hN _ a1, hN _ (h4 (j - 1) (by omega)).1]
      exact Or.inr a2
theorem mulF_loc {t t' : Nat → Nat} {N N' : Nat → Nat} {w c : Nat} : ∀ {k f P : Nat}, (∀ j, f ≤ j → j < f + k → N' (t' (c + 1 + w * j)) = N (t (c + 1 + w * j)) ∧ t' (c + 1 + w * j + 1) = t (c + 1 + w * j + 1)) → mulF t' N' w c k f P = mulF t N w c k f P
  | 0, f, P, _ => rfl
  | k + 1, f, P, h => by
    obtain ⟨h1, h2⟩ := h f (by omega) (by omega)
    unfold mulF
    rw [h1, h2]
    split
    · exact mulF_loc (fun j hj1 hj2 => h j (by omega) (by omega))
    · rfl
theorem tRoot_loc {t t' : Nat → Nat} {N N' : Nat → Nat} {V a c : Nat} : ∀ {k f : Nat}, (∀ j, f ≤ j → j < f + k → N' (t' (c + 1 + 2 * j)) = N (t (c + 1 + 2 * j))) → tRoot t' N' V a c k f = tRoot t N V a c k f
  | 0, f, _ => rfl
  | k + 1, f, h => by
    unfold tRoot
    rw [h f (by omega) (by omega), tRoot_loc (k := k) (fun j hj1 hj2 => h j (by omega) (by omega))]
theorem tWit_loc {t t' : Nat → Nat} {V c : Nat} : ∀ {k f : Nat}, (∀ j, f ≤ j → j < f + k → t' (c + 1 + 3 * j + 2) = t (c + 1 + 3 * j + 2)) → tWit t' V c k f = tWit t V c k f
  | 0, f, _ => rfl
  | k + 1, f, h => by
    unfold tWit
    rw [h f (by omega) (by omega), tWit_loc (k := k) (fun j hj1 hj2 => h j (by omega) (by omega))]
theorem tPart_loc {t t' : Nat → Nat} {N N' : Nat → Nat} {V c : Nat} : ∀ {k f : Nat}, (∀ j, f ≤ j → j < f + k → N' (t' (c + 1 + 3 * j)) = N (t (c + 1 + 3 * j)) ∧ t' (c + 1 + 3 * j + 2) = t (c + 1 + 3 * j + 2)) → tPart t' N' V c k f = tPart t N V c k f
  | 0, f, _ => rfl
  | k + 1, f, h => by
    unfold tPart
    rw [(h f (by omega) (by omega)).1, (h f (by omega) (by omega)).2, tPart_loc (k := k) (fun j hj1 hj2 => h j (by omega) (by omega))]
theorem ts2_loc {t t' : Nat → Nat} {N N' : Nat → Nat} {V c l : Nat} (hc : t' c = t c) (hm : t' (c + 1) = t (c + 1)) (ht : ∀ i, i < c + 1 + 1 + 2 * t (c + 1) → t' i = t i) (hl : ∀ j, j < t (c + 1) → t (c + 1 + 1 + 2 * j) < l) (hN : ∀ i, i < l → N' i = N i) : ts2 t' N' V c = ts2 t N V c := by
  unfold ts2
  rw [hc, hm, mulF_loc (k := t (c + 1)) (f := 0) (fun j _ hj => by rw [ht (c + 1 + 1 + 2 * j) (by omega), ht (c + 1 + 1 + 2 * j + 1) (by omega), hN _ (hl j (by omega))]; exact ⟨rfl, rfl⟩), tRoot_loc (k := t (c + 1)) (f := 0) (fun j _ hj => by rw [ht (c + 1 + 1 + 2 * j) (by omega), hN _ (hl j (by omega))])]
theorem ts3_loc {t t' : Nat → Nat} {N N' : Nat → Nat} {V c l : Nat} (hc : t' c = t c) (ht : ∀ i, i < c + 1 + 3 * t c → t' i = t i) (hl : ∀ j, j < t c → t (c + 1 + 3 * j) < l) (hN : ∀ i, i < l → N' i = N i) : ts3 t' N' V c = ts3 t N V c := by
  unfold ts3
  rw [hc, mulF_loc (k := t c) (f := 0) (fun j _ hj => by rw [ht (c + 1 + 3 * j) (by omega), ht (c + 1 + 3 * j + 1) (by omega), hN _ (hl j (by omega))]; exact ⟨rfl, rfl⟩), tWit_loc (k := t c) (f := 0) (fun j _ hj => by rw [ht (c + 1 + 3 * j + 2) (by omega)]), tPart_loc (k := t c) (f := 0) (fun j _ hj => by rw [ht (c + 1 + 3 * j) (by omega), ht (c + 1 + 3 * j + 2) (by omega), hN _ (hl j (by omega))]; exact ⟨rfl, rfl⟩)]
theorem rd2_ok {t : Nat → Nat} {s : Nat} {N : Nat → Nat} {l c V e : Nat} (h : rd2 t s N l c = .ok (V, e)) : ∃ c1, rdNum t s c = .ok (V, c1) ∧ c1 < s ∧ isWit (t c1) V ∧ rdFacs t s N l 2 (c1 + 1) = .ok () ∧ ts2 t N V c1 = .ok () ∧ e = c1 + 1 + 1 + 2 * t (c1 + 1) := by
  unfold rd2 at h
  split at h
  · cases h
  · rename_i V' c1 hn
    split at h
    · split at h
      · split at h
        · cases h
        · split at h
          · cases h
          · rename_i h1 h2 _ _ h3 _ _ h4
            cases h
            exact ⟨c1, hn, h1, h2, h3, h4, rfl⟩
      · cases h
    · cases h
theorem rd2_mk {t : Nat → Nat} {s : Nat} {N : Nat → Nat} {l c V c1 : Nat} (h1 : rdNum t s c = .ok (V, c1)) (h2 : c1 < s) (h3 : isWit (t c1) V) (h4 : rdFacs t s N l 2 (c1 + 1) = .ok ()) (h5 : ts2 t N V c1 = .ok ()) : rd2 t s N l c = .ok (V, c1 + 1 + 1 + 2 * t (c1 + 1)) := by
  unfold rd2
  rw [h1]
  dsimp only
  rw [if_pos h2, if_pos h3, h4]
  dsimp only
  rw [h5]
theorem rd3_ok {t : Nat → Nat} {s : Nat} {N : Nat → Nat} {l c V e : Nat} (h : rd3 t s N l c = .ok (V, e)) : ∃ c1, rdNum t s c = .ok (V, c1) ∧ rdFacs t s N l 3 c1 = .ok () ∧ ts3 t N V c1 = .ok () ∧ e = c1 + 1 + 3 * t c1 := by
  unfold rd3 at h
  split at h
  · cases h
  · rename_i V' c1 hn
    split at h
    · cases h
    · split at h
      · cases h
      · rename_i _ _ h3 _ _ h4
        cases h
        exact ⟨c1, hn, h3, h4, rfl⟩
theorem rd3_mk {t : Nat → Nat} {s : Nat} {N : Nat → Nat} {l c V c1 : Nat} (h1 : rdNum t s c = .ok (V, c1)) (h4 : rdFacs t s N l 3 c1 = .ok ()) (h5 : ts3 t N V c1 = .ok ()) : rd3 t s N l c = .ok (V, c1 + 1 + 3 * t c1) := by
  unfold rd3
  rw [h1]
  dsimp only
  rw [h4]
  dsimp only
  rw [h5]
theorem rdSm_ok {t : Nat → Nat} {s c V e : Nat} (h : rdSm t s c = .ok (V, e)) : c < s ∧ t c ≤ 65535 ∧ npP (t c) ∧ V = t c ∧ e = c + 1 := by
  unfold rdSm at h
  split at h
  · split at h
    · rename_i h1 h2
      cases h
      exact ⟨h1, h2.1, spB_t.mp h2.2, rfl, rfl⟩
    · cases h
  · cases h
theorem rdSm_mk {t : Nat → Nat} {s c : Nat} (h1 : c < s) (h2 : t c ≤ 65535) (h3 : npP (t c)) : rdSm t s c = .ok (t c, c + 1) := by
  unfold rdSm
  rw [if_pos h1, if_pos ⟨h2, spB_t.mpr h3⟩]
theorem rdLine_loc {t t' : Nat → Nat} {s s' : Nat} {N N' : Nat → Nat} {l c V e : Nat} (h : rdLine t s N l c = .ok (V, e)) (ht : ∀ i, i < e → t' i = t i) (hs : e ≤ s') (hN : ∀ i, i < l → N' i = N i) : c < e ∧ e ≤ s ∧ rdLine t' s' N' l c = .ok (V, e) := by
  unfold rdLine at h
  split at h
  · rename_i h1
    obtain ⟨a1, a2, a3, a4, a5⟩ := rdSm_ok h
    subst a5
    refine ⟨by omega, by omega, ?_⟩
    unfold rdLine
    rw [if_pos (by rw [ht c (by omega)]; exact h1)]
    have e1 : t' (c + 1) = t (c + 1) := ht _ (by omega)
    rw [rdSm_mk (by omega) (by rw [e1]; exact a2) (by rw [e1]; exact a3), e1, a4]
  · split at h
    · rename_i h1 h2
      obtain ⟨c1, b1, b2, b3, b4, b5, b6⟩ := rd2_ok h
      obtain ⟨d1, d2, d3, d4, d5, d6, d7, d8⟩ := rdNum_ok b1
      obtain ⟨f1, f2, f3, f4⟩ := rdFacs_ok (Or.inl rfl) b4
      refine ⟨by omega, by omega, ?_⟩
      unfold rdLine
      rw [ht c (by omega), if_neg h1, if_pos h2]
      have e1 : t' c1 = t c1 := ht _ (by omega)
      have e2 : t' (c1 + 1) = t (c1 + 1) := ht _ (by omega)
      have k1 := rdNum_loc (t' := t') (s' := s') b1 (fun i hi => ht i (by omega)) (by omega)
      have k2 := rdFacs_loc (t' := t') (s' := s') (N' := N') (Or.inl rfl) b4 (fun i hi => ht i (by omega)) (by omega) hN
      have k3 := ts2_loc (t' := t') (N' := N') (V := V) (l := l) e1 e2 (fun i hi => ht i (by omega)) (fun j hj => (f4 j hj).1) hN
      rw [rd2_mk k1 (by omega) (by rw [e1]; exact b3) k2 (by rw [k3]; exact b5), e2, b6]
    · split at h
      · rename_i h1 h2 h3
        obtain ⟨c1, b1, b4, b5, b6⟩ := rd3_ok h
        obtain ⟨d1, d2, d3, d4, d5, d6, d7, d8⟩ := rdNum_ok b1
        obtain ⟨f1, f2, f3, f4⟩ := rdFacs_ok (Or.inr rfl) b4
        refine ⟨by omega, by omega, ?_⟩
        unfold rdLine
        rw [ht c (by omega), if_neg h1, if_neg h2, if_pos h3]
        have e1 : t' c1 = t c1 := ht _ (by omega)
        have k1 := rdNum_loc (t' := t') (s' := s') b1 (fun i hi => ht i (by omega)) (by omega)
        have k2 := rdFacs_loc (t' := t') (s' := s') (N' := N') (Or.inr rfl) b4 (fun i hi => ht i (by omega)) (by omega) hN
        have k3 := ts3_loc (t' := t') (N' := N') (V := V) (l := l) e1 (fun i hi => ht i (by omega)) (fun j hj => (f4 j hj).1) hN
        rw [rd3_mk k1 k2 (by rw [k3]; exact b5), e1, b6]
      · cases h
