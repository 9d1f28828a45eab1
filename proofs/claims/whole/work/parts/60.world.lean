/-! the class's memory, all of it but what Sums keeps for itself -/
def cC (A : Nat) (o : Nat → Int32) (T E : Nat → Int32) (F : Nat → Nat → Int32) (k : Nat) : Option dzE :=
  if k = 0 then some (eO 0 [.ref (A + 1), .ref (A + 10), .ref (A + 11), .ref (A + 12), .ref (A + 20), .ref (A + 22), .ref (A + 232), .ref (A + 238)]) else
  if k = 1 then some (eA 8 (fun i => some (A + 2 + i))) else
  if k = 20 then some (eO 7 [.ref (A + 21), .int (o 0)]) else
  if k = 21 then some (eI 4000 T) else
  if k = 22 then some (eO 4 [.ref (A + 23), .ref (A + 224), .int (o 1), .int (o 2)]) else
  if k = 23 then some (eA 200 (fun i => some (A + 24 + i))) else
  if k = 224 then some (eI 200 E) else
  if k = 225 then some (eO 8 [.ref (A + 12), .ref (A + 226), .ref (A + 227), .ref (A + 228), .ref (A + 229), .ref (A + 230), .ref (A + 231)]) else
  if k = 232 then some (eO 2 [.ref (A + 20), .ref (A + 22), .ref (A + 12), .ref (A + 225), .ref (A + 233), .ref (A + 237), .int (o 3), .int (o 4), .int (o 5), .int (o 6), .int (o 7), .int (o 8), .int (o 9)]) else
  if k = 233 then some (eO 3 [.ref (A + 234), .ref (A + 235), .ref (A + 236), .int (o 10)]) else
  if k = 234 then some (eI 40 (F 0)) else
  if k = 235 then some (eI 40 (F 1)) else
  if k = 236 then some (eI 40 (F 2)) else
  if k = 238 then some (eO 5 [.ref (A + 20), .ref (A + 22), .ref (A + 12), .ref (A + 225), .ref (A + 239), .ref (A + 243), .ref (A + 244), .ref (A + 245), .ref (A + 246), .int (o 11), .int (o 12)]) else
  if k = 239 then some (eO 3 [.ref (A + 240), .ref (A + 241), .ref (A + 242), .int (o 13)]) else
  if k = 240 then some (eI 40 (F 3)) else
  if k = 241 then some (eI 40 (F 4)) else
  if k = 242 then some (eI 40 (F 5)) else
  none
def isR (k : Nat) : Prop := (2 ≤ k ∧ k ≤ 11) ∨ (24 ≤ k ∧ k ≤ 223) ∨ (226 ≤ k ∧ k ≤ 231) ∨ k = 237 ∨ (243 ≤ k ∧ k ≤ 246)
def inC (A q : Nat) : Prop := A ≤ q ∧ q < A + 247
def CW (A : Nat) (h : dzH) (o : Nat → Int32) (v : Nat → Nat) (T E : Nat → Int32) (F : Nat → Nat → Int32) : Prop :=
  (∀ k e, cC A o T E F k = some e → h.2 (A + k) = some e) ∧ SumsOk (A + 12) h ∧ (∀ k, isR k → row8 h (A + k) (v k)) ∧ v 228 = 1 ∧ v 229 < 4294967296
theorem cC_no {A : Nat} {o : Nat → Int32} {T E : Nat → Int32} {F : Nat → Nat → Int32} {k : Nat} {e : dzE} (h : cC A o T E F k = some e) : ¬ isR k ∧ (k < 12 ∨ 19 < k) := by
  unfold cC at h
  unfold isR
  by_cases e0 : k = 0
  · omega
  rw [if_neg e0] at h
  by_cases e1 : k = 1
  · omega
  rw [if_neg e1] at h
  by_cases e20 : k = 20
  · omega
  rw [if_neg e20] at h
  by_cases e21 : k = 21
  · omega
  rw [if_neg e21] at h
  by_cases e22 : k = 22
  · omega
  rw [if_neg e22] at h
  by_cases e23 : k = 23
  · omega
  rw [if_neg e23] at h
  by_cases e224 : k = 224
  · omega
  rw [if_neg e224] at h
  by_cases e225 : k = 225
  · omega
  rw [if_neg e225] at h
  by_cases e232 : k = 232
  · omega
  rw [if_neg e232] at h
  by_cases e233 : k = 233
  · omega
  rw [if_neg e233] at h
  by_cases e234 : k = 234
  · omega
  rw [if_neg e234] at h
  by_cases e235 : k = 235
  · omega
  rw [if_neg e235] at h
  by_cases e236 : k = 236
  · omega
  rw [if_neg e236] at h
  by_cases e238 : k = 238
  · omega
  rw [if_neg e238] at h
  by_cases e239 : k = 239
  · omega
  rw [if_neg e239] at h
  by_cases e240 : k = 240
  · omega
  rw [if_neg e240] at h
  by_cases e241 : k = 241
  · omega
  rw [if_neg e241] at h
  by_cases e242 : k = 242
  · omega
  rw [if_neg e242] at h
  cases h
theorem CW.sums {A : Nat} {h : dzH} {o : Nat → Int32} {v : Nat → Nat} {T E : Nat → Int32} {F : Nat → Nat → Int32} (w : CW A h o v T E F) : SumsOk (A + 12) h := w.2.1
theorem CW.row {A : Nat} {h : dzH} {o : Nat → Int32} {v : Nat → Nat} {T E : Nat → Int32} {F : Nat → Nat → Int32} (w : CW A h o v T E F) {k : Nat} (hk : isR k) : row8 h (A + k) (v k) := w.2.2.1 k hk
/-- the rows change, what they belong to stays -/
theorem CW.rows {A : Nat} {h h' : dzH} {o : Nat → Int32} {v v' : Nat → Nat} {T E : Nat → Int32} {F : Nat → Nat → Int32} (w : CW A h o v T E F) (hs : SumsOk (A + 12) h') (hr : ∀ k, isR k → row8 h' (A + k) (v' k)) (hf : ∀ q, ¬ inS (A + 12) q → (∀ k, isR k → q ≠ A + k) → h'.2 q = h.2 q) (h1 : v' 228 = 1) (hb : v' 229 < 4294967296) : CW A h' o v' T E F := by
  obtain ⟨w1, w2, w3, w4, w5⟩ := w
  refine ⟨fun k e he => ?_, hs, hr, h1, hb⟩
  obtain ⟨n1, n2⟩ := cC_no he
  rw [hf (A + k) (by unfold inS; omega) (fun j hj q => n1 (by have : k = j := by omega
                                                              rw [this]; exact hj))]
  exact w1 k e he
theorem CW.rowop {A : Nat} {h h' : dzH} {o : Nat → Int32} {v : Nat → Nat} {T E : Nat → Int32} {F : Nat → Nat → Int32} (w : CW A h o v T E F) {k x : Nat} (hk : isR k) (hk1 : k ≠ 228) (hkb : k = 229 → x < 4294967296) (hs : SumsOk (A + 12) h') (hr : row8 h' (A + k) x) (hf : fr h h' (fun q => inS (A + 12) q ∨ q = A + k)) : CW A h' o (gu v k x) T E F := by
  refine w.rows hs (fun j hj => ?_) (fun q h1 h2 => hf.2 q (fun z => ?_)) ?_ ?_
  · by_cases e : j = k
    · subst e
      rw [gu_s]
      exact hr
    · rw [gu_n e]
      refine (w.row hj).eq (hf.2 _ (fun z => ?_))
      unfold isR at hj
      unfold inS at z
      omega
  · rcases z with z | z
    · exact h1 z
    · exact h2 k hk z
  · rw [gu_n (Ne.symm hk1)]
    exact w.2.2.2.1
  · by_cases e : k = 229
    · subst e
      rw [gu_s]
      exact hkb rfl
    · rw [gu_n (fun z => e z.symm)]
      exact w.2.2.2.2
theorem CW.rowup {A : Nat} {h h' : dzH} {o : Nat → Int32} {v : Nat → Nat} {T E : Nat → Int32} {F : Nat → Nat → Int32} (w : CW A h o v T E F) {k x : Nat} (hk : isR k) (hk1 : k ≠ 228) (hkb : k = 229 → x < 4294967296) (hr : row8 h' (A + k) x) (hf : fr h h' (fun q => q = A + k)) : CW A h' o (gu v k x) T E F :=
  w.rowop hk hk1 hkb (w.sums.keep (fun q hq => hf.2 q (fun z => by unfold isR at hk; unfold inS at hq; omega))) hr (hf.mono (fun q hq => Or.inr hq))
/-- scratch of Sums alone -/
theorem CW.scr {A : Nat} {h h' : dzH} {o : Nat → Int32} {v : Nat → Nat} {T E : Nat → Int32} {F : Nat → Nat → Int32} (w : CW A h o v T E F) (hs : SumsOk (A + 12) h') (hf : fr h h' (inS (A + 12))) : CW A h' o v T E F :=
  w.rows hs (fun k hk => (w.row hk).eq (hf.2 _ (fun z => by unfold isR at hk; unfold inS at z; omega))) (fun q h1 _ => hf.2 q h1) w.2.2.2.1 w.2.2.2.2
/-- a cell that is no row of a number -/
theorem CW.cell {A : Nat} {h : dzH} {o o' : Nat → Int32} {v : Nat → Nat} {T T' E E' : Nat → Int32} {F F' : Nat → Nat → Int32} (w : CW A h o v T E F) {k : Nat} {e : dzE} (h1 : cC A o' T' E' F' k = some e) (h2 : ∀ j, j ≠ k → cC A o' T' E' F' j = cC A o T E F j) : CW A (hU h (A + k) e) o' v T' E' F' := by
  obtain ⟨n1, n2⟩ := cC_no h1
  obtain ⟨w1, w2, w3, w4, w5⟩ := w
  refine ⟨fun j e' he => ?_, w2.keep (fun q hq => hU_n (by unfold inS at hq; omega)), fun j hj => (w3 j hj).eq (hU_n (fun z => n1 (by have : k = j := by omega
                                                                                                                                      rw [this]; exact hj))), w4, w5⟩
  by_cases ej : j = k
  · subst ej
    rw [h1] at he
    cases he
    exact hU_s _ _ _
  · rw [hU_n (by omega)]
    rw [h2 j ej] at he
    exact w1 j e' he
theorem CW.eq {A : Nat} {h h' : dzH} {o : Nat → Int32} {v : Nat → Nat} {T E : Nat → Int32} {F : Nat → Nat → Int32} (w : CW A h o v T E F) (hf : ∀ q, inC A q → h'.2 q = h.2 q) : CW A h' o v T E F := by
  obtain ⟨w1, w2, w3, w4, w5⟩ := w
  refine ⟨fun k e he => ?_, w2.keep (fun q hq => hf q (by unfold inS at hq; unfold inC; omega)), fun k hk => (w3 k hk).eq (hf _ (by unfold isR at hk; unfold inC; omega)), w4, w5⟩
  rw [hf (A + k) ?_]
  · exact w1 k e he
  · unfold inC
    unfold cC at he
    by_cases e0 : k = 0
    · omega
    rw [if_neg e0] at he
    by_cases e1 : k = 1
    · omega
    rw [if_neg e1] at he
    by_cases e20 : k = 20
    · omega
    rw [if_neg e20] at he
    by_cases e21 : k = 21
    · omega
    rw [if_neg e21] at he
    by_cases e22 : k = 22
    · omega
    rw [if_neg e22] at he
    by_cases e23 : k = 23
    · omega
    rw [if_neg e23] at he
    by_cases e224 : k = 224
    · omega
    rw [if_neg e224] at he
    by_cases e225 : k = 225
    · omega
    rw [if_neg e225] at he
    by_cases e232 : k = 232
    · omega
    rw [if_neg e232] at he
    by_cases e233 : k = 233
    · omega
    rw [if_neg e233] at he
    by_cases e234 : k = 234
    · omega
    rw [if_neg e234] at he
    by_cases e235 : k = 235
    · omega
    rw [if_neg e235] at he
    by_cases e236 : k = 236
    · omega
    rw [if_neg e236] at he
    by_cases e238 : k = 238
    · omega
    rw [if_neg e238] at he
    by_cases e239 : k = 239
    · omega
    rw [if_neg e239] at he
    by_cases e240 : k = 240
    · omega
    rw [if_neg e240] at he
    by_cases e241 : k = 241
    · omega
    rw [if_neg e241] at he
    by_cases e242 : k = 242
    · omega
    rw [if_neg e242] at he
    cases he
theorem g_p0 {A : Nat} {h : dzH} {o : Nat → Int32} {v : Nat → Nat} {T E : Nat → Int32} {F : Nat → Nat → Int32} (w : CW A h o v T E F) : dgA h A 0 0 = some (A + 1) := dgA_at (w.1 0 _ rfl) rfl
theorem g_p1 {A : Nat} {h : dzH} {o : Nat → Int32} {v : Nat → Nat} {T E : Nat → Int32} {F : Nat → Nat → Int32} (w : CW A h o v T E F) : dgA h A 0 1 = some (A + 10) := dgA_at (w.1 0 _ rfl) rfl
theorem g_p2 {A : Nat} {h : dzH} {o : Nat → Int32} {v : Nat → Nat} {T E : Nat → Int32} {F : Nat → Nat → Int32} (w : CW A h o v T E F) : dgA h A 0 2 = some (A + 11) := dgA_at (w.1 0 _ rfl) rfl
theorem g_p3 {A : Nat} {h : dzH} {o : Nat → Int32} {v : Nat → Nat} {T E : Nat → Int32} {F : Nat → Nat → Int32} (w : CW A h o v T E F) : dgA h A 0 3 = some (A + 12) := dgA_at (w.1 0 _ rfl) rfl
theorem g_p4 {A : Nat} {h : dzH} {o : Nat → Int32} {v : Nat → Nat} {T E : Nat → Int32} {F : Nat → Nat → Int32} (w : CW A h o v T E F) : dgA h A 0 4 = some (A + 20) := dgA_at (w.1 0 _ rfl) rfl
theorem g_p5 {A : Nat} {h : dzH} {o : Nat → Int32} {v : Nat → Nat} {T E : Nat → Int32} {F : Nat → Nat → Int32} (w : CW A h o v T E F) : dgA h A 0 5 = some (A + 22) := dgA_at (w.1 0 _ rfl) rfl
theorem g_p6 {A : Nat} {h : dzH} {o : Nat → Int32} {v : Nat → Nat} {T E : Nat → Int32} {F : Nat → Nat → Int32} (w : CW A h o v T E F) : dgA h A 0 6 = some (A + 232) := dgA_at (w.1 0 _ rfl) rfl
theorem g_p7 {A : Nat} {h : dzH} {o : Nat → Int32} {v : Nat → Nat} {T E : Nat → Int32} {F : Nat → Nat → Int32} (w : CW A h o v T E F) : dgA h A 0 7 = some (A + 238) := dgA_at (w.1 0 _ rfl) rfl
theorem g_tape0 {A : Nat} {h : dzH} {o : Nat → Int32} {v : Nat → Nat} {T E : Nat → Int32} {F : Nat → Nat → Int32} (w : CW A h o v T E F) : dgA h (A + 20) 7 0 = some (A + 21) := dgA_at (w.1 20 _ rfl) rfl
theorem g_o0 {A : Nat} {h : dzH} {o : Nat → Int32} {v : Nat → Nat} {T E : Nat → Int32} {F : Nat → Nat → Int32} (w : CW A h o v T E F) : dgI h (A + 20) 7 1 = some (o 0) := dgI_at (w.1 20 _ rfl) rfl
theorem p_o0 {A : Nat} {h : dzH} {o : Nat → Int32} {v : Nat → Nat} {T E : Nat → Int32} {F : Nat → Nat → Int32} (w : CW A h o v T E F) (x : Int32) : ∃ h', dpF h (A + 20) 7 1 (.int x) = some h' ∧ CW A h' (upd o 0 x) v T E F ∧ fr h h' (inC A) := by
  refine ⟨_, dpF_at _ (w.1 20 _ rfl) (by simp), w.cell rfl (fun j hj => ?_), (fr.up _ _ _).mono (fun q hq => by unfold inC; omega)⟩
  unfold cC
  simp only [if_neg hj]
  rfl
theorem g_lines0 {A : Nat} {h : dzH} {o : Nat → Int32} {v : Nat → Nat} {T E : Nat → Int32} {F : Nat → Nat → Int32} (w : CW A h o v T E F) : dgA h (A + 22) 4 0 = some (A + 23) := dgA_at (w.1 22 _ rfl) rfl
theorem g_lines1 {A : Nat} {h : dzH} {o : Nat → Int32} {v : Nat → Nat} {T E : Nat → Int32} {F : Nat → Nat → Int32} (w : CW A h o v T E F) : dgA h (A + 22) 4 1 = some (A + 224) := dgA_at (w.1 22 _ rfl) rfl
theorem g_o1 {A : Nat} {h : dzH} {o : Nat → Int32} {v : Nat → Nat} {T E : Nat → Int32} {F : Nat → Nat → Int32} (w : CW A h o v T E F) : dgI h (A + 22) 4 2 = some (o 1) := dgI_at (w.1 22 _ rfl) rfl
theorem p_o1 {A : Nat} {h : dzH} {o : Nat → Int32} {v : Nat → Nat} {T E : Nat → Int32} {F : Nat → Nat → Int32} (w : CW A h o v T E F) (x : Int32) : ∃ h', dpF h (A + 22) 4 2 (.int x) = some h' ∧ CW A h' (upd o 1 x) v T E F ∧ fr h h' (inC A) := by
  refine ⟨_, dpF_at _ (w.1 22 _ rfl) (by simp), w.cell rfl (fun j hj => ?_), (fr.up _ _ _).mono (fun q hq => by unfold inC; omega)⟩
  unfold cC
  simp only [if_neg hj]
  rfl
theorem g_o2 {A : Nat} {h : dzH} {o : Nat → Int32} {v : Nat → Nat} {T E : Nat → Int32} {F : Nat → Nat → Int32} (w : CW A h o v T E F) : dgI h (A + 22) 4 3 = some (o 2) := dgI_at (w.1 22 _ rfl) rfl
theorem p_o2 {A : Nat} {h : dzH} {o : Nat → Int32} {v : Nat → Nat} {T E : Nat → Int32} {F : Nat → Nat → Int32} (w : CW A h o v T E F) (x : Int32) : ∃ h', dpF h (A + 22) 4 3 (.int x) = some h' ∧ CW A h' (upd o 2 x) v T E F ∧ fr h h' (inC A) := by
  refine ⟨_, dpF_at _ (w.1 22 _ rfl) (by simp), w.cell rfl (fun j hj => ?_), (fr.up _ _ _).mono (fun q hq => by unfold inC; omega)⟩
  unfold cC
  simp only [if_neg hj]
  rfl
theorem g_tr0 {A : Nat} {h : dzH} {o : Nat → Int32} {v : Nat → Nat} {T E : Nat → Int32} {F : Nat → Nat → Int32} (w : CW A h o v T E F) : dgA h (A + 225) 8 0 = some (A + 12) := dgA_at (w.1 225 _ rfl) rfl
theorem g_tr1 {A : Nat} {h : dzH} {o : Nat → Int32} {v : Nat → Nat} {T E : Nat → Int32} {F : Nat → Nat → Int32} (w : CW A h o v T E F) : dgA h (A + 225) 8 1 = some (A + 226) := dgA_at (w.1 225 _ rfl) rfl
theorem g_tr2 {A : Nat} {h : dzH} {o : Nat → Int32} {v : Nat → Nat} {T E : Nat → Int32} {F : Nat → Nat → Int32} (w : CW A h o v T E F) : dgA h (A + 225) 8 2 = some (A + 227) := dgA_at (w.1 225 _ rfl) rfl
theorem g_tr3 {A : Nat} {h : dzH} {o : Nat → Int32} {v : Nat → Nat} {T E : Nat → Int32} {F : Nat → Nat → Int32} (w : CW A h o v T E F) : dgA h (A + 225) 8 3 = some (A + 228) := dgA_at (w.1 225 _ rfl) rfl
theorem g_tr4 {A : Nat} {h : dzH} {o : Nat → Int32} {v : Nat → Nat} {T E : Nat → Int32} {F : Nat → Nat → Int32} (w : CW A h o v T E F) : dgA h (A + 225) 8 4 = some (A + 229) := dgA_at (w.1 225 _ rfl) rfl
theorem g_tr5 {A : Nat} {h : dzH} {o : Nat → Int32} {v : Nat → Nat} {T E : Nat → Int32} {F : Nat → Nat → Int32} (w : CW A h o v T E F) : dgA h (A + 225) 8 5 = some (A + 230) := dgA_at (w.1 225 _ rfl) rfl
theorem g_tr6 {A : Nat} {h : dzH} {o : Nat → Int32} {v : Nat → Nat} {T E : Nat → Int32} {F : Nat → Nat → Int32} (w : CW A h o v T E F) : dgA h (A + 225) 8 6 = some (A + 231) := dgA_at (w.1 225 _ rfl) rfl
theorem g_ck0 {A : Nat} {h : dzH} {o : Nat → Int32} {v : Nat → Nat} {T E : Nat → Int32} {F : Nat → Nat → Int32} (w : CW A h o v T E F) : dgA h (A + 232) 2 0 = some (A + 20) := dgA_at (w.1 232 _ rfl) rfl
theorem g_ck1 {A : Nat} {h : dzH} {o : Nat → Int32} {v : Nat → Nat} {T E : Nat → Int32} {F : Nat → Nat → Int32} (w : CW A h o v T E F) : dgA h (A + 232) 2 1 = some (A + 22) := dgA_at (w.1 232 _ rfl) rfl
theorem g_ck2 {A : Nat} {h : dzH} {o : Nat → Int32} {v : Nat → Nat} {T E : Nat → Int32} {F : Nat → Nat → Int32} (w : CW A h o v T E F) : dgA h (A + 232) 2 2 = some (A + 12) := dgA_at (w.1 232 _ rfl) rfl
theorem g_ck3 {A : Nat} {h : dzH} {o : Nat → Int32} {v : Nat → Nat} {T E : Nat → Int32} {F : Nat → Nat → Int32} (w : CW A h o v T E F) : dgA h (A + 232) 2 3 = some (A + 225) := dgA_at (w.1 232 _ rfl) rfl
theorem g_ck4 {A : Nat} {h : dzH} {o : Nat → Int32} {v : Nat → Nat} {T E : Nat → Int32} {F : Nat → Nat → Int32} (w : CW A h o v T E F) : dgA h (A + 232) 2 4 = some (A + 233) := dgA_at (w.1 232 _ rfl) rfl
theorem g_ck5 {A : Nat} {h : dzH} {o : Nat → Int32} {v : Nat → Nat} {T E : Nat → Int32} {F : Nat → Nat → Int32} (w : CW A h o v T E F) : dgA h (A + 232) 2 5 = some (A + 237) := dgA_at (w.1 232 _ rfl) rfl
theorem g_o3 {A : Nat} {h : dzH} {o : Nat → Int32} {v : Nat → Nat} {T E : Nat → Int32} {F : Nat → Nat → Int32} (w : CW A h o v T E F) : dgI h (A + 232) 2 6 = some (o 3) := dgI_at (w.1 232 _ rfl) rfl
theorem p_o3 {A : Nat} {h : dzH} {o : Nat → Int32} {v : Nat → Nat} {T E : Nat → Int32} {F : Nat → Nat → Int32} (w : CW A h o v T E F) (x : Int32) : ∃ h', dpF h (A + 232) 2 6 (.int x) = some h' ∧ CW A h' (upd o 3 x) v T E F ∧ fr h h' (inC A) := by
  refine ⟨_, dpF_at _ (w.1 232 _ rfl) (by simp), w.cell rfl (fun j hj => ?_), (fr.up _ _ _).mono (fun q hq => by unfold inC; omega)⟩
  unfold cC
  simp only [if_neg hj]
  rfl
theorem g_o4 {A : Nat} {h : dzH} {o : Nat → Int32} {v : Nat → Nat} {T E : Nat → Int32} {F : Nat → Nat → Int32} (w : CW A h o v T E F) : dgI h (A + 232) 2 7 = some (o 4) := dgI_at (w.1 232 _ rfl) rfl
theorem p_o4 {A : Nat} {h : dzH} {o : Nat → Int32} {v : Nat → Nat} {T E : Nat → Int32} {F : Nat → Nat → Int32} (w : CW A h o v T E F) (x : Int32) : ∃ h', dpF h (A + 232) 2 7 (.int x) = some h' ∧ CW A h' (upd o 4 x) v T E F ∧ fr h h' (inC A) := by
  refine ⟨_, dpF_at _ (w.1 232 _ rfl) (by simp), w.cell rfl (fun j hj => ?_), (fr.up _ _ _).mono (fun q hq => by unfold inC; omega)⟩
  unfold cC
  simp only [if_neg hj]
  rfl
theorem g_o5 {A : Nat} {h : dzH} {o : Nat → Int32} {v : Nat → Nat} {T E : Nat → Int32} {F : Nat → Nat → Int32} (w : CW A h o v T E F) : dgI h (A + 232) 2 8 = some (o 5) := dgI_at (w.1 232 _ rfl) rfl
theorem p_o5 {A : Nat} {h : dzH} {o : Nat → Int32} {v : Nat → Nat} {T E : Nat → Int32} {F : Nat → Nat → Int32} (w : CW A h o v T E F) (x : Int32) : ∃ h', dpF h (A + 232) 2 8 (.int x) = some h' ∧ CW A h' (upd o 5 x) v T E F ∧ fr h h' (inC A) := by
  refine ⟨_, dpF_at _ (w.1 232 _ rfl) (by simp), w.cell rfl (fun j hj => ?_), (fr.up _ _ _).mono (fun q hq => by unfold inC; omega)⟩
  unfold cC
  simp only [if_neg hj]
  rfl
theorem g_o6 {A : Nat} {h : dzH} {o : Nat → Int32} {v : Nat → Nat} {T E : Nat → Int32} {F : Nat → Nat → Int32} (w : CW A h o v T E F) : dgI h (A + 232) 2 9 = some (o 6) := dgI_at (w.1 232 _ rfl) rfl
theorem p_o6 {A : Nat} {h : dzH} {o : Nat → Int32} {v : Nat → Nat} {T E : Nat → Int32} {F : Nat → Nat → Int32} (w : CW A h o v T E F) (x : Int32) : ∃ h', dpF h (A + 232) 2 9 (.int x) = some h' ∧ CW A h' (upd o 6 x) v T E F ∧ fr h h' (inC A) := by
  refine ⟨_, dpF_at _ (w.1 232 _ rfl) (by simp), w.cell rfl (fun j hj => ?_), (fr.up _ _ _).mono (fun q hq => by unfold inC; omega)⟩
  unfold cC
  simp only [if_neg hj]
  rfl
theorem g_o7 {A : Nat} {h : dzH} {o : Nat → Int32} {v : Nat → Nat} {T E : Nat → Int32} {F : Nat → Nat → Int32} (w : CW A h o v T E F) : dgI h (A + 232) 2 10 = some (o 7) := dgI_at (w.1 232 _ rfl) rfl
theorem p_o7 {A : Nat} {h : dzH} {o : Nat → Int32} {v : Nat → Nat} {T E : Nat → Int32} {F : Nat → Nat → Int32} (w : CW A h o v T E F) (x : Int32) : ∃ h', dpF h (A + 232) 2 10 (.int x) = some h' ∧ CW A h' (upd o 7 x) v T E F ∧ fr h h' (inC A) := by
  refine ⟨_, dpF_at _ (w.1 232 _ rfl) (by simp), w.cell rfl (fun j hj => ?_), (fr.up _ _ _).mono (fun q hq => by unfold inC; omega)⟩
  unfold cC
  simp only [if_neg hj]
  rfl
theorem g_o8 {A : Nat} {h : dzH} {o : Nat → Int32} {v : Nat → Nat} {T E : Nat → Int32} {F : Nat → Nat → Int32} (w : CW A h o v T E F) : dgI h (A + 232) 2 11 = some (o 8) := dgI_at (w.1 232 _ rfl) rfl
theorem p_o8 {A : Nat} {h : dzH} {o : Nat → Int32} {v : Nat → Nat} {T E : Nat → Int32} {F : Nat → Nat → Int32} (w : CW A h o v T E F) (x : Int32) : ∃ h', dpF h (A + 232) 2 11 (.int x) = some h' ∧ CW A h' (upd o 8 x) v T E F ∧ fr h h' (inC A) := by
  refine ⟨_, dpF_at _ (w.1 232 _ rfl) (by simp), w.cell rfl (fun j hj => ?_), (fr.up _ _ _).mono (fun q hq => by unfold inC; omega)⟩
  unfold cC
  simp only [if_neg hj]
  rfl
theorem g_o9 {A : Nat} {h : dzH} {o : Nat → Int32} {v : Nat → Nat} {T E : Nat → Int32} {F : Nat → Nat → Int32} (w : CW A h o v T E F) : dgI h (A + 232) 2 12 = some (o 9) := dgI_at (w.1 232 _ rfl) rfl
theorem p_o9 {A : Nat} {h : dzH} {o : Nat → Int32} {v : Nat → Nat} {T E : Nat → Int32} {F : Nat → Nat → Int32} (w : CW A h o v T E F) (x : Int32) : ∃ h', dpF h (A + 232) 2 12 (.int x) = some h' ∧ CW A h' (upd o 9 x) v T E F ∧ fr h h' (inC A) := by
  refine ⟨_, dpF_at _ (w.1 232 _ rfl) (by simp), w.cell rfl (fun j hj => ?_), (fr.up _ _ _).mono (fun q hq => by unfold inC; omega)⟩
  unfold cC
  simp only [if_neg hj]
  rfl
theorem g_cf0 {A : Nat} {h : dzH} {o : Nat → Int32} {v : Nat → Nat} {T E : Nat → Int32} {F : Nat → Nat → Int32} (w : CW A h o v T E F) : dgA h (A + 233) 3 0 = some (A + 234) := dgA_at (w.1 233 _ rfl) rfl
theorem g_cf1 {A : Nat} {h : dzH} {o : Nat → Int32} {v : Nat → Nat} {T E : Nat → Int32} {F : Nat → Nat → Int32} (w : CW A h o v T E F) : dgA h (A + 233) 3 1 = some (A + 235) := dgA_at (w.1 233 _ rfl) rfl
theorem g_cf2 {A : Nat} {h : dzH} {o : Nat → Int32} {v : Nat → Nat} {T E : Nat → Int32} {F : Nat → Nat → Int32} (w : CW A h o v T E F) : dgA h (A + 233) 3 2 = some (A + 236) := dgA_at (w.1 233 _ rfl) rfl
theorem g_o10 {A : Nat} {h : dzH} {o : Nat → Int32} {v : Nat → Nat} {T E : Nat → Int32} {F : Nat → Nat → Int32} (w : CW A h o v T E F) : dgI h (A + 233) 3 3 = some (o 10) := dgI_at (w.1 233 _ rfl) rfl
theorem p_o10 {A : Nat} {h : dzH} {o : Nat → Int32} {v : Nat → Nat} {T E : Nat → Int32} {F : Nat → Nat → Int32} (w : CW A h o v T E F) (x : Int32) : ∃ h', dpF h (A + 233) 3 3 (.int x) = some h' ∧ CW A h' (upd o 10 x) v T E F ∧ fr h h' (inC A) := by
  refine ⟨_, dpF_at _ (w.1 233 _ rfl) (by simp), w.cell rfl (fun j hj => ?_), (fr.up _ _ _).mono (fun q hq => by unfold inC; omega)⟩
  unfold cC
  simp only [if_neg hj]
  rfl
theorem g_mk0 {A : Nat} {h : dzH} {o : Nat → Int32} {v : Nat → Nat} {T E : Nat → Int32} {F : Nat → Nat → Int32} (w : CW A h o v T E F) : dgA h (A + 238) 5 0 = some (A + 20) := dgA_at (w.1 238 _ rfl) rfl
theorem g_mk1 {A : Nat} {h : dzH} {o : Nat → Int32} {v : Nat → Nat} {T E : Nat → Int32} {F : Nat → Nat → Int32} (w : CW A h o v T E F) : dgA h (A + 238) 5 1 = some (A + 22) := dgA_at (w.1 238 _ rfl) rfl
theorem g_mk2 {A : Nat} {h : dzH} {o : Nat → Int32} {v : Nat → Nat} {T E : Nat → Int32} {F : Nat → Nat → Int32} (w : CW A h o v T E F) : dgA h (A + 238) 5 2 = some (A + 12) := dgA_at (w.1 238 _ rfl) rfl
theorem g_mk3 {A : Nat} {h : dzH} {o : Nat → Int32} {v : Nat → Nat} {T E : Nat → Int32} {F : Nat → Nat → Int32} (w : CW A h o v T E F) : dgA h (A + 238) 5 3 = some (A + 225) := dgA_at (w.1 238 _ rfl) rfl
theorem g_mk4 {A : Nat} {h : dzH} {o : Nat → Int32} {v : Nat → Nat} {T E : Nat → Int32} {F : Nat → Nat → Int32} (w : CW A h o v T E F) : dgA h (A + 238) 5 4 = some (A + 239) := dgA_at (w.1 238 _ rfl) rfl
theorem g_mk5 {A : Nat} {h : dzH} {o : Nat → Int32} {v : Nat → Nat} {T E : Nat → Int32} {F : Nat → Nat → Int32} (w : CW A h o v T E F) : dgA h (A + 238) 5 5 = some (A + 243) := dgA_at (w.1 238 _ rfl) rfl
theorem g_mk6 {A : Nat} {h : dzH} {o : Nat → Int32} {v : Nat → Nat} {T E : Nat → Int32} {F : Nat → Nat → Int32} (w : CW A h o v T E F) : dgA h (A + 238) 5 6 = some (A + 244) := dgA_at (w.1 238 _ rfl) rfl
theorem g_mk7 {A : Nat} {h : dzH} {o : Nat → Int32} {v : Nat → Nat} {T E : Nat → Int32} {F : Nat → Nat → Int32} (w : CW A h o v T E F) : dgA h (A + 238) 5 7 = some (A + 245) := dgA_at (w.1 238 _ rfl) rfl
theorem g_mk8 {A : Nat} {h : dzH} {o : Nat → Int32} {v : Nat → Nat} {T E : Nat → Int32} {F : Nat → Nat → Int32} (w : CW A h o v T E F) : dgA h (A + 238) 5 8 = some (A + 246) := dgA_at (w.1 238 _ rfl) rfl
theorem g_o11 {A : Nat} {h : dzH} {o : Nat → Int32} {v : Nat → Nat} {T E : Nat → Int32} {F : Nat → Nat → Int32} (w : CW A h o v T E F) : dgI h (A + 238) 5 9 = some (o 11) := dgI_at (w.1 238 _ rfl) rfl
theorem p_o11 {A : Nat} {h : dzH} {o : Nat → Int32} {v : Nat → Nat} {T E : Nat → Int32} {F : Nat → Nat → Int32} (w : CW A h o v T E F) (x : Int32) : ∃ h', dpF h (A + 238) 5 9 (.int x) = some h' ∧ CW A h' (upd o 11 x) v T E F ∧ fr h h' (inC A) := by
  refine ⟨_, dpF_at _ (w.1 238 _ rfl) (by simp), w.cell rfl (fun j hj => ?_), (fr.up _ _ _).mono (fun q hq => by unfold inC; omega)⟩
  unfold cC
  simp only [if_neg hj]
  rfl
theorem g_o12 {A : Nat} {h : dzH} {o : Nat → Int32} {v : Nat → Nat} {T E : Nat → Int32} {F : Nat → Nat → Int32} (w : CW A h o v T E F) : dgI h (A + 238) 5 10 = some (o 12) := dgI_at (w.1 238 _ rfl) rfl
theorem p_o12 {A : Nat} {h : dzH} {o : Nat → Int32} {v : Nat → Nat} {T E : Nat → Int32} {F : Nat → Nat → Int32} (w : CW A h o v T E F) (x : Int32) : ∃ h', dpF h (A + 238) 5 10 (.int x) = some h' ∧ CW A h' (upd o 12 x) v T E F ∧ fr h h' (inC A) := by
  refine ⟨_, dpF_at _ (w.1 238 _ rfl) (by simp), w.cell rfl (fun j hj => ?_), (fr.up _ _ _).mono (fun q hq => by unfold inC; omega)⟩
  unfold cC
  simp only [if_neg hj]
  rfl
theorem g_mf0 {A : Nat} {h : dzH} {o : Nat → Int32} {v : Nat → Nat} {T E : Nat → Int32} {F : Nat → Nat → Int32} (w : CW A h o v T E F) : dgA h (A + 239) 3 0 = some (A + 240) := dgA_at (w.1 239 _ rfl) rfl
theorem g_mf1 {A : Nat} {h : dzH} {o : Nat → Int32} {v : Nat → Nat} {T E : Nat → Int32} {F : Nat → Nat → Int32} (w : CW A h o v T E F) : dgA h (A + 239) 3 1 = some (A + 241) := dgA_at (w.1 239 _ rfl) rfl
theorem g_mf2 {A : Nat} {h : dzH} {o : Nat → Int32} {v : Nat → Nat} {T E : Nat → Int32} {F : Nat → Nat → Int32} (w : CW A h o v T E F) : dgA h (A + 239) 3 2 = some (A + 242) := dgA_at (w.1 239 _ rfl) rfl
theorem g_o13 {A : Nat} {h : dzH} {o : Nat → Int32} {v : Nat → Nat} {T E : Nat → Int32} {F : Nat → Nat → Int32} (w : CW A h o v T E F) : dgI h (A + 239) 3 3 = some (o 13) := dgI_at (w.1 239 _ rfl) rfl
theorem p_o13 {A : Nat} {h : dzH} {o : Nat → Int32} {v : Nat → Nat} {T E : Nat → Int32} {F : Nat → Nat → Int32} (w : CW A h o v T E F) (x : Int32) : ∃ h', dpF h (A + 239) 3 3 (.int x) = some h' ∧ CW A h' (upd o 13 x) v T E F ∧ fr h h' (inC A) := by
  refine ⟨_, dpF_at _ (w.1 239 _ rfl) (by simp), w.cell rfl (fun j hj => ?_), (fr.up _ _ _).mono (fun q hq => by unfold inC; omega)⟩
  unfold cC
  simp only [if_neg hj]
  rfl
theorem r_T {A : Nat} {h : dzH} {o : Nat → Int32} {v : Nat → Nat} {T E : Nat → Int32} {F : Nat → Nat → Int32} (w : CW A h o v T E F) {j : Nat} (hj : j < 4000) : drI h (A + 21) (nI j) = some (T j) := drI_at (w.1 21 _ rfl) hj (by decide)
theorem w_T {A : Nat} {h : dzH} {o : Nat → Int32} {v : Nat → Nat} {T E : Nat → Int32} {F : Nat → Nat → Int32} (w : CW A h o v T E F) {j : Nat} (x : Int32) (hj : j < 4000) : ∃ h', dwI h (A + 21) (nI j) x = some h' ∧ CW A h' o v (upd T j x) E F ∧ fr h h' (inC A) := by
  refine ⟨_, dwI_at x (w.1 21 _ rfl) hj (by decide), w.cell rfl (fun i hi => ?_), (fr.up _ _ _).mono (fun q hq => by unfold inC; omega)⟩
  unfold cC
  simp only [if_neg hi]
  try rfl
theorem r_E {A : Nat} {h : dzH} {o : Nat → Int32} {v : Nat → Nat} {T E : Nat → Int32} {F : Nat → Nat → Int32} (w : CW A h o v T E F) {j : Nat} (hj : j < 200) : drI h (A + 224) (nI j) = some (E j) := drI_at (w.1 224 _ rfl) hj (by decide)
theorem w_E {A : Nat} {h : dzH} {o : Nat → Int32} {v : Nat → Nat} {T E : Nat → Int32} {F : Nat → Nat → Int32} (w : CW A h o v T E F) {j : Nat} (x : Int32) (hj : j < 200) : ∃ h', dwI h (A + 224) (nI j) x = some h' ∧ CW A h' o v T (upd E j x) F ∧ fr h h' (inC A) := by
  refine ⟨_, dwI_at x (w.1 224 _ rfl) hj (by decide), w.cell rfl (fun i hi => ?_), (fr.up _ _ _).mono (fun q hq => by unfold inC; omega)⟩
  unfold cC
  simp only [if_neg hi]
  try rfl
def uF (F : Nat → Nat → Int32) (r j : Nat) (x : Int32) : Nat → Nat → Int32 := fun i => if i = r then upd (F i) j x else F i
theorem r_F0 {A : Nat} {h : dzH} {o : Nat → Int32} {v : Nat → Nat} {T E : Nat → Int32} {F : Nat → Nat → Int32} (w : CW A h o v T E F) {j : Nat} (hj : j < 40) : drI h (A + 234) (nI j) = some (F 0 j) := drI_at (w.1 234 _ rfl) hj (by decide)
theorem w_F0 {A : Nat} {h : dzH} {o : Nat → Int32} {v : Nat → Nat} {T E : Nat → Int32} {F : Nat → Nat → Int32} (w : CW A h o v T E F) {j : Nat} (x : Int32) (hj : j < 40) : ∃ h', dwI h (A + 234) (nI j) x = some h' ∧ CW A h' o v T E (uF F 0 j x) ∧ fr h h' (inC A) := by
  refine ⟨_, dwI_at x (w.1 234 _ rfl) hj (by decide), w.cell rfl (fun i hi => ?_), (fr.up _ _ _).mono (fun q hq => by unfold inC; omega)⟩
  unfold cC
  simp only [if_neg hi]
  try rfl
theorem r_F1 {A : Nat} {h : dzH} {o : Nat → Int32} {v : Nat → Nat} {T E : Nat → Int32} {F : Nat → Nat → Int32} (w : CW A h o v T E F) {j : Nat} (hj : j < 40) : drI h (A + 235) (nI j) = some (F 1 j) := drI_at (w.1 235 _ rfl) hj (by decide)
theorem w_F1 {A : Nat} {h : dzH} {o : Nat → Int32} {v : Nat → Nat} {T E : Nat → Int32} {F : Nat → Nat → Int32} (w : CW A h o v T E F) {j : Nat} (x : Int32) (hj : j < 40) : ∃ h', dwI h (A + 235) (nI j) x = some h' ∧ CW A h' o v T E (uF F 1 j x) ∧ fr h h' (inC A) := by
  refine ⟨_, dwI_at x (w.1 235 _ rfl) hj (by decide), w.cell rfl (fun i hi => ?_), (fr.up _ _ _).mono (fun q hq => by unfold inC; omega)⟩
  unfold cC
  simp only [if_neg hi]
  try rfl
theorem r_F2 {A : Nat} {h : dzH} {o : Nat → Int32} {v : Nat → Nat} {T E : Nat → Int32} {F : Nat → Nat → Int32} (w : CW A h o v T E F) {j : Nat} (hj : j < 40) : drI h (A + 236) (nI j) = some (F 2 j) := drI_at (w.1 236 _ rfl) hj (by decide)
theorem w_F2 {A : Nat} {h : dzH} {o : Nat → Int32} {v : Nat → Nat} {T E : Nat → Int32} {F : Nat → Nat → Int32} (w : CW A h o v T E F) {j : Nat} (x : Int32) (hj : j < 40) : ∃ h', dwI h (A + 236) (nI j) x = some h' ∧ CW A h' o v T E (uF F 2 j x) ∧ fr h h' (inC A) := by
  refine ⟨_, dwI_at x (w.1 236 _ rfl) hj (by decide), w.cell rfl (fun i hi => ?_), (fr.up _ _ _).mono (fun q hq => by unfold inC; omega)⟩
  unfold cC
  simp only [if_neg hi]
  try rfl
theorem r_F3 {A : Nat} {h : dzH} {o : Nat → Int32} {v : Nat → Nat} {T E : Nat → Int32} {F : Nat → Nat → Int32} (w : CW A h o v T E F) {j : Nat} (hj : j < 40) : drI h (A + 240) (nI j) = some (F 3 j) := drI_at (w.1 240 _ rfl) hj (by decide)
theorem w_F3 {A : Nat} {h : dzH} {o : Nat → Int32} {v : Nat → Nat} {T E : Nat → Int32} {F : Nat → Nat → Int32} (w : CW A h o v T E F) {j : Nat} (x : Int32) (hj : j < 40) : ∃ h', dwI h (A + 240) (nI j) x = some h' ∧ CW A h' o v T E (uF F 3 j x) ∧ fr h h' (inC A) := by
  refine ⟨_, dwI_at x (w.1 240 _ rfl) hj (by decide), w.cell rfl (fun i hi => ?_), (fr.up _ _ _).mono (fun q hq => by unfold inC; omega)⟩
  unfold cC
  simp only [if_neg hi]
  try rfl
theorem r_F4 {A : Nat} {h : dzH} {o : Nat → Int32} {v : Nat → Nat} {T E : Nat → Int32} {F : Nat → Nat → Int32} (w : CW A h o v T E F) {j : Nat} (hj : j < 40) : drI h (A + 241) (nI j) = some (F 4 j) := drI_at (w.1 241 _ rfl) hj (by decide)
theorem w_F4 {A : Nat} {h : dzH} {o : Nat → Int32} {v : Nat → Nat} {T E : Nat → Int32} {F : Nat → Nat → Int32} (w : CW A h o v T E F) {j : Nat} (x : Int32) (hj : j < 40) : ∃ h', dwI h (A + 241) (nI j) x = some h' ∧ CW A h' o v T E (uF F 4 j x) ∧ fr h h' (inC A) := by
  refine ⟨_, dwI_at x (w.1 241 _ rfl) hj (by decide), w.cell rfl (fun i hi => ?_), (fr.up _ _ _).mono (fun q hq => by unfold inC; omega)⟩
  unfold cC
  simp only [if_neg hi]
  try rfl
theorem r_F5 {A : Nat} {h : dzH} {o : Nat → Int32} {v : Nat → Nat} {T E : Nat → Int32} {F : Nat → Nat → Int32} (w : CW A h o v T E F) {j : Nat} (hj : j < 40) : drI h (A + 242) (nI j) = some (F 5 j) := drI_at (w.1 242 _ rfl) hj (by decide)
theorem w_F5 {A : Nat} {h : dzH} {o : Nat → Int32} {v : Nat → Nat} {T E : Nat → Int32} {F : Nat → Nat → Int32} (w : CW A h o v T E F) {j : Nat} (x : Int32) (hj : j < 40) : ∃ h', dwI h (A + 242) (nI j) x = some h' ∧ CW A h' o v T E (uF F 5 j x) ∧ fr h h' (inC A) := by
  refine ⟨_, dwI_at x (w.1 242 _ rfl) hj (by decide), w.cell rfl (fun i hi => ?_), (fr.up _ _ _).mono (fun q hq => by unfold inC; omega)⟩
  unfold cC
  simp only [if_neg hi]
  try rfl
theorem g_reg {A : Nat} {h : dzH} {o : Nat → Int32} {v : Nat → Nat} {T E : Nat → Int32} {F : Nat → Nat → Int32} (w : CW A h o v T E F) {r : Nat} (hr : r < 8) : drA h (A + 1) (nI r) = some (A + 2 + r) := drA_at (w.1 1 _ rfl) hr (by decide) rfl
theorem g_num {A : Nat} {h : dzH} {o : Nat → Int32} {v : Nat → Nat} {T E : Nat → Int32} {F : Nat → Nat → Int32} (w : CW A h o v T E F) {r : Nat} (hr : r < 200) : drA h (A + 23) (nI r) = some (A + 24 + r) := drA_at (w.1 23 _ rfl) hr (by decide) rfl
