/-! the class's tape and lines, and its checker as it reads -/
theorem isR_n {l : Nat} (hl : l < 200) : isR (24 + l) := by unfold isR; omega
abbrev tw (T : Nat → Int32) : Nat → Nat := fun i => w32 (T i)
def keL (L : List Nat) (o o' : Nat → Int32) : Prop := ∀ k, k ∉ L → o' k = o k
def Wd (A : Nat) (h0 : dzH) (l : Nat) (L : List Nat) (o : Nat → Int32) (v : Nat → Nat) (F : Nat → Nat → Int32) (T E : Nat → Int32) (h' : dzH) (o' : Nat → Int32) (v' : Nat → Nat) (F' : Nat → Nat → Int32) : Prop :=
  CW A h' o' v' T E F' ∧ fr h0 h' (inC A) ∧ keL L o o' ∧ (∀ k, k ≠ 24 + l → k < 226 ∨ 237 < k → v' k = v k) ∧ ∀ r, 2 < r → F' r = F r
abbrev LL : List Nat := [3, 4, 5, 6, 7, 8, 9, 10]
def Bad (A : Nat) (h0 : dzH) (l : Nat) (o : Nat → Int32) (v : Nat → Nat) (F : Nat → Nat → Int32) (T E : Nat → Int32) (e : Nat × Nat) (r : Option (Int32 × dzH)) : Prop :=
  ∃ h' o' v' F', r = some (0, h') ∧ Wd A h0 l LL o v F T E h' o' v' F' ∧ o' 8 = nI e.1 ∧ o' 9 = nI e.2
def Res {α : Type} (r : Except (Nat × Nat) α) (P : Nat × Nat → Prop) (Q : α → Prop) : Prop := match r with
  | .error e => P e
  | .ok a => Q a
theorem Res.er {α : Type} {P : Nat × Nat → Prop} {Q : α → Prop} {e : Nat × Nat} (h : P e) : Res (.error e) P Q := h
theorem Res.okk {α : Type} {P : Nat × Nat → Prop} {Q : α → Prop} {a : α} (h : Q a) : Res (.ok a) P Q := h
section
variable {A : Nat} {h : dzH} {o : Nat → Int32} {v : Nat → Nat} {T E : Nat → Int32} {F : Nat → Nat → Int32} {l : Nat} {s c : Nat}
theorem CW.o20 (w : CW A h o v T E F) : ∃ fs, h.2 (A + 20) = some (eO 7 fs) := ⟨_, w.1 20 _ rfl⟩
theorem CW.o22 (w : CW A h o v T E F) : ∃ fs, h.2 (A + 22) = some (eO 4 fs) := ⟨_, w.1 22 _ rfl⟩
theorem CW.o225 (w : CW A h o v T E F) : ∃ fs, h.2 (A + 225) = some (eO 8 fs) := ⟨_, w.1 225 _ rfl⟩
theorem CW.o232 (w : CW A h o v T E F) : ∃ fs, h.2 (A + 232) = some (eO 2 fs) := ⟨_, w.1 232 _ rfl⟩
theorem CW.o238 (w : CW A h o v T E F) : ∃ fs, h.2 (A + 238) = some (eO 5 fs) := ⟨_, w.1 238 _ rfl⟩
theorem g_nm (w : CW A h o v T E F) (hl : l < 200) : drA h (A + 23) (nI l) = some (A + (24 + l)) := by rw [g_num w hl, Nat.add_assoc]
theorem keL.tr {L : List Nat} {o1 o2 : Nat → Int32} (a : keL L o o1) (b : keL L o1 o2) : keL L o o2 := fun k hk => (b k hk).trans (a k hk)
theorem keL.mono {L L' : List Nat} {o1 : Nat → Int32} (a : keL L o o1) (hL : ∀ k, k ∈ L → k ∈ L') : keL L' o o1 := fun k hk => a k (fun z => hk (hL k z))
theorem Wd.rf (L : List Nat) (l : Nat) (w : CW A h o v T E F) : Wd A h l L o v F T E h o v F := ⟨w, fr.rf _ _, fun _ _ => rfl, fun _ _ _ => rfl, fun _ _ => rfl⟩
theorem Wd.tr {L : List Nat} {h1 h2 : dzH} {o1 o2 : Nat → Int32} {v1 v2 : Nat → Nat} {F1 F2 : Nat → Nat → Int32} (a : Wd A h l L o v F T E h1 o1 v1 F1) (b : Wd A h1 l L o1 v1 F1 T E h2 o2 v2 F2) : Wd A h l L o v F T E h2 o2 v2 F2 :=
  ⟨b.1, a.2.1.tr b.2.1, a.2.2.1.tr b.2.2.1, fun k h1 h2 => (b.2.2.2.1 k h1 h2).trans (a.2.2.2.1 k h1 h2), fun r hr => (b.2.2.2.2 r hr).trans (a.2.2.2.2 r hr)⟩
theorem Wd.mono {L L' : List Nat} {h1 : dzH} {o1 : Nat → Int32} {v1 : Nat → Nat} {F1 : Nat → Nat → Int32} (a : Wd A h l L o v F T E h1 o1 v1 F1) (hL : ∀ k, k ∈ L → k ∈ L') : Wd A h l L' o v F T E h1 o1 v1 F1 :=
  ⟨a.1, a.2.1, a.2.2.1.mono hL, a.2.2.2.1, a.2.2.2.2⟩
theorem Wd.cw {L : List Nat} {h1 : dzH} {o1 : Nat → Int32} {v1 : Nat → Nat} {F1 : Nat → Nat → Int32} (a : Wd A h l L o v F T E h1 o1 v1 F1) : CW A h1 o1 v1 T E F1 := a.1
theorem Wd.ke {L : List Nat} {h1 : dzH} {o1 : Nat → Int32} {v1 : Nat → Nat} {F1 : Nat → Nat → Int32} (a : Wd A h l L o v F T E h1 o1 v1 F1) {k : Nat} (hk : k ∉ L) : o1 k = o k := a.2.2.1 k hk
theorem Wd.kv {L : List Nat} {h1 : dzH} {o1 : Nat → Int32} {v1 : Nat → Nat} {F1 : Nat → Nat → Int32} (a : Wd A h l L o v F T E h1 o1 v1 F1) {k : Nat} (hk : k ≠ 24 + l) (hk2 : k < 226 ∨ 237 < k) : v1 k = v k := a.2.2.2.1 k hk hk2
/-- one int field is put -/
theorem Wd.int {L : List Nat} {h1 : dzH} {N : Nat} {x : Int32} (w : CW A h1 (upd o N x) v T E F) (hf : fr h h1 (inC A)) (hN : N ∈ L) : Wd A h l L o v F T E h1 (upd o N x) v F :=
  ⟨w, hf, fun k hk => pk_un (fun z => hk (by rw [z]; exact hN)), fun _ _ _ => rfl, fun _ _ => rfl⟩
/-- the line's own number is put -/
theorem Wd.num {L : List Nat} {h1 : dzH} {v1 : Nat → Nat} (w : CW A h1 o v1 T E F) (hf : fr h h1 (inC A)) (hv : ∀ k, k ≠ 24 + l → k < 226 ∨ 237 < k → v1 k = v k) : Wd A h l L o v F T E h1 o v1 F :=
  ⟨w, hf, fun _ _ => rfl, hv, fun _ _ => rfl⟩
theorem Wd.fac {L : List Nat} {h1 : dzH} {r j : Nat} {x : Int32} (w : CW A h1 o v T E (uF F r j x)) (hf : fr h h1 (inC A)) (hr : r ≤ 2) : Wd A h l L o v F T E h1 o v (uF F r j x) :=
  ⟨w, hf, fun _ _ => rfl, fun _ _ _ => rfl, fun i hi => if_neg (by omega)⟩
theorem Bad.after {L : List Nat} {h1 : dzH} {o1 : Nat → Int32} {v1 : Nat → Nat} {F1 : Nat → Nat → Int32} {e : Nat × Nat} {r : Option (Int32 × dzH)} (b : Bad A h1 l o1 v1 F1 T E e r) (a : Wd A h l L o v F T E h1 o1 v1 F1) (hL : ∀ k, k ∈ L → k ∈ LL) : Bad A h l o v F T E e r := by
  obtain ⟨h', o', v', F', e1, W, e2, e3⟩ := b
  exact ⟨h', o', v', F', e1, (a.mono hL).tr W, e2, e3⟩
theorem Bad.br {e : Nat × Nat} {r : Option (Int32 × dzH)} (b : Bad A h l o v F T E e r) (K : Int32 × dzH → Option dzR) : Bad A h l o v F T E e (dzRI (r.bind fun q => if q.1 = 0 then some (some (.int (0 : Int32)), q.2) else K q)) := by
  obtain ⟨h', o', v', F', e1, W⟩ := b
  refine ⟨h', o', v', F', ?_, W⟩
  rw [e1]
  rfl
theorem Bad.b01 {e : Nat × Nat} {r : Option (Int32 × dzH)} (b : Bad A h l o v F T E e r) : Bad A h l o v F T E e (dzRI (r.bind fun q => (dzB01 q.1).bind fun b => some (some (.int b), q.2))) := by
  obtain ⟨h', o', v', F', e1, W⟩ := b
  refine ⟨h', o', v', F', ?_, W⟩
  rw [e1]
  rfl
theorem nI_sub1 {n : Nat} (h : 0 < n) : nI n - 1 = nI (n - 1) := by
  obtain ⟨m, rfl⟩ : ∃ m, n = m + 1 := ⟨n - 1, by omega⟩
  exact nI_pred m
-- the tape, the lines
theorem kk_room (w : CW A h o v T E F) : c_Tape_room (A + 20) h = some (4000 - o 0, h) := by
  obtain ⟨fs, ho⟩ := w.o20
  rw [cc_Tape_room _ _ ho, q_Tape_room_0, g_o0 w]
  rfl
theorem kk_app (w : CW A h o v T E F) (hs : o 0 = nI s) (h4 : s < 4000) (x : Int32) : ∃ h', c_Tape_append (A + 20) x h = some h' ∧ CW A h' (upd o 0 (nI (s + 1))) v (upd T s x) E F ∧ fr h h' (inC A) := by
  obtain ⟨fs, ho⟩ := w.o20
  obtain ⟨h1, a1, a2, a3⟩ := w_T w x h4
  obtain ⟨h2, b1, b2, b3⟩ := p_o0 a2 (nI (s + 1))
  refine ⟨h2, ?_, b2, a3.tr b3⟩
  rw [cc_Tape_append _ _ _ ho, q_Tape_append_0]
  simp only [g_o0 w, g_tape0 w, hs, Option.bind_some, if_pos (show nI s < 4000 from nI_lt h4 (by decide)), a1, g_o0 a2, nI_1, b1]
  rfl
theorem kk_end (w : CW A h o v T E F) {n : Nat} (hn : o 1 = nI n) (hn2 : n ≤ 200) : c_Lines_end (A + 22) h = some (if n = 0 then 0 else E (n - 1), h) := by
  obtain ⟨fs, ho⟩ := w.o22
  rw [cc_Lines_end _ _ ho, q_Lines_end_0]
  simp only [g_o1 w, g_lines1 w, hn, Option.bind_some]
  by_cases h0 : n = 0
  · subst h0
    rfl
  · rw [if_neg (nI_ne0 (by omega) (by omega)), if_neg h0, nI_sub1 (by omega), r_E w (by omega)]
    rfl
theorem kk_keep (w : CW A h o v T E F) {n : Nat} (hn : o 1 = nI n) (hn2 : n < 200) (x : Int32) : ∃ h', c_Lines_keepNext (A + 22) x h = some h' ∧ CW A h' (upd o 1 (nI (n + 1))) v T (upd E n x) F ∧ fr h h' (inC A) := by
  obtain ⟨fs, ho⟩ := w.o22
  obtain ⟨h1, a1, a2, a3⟩ := w_E w x hn2
  obtain ⟨h2, b1, b2, b3⟩ := p_o1 a2 (nI (n + 1))
  refine ⟨h2, ?_, b2, a3.tr b3⟩
  rw [cc_Lines_keepNext _ _ _ ho, q_Lines_keepNext_0]
  simp only [g_o1 w, g_lines1 w, hn, Option.bind_some, if_pos (show nI n < 200 from nI_lt hn2 (by decide)), a1, g_o1 a2, nI_1, b1]
  rfl
/-- how many of n lines end at z or ahead of it -/
def keepN (E : Nat → Nat) (z : Nat) : Nat → Nat
  | 0 => 0
  | n + 1 => if E n ≤ z then n + 1 else keepN E z n
theorem kk_forget {z : Nat} (hz : z ≤ 4000) : ∀ {n : Nat} {h : dzH} {o : Nat → Int32}, CW A h o v T E F → o 1 = nI n → n ≤ 200 → (∀ i, i < n → w32 (E i) ≤ 4000) → ∃ h', c_Lines_forgetBehind (A + 22) (nI z) h = some h' ∧ CW A h' (upd o 1 (nI (keepN (tw E) z n))) v T E F ∧ fr h h' (inC A)
  | 0, h, o, w, hn, hn2, hE => by
    obtain ⟨fs, ho⟩ := w.o22
    refine ⟨h, ?_, ?_, fr.rf _ _⟩
    · rw [cc_Lines_forgetBehind _ _ _ ho, q_Lines_forgetBehind_0]
      simp only [g_o1 w, hn, Option.bind_some]
      rfl
    · have : upd o 1 (nI (keepN (tw E) z 0)) = o := by
        funext k
        by_cases e : k = 1
        · rw [e, pk_us, hn]
          rfl
        · rw [pk_un e]
      rw [this]
      exact w
  | n + 1, h, o, w, hn, hn2, hE => by
    obtain ⟨fs, ho⟩ := w.o22
    have hEn := hE n (by omega)
    have e1 : E n = nI (w32 (E n)) := (nI_w32 _).symm
    unfold keepN
    by_cases hle : w32 (E n) ≤ z
    · refine ⟨h, ?_, ?_, fr.rf _ _⟩
      · rw [cc_Lines_forgetBehind _ _ _ ho, q_Lines_forgetBehind_0]
        simp only [g_o1 w, g_lines1 w, hn, Option.bind_some, if_neg (nI_nle (n := n + 1) (by omega) (by omega)), nI_pred]
        rw [r_E w (by omega), Option.bind_some, if_pos (by rw [e1]; exact nI_le hle (by omega))]
        rfl
      · rw [if_pos hle]
        have : upd o 1 (nI (n + 1)) = o := by
          funext k
          by_cases e : k = 1
          · rw [e, pk_us, hn]
          · rw [pk_un e]
        rw [this]
        exact w
    · obtain ⟨h1, a1, a2, a3⟩ := p_o1 w (nI n)
      obtain ⟨h2, b1, b2, b3⟩ := kk_forget hz (n := n) a2 pk_us (by omega) (fun i hi => hE i (by omega))
      obtain ⟨fs1, ho1⟩ := a2.o22
      refine ⟨h2, ?_, ?_, a3.tr b3⟩
      · rw [cc_Lines_forgetBehind _ _ _ ho, q_Lines_forgetBehind_0]
        simp only [g_o1 w, g_lines1 w, hn, Option.bind_some, if_neg (nI_nle (n := n + 1) (by omega) (by omega)), nI_pred]
        rw [r_E w (by omega), Option.bind_some, if_neg (by rw [e1]; exact nI_ge (by omega) (by omega)), a1, Option.bind_some]
        rw [cc_Lines_forgetBehind _ _ _ ho1] at b1
        exact b1
      · rw [if_neg hle]
        have : upd (upd o 1 (nI n)) 1 (nI (keepN (tw E) z n)) = upd o 1 (nI (keepN (tw E) z n)) := by
          funext k
          by_cases e : k = 1
          · rw [e, pk_us, pk_us]
          · rw [pk_un e, pk_un e, pk_un e]
        rw [← this]
        exact b2
/-- the first of n numbers that is x; from line i on -/
def lnOf (N : Nat → Nat) (x : Nat) : Nat → Nat → Option Nat
  | 0, _ => none
  | k + 1, i => if N i = x then some i else lnOf N x k (i + 1)
def lnI (r : Option Nat) (z : Int32) : Int32 := match r with
  | some i => nI i
  | none => z
theorem lp_lineOf (w : CW A h o v T E F) {n : Nat} (hn : o 1 = nI n) (hn2 : n ≤ 200) {r : Nat} (hr : isR r) : ∀ (k i : Nat), i + k = n → dzRI (dzF 83 2 [(0, .ref (A + 22)), (1, .ref (A + r)), (2, .int (nI i))] [] (0, 0) h) = some (lnI (lnOf (fun j => v (24 + j)) (v r) k i) (-2), h)
  | 0, i, e => by
    rw [q_Lines_lineOf_2]
    simp only [g_o1 w, hn, Option.bind_some, if_neg (nI_nlt (a := i) (b := n) (by omega) (by omega))]
    rfl
  | k + 1, i, e => by
    rw [q_Lines_lineOf_2]
    simp only [g_o1 w, g_lines0 w, hn, Option.bind_some, if_pos (nI_lt (a := i) (b := n) (by omega) (by omega)), g_nm w (l := i) (by omega), sp_order8 (w.row (isR_n (l := i) (by omega))) (w.row hr), ordI_0]
    unfold lnOf
    by_cases h1 : v (24 + i) = v r
    · rw [if_pos h1, if_pos h1]
      rfl
    · rw [if_neg h1, if_neg h1, nI_1]
      exact lp_lineOf w hn hn2 hr k (i + 1) (by omega)
theorem kk_lineOf (w : CW A h o v T E F) {n : Nat} (hn : o 1 = nI n) (hn2 : n ≤ 200) {r : Nat} (hr : isR r) : c_Lines_lineOf (A + 22) (A + r) h = some (lnI (lnOf (fun j => v (24 + j)) (v r) n 0) (-2), h) := by
  obtain ⟨fs, ho⟩ := w.o22
  rw [cc_Lines_lineOf _ _ _ ho, q_Lines_lineOf_0]
  exact lp_lineOf w hn hn2 hr n 0 (by omega)
-- the checker's small steps
theorem kk_refuse (w : CW A h o v T E F) (x y : Int32) : ∃ h', c_Checker_refuse (A + 232) x y h = some (0, h') ∧ CW A h' (upd (upd o 8 x) 9 y) v T E F ∧ fr h h' (inC A) := by
  obtain ⟨fs, ho⟩ := w.o232
  obtain ⟨h1, a1, a2, a3⟩ := p_o8 w x
  obtain ⟨h2, b1, b2, b3⟩ := p_o9 a2 y
  refine ⟨h2, ?_, b2, a3.tr b3⟩
  rw [cc_Checker_refuse _ _ _ _ ho, q_Checker_refuse_0, a1, Option.bind_some, b1]
  rfl
theorem kk_bad (w : CW A h o v T E F) (l : Nat) {x y : Int32} {a b : Nat} (ex : x = nI a) (ey : y = nI b) : Bad A h l o v F T E (a, b) (c_Checker_refuse (A + 232) x y h) := by
  obtain ⟨h', a1, a2, a3⟩ := kk_refuse w x y
  exact ⟨h', _, v, F, a1, ⟨a2, a3, fun k hk => by rw [pk_un (fun z => hk (by rw [z]; decide)), pk_un (fun z => hk (by rw [z]; decide))], fun _ _ _ => rfl, fun _ _ => rfl⟩, by rw [pk_un (by decide), pk_us, ex], by rw [pk_us, ey]⟩
theorem kk_badT (w : CW A h o v T E F) (l : Nat) {x : Int32} {a : Nat} (ex : x = nI a) (hc : o 3 = nI (c + 1)) : Bad A h l o v F T E (a, c) (c_Checker_refuseTaken (A + 232) x h) := by
  obtain ⟨fs, ho⟩ := w.o232
  have b := kk_bad w l ex (y := nI c) rfl
  rw [cc_Checker_refuseTaken _ _ _ ho, q_Checker_refuseTaken_0, g_o3 w, Option.bind_some, hc, nI_pred]
  exact b.b01
/-- the checker stands at int c of s -/
def At (o : Nat → Int32) (s c : Nat) : Prop := o 0 = nI s ∧ s ≤ 4000 ∧ o 3 = nI c ∧ c ≤ s
theorem kk_take (w : CW A h o v T E F) (l : Nat) (ha : At o s c) (hl : c < s) : ∃ h', c_Checker_take (A + 232) h = some (1, h') ∧ Wd A h l [3, 4] o v F T E h' (upd (upd o 4 (T c)) 3 (nI (c + 1))) v F ∧ At (upd (upd o 4 (T c)) 3 (nI (c + 1))) s (c + 1) := by
  obtain ⟨hs, h4, hc, hcs⟩ := ha
  obtain ⟨fs, ho⟩ := w.o232
  obtain ⟨h1, a1, a2, a3⟩ := p_o4 w (T c)
  obtain ⟨h2, b1, b2, b3⟩ := p_o3 a2 (nI (c + 1))
  refine ⟨h2, ?_, (Wd.int a2 a3 (by decide)).tr (Wd.int b2 b3 (by decide)), by rw [pk_un (by decide), pk_un (by decide)]; exact hs, h4, pk_us, by omega⟩
  rw [cc_Checker_take _ _ ho, q_Checker_take_0]
  simp only [g_o3 w, g_ck0 w, g_o0 w, g_tape0 w, hs, hc, Option.bind_some, if_pos (nI_lt (a := c) (b := s) hl (by omega)), r_T w (j := c) (by omega), a1, g_o3 a2, pk_un (f := o) (k := 4) (j := 3) (x := T c) (by decide), nI_1, b1]
  rfl
theorem kk_take0 (w : CW A h o v T E F) (l : Nat) (ha : At o s c) (hl : ¬ c < s) : Bad A h l o v F T E (1, s) (c_Checker_take (A + 232) h) := by
  obtain ⟨hs, h4, hc, hcs⟩ := ha
  obtain ⟨fs, ho⟩ := w.o232
  have b := kk_bad w l (x := 1) (a := 1) rfl (y := nI s) rfl
  rw [cc_Checker_take _ _ ho, q_Checker_take_0]
  simp only [g_o3 w, g_ck0 w, g_o0 w, hs, hc, Option.bind_some, if_neg (nI_nlt (a := c) (b := s) (by omega) (by omega))]
  exact b.b01
end
