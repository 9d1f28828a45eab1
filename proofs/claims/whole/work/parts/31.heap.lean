/-! the abstract heap: reads, writes, what stays -/
abbrev hU (h : dzH) (a : Nat) (x : dzE) : dzH := (h.1, va_up h.2 a (some x))
theorem hU_s (h : dzH) (a : Nat) (x : dzE) : (hU h a x).2 a = some x := va_up_self _ _ _
theorem hU_n {h : dzH} {a q : Nat} {x : dzE} (hq : q ≠ a) : (hU h a x).2 q = h.2 q := va_up_ne _ _ hq
theorem hU_u (h : dzH) (a : Nat) (x y : dzE) : hU (hU h a x) a y = hU h a y := by
  show ((h.1, va_up (va_up h.2 a (some x)) a (some y)) : dzH) = _
  rw [bx_uu]
theorem hU_id {h : dzH} {a : Nat} {x : dzE} (ha : h.2 a = some x) : hU h a x = h := by
  refine Prod.ext rfl (funext fun q => ?_)
  show va_up h.2 a (some x) q = h.2 q
  by_cases e : q = a
  · subst e; rw [va_up_self, ha]
  · rw [va_up_ne _ _ e]
theorem in_nI {j n : Nat} (hj : j < n) (hn : n < 2147483648) : ¬ (nI j < 0 ∨ n ≤ (nI j).toNatClampNeg) := by
  rw [nI_clamp (by omega)]
  intro h
  rcases h with h | h
  · exact nI_pos (by omega) h
  · omega
theorem drI_at {h : dzH} {a n j : Nat} {f : Nat → Int32} (ha : h.2 a = some (eI n f)) (hj : j < n) (hn : n < 2147483648) : drI h a (nI j) = some (f j) := by
  unfold drI
  rw [ha]
  dsimp only
  rw [if_pos (in_nI hj hn), nI_clamp (by omega)]
theorem drX_at {h : dzH} {a n j : Nat} {f : Nat → Int32} (ha : h.2 a = some (eX n f)) (hj : j < n) (hn : n < 2147483648) : drI h a (nI j) = some (f j) := by
  unfold drI
  rw [ha]
  dsimp only
  rw [if_pos (in_nI hj hn), nI_clamp (by omega)]
theorem dwI_at {h : dzH} {a n j : Nat} {f : Nat → Int32} (x : Int32) (ha : h.2 a = some (eI n f)) (hj : j < n) (hn : n < 2147483648) : dwI h a (nI j) x = some (hU h a (eI n (upd f j x))) := by
  unfold dwI
  rw [ha]
  dsimp only
  rw [if_pos (in_nI hj hn), nI_clamp (by omega)]
theorem drA_at {h : dzH} {a n j y : Nat} {f : Nat → Option Nat} (ha : h.2 a = some (eA n f)) (hj : j < n) (hn : n < 2147483648) (hy : f j = some y) : drA h a (nI j) = some y := by
  unfold drA
  rw [ha]
  dsimp only
  rw [if_pos (in_nI hj hn), nI_clamp (by omega), hy]
theorem dln_at {h : dzH} {a n : Nat} {f : Nat → Int32} (ha : h.2 a = some (eI n f)) : dln h a = some (nI n) := by
  unfold dln
  rw [ha]
  rfl
theorem dlnX_at {h : dzH} {a n : Nat} {f : Nat → Int32} (ha : h.2 a = some (eX n f)) : dln h a = some (nI n) := by
  unfold dln
  rw [ha]
  rfl
theorem dgI_at {h : dzH} {a ci k : Nat} {fs : List Value} {x : Int32} (ha : h.2 a = some (eO ci fs)) (hk : fs[k]? = some (.int x)) : dgI h a ci k = some x := by
  unfold dgI dgV
  rw [ha]
  dsimp only
  rw [if_pos rfl, hk]
theorem dgA_at {h : dzH} {a ci k x : Nat} {fs : List Value} (ha : h.2 a = some (eO ci fs)) (hk : fs[k]? = some (.ref x)) : dgA h a ci k = some x := by
  unfold dgA dgV
  rw [ha]
  dsimp only
  rw [if_pos rfl, hk]
theorem dpF_at {h : dzH} {a ci k : Nat} {fs : List Value} (v : Value) (ha : h.2 a = some (eO ci fs)) (hk : k < fs.length) : dpF h a ci k v = some (hU h a (eO ci (fs.set k v))) := by
  unfold dpF
  rw [ha]
  dsimp only
  rw [if_pos ⟨rfl, hk⟩]
theorem dcp_at {h : dzH} {a b n m : Nat} {f g : Nat → Int32} (ha : h.2 a = some (eI n f)) (hb : h.2 b = some (eI m g)) (hn : 8 ≤ n) (hm : 8 ≤ m) : dcp h a 0 b 0 8 = some (hU h b (eI m (fun i => if i < 8 then f i else g i))) := by
  unfold dcp
  rw [ha, hb]
  dsimp only
  have e0 : (0 : Int32).toNatClampNeg = 0 := by decide
  have e8 : (8 : Int32).toNatClampNeg = 8 := by decide
  rw [if_pos (by rw [e0, e8]; exact ⟨by decide, by decide, by decide, by omega, by omega⟩)]
  have e : va_cpy f g (0 : Int32).toNatClampNeg (0 : Int32).toNatClampNeg (8 : Int32).toNatClampNeg = fun i => if i < 8 then f i else g i := by
    funext i
    unfold va_cpy
    rw [e0, e8]
    by_cases hi : i < 8
    · rw [if_pos ⟨Nat.zero_le _, by omega⟩, if_pos hi]
      congr 1
      omega
    · rw [if_neg (fun q => hi (by omega)), if_neg hi]
  rw [e]
/-- nothing changes but at P -/
def fr (h h' : dzH) (P : Nat → Prop) : Prop := h'.1 = h.1 ∧ ∀ q, ¬ P q → h'.2 q = h.2 q
theorem fr.rf (h : dzH) (P : Nat → Prop) : fr h h P := ⟨rfl, fun _ _ => rfl⟩
theorem fr.tr {h h1 h2 : dzH} {P : Nat → Prop} (a : fr h h1 P) (b : fr h1 h2 P) : fr h h2 P := ⟨b.1.trans a.1, fun q hq => (b.2 q hq).trans (a.2 q hq)⟩
theorem fr.mono {h h1 : dzH} {P P' : Nat → Prop} (a : fr h h1 P) (hP : ∀ q, P q → P' q) : fr h h1 P' := ⟨a.1, fun q hq => a.2 q (fun z => hq (hP q z))⟩
theorem fr.up (h : dzH) (a : Nat) (x : dzE) : fr h (hU h a x) (fun q => q = a) := ⟨rfl, fun _ hq => hU_n hq⟩
theorem fr.at {h h1 : dzH} {P : Nat → Prop} {q : Nat} (a : fr h h1 P) (hq : ¬ P q) : h1.2 q = h.2 q := a.2 q hq
/-- a row of n ints at a -/
def rowN (h : dzH) (a n : Nat) : Prop := ∃ f, h.2 a = some (eI n f)
/-- the number in the n words of a row -/
def wv (f : Nat → Int32) (n : Nat) : Nat := pv 4294967296 (fun i => w32 (f i)) n
theorem wv_s (f : Nat → Int32) (n : Nat) : wv f (n + 1) = wv f n + w32 (f n) * 4294967296 ^ n := rfl
theorem wv_0 (f : Nat → Int32) : wv f 0 = 0 := rfl
theorem wv_lt (f : Nat → Int32) (n : Nat) : wv f n < 4294967296 ^ n := pv_lt (fun i _ => w32_lt (f i))
theorem wv_congr {f g : Nat → Int32} {n : Nat} (h : ∀ i, i < n → f i = g i) : wv f n = wv g n := pv_congr (fun i hi => by rw [h i hi])
theorem wv_inj {f g : Nat → Int32} {n : Nat} (h : wv f n = wv g n) : ∀ i, i < n → f i = g i := fun i hi => w32_inj (pv_inj (fun i _ => w32_lt (f i)) (fun i _ => w32_lt (g i)) h i hi)
/-- what eight words can't hold any more -/
def B8 : Nat := 4294967296 ^ 8
theorem B8_eq : 4294967296 ^ 8 = B8 := rfl
theorem B8_pos : 0 < B8 := by rw [← B8_eq]; exact Nat.pow_pos (by decide)
theorem wv_lt8 (f : Nat → Int32) : wv f 8 < B8 := wv_lt f 8
/-- the row at a has eight words and holds v -/
def row8 (h : dzH) (a v : Nat) : Prop := ∃ f, h.2 a = some (eI 8 f) ∧ wv f 8 = v
theorem row8.row {h : dzH} {a v : Nat} (r : row8 h a v) : rowN h a 8 := by obtain ⟨f, h1, -⟩ := r; exact ⟨f, h1⟩
theorem row8.lt {h : dzH} {a v : Nat} (r : row8 h a v) : v < B8 := by obtain ⟨f, -, h2⟩ := r; rw [← h2]; exact wv_lt8 f
theorem row8.eq {h h1 : dzH} {a v : Nat} (r : row8 h a v) (e : h1.2 a = h.2 a) : row8 h1 a v := by obtain ⟨f, h1, h2⟩ := r; exact ⟨f, by rw [e]; exact h1, h2⟩
theorem rowN.eq {h h1 : dzH} {a n : Nat} (r : rowN h a n) (e : h1.2 a = h.2 a) : rowN h1 a n := by obtain ⟨f, h1⟩ := r; exact ⟨f, by rw [e]; exact h1⟩
theorem rowN.val {h : dzH} {a : Nat} (r : rowN h a 8) : ∃ v, row8 h a v := by obtain ⟨f, h1⟩ := r; exact ⟨_, f, h1, rfl⟩
