/-! the objects as they are made -/
def hx (h : dzH) (M : List dzE) : dzH := (h.1 + M.length, fun q => if q < h.1 then h.2 q else M[q - h.1]?)
theorem hx_low {h : dzH} {M : List dzE} {q : Nat} (hq : q < h.1) : (hx h M).2 q = h.2 q := if_pos hq
theorem hx_get (h : dzH) (M : List dzE) (k : Nat) : (hx h M).2 (h.1 + k) = M[k]? := by
  show (if h.1 + k < h.1 then _ else M[h.1 + k - h.1]?) = _
  rw [if_neg (by omega), Nat.add_sub_cancel_left]
theorem hx_new (h : dzH) (M : List dzE) (e : dzE) : ((hx h M).1 + 1, va_up (hx h M).2 (hx h M).1 (some e)) = hx h (M ++ [e]) := by
  refine Prod.ext ?_ (funext fun q => ?_)
  · show h.1 + M.length + 1 = h.1 + (M ++ [e]).length
    rw [List.length_append]
    rfl
  · by_cases e1 : q = h.1 + M.length
    · subst e1
      show va_up _ (h.1 + M.length) _ (h.1 + M.length) = _
      rw [va_up_self, hx_get, List.getElem?_append_right (Nat.le_refl _), Nat.sub_self]
      rfl
    · show va_up _ (h.1 + M.length) _ q = _
      rw [va_up_ne _ _ e1]
      by_cases e2 : q < h.1
      · rw [hx_low e2, hx_low e2]
      · obtain ⟨k, rfl⟩ : ∃ k, q = h.1 + k := ⟨q - h.1, by omega⟩
        rw [hx_get, hx_get]
        rcases Nat.lt_or_ge k M.length with z | z
        · rw [List.getElem?_append_left z]
        · rw [List.getElem?_eq_none z, List.getElem?_eq_none (by rw [List.length_append]; show M.length + 1 ≤ k; omega)]
theorem hx_O (h : dzH) (M : List dzE) (ci : Nat) : dnO (hx h M) ci = hx h (M ++ [eO ci (dzDef ci)]) := hx_new h M _
theorem hx_I (h : dzH) (M : List dzE) {i : Int32} {n : Nat} (ei : i = nI n) (hn : n ≤ 100000) : dnI (hx h M) i = some (hx h (M ++ [eI n (fun _ => 0)])) := by
  subst ei
  unfold dnI
  rw [nI_clamp (by omega), if_pos ⟨nI_pos (by omega), hn⟩, hx_new]
theorem hx_M (h : dzH) (M : List dzE) {i j : Int32} {n m : Nat} (ei : i = nI n) (ej : j = nI m) (hn : n ≤ 1000) (hm : m ≤ 1000) : dnM (hx h M) i j = some (hx h (M ++ (eA n (fun i => some (h.1 + M.length + 1 + i)) :: List.replicate n (eI m (fun _ => 0))))) := by
  subst ei
  subst ej
  unfold dnM
  rw [nI_clamp (by omega), nI_clamp (by omega), if_pos ⟨nI_pos (by omega), nI_pos (by omega), hn, hm⟩]
  congr 1
  refine Prod.ext ?_ (funext fun q => ?_)
  · show h.1 + M.length + 1 + n = h.1 + (M ++ (_ :: List.replicate n _)).length
    rw [List.length_append, List.length_cons, List.length_replicate]
    omega
  · show (if q = h.1 + M.length then _ else if h.1 + M.length < q ∧ q ≤ h.1 + M.length + n then _ else (hx h M).2 q) = _
    by_cases e2 : q < h.1
    · rw [if_neg (by omega), if_neg (by omega), hx_low e2, hx_low e2]
    · obtain ⟨k, rfl⟩ : ∃ k, q = h.1 + k := ⟨q - h.1, by omega⟩
      rw [hx_get, hx_get]
      rcases Nat.lt_or_ge k M.length with z | z
      · rw [if_neg (by omega), if_neg (by omega), List.getElem?_append_left z]
      · rw [List.getElem?_append_right z]
        rcases Nat.eq_or_lt_of_le z with y | y
        · rw [if_pos (by omega), ← y, Nat.sub_self]
          rfl
        · rw [if_neg (by omega), show k - M.length = (k - M.length - 1) + 1 by omega, List.getElem?_cons_succ, List.getElem?_replicate]
          by_cases x : k - M.length - 1 < n
          · rw [if_pos (by omega), if_pos x]
          · rw [if_neg (by omega), if_neg x, List.getElem?_eq_none (by omega)]
theorem hx_set (h : dzH) (M : List dzE) {k : Nat} (hk : k < M.length) (e : dzE) : ((hx h M).1, va_up (hx h M).2 (h.1 + k) (some e)) = hx h (M.set k e) := by
  refine Prod.ext ?_ (funext fun q => ?_)
  · show h.1 + M.length = h.1 + (M.set k e).length
    rw [List.length_set]
  · by_cases e1 : q = h.1 + k
    · subst e1
      show va_up _ _ _ _ = _
      rw [va_up_self, hx_get, List.getElem?_set_self hk]
    · show va_up _ _ _ q = _
      rw [va_up_ne _ _ e1]
      by_cases e2 : q < h.1
      · rw [hx_low e2, hx_low e2]
      · obtain ⟨j, rfl⟩ : ∃ j, q = h.1 + j := ⟨q - h.1, by omega⟩
        rw [hx_get, hx_get, List.getElem?_set_ne (by omega)]
theorem hx_p (h : dzH) (M : List dzE) {k ci j : Nat} {fs : List Value} (v : Value) (hk : M[k]? = some (eO ci fs)) (hj : j < fs.length) : dpF (hx h M) (h.1 + k) ci j v = some (hx h (M.set k (eO ci (fs.set j v)))) := by
  have hl : k < M.length := (List.getElem?_eq_some_iff.mp hk).1
  have := dpF_at (h := hx h M) (a := h.1 + k) (ci := ci) (k := j) v (by rw [hx_get, hk]) hj
  rw [this]
  congr 1
  exact hx_set h M hl _
/-- an object behind M, with what it has made behind it -/
theorem hy_I (h : dzH) (M : List dzE) (e : dzE) (R : List dzE) {i : Int32} {n : Nat} (ei : i = nI n) (hn : n ≤ 100000) : dnI (hx h (M ++ (e :: R))) i = some (hx h (M ++ (e :: (R ++ [eI n (fun _ => 0)])))) := by
  rw [hx_I h _ ei hn, List.append_assoc]
  rfl
theorem hy_p (h : dzH) (M R : List dzE) {ci j : Nat} {fs : List Value} (v : Value) (hj : j < fs.length) : dpF (hx h (M ++ (eO ci fs :: R))) (h.1 + M.length) ci j v = some (hx h (M ++ (eO ci (fs.set j v) :: R))) := by
  rw [hx_p h _ v (fs := fs) (by rw [List.getElem?_append_right (Nat.le_refl _), Nat.sub_self]; rfl) hj, List.set_append_right _ _ (Nat.le_refl _), Nat.sub_self]
  rfl
theorem hy_1 (h : dzH) (M : List dzE) (e : dzE) (R : List dzE) : (hx h (M ++ (e :: R))).1 = h.1 + M.length + (1 + R.length) := by
  show h.1 + (M ++ (e :: R)).length = _
  rw [List.length_append, List.length_cons]
  omega
theorem hy_g (h : dzH) (M R : List dzE) (e : dzE) : (hx h (M ++ (e :: R))).2 (h.1 + M.length) = some e := by
  rw [hx_get, List.getElem?_append_right (Nat.le_refl _), Nat.sub_self]
  rfl
theorem df0 : dzDef 0 = [.null, .null, .null, .null, .null, .null, .null, .null] := rfl
theorem df1 : dzDef 1 = [.null, .null, .int 0, .int 0, .int 0, .int 0, .int 0, .int 0, .int 0, .null, .null, .null] := rfl
theorem df2 : dzDef 2 = [.null, .null, .null, .null, .null, .null, .int 0, .int 0, .int 0, .int 0, .int 0, .int 0, .int 0] := rfl
theorem df3 : dzDef 3 = [.null, .null, .null, .int 0] := rfl
theorem df4 : dzDef 4 = [.null, .null, .int 0, .int 0] := rfl
theorem df5 : dzDef 5 = [.null, .null, .null, .null, .null, .null, .null, .null, .null, .int 0, .int 0] := rfl
theorem df6 : dzDef 6 = [.null, .null, .null, .int 0, .int 0, .null, .null, .null, .null] := rfl
theorem df7 : dzDef 7 = [.null, .int 0] := rfl
theorem df8 : dzDef 8 = [.null, .null, .null, .null, .null, .null, .null] := rfl
abbrev z8 : dzE := eI 8 (fun _ => 0)
theorem in_sums (h : dzH) (M : List dzE) : c_Sums_init (h.1 + M.length) (hx h (M ++ [eO 6 (dzDef 6)])) = some (hx h (M ++ [sumsO (h.1 + M.length) 0 0, eI 17 (fun _ => 0), eI 17 (fun _ => 0), z8, z8, z8, z8, z8])) := by
  rw [cc_Sums_init _ _ (hy_g h M [] _), q_Sums_init_0]
  rw [df6]
  simp only [hy_I h M _ _ (show (17 : Int32) = nI 17 from rfl) (by decide), hy_I h M _ _ (show (8 : Int32) = nI 8 from rfl) (by decide), Option.bind_some, hy_p, hy_1, List.set_cons_zero, List.set_cons_succ, List.length_cons, List.length_nil, Nat.zero_lt_succ, Nat.succ_lt_succ_iff, List.nil_append, List.cons_append]
  rfl
theorem hy_M (h : dzH) (M : List dzE) (e : dzE) (R : List dzE) {i j : Int32} {n m : Nat} (ei : i = nI n) (ej : j = nI m) (hn : n ≤ 1000) (hm : m ≤ 1000) : dnM (hx h (M ++ (e :: R))) i j = some (hx h (M ++ (e :: (R ++ (eA n (fun i => some (h.1 + M.length + (1 + R.length) + 1 + i)) :: List.replicate n (eI m (fun _ => 0))))))) := by
  rw [hx_M h _ ei ej hn hm, List.append_assoc, List.length_append, List.length_cons]
  congr 3
  show e :: (R ++ _) = e :: (R ++ _)
  congr 4
  funext i
  congr 1
  omega
theorem hy_a (h : dzH) (M R : List dzE) {ci j x : Nat} {fs : List Value} (hj : fs[j]? = some (.ref x)) : dgA (hx h (M ++ (eO ci fs :: R))) (h.1 + M.length) ci j = some x := dgA_at (hy_g h M R _) hj
theorem hy_w (h : dzH) (M X : List dzE) {j n : Nat} {f : Nat → Int32} (x : Int32) (hj : X[j]? = some (eI n f)) (h0 : 0 < n) (hn : n < 2147483648) : dwI (hx h (M ++ X)) (h.1 + M.length + j) 0 x = some (hx h (M ++ X.set j (eI n (upd f 0 x)))) := by
  have hg : (M ++ X)[M.length + j]? = some (eI n f) := by
    rw [List.getElem?_append_right (by omega), Nat.add_sub_cancel_left, hj]
  have hl : M.length + j < (M ++ X).length := (List.getElem?_eq_some_iff.mp hg).1
  have := dwI_at (h := hx h (M ++ X)) (a := h.1 + (M.length + j)) x (by rw [hx_get]; exact hg) h0 hn
  rw [nI_0] at this
  rw [Nat.add_assoc, this]
  congr 1
  refine (hx_set h _ hl _).trans ?_
  rw [List.set_append_right _ _ (by omega), Nat.add_sub_cancel_left]
def smL (B : Nat) : List dzE := [sumsO B 0 0, eI 17 (fun _ => 0), eI 17 (fun _ => 0), z8, z8, z8, z8, z8]
def tpL (B : Nat) : List dzE := [eO 7 [.ref (B + 1), .int 0], eI 4000 (fun _ => 0)]
def lnL (B : Nat) : List dzE := eO 4 [.ref (B + 1), .ref (B + 202), .int 0, .int 0] :: (eA 200 (fun i => some (B + 2 + i)) :: (List.replicate 200 z8 ++ [eI 200 (fun _ => 0)]))
def trL (B S : Nat) : List dzE := [eO 8 [.ref S, .ref (B + 1), .ref (B + 2), .ref (B + 3), .ref (B + 4), .ref (B + 5), .ref (B + 6)], z8, z8, eI 8 (upd (fun _ => 0) 0 1), z8, z8, z8]
def fcL (B : Nat) : List dzE := [eO 3 [.ref (B + 1), .ref (B + 2), .ref (B + 3), .int 0], eI 40 (fun _ => 0), eI 40 (fun _ => 0), eI 40 (fun _ => 0)]
def ckL (B a1 a2 a3 a4 : Nat) : List dzE := eO 2 [.ref a1, .ref a2, .ref a3, .ref a4, .ref (B + 1), .ref (B + 5), .int 0, .int 0, .int 0, .int 0, .int 0, .int 0, .int (-2)] :: (fcL (B + 1) ++ [z8])
def mkL (B a1 a2 a3 a4 : Nat) : List dzE := eO 5 [.ref a1, .ref a2, .ref a3, .ref a4, .ref (B + 1), .ref (B + 5), .ref (B + 6), .ref (B + 7), .ref (B + 8), .int 0, .int 0] :: (fcL (B + 1) ++ [z8, z8, z8, z8])
theorem in_tape (h : dzH) (M : List dzE) : c_Tape_init (h.1 + M.length) (hx h (M ++ [eO 7 (dzDef 7)])) = some (hx h (M ++ tpL (h.1 + M.length))) := by
  rw [cc_Tape_init _ _ (hy_g h M [] _), q_Tape_init_0, df7]
  simp only [hy_I h M _ _ (show (4000 : Int32) = nI 4000 from rfl) (by decide), Option.bind_some, hy_p, hy_1, List.set_cons_zero, List.set_cons_succ, List.length_cons, List.length_nil, Nat.zero_lt_succ, Nat.succ_lt_succ_iff, List.nil_append, List.cons_append]
  rfl
theorem in_lines (h : dzH) (M : List dzE) : c_Lines_init (h.1 + M.length) (hx h (M ++ [eO 4 (dzDef 4)])) = some (hx h (M ++ lnL (h.1 + M.length))) := by
  rw [cc_Lines_init _ _ (hy_g h M [] _), q_Lines_init_0, df4]
  simp only [hy_M h M _ _ (show (200 : Int32) = nI 200 from rfl) (show (8 : Int32) = nI 8 from rfl) (by decide) (by decide), hy_I h M _ _ (show (200 : Int32) = nI 200 from rfl) (by decide), Option.bind_some, hy_p, hy_1, List.set_cons_zero, List.set_cons_succ, List.length_cons, List.length_nil, Nat.zero_lt_succ, Nat.succ_lt_succ_iff, List.nil_append, List.cons_append, List.length_replicate]
  rfl
theorem in_trial (h : dzH) (M : List dzE) (S : Nat) : c_Trial_init (h.1 + M.length) S (hx h (M ++ [eO 8 (dzDef 8)])) = some (hx h (M ++ trL (h.1 + M.length) S)) := by
  rw [cc_Trial_init _ _ _ (hy_g h M [] _), q_Trial_init_0, df8]
  simp only [hy_I h M _ _ (show (8 : Int32) = nI 8 from rfl) (by decide), Option.bind_some, hy_p, hy_1, List.set_cons_zero, List.set_cons_succ, List.length_cons, List.length_nil, Nat.zero_lt_succ, Nat.succ_lt_succ_iff, List.nil_append, List.cons_append]
  rw [hy_a h M _ (x := h.1 + M.length + 3) rfl, Option.bind_some, hy_w h M _ (j := 3) (n := 8) (f := fun _ => 0) 1 rfl (by decide) (by decide)]
  rfl
theorem in_facs (h : dzH) (M : List dzE) : c_Factors_init (h.1 + M.length) (hx h (M ++ [eO 3 (dzDef 3)])) = some (hx h (M ++ fcL (h.1 + M.length))) := by
  rw [cc_Factors_init _ _ (hy_g h M [] _), q_Factors_init_0, df3]
  simp only [hy_I h M _ _ (show (40 : Int32) = nI 40 from rfl) (by decide), Option.bind_some, hy_p, hy_1, List.set_cons_zero, List.set_cons_succ, List.length_cons, List.length_nil, Nat.zero_lt_succ, Nat.succ_lt_succ_iff, List.nil_append, List.cons_append]
  rfl
/-- factors behind an object -/
theorem hy_F (h : dzH) (M : List dzE) (e : dzE) : c_Factors_init (h.1 + M.length + (1 + ([] : List dzE).length)) (dnO (hx h (M ++ [e])) 3) = some (hx h (M ++ (e :: fcL (h.1 + M.length + 1)))) := by
  have := in_facs h (M ++ [e])
  rw [hx_O]
  rw [List.length_append, ← Nat.add_assoc] at this
  refine this.trans ?_
  rw [List.append_assoc]
  rfl
theorem in_check (h : dzH) (M : List dzE) (a1 a2 a3 a4 : Nat) : c_Checker_init (h.1 + M.length) a1 a2 a3 a4 (hx h (M ++ [eO 2 (dzDef 2)])) = some (hx h (M ++ ckL (h.1 + M.length) a1 a2 a3 a4)) := by
  rw [cc_Checker_init _ _ _ _ _ _ (hy_g h M [] _), q_Checker_init_0, df2, hy_1, hy_F, Option.bind_some]
  simp only [hy_I h M _ _ (show (8 : Int32) = nI 8 from rfl) (by decide), Option.bind_some, hy_p, hy_1, List.set_cons_zero, List.set_cons_succ, List.length_cons, List.length_nil, Nat.zero_lt_succ, Nat.succ_lt_succ_iff, List.nil_append, List.cons_append]
  rfl
theorem in_maker (h : dzH) (M : List dzE) (a1 a2 a3 a4 : Nat) : c_Maker_init (h.1 + M.length) a1 a2 a3 a4 (hx h (M ++ [eO 5 (dzDef 5)])) = some (hx h (M ++ mkL (h.1 + M.length) a1 a2 a3 a4)) := by
  rw [cc_Maker_init _ _ _ _ _ _ (hy_g h M [] _), q_Maker_init_0, df5, hy_1, hy_F, Option.bind_some]
  simp only [hy_I h M _ _ (show (8 : Int32) = nI 8 from rfl) (by decide), Option.bind_some, hy_p, hy_1, List.set_cons_zero, List.set_cons_succ, List.length_cons, List.length_nil, Nat.zero_lt_succ, Nat.succ_lt_succ_iff, List.nil_append, List.cons_append]
  rfl
