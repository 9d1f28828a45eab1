/-! both objects at the start -/
theorem hx_nil {h : dzH} (hn : ∀ q, h.1 ≤ q → h.2 q = none) : hx h [] = h := by
  refine Prod.ext rfl (funext fun q => ?_)
  by_cases e : q < h.1
  · exact hx_low e
  · rw [hn q (by omega)]
    show (if q < h.1 then _ else _) = _
    rw [if_neg e]
    rfl
theorem hw_p (h : dzH) (R : List dzE) {ci j : Nat} {fs : List Value} (v : Value) (hj : j < fs.length) : dpF (hx h (eO ci fs :: R)) h.1 ci j v = some (hx h (eO ci (fs.set j v) :: R)) := hy_p h [] R v hj
theorem hw_I (h : dzH) (e : dzE) (R : List dzE) {i : Int32} {n : Nat} (ei : i = nI n) (hn : n ≤ 100000) : dnI (hx h (e :: R)) i = some (hx h (e :: (R ++ [eI n (fun _ => 0)]))) := hy_I h [] e R ei hn
theorem hw_a (h : dzH) (R : List dzE) {ci j x c2 : Nat} {fs : List Value} (hj : fs[j]? = some (.ref x)) : dgA (dnO (hx h (eO ci fs :: R)) c2) h.1 ci j = some x := by
  rw [hx_O]
  exact hy_a h [] (R ++ [eO c2 (dzDef c2)]) hj
theorem hw_1 (h : dzH) (e : dzE) (R : List dzE) {n : Nat} (hR : R.length + 1 = n) : (hx h (e :: R)).1 = h.1 + n := by
  rw [← hR]
  rfl
theorem hw_sums (h : dzH) (e : dzE) (R : List dzE) {n : Nat} (hR : R.length + 1 = n) : c_Sums_init (h.1 + n) (dnO (hx h (e :: R)) 6) = some (hx h (e :: (R ++ smL (h.1 + n)))) := by
  subst hR
  rw [hx_O]
  exact in_sums h (e :: R)
theorem hw_tape (h : dzH) (e : dzE) (R : List dzE) {n : Nat} (hR : R.length + 1 = n) : c_Tape_init (h.1 + n) (dnO (hx h (e :: R)) 7) = some (hx h (e :: (R ++ tpL (h.1 + n)))) := by
  subst hR
  rw [hx_O]
  exact in_tape h (e :: R)
theorem hw_lines (h : dzH) (e : dzE) (R : List dzE) {n : Nat} (hR : R.length + 1 = n) : c_Lines_init (h.1 + n) (dnO (hx h (e :: R)) 4) = some (hx h (e :: (R ++ lnL (h.1 + n)))) := by
  subst hR
  rw [hx_O]
  exact in_lines h (e :: R)
theorem hw_trial (h : dzH) (e : dzE) (R : List dzE) (S : Nat) {n : Nat} (hR : R.length + 1 = n) : c_Trial_init (h.1 + n) S (dnO (hx h (e :: R)) 8) = some (hx h (e :: (R ++ trL (h.1 + n) S))) := by
  subst hR
  rw [hx_O]
  exact in_trial h (e :: R) S
theorem hw_check (h : dzH) (e : dzE) (R : List dzE) (a1 a2 a3 a4 : Nat) {n : Nat} (hR : R.length + 1 = n) : c_Checker_init (h.1 + n) a1 a2 a3 a4 (dnO (hx h (e :: R)) 2) = some (hx h (e :: (R ++ ckL (h.1 + n) a1 a2 a3 a4))) := by
  subst hR
  rw [hx_O]
  exact in_check h (e :: R) a1 a2 a3 a4
theorem hw_maker (h : dzH) (e : dzE) (R : List dzE) (a1 a2 a3 a4 : Nat) {n : Nat} (hR : R.length + 1 = n) : c_Maker_init (h.1 + n) a1 a2 a3 a4 (dnO (hx h (e :: R)) 5) = some (hx h (e :: (R ++ mkL (h.1 + n) a1 a2 a3 a4))) := by
  subst hR
  rw [hx_O]
  exact in_maker h (e :: R) a1 a2 a3 a4
def rgL (A : Nat) : List dzE := eA 8 (fun i => some (A + 2 + i)) :: List.replicate 8 z8
def R1 (A : Nat) : List dzE := rgL A
def R2 (A : Nat) : List dzE := R1 A ++ [z8]
def R3 (A : Nat) : List dzE := R2 A ++ [z8]
def R4 (A : Nat) : List dzE := R3 A ++ smL (A + 12)
def R5 (A : Nat) : List dzE := R4 A ++ tpL (A + 20)
def R6 (A : Nat) : List dzE := R5 A ++ lnL (A + 22)
def R7 (A : Nat) : List dzE := R6 A ++ trL (A + 225) (A + 12)
def R8 (A : Nat) : List dzE := R7 A ++ ckL (A + 232) (A + 20) (A + 22) (A + 12) (A + 225)
def R9 (A : Nat) : List dzE := R8 A ++ mkL (A + 238) (A + 20) (A + 22) (A + 12) (A + 225)
theorem l_R1 (A : Nat) : (R1 A).length + 1 = 10 := rfl
theorem l_R2 (A : Nat) : (R2 A).length + 1 = 11 := rfl
theorem l_R3 (A : Nat) : (R3 A).length + 1 = 12 := rfl
theorem l_R4 (A : Nat) : (R4 A).length + 1 = 20 := rfl
theorem l_R5 (A : Nat) : (R5 A).length + 1 = 22 := rfl
theorem l_lnL (A : Nat) : (lnL A).length = 203 := by
  show (List.replicate 200 z8 ++ [eI 200 (fun _ => 0)]).length + 1 + 1 = 203
  rw [List.length_append, List.length_replicate]
  rfl
theorem l_R6 (A : Nat) : (R6 A).length + 1 = 225 := by
  unfold R6
  rw [List.length_append, l_lnL]
  have := l_R5 A
  omega
theorem l_R7 (A : Nat) : (R7 A).length + 1 = 232 := by
  unfold R7
  rw [List.length_append, show (trL (A + 225) (A + 12)).length = 7 from rfl]
  have := l_R6 A
  omega
theorem l_R8 (A : Nat) : (R8 A).length + 1 = 238 := by
  unfold R8
  rw [List.length_append, show (ckL (A + 232) (A + 20) (A + 22) (A + 12) (A + 225)).length = 6 from rfl]
  have := l_R7 A
  omega
theorem l_R9 (A : Nat) : (R9 A).length + 1 = 247 := by
  unfold R9
  rw [List.length_append, show (mkL (A + 238) (A + 20) (A + 22) (A + 12) (A + 225)).length = 9 from rfl]
  have := l_R8 A
  omega
def pO (A : Nat) : dzE := eO 0 [.ref (A + 1), .ref (A + 10), .ref (A + 11), .ref (A + 12), .ref (A + 20), .ref (A + 22), .ref (A + 232), .ref (A + 238)]
theorem hw_M (h : dzH) (fs : List Value) : dnM (hx h [eO 0 fs]) 8 8 = some (hx h (eO 0 fs :: R1 h.1)) := (hx_M h [eO 0 fs] (show (8 : Int32) = nI 8 from rfl) (show (8 : Int32) = nI 8 from rfl) (by decide) (by decide)).trans rfl
theorem in_P {h : dzH} (hn : ∀ q, h.1 ≤ q → h.2 q = none) : c_P_init h.1 (dnO h 0) = some (hx h (pO h.1 :: R9 h.1)) := by
  have e0 : dnO h 0 = hx h [eO 0 (dzDef 0)] := by
    have := hx_O h [] 0
    rw [hx_nil hn] at this
    exact this
  have g0 : (hx h [eO 0 (dzDef 0)]).2 h.1 = some (eO 0 (dzDef 0)) := hx_get h [eO 0 (dzDef 0)] 0
  rw [e0, cc_P_init _ _ g0, q_P_init_0, df0, hw_M, Option.bind_some, hw_1 h _ [] rfl, hw_p h _ _ (by simp), Option.bind_some]
  rw [hw_I h _ (R1 h.1) (show (8 : Int32) = nI 8 from rfl) (by decide), Option.bind_some, hw_1 h _ (R1 h.1) (l_R1 h.1), hw_p h _ _ (by simp), Option.bind_some]
  rw [show R1 h.1 ++ [eI 8 (fun _ => 0)] = R2 h.1 from rfl]
  rw [hw_I h _ (R2 h.1) (show (8 : Int32) = nI 8 from rfl) (by decide), Option.bind_some, hw_1 h _ (R2 h.1) (l_R2 h.1), hw_p h _ _ (by simp), Option.bind_some]
  rw [show R2 h.1 ++ [eI 8 (fun _ => 0)] = R3 h.1 from rfl]
  rw [hw_1 h _ (R3 h.1) (l_R3 h.1), hw_sums h _ (R3 h.1) (l_R3 h.1), Option.bind_some, show R3 h.1 ++ smL (h.1 + 12) = R4 h.1 from rfl, hw_p h _ _ (by simp), Option.bind_some]
  rw [hw_1 h _ (R4 h.1) (l_R4 h.1), hw_tape h _ (R4 h.1) (l_R4 h.1), Option.bind_some, show R4 h.1 ++ tpL (h.1 + 20) = R5 h.1 from rfl, hw_p h _ _ (by simp), Option.bind_some]
  rw [hw_1 h _ (R5 h.1) (l_R5 h.1), hw_lines h _ (R5 h.1) (l_R5 h.1), Option.bind_some, show R5 h.1 ++ lnL (h.1 + 22) = R6 h.1 from rfl, hw_p h _ _ (by simp), Option.bind_some]
  rw [hw_a h (R6 h.1) (x := h.1 + 12) rfl, Option.bind_some, hw_1 h _ (R6 h.1) (l_R6 h.1), hw_trial h _ (R6 h.1) _ (l_R6 h.1), Option.bind_some, show R6 h.1 ++ trL (h.1 + 225) (h.1 + 12) = R7 h.1 from rfl]
  rw [hw_a h (R7 h.1) (x := h.1 + 20) rfl, Option.bind_some, hw_a h (R7 h.1) (x := h.1 + 22) rfl, Option.bind_some, hw_a h (R7 h.1) (x := h.1 + 12) rfl, Option.bind_some, hw_1 h _ (R7 h.1) (l_R7 h.1), hw_check h _ (R7 h.1) _ _ _ _ (l_R7 h.1), Option.bind_some, show R7 h.1 ++ ckL (h.1 + 232) (h.1 + 20) (h.1 + 22) (h.1 + 12) (h.1 + 225) = R8 h.1 from rfl, hw_p h _ _ (by simp), Option.bind_some]
  rw [hw_a h (R8 h.1) (x := h.1 + 20) rfl, Option.bind_some, hw_a h (R8 h.1) (x := h.1 + 22) rfl, Option.bind_some, hw_a h (R8 h.1) (x := h.1 + 12) rfl, Option.bind_some, hw_1 h _ (R8 h.1) (l_R8 h.1), hw_maker h _ (R8 h.1) _ _ _ _ (l_R8 h.1), Option.bind_some, show R8 h.1 ++ mkL (h.1 + 238) (h.1 + 20) (h.1 + 22) (h.1 + 12) (h.1 + 225) = R9 h.1 from rfl, hw_p h _ _ (by simp), Option.bind_some]
  rfl
