/-! the reference's memory: a heap with the reference's cells put over it -/
def mO (M : Nat) (o : Nat → Int32) : dzE := eO 1 [.ref (M + 1), .ref (M + 2), .int (o 2), .int (o 3), .int (o 4), .int (o 5), .int (o 6), .int (o 7), .int (o 8), .ref (M + 3), .ref (M + 4), .ref (M + 5)]
def mS (h : dzH) (M : Nat) (o : Nat → Int32) (g : Nat → Nat) (T : Nat → Int32) (F : Nat → Nat → Int32) : dzH :=
  (h.1, fun q => if q = M then some (mO M o) else if q = M + 1 then some (eI 9280 (mg g)) else if q = M + 2 then some (eI 4000 T) else if q = M + 3 then some (eI 40 (F 0)) else if q = M + 4 then some (eI 40 (F 1)) else if q = M + 5 then some (eI 40 (F 2)) else h.2 q)
theorem mS_0 (h : dzH) (M : Nat) (o : Nat → Int32) (g : Nat → Nat) (T : Nat → Int32) (F : Nat → Nat → Int32) : (mS h M o g T F).2 M = some (mO M o) := if_pos rfl
theorem mS_1 (h : dzH) (M : Nat) (o : Nat → Int32) (g : Nat → Nat) (T : Nat → Int32) (F : Nat → Nat → Int32) : (mS h M o g T F).2 (M + 1) = some (eI 9280 (mg g)) := by
  show (if M + 1 = M then _ else _) = _
  rw [if_neg (by omega), if_pos rfl]
theorem mS_2 (h : dzH) (M : Nat) (o : Nat → Int32) (g : Nat → Nat) (T : Nat → Int32) (F : Nat → Nat → Int32) : (mS h M o g T F).2 (M + 2) = some (eI 4000 T) := by
  show (if M + 2 = M then _ else _) = _
  rw [if_neg (by omega), if_neg (by omega), if_pos rfl]
theorem mS_3 (h : dzH) (M : Nat) (o : Nat → Int32) (g : Nat → Nat) (T : Nat → Int32) (F : Nat → Nat → Int32) : (mS h M o g T F).2 (M + 3) = some (eI 40 (F 0)) := by
  show (if M + 3 = M then _ else _) = _
  rw [if_neg (by omega), if_neg (by omega), if_neg (by omega), if_pos rfl]
theorem mS_4 (h : dzH) (M : Nat) (o : Nat → Int32) (g : Nat → Nat) (T : Nat → Int32) (F : Nat → Nat → Int32) : (mS h M o g T F).2 (M + 4) = some (eI 40 (F 1)) := by
  show (if M + 4 = M then _ else _) = _
  rw [if_neg (by omega), if_neg (by omega), if_neg (by omega), if_neg (by omega), if_pos rfl]
theorem mS_5 (h : dzH) (M : Nat) (o : Nat → Int32) (g : Nat → Nat) (T : Nat → Int32) (F : Nat → Nat → Int32) : (mS h M o g T F).2 (M + 5) = some (eI 40 (F 2)) := by
  show (if M + 5 = M then _ else _) = _
  rw [if_neg (by omega), if_neg (by omega), if_neg (by omega), if_neg (by omega), if_neg (by omega), if_pos rfl]
theorem mS_out {h : dzH} {M : Nat} {o : Nat → Int32} {g : Nat → Nat} {T : Nat → Int32} {F : Nat → Nat → Int32} {q : Nat} (hq : ¬ (M ≤ q ∧ q ≤ M + 5)) : (mS h M o g T F).2 q = h.2 q := by
  show (if q = M then _ else _) = _
  rw [if_neg (by omega), if_neg (by omega), if_neg (by omega), if_neg (by omega), if_neg (by omega), if_neg (by omega)]
theorem mS_MO {h : dzH} {M : Nat} {o : Nat → Int32} {g : Nat → Nat} {T : Nat → Int32} {F : Nat → Nat → Int32} (ok : okg g) : MO M (mS h M o g T F) g := ⟨⟨_, mS_0 h M o g T F⟩, mS_1 h M o g T F, ok⟩
theorem mS_ext {h : dzH} {M : Nat} {o : Nat → Int32} {g : Nat → Nat} {T : Nat → Int32} {F : Nat → Nat → Int32} {h' : dzH} (e1 : h'.1 = h.1) (e : ∀ q, ¬ (M ≤ q ∧ q ≤ M + 5) → h'.2 q = h.2 q) (e0 : h'.2 M = some (mO M o)) (e2 : h'.2 (M + 1) = some (eI 9280 (mg g))) (e3 : h'.2 (M + 2) = some (eI 4000 T)) (e4 : h'.2 (M + 3) = some (eI 40 (F 0))) (e5 : h'.2 (M + 4) = some (eI 40 (F 1))) (e6 : h'.2 (M + 5) = some (eI 40 (F 2))) : h' = mS h M o g T F := by
  refine Prod.ext e1 (funext fun q => ?_)
  by_cases hq : M ≤ q ∧ q ≤ M + 5
  · rcases (show q = M ∨ q = M + 1 ∨ q = M + 2 ∨ q = M + 3 ∨ q = M + 4 ∨ q = M + 5 by omega) with z | z | z | z | z | z <;> rw [z]
    · rw [e0, mS_0]
    · rw [e2, mS_1]
    · rw [e3, mS_2]
    · rw [e4, mS_3]
    · rw [e5, mS_4]
    · rw [e6, mS_5]
  · rw [e q hq, mS_out hq]
theorem hD_mS (h : dzH) (M : Nat) (o : Nat → Int32) (g g' : Nat → Nat) (T : Nat → Int32) (F : Nat → Nat → Int32) : hD (mS h M o g T F) M g' = mS h M o g' T F :=
  mS_ext rfl (fun q hq => by rw [hU_n (by omega), mS_out hq]) (by rw [hU_n (by omega), mS_0]) (hU_s _ _ _) (by rw [hU_n (by omega), mS_2]) (by rw [hU_n (by omega), mS_3]) (by rw [hU_n (by omega), mS_4]) (by rw [hU_n (by omega), mS_5])
theorem mS_T (h : dzH) (M : Nat) (o : Nat → Int32) (g : Nat → Nat) (T : Nat → Int32) (F : Nat → Nat → Int32) : dgA (mS h M o g T F) M 1 1 = some (M + 2) := dgA_at (mS_0 h M o g T F) rfl
theorem mS_F0 (h : dzH) (M : Nat) (o : Nat → Int32) (g : Nat → Nat) (T : Nat → Int32) (F : Nat → Nat → Int32) : dgA (mS h M o g T F) M 1 9 = some (M + 3) := dgA_at (mS_0 h M o g T F) rfl
theorem mS_F1 (h : dzH) (M : Nat) (o : Nat → Int32) (g : Nat → Nat) (T : Nat → Int32) (F : Nat → Nat → Int32) : dgA (mS h M o g T F) M 1 10 = some (M + 4) := dgA_at (mS_0 h M o g T F) rfl
theorem mS_F2 (h : dzH) (M : Nat) (o : Nat → Int32) (g : Nat → Nat) (T : Nat → Int32) (F : Nat → Nat → Int32) : dgA (mS h M o g T F) M 1 11 = some (M + 5) := dgA_at (mS_0 h M o g T F) rfl
theorem mS_rT {h : dzH} {M : Nat} {o : Nat → Int32} {g : Nat → Nat} {T : Nat → Int32} {F : Nat → Nat → Int32} {j : Nat} (hj : j < 4000) : drI (mS h M o g T F) (M + 2) (nI j) = some (T j) := drI_at (mS_2 h M o g T F) hj (by decide)
theorem mS_rF0 {h : dzH} {M : Nat} {o : Nat → Int32} {g : Nat → Nat} {T : Nat → Int32} {F : Nat → Nat → Int32} {j : Nat} (hj : j < 40) : drI (mS h M o g T F) (M + 3) (nI j) = some (F 0 j) := drI_at (mS_3 h M o g T F) hj (by decide)
theorem mS_rF1 {h : dzH} {M : Nat} {o : Nat → Int32} {g : Nat → Nat} {T : Nat → Int32} {F : Nat → Nat → Int32} {j : Nat} (hj : j < 40) : drI (mS h M o g T F) (M + 4) (nI j) = some (F 1 j) := drI_at (mS_4 h M o g T F) hj (by decide)
theorem mS_rF2 {h : dzH} {M : Nat} {o : Nat → Int32} {g : Nat → Nat} {T : Nat → Int32} {F : Nat → Nat → Int32} {j : Nat} (hj : j < 40) : drI (mS h M o g T F) (M + 5) (nI j) = some (F 2 j) := drI_at (mS_5 h M o g T F) hj (by decide)
theorem mS_wT {h : dzH} {M : Nat} {o : Nat → Int32} {g : Nat → Nat} {T : Nat → Int32} {F : Nat → Nat → Int32} {j : Nat} (x : Int32) (hj : j < 4000) : dwI (mS h M o g T F) (M + 2) (nI j) x = some (mS h M o g (upd T j x) F) := by
  rw [dwI_at x (mS_2 h M o g T F) hj (by decide)]
  congr 1
  exact mS_ext rfl (fun q hq => by rw [hU_n (by omega), mS_out hq]) (by rw [hU_n (by omega), mS_0]) (by rw [hU_n (by omega), mS_1]) (hU_s _ _ _) (by rw [hU_n (by omega), mS_3]) (by rw [hU_n (by omega), mS_4]) (by rw [hU_n (by omega), mS_5])
theorem mS_wF0 {h : dzH} {M : Nat} {o : Nat → Int32} {g : Nat → Nat} {T : Nat → Int32} {F : Nat → Nat → Int32} {j : Nat} (x : Int32) (hj : j < 40) : dwI (mS h M o g T F) (M + 3) (nI j) x = some (mS h M o g T (uF F 0 j x)) := by
  rw [dwI_at x (mS_3 h M o g T F) hj (by decide)]
  congr 1
  exact mS_ext rfl (fun q hq => by rw [hU_n (by omega), mS_out hq]) (by rw [hU_n (by omega), mS_0]) (by rw [hU_n (by omega), mS_1]) (by rw [hU_n (by omega), mS_2]) (hU_s _ _ _) (by rw [hU_n (by omega), mS_4]; rfl) (by rw [hU_n (by omega), mS_5]; rfl)
theorem mS_wF1 {h : dzH} {M : Nat} {o : Nat → Int32} {g : Nat → Nat} {T : Nat → Int32} {F : Nat → Nat → Int32} {j : Nat} (x : Int32) (hj : j < 40) : dwI (mS h M o g T F) (M + 4) (nI j) x = some (mS h M o g T (uF F 1 j x)) := by
  rw [dwI_at x (mS_4 h M o g T F) hj (by decide)]
  congr 1
  exact mS_ext rfl (fun q hq => by rw [hU_n (by omega), mS_out hq]) (by rw [hU_n (by omega), mS_0]) (by rw [hU_n (by omega), mS_1]) (by rw [hU_n (by omega), mS_2]) (by rw [hU_n (by omega), mS_3]; rfl) (hU_s _ _ _) (by rw [hU_n (by omega), mS_5]; rfl)
theorem mS_wF2 {h : dzH} {M : Nat} {o : Nat → Int32} {g : Nat → Nat} {T : Nat → Int32} {F : Nat → Nat → Int32} {j : Nat} (x : Int32) (hj : j < 40) : dwI (mS h M o g T F) (M + 5) (nI j) x = some (mS h M o g T (uF F 2 j x)) := by
  rw [dwI_at x (mS_5 h M o g T F) hj (by decide)]
  congr 1
  exact mS_ext rfl (fun q hq => by rw [hU_n (by omega), mS_out hq]) (by rw [hU_n (by omega), mS_0]) (by rw [hU_n (by omega), mS_1]) (by rw [hU_n (by omega), mS_2]) (by rw [hU_n (by omega), mS_3]; rfl) (by rw [hU_n (by omega), mS_4]; rfl) (hU_s _ _ _)
theorem mS_g2 (h : dzH) (M : Nat) (o : Nat → Int32) (g : Nat → Nat) (T : Nat → Int32) (F : Nat → Nat → Int32) : dgI (mS h M o g T F) M 1 2 = some (o 2) := dgI_at (mS_0 h M o g T F) rfl
theorem mS_p2 (h : dzH) (M : Nat) (o : Nat → Int32) (g : Nat → Nat) (T : Nat → Int32) (F : Nat → Nat → Int32) (x : Int32) : dpF (mS h M o g T F) M 1 2 (.int x) = some (mS h M (upd o 2 x) g T F) := by
  rw [dpF_at _ (mS_0 h M o g T F) (by simp)]
  congr 1
  exact mS_ext rfl (fun q hq => by rw [hU_n (by omega), mS_out hq]) (hU_s _ _ _) (by rw [hU_n (by omega), mS_1]) (by rw [hU_n (by omega), mS_2]) (by rw [hU_n (by omega), mS_3]) (by rw [hU_n (by omega), mS_4]) (by rw [hU_n (by omega), mS_5])
theorem mS_g3 (h : dzH) (M : Nat) (o : Nat → Int32) (g : Nat → Nat) (T : Nat → Int32) (F : Nat → Nat → Int32) : dgI (mS h M o g T F) M 1 3 = some (o 3) := dgI_at (mS_0 h M o g T F) rfl
theorem mS_p3 (h : dzH) (M : Nat) (o : Nat → Int32) (g : Nat → Nat) (T : Nat → Int32) (F : Nat → Nat → Int32) (x : Int32) : dpF (mS h M o g T F) M 1 3 (.int x) = some (mS h M (upd o 3 x) g T F) := by
  rw [dpF_at _ (mS_0 h M o g T F) (by simp)]
  congr 1
  exact mS_ext rfl (fun q hq => by rw [hU_n (by omega), mS_out hq]) (hU_s _ _ _) (by rw [hU_n (by omega), mS_1]) (by rw [hU_n (by omega), mS_2]) (by rw [hU_n (by omega), mS_3]) (by rw [hU_n (by omega), mS_4]) (by rw [hU_n (by omega), mS_5])
theorem mS_g4 (h : dzH) (M : Nat) (o : Nat → Int32) (g : Nat → Nat) (T : Nat → Int32) (F : Nat → Nat → Int32) : dgI (mS h M o g T F) M 1 4 = some (o 4) := dgI_at (mS_0 h M o g T F) rfl
theorem mS_p4 (h : dzH) (M : Nat) (o : Nat → Int32) (g : Nat → Nat) (T : Nat → Int32) (F : Nat → Nat → Int32) (x : Int32) : dpF (mS h M o g T F) M 1 4 (.int x) = some (mS h M (upd o 4 x) g T F) := by
  rw [dpF_at _ (mS_0 h M o g T F) (by simp)]
  congr 1
  exact mS_ext rfl (fun q hq => by rw [hU_n (by omega), mS_out hq]) (hU_s _ _ _) (by rw [hU_n (by omega), mS_1]) (by rw [hU_n (by omega), mS_2]) (by rw [hU_n (by omega), mS_3]) (by rw [hU_n (by omega), mS_4]) (by rw [hU_n (by omega), mS_5])
theorem mS_g5 (h : dzH) (M : Nat) (o : Nat → Int32) (g : Nat → Nat) (T : Nat → Int32) (F : Nat → Nat → Int32) : dgI (mS h M o g T F) M 1 5 = some (o 5) := dgI_at (mS_0 h M o g T F) rfl
theorem mS_p5 (h : dzH) (M : Nat) (o : Nat → Int32) (g : Nat → Nat) (T : Nat → Int32) (F : Nat → Nat → Int32) (x : Int32) : dpF (mS h M o g T F) M 1 5 (.int x) = some (mS h M (upd o 5 x) g T F) := by
  rw [dpF_at _ (mS_0 h M o g T F) (by simp)]
  congr 1
  exact mS_ext rfl (fun q hq => by rw [hU_n (by omega), mS_out hq]) (hU_s _ _ _) (by rw [hU_n (by omega), mS_1]) (by rw [hU_n (by omega), mS_2]) (by rw [hU_n (by omega), mS_3]) (by rw [hU_n (by omega), mS_4]) (by rw [hU_n (by omega), mS_5])
theorem mS_g6 (h : dzH) (M : Nat) (o : Nat → Int32) (g : Nat → Nat) (T : Nat → Int32) (F : Nat → Nat → Int32) : dgI (mS h M o g T F) M 1 6 = some (o 6) := dgI_at (mS_0 h M o g T F) rfl
theorem mS_p6 (h : dzH) (M : Nat) (o : Nat → Int32) (g : Nat → Nat) (T : Nat → Int32) (F : Nat → Nat → Int32) (x : Int32) : dpF (mS h M o g T F) M 1 6 (.int x) = some (mS h M (upd o 6 x) g T F) := by
  rw [dpF_at _ (mS_0 h M o g T F) (by simp)]
  congr 1
  exact mS_ext rfl (fun q hq => by rw [hU_n (by omega), mS_out hq]) (hU_s _ _ _) (by rw [hU_n (by omega), mS_1]) (by rw [hU_n (by omega), mS_2]) (by rw [hU_n (by omega), mS_3]) (by rw [hU_n (by omega), mS_4]) (by rw [hU_n (by omega), mS_5])
theorem mS_g7 (h : dzH) (M : Nat) (o : Nat → Int32) (g : Nat → Nat) (T : Nat → Int32) (F : Nat → Nat → Int32) : dgI (mS h M o g T F) M 1 7 = some (o 7) := dgI_at (mS_0 h M o g T F) rfl
theorem mS_p7 (h : dzH) (M : Nat) (o : Nat → Int32) (g : Nat → Nat) (T : Nat → Int32) (F : Nat → Nat → Int32) (x : Int32) : dpF (mS h M o g T F) M 1 7 (.int x) = some (mS h M (upd o 7 x) g T F) := by
  rw [dpF_at _ (mS_0 h M o g T F) (by simp)]
  congr 1
  exact mS_ext rfl (fun q hq => by rw [hU_n (by omega), mS_out hq]) (hU_s _ _ _) (by rw [hU_n (by omega), mS_1]) (by rw [hU_n (by omega), mS_2]) (by rw [hU_n (by omega), mS_3]) (by rw [hU_n (by omega), mS_4]) (by rw [hU_n (by omega), mS_5])
theorem mS_g8 (h : dzH) (M : Nat) (o : Nat → Int32) (g : Nat → Nat) (T : Nat → Int32) (F : Nat → Nat → Int32) : dgI (mS h M o g T F) M 1 8 = some (o 8) := dgI_at (mS_0 h M o g T F) rfl
theorem mS_p8 (h : dzH) (M : Nat) (o : Nat → Int32) (g : Nat → Nat) (T : Nat → Int32) (F : Nat → Nat → Int32) (x : Int32) : dpF (mS h M o g T F) M 1 8 (.int x) = some (mS h M (upd o 8 x) g T F) := by
  rw [dpF_at _ (mS_0 h M o g T F) (by simp)]
  congr 1
  exact mS_ext rfl (fun q hq => by rw [hU_n (by omega), mS_out hq]) (hU_s _ _ _) (by rw [hU_n (by omega), mS_1]) (by rw [hU_n (by omega), mS_2]) (by rw [hU_n (by omega), mS_3]) (by rw [hU_n (by omega), mS_4]) (by rw [hU_n (by omega), mS_5])
