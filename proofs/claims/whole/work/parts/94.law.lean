/-! the law's run -/
def loL (A : Nat) : List dzE := pO A :: R5 A
def hiL (A : Nat) : List dzE := trL (A + 225) (A + 12) ++ (ckL (A + 232) (A + 20) (A + 22) (A + 12) (A + 225) ++ mkL (A + 238) (A + 20) (A + 22) (A + 12) (A + 225))
theorem R9_split (A : Nat) : pO A :: R9 A = loL A ++ (lnL (A + 22) ++ hiL A) := by
  unfold R9 R8 R7 R6 loL hiL
  rw [List.append_assoc, List.append_assoc, List.append_assoc]
  rfl
theorem l_lo (A : Nat) : (loL A).length = 22 := rfl
theorem R9_lo {A k : Nat} (hk : k < 22) : (pO A :: R9 A)[k]? = (loL A)[k]? := by rw [R9_split, List.getElem?_append_left (by rw [l_lo]; exact hk)]
theorem R9_ln {A k : Nat} (hk : k < 203) : (pO A :: R9 A)[22 + k]? = (lnL (A + 22))[k]? := by
  rw [R9_split, List.getElem?_append_right (by rw [l_lo]; omega), l_lo, Nat.add_sub_cancel_left, List.getElem?_append_left (by rw [l_lnL]; exact hk)]
theorem R9_hi (A k : Nat) : (pO A :: R9 A)[225 + k]? = (hiL A)[k]? := by
  rw [R9_split, List.getElem?_append_right (by rw [l_lo]; omega), l_lo, List.getElem?_append_right (by rw [l_lnL]; omega), l_lnL, show 225 + k - 22 - 203 = k by omega]
theorem lnL_row {B i : Nat} (hi : i < 200) : (lnL B)[2 + i]? = some z8 := by
  unfold lnL
  rw [show 2 + i = (i + 1) + 1 by omega, List.getElem?_cons_succ, List.getElem?_cons_succ, List.getElem?_append_left (by rw [List.length_replicate]; exact hi), List.getElem?_replicate, if_pos hi]
theorem lnL_end (B : Nat) : (lnL B)[202]? = some (eI 200 (fun _ => 0)) := by
  unfold lnL
  rw [List.getElem?_cons_succ, List.getElem?_cons_succ, List.getElem?_append_right (by rw [List.length_replicate]; decide), List.length_replicate]
  rfl
def o0 : Nat → Int32 := fun i => if i = 9 then -2 else 0
def v0 : Nat → Nat := fun i => if i = 228 then 1 else 0
theorem wv_z : wv (fun _ => (0 : Int32)) 8 = 0 := pv_zeros (fun _ _ => rfl)
theorem wv_o : wv (upd (fun _ => (0 : Int32)) 0 1) 8 = 1 := by decide +kernel
section
variable {h : dzH}
theorem st_row {h : dzH} {k : Nat} (e : (pO h.1 :: R9 h.1)[k]? = some z8) (hk : k ≠ 228) : row8 (hx h (pO h.1 :: R9 h.1)) (h.1 + k) (v0 k) := by
  refine ⟨fun _ => 0, by rw [hx_get, e], ?_⟩
  unfold v0
  rw [if_neg hk, wv_z]
theorem st_CW (h : dzH) : CW h.1 (hx h (pO h.1 :: R9 h.1)) o0 v0 (fun _ => 0) (fun _ => 0) (fun _ _ => 0) := by
  have lo : ∀ {k : Nat}, k < 22 → (hx h (pO h.1 :: R9 h.1)).2 (h.1 + k) = (loL h.1)[k]? := fun hk => by rw [hx_get, R9_lo hk]
  have ln : ∀ {k : Nat}, k < 203 → (hx h (pO h.1 :: R9 h.1)).2 (h.1 + (22 + k)) = (lnL (h.1 + 22))[k]? := fun hk => by rw [hx_get, R9_ln hk]
  have hi : ∀ k : Nat, (hx h (pO h.1 :: R9 h.1)).2 (h.1 + (225 + k)) = (hiL h.1)[k]? := fun k => by rw [hx_get, R9_hi]
  refine ⟨fun k e he => ?_, ⟨⟨0, 0, ?_⟩, ⟨_, (lo (k := 13) (by decide)).trans rfl⟩, ⟨_, (lo (k := 14) (by decide)).trans rfl⟩, fun k k1 k2 => ?_⟩, fun k hk => ?_, rfl, by decide⟩
  · unfold cC at he
    by_cases e0 : k = 0
    · subst e0; rw [if_pos rfl] at he; rw [lo (by decide), ← he]; rfl
    rw [if_neg e0] at he
    by_cases e1 : k = 1
    · subst e1; rw [if_pos rfl] at he; rw [lo (by decide), ← he]; rfl
    rw [if_neg e1] at he
    by_cases e20 : k = 20
    · subst e20; rw [if_pos rfl] at he; rw [lo (by decide), ← he]; rfl
    rw [if_neg e20] at he
    by_cases e21 : k = 21
    · subst e21; rw [if_pos rfl] at he; rw [lo (by decide), ← he]; rfl
    rw [if_neg e21] at he
    by_cases e22 : k = 22
    · subst e22; rw [if_pos rfl] at he; rw [ln (k := 0) (by decide), ← he]; rfl
    rw [if_neg e22] at he
    by_cases e23 : k = 23
    · subst e23; rw [if_pos rfl] at he; rw [ln (k := 1) (by decide), ← he]; rfl
    rw [if_neg e23] at he
    by_cases e224 : k = 224
    · subst e224; rw [if_pos rfl] at he; rw [ln (k := 202) (by decide), ← he]; exact lnL_end _
    rw [if_neg e224] at he
    by_cases e225 : k = 225
    · subst e225; rw [if_pos rfl] at he; rw [hi 0, ← he]; rfl
    rw [if_neg e225] at he
    by_cases e232 : k = 232
    · subst e232; rw [if_pos rfl] at he; rw [hi 7, ← he]; rfl
    rw [if_neg e232] at he
    by_cases e233 : k = 233
    · subst e233; rw [if_pos rfl] at he; rw [hi 8, ← he]; rfl
    rw [if_neg e233] at he
    by_cases e234 : k = 234
    · subst e234; rw [if_pos rfl] at he; rw [hi 9, ← he]; rfl
    rw [if_neg e234] at he
    by_cases e235 : k = 235
    · subst e235; rw [if_pos rfl] at he; rw [hi 10, ← he]; rfl
    rw [if_neg e235] at he
    by_cases e236 : k = 236
    · subst e236; rw [if_pos rfl] at he; rw [hi 11, ← he]; rfl
    rw [if_neg e236] at he
    by_cases e238 : k = 238
    · subst e238; rw [if_pos rfl] at he; rw [hi 13, ← he]; rfl
    rw [if_neg e238] at he
    by_cases e239 : k = 239
    · subst e239; rw [if_pos rfl] at he; rw [hi 14, ← he]; rfl
    rw [if_neg e239] at he
    by_cases e240 : k = 240
    · subst e240; rw [if_pos rfl] at he; rw [hi 15, ← he]; rfl
    rw [if_neg e240] at he
    by_cases e241 : k = 241
    · subst e241; rw [if_pos rfl] at he; rw [hi 16, ← he]; rfl
    rw [if_neg e241] at he
    by_cases e242 : k = 242
    · subst e242; rw [if_pos rfl] at he; rw [hi 17, ← he]; rfl
    rw [if_neg e242] at he
    cases he
  · rw [lo (k := 12) (by decide)]
    rfl
  · refine ⟨fun _ => 0, ?_⟩
    rw [Nat.add_assoc, lo (k := 12 + k) (by omega)]
    rcases (show k = 3 ∨ k = 4 ∨ k = 5 ∨ k = 6 ∨ k = 7 by omega) with z | z | z | z | z <;> subst z <;> rfl
  · unfold isR at hk
    by_cases c1 : k < 12
    · refine st_row ?_ (by omega)
      rw [R9_lo (by omega)]
      rcases (show k = 2 ∨ k = 3 ∨ k = 4 ∨ k = 5 ∨ k = 6 ∨ k = 7 ∨ k = 8 ∨ k = 9 ∨ k = 10 ∨ k = 11 by omega) with z | z | z | z | z | z | z | z | z | z <;> subst z <;> rfl
    by_cases c2 : k < 224
    · refine st_row ?_ (by omega)
      rw [show k = 22 + (2 + (k - 24)) by omega, R9_ln (by omega), lnL_row (by omega)]
    by_cases c3 : k = 228
    · subst c3
      exact ⟨_, (hi 3).trans rfl, wv_o⟩
    · refine st_row ?_ c3
      rcases (show k = 225 + 1 ∨ k = 225 + 2 ∨ k = 225 + 4 ∨ k = 225 + 5 ∨ k = 225 + 6 ∨ k = 225 + 12 ∨ k = 225 + 18 ∨ k = 225 + 19 ∨ k = 225 + 20 ∨ k = 225 + 21 by omega) with z | z | z | z | z | z | z | z | z | z <;> rw [z, R9_hi] <;> rfl
theorem hx_none (h : dzH) (M : List dzE) : ∀ q, (hx h M).1 ≤ q → (hx h M).2 q = none := fun q hq => by
  have hq' : h.1 + M.length ≤ q := hq
  obtain ⟨k, rfl⟩ : ∃ k, q = h.1 + k := ⟨q - h.1, by omega⟩
  rw [hx_get, List.getElem?_eq_none (by omega)]
def p0 : Nat → Int32 := fun i => if i = 3 then -2 else 0
theorem mg_0 : mg (fun _ => 0) = fun _ => 0 := funext fun _ => nI_0
theorem in_M {h : dzH} (hn : ∀ q, h.1 ≤ q → h.2 q = none) : ∃ hm g, c_M_init h.1 (dnO h 1) = some (mS hm h.1 p0 g (fun _ => 0) (fun _ _ => 0)) ∧ (∀ q, q < h.1 → hm.2 q = h.2 q) ∧ okg g ∧ nv g 21 = 1 ∧ ∀ x, x ≠ 21 → nv g x = 0 := by
  have e0 : dnO h 1 = hx h [eO 1 (dzDef 1)] := by
    have := hx_O h [] 1
    rw [hx_nil hn] at this
    exact this
  have g0 : (hx h [eO 1 (dzDef 1)]).2 h.1 = some (eO 1 (dzDef 1)) := hx_get h [eO 1 (dzDef 1)] 0
  have ok0 : okg (fun _ => 0) := fun _ => (show 0 < 65536 by decide)
  obtain ⟨hm, ehm⟩ : ∃ hm, hm = hx h [mO h.1 p0, eI 9280 (fun _ => 0), eI 4000 (fun _ => 0), eI 40 (fun _ => 0), eI 40 (fun _ => 0), eI 40 (fun _ => 0)] := ⟨_, rfl⟩
  have em : hm = mS hm h.1 p0 (fun _ => 0) (fun _ => 0) (fun _ _ => 0) := by
    refine mS_ext rfl (fun q hq => rfl) ?_ ?_ ?_ ?_ ?_ ?_
    · rw [ehm]; exact (hx_get h _ 0).trans rfl
    · rw [ehm, mg_0]; exact (hx_get h _ 1).trans rfl
    · rw [ehm]; exact (hx_get h _ 2).trans rfl
    · rw [ehm]; exact (hx_get h _ 3).trans rfl
    · rw [ehm]; exact (hx_get h _ 4).trans rfl
    · rw [ehm]; exact (hx_get h _ 5).trans rfl
  obtain ⟨g1, a1, a2, a3⟩ := m_set (M := h.1) (h := hm) (o := p0) (g := fun _ => 0) (T := fun _ => 0) (F := fun _ _ => 0) ok0 1 (show (21 : Int32) = nI 21 from rfl) (by decide)
  refine ⟨hm, g1, ?_, fun q hq => by rw [ehm, hx_low hq], a2.1, by rw [a3]; rfl, fun x hx => by rw [a2.2 x (by simp; exact hx)]; exact pv_zeros (fun _ _ => rfl)⟩
  have pre : (c_M_init h.1 (hx h [eO 1 (dzDef 1)])) = dzRV ((c_M_set h.1 21 1 hm).bind fun h12 => some (none, h12)) := by
    rw [cc_M_init _ _ g0, q_M_init_0, df1]
    rw [hw_I h _ [] (show (9280 : Int32) = nI 9280 from rfl) (by decide), Option.bind_some, hw_1 h _ [] rfl, hw_p h _ _ (by simp), Option.bind_some]
    rw [hw_I h _ _ (show (4000 : Int32) = nI 4000 from rfl) (by decide), Option.bind_some, hw_1 h _ ([] ++ [eI 9280 (fun _ => 0)]) rfl, hw_p h _ _ (by simp), Option.bind_some, hw_p h _ _ (by simp), Option.bind_some]
    rw [hw_I h _ _ (show (40 : Int32) = nI 40 from rfl) (by decide), Option.bind_some, hw_1 h _ ([] ++ [eI 9280 (fun _ => 0)] ++ [eI 4000 (fun _ => 0)]) rfl, hw_p h _ _ (by simp), Option.bind_some]
    rw [hw_I h _ _ (show (40 : Int32) = nI 40 from rfl) (by decide), Option.bind_some, hw_1 h _ ([] ++ [eI 9280 (fun _ => 0)] ++ [eI 4000 (fun _ => 0)] ++ [eI 40 (fun _ => 0)]) rfl, hw_p h _ _ (by simp), Option.bind_some]
    rw [hw_I h _ _ (show (40 : Int32) = nI 40 from rfl) (by decide), Option.bind_some, hw_1 h _ ([] ++ [eI 9280 (fun _ => 0)] ++ [eI 4000 (fun _ => 0)] ++ [eI 40 (fun _ => 0)] ++ [eI 40 (fun _ => 0)]) rfl, hw_p h _ _ (by simp), Option.bind_some]
    rw [ehm]
    rfl
  rw [e0, pre]
  rw [← em] at a1
  rw [a1]
  rfl
theorem law_start (h : dzH) (hn : ∀ q, h.1 ≤ q → h.2 q = none) : ∃ h1 h2, c_P_init h.1 (dnO h 0) = some h1 ∧ h1.1 = h.1 + 247 ∧ c_M_init h1.1 (dnO h1 1) = some h2 ∧ Inv h.1 h2 ∧ ∀ q, q < h.1 → h2.2 q = h.2 q := by
  have h11 : (hx h (pO h.1 :: R9 h.1)).1 = h.1 + 247 := hw_1 h _ _ (l_R9 h.1)
  obtain ⟨hm, g, a1, a2, a3, a4, a5⟩ := in_M (hx_none h (pO h.1 :: R9 h.1))
  rw [h11] at a1 a2
  refine ⟨_, _, in_P hn, h11, by rw [h11]; exact a1, ⟨o0, v0, _, _, _, p0, g, _, _, 0, 0, 0, IV.mk ((st_CW h).eq (fun q hq => a2 q (by unfold inC at hq; omega))) a3 a4 (fun r hr => ?_) rfl rfl (by decide) (fun i hi => by omega) rfl rfl rfl (by decide) (fun i hi => by omega) rfl (by decide) (fun i hi => by omega)⟩, fun q hq => ?_⟩
  · rw [a5 r (by omega)]
    unfold v0
    rw [if_neg (by omega)]
  · rw [mS_out (by omega), a2 q (by omega), hx_low hq]
end
theorem le_5 {i L : Nat} (hi : i ≤ 3000) (hL : L ≤ 2560) : nI i ≤ nI L - 5 ↔ i + 5 ≤ L := by
  rcases Nat.lt_or_ge L 5 with z | z
  · have h1 : ∀ L, L < 5 → nI L - 5 < 0 := by decide +kernel
    refine ⟨fun q => ?_, fun q => by omega⟩
    exact absurd (Int32.lt_of_le_of_lt q (h1 L z)) (nI_pos (by omega))
  · rw [show (5 : Int32) = nI 5 from rfl, pk_sub z, nI_leI (by omega) (by omega)]
    omega
theorem law_run {A b L : Nat} {xs : Nat → Int32} (hb : b < A) (hL : L ≤ 2560) : ∀ (d i : Nat) {h : dzH}, L ≤ i + 4 + 5 * d → i ≤ 2600 → Inv A h → h.2 b = some (eX L xs) → ∃ h', dzF 160 18 [(0, .ref b), (1, .ref A), (2, .ref (A + 247)), (3, .int (nI i))] [] (253, 19964) h = some (some (.int 1), h')
  | d, i, h, hd, hi, inv, hx => by
    rw [q_L_law_18, dlnX_at hx, Option.bind_some]
    by_cases hle : i + 5 ≤ L
    · obtain ⟨d', rfl⟩ : ∃ d', d = d' + 1 := ⟨d - 1, by omega⟩
      rw [if_pos ((le_5 (by omega) hL).mpr hle)]
      have rd : ∀ {h1 : dzH}, h1.2 b = some (eX L xs) → ∀ k, k < 5 → drI h1 b (nI (i + k)) = some (xs (i + k)) := fun hx1 k hk => drX_at hx1 (by omega) (by omega)
      have rd0 : drI h b (nI i) = some (xs i) := rd hx 0 (by decide)
      have fin : ∀ {h2 : dzH}, Inv A h2 → h2.2 b = some (eX L xs) → ∃ h', dzF 160 667 [(0, .ref b), (1, .ref A), (2, .ref (A + 247)), (3, .int (nI i))] [] (253, 19964) h2 = some (some (.int 1), h') := fun {h2} inv2 hx2 => by
        rw [q_L_law_667, show (5 : Int32) = nI 5 from rfl, nI_add]
        exact law_run hb hL d' (i + 5) (by omega) (by omega) inv2 hx2
      have r1 : nI i + 1 = nI (i + 1) := nI_1 i
      have r2 : nI i + 2 = nI (i + 2) := by rw [show (2 : Int32) = nI 2 from rfl, nI_add]
      have r3 : nI i + 3 = nI (i + 3) := by rw [show (3 : Int32) = nI 3 from rfl, nI_add]
      have r4 : nI i + 4 = nI (i + 4) := by rw [show (4 : Int32) = nI 4 from rfl, nI_add]
      rw [rd0, Option.bind_some, r1, r2, r3, r4]
      obtain ⟨o, v, T, E, F, p, g, U, G, s, n, t, iv⟩ := inv
      have d1 := rd hx 1 (by decide)
      have d2 := rd hx 2 (by decide)
      have d3 := rd hx 3 (by decide)
      have d4 := rd hx 4 (by decide)
      by_cases e0 : xs i &&& 31 = 0
      · rw [if_pos e0]
        obtain ⟨x, h1, h2, f1, f2, inv2, k2, k1⟩ := pr_put iv (xs (i + 1)) (xs (i + 2)) (xs (i + 3))
        have hx1 := (k1 b hb).trans hx
        simp only [d1, d2, d3, Option.bind_some, f1, rd hx1 1 (by decide), rd hx1 2 (by decide), rd hx1 3 (by decide), f2, if_pos]
        exact fin inv2 ((k2 b hb).trans hx)
      rw [if_neg e0]
      by_cases e1 : xs i &&& 31 = 1
      · rw [if_pos e1]
        obtain ⟨x, h1, h2, f1, f2, inv2, k2, k1⟩ := pr_get iv (xs (i + 1)) (xs (i + 2))
        have hx1 := (k1 b hb).trans hx
        simp only [d1, d2, Option.bind_some, f1, rd hx1 1 (by decide), rd hx1 2 (by decide), f2, if_pos]
        exact fin inv2 ((k2 b hb).trans hx)
      rw [if_neg e1]
      by_cases e2 : xs i &&& 31 = 2
      · rw [if_pos e2]
        obtain ⟨x, h1, h2, f1, f2, inv2, k2, k1⟩ := pr_add iv (xs (i + 1)) (xs (i + 2)) (xs (i + 3))
        have hx1 := (k1 b hb).trans hx
        simp only [d1, d2, d3, Option.bind_some, f1, rd hx1 1 (by decide), rd hx1 2 (by decide), rd hx1 3 (by decide), f2, if_pos]
        exact fin inv2 ((k2 b hb).trans hx)
      rw [if_neg e2]
      by_cases e3 : xs i &&& 31 = 3
      · rw [if_pos e3]
        obtain ⟨x, h1, h2, f1, f2, inv2, k2, k1⟩ := pr_sub iv (xs (i + 1)) (xs (i + 2)) (xs (i + 3))
        have hx1 := (k1 b hb).trans hx
        simp only [d1, d2, d3, Option.bind_some, f1, rd hx1 1 (by decide), rd hx1 2 (by decide), rd hx1 3 (by decide), f2, if_pos]
        exact fin inv2 ((k2 b hb).trans hx)
      rw [if_neg e3]
      by_cases e4 : xs i &&& 31 = 4
      · rw [if_pos e4]
        obtain ⟨x, h1, h2, f1, f2, inv2, k2, k1⟩ := pr_mul iv (xs (i + 1)) (xs (i + 2)) (xs (i + 3))
        have hx1 := (k1 b hb).trans hx
        simp only [d1, d2, d3, Option.bind_some, f1, rd hx1 1 (by decide), rd hx1 2 (by decide), rd hx1 3 (by decide), f2, if_pos]
        exact fin inv2 ((k2 b hb).trans hx)
      rw [if_neg e4]
      by_cases e5 : xs i &&& 31 = 5
      · rw [if_pos e5]
        obtain ⟨x, h1, h2, f1, f2, inv2, k2, k1⟩ := pr_div iv (xs (i + 1)) (xs (i + 2)) (xs (i + 3)) (xs (i + 4))
        have hx1 := (k1 b hb).trans hx
        simp only [d1, d2, d3, d4, Option.bind_some, f1, rd hx1 1 (by decide), rd hx1 2 (by decide), rd hx1 3 (by decide), rd hx1 4 (by decide), f2, if_pos]
        exact fin inv2 ((k2 b hb).trans hx)
      rw [if_neg e5]
      by_cases e6 : xs i &&& 31 = 6
      · rw [if_pos e6]
        obtain ⟨x, h1, h2, f1, f2, inv2, k2, k1⟩ := pr_pow iv (xs (i + 1)) (xs (i + 2)) (xs (i + 3)) (xs (i + 4))
        have hx1 := (k1 b hb).trans hx
        simp only [d1, d2, d3, d4, Option.bind_some, f1, rd hx1 1 (by decide), rd hx1 2 (by decide), rd hx1 3 (by decide), rd hx1 4 (by decide), f2, if_pos]
        exact fin inv2 ((k2 b hb).trans hx)
      rw [if_neg e6]
      by_cases e7 : xs i &&& 31 = 7
      · rw [if_pos e7]
        obtain ⟨x, h1, h2, f1, f2, inv2, k2, k1⟩ := pr_com iv (xs (i + 1)) (xs (i + 2)) (xs (i + 3))
        have hx1 := (k1 b hb).trans hx
        simp only [d1, d2, d3, Option.bind_some, f1, rd hx1 1 (by decide), rd hx1 2 (by decide), rd hx1 3 (by decide), f2, if_pos]
        exact fin inv2 ((k2 b hb).trans hx)
      rw [if_neg e7]
      by_cases e8 : xs i &&& 31 = 8
      · rw [if_pos e8]
        obtain ⟨x, h1, h2, f1, f2, inv2, k2, k1⟩ := pr_cmp iv (xs (i + 1)) (xs (i + 2))
        have hx1 := (k1 b hb).trans hx
        simp only [d1, d2, Option.bind_some, f1, rd hx1 1 (by decide), rd hx1 2 (by decide), f2, if_pos]
        exact fin inv2 ((k2 b hb).trans hx)
      rw [if_neg e8]
      by_cases e9 : xs i &&& 31 = 9
      · rw [if_pos e9]
        obtain ⟨x, h1, h2, f1, f2, inv2, k2, k1⟩ := pr_say iv (xs (i + 1))
        have hx1 := (k1 b hb).trans hx
        simp only [d1, Option.bind_some, f1, rd hx1 1 (by decide), f2, if_pos]
        exact fin inv2 ((k2 b hb).trans hx)
      rw [if_neg e9]
      by_cases e10 : xs i &&& 31 = 10
      · rw [if_pos e10]
        obtain ⟨x, h1, h2, f1, f2, inv2, k2, k1⟩ := pr_cut iv (xs (i + 1))
        have hx1 := (k1 b hb).trans hx
        simp only [d1, Option.bind_some, f1, rd hx1 1 (by decide), f2, if_pos]
        exact fin inv2 ((k2 b hb).trans hx)
      rw [if_neg e10]
      by_cases e11 : xs i &&& 31 = 11
      · rw [if_pos e11]
        obtain ⟨x, h1, h2, f1, f2, inv2, k2, k1⟩ := pr_len iv
        simp only [Option.bind_some, f1, f2, if_pos]
        exact fin inv2 ((k2 b hb).trans hx)
      rw [if_neg e11]
      by_cases e12 : xs i &&& 31 = 12
      · rw [if_pos e12]
        obtain ⟨x, h1, h2, f1, f2, inv2, k2, k1⟩ := pr_at iv (xs (i + 1))
        have hx1 := (k1 b hb).trans hx
        simp only [d1, Option.bind_some, f1, rd hx1 1 (by decide), f2, if_pos]
        exact fin inv2 ((k2 b hb).trans hx)
      rw [if_neg e12]
      by_cases e13 : xs i &&& 31 = 13
      · rw [if_pos e13]
        obtain ⟨x, h1, h2, f1, f2, inv2, k2, k1⟩ := pr_check iv
        simp only [Option.bind_some, f1, f2, if_pos]
        exact fin inv2 ((k2 b hb).trans hx)
      rw [if_neg e13]
      by_cases e14 : xs i &&& 31 = 14
      · rw [if_pos e14]
        obtain ⟨x, h1, h2, f1, f2, inv2, k2, k1⟩ := pr_place iv
        simp only [Option.bind_some, f1, f2, if_pos]
        exact fin inv2 ((k2 b hb).trans hx)
      rw [if_neg e14]
      by_cases e15 : xs i &&& 31 = 15
      · rw [if_pos e15]
        obtain ⟨x, h1, h2, f1, f2, inv2, k2, k1⟩ := pr_tell iv (xs (i + 1)) (xs (i + 2))
        have hx1 := (k1 b hb).trans hx
        simp only [d1, d2, Option.bind_some, f1, rd hx1 1 (by decide), rd hx1 2 (by decide), f2, if_pos]
        exact fin inv2 ((k2 b hb).trans hx)
      rw [if_neg e15]
      by_cases e16 : xs i &&& 31 = 16
      · rw [if_pos e16]
        obtain ⟨x, h1, h2, f1, f2, inv2, k2, k1⟩ := pr_prove iv (xs (i + 1))
        have hx1 := (k1 b hb).trans hx
        simp only [d1, Option.bind_some, f1, rd hx1 1 (by decide), f2, if_pos]
        exact fin inv2 ((k2 b hb).trans hx)
      rw [if_neg e16]
      exact fin ⟨o, v, T, E, F, p, g, U, G, s, n, t, iv⟩ hx
    · rw [if_neg (fun q => hle ((le_5 (by omega) hL).mp q))]
      exact ⟨h, rfl⟩
theorem law_pure (n b L : Nat) (xs : Nat → Int32) (hb : b < n) (hL : L ≤ 2560) : ∃ h' : dzH, dzF dzLaw 0 [(0, .ref b)] [] (0, 0) (dzH0 n b L xs) = some (some (.int 1), h') := by
  have hn : ∀ q, (dzH0 n b L xs).1 ≤ q → (dzH0 n b L xs).2 q = none := fun q hq => by
    show (if q = b then _ else none) = none
    have : n ≤ q := hq
    rw [if_neg (by omega)]
  obtain ⟨h1, h2, a1, a2, a3, a4, a5⟩ := law_start (dzH0 n b L xs) hn
  have hbx : h2.2 b = some (eX L xs) := by
    rw [a5 b hb]
    exact if_pos rfl
  obtain ⟨h', r⟩ := law_run (A := n) hb hL 512 0 (h := h2) (by omega) (by omega) a4 hbx
  refine ⟨h', ?_⟩
  show dzF 160 0 _ _ _ _ = _
  rw [q_L_law_0, a1, Option.bind_some, a3, Option.bind_some, a2]
  exact r
