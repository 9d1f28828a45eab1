/-! the reference's maker writes lines -/
theorem hor_w {g : Nat → Nat} (ok : okg g) (a : Nat) {i : Nat} (hi : i < 20) : k_ishl (nI (g (40 * a + (2 * i + 1)))) 16 ||| nI (g (40 * a + 2 * i)) = nI (wd (nv g a) i) := by
  have h1 := ok (40 * a + 2 * i)
  have h2 := ok (40 * a + (2 * i + 1))
  unfold wd
  rw [nv_word ok a hi]
  apply w32_inj
  have h3 : w32 (k_ishl (nI (g (40 * a + (2 * i + 1)))) 16 ||| nI (g (40 * a + 2 * i))) = w32 (k_ishl (nI (g (40 * a + (2 * i + 1)))) 16) ||| w32 (nI (g (40 * a + 2 * i))) := BitVec.toNat_or _ _
  rw [h3, w32_shl _ 16 (k := 16) (by decide +kernel), w32_nI (by omega), w32_nI (by omega), w32_nI (by omega), Nat.mod_eq_of_lt (by omega)]
  rw [show g (40 * a + (2 * i + 1)) * 2 ^ 16 = g (40 * a + (2 * i + 1)) * 65536 from rfl, or16 _ h1]
  omega
theorem lng_Wc {g : Nat → Nat} (ok : okg g) {x V : Nat} (hV : nv g x = V) (hB : V < B8) : Wc V ((lng g x + 1) / 2) := by
  have h1 := lng_lt ok x
  have h16 : lng g x ≤ 16 := (lng_iff ok x 16).mpr (by rw [B8_16, hV]; exact hB)
  have e : ∀ y, (4294967296 : Nat) ^ y = 65536 ^ (2 * y) := fun y => by rw [Nat.pow_mul]
  refine ⟨by omega, ?_, fun h0 => ?_⟩
  · rw [e, ← hV]
    exact Nat.lt_of_lt_of_le h1 (Nat.pow_le_pow_right (by decide) (by omega))
  · have h2 := lng_ge (g := g) (x := x) (by omega)
    rw [e, ← hV]
    exact Nat.le_trans (Nat.pow_le_pow_right (by decide) (by omega)) h2
section
variable {M : Nat} {h : dzH} {o : Nat → Int32} {g : Nat → Nat} {T : Nat → Int32} {F : Nat → Nat → Int32} {s c l n k m x V u : Nat} {N C D Q q : Nat → Nat}
theorem lp_m79 (ok : okg g) (hV : nv g 10 = V) (hu : u ≤ 8) (hc : c + 2 + u ≤ 4000) (i1 i2 i4 : Int32) : ∀ (d i : Nat) {o : Nat → Int32} {T : Nat → Int32}, i + d = u → o 2 = nI (c + 2 + i) →
    ∃ o' T', dzF 157 79 [(0, .ref M), (1, .int i1), (2, .int i2), (3, .int (nI u)), (4, .int i4), (5, .int (nI i))] [] (0, 0) (mS h M o g T F) = dzF 157 79 [(0, .ref M), (1, .int i1), (2, .int i2), (3, .int (nI u)), (4, .int i4), (5, .int (nI u))] [] (0, 0) (mS h M o' g T' F) ∧ keL [2] o o' ∧ o' 2 = nI (c + 2 + u) ∧ (∀ j, j < c + 2 + i → T' j = T j) ∧ (∀ z, i ≤ z → z < u → T' (c + 2 + z) = nI (wd V z))
  | 0, i, o, T, hd, h2 => by
    have ei : i = u := by omega
    subst ei
    exact ⟨o, T, rfl, fun _ _ => rfl, h2, fun _ _ => rfl, fun z a b => by omega⟩
  | d + 1, i, o, T, hd, h2 => by
    have m := mS_MO (h := h) (M := M) (o := o) (T := T) (F := F) ok
    have hw := hor_w ok 10 (i := i) (by omega)
    rw [hV] at hw
    have e1 : (400 : Int32) + (2 : Int32) * nI i = nI (40 * 10 + 2 * i) := by
      rw [show (2 : Int32) = nI 2 from rfl, pk_mul, show (400 : Int32) = nI 400 from rfl, nI_add]
    have e2 : nI (40 * 10 + 2 * i) + 1 = nI (40 * 10 + (2 * i + 1)) := by rw [nI_1, Nat.add_assoc]
    obtain ⟨o', T', d1, d2, d3, d4, d5⟩ := lp_m79 ok hV hu hc i1 i2 i4 d (i + 1) (o := upd o 2 (nI (c + 2 + i + 1))) (T := upd T (c + 2 + i) (nI (wd V i))) (by omega) (by rw [pk_us]; congr 1)
    refine ⟨o', T', ?_, fun z hz => by rw [d2 z hz, pk_un (fun y => hz (by rw [y]; decide))], d3, fun j hj => by rw [d4 j (by omega), pk_un (by omega)], fun z z1 z2 => ?_⟩
    · rw [q_M_sayLine_79, if_pos (nI_lt (by omega) (by omega)), gM m, Option.bind_some, e1, e2, rM m (by omega), Option.bind_some, Option.bind_some, rM m (by omega), Option.bind_some, hw, m_say h2 (by omega), Option.bind_some, nI_1]
      exact d1
    · by_cases e : z = i
      · subst e
        rw [d4 _ (by omega), pk_us]
      · exact d5 z (by omega) z2
theorem lp_m151 {W cc : Nat} (hm : m ≤ 40) (hW : W = 2 ∨ W = 3) (hc : cc + 1 + W * m ≤ 4000) (i2 i3 i4 : Int32) (hF : ∀ j, j < m → F 0 j = nI (C j) ∧ F 1 j = nI (D j) ∧ (W = 3 → F 2 j = nI (Q j))) : ∀ (d f : Nat) {o : Nat → Int32} {T : Nat → Int32}, f + d = m → o 8 = nI m → o 2 = nI (cc + 1 + W * f) →
    ∃ o' T', dzF 157 151 [(0, .ref M), (1, .int (nI W)), (2, .int i2), (3, .int i3), (4, .int i4), (5, .int (nI f))] [] (0, 0) (mS h M o g T F) = dzF 157 151 [(0, .ref M), (1, .int (nI W)), (2, .int i2), (3, .int i3), (4, .int i4), (5, .int (nI m))] [] (0, 0) (mS h M o' g T' F) ∧ keL [2] o o' ∧ o' 2 = nI (cc + 1 + W * m) ∧ (∀ j, j < cc + 1 + W * f → T' j = T j) ∧ (∀ j, f ≤ j → j < m → T' (cc + 1 + W * j) = nI (C j) ∧ T' (cc + 1 + W * j + 1) = nI (D j) ∧ (W = 3 → T' (cc + 1 + W * j + 2) = nI (Q j)))
  | 0, f, o, T, hd, h8, h2 => by
    have ef : f = m := by omega
    subst ef
    exact ⟨o, T, rfl, fun _ _ => rfl, h2, fun _ _ => rfl, fun j a b => by omega⟩
  | d + 1, f, o, T, hd, h8, h2 => by
    obtain ⟨f3, f4, f5⟩ := hF f (by omega)
    have hin : W * f + W ≤ W * m := by
      have := Nat.mul_le_mul_left W (show f + 1 ≤ m by omega)
      rw [Nat.mul_add, Nat.mul_one] at this
      exact this
    generalize hr : dzF 157 151 [(0, .ref M), (1, .int (nI W)), (2, .int i2), (3, .int i3), (4, .int i4), (5, .int (nI f))] [] (0, 0) (mS h M o g T F) = R
    rw [q_M_sayLine_151, mS_g8, Option.bind_some, h8, if_pos (nI_lt (by omega) (by omega)), mS_F0, Option.bind_some, mS_rF0 (by omega), Option.bind_some, f3, m_say h2 (by omega), Option.bind_some] at hr
    dsimp only at hr
    rw [mS_F1, Option.bind_some, mS_rF1 (by omega), Option.bind_some, f4, m_say (o := upd o 2 (nI (cc + 1 + W * f + 1))) (s := cc + 1 + W * f + 1) pk_us (by omega), Option.bind_some] at hr
    dsimp only at hr
    rcases hW with e | e
    · subst e
      rw [if_neg (by decide), q_M_sayLine_201, nI_1] at hr
      obtain ⟨o', T', d1, d2, d3, d4, d5⟩ := lp_m151 (W := 2) hm (Or.inl rfl) hc i2 i3 i4 hF d (f + 1) (o := upd (upd o 2 (nI (cc + 1 + 2 * f + 1))) 2 (nI (cc + 1 + 2 * f + 1 + 1))) (T := upd (upd T (cc + 1 + 2 * f) (nI (C f))) (cc + 1 + 2 * f + 1) (nI (D f))) (by omega) (by rw [pk_un (by decide), pk_un (by decide), h8]) (by rw [pk_us]; congr 1)
      rw [hr] at d1
      refine ⟨o', T', d1, fun z hz => by rw [d2 z hz, pk_un (fun y => hz (by rw [y]; decide)), pk_un (fun y => hz (by rw [y]; decide))], d3, fun j hj => by rw [d4 j (by omega), pk_un (by omega), pk_un (by omega)], fun j j1 j2 => ?_⟩
      by_cases e : j = f
      · subst e
        refine ⟨?_, ?_, fun z => by omega⟩
        · rw [d4 _ (by omega), pk_un (by omega), pk_us]
        · rw [d4 _ (by omega), pk_us]
      · exact d5 j (by omega) j2
    · subst e
      rw [if_pos (show nI 3 = 3 from rfl), mS_F2, Option.bind_some, mS_rF2 (by omega), Option.bind_some, f5 rfl, m_say (o := upd (upd o 2 (nI (cc + 1 + 3 * f + 1))) 2 (nI (cc + 1 + 3 * f + 1 + 1))) (s := cc + 1 + 3 * f + 1 + 1) pk_us (by omega), Option.bind_some, q_M_sayLine_201, nI_1] at hr
      dsimp only at hr
      obtain ⟨o', T', d1, d2, d3, d4, d5⟩ := lp_m151 (W := 3) hm (Or.inr rfl) hc i2 i3 i4 hF d (f + 1) (o := upd (upd (upd o 2 (nI (cc + 1 + 3 * f + 1))) 2 (nI (cc + 1 + 3 * f + 1 + 1))) 2 (nI (cc + 1 + 3 * f + 1 + 1 + 1))) (T := upd (upd (upd T (cc + 1 + 3 * f) (nI (C f))) (cc + 1 + 3 * f + 1) (nI (D f))) (cc + 1 + 3 * f + 1 + 1) (nI (Q f))) (by omega) (by rw [pk_un (by decide), pk_un (by decide), pk_un (by decide), h8]) (by rw [pk_us]; congr 1)
      rw [hr] at d1
      refine ⟨o', T', d1, fun z hz => by rw [d2 z hz, pk_un (fun y => hz (by rw [y]; decide)), pk_un (fun y => hz (by rw [y]; decide)), pk_un (fun y => hz (by rw [y]; decide))], d3, fun j hj => by rw [d4 j (by omega), pk_un (by omega), pk_un (by omega), pk_un (by omega)], fun j j1 j2 => ?_⟩
      by_cases e : j = f
      · subst e
        refine ⟨?_, ?_, fun _ => ?_⟩
        · rw [d4 _ (by omega), pk_un (by omega), pk_un (by omega), pk_us]
        · rw [d4 _ (by omega), pk_un (by omega), pk_us]
        · rw [d4 _ (by omega), pk_us]
      · exact d5 j (by omega) j2
theorem m_sayLine (ok : okg g) {W a : Nat} (hW : W = 2 ∨ W = 3) (hm : m ≤ 40) (hV : nv g 10 = V) (hB : V < B8) (hu : Wc V u) (h2 : o 2 = nI c) (h4 : o 4 = nI l) (hl : l ≤ 200) (hc4 : c ≤ 4000) (h8 : o 8 = nI m) (hF : ∀ j, j < m → F 0 j = nI (C j) ∧ F 1 j = nI (D j) ∧ (W = 3 → F 2 j = nI (Q j))) :
    (l < 200 ∧ cF W c u + 1 + W * m ≤ 4000 → ∃ o' g' T', c_M_sayLine M (nI W) (nI a) (mS h M o g T F) = some (1, mS h M o' g' T' F) ∧ keL [2, 4] o o' ∧ o' 2 = nI (cF W c u + 1 + W * m) ∧ o' 4 = nI (l + 1) ∧ nK [32 + l] g g' ∧ nv g' (32 + l) = V ∧ (∀ j, j < c → T' j = T j) ∧ Wl T' c W V u a m C D Q) ∧
    (¬ (l < 200 ∧ cF W c u + 1 + W * m ≤ 4000) → c_M_sayLine M (nI W) (nI a) (mS h M o g T F) = some (0, mS h M o g T F)) := by
  obtain ⟨fs, ho⟩ := mS_ob h M o g T F
  have hlen := sp_Mlen (mS_MO (h := h) (M := M) (o := o) (T := T) (F := F) ok) (show (10 : Int32) = nI 10 from rfl) (by decide)
  have hwc := (lng_Wc ok hV hB).uniq hu
  have hu8 := hu.1
  have hln := lng_le g 10
  have hdiv : (nI (lng g 10) + 1) / 2 = nI u := by
    rw [nI_1, show (2 : Int32) = nI 2 from rfl, pk_div (by omega) (by decide) (by decide), hwc]
  have h36 : c_M_sayLine M (nI W) (nI a) (mS h M o g T F) = dzRI (dzF 157 36 [(0, .ref M), (1, .int (nI W)), (2, .int (nI a)), (3, .int (nI u))] [.int (nI (if W = 2 then 1 + 2 * m else 3 * m)), .int (nI (3 + u))] (0, 0) (mS h M o g T F)) := by
    rw [cc_M_sayLine _ _ _ _ ho, q_M_sayLine_0, hlen, Option.bind_some]
    dsimp only
    rw [if_neg (by decide), hdiv, mS_g8, Option.bind_some, h8]
    rcases hW with e | e
    · subst e
      rw [if_pos (show nI 2 = 2 from rfl), if_pos rfl, show (3 : Int32) = nI 3 from rfl, nI_add, show (1 : Int32) = nI 1 from rfl, show (2 : Int32) = nI 2 from rfl, pk_mul, nI_add]
    · subst e
      rw [if_neg (by decide), Option.bind_some, if_neg (by decide), show (3 : Int32) = nI 3 from rfl, nI_add, pk_mul]
  have hlen2 : c + (3 + u + (if W = 2 then 1 + 2 * m else 3 * m)) = cF W c u + 1 + W * m := by
    unfold cF
    rcases hW with e | e
    · subst e
      rw [if_pos rfl, if_pos rfl]; omega
    · subst e
      rw [if_neg (by decide), if_neg (by decide)]; omega
  have hcc : c + 2 + u ≤ cF W c u := by
    unfold cF
    split <;> omega
  have hW3 : W * m ≤ 3 * 40 := Nat.mul_le_mul (by omega) hm
  have hcF : cF W c u ≤ c + 3 + u := by
    unfold cF
    split <;> omega
  rw [h36, q_M_sayLine_36, mS_g4, Option.bind_some, h4]
  constructor
  · rintro ⟨hl2, hc⟩
    obtain ⟨o1, T1, a1, a2, a3, a4, a5⟩ := lp_m79 (M := M) (h := h) (F := F) (c := c) ok hV hu8 (by omega) (nI W) (nI a) (nI (3 + u + (if W = 2 then 1 + 2 * m else 3 * m))) u 0 (o := upd (upd o 2 (nI (c + 1))) 2 (nI (c + 1 + 1))) (T := upd (upd T c (nI W)) (c + 1) (nI u)) (Nat.zero_add _) pk_us
    have hT2 : T1 c = nI W ∧ T1 (c + 1) = nI u := by
      rw [a4 c (by omega), a4 (c + 1) (by omega), pk_un (by omega), pk_us, pk_us]
      exact ⟨rfl, rfl⟩
    have h81 : o1 8 = nI m := by rw [a2 8 (by decide), pk_un (by decide), pk_un (by decide), h8]
    have h41 : o1 4 = nI l := by rw [a2 4 (by decide), pk_un (by decide), pk_un (by decide), h4]
    have mid : ∃ o2 T2, dzF 157 79 [(0, .ref M), (1, .int (nI W)), (2, .int (nI a)), (3, .int (nI u)), (4, .int (nI (3 + u + (if W = 2 then 1 + 2 * m else 3 * m)))), (5, .int (nI u))] [] (0, 0) (mS h M o1 g T1 F) = dzF 157 139 [(0, .ref M), (1, .int (nI W)), (2, .int (nI a)), (3, .int (nI u)), (4, .int (nI (3 + u + (if W = 2 then 1 + 2 * m else 3 * m)))), (5, .int (nI u))] [] (0, 0) (mS h M o2 g T2 F) ∧ keL [2] o1 o2 ∧ o2 2 = nI (cF W c u) ∧ (∀ j, j < c + 2 + u → T2 j = T1 j) ∧ (W = 2 → T2 (c + 2 + u) = nI a) := by
      rw [q_M_sayLine_79, if_neg (nI_nlt (Nat.le_refl _) (by omega))]
      rcases hW with e | e
      · subst e
        refine ⟨upd o1 2 (nI (c + 2 + u + 1)), upd T1 (c + 2 + u) (nI a), ?_, fun z hz => pk_un (fun y => hz (by rw [y]; decide)), by rw [pk_us]; rfl, fun j hj => pk_un (by omega), fun _ => pk_us⟩
        rw [if_pos (show nI 2 = 2 from rfl), m_say a3 (by unfold cF at hc; rw [if_pos rfl] at hc; omega), Option.bind_some]
      · subst e
        refine ⟨o1, T1, ?_, fun _ _ => rfl, by rw [a3]; rfl, fun _ _ => rfl, fun z => by omega⟩
        rw [if_neg (by decide)]
    obtain ⟨o2, T2, b1, b2, b3, b4, b5⟩ := mid
    have h82 : o2 8 = nI m := by rw [b2 8 (by decide), h81]
    have h42 : o2 4 = nI l := by rw [b2 4 (by decide), h41]
    obtain ⟨o3, T3, c1, c2, c3, c4, c5⟩ := lp_m151 (M := M) (h := h) (g := g) (W := W) (cc := cF W c u) hm hW hc (nI a) (nI u) (nI (3 + u + (if W = 2 then 1 + 2 * m else 3 * m))) hF m 0 (o := upd o2 2 (nI (cF W c u + 1))) (T := upd T2 (cF W c u) (nI m)) (Nat.zero_add _) (by rw [pk_un (by decide), h82]) (by rw [pk_us, Nat.mul_zero])
    have h83 : o3 8 = nI m := by rw [c2 8 (by decide), pk_un (by decide), h82]
    have h43 : o3 4 = nI l := by rw [c2 4 (by decide), pk_un (by decide), h42]
    obtain ⟨g1, d1, d2, d3⟩ := m_copy (M := M) (h := h) (o := o3) (T := T3) (F := F) ok (show (10 : Int32) = nI 10 from rfl) (i32l l) (by decide) (by omega) (by omega)
    have hlow : ∀ j, j < c + 2 + u → T3 j = T1 j := fun j hj => by rw [c4 j (by omega), pk_un (by omega), b4 j hj]
    refine ⟨upd o3 4 (nI (l + 1)), g1, T3, ?_, fun z hz => ?_, ?_, pk_us, d2, by rw [d3, hV], fun j hj => ?_, ?_⟩
    · rw [if_neg (show ¬ nI l = 200 from fun z => by have := (nI_eq (b := 200) (by omega) (by decide)).mp z; omega), mS_g2, Option.bind_some, h2, nI_add, nI_add, hlen2, if_pos (show nI (cF W c u + 1 + W * m) ≤ 4000 from nI_le (b := 4000) hc (by decide)), m_say h2 (by omega), Option.bind_some]
      dsimp only
      rw [m_say (o := upd o 2 (nI (c + 1))) (s := c + 1) pk_us (by omega), Option.bind_some]
      dsimp only
      rw [← nI_0, a1, b1, q_M_sayLine_139, mS_g8, Option.bind_some, h82, m_say b3 (by omega), Option.bind_some]
      dsimp only
      rw [← nI_0, c1, q_M_sayLine_151, mS_g8, Option.bind_some, h83, if_neg (nI_nlt (Nat.le_refl m) (by omega)), mS_g4, Option.bind_some, h43, d1, Option.bind_some, mS_g4, Option.bind_some, h43, nI_1, mS_p4, Option.bind_some]
      rfl
    · rw [pk_un (fun y => hz (by rw [y]; decide)), c2 z (fun y => hz (by rw [List.mem_singleton.mp y]; decide)), pk_un (fun y => hz (by rw [y]; decide)), b2 z (fun y => hz (by rw [List.mem_singleton.mp y]; decide)), a2 z (fun y => hz (by rw [List.mem_singleton.mp y]; decide)), pk_un (fun y => hz (by rw [y]; decide)), pk_un (fun y => hz (by rw [y]; decide))]
    · rw [pk_un (by decide), c3]
    · rw [hlow j (by omega), a4 j (by omega), pk_un (by omega), pk_un (by omega)]
    · refine ⟨by rw [hlow c (by omega)]; exact hT2.1, by rw [hlow (c + 1) (by omega)]; exact hT2.2, fun i hi => by rw [hlow _ (by omega)]; exact a5 i (Nat.zero_le _) hi, fun e => ?_, ?_, fun j hj => c5 j (Nat.zero_le _) hj⟩
      · have : cF W c u = c + 2 + u + 1 := by unfold cF; rw [if_pos e]
        rw [c4 _ (by omega), pk_un (by omega)]
        exact b5 e
      · rw [c4 _ (by omega), pk_us]
  · intro hno
    by_cases hl2 : l < 200
    · rw [if_neg (show ¬ nI l = 200 from fun z => by have := (nI_eq (b := 200) (by omega) (by decide)).mp z; omega), mS_g2, Option.bind_some, h2, nI_add, nI_add, hlen2, if_neg (show ¬ nI (cF W c u + 1 + W * m) ≤ 4000 from nI_ge (a := 4000) (by omega) (by omega))]
      rfl
    · have : l = 200 := by omega
      subst this
      rfl
def Nr (n : Nat) (g g' : Nat → Nat) : Prop := okg g' ∧ ∀ x, x < 8 ∨ x = 21 ∨ (32 ≤ x ∧ x < 32 + n) → nv g' x = nv g x
theorem Nr.of {g1 : Nat → Nat} {L : List Nat} (k : nK L g g1) (hL : ∀ x, x ∈ L → (7 < x ∧ x < 21) ∨ (21 < x ∧ x < 32) ∨ 32 + n ≤ x) : Nr n g g1 := ⟨k.1, fun x hx => k.2 x (fun z => by have := hL x z; omega)⟩
theorem Nr.tr {g1 g2 : Nat → Nat} (a : Nr n g g1) (b : Nr n g1 g2) : Nr n g g2 := ⟨b.1, fun x hx => (b.2 x hx).trans (a.2 x hx)⟩
theorem Nr.nk {g1 : Nat → Nat} (a : Nk n g g1) : Nr n g g1 := ⟨a.1, fun x hx => a.2 x (by omega)⟩
theorem m_big {N : Nat → Nat} (ok : okg g) (h21 : nv g 21 = 1) (hV : nv g 10 = V) (hbig : 65535 < V) (hB : V < B8) (hu : Wc V u) (hn : n ≤ 200) (hs : s ≤ 4000) (h2 : o 2 = nI s) (h4 : o 4 = nI n) (hN : ∀ i, i < n → nv g (32 + i) = N i) (hp : ∀ i, i < n → npP (N i)) :
    (Suc n V N s u → ∃ o' g' T' F' C D W a Q, c_M_make M (mS h M o g T F) = some (1, mS h M o' g' T' F') ∧ Nr n g g' ∧ keL [2, 4, 8] o o' ∧ o' 2 = nI (s + 2 * mK n V N + lnl (mX n V N) u (mM n V N)) ∧ o' 4 = nI (n + mK n V N + 1) ∧ (∀ i, i < n + mK n V N → nv g' (32 + i) = mN n V N i) ∧ nv g' (32 + (n + mK n V N)) = V ∧ Big n V N s u T T' C D W a Q) ∧
    (¬ Suc n V N s u → ∃ o' g' T' F', c_M_make M (mS h M o g T F) = some (0, mS h M o' g' T' F') ∧ Nr n g g' ∧ keL [2, 4, 8] o o' ∧ (∀ j, j < s → T' j = T j)) := by
  obtain ⟨fs, ho⟩ := mS_ob h M o g T F
  obtain ⟨g1, a1, a2, a3⟩ := m_set (M := M) (h := h) (o := o) (T := T) (F := F) ok 65535 (show (8 : Int32) = nI 8 from rfl) (by decide)
  have a3' : nv g1 8 = 65535 := by rw [a3]; rfl
  have e10 : nv g1 10 = V := by rw [a2.2 10 (by decide), hV]
  obtain ⟨g2, b1, b2, b3⟩ := m_copy (M := M) (h := h) (o := o) (T := T) (F := F) a2.1 (show (10 : Int32) = nI 10 from rfl) (show (11 : Int32) = nI 11 from rfl) (by decide) (by decide) (by decide)
  have e21 : nv g2 21 = 1 := by rw [b2.2 21 (by decide), a2.2 21 (by decide), h21]
  obtain ⟨g3, c1, c2, c3⟩ := m_lower (M := M) (h := h) (o := o) (T := T) (F := F) b2.1 (show (11 : Int32) = nI 11 from rfl) (show (21 : Int32) = nI 21 from rfl) (by decide) (by decide) (by decide) (by rw [e21, b3, e10]; omega)
  rw [b3, e10, e21] at c3
  obtain ⟨g4, d1, d2, d3⟩ := m_copy (M := M) (h := h) (o := o) (T := T) (F := F) c2.1 (show (11 : Int32) = nI 11 from rfl) (show (12 : Int32) = nI 12 from rfl) (by decide) (by decide) (by decide)
  rw [c3] at d3
  have kg4 : Nr n g g4 := (((Nr.of a2 (by simp)).tr (Nr.of b2 (by simp))).tr (Nr.of c2 (by simp))).tr (Nr.of d2 (by simp))
  have y10 : nv g4 10 = V := by rw [d2.2 10 (by decide), c2.2 10 (by decide), b2.2 10 (by decide), e10]
  have y11 : nv g4 11 = V - 1 := by rw [d2.2 11 (by decide), c3]
  have y21 : nv g4 21 = 1 := by rw [kg4.2 21 (by omega), h21]
  have fd := m_find (M := M) (h := h) (T := T) (F := F) (n := n) (s := s) (V := V) (N := N) d2.1 hn hs (by omega) hB h2 h4 d3 (fun i hi => by rw [kg4.2 _ (by omega)]; exact hN i hi) hp
  generalize hR : c_M_make M (mS h M o g T F) = R
  rw [cc_M_make _ _ ho, q_M_make_0, a1, Option.bind_some, m_order a2.1 (show (10 : Int32) = nI 10 from rfl) (show (8 : Int32) = nI 8 from rfl) (by decide) (by decide), Option.bind_some, e10, a3'] at hR
  dsimp only at hR
  rw [if_neg (fun z => by have := ordI_le.mp z; omega), b1, Option.bind_some, c1, Option.bind_some, d1, Option.bind_some] at hR
  by_cases hfd : mM n V N ≤ 40 ∧ n + mK n V N ≤ 200 ∧ s + 2 * mK n V N ≤ 4000
  · obtain ⟨o5, g5, T5, F5, C, D, f1, f2, f3, f4, f5, f6, f7, f8, f9, tab, ar, f12⟩ := fd.1 hfd
    have ent := tab.ent (by omega) hB hp
    obtain ⟨x1, x2⟩ := tab.X (by omega) hB hp
    have kg5 : Nr n g g5 := kg4.tr (Nr.nk f2)
    have z10 : nv g5 10 = V := by rw [f2.2 10 (by omega), y10]
    have z11 : nv g5 11 = V - 1 := by rw [f2.2 11 (by omega), y11]
    have z21 : nv g5 21 = 1 := by rw [f2.2 21 (by omega), y21]
    have mgm : ∀ {g6 : Nat → Nat}, nK [8, 13, 16] g5 g6 → MG (mM n V N) V C (fun j => mN n V N (C j)) o5 g6 F5 := fun {g6} kk => by
      refine ⟨kk.1, hfd.1, f7, by omega, hB, by rw [kk.2 21 (by decide), z21], by rw [kk.2 10 (by decide), z10], by rw [kk.2 11 (by decide), z11], fun j hj => ?_⟩
      have hC := (ent j hj).1
      refine ⟨(ar j hj).1, by omega, by rw [kk.2 _ (by simp; omega)]; exact f9 _ hC, Nat.le_trans (by decide) (ent j hj).2.1.1⟩
    rw [f1, Option.bind_some] at hR
    dsimp only at hR
    rw [if_neg one_n0, m_isOne f2.1 (show (12 : Int32) = nI 12 from rfl) (by decide) z21, Option.bind_some, f8] at hR
    dsimp only at hR
    -- the line is said
    have wr : ∀ {g6 : Nat → Nat} {F6 : Nat → Nat → Int32} {W a : Nat} {Q : Nat → Nat} {R : Option (Int32 × dzH)}, okg g6 → (∀ x, x < 8 ∨ x = 10 ∨ x = 21 ∨ 32 ≤ x → nv g6 x = nv g5 x) → (∀ r, r ≠ 2 → F6 r = F5 r) → (W = 3 → ∀ j, j < mM n V N → F6 2 j = nI (Q j)) → Dat V (mM n V N) (mX n V N) (fun j => mN n V N (C j)) W a Q → R = dzRI ((c_M_sayLine M (nI W) (nI a) (mS h M o5 g6 T5 F6)).bind fun q9 => if q9.1 = 0 then some (some (.int (0 : Int32)), q9.2) else some (some (.int (1 : Int32)), q9.2)) →
        (Suc n V N s u → ∃ o' g' T' F' C D W a Q, R = some (1, mS h M o' g' T' F') ∧ Nr n g g' ∧ keL [2, 4, 8] o o' ∧ o' 2 = nI (s + 2 * mK n V N + lnl (mX n V N) u (mM n V N)) ∧ o' 4 = nI (n + mK n V N + 1) ∧ (∀ i, i < n + mK n V N → nv g' (32 + i) = mN n V N i) ∧ nv g' (32 + (n + mK n V N)) = V ∧ Big n V N s u T T' C D W a Q) ∧
        (¬ Suc n V N s u → ∃ o' g' T' F', R = some (0, mS h M o' g' T' F') ∧ Nr n g g' ∧ keL [2, 4, 8] o o' ∧ (∀ j, j < s → T' j = T j)) := by
      intro g6 F6 W a Q R ok6 kg6 kF6 hQ dat hRR
      have hWX : (mX n V N = 1 ∧ W = 2) ∨ (mX n V N ≠ 1 ∧ W = 3) := by
        rcases dat with ⟨d1, d2, -⟩ | ⟨d1, d2, -⟩
        · exact Or.inl ⟨d1, d2⟩
        · exact Or.inr ⟨d1, d2⟩
      have hW : W = 2 ∨ W = 3 := by rcases hWX with z | z; exact Or.inl z.2; exact Or.inr z.2
      have elen := lnl_W (u := u) (m := mM n V N) (c := s + 2 * mK n V N) hWX
      have nr6 : Nr n g g6 := kg5.tr ⟨ok6, fun x hx => kg6 x (by omega)⟩
      have sl := m_sayLine (M := M) (h := h) (T := T5) (F := F6) (u := u) (C := C) (D := D) (Q := Q) ok6 (a := a) hW hfd.1 (by rw [kg6 10 (by omega), z10]) hB hu f5 f6 hfd.2.1 hfd.2.2 f7 (fun j hj => by
        rw [kF6 0 (by decide), kF6 1 (by decide)]
        exact ⟨(ar j hj).1, (ar j hj).2.1, fun z => hQ z j hj⟩)
      rw [elen] at sl
      by_cases hc : n + mK n V N < 200 ∧ s + 2 * mK n V N + lnl (mX n V N) u (mM n V N) ≤ 4000
      · obtain ⟨o7, g7, T7, p1, p2, p3, p4, p5, p6, p7, p8⟩ := sl.1 hc
        rw [p1, Option.bind_some] at hRR
        refine ⟨fun _ => ⟨o7, g7, T7, F6, C, D, W, a, Q, hRR, nr6.tr (Nr.of p5 (by simp)), f3.tr (p2.mono (by decide)), p3, p4, fun i hi => ?_, p6, tab, dat, fun j hj => ?_, fun z hz => ?_, p8⟩, fun z => absurd (dat.suc tab hfd.1 (by omega) hc.2) z⟩
        · rw [p5.2 _ (by simp; omega), kg6 _ (by omega), f9 i hi]
        · rw [p7 j (by omega), f4 j hj]
        · rw [p7 _ (by omega), p7 _ (by omega)]
          exact f12 z hz
      · rw [sl.2 hc, Option.bind_some] at hRR
        exact ⟨fun z => absurd ⟨by have := z.2.1; omega, z.2.2.1⟩ hc, fun _ => ⟨o5, g6, T5, F6, hRR, nr6, f3, f4⟩⟩
    by_cases hX : mX n V N = 1
    · rw [decide_eq_true hX, if_neg bI_n1] at hR
      obtain ⟨ra, g6, p1, p2, p3, p4⟩ := lp_ww (M := M) (h := h) (T := T5) 199 2 (by decide) (by decide) (mgm (nK.rf f2.1 _))
      obtain ⟨fs5, ho5⟩ := mS_ob h M o5 g5 T5 F5
      have ew : c_M_wholeWitness M (mS h M o5 g5 T5 F5) = some (nI ra, mS h M o5 g6 T5 F5) := by
        rw [cc_M_wholeWitness _ _ ho5, q_M_wholeWitness_0]
        exact p1
      rw [ew, Option.bind_some] at hR
      dsimp only at hR
      by_cases hra : ra = 0
      · rw [hra, if_pos (by decide)] at hR
        refine ⟨fun hs => ?_, fun _ => ⟨o5, g6, T5, F5, hR.symm, kg5.tr (Nr.of p2 (by simp)), f3, f4⟩⟩
        obtain ⟨s1, s2, s3, s4⟩ := hs
        rcases s4 with ⟨y1, a, y2, y3, y4⟩ | ⟨y1, y2⟩
        · exact absurd ((Rt_pm tab.1).mpr y4) (p3 hra a y2 y3)
        · exact absurd hX y1
      · obtain ⟨q1, q2, q3, q4⟩ := p4 hra
        rw [if_neg (nI_nle (by omega) (by omega))] at hR
        exact wr (W := 2) (a := ra) (Q := fun _ => 0) p2.1 (fun x hx => p2.2 x (by simp; omega)) (fun _ _ => rfl) (fun z => by omega) (Or.inl ⟨hX, rfl, q1, q2, q3, q4⟩) hR.symm
    · rw [decide_eq_false hX, if_pos bI_f] at hR
      obtain ⟨g6, p1, p2, p3, p4⟩ := m_part (M := M) (h := h) (o := o5) (T := T5) (F := F5) f2.1 (show (11 : Int32) = nI 11 from rfl) (show (12 : Int32) = nI 12 from rfl) (show (13 : Int32) = nI 13 from rfl) (show (16 : Int32) = nI 16 from rfl) (by decide) (by decide) (by decide) (by decide) (by decide) (by decide) (by decide) (by decide) (by decide) (by rw [f8]; exact x1) (by rw [z11]; exact Nat.lt_of_le_of_lt (Nat.sub_le V 1) hB)
      rw [z11, f8] at p3
      have hsB : (V - 1) / mX n V N < B8 := Nat.lt_of_le_of_lt (Nat.div_le_self _ _) (Nat.lt_of_le_of_lt (Nat.sub_le V 1) hB)
      obtain ⟨g7, q1, q2, q3⟩ := m_times (M := M) (h := h) (o := o5) (T := T5) (F := F5) p2.1 (show (13 : Int32) = nI 13 from rfl) (show (13 : Int32) = nI 13 from rfl) (show (8 : Int32) = nI 8 from rfl) (by decide) (by decide) (by decide) (by decide) (by decide) (by rw [p3]; exact hsB) (by rw [p3]; exact hsB)
      rw [p3] at q3
      have k7 : nK [8, 13, 16] g5 g7 := (p2.mono (by decide)).tr (q2.mono (by decide))
      rw [p1, Option.bind_some, q1, Option.bind_some, m_order q2.1 (show (8 : Int32) = nI 8 from rfl) (show (10 : Int32) = nI 10 from rfl) (by decide) (by decide), Option.bind_some, q3, k7.2 10 (by decide), z10] at hR
      dsimp only at hR
      by_cases hsf : V < (V - 1) / mX n V N * ((V - 1) / mX n V N)
      · rw [if_neg (fun z => by have := ordI_le.mp z; omega)] at hR
        obtain ⟨b, g8, F8, r1, r2, r3, r4, r5, r6⟩ := lp_p2 (M := M) (h := h) (T := T5) (mM n V N) 0 (Nat.zero_add _) (mgm k7)
        obtain ⟨fs7, ho7⟩ := mS_ob h M o5 g7 T5 F5
        have ew : c_M_partWitnesses M (mS h M o5 g7 T5 F5) = some (bI b, mS h M o5 g8 T5 F8) := by
          rw [cc_M_partWitnesses _ _ ho7, q_M_partWitnesses_0]
          exact r1
        rw [ew, Option.bind_some] at hR
        cases b with
        | true =>
          have hex : ∃ Q : Nat → Nat, ∀ j, j < mM n V N → F8 2 j = nI (Q j) ∧ 2 ≤ Q j ∧ Q j ≤ 200 ∧ Pt V (mN n V N (C j)) (Q j) ∧ ∀ z, 2 ≤ z → z < Q j → ¬ Pt V (mN n V N (C j)) z := by
            refine ⟨fun j => w32 (F8 2 j), fun j hj => ?_⟩
            obtain ⟨ra, w1, w2, w3, w4, w5⟩ := r5 rfl j (Nat.zero_le _) hj
            have ewr : w32 (F8 2 j) = ra := by rw [w1, w32_nI (by omega)]
            dsimp only
            rw [ewr]
            exact ⟨w1, w2, w3, w4, w5⟩
          obtain ⟨Q, hQ⟩ := hex
          refine wr (W := 3) (a := 0) (Q := Q) r2.1 (fun x hx => by rw [r2.2 x (by simp; omega), k7.2 x (by simp; omega)]) r3 (fun _ j hj => (hQ j hj).1) (Or.inr ⟨hX, rfl, hsf, fun j hj => (hQ j hj).2⟩) ?_
          rw [← hR]
          rfl
        | false =>
          refine ⟨fun hs => ?_, fun _ => ⟨o5, g8, T5, F8, hR.symm, (kg5.tr (Nr.of k7 (by simp))).tr (Nr.of r2 (by simp)), f3, f4⟩⟩
          obtain ⟨j, j1, j2⟩ := r6 rfl
          obtain ⟨s1, s2, s3, s4⟩ := hs
          rcases s4 with ⟨y1, y2⟩ | ⟨y1, y2, y3⟩
          · exact absurd y1 hX
          · obtain ⟨a, b1, b2, b3⟩ := tab.1.all (N := mN n V N) (P := fun q => ∃ a, 2 ≤ a ∧ a ≤ 200 ∧ Pt V q a) y3 j j1
            exact absurd b3 (j2 a b1 b2)
      · rw [if_pos (ordI_le.mpr (by omega))] at hR
        refine ⟨fun hs => ?_, fun _ => ⟨o5, g7, T5, F5, hR.symm, kg5.tr (Nr.of k7 (by simp)), f3, f4⟩⟩
        obtain ⟨s1, s2, s3, s4⟩ := hs
        rcases s4 with ⟨y1, y2⟩ | ⟨y1, y2, y3⟩
        · exact absurd y1 hX
        · exact absurd y2 hsf
  · obtain ⟨o5, g5, T5, F5, f1, f2, f3, f4⟩ := fd.2 hfd
    rw [f1, Option.bind_some] at hR
    exact ⟨fun hs => absurd ⟨hs.1, by have := hs.2.1; omega, by have := hs.2.2.1; omega⟩ hfd, fun _ => ⟨o5, g5, T5, F5, hR.symm, kg4.tr (Nr.nk f2), f3, f4⟩⟩
theorem m_small1 (ok : okg g) (hV : nv g 10 = V) (hsm : V ≤ 65535) (hn : n ≤ 200) (hs : s ≤ 4000) (h2 : o 2 = nI s) (h4 : o 4 = nI n) :
    (spB V = true ∧ n + 1 ≤ 200 ∧ s + 2 ≤ 4000 → ∃ o' g' T', c_M_make M (mS h M o g T F) = some (1, mS h M o' g' T' F) ∧ Nr n g g' ∧ keL [2, 4, 8] o o' ∧ o' 2 = nI (s + 2) ∧ o' 4 = nI (n + 1) ∧ nv g' (32 + n) = V ∧ (∀ j, j < s → T' j = T j) ∧ T' s = nI 1 ∧ T' (s + 1) = nI V) ∧
    (¬ (spB V = true ∧ n + 1 ≤ 200 ∧ s + 2 ≤ 4000) → ∃ g', c_M_make M (mS h M o g T F) = some (0, mS h M o g' T F) ∧ Nr n g g') := by
  obtain ⟨fs, ho⟩ := mS_ob h M o g T F
  obtain ⟨g1, a1, a2, a3⟩ := m_set (M := M) (h := h) (o := o) (T := T) (F := F) ok 65535 (show (8 : Int32) = nI 8 from rfl) (by decide)
  have a3' : nv g1 8 = 65535 := by rw [a3]; rfl
  have e10 : nv g1 10 = V := by rw [a2.2 10 (by decide), hV]
  have kg1 : Nr n g g1 := Nr.of a2 (by simp)
  have e400 : g1 400 = V := by
    have h1 := pv_digit (B := 65536) (by decide) (d := fun k => g1 (40 * 10 + k)) (n := 40) (i := 0) (fun j _ => a2.1 _) (by decide)
    have h2 : pv 65536 (fun k => g1 (40 * 10 + k)) 40 = V := e10
    rw [h2, Nat.pow_zero, Nat.div_one, Nat.mod_eq_of_lt (by omega)] at h1
    exact h1.symm
  have m := mS_MO (h := h) (M := M) (o := o) (T := T) (F := F) a2.1
  have r400 := rM m (j := 400) (by decide)
  rw [e400] at r400
  generalize hR : c_M_make M (mS h M o g T F) = R
  rw [cc_M_make _ _ ho, q_M_make_0, a1, Option.bind_some, m_order a2.1 (show (10 : Int32) = nI 10 from rfl) (show (8 : Int32) = nI 8 from rfl) (by decide) (by decide), Option.bind_some, e10, a3'] at hR
  dsimp only at hR
  rw [if_pos (ordI_le.mpr hsm), gM m, Option.bind_some, show (400 : Int32) = nI 400 from rfl, r400, Option.bind_some, sp_Msmall hsm, Option.bind_some] at hR
  dsimp only at hR
  by_cases hsp : spB V = true
  · rw [hsp, if_neg bI_n1] at hR
    by_cases hc : n < 200 ∧ s + 2 ≤ 4000
    · obtain ⟨o', g', b1, b2, b3, b4, b5, b6⟩ := m_sayOne (M := M) (h := h) (T := T) (F := F) a2.1 (p := V) (by omega) h2 h4 hc.1 hc.2
      rw [b1, Option.bind_some] at hR
      refine ⟨fun _ => ⟨o', g', _, hR.symm, kg1.tr (Nr.of b5 (by simp)), b2.mono (by decide), b3, b4, b6, fun j hj => by rw [pk_un (by omega), pk_un (by omega)], by rw [pk_un (by omega), pk_us]; rfl, pk_us⟩, fun z => absurd ⟨hsp, by omega, hc.2⟩ z⟩
    · rw [m_sayOne0 _ h2 h4 hn hs hc, Option.bind_some] at hR
      exact ⟨fun z => absurd ⟨by have := z.2.1; omega, z.2.2⟩ hc, fun _ => ⟨g1, hR.symm, kg1⟩⟩
  · have hsp' : spB V = false := by
      cases hz : spB V with
      | false => rfl
      | true => exact absurd hz hsp
    rw [hsp', if_pos bI_f] at hR
    exact ⟨fun z => absurd z.1 hsp, fun _ => ⟨g1, hR.symm, kg1⟩⟩
end
