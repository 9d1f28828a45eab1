/-! calls -/
theorem zl_c_lt : ∀ q ∈ zl_c, q.2.2 < dzN := by decide +kernel
theorem zl_n_lt : ∀ q ∈ zl_n, q.2.2 < dzN := by decide +kernel
theorem dzGW_good {w : Cond} (h : w ∈ dzGW) : (w.onTables && w.keeps) = true ∨ ∃ ty, w = .arrayClass ty := good_of_word (List.mem_filter.mp h).2
theorem dzWs_good {cid : Nat} (h : Cond.code (dzY cid) (dzBy cid) (dzMx cid) (dzRt cid) ∈ dzGW) : GoodIn dzGW (dzWs cid) := by
  intro w hw
  rcases List.mem_cons.mp hw with rfl | hw
  · exact ⟨h, dzGW_good h⟩
  · exact ⟨hw, dzGW_good hw⟩
/-- the call's link: of the same nest's private method, or any other -/
def dzLk (mid k cid : Nat) : Prop := (dzOc mid, k, cid) ∈ zl_c ∨ (dzOc mid, k, cid) ∈ zl_n
theorem dzLk_lt {mid k cid : Nat} (h : dzLk mid k cid) : cid < dzN := by
  rcases h with h | h
  · exact zl_c_lt _ h
  · exact zl_n_lt _ h
section DZ3
variable {p : Program} {l : Launch} {e : Env} {s : State} {m : MethodId} {args : Array Value} {below : List Frame} {meth : Method} {c : Code}
variable {B : Nat} {D : va_G} {tI tA : ClassId} {mid : Nat} {Q : State → Prop}
theorem dz_pre (hK : dzKn D tI tA s) (hB : B ≤ s.heap.size) {H : Heap} {locs : List Loc} {h : dzH} (hg : dzG B D tI tA s h H locs) (av : List Value) : PreS s H (dzPr B D tI tA av h) av :=
  ⟨dzPr.blind, fun U hU hW => ⟨rfl, hK.warm hW, by rw [hU]; exact hg.1.moved hW.alike, by rw [hU]; exact Nat.le_trans hB hg.2.1⟩⟩
theorem dzFit_of {mid cid : Nat} {u : Nat × Nat} (h : dzFit mid cid u = true) : (dzFr cid + 1 ≤ dzFr mid ∧ 8 + (dzMx cid + 11) + dzLo cid ≤ dzLo mid) ∧ u.1 + dzMc cid ≤ dzMc mid ∧ u.2 + dzMs cid ≤ dzMs mid := by
  unfold dzFit at h
  simp only [Bool.and_eq_true] at h
  exact ⟨⟨Nat.le_of_ble_eq_true h.1.1.1, Nat.le_of_ble_eq_true h.1.1.2⟩, Nat.le_of_ble_eq_true h.1.2, Nat.le_of_ble_eq_true h.2⟩
set_option maxHeartbeats 4000000 in
theorem dz_call (hx : dzCx D tI tA mid p s m args meth c) (hB : B ≤ s.heap.size) {C : dzCt} (hC : dzOkC l B D tI tA C) {pc k cid : Nat} {av rest S : List Value} {q : dzR} {ls : Array Slot} {H : Heap} {locs : List Loc} {u : Nat × Nat} {h : dzH}
    (hcall : C cid av h = some q) (hlk : dzLk mid k cid)
    (hi : (decode (dzBy mid) pc = .ok (.invokestatic k, 3) ∧ dzKn0 cid = 0 ∧ dzPn cid = some av.length) ∨ (decode (dzBy mid) pc = .ok (.invokevirtual k, 3) ∧ (dzOc mid, k, cid) ∈ zl_c ∧ dzKn0 cid = 1 ∧ (dzPn cid).map (· + 1) = some av.length) ∨ (decode (dzBy mid) pc = .ok (.invokespecial k, 3) ∧ dzKn0 cid = 2 ∧ (dzPn cid).map (· + 1) = some av.length ∧ dzRt cid = none))
    (hfit : dzFit mid cid u = true) (hsum : (rest.map fun v => v.category).sum ≤ 8) (hS : S = av.reverse ++ rest) (hsz : ls.size = dzMx mid) (hg : dzG B D tI tA s h H locs)
    (kk : ∀ (H1 : Heap) (locs1 : List Loc), dzG B D tI tA s q.2 H1 locs1 → W p l e (dzRm mid) s m args below meth c H1 locs1 (u.1 + dzMc cid) (u.2 + dzMs cid) Q (F0 m (pc + 3) ls (q.1.toList ++ rest))) : W p l e (dzRm mid) s m args below meth c H locs u.1 u.2 Q (F0 m pc ls S) := by
  obtain ⟨hexec, hb, hml, hn, hown, hts, hK, hmid⟩ := hx
  have hcid := dzLk_lt hlk
  have hk9 : dzKn0 cid ≠ 9 := by
    rcases hi with ⟨-, h1, -⟩ | ⟨-, -, h1, -⟩ | ⟨-, h1, -⟩ <;> rw [h1] <;> decide
  obtain ⟨hM, hrc⟩ := hC cid av h q hcall hcid hk9
  have hmw := zm_all cid hcid hk9
  obtain ⟨hcw, hiw, hpl, hnh, hkw⟩ := hmw
  have hG := dzWs_good hcw
  obtain ⟨hR, hf1, hf2⟩ := dzFit_of hfit
  have hpre := dz_pre hK hB hg av
  subst hS
  refine dz_cont (h := h) (r := q.1) (h' := q.2) (a := av.toArray) ?_ hg kk
  have hlinkc : (dzOc mid, k, cid) ∈ zl_c → (Cond.methodLink (dzY mid).cls k (dzY cid)).before args s = true := fun hm => by
    have hw := zl_c_ok _ hm
    dsimp only at hw
    rw [zt_oc_ok mid hmid] at hw
    exact hts _ hw
  have hlinkn : (dzOc mid, k, cid) ∈ zl_n → va_Nw (.methodLinkNest (dzY mid).cls k (dzY cid) "PrimeCertificates") s := fun hm => by
    have hw := hK.2.1 _ hm
    unfold dzNw at hw
    dsimp only at hw
    rw [zt_oc_ok mid hmid] at hw
    exact hw
  rcases hi with ⟨hdg, hkd, hpn⟩ | ⟨hdg, hmem, hkd, hpn⟩ | ⟨hdg, hkd, hpn, hret⟩
  · rw [hkd] at hkw
    rcases hlk with hm | hm
    · exact va_runS (n := av.length) ⟨hexec, hb, hml, hown, hts⟩ hM ⟨callB_of av.length hts hG rfl rfl rfl (hts _ hiw) (hlinkc hm) ⟨hnh.1, hnh.2, hpn⟩ hR, hts _ hkw⟩ hpre rfl rfl hsz rfl (lv_room hsum) hdg ⟨hf1, hf2⟩
    · exact va_runSN (n := av.length) ⟨hexec, hb, hml, hown, hts⟩ hM ⟨va_cnB av.length hts hG rfl rfl rfl (hlinkn hm) (hts _ hiw) ⟨hnh.1, hnh.2, hpn⟩ hR, hts _ hkw, trivial⟩ hpre rfl rfl hsz rfl (lv_room hsum) hdg ⟨hf1, hf2⟩
  · rw [hkd] at hkw
    have hrv := zt_rcv_ok cid hcid (by rw [hkd]; decide) hk9
    obtain ⟨a, as, fs, rfl, ha⟩ := hrc _ hrv
    have hpn2 : dzPn cid = some as.length := by
      cases hp : dzPn cid with
      | none => rw [hp] at hpn; cases hpn
      | some z =>
        rw [hp] at hpn
        have e9 : z + 1 = as.length + 1 := Option.some.inj hpn
        congr 1
        omega
    have hat := hg.1.2 a _ ha
    obtain ⟨⟨Cn, Tt, N⟩, hc, -⟩ := hat.2
    obtain ⟨-, -, -, -, -, hcn, -, -⟩ := zu_all _ Cn Tt N hc
    have hrec := va_recv hK.1 (va_P.one hat.2) hc (q0 := 0) rfl
    dsimp only at hrec
    rw [← hcn, zt_oc_ok cid hcid] at hrec
    exact va_runV (n := as.length) ⟨hexec, hb, hml, hown, hts⟩ hM ⟨callB_of as.length hts hG rfl rfl rfl (hts _ hiw) (hlinkc hmem) ⟨hnh.1, hnh.2, hpn2⟩ hR, hts _ hkw.1, hts _ hkw.2⟩ ⟨hpre.1, hrec, hpre.2⟩ rfl rfl hsz (by simp) (lv_room hsum) hdg ⟨hf1, hf2⟩
  · rw [hkd] at hkw
    have hrv := zt_rcv_ok cid hcid (by rw [hkd]; decide) hk9
    obtain ⟨a, as, fs, rfl, ha⟩ := hrc _ hrv
    have hpn2 : dzPn cid = some as.length := by
      cases hp : dzPn cid with
      | none => rw [hp] at hpn; cases hpn
      | some z =>
        rw [hp] at hpn
        have e9 : z + 1 = as.length + 1 := Option.some.inj hpn
        congr 1
        omega
    have hwr : dzWs cid = Cond.code (dzY cid) (dzBy cid) (dzMx cid) none :: dzGW := by
      unfold dzWs
      rw [hret]
    rcases hlk with hm | hm
    · exact va_runI (n := as.length) ⟨hexec, hb, hml, hown, hts⟩ hM ⟨callB_of as.length hts hG hwr rfl rfl (hts _ hiw) (hlinkc hm) ⟨hnh.1, hnh.2, hpn2⟩ hR, hkw.2, hts _ hkw.1⟩ hpre rfl rfl hsz (by simp) (lv_room hsum) hdg ⟨hf1, hf2⟩
    · exact va_runIN (n := as.length) ⟨hexec, hb, hml, hown, hts⟩ hM ⟨va_cnB as.length hts hG hwr rfl rfl (hlinkn hm) (hts _ hiw) ⟨hnh.1, hnh.2, hpn2⟩ hR, hkw.2, hts _ hkw.1⟩ hpre rfl rfl hsz (by simp) (lv_room hsum) hdg ⟨hf1, hf2⟩
end DZ3
