/-! one row of the tables -/
section DZ4
variable {p : Program} {l : Launch} {e : Env} {s : State} {m : MethodId} {args : Array Value} {below : List Frame} {meth : Method} {c : Code}
variable {B : Nat} {D : va_G} {tI tA : ClassId} {mid : Nat} {Q : State → Prop} {r : Option Value} {h' : dzH}
theorem dzIn_has {ls : Array Slot} {n i : Nat} {v : Value} {L L0 : dzL} (h : lv_has ls n ((i, v) :: L0)) (e : L = dzIn i v L0) : lv_has ls n L := by
  subst e
  exact h.less (fun q hq => dzIn_mem hq)
theorem dz_sw {K : Nat → Option dzR} {x : Int32} {qq : dzR} {dflt : Nat} : ∀ {sw : List (Int32 × Nat)}, dzSw x K sw dflt = some qq → (∃ k : Nat, ∃ q, sw[k]? = some q ∧ x = q.1 ∧ K q.2 = some qq) ∨ ((∀ q ∈ sw, x ≠ q.1) ∧ K dflt = some qq)
  | [], h => Or.inr ⟨fun q hq => (by cases hq), h⟩
  | (c0, t) :: rr, h => by
    unfold dzSw at h
    split at h
    · rename_i e0
      exact Or.inl ⟨0, (c0, t), rfl, e0, h⟩
    · rename_i e0
      rcases dz_sw h with ⟨k, q, h1, h2, h3⟩ | ⟨h1, h2⟩
      · exact Or.inl ⟨k + 1, q, h1, h2, h3⟩
      · refine Or.inr ⟨fun q hq => ?_, h2⟩
        rcases List.mem_cons.mp hq with rfl | hq
        · exact e0
        · exact h1 q hq
theorem dzSwOk_at {pc : Nat} : ∀ {lo : Int} {os : List Int} {sw : List (Int32 × Nat)}, dzSwOk pc lo os sw = true → os.length = sw.length ∧ ∀ (k : Nat) (q : Int32 × Nat), sw[k]? = some q → q.1.toInt = lo + k ∧ ∃ o1, os[k]? = some o1 ∧ (pc : Int) + o1 = (q.2 : Int)
  | lo, [], [], _ => ⟨rfl, fun k q h => by cases h⟩
  | lo, [], _ :: _, h => by simp [dzSwOk] at h
  | lo, _ :: _, [], h => by simp [dzSwOk] at h
  | lo, o1 :: os, (c0, t) :: rr, h => by
    simp only [dzSwOk, Bool.and_eq_true, decide_eq_true_eq] at h
    obtain ⟨⟨h1, h2⟩, h3⟩ := h
    obtain ⟨g1, g2⟩ := dzSwOk_at h3
    refine ⟨by simp [g1], fun k q hq => ?_⟩
    cases k with
    | zero =>
      cases hq
      exact ⟨by rw [h1]; simp, o1, rfl, h2⟩
    | succ k =>
      obtain ⟨g3, g4⟩ := g2 k q hq
      refine ⟨by rw [g3]; omega, g4⟩
theorem zTy_ne : ∀ (q : Nat × Nat × Nat × Nat), q ∈ zl_f → dzTk0 (zTy q.2.2.1 q.2.2.2) ≠ 0 := by decide +kernel
set_option maxHeartbeats 4000000 in
theorem dz_inv (hx : dzCx D tI tA mid p s m args meth c) (hB : B ≤ s.heap.size) {K : dzKt} {C : dzCt} (hK : dzOkK p l e s m args below meth c B D tI tA mid Q r h' K) (hC : dzOkC l B D tI tA C)
    {pc k : Nat} {L : dzL} {S : List Value} {u : Nat × Nat} {h : dzH} {v : Value} {sw : List (Int32 × Nat)} {pl : List Nat} (hlk : dzLk mid k (dzPl pl 0))
    (hi : ∀ av : List Value, av.length = dzPl pl 1 → (decode (dzBy mid) pc = .ok (.invokestatic k, 3) ∧ dzKn0 (dzPl pl 0) = 0 ∧ dzPn (dzPl pl 0) = some av.length) ∨ (decode (dzBy mid) pc = .ok (.invokevirtual k, 3) ∧ (dzOc mid, k, (dzPl pl 0)) ∈ zl_c ∧ dzKn0 (dzPl pl 0) = 1 ∧ (dzPn (dzPl pl 0)).map (· + 1) = some av.length) ∨ (decode (dzBy mid) pc = .ok (.invokespecial k, 3) ∧ dzKn0 (dzPl pl 0) = 2 ∧ (dzPn (dzPl pl 0)).map (· + 1) = some av.length ∧ dzRt (dzPl pl 0) = none))
    (hd : dz1 mid K C (pc + 3) L S u h (.invokestatic 0) v sw pl = some (r, h')) (hu1 : u.1 ≤ dzMc mid) (hu2 : u.2 ≤ dzMs mid)
    {ls : Array Slot} {H : Heap} {locs : List Loc} (hl : lv_has ls (dzMx mid) L) (hg : dzG B D tI tA s h H locs) : W p l e (dzRm mid) s m args below meth c H locs u.1 u.2 Q (F0 m pc ls S) := by
  simp only [dz1] at hd
  split at hd
  · rename_i av rr etk
    obtain ⟨t, e1, e2, e3⟩ := dzTk_of etk
    rw [List.append_nil] at e1
    subst e1
    split at hd
    · rename_i hc1
      simp only [Bool.and_eq_true] at hc1
      obtain ⟨hfit, hsum⟩ := hc1
      have hsum' := Nat.le_of_ble_eq_true hsum
      have hf := dzFit_of hfit
      split at hd
      · obtain ⟨h1, hx1, hd⟩ := Option.bind_eq_some_iff.mp hd
        have e4 : C (dzPl pl 0) av h = some (none, h1) := by
          unfold dzRV at hx1
          split at hx1
          · rename_i hc; rw [hc]; cases hx1; rfl
          · cases hx1
        exact dz_call hx hB hC e4 hlk (hi av e3) hfit hsum' e2 hl.1 hg (fun H1 locs1 hg1 => hK _ _ _ _ _ hd hf.2.1 hf.2.2 ls H1 locs1 hl hg1)
      · obtain ⟨q, hx1, hd⟩ := Option.bind_eq_some_iff.mp hd
        have e4 : C (dzPl pl 0) av h = some (some (.int q.1), q.2) := by
          unfold dzRI at hx1
          split at hx1
          · rename_i hc; rw [hc]; cases hx1; rfl
          · cases hx1
        exact dz_call hx hB hC e4 hlk (hi av e3) hfit hsum' e2 hl.1 hg (fun H1 locs1 hg1 => hK _ _ _ _ _ hd hf.2.1 hf.2.2 ls H1 locs1 hl hg1)
      · obtain ⟨q, hx1, hd⟩ := Option.bind_eq_some_iff.mp hd
        have e4 : C (dzPl pl 0) av h = some (some (.long q.1), q.2) := by
          unfold dzRJ at hx1
          split at hx1
          · rename_i hc; rw [hc]; cases hx1; rfl
          · cases hx1
        exact dz_call hx hB hC e4 hlk (hi av e3) hfit hsum' e2 hl.1 hg (fun H1 locs1 hg1 => hK _ _ _ _ _ hd hf.2.1 hf.2.2 ls H1 locs1 hl hg1)
      · obtain ⟨q, hx1, hd⟩ := Option.bind_eq_some_iff.mp hd
        have e4 : C (dzPl pl 0) av h = some (some (.ref q.1), q.2) := by
          unfold dzRA at hx1
          split at hx1
          · rename_i hc; rw [hc]; cases hx1; rfl
          · cases hx1
        exact dz_call hx hB hC e4 hlk (hi av e3) hfit hsum' e2 hl.1 hg (fun H1 locs1 hg1 => hK _ _ _ _ _ hd hf.2.1 hf.2.2 ls H1 locs1 hl hg1)
      · cases hd
    · cases hd
  · cases hd
set_option maxHeartbeats 8000000 in
theorem dz_step (hx : dzCx D tI tA mid p s m args meth c) (hB : B ≤ s.heap.size) {K : dzKt} {C : dzCt} (hK : dzOkK p l e s m args below meth c B D tI tA mid Q r h' K) (hC : dzOkC l B D tI tA C) (hE : dzOkE p l e s m args below meth c B D tI tA mid Q r h')
    {pc nx : Nat} {L : dzL} {S : List Value} {u : Nat × Nat} {h : dzH} {i : dzIns} {v : Value} {sw : List (Int32 × Nat)} {pl : List Nat} (hck : dzCk mid (pc, nx, i, v, sw, pl) = true) (hd : dz1 mid K C nx L S u h i v sw pl = some (r, h')) (hu1 : u.1 ≤ dzMc mid) (hu2 : u.2 ≤ dzMs mid)
    {ls : Array Slot} {H : Heap} {locs : List Loc} (hl : lv_has ls (dzMx mid) L) (hg : dzG B D tI tA s h H locs) : W p l e (dzRm mid) s m args below meth c H locs u.1 u.2 Q (F0 m pc ls S) := by
  have hx0 := hx
  obtain ⟨hexec, hb, hml, hn, hown, hts, hKn, hmid⟩ := hx
  unfold dzCk at hck
  dsimp only at hck
  split at hck
  case h_2 => cases hck
  rename_i ins len hdg
  simp only [Bool.and_eq_true] at hck
  obtain ⟨⟨hnx, hln⟩, hmt⟩ := hck
  have enx : nx = pc + len := Nat.eq_of_beq_eq_true hnx
  subst enx
  cases ins
  case iconst k =>
    have eln : len = 1 := Nat.eq_of_beq_eq_true hln
    subst eln
    simp only [dzMt, Bool.and_eq_true, decide_eq_true_eq] at hmt
    obtain ⟨rfl, rfl⟩ := hmt
    exact lv_iconst hexec hb hdg rfl (hK _ _ _ _ _ hd hu1 hu2 ls H locs hl hg)
  case bipush k =>
    have eln : len = 2 := Nat.eq_of_beq_eq_true hln
    subst eln
    simp only [dzMt, Bool.and_eq_true, decide_eq_true_eq] at hmt
    obtain ⟨rfl, rfl⟩ := hmt
    exact lv_bipush hexec hb hdg rfl (hK _ _ _ _ _ hd hu1 hu2 ls H locs hl hg)
  case sipush k =>
    have eln : len = 3 := Nat.eq_of_beq_eq_true hln
    subst eln
    simp only [dzMt, Bool.and_eq_true, decide_eq_true_eq] at hmt
    obtain ⟨rfl, rfl⟩ := hmt
    exact lv_sipush hexec hb hdg rfl (hK _ _ _ _ _ hd hu1 hu2 ls H locs hl hg)
  case lconst k =>
    have eln : len = 1 := Nat.eq_of_beq_eq_true hln
    subst eln
    simp only [dzMt, Bool.and_eq_true, decide_eq_true_eq] at hmt
    obtain ⟨rfl, rfl⟩ := hmt
    exact lv_lconst hexec hb hdg rfl (hK _ _ _ _ _ hd hu1 hu2 ls H locs hl hg)
  case ldc k =>
    have eln : len = 2 := Nat.eq_of_beq_eq_true hln
    subst eln
    simp only [dzMt, Bool.and_eq_true, decide_eq_true_eq] at hmt
    obtain ⟨⟨rfl, hkd⟩, hq⟩ := hmt
    have hw := zl_k_ok _ (dzQk_mem hq)
    cases v
    case int v =>
      simp only [dzKw] at hw
      rw [zt_oc_ok mid hmid] at hw
      exact lv_ldc hexec hb hown (hts _ hw) hdg (hK _ _ _ _ _ hd hu1 hu2 ls H locs hl hg)
    all_goals simp [dzKd] at hkd
  case ldc2_w k =>
    have eln : len = 3 := Nat.eq_of_beq_eq_true hln
    subst eln
    simp only [dzMt, Bool.and_eq_true, decide_eq_true_eq] at hmt
    obtain ⟨⟨rfl, hkd⟩, hq⟩ := hmt
    have hw := zl_k_ok _ (dzQk_mem hq)
    cases v
    case long v =>
      simp only [dzKw] at hw
      rw [zt_oc_ok mid hmid] at hw
      exact lv_ldc2 hexec hb hown (hts _ hw) hdg (hK _ _ _ _ _ hd hu1 hu2 ls H locs hl hg)
    all_goals simp [dzKd] at hkd
  case iload_n k =>
    have eln : len = 1 := Nat.eq_of_beq_eq_true hln
    subst eln
    simp only [dzMt, decide_eq_true_eq] at hmt
    subst hmt
    obtain ⟨x, hx1, hd⟩ := Option.bind_eq_some_iff.mp hd
    exact lv_iload_n hexec hb hdg rfl (dzLI_of hl hx1) (hK _ _ _ _ _ hd hu1 hu2 ls H locs hl hg)
  case iload k =>
    have eln : len = 2 := Nat.eq_of_beq_eq_true hln
    subst eln
    simp only [dzMt, decide_eq_true_eq] at hmt
    subst hmt
    obtain ⟨x, hx1, hd⟩ := Option.bind_eq_some_iff.mp hd
    exact lv_iload hexec hb hdg (dzLI_of hl hx1) (hK _ _ _ _ _ hd hu1 hu2 ls H locs hl hg)
  case lload_n k =>
    have eln : len = 1 := Nat.eq_of_beq_eq_true hln
    subst eln
    simp only [dzMt, decide_eq_true_eq] at hmt
    subst hmt
    obtain ⟨x, hx1, hd⟩ := Option.bind_eq_some_iff.mp hd
    exact lv_lload_n hexec hb hdg rfl (dzLJ_of hl hx1) (hK _ _ _ _ _ hd hu1 hu2 ls H locs hl hg)
  case lload k =>
    have eln : len = 2 := Nat.eq_of_beq_eq_true hln
    subst eln
    simp only [dzMt, decide_eq_true_eq] at hmt
    subst hmt
    obtain ⟨x, hx1, hd⟩ := Option.bind_eq_some_iff.mp hd
    exact lv_lload hexec hb hdg (dzLJ_of hl hx1) (hK _ _ _ _ _ hd hu1 hu2 ls H locs hl hg)
  case aload_n k =>
    have eln : len = 1 := Nat.eq_of_beq_eq_true hln
    subst eln
    simp only [dzMt, decide_eq_true_eq] at hmt
    subst hmt
    obtain ⟨x, hx1, hd⟩ := Option.bind_eq_some_iff.mp hd
    exact lv_aload_n hexec hb hdg rfl (dzLA_of hl hx1) (hK _ _ _ _ _ hd hu1 hu2 ls H locs hl hg)
  case aload k =>
    have eln : len = 2 := Nat.eq_of_beq_eq_true hln
    subst eln
    simp only [dzMt, decide_eq_true_eq] at hmt
    subst hmt
    obtain ⟨x, hx1, hd⟩ := Option.bind_eq_some_iff.mp hd
    exact lv_aload hexec hb hdg (dzLA_of hl hx1) (hK _ _ _ _ _ hd hu1 hu2 ls H locs hl hg)
  case istore_n k =>
    have eln : len = 1 := Nat.eq_of_beq_eq_true hln
    subst eln
    simp only [dzMt, Bool.and_eq_true, decide_eq_true_eq] at hmt
    obtain ⟨rfl, hlt⟩ := hmt
    obtain ⟨x, rr, eS, hd2⟩ := dz1I_of hd
    clear hd
    subst eS
    have hd := hd2
    clear hd2
    exact lv_istore_n hexec hb hdg rfl hl (Nat.le_of_ble_eq_true hlt) rfl (fun ls' hl' => hK _ _ _ _ _ hd hu1 hu2 ls' H locs (dzIn_has hl' rfl) hg)
  case istore k =>
    have eln : len = 2 := Nat.eq_of_beq_eq_true hln
    subst eln
    simp only [dzMt, Bool.and_eq_true, decide_eq_true_eq] at hmt
    obtain ⟨rfl, hlt⟩ := hmt
    obtain ⟨x, rr, eS, hd2⟩ := dz1I_of hd
    clear hd
    subst eS
    have hd := hd2
    clear hd2
    exact lv_istore hexec hb hdg hl (Nat.le_of_ble_eq_true hlt) rfl (fun ls' hl' => hK _ _ _ _ _ hd hu1 hu2 ls' H locs (dzIn_has hl' rfl) hg)
  case lstore_n k =>
    have eln : len = 1 := Nat.eq_of_beq_eq_true hln
    subst eln
    simp only [dzMt, Bool.and_eq_true, decide_eq_true_eq] at hmt
    obtain ⟨rfl, hlt⟩ := hmt
    obtain ⟨x, rr, eS, hd2⟩ := dz1J_of hd
    clear hd
    subst eS
    have hd := hd2
    clear hd2
    exact lv_lstore_n hexec hb hdg rfl hl (Nat.le_of_ble_eq_true hlt) rfl (fun ls' hl' => hK _ _ _ _ _ hd hu1 hu2 ls' H locs (dzIn_has hl' rfl) hg)
  case lstore k =>
    have eln : len = 2 := Nat.eq_of_beq_eq_true hln
    subst eln
    simp only [dzMt, Bool.and_eq_true, decide_eq_true_eq] at hmt
    obtain ⟨rfl, hlt⟩ := hmt
    obtain ⟨x, rr, eS, hd2⟩ := dz1J_of hd
    clear hd
    subst eS
    have hd := hd2
    clear hd2
    exact lv_lstore hexec hb hdg hl (Nat.le_of_ble_eq_true hlt) rfl (fun ls' hl' => hK _ _ _ _ _ hd hu1 hu2 ls' H locs (dzIn_has hl' rfl) hg)
  case astore_n k =>
    have eln : len = 1 := Nat.eq_of_beq_eq_true hln
    subst eln
    simp only [dzMt, Bool.and_eq_true, decide_eq_true_eq] at hmt
    obtain ⟨rfl, hlt⟩ := hmt
    obtain ⟨x, rr, eS, hd2⟩ := dz1A_of hd
    clear hd
    subst eS
    have hd := hd2
    clear hd2
    exact lv_astore_n hexec hb hdg rfl hl (Nat.le_of_ble_eq_true hlt) rfl (fun ls' hl' => hK _ _ _ _ _ hd hu1 hu2 ls' H locs (dzIn_has hl' rfl) hg)
  case astore k =>
    have eln : len = 2 := Nat.eq_of_beq_eq_true hln
    subst eln
    simp only [dzMt, Bool.and_eq_true, decide_eq_true_eq] at hmt
    obtain ⟨rfl, hlt⟩ := hmt
    obtain ⟨x, rr, eS, hd2⟩ := dz1A_of hd
    clear hd
    subst eS
    have hd := hd2
    clear hd2
    exact lv_astore hexec hb hdg hl (Nat.le_of_ble_eq_true hlt) rfl (fun ls' hl' => hK _ _ _ _ _ hd hu1 hu2 ls' H locs (dzIn_has hl' rfl) hg)
  case iinc k n =>
    have eln : len = 3 := Nat.eq_of_beq_eq_true hln
    subst eln
    simp only [dzMt, Bool.and_eq_true, decide_eq_true_eq] at hmt
    obtain ⟨⟨rfl, rfl⟩, hlt⟩ := hmt
    obtain ⟨x, hx1, hd⟩ := Option.bind_eq_some_iff.mp hd
    have hmem : (k, Value.int x) ∈ L := by
      unfold dzLI at hx1
      split at hx1
      · rename_i e9; cases hx1; exact dzFnd_mem e9
      · cases hx1
    obtain ⟨kx, hkx⟩ := List.getElem?_of_mem hmem
    exact lv_iinc hexec hb hdg hl hkx rfl (Nat.le_of_ble_eq_true hlt) rfl (fun ls' hl' => hK _ _ _ _ _ hd hu1 hu2 ls' H locs (dzIn_has hl' rfl) hg)
  case iadd =>
    have eln : len = 1 := Nat.eq_of_beq_eq_true hln
    subst eln
    simp only [dzMt, decide_eq_true_eq] at hmt
    subst hmt
    obtain ⟨x, y, rr, eS, hd2⟩ := dz2I_of hd
    clear hd
    subst eS
    have hd := hd2
    clear hd2
    exact lv_iadd hexec hb hdg (hK _ _ _ _ _ hd hu1 hu2 ls H locs hl hg)
  case isub =>
    have eln : len = 1 := Nat.eq_of_beq_eq_true hln
    subst eln
    simp only [dzMt, decide_eq_true_eq] at hmt
    subst hmt
    obtain ⟨x, y, rr, eS, hd2⟩ := dz2I_of hd
    clear hd
    subst eS
    have hd := hd2
    clear hd2
    exact lv_isub hexec hb hdg (hK _ _ _ _ _ hd hu1 hu2 ls H locs hl hg)
  case imul =>
    have eln : len = 1 := Nat.eq_of_beq_eq_true hln
    subst eln
    simp only [dzMt, decide_eq_true_eq] at hmt
    subst hmt
    obtain ⟨x, y, rr, eS, hd2⟩ := dz2I_of hd
    clear hd
    subst eS
    have hd := hd2
    clear hd2
    exact lv_imul hexec hb hdg (hK _ _ _ _ _ hd hu1 hu2 ls H locs hl hg)
  case iand =>
    have eln : len = 1 := Nat.eq_of_beq_eq_true hln
    subst eln
    simp only [dzMt, decide_eq_true_eq] at hmt
    subst hmt
    obtain ⟨x, y, rr, eS, hd2⟩ := dz2I_of hd
    clear hd
    subst eS
    have hd := hd2
    clear hd2
    exact lv_iand hexec hb hdg (hK _ _ _ _ _ hd hu1 hu2 ls H locs hl hg)
  case ior =>
    have eln : len = 1 := Nat.eq_of_beq_eq_true hln
    subst eln
    simp only [dzMt, decide_eq_true_eq] at hmt
    subst hmt
    obtain ⟨x, y, rr, eS, hd2⟩ := dz2I_of hd
    clear hd
    subst eS
    have hd := hd2
    clear hd2
    exact lv_ior hexec hb hdg (hK _ _ _ _ _ hd hu1 hu2 ls H locs hl hg)
  case ixor =>
    have eln : len = 1 := Nat.eq_of_beq_eq_true hln
    subst eln
    simp only [dzMt, decide_eq_true_eq] at hmt
    subst hmt
    obtain ⟨x, y, rr, eS, hd2⟩ := dz2I_of hd
    clear hd
    subst eS
    have hd := hd2
    clear hd2
    exact lv_ixor hexec hb hdg (hK _ _ _ _ _ hd hu1 hu2 ls H locs hl hg)
  case ishl =>
    have eln : len = 1 := Nat.eq_of_beq_eq_true hln
    subst eln
    simp only [dzMt, decide_eq_true_eq] at hmt
    subst hmt
    obtain ⟨x, y, rr, eS, hd2⟩ := dz2I_of hd
    clear hd
    subst eS
    have hd := hd2
    clear hd2
    exact lv_ishl hexec hb hdg (hK _ _ _ _ _ hd hu1 hu2 ls H locs hl hg)
  case ishr =>
    have eln : len = 1 := Nat.eq_of_beq_eq_true hln
    subst eln
    simp only [dzMt, decide_eq_true_eq] at hmt
    subst hmt
    obtain ⟨x, y, rr, eS, hd2⟩ := dz2I_of hd
    clear hd
    subst eS
    have hd := hd2
    clear hd2
    exact lv_ishr hexec hb hdg (hK _ _ _ _ _ hd hu1 hu2 ls H locs hl hg)
  case iushr =>
    have eln : len = 1 := Nat.eq_of_beq_eq_true hln
    subst eln
    simp only [dzMt, decide_eq_true_eq] at hmt
    subst hmt
    obtain ⟨x, y, rr, eS, hd2⟩ := dz2I_of hd
    clear hd
    subst eS
    have hd := hd2
    clear hd2
    exact lv_iushr hexec hb hdg rfl (hK _ _ _ _ _ hd hu1 hu2 ls H locs hl hg)
  case idiv =>
    have eln : len = 1 := Nat.eq_of_beq_eq_true hln
    subst eln
    simp only [dzMt, decide_eq_true_eq] at hmt
    subst hmt
    simp only [dz1] at hd
    obtain ⟨x, y, rr, eS, hd2⟩ := dz2I_of hd
    clear hd
    subst eS
    have hd := hd2
    clear hd2
    split at hd
    · cases hd
    · rename_i hne
      exact lv_idiv hexec hb hdg hne (hK _ _ _ _ _ hd hu1 hu2 ls H locs hl hg)
  case irem =>
    have eln : len = 1 := Nat.eq_of_beq_eq_true hln
    subst eln
    simp only [dzMt, decide_eq_true_eq] at hmt
    subst hmt
    simp only [dz1] at hd
    obtain ⟨x, y, rr, eS, hd2⟩ := dz2I_of hd
    clear hd
    subst eS
    have hd := hd2
    clear hd2
    split at hd
    · cases hd
    · rename_i hne
      exact lv_irem hexec hb hdg hne (hK _ _ _ _ _ hd hu1 hu2 ls H locs hl hg)
  case ineg =>
    have eln : len = 1 := Nat.eq_of_beq_eq_true hln
    subst eln
    simp only [dzMt, decide_eq_true_eq] at hmt
    subst hmt
    obtain ⟨x, rr, eS, hd2⟩ := dz1I_of hd
    clear hd
    subst eS
    have hd := hd2
    clear hd2
    exact lv_ineg hexec hb hdg (hK _ _ _ _ _ hd hu1 hu2 ls H locs hl hg)
  case ladd =>
    have eln : len = 1 := Nat.eq_of_beq_eq_true hln
    subst eln
    simp only [dzMt, decide_eq_true_eq] at hmt
    subst hmt
    obtain ⟨x, y, rr, eS, hd2⟩ := dz2J_of hd
    clear hd
    subst eS
    have hd := hd2
    clear hd2
    exact lv_ladd hexec hb hdg (hK _ _ _ _ _ hd hu1 hu2 ls H locs hl hg)
  case lsub =>
    have eln : len = 1 := Nat.eq_of_beq_eq_true hln
    subst eln
    simp only [dzMt, decide_eq_true_eq] at hmt
    subst hmt
    obtain ⟨x, y, rr, eS, hd2⟩ := dz2J_of hd
    clear hd
    subst eS
    have hd := hd2
    clear hd2
    exact lv_lsub hexec hb hdg (hK _ _ _ _ _ hd hu1 hu2 ls H locs hl hg)
  case lmul =>
    have eln : len = 1 := Nat.eq_of_beq_eq_true hln
    subst eln
    simp only [dzMt, decide_eq_true_eq] at hmt
    subst hmt
    obtain ⟨x, y, rr, eS, hd2⟩ := dz2J_of hd
    clear hd
    subst eS
    have hd := hd2
    clear hd2
    exact lv_lmul hexec hb hdg (hK _ _ _ _ _ hd hu1 hu2 ls H locs hl hg)
  case land =>
    have eln : len = 1 := Nat.eq_of_beq_eq_true hln
    subst eln
    simp only [dzMt, decide_eq_true_eq] at hmt
    subst hmt
    obtain ⟨x, y, rr, eS, hd2⟩ := dz2J_of hd
    clear hd
    subst eS
    have hd := hd2
    clear hd2
    exact lv_land hexec hb hdg (hK _ _ _ _ _ hd hu1 hu2 ls H locs hl hg)
  case lor =>
    have eln : len = 1 := Nat.eq_of_beq_eq_true hln
    subst eln
    simp only [dzMt, decide_eq_true_eq] at hmt
    subst hmt
    obtain ⟨x, y, rr, eS, hd2⟩ := dz2J_of hd
    clear hd
    subst eS
    have hd := hd2
    clear hd2
    exact lv_lor hexec hb hdg (hK _ _ _ _ _ hd hu1 hu2 ls H locs hl hg)
  case lxor =>
    have eln : len = 1 := Nat.eq_of_beq_eq_true hln
    subst eln
    simp only [dzMt, decide_eq_true_eq] at hmt
    subst hmt
    obtain ⟨x, y, rr, eS, hd2⟩ := dz2J_of hd
    clear hd
    subst eS
    have hd := hd2
    clear hd2
    exact lv_lxor hexec hb hdg (hK _ _ _ _ _ hd hu1 hu2 ls H locs hl hg)
  case ldiv =>
    have eln : len = 1 := Nat.eq_of_beq_eq_true hln
    subst eln
    simp only [dzMt, decide_eq_true_eq] at hmt
    subst hmt
    simp only [dz1] at hd
    obtain ⟨x, y, rr, eS, hd2⟩ := dz2J_of hd
    clear hd
    subst eS
    have hd := hd2
    clear hd2
    split at hd
    · cases hd
    · rename_i hne
      exact lv_ldiv hexec hb hdg hne (hK _ _ _ _ _ hd hu1 hu2 ls H locs hl hg)
  case lrem =>
    have eln : len = 1 := Nat.eq_of_beq_eq_true hln
    subst eln
    simp only [dzMt, decide_eq_true_eq] at hmt
    subst hmt
    simp only [dz1] at hd
    obtain ⟨x, y, rr, eS, hd2⟩ := dz2J_of hd
    clear hd
    subst eS
    have hd := hd2
    clear hd2
    split at hd
    · cases hd
    · rename_i hne
      exact lv_lrem hexec hb hdg hne (hK _ _ _ _ _ hd hu1 hu2 ls H locs hl hg)
  case lneg =>
    have eln : len = 1 := Nat.eq_of_beq_eq_true hln
    subst eln
    simp only [dzMt, decide_eq_true_eq] at hmt
    subst hmt
    obtain ⟨x, rr, eS, hd2⟩ := dz1J_of hd
    clear hd
    subst eS
    have hd := hd2
    clear hd2
    exact lv_lneg hexec hb hdg (hK _ _ _ _ _ hd hu1 hu2 ls H locs hl hg)
  case lshl =>
    have eln : len = 1 := Nat.eq_of_beq_eq_true hln
    subst eln
    simp only [dzMt, decide_eq_true_eq] at hmt
    subst hmt
    obtain ⟨x, y, rr, eS, hd2⟩ := dzJI_of hd
    clear hd
    subst eS
    have hd := hd2
    clear hd2
    exact lv_lshl hexec hb hdg rfl (hK _ _ _ _ _ hd hu1 hu2 ls H locs hl hg)
  case lshr =>
    have eln : len = 1 := Nat.eq_of_beq_eq_true hln
    subst eln
    simp only [dzMt, decide_eq_true_eq] at hmt
    subst hmt
    obtain ⟨x, y, rr, eS, hd2⟩ := dzJI_of hd
    clear hd
    subst eS
    have hd := hd2
    clear hd2
    exact lv_lshr hexec hb hdg rfl (hK _ _ _ _ _ hd hu1 hu2 ls H locs hl hg)
  case lushr =>
    have eln : len = 1 := Nat.eq_of_beq_eq_true hln
    subst eln
    simp only [dzMt, decide_eq_true_eq] at hmt
    subst hmt
    obtain ⟨x, y, rr, eS, hd2⟩ := dzJI_of hd
    clear hd
    subst eS
    have hd := hd2
    clear hd2
    exact lv_lushr hexec hb hdg rfl (hK _ _ _ _ _ hd hu1 hu2 ls H locs hl hg)
  case lcmp =>
    have eln : len = 1 := Nat.eq_of_beq_eq_true hln
    subst eln
    simp only [dzMt, decide_eq_true_eq] at hmt
    subst hmt
    obtain ⟨x, y, rr, eS, hd2⟩ := dz2J_of hd
    clear hd
    subst eS
    have hd := hd2
    clear hd2
    exact W.lcmp hexec hb hdg (hK _ _ _ _ _ hd hu1 hu2 ls H locs hl hg)
  case i2l =>
    have eln : len = 1 := Nat.eq_of_beq_eq_true hln
    subst eln
    simp only [dzMt, decide_eq_true_eq] at hmt
    subst hmt
    obtain ⟨x, rr, eS, hd2⟩ := dz1I_of hd
    clear hd
    subst eS
    have hd := hd2
    clear hd2
    exact lv_i2l hexec hb hdg rfl (hK _ _ _ _ _ hd hu1 hu2 ls H locs hl hg)
  case l2i =>
    have eln : len = 1 := Nat.eq_of_beq_eq_true hln
    subst eln
    simp only [dzMt, decide_eq_true_eq] at hmt
    subst hmt
    obtain ⟨x, rr, eS, hd2⟩ := dz1J_of hd
    clear hd
    subst eS
    have hd := hd2
    clear hd2
    exact lv_l2i hexec hb hdg rfl (hK _ _ _ _ _ hd hu1 hu2 ls H locs hl hg)
  case dup =>
    have eln : len = 1 := Nat.eq_of_beq_eq_true hln
    subst eln
    simp only [dzMt, decide_eq_true_eq] at hmt
    subst hmt
    simp only [dz1] at hd
    split at hd
    · exact lv_dup hexec hb hdg rfl (hK _ _ _ _ _ hd hu1 hu2 ls H locs hl hg)
    · exact lv_dup hexec hb hdg rfl (hK _ _ _ _ _ hd hu1 hu2 ls H locs hl hg)
    · cases hd
  case dup2 =>
    have eln : len = 1 := Nat.eq_of_beq_eq_true hln
    subst eln
    simp only [dzMt, decide_eq_true_eq] at hmt
    subst hmt
    simp only [dz1] at hd
    split at hd
    · exact lv_dup2_2 hexec hb hdg rfl (hK _ _ _ _ _ hd hu1 hu2 ls H locs hl hg)
    · exact lv_dup2_11 hexec hb hdg rfl rfl (hK _ _ _ _ _ hd hu1 hu2 ls H locs hl hg)
    · cases hd
  case pop =>
    have eln : len = 1 := Nat.eq_of_beq_eq_true hln
    subst eln
    simp only [dzMt, decide_eq_true_eq] at hmt
    subst hmt
    simp only [dz1] at hd
    split at hd
    · exact lv_pop hexec hb hdg rfl (hK _ _ _ _ _ hd hu1 hu2 ls H locs hl hg)
    · exact lv_pop hexec hb hdg rfl (hK _ _ _ _ _ hd hu1 hu2 ls H locs hl hg)
    · cases hd
  case ifCond o off =>
    have eln : len = 3 := Nat.eq_of_beq_eq_true hln
    subst eln
    simp only [dzMt, Bool.and_eq_true, decide_eq_true_eq] at hmt
    obtain ⟨rfl, ht⟩ := hmt
    cases o
    case eq =>
      simp only [dz1] at hd
      obtain ⟨x, rr, eS, hd2⟩ := dz1I_of hd
      clear hd
      subst eS
      have hd := hd2
      clear hd2
      refine lv_if_eq hexec hb hdg ht (fun hP => ?_) (fun hP => ?_)
      · rw [if_pos hP] at hd
        exact hK _ _ _ _ _ hd hu1 hu2 ls H locs hl hg
      · rw [if_neg hP] at hd
        exact hK _ _ _ _ _ hd hu1 hu2 ls H locs hl hg
    case ne =>
      simp only [dz1] at hd
      obtain ⟨x, rr, eS, hd2⟩ := dz1I_of hd
      clear hd
      subst eS
      have hd := hd2
      clear hd2
      refine lv_if_ne hexec hb hdg ht (fun hP => ?_) (fun hP => ?_)
      · rw [if_neg hP] at hd
        exact hK _ _ _ _ _ hd hu1 hu2 ls H locs hl hg
      · rw [if_pos hP] at hd
        exact hK _ _ _ _ _ hd hu1 hu2 ls H locs hl hg
    case lt =>
      simp only [dz1] at hd
      obtain ⟨x, rr, eS, hd2⟩ := dz1I_of hd
      clear hd
      subst eS
      have hd := hd2
      clear hd2
      refine lv_if_lt hexec hb hdg ht (fun hP => ?_) (fun hP => ?_)
      · rw [if_pos hP] at hd
        exact hK _ _ _ _ _ hd hu1 hu2 ls H locs hl hg
      · rw [if_neg hP] at hd
        exact hK _ _ _ _ _ hd hu1 hu2 ls H locs hl hg
    case ge =>
      simp only [dz1] at hd
      obtain ⟨x, rr, eS, hd2⟩ := dz1I_of hd
      clear hd
      subst eS
      have hd := hd2
      clear hd2
      refine lv_if_ge hexec hb hdg ht (fun hP => ?_) (fun hP => ?_)
      · rw [if_neg (Int32.not_lt.mpr hP)] at hd
        exact hK _ _ _ _ _ hd hu1 hu2 ls H locs hl hg
      · rw [if_pos (Int32.not_le.mp hP)] at hd
        exact hK _ _ _ _ _ hd hu1 hu2 ls H locs hl hg
    case gt =>
      simp only [dz1] at hd
      obtain ⟨x, rr, eS, hd2⟩ := dz1I_of hd
      clear hd
      subst eS
      have hd := hd2
      clear hd2
      refine lv_if_gt hexec hb hdg ht (fun hP => ?_) (fun hP => ?_)
      · rw [if_neg (Int32.not_le.mpr hP)] at hd
        exact hK _ _ _ _ _ hd hu1 hu2 ls H locs hl hg
      · rw [if_pos (Int32.not_lt.mp hP)] at hd
        exact hK _ _ _ _ _ hd hu1 hu2 ls H locs hl hg
    case le =>
      simp only [dz1] at hd
      obtain ⟨x, rr, eS, hd2⟩ := dz1I_of hd
      clear hd
      subst eS
      have hd := hd2
      clear hd2
      refine lv_if_le hexec hb hdg ht (fun hP => ?_) (fun hP => ?_)
      · rw [if_pos hP] at hd
        exact hK _ _ _ _ _ hd hu1 hu2 ls H locs hl hg
      · rw [if_neg hP] at hd
        exact hK _ _ _ _ _ hd hu1 hu2 ls H locs hl hg
  case if_icmp o off =>
    have eln : len = 3 := Nat.eq_of_beq_eq_true hln
    subst eln
    simp only [dzMt, Bool.and_eq_true, decide_eq_true_eq] at hmt
    obtain ⟨rfl, ht⟩ := hmt
    cases o
    case eq =>
      simp only [dz1] at hd
      obtain ⟨x, y, rr, eS, hd2⟩ := dz2I_of hd
      clear hd
      subst eS
      have hd := hd2
      clear hd2
      refine lv_icmp_eq hexec hb hdg ht (fun hP => ?_) (fun hP => ?_)
      · rw [if_pos hP] at hd
        exact hK _ _ _ _ _ hd hu1 hu2 ls H locs hl hg
      · rw [if_neg hP] at hd
        exact hK _ _ _ _ _ hd hu1 hu2 ls H locs hl hg
    case ne =>
      simp only [dz1] at hd
      obtain ⟨x, y, rr, eS, hd2⟩ := dz2I_of hd
      clear hd
      subst eS
      have hd := hd2
      clear hd2
      refine lv_icmp_ne hexec hb hdg ht (fun hP => ?_) (fun hP => ?_)
      · rw [if_neg hP] at hd
        exact hK _ _ _ _ _ hd hu1 hu2 ls H locs hl hg
      · rw [if_pos hP] at hd
        exact hK _ _ _ _ _ hd hu1 hu2 ls H locs hl hg
    case lt =>
      simp only [dz1] at hd
      obtain ⟨x, y, rr, eS, hd2⟩ := dz2I_of hd
      clear hd
      subst eS
      have hd := hd2
      clear hd2
      refine lv_icmp_lt hexec hb hdg ht (fun hP => ?_) (fun hP => ?_)
      · rw [if_pos hP] at hd
        exact hK _ _ _ _ _ hd hu1 hu2 ls H locs hl hg
      · rw [if_neg hP] at hd
        exact hK _ _ _ _ _ hd hu1 hu2 ls H locs hl hg
    case ge =>
      simp only [dz1] at hd
      obtain ⟨x, y, rr, eS, hd2⟩ := dz2I_of hd
      clear hd
      subst eS
      have hd := hd2
      clear hd2
      refine lv_icmp_ge hexec hb hdg ht (fun hP => ?_) (fun hP => ?_)
      · rw [if_neg (Int32.not_lt.mpr hP)] at hd
        exact hK _ _ _ _ _ hd hu1 hu2 ls H locs hl hg
      · rw [if_pos (Int32.not_le.mp hP)] at hd
        exact hK _ _ _ _ _ hd hu1 hu2 ls H locs hl hg
    case gt =>
      simp only [dz1] at hd
      obtain ⟨x, y, rr, eS, hd2⟩ := dz2I_of hd
      clear hd
      subst eS
      have hd := hd2
      clear hd2
      refine lv_icmp_gt hexec hb hdg ht (fun hP => ?_) (fun hP => ?_)
      · rw [if_neg (Int32.not_le.mpr hP)] at hd
        exact hK _ _ _ _ _ hd hu1 hu2 ls H locs hl hg
      · rw [if_pos (Int32.not_lt.mp hP)] at hd
        exact hK _ _ _ _ _ hd hu1 hu2 ls H locs hl hg
    case le =>
      simp only [dz1] at hd
      obtain ⟨x, y, rr, eS, hd2⟩ := dz2I_of hd
      clear hd
      subst eS
      have hd := hd2
      clear hd2
      refine lv_icmp_le hexec hb hdg ht (fun hP => ?_) (fun hP => ?_)
      · rw [if_pos hP] at hd
        exact hK _ _ _ _ _ hd hu1 hu2 ls H locs hl hg
      · rw [if_neg hP] at hd
        exact hK _ _ _ _ _ hd hu1 hu2 ls H locs hl hg
  case goto off =>
    have eln : len = 3 := Nat.eq_of_beq_eq_true hln
    subst eln
    simp only [dzMt, Bool.and_eq_true, decide_eq_true_eq] at hmt
    obtain ⟨rfl, ht⟩ := hmt
    exact lv_goto hexec hb hdg ht (hK _ _ _ _ _ hd hu1 hu2 ls H locs hl hg)
  case tableswitch dflt lo hi offs =>
    simp only [dzMt, Bool.and_eq_true, decide_eq_true_eq] at hmt
    obtain ⟨⟨⟨rfl, ht⟩, hhi⟩, hsw⟩ := hmt
    obtain ⟨hlen, hat⟩ := dzSwOk_at hsw
    obtain ⟨x, rr, eS, hd2⟩ := dz1I_of hd
    clear hd
    subst eS
    have hd := hd2
    clear hd2
    rcases dz_sw hd with ⟨k, q, h1, h2, h3⟩ | ⟨h1, h2⟩
    · obtain ⟨g1, o1, g2, g3⟩ := hat k q h1
      have hk : k < sw.length := (List.getElem?_eq_some_iff.mp h1).1
      have hxi : x.toInt = lo + k := by rw [h2]; exact g1
      refine lv_tableIn hexec hb hdg (by omega) (by omega) (off := o1) ?_ g3 (hK _ _ _ _ _ h3 hu1 hu2 ls H locs hl hg)
      rw [hxi, show (lo + (k : Int) - lo).toNat = k by omega, ← Array.getElem?_toList]
      exact g2
    · refine lv_tableOut hexec hb hdg ?_ ht (hK _ _ _ _ _ h2 hu1 hu2 ls H locs hl hg)
      apply Classical.byContradiction
      intro hno
      have hk : (x.toInt - lo).toNat < sw.length := by omega
      obtain ⟨g1, -⟩ := hat (x.toInt - lo).toNat sw[(x.toInt - lo).toNat] (List.getElem?_eq_getElem hk)
      refine h1 _ (List.getElem_mem hk) (Int32.toInt_inj.mp ?_)
      rw [g1]
      omega
  case iaload =>
    have eln : len = 1 := Nat.eq_of_beq_eq_true hln
    subst eln
    simp only [dzMt, decide_eq_true_eq] at hmt
    subst hmt
    obtain ⟨a, j, rr, eS, hd2⟩ := dzAI_of hd
    clear hd
    subst eS
    have hd := hd2
    clear hd2
    obtain ⟨x, hx1, hd⟩ := Option.bind_eq_some_iff.mp hd
    exact dz_iald hx0 hdg hg hx1 (hK _ _ _ _ _ hd hu1 hu2 ls H locs hl hg)
  case aaload =>
    have eln : len = 1 := Nat.eq_of_beq_eq_true hln
    subst eln
    simp only [dzMt, decide_eq_true_eq] at hmt
    subst hmt
    obtain ⟨a, j, rr, eS, hd2⟩ := dzAI_of hd
    clear hd
    subst eS
    have hd := hd2
    clear hd2
    obtain ⟨x, hx1, hd⟩ := Option.bind_eq_some_iff.mp hd
    exact dz_aald hx0 hdg hg hx1 (hK _ _ _ _ _ hd hu1 hu2 ls H locs hl hg)
  case iastore =>
    have eln : len = 1 := Nat.eq_of_beq_eq_true hln
    subst eln
    simp only [dzMt, decide_eq_true_eq] at hmt
    subst hmt
    obtain ⟨a, j, x, rr, eS, hd2⟩ := dzAII_of hd
    clear hd
    subst eS
    have hd := hd2
    clear hd2
    obtain ⟨h1, hx1, hd⟩ := Option.bind_eq_some_iff.mp hd
    exact dz_iast hx0 hdg hg hx1 (fun H1 locs1 hg1 => hK _ _ _ _ _ hd hu1 hu2 ls H1 locs1 hl hg1)
  case arraylength =>
    have eln : len = 1 := Nat.eq_of_beq_eq_true hln
    subst eln
    simp only [dzMt, decide_eq_true_eq] at hmt
    subst hmt
    obtain ⟨a, rr, eS, hd2⟩ := dz1A_of hd
    clear hd
    subst eS
    have hd := hd2
    clear hd2
    obtain ⟨x, hx1, hd⟩ := Option.bind_eq_some_iff.mp hd
    exact dz_alen hx0 hdg hg hx1 (hK _ _ _ _ _ hd hu1 hu2 ls H locs hl hg)
  case getfield k =>
    have eln : len = 3 := Nat.eq_of_beq_eq_true hln
    subst eln
    simp only [dzMt, Bool.and_eq_true, decide_eq_true_eq] at hmt
    obtain ⟨rfl, hm⟩ := hmt
    simp only [dz1] at hd
    obtain ⟨a, rr, eS, hd2⟩ := dz1A_of hd
    clear hd
    subst eS
    have hd := hd2
    clear hd2
    split at hd
    · obtain ⟨x, hx1, hd⟩ := Option.bind_eq_some_iff.mp hd
      obtain ⟨fs, hf, hv⟩ := dgI_of hx1
      exact dz_getf hx0 hm hdg hg hf hv (hK _ _ _ _ _ hd hu1 hu2 ls H locs hl hg)
    · obtain ⟨x, hx1, hd⟩ := Option.bind_eq_some_iff.mp hd
      obtain ⟨fs, hf, hv⟩ := dgJ_of hx1
      exact dz_getf hx0 hm hdg hg hf hv (hK _ _ _ _ _ hd hu1 hu2 ls H locs hl hg)
    · obtain ⟨x, hx1, hd⟩ := Option.bind_eq_some_iff.mp hd
      obtain ⟨fs, hf, hv⟩ := dgA_of hx1
      exact dz_getf hx0 hm hdg hg hf hv (hK _ _ _ _ _ hd hu1 hu2 ls H locs hl hg)
    · cases hd
  case putfield k =>
    have eln : len = 3 := Nat.eq_of_beq_eq_true hln
    subst eln
    simp only [dzMt, Bool.and_eq_true, decide_eq_true_eq] at hmt
    obtain ⟨⟨⟨rfl, hm⟩, htk⟩, hfin⟩ := hmt
    simp only [dz1] at hd
    obtain ⟨a, v1, rr, eS, hd2⟩ := dzAV_of hd
    clear hd
    subst eS
    have hd := hd2
    clear hd2
    split at hd
    · rename_i hkd
      obtain ⟨h1, hx1, hd⟩ := Option.bind_eq_some_iff.mp hd
      have hkd2 : dzKd v1 = dzPl pl 2 := Nat.eq_of_beq_eq_true hkd
      unfold dpF at hx1
      split at hx1
      · rename_i ci fs ea
        split at hx1
        · rename_i hc1
          obtain ⟨rfl, hl1⟩ := hc1
          cases hx1
          by_cases hk0 : dzKd v1 = 0
          · exfalso
            rw [hk0] at hkd2
            rw [← hkd2] at htk
            exact zTy_ne _ (dzQ4_mem hm) htk
          · exact dz_putf hx0 hm hdg hg ea hl1 (hkd2.trans htk.symm) hk0 hfin (fun H1 locs1 hg1 => hK _ _ _ _ _ hd hu1 hu2 ls H1 locs1 hl hg1)
        · cases hx1
      · cases hx1
    · cases hd
  case invokestatic k =>
    have eln : len = 3 := Nat.eq_of_beq_eq_true hln
    subst eln
    simp only [dzMt, Bool.and_eq_true, Bool.or_eq_true, decide_eq_true_eq] at hmt
    rcases hmt with (⟨⟨⟨rfl, hm⟩, hfr⟩, hlo⟩ | ⟨⟨⟨rfl, hm⟩, hfr⟩, hlo⟩) | ⟨⟨⟨⟨rfl, hlk⟩, hkd⟩, hpn⟩, hrk⟩
    · simp only [dz1] at hd
      split at hd
      · split at hd
        · rename_i hsum
          obtain ⟨h1, hx1, hd⟩ := Option.bind_eq_some_iff.mp hd
          exact dz_copy hx0 hm (Nat.le_of_ble_eq_true hfr) (Nat.le_of_ble_eq_true hlo) hdg (Nat.le_of_ble_eq_true hsum) hl.1 hg hx1 (fun H1 locs1 hg1 => hK _ _ _ _ _ hd hu1 hu2 ls H1 locs1 hl hg1)
        · cases hd
      · cases hd
    · simp only [dz1] at hd
      obtain ⟨x, y, rr, eS, hd2⟩ := dz2I_of hd
      clear hd
      subst eS
      have hd := hd2
      clear hd2
      split at hd
      · rename_i hsum
        have hw := zl_x_ok _ (dzQ2_mem hm)
        dsimp only at hw
        rw [zt_oc_ok mid hmid] at hw
        have hsum' := Nat.le_of_ble_eq_true hsum
        have hlo' := Nat.le_of_ble_eq_true hlo
        exact va_mmax hexec hb (by rw [hml]; exact hl.1.symm) hown (hts _ hw) (hts _ zs_mx.1) (hts _ zs_mx.2.1) (hts _ zs_mx.2.2) (Nat.le_of_ble_eq_true hfr) (by show _ + 13 ≤ dzLo mid; omega) hu1 hu2 hdg (hK _ _ _ _ _ hd hu1 hu2 ls H locs hl hg)
      · cases hd
    · have hlk' : dzLk mid k (dzPl pl 0) := by
        rcases hlk with h1 | h1
        · exact Or.inl (dzQ3_mem h1)
        · exact Or.inr (dzQ3_mem h1)
      have hkd' := Nat.eq_of_beq_eq_true hkd
      exact dz_inv hx0 hB hK hC hlk' (fun av hav => Or.inl ⟨hdg, hkd', by rw [hav]; exact hpn⟩) hd hu1 hu2 hl hg
  case invokevirtual k =>
    have eln : len = 3 := Nat.eq_of_beq_eq_true hln
    subst eln
    simp only [dzMt, Bool.and_eq_true, Bool.or_eq_true, decide_eq_true_eq] at hmt
    obtain ⟨⟨⟨⟨rfl, hlk⟩, hkd⟩, hpn⟩, hrk⟩ := hmt
    have hlk' := dzQ3_mem hlk
    have hkd' := Nat.eq_of_beq_eq_true hkd
    exact dz_inv hx0 hB hK hC (Or.inl hlk') (fun av hav => Or.inr (Or.inl ⟨hdg, hlk', hkd', by rw [hav]; exact hpn⟩)) hd hu1 hu2 hl hg
  case invokespecial k =>
    have eln : len = 3 := Nat.eq_of_beq_eq_true hln
    subst eln
    simp only [dzMt, Bool.and_eq_true, Bool.or_eq_true, decide_eq_true_eq] at hmt
    rcases hmt with ⟨⟨⟨rfl, hm⟩, hfr⟩, hlo⟩ | ⟨⟨⟨⟨⟨rfl, hlk⟩, hkd⟩, hpn⟩, hrk⟩, hret⟩
    · simp only [dz1] at hd
      obtain ⟨a, rr, eS, hd2⟩ := dz1A_of hd
      clear hd
      subst eS
      have hd := hd2
      clear hd2
      split at hd
      · rename_i hsum
        have hw := zl_i_ok _ (dzQ2_mem hm)
        dsimp only at hw
        rw [zt_oc_ok mid hmid] at hw
        have hsum' := Nat.le_of_ble_eq_true hsum
        have hlo' := Nat.le_of_ble_eq_true hlo
        exact W.objInit hexec hb hown (hts _ hw) (hts _ zs_oi.1) (hts _ zs_oi.2) (g := F0 m pc ls (.ref a :: rr)) rfl (by rw [hml]; exact hl.1) rfl hdg (Nat.le_of_ble_eq_true hfr) (by show 2 * 0 + _ + 12 ≤ dzLo mid; omega) (hK _ _ _ _ _ hd hu1 hu2 ls H locs hl hg)
      · cases hd
    · have hlk' : dzLk mid k (dzPl pl 0) := by
        rcases hlk with h1 | h1
        · exact Or.inl (dzQ3_mem h1)
        · exact Or.inr (dzQ3_mem h1)
      have hkd' := Nat.eq_of_beq_eq_true hkd
      exact dz_inv hx0 hB hK hC hlk' (fun av hav => Or.inr (Or.inr ⟨hdg, hkd', by rw [hav]; exact hpn, hret⟩)) hd hu1 hu2 hl hg
  case new k =>
    have eln : len = 3 := Nat.eq_of_beq_eq_true hln
    subst eln
    simp only [dzMt, Bool.and_eq_true, decide_eq_true_eq] at hmt
    obtain ⟨⟨rfl, hm⟩, hN⟩ := hmt
    simp only [dz1] at hd
    split at hd
    · rename_i hc1
      simp only [Bool.and_eq_true] at hc1
      cases hc : zCl[dzPl pl 0]? with
      | none => rw [hc] at hN; cases hN
      | some q =>
        obtain ⟨Cn, Tt, N⟩ := q
        rw [hc] at hN
        have eN : N = dzPl pl 1 := Nat.eq_of_beq_eq_true hN
        subst eN
        have g1 := Nat.le_of_ble_eq_true hc1.1
        have g2 := Nat.le_of_ble_eq_true hc1.2
        exact dz_new hx0 hB hm hc hdg g1 g2 hg (fun H1 hg1 => hK _ _ _ _ _ hd g1 g2 ls H1 locs hl hg1)
    · cases hd
  case newarray t =>
    have eln : len = 2 := Nat.eq_of_beq_eq_true hln
    subst eln
    simp only [dzMt, Bool.and_eq_true, decide_eq_true_eq] at hmt
    obtain ⟨rfl, rfl⟩ := hmt
    simp only [dz1] at hd
    obtain ⟨n, rr, eS, hd2⟩ := dz1I_of hd
    clear hd
    subst eS
    have hd := hd2
    clear hd2
    split at hd
    · rename_i hc1
      simp only [Bool.and_eq_true] at hc1
      obtain ⟨h1, hx1, hd⟩ := Option.bind_eq_some_iff.mp hd
      have g1 := Nat.le_of_ble_eq_true hc1.1
      have g2 := Nat.le_of_ble_eq_true hc1.2
      exact dz_newa hx0 hB hdg g1 g2 hg hx1 (fun H1 hg1 => hK _ _ _ _ _ hd g1 g2 ls H1 locs hl hg1)
    · cases hd
  case multianewarray k d =>
    have eln : len = 4 := Nat.eq_of_beq_eq_true hln
    subst eln
    simp only [dzMt, Bool.and_eq_true, decide_eq_true_eq] at hmt
    obtain ⟨⟨rfl, hd2⟩, hm⟩ := hmt
    have ed : d = 2 := Nat.eq_of_beq_eq_true hd2
    subst ed
    simp only [dz1] at hd
    obtain ⟨n, q, rr, eS, hd2⟩ := dz2I_of hd
    clear hd
    subst eS
    have hd := hd2
    clear hd2
    split at hd
    · rename_i hc1
      simp only [Bool.and_eq_true] at hc1
      obtain ⟨h1, hx1, hd⟩ := Option.bind_eq_some_iff.mp hd
      have g1 := Nat.le_of_ble_eq_true hc1.1
      have g2 := Nat.le_of_ble_eq_true hc1.2
      exact dz_newm hx0 hB hm hdg g1 g2 hg hx1 (fun H1 hg1 => hK _ _ _ _ _ hd g1 g2 ls H1 locs hl hg1)
    · cases hd
  case ireturn =>
    have eln : len = 1 := Nat.eq_of_beq_eq_true hln
    subst eln
    simp only [dzMt, Bool.and_eq_true, Bool.or_eq_true, decide_eq_true_eq] at hmt
    obtain ⟨rfl, hrt⟩ := hmt
    simp only [dz1] at hd
    split at hd
    · rename_i x
      rcases hrt with ⟨hrt, hp⟩ | ⟨hrt, hp⟩
      · rw [Nat.eq_of_beq_eq_true hp] at hd
        cases hd
        exact hE pc ls H locs u.1 u.2 hu1 hu2 (Or.inl hrt) hdg hg
      · rw [Nat.eq_of_beq_eq_true hp] at hd
        obtain ⟨y, hy, hd⟩ := Option.bind_eq_some_iff.mp hd
        cases hd
        have h01 : x = y ∧ (y = 0 ∨ y = 1) := by
          unfold dzB01 at hy
          split at hy
          · rename_i e0; cases hy; exact ⟨e0, Or.inl rfl⟩
          · split at hy
            · rename_i e0; cases hy; exact ⟨e0, Or.inr rfl⟩
            · cases hy
        obtain ⟨rfl, h01⟩ := h01
        exact hE pc ls H locs u.1 u.2 hu1 hu2 (Or.inr ⟨hrt, h01⟩) hdg hg
    · cases hd
  case lreturn =>
    have eln : len = 1 := Nat.eq_of_beq_eq_true hln
    subst eln
    simp only [dzMt, Bool.and_eq_true, decide_eq_true_eq] at hmt
    obtain ⟨rfl, hrt⟩ := hmt
    simp only [dz1] at hd
    split at hd
    · cases hd
      exact hE pc ls H locs u.1 u.2 hu1 hu2 hrt hdg hg
    · cases hd
  case areturn =>
    have eln : len = 1 := Nat.eq_of_beq_eq_true hln
    subst eln
    simp only [dzMt, Bool.and_eq_true, decide_eq_true_eq] at hmt
    obtain ⟨rfl, hrt⟩ := hmt
    simp only [dz1] at hd
    split at hd
    · cases hd
      exact hE pc ls H locs u.1 u.2 hu1 hu2 hrt hdg hg
    · cases hd
  case return_ =>
    have eln : len = 1 := Nat.eq_of_beq_eq_true hln
    subst eln
    simp only [dzMt, Bool.and_eq_true, decide_eq_true_eq] at hmt
    obtain ⟨rfl, hrt⟩ := hmt
    simp only [dz1] at hd
    split at hd
    · cases hd
      exact hE pc ls H locs u.1 u.2 hu1 hu2 hrt hdg hg
    · cases hd
  all_goals (simp [dzMt] at hmt)
end DZ4
