/-! one instruction -/
theorem dzQ2_mem {l : List (Nat × Nat)} {a b : Nat} (h : dzQ2 l a b = true) : (a, b) ∈ l := by
  obtain ⟨⟨q1, q2⟩, hq, h⟩ := List.any_eq_true.mp h
  simp only [Bool.and_eq_true] at h
  have e1 : q1 = a := Nat.eq_of_beq_eq_true h.1
  have e2 : q2 = b := Nat.eq_of_beq_eq_true h.2
  subst e1; subst e2
  exact hq
theorem dzQ3_mem {l : List (Nat × Nat × Nat)} {a b c : Nat} (h : dzQ3 l a b c = true) : (a, b, c) ∈ l := by
  obtain ⟨⟨q1, q2, q3⟩, hq, h⟩ := List.any_eq_true.mp h
  simp only [Bool.and_eq_true] at h
  have e1 : q1 = a := Nat.eq_of_beq_eq_true h.1.1
  have e2 : q2 = b := Nat.eq_of_beq_eq_true h.1.2
  have e3 : q3 = c := Nat.eq_of_beq_eq_true h.2
  subst e1; subst e2; subst e3
  exact hq
theorem dzQ4_mem {l : List (Nat × Nat × Nat × Nat)} {a b c d : Nat} (h : dzQ4 l a b c d = true) : (a, b, c, d) ∈ l := by
  obtain ⟨⟨q1, q2, q3, q4⟩, hq, h⟩ := List.any_eq_true.mp h
  simp only [Bool.and_eq_true] at h
  have e1 : q1 = a := Nat.eq_of_beq_eq_true h.1.1.1
  have e2 : q2 = b := Nat.eq_of_beq_eq_true h.1.1.2
  have e3 : q3 = c := Nat.eq_of_beq_eq_true h.1.2
  have e4 : q4 = d := Nat.eq_of_beq_eq_true h.2
  subst e1; subst e2; subst e3; subst e4
  exact hq
theorem dzQk_mem {l : List (Nat × Nat × Value)} {a b : Nat} {v : Value} (h : dzQk l a b v = true) : (a, b, v) ∈ l := by
  obtain ⟨⟨q1, q2, q3⟩, hq, h⟩ := List.any_eq_true.mp h
  simp only [Bool.and_eq_true, decide_eq_true_eq] at h
  have e1 : q1 = a := Nat.eq_of_beq_eq_true h.1.1
  have e2 : q2 = b := Nat.eq_of_beq_eq_true h.1.2
  have e3 : q3 = v := h.2
  subst e1; subst e2; subst e3
  exact hq
theorem dzTk_of : ∀ {n : Nat} {acc S av r : List Value}, dzTk n acc S = some (av, r) → ∃ t : List Value, av = t ++ acc ∧ S = t.reverse ++ r ∧ t.length = n
  | 0, acc, S, av, r, h => by cases h; exact ⟨[], rfl, rfl, rfl⟩
  | n + 1, acc, [], av, r, h => by cases h
  | n + 1, acc, v :: S, av, r, h => by
    obtain ⟨t, h1, h2, h3⟩ := dzTk_of (n := n) (acc := v :: acc) h
    exact ⟨t ++ [v], by rw [h1, List.append_assoc]; rfl, by rw [h2]; simp, by simp [h3]⟩
theorem dgV_of {h : dzH} {a ci k : Nat} {v : Value} (hd : dgV h a ci k = some v) : ∃ fs : List Value, h.2 a = some (eO ci fs) ∧ fs[k]? = some v := by
  unfold dgV at hd
  split at hd
  · rename_i c fs e
    split at hd
    · rename_i e2
      subst e2
      exact ⟨fs, e, hd⟩
    · cases hd
  · cases hd
theorem dgI_of {h : dzH} {a ci k : Nat} {x : Int32} (hd : dgI h a ci k = some x) : ∃ fs : List Value, h.2 a = some (eO ci fs) ∧ fs[k]? = some (.int x) := by
  unfold dgI at hd
  split at hd
  · rename_i e; cases hd; exact dgV_of e
  · cases hd
theorem dgJ_of {h : dzH} {a ci k : Nat} {x : Int64} (hd : dgJ h a ci k = some x) : ∃ fs : List Value, h.2 a = some (eO ci fs) ∧ fs[k]? = some (.long x) := by
  unfold dgJ at hd
  split at hd
  · rename_i e; cases hd; exact dgV_of e
  · cases hd
theorem dgA_of {h : dzH} {a ci k : Nat} {x : Nat} (hd : dgA h a ci k = some x) : ∃ fs : List Value, h.2 a = some (eO ci fs) ∧ fs[k]? = some (.ref x) := by
  unfold dgA at hd
  split at hd
  · rename_i e; cases hd; exact dgV_of e
  · cases hd
theorem va_P.one {D : va_G} {cl : List vw_C} {q : Nat × va_E} {H : Heap} (h : va_at D cl q H) : va_P D cl [q] H := by
  intro k x hx
  cases k with
  | zero => cases hx; exact h
  | succ k => cases hx
/-- the frame of a method mid -/
def dzCx (D : va_G) (tI tA : ClassId) (mid : Nat) (p : Program) (s : State) (m : MethodId) (args : Array Value) (meth : Method) (c : Code) : Prop :=
  p.tables.exec = Jvm.exec ∧ c.code = dzBy mid ∧ c.maxLocals = dzMx mid ∧ ((dzY mid).name = "<init>" → meth.name = "<init>") ∧ s.vm.findClass (dzY mid).cls = some m.cls ∧ (∀ w ∈ dzGW, w.before args s = true) ∧ dzKn D tI tA s ∧ mid < dzN
abbrev dzRm (mid : Nat) : Room := { frames := dzFr mid, cells := dzMc mid, slots := dzMs mid, locals := dzLo mid }
def dzWs (mid : Nat) : List Cond := Cond.code (dzY mid) (dzBy mid) (dzMx mid) (dzRt mid) :: dzGW
/-- an answer of the kind that the method gives -/
def dzRok (mid : Nat) (r : Option Value) : Prop := match r with
  | none => dzRt mid = none
  | some (.int v) => dzRt mid = some .int ∨ (dzRt mid = some .boolean ∧ (v = 0 ∨ v = 1))
  | some (.long _) => dzRt mid = some .long
  | some (.ref _) => dzRk mid = 3
  | _ => False
def dzRi (r : Option Value) : dzIns := match r with
  | none => .return_
  | some (.int _) => .ireturn
  | some (.long _) => .lreturn
  | _ => .areturn
section DZ1
variable {p : Program} {l : Launch} {e : Env} {s : State} {m : MethodId} {args : Array Value} {below : List Frame} {meth : Method} {c : Code}
variable {B : Nat} {D : va_G} {tI tA : ClassId} {mid : Nat} {Q : State → Prop} {r : Option Value} {h' : dzH}
/-- what comes behind an instruction is right -/
def dzOkK (p : Program) (l : Launch) (e : Env) (s : State) (m : MethodId) (args : Array Value) (below : List Frame) (meth : Method) (c : Code) (B : Nat) (D : va_G) (tI tA : ClassId) (mid : Nat) (Q : State → Prop) (r : Option Value) (h' : dzH) (K : dzKt) : Prop :=
  ∀ (pc : Nat) (L : dzL) (S : List Value) (u : Nat × Nat) (h : dzH), K pc L S u h = some (r, h') → u.1 ≤ dzMc mid → u.2 ≤ dzMs mid → ∀ (ls : Array Slot) (H : Heap) (locs : List Loc), lv_has ls (dzMx mid) L → dzG B D tI tA s h H locs → W p l e (dzRm mid) s m args below meth c H locs u.1 u.2 Q (F0 m pc ls S)
/-- a call is right -/
def dzOkC (l : Launch) (B : Nat) (D : va_G) (tI tA : ClassId) (C : dzCt) : Prop := ∀ (cid : Nat) (av : List Value) (h1 : dzH) (q : dzR), C cid av h1 = some q → cid < dzN → dzKn0 cid ≠ 9 →
  Met l (dzY cid) (dzWs cid) (dzRm cid) (dzPr B D tI tA av h1) (dzPo B D tI tA q.1 q.2) (dzMc cid) (dzMs cid) (fun x => B ≤ x) ∧ ∀ ci, dzRcv cid = some ci → ∃ (a : Nat) (as : List Value) (fs : List Value), av = .ref a :: as ∧ h1.2 a = some (eO ci fs)
/-- the end is right -/
def dzOkE (p : Program) (l : Launch) (e : Env) (s : State) (m : MethodId) (args : Array Value) (below : List Frame) (meth : Method) (c : Code) (B : Nat) (D : va_G) (tI tA : ClassId) (mid : Nat) (Q : State → Prop) (r : Option Value) (h' : dzH) : Prop :=
  ∀ (pc : Nat) (ls : Array Slot) (H : Heap) (locs : List Loc) (k n : Nat), k ≤ dzMc mid → n ≤ dzMs mid → dzRok mid r → decode (dzBy mid) pc = .ok (dzRi r, 1) → dzG B D tI tA s h' H locs → W p l e (dzRm mid) s m args below meth c H locs k n Q (F0 m pc ls r.toList)
set_option maxHeartbeats 2000000 in
theorem dz_getf (hx : dzCx D tI tA mid p s m args meth c) {pc k ci kf a : Nat} {ls : Array Slot} {rest : List Value} {H : Heap} {locs : List Loc} {u1 u2 : Nat} {h : dzH} {fs : List Value} {v : Value} (hm : dzQ4 zl_f (dzOc mid) k ci kf = true) (hdg : decode (dzBy mid) pc = .ok (.getfield k, 3)) (hg : dzG B D tI tA s h H locs) (hf : h.2 a = some (eO ci fs)) (hv : fs[kf]? = some v)
    (kk : W p l e (dzRm mid) s m args below meth c H locs u1 u2 Q (F0 m (pc + 3) ls (v :: rest))) : W p l e (dzRm mid) s m args below meth c H locs u1 u2 Q (F0 m pc ls (.ref a :: rest)) := by
  obtain ⟨hexec, hb, hml, hn, hown, hts, hK, hmid⟩ := hx
  have hmem := dzQ4_mem hm
  have hlt := zl_f_lt _ hmem
  have hw := zl_f_ok _ hmem
  dsimp only at hlt
  cases hc : zCl[ci]? with
  | none => rw [hc] at hlt; cases hlt
  | some q =>
    obtain ⟨C, T, N⟩ := q
    rw [hc] at hlt
    have hk : kf < N := of_decide_eq_true hlt
    obtain ⟨u1', u2', hin, hnm, hty, hcn, hdecl, hdf⟩ := zu_all ci C T N hc
    have hw2 : dzFw (dzOc mid, k, ci, kf) = Cond.fieldLink (dzCn (dzOc mid)) k (T kf).1 (T kf).2.1 (T kf).2.2.1 := by
      unfold dzFw
      dsimp only
      rw [hc]
    rw [hw2, zt_oc_ok mid hmid] at hw
    exact va_get (D := D) (cl := zCl) (tys := [(tI, .int), (tA, .array .int)]) (ws := [(a, .inr (ci, fs))]) hexec hb hts hin hown hK.1 (va_P.one (hg.1.2 a _ hf).2) 0 rfl hc kf hk (hts _ hw) (fun _ h9 => h9) hv hdg kk
set_option maxHeartbeats 2000000 in
theorem dz_putf (hx : dzCx D tI tA mid p s m args meth c) {pc k ci kf a : Nat} {ls : Array Slot} {rest : List Value} {H : Heap} {locs : List Loc} {u1 u2 : Nat} {h : dzH} {fs : List Value} {v : Value} (hm : dzQ4 zl_f (dzOc mid) k ci kf = true) (hdg : decode (dzBy mid) pc = .ok (.putfield k, 3)) (hg : dzG B D tI tA s h H locs) (hf : h.2 a = some (eO ci fs)) (hl : kf < fs.length)
    (hkd : dzKd v = dzTk0 (zTy ci kf)) (hk0 : dzKd v ≠ 0)
    (hfin : (match zCl[ci]? with
      | some (_, T, _) => !(T kf).2.2.2 || (decide ((dzY mid).name = "<init>") && Nat.beq ci (dzOc mid))
      | none => false) = true)
    (kk : ∀ (H1 : Heap) (locs1 : List Loc), dzG B D tI tA s (h.1, va_up h.2 a (some (eO ci (fs.set kf v)))) H1 locs1 → W p l e (dzRm mid) s m args below meth c H1 locs1 u1 u2 Q (F0 m (pc + 3) ls rest)) : W p l e (dzRm mid) s m args below meth c H locs u1 u2 Q (F0 m pc ls (v :: .ref a :: rest)) := by
  obtain ⟨hexec, hb, hml, hn, hown, hts, hK, hmid⟩ := hx
  have hmem := dzQ4_mem hm
  have hlt := zl_f_lt _ hmem
  have hw := zl_f_ok _ hmem
  dsimp only at hlt
  cases hc : zCl[ci]? with
  | none => rw [hc] at hlt; cases hlt
  | some q =>
    obtain ⟨C, T, N⟩ := q
    rw [hc] at hlt hfin
    dsimp only at hfin
    have hk : kf < N := of_decide_eq_true hlt
    obtain ⟨u1', u2', hin, hnm, hty, hcn, hdecl, hdf⟩ := zu_all ci C T N hc
    have hw2 : dzFw (dzOc mid, k, ci, kf) = Cond.fieldLink (dzCn (dzOc mid)) k (T kf).1 (T kf).2.1 (T kf).2.2.1 := by
      unfold dzFw
      dsimp only
      rw [hc]
    rw [hw2, zt_oc_ok mid hmid] at hw
    have hlink := hts _ hw
    have hd := hty kf hk
    have hnf : narrow (zTy ci kf) v = v ∧ fits (zTy ci kf) v = true := by
      generalize zTy ci kf = ty at hkd
      cases v <;> cases ty <;> simp [dzKd, dzTk0] at hkd hk0 <;> exact ⟨rfl, rfl⟩
    have hat := (hg.1.2 a _ hf)
    obtain ⟨r0, h1, cell, q1, q2, q3, q4⟩ := hat.2
    have hr : r0 = (C, T, N) := Option.some.inj (h1.symm.trans hc)
    subst hr
    have hap := va_apart (own := (dzY mid).cls) hts hin (zTy ci) hty hnm hK.1 hc
    obtain ⟨hS, hfc, kC, hkC, hkind⟩ := hK.1.1 ci _ hc
    obtain ⟨cf, kf', fi, f, hi, hsl⟩ := hS kf hk
    have hst := (u_facts hfc hkC (u_lays hts hin hk) hi).1
    have hlay := hts _ (hin _ (u_in_lay hk))
    unfold u_lay at hlay
    cases hfl : (T kf).2.2.2 with
    | false =>
      rw [if_neg (by rw [hfl]; decide)] at hlay
      have h6 := u_store hfc hkC hkind hlay hi hd hnf.1 hnf.2
      refine W.putK hexec hb (f := f) ⟨hown, hlink, ⟨_, _, _, hi⟩, hst⟩ (by rw [q2]; exact h6) q1 q3 (by rw [hsl]; exact k2_hasslot (q4 kf hk)) rfl rfl hdg fun H' e1 e2 e3 => ?_
      rw [hsl] at e1 ⊢
      exact kk H' _ (hg.put e2 e3 hat.1 ⟨hat.1, _, hc, t_OB.to (V := updV (vp_V fs) kf v) ⟨_, e1, q2, q3, t_set q4 hap hk v⟩ (fun j _ => vp_updV_set hl v j)⟩)
    | true =>
      rw [if_pos hfl] at hlay
      rw [hfl] at hfin
      simp only [Bool.not_true, Bool.false_or, Bool.and_eq_true, decide_eq_true_eq] at hfin
      have eci : ci = dzOc mid := Nat.eq_of_beq_eq_true hfin.2
      have hT1 : (T kf).1 = (dzY mid).cls := by rw [hdecl kf hk, ← zt_oc_ok mid hmid, ← eci]; exact hcn.symm
      have hcf : m.cls = cf := by
        obtain ⟨_, _, c', _, _, _, -, -, hf', -, -, -, hown2, -⟩ := Cond.laysFinal_spec hlay
        have e1 : c' = cf := by have := hi.symm.trans hf'; simp at this; exact this.1.symm
        rw [hT1] at hown2
        rw [← e1]; exact Option.some.inj (hown.symm.trans hown2)
      have h6 := u_fits hfc hkC hkind (Or.inr hlay) hi hd hnf.1 hnf.2
      refine W.putFinK hexec hb hown hlink hi hst hcf (hn hfin.1) (by rw [q2]; exact h6) q1 q3 (by rw [hsl]; exact k2_hasslot (q4 kf hk)) rfl rfl hdg fun H' e1 e2 e3 => ?_
      rw [hsl] at e1 ⊢
      exact kk H' _ (hg.put e2 e3 hat.1 ⟨hat.1, _, hc, t_OB.to (V := updV (vp_V fs) kf v) ⟨_, e1, q2, q3, t_set q4 hap hk v⟩ (fun j _ => vp_updV_set hl v j)⟩)
theorem dz_iald (hx : dzCx D tI tA mid p s m args meth c) {pc a : Nat} {j x : Int32} {ls : Array Slot} {rest : List Value} {H : Heap} {locs : List Loc} {u1 u2 : Nat} {h : dzH} (hdg : decode (dzBy mid) pc = .ok (.iaload, 1)) (hg : dzG B D tI tA s h H locs) (hf : drI h a j = some x)
    (kk : W p l e (dzRm mid) s m args below meth c H locs u1 u2 Q (F0 m (pc + 1) ls (.int x :: rest))) : W p l e (dzRm mid) s m args below meth c H locs u1 u2 Q (F0 m pc ls (.int j :: .ref a :: rest)) := by
  obtain ⟨hexec, hb, hml, hn, hown, hts, hK, hmid⟩ := hx
  unfold drI at hf
  split at hf
  · rename_i n f ea
    split at hf
    · rename_i hin
      cases hf
      exact va_iald (D := D) (cl := zCl) (tys := [(tI, .int), (tA, .array .int)]) (ws := [(a, .inl (tI, n, .inl f))]) hexec hb hK.1 (va_P.one (hg.1.2 a _ ea).2) 0 0 rfl rfl hin hdg kk
    · cases hf
  · rename_i n f ea
    split at hf
    · rename_i hin
      cases hf
      obtain ⟨scr, g1, g2, g3, g4, g5⟩ := (hg.1.2 a _ ea).2
      have hlt : j.toNatClampNeg < n := Nat.not_le.mp fun q => hin (Or.inr q)
      exact W.iald (v := .int (f j.toNatClampNeg)) hexec hb g1 g2 g3 (by rw [g4]; exact hin) (g5 _ hlt) rfl rfl hdg kk
    · cases hf
  · cases hf
theorem dz_aald (hx : dzCx D tI tA mid p s m args meth c) {pc a x : Nat} {j : Int32} {ls : Array Slot} {rest : List Value} {H : Heap} {locs : List Loc} {u1 u2 : Nat} {h : dzH} (hdg : decode (dzBy mid) pc = .ok (.aaload, 1)) (hg : dzG B D tI tA s h H locs) (hf : drA h a j = some x)
    (kk : W p l e (dzRm mid) s m args below meth c H locs u1 u2 Q (F0 m (pc + 1) ls (.ref x :: rest))) : W p l e (dzRm mid) s m args below meth c H locs u1 u2 Q (F0 m pc ls (.int j :: .ref a :: rest)) := by
  obtain ⟨hexec, hb, hml, hn, hown, hts, hK, hmid⟩ := hx
  unfold drA at hf
  split at hf
  · rename_i n f ea
    split at hf
    · rename_i hin
      have hlt : j.toNatClampNeg < n := Nat.not_le.mp fun q => hin (Or.inr q)
      exact W.aald (v := .ref x) (ty := .array .int) hexec hb (hg.1.2 a _ ea).2 ((hK.1.2 1 _ rfl).1 n (fun j => va_rf (f j))) rfl (fun q => by cases q) (by show ¬ (j < 0 ∨ (arrV _ _ _).slots.size ≤ _); rw [arrV_size]; exact hin) (by show (arrV _ _ _).slots[_]? = _; rw [arrV_read _ _ hlt, hf]; rfl) rfl rfl hdg kk
    · cases hf
  · cases hf
theorem dz_alen (hx : dzCx D tI tA mid p s m args meth c) {pc a : Nat} {x : Int32} {ls : Array Slot} {rest : List Value} {H : Heap} {locs : List Loc} {u1 u2 : Nat} {h : dzH} (hdg : decode (dzBy mid) pc = .ok (.arraylength, 1)) (hg : dzG B D tI tA s h H locs) (hf : dln h a = some x)
    (kk : W p l e (dzRm mid) s m args below meth c H locs u1 u2 Q (F0 m (pc + 1) ls (.int x :: rest))) : W p l e (dzRm mid) s m args below meth c H locs u1 u2 Q (F0 m pc ls (.ref a :: rest)) := by
  obtain ⟨hexec, hb, hml, hn, hown, hts, hK, hmid⟩ := hx
  unfold dln at hf
  split at hf
  · rename_i n f ea
    cases hf
    exact va_alen (D := D) (cl := zCl) (tys := [(tI, .int), (tA, .array .int)]) (ws := [(a, .inl (tI, n, .inl f))]) hexec hb hK.1 (va_P.one (hg.1.2 a _ ea).2) 0 0 rfl rfl rfl hdg kk
  · rename_i n f ea
    cases hf
    exact va_alen (D := D) (cl := zCl) (tys := [(tI, .int), (tA, .array .int)]) (ws := [(a, .inl (tA, n, .inr (.inr (.inr (.inr f)))))]) hexec hb hK.1 (va_P.one (hg.1.2 a _ ea).2) 0 1 rfl rfl rfl hdg kk
  · rename_i n f ea
    cases hf
    obtain ⟨scr, g1, g2, g3, g4, g5⟩ := (hg.1.2 a _ ea).2
    exact W.alen (n := Int32.ofNat n) hexec hb g1 g2 (by rw [g4] <;> rfl) rfl rfl hdg kk
  · cases hf
theorem dz_iast (hx : dzCx D tI tA mid p s m args meth c) {pc a : Nat} {j x : Int32} {ls : Array Slot} {rest : List Value} {H : Heap} {locs : List Loc} {u1 u2 : Nat} {h h1 : dzH} (hdg : decode (dzBy mid) pc = .ok (.iastore, 1)) (hg : dzG B D tI tA s h H locs) (hf : dwI h a j x = some h1)
    (kk : ∀ (H1 : Heap) (locs1 : List Loc), dzG B D tI tA s h1 H1 locs1 → W p l e (dzRm mid) s m args below meth c H1 locs1 u1 u2 Q (F0 m (pc + 1) ls rest)) : W p l e (dzRm mid) s m args below meth c H locs u1 u2 Q (F0 m pc ls (.int x :: .int j :: .ref a :: rest)) := by
  obtain ⟨hexec, hb, hml, hn, hown, hts, hK, hmid⟩ := hx
  unfold dwI at hf
  split at hf
  · rename_i n f ea
    split at hf
    · rename_i hin
      cases hf
      have hat := hg.1.2 a _ ea
      refine W.iast hexec hb hat.2 ((hK.1.2 0 _ rfl).1 n (fun j => .int (f j))) (fun q => by cases q) (by show ¬ (j < 0 ∨ (arrV _ _ _).slots.size ≤ _); rw [arrV_size]; exact hin) rfl rfl hdg fun H1 e1 z oq => ?_
      refine kk H1 _ (hg.put z oq hat.1 ⟨hat.1, ?_⟩)
      rw [e1, vp_cell_i, vp_cell_i, arrV_store]
      congr 2
      funext q
      by_cases hq : q = j.toNatClampNeg
      · subst hq
        simp [updV, upd]
      · simp [updV, upd, hq]
    · cases hf
  · cases hf
end DZ1
