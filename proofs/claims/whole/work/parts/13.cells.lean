/-! calls, copies, new cells -/
section DZ2
variable {p : Program} {l : Launch} {e : Env} {s : State} {m : MethodId} {args : Array Value} {below : List Frame} {meth : Method} {c : Code}
variable {B : Nat} {D : va_G} {tI tA : ClassId} {mid : Nat} {Q : State → Prop}
set_option maxHeartbeats 2000000 in
theorem dz_copy (hx : dzCx D tI tA mid p s m args meth c) {pc k a b : Nat} {sp dp n : Int32} {ls : Array Slot} {rest : List Value} {H : Heap} {locs : List Loc} {u1 u2 : Nat} {h h1 : dzH} (hm : dzQ2 zl_a (dzOc mid) k = true) (hfr : 1 ≤ dzFr mid) (hlo : 40 ≤ dzLo mid) (hdg : decode (dzBy mid) pc = .ok (.invokestatic k, 3)) (hsum : (rest.map fun v => v.category).sum ≤ 8) (hsz : ls.size = dzMx mid) (hg : dzG B D tI tA s h H locs) (hf : dcp h a sp b dp n = some h1)
    (kk : ∀ (H1 : Heap) (locs1 : List Loc), dzG B D tI tA s h1 H1 locs1 → W p l e (dzRm mid) s m args below meth c H1 locs1 u1 u2 Q (F0 m (pc + 3) ls rest)) : W p l e (dzRm mid) s m args below meth c H locs u1 u2 Q (F0 m pc ls (.int n :: .int dp :: .ref b :: .int sp :: .ref a :: rest)) := by
  obtain ⟨hexec, hb, hml, hn, hown, hts, hK, hmid⟩ := hx
  have hw := zl_a_ok _ (dzQ2_mem hm)
  dsimp only at hw
  rw [zt_oc_ok mid hmid] at hw
  unfold dcp at hf
  split at hf
  · rename_i n0 f n1 g ea eb
    split at hf
    · rename_i hcond
      obtain ⟨h1', h2', h3', h4', h5'⟩ := hcond
      cases hf
      have hata := hg.1.2 a _ ea
      have hatb := hg.1.2 b _ eb
      have nn : ∀ z : Int32, ¬ z < 0 → z.toInt = (z.toNatClampNeg : Int) := by
        intro z hz
        have hz0 : (0 : Int) ≤ z.toInt := by
          have := Int32.not_lt.mp hz
          simpa using Int32.le_iff_toInt_le.mp this
        show z.toInt = ((z.toInt.toNat : Nat) : Int)
        omega
      intro T hT X
      have hc0 : H[a]? = some (vp_cell tI (n0, .inl f)) := hata.2
      have hc1 : H[b]? = some (vp_cell tI (n1, .inl g)) := hatb.2
      obtain ⟨-, k0, hk0, cm0, hkk0⟩ := (hK.1.2 0 _ rfl).1 n0 (fun j => .int (f j))
      obtain ⟨-, k1, hk1, cm1, hkk1⟩ := (hK.1.2 0 _ rfl).1 n1 (fun j => .int (g j))
      obtain ⟨vm', X', step⟩ := X.arraycopy hexec hown (hts _ hw) (hts _ zs_ac.1) (hts _ zs_ac.2.1) (hts _ zs_ac.2.2) (src := a) (dst := b) (cs := vp_cell tI (n0, .inl f)) (cd := vp_cell tI (n1, .inl g)) (srcPos := sp) (destPos := dp) (n := n) (by rw [hT]; exact hc0) (by rw [hT]; exact hc1)
        (fun _ h => by cases h) (fun _ h => by cases h) (fun h => by cases h) (fun h => by cases h) hk0 hk1 hkk0 hkk1 (by rfl) h1' h2' h3'
        (by rw [nn sp h1', nn n h3']; show ¬ _ > ((arrV tI n0 (fun j => .int (f j))).slots.size : Int); rw [arrV_size]; omega)
        (by rw [nn dp h2', nn n h3']; show ¬ _ > ((arrV tI n1 (fun j => .int (g j))).slots.size : Int); rw [arrV_size]; omega)
        (fun vm₁ _ i hi => by
          have e : (vp_cell tI (n0, .inl f)).slots.getD (sp.toNatClampNeg + i) .null = .int (f (sp.toNatClampNeg + i)) := by
            show (arrV tI n0 (fun j => .int (f j))).slots.getD _ _ = _
            rw [Array.getD_eq_getD_getElem?, arrV_read _ _ (by omega)]
            rfl
          refine ⟨?_, ?_⟩
          · rw [e]; rfl
          · rw [e]; exact trivial)
        (g := F0 m pc ls (.int n :: .int dp :: .ref b :: .int sp :: .ref a :: rest)) rfl (by rw [hml]; exact hsz) (rest := rest) rfl (by rw [hb]; exact hdg) hfr (by
          show 2 * 0 + (rest.map fun v => v.category).sum + (nativeFrameWords "java/lang/System" "arraycopy" 5 + 11) ≤ dzLo mid
          have e9 : nativeFrameWords "java/lang/System" "arraycopy" 5 ≤ 21 := by decide +kernel
          omega)
      have e1 : copied (vp_cell tI (n0, .inl f)) (vp_cell tI (n1, .inl g)) sp dp n = vp_cell tI (n1, .inl (va_cpy f g sp.toNatClampNeg dp.toNatClampNeg n.toNatClampNeg)) := va_copied (fun z => .int z) tI tI f g h4'
      rw [e1] at X' step
      have hl : b < H.size := (Array.getElem?_eq_some_iff.mp hc1).1
      have hheap : ((T.setVm vm').setCell b (vp_cell tI (n1, .inl (va_cpy f g sp.toNatClampNeg dp.toNatClampNeg n.toNatClampNeg)))).heap = H.setIfInBounds b (vp_cell tI (n1, .inl (va_cpy f g sp.toNatClampNeg dp.toNatClampNeg n.toNatClampNeg))) := by rw [← hT]; rfl
      have oq : ∀ q : Nat, q ≠ b → (H.setIfInBounds b (vp_cell tI (n1, .inl (va_cpy f g sp.toNatClampNeg dp.toNatClampNeg n.toNatClampNeg))))[q]? = H[q]? := fun q hq => by simp [Array.getElem?_setIfInBounds, Ne.symm hq]
      obtain ⟨t, a1, b1⟩ := kk _ _ ⟨hg.1.up (by simp) oq ⟨hatb.1, by simp [hl]⟩, by simp; exact hg.2.1, fun q hq => by rw [oq q (by have := hatb.1; omega)]; exact hg.2.2.1 q hq, fun q hq => by
        rcases List.mem_append.mp hq with h | h
        · exact hg.2.2.2 q h
        · obtain ⟨z, -, hz⟩ := List.mem_map.mp h
          rw [← hz]
          exact hatb.1⟩ _ hheap X'
      exact ⟨t, step t a1, b1⟩
    · cases hf
  · cases hf
set_option maxHeartbeats 2000000 in
theorem dz_new (hx : dzCx D tI tA mid p s m args meth c) {pc k ci N : Nat} {C : String} {Tt : u_T} {ls : Array Slot} {rest : List Value} {H : Heap} {locs : List Loc} {u1 u2 : Nat} {h : dzH} (hB : B ≤ s.heap.size) (hm : dzQ3 zl_o (dzOc mid) k ci = true) (hc : zCl[ci]? = some (C, Tt, N)) (hdg : decode (dzBy mid) pc = .ok (.new k, 3)) (hc1 : u1 + 1 ≤ dzMc mid) (hs1 : u2 + N ≤ dzMs mid) (hg : dzG B D tI tA s h H locs)
    (kk : ∀ (H1 : Heap), dzG B D tI tA s (dnO h ci) H1 locs → W p l e (dzRm mid) s m args below meth c H1 locs (u1 + 1) (u2 + N) Q (F0 m (pc + 3) ls (.ref h.1 :: rest))) : W p l e (dzRm mid) s m args below meth c H locs u1 u2 Q (F0 m pc ls rest) := by
  obtain ⟨hexec, hb, hml, hn, hown, hts, hK, hmid⟩ := hx
  have hw := zl_o_ok _ (dzQ3_mem hm)
  dsimp only at hw
  obtain ⟨hi1, hi2, hin, hnm, hty, hcn, hdecl, hdf⟩ := zu_all ci C Tt N hc
  rw [zt_oc_ok mid hmid, hcn] at hw
  have hKn := hK.1.1 ci _ hc
  have eh : h.1 = H.size := hg.1.1
  refine W.newcK hexec hb hown (hts _ hw) (hts _ hi1) (hts _ hi2) rfl hdg hc1 hs1 hKn.2.1 rfl fun H1 kC hkC e1 z1 o1 => ?_
  have h2 := kk H1 ⟨hg.1.more (by show h.1 + 1 = _; rw [z1, eh]) o1 (fun a x hx => ?_), by rw [z1]; have := hg.2.1; omega, fun q hq => ?_, hg.2.2.2⟩
  · rw [eh] at h2
    exact h2
  · by_cases ea : a = h.1
    · right
      have e2 : some (eO ci (dzDef ci)) = some x := by rw [← hx]; show _ = va_up h.2 h.1 _ a; rw [ea, va_up_self]
      cases e2
      rw [ea, eh]
      exact ⟨by have := hg.2.1; omega, _, hc, (u_born (zTy ci) hts hin hKn hkC e1 hty).to hdf⟩
    · left
      have e2 : h.2 a = some x := by rw [← hx]; exact (va_up_ne _ _ ea).symm
      exact ⟨e2, (hg.1.2 a x e2).lt⟩
  · rw [o1 q (by have := hg.2.1; omega)]
    exact hg.2.2.1 q hq
set_option maxHeartbeats 2000000 in
theorem dz_newa (hx : dzCx D tI tA mid p s m args meth c) {pc : Nat} {n : Int32} {ls : Array Slot} {rest : List Value} {H : Heap} {locs : List Loc} {u1 u2 : Nat} {h h1 : dzH} (hB : B ≤ s.heap.size) (hdg : decode (dzBy mid) pc = .ok (.newarray .int, 2)) (hc1 : u1 + 1 ≤ dzMc mid) (hs1 : u2 + n.toNatClampNeg ≤ dzMs mid) (hg : dzG B D tI tA s h H locs) (hf : dnI h n = some h1)
    (kk : ∀ (H1 : Heap), dzG B D tI tA s h1 H1 locs → W p l e (dzRm mid) s m args below meth c H1 locs (u1 + 1) (u2 + n.toNatClampNeg) Q (F0 m (pc + 2) ls (.ref h.1 :: rest))) : W p l e (dzRm mid) s m args below meth c H locs u1 u2 Q (F0 m pc ls (.int n :: rest)) := by
  obtain ⟨hexec, hb, hml, hn, hown, hts, hK, hmid⟩ := hx
  have eh : h.1 = H.size := hg.1.1
  unfold dnI at hf
  split at hf
  · rename_i hcond
    cases hf
    have e9 : n.toNatClampNeg * componentBytes (newarray.typeOf .int) ≤ 536870912 := by
      have e8 : componentBytes (newarray.typeOf .int) = 4 := by decide
      rw [e8]
      omega
    have hai : (Cond.arrayClass (newarray.typeOf .int)).before args s = true := hts _ zs_ai
    refine va_newaK (atype := .int) hexec hb hai rfl hdg rfl hcond.1 rfl e9 hc1 hs1 rfl fun H1 cA e1 z1 o1 hAr hNm => ?_
    have ec : cA = tI := Option.some.inj (hNm.symm.trans (hK.1.2 0 _ rfl).2)
    subst ec
    have h2 := kk H1 ⟨hg.1.more (by show h.1 + 1 = _; rw [z1, eh]) o1 (fun a x hx => ?_), by rw [z1]; have := hg.2.1; omega, fun q hq => ?_, hg.2.2.2⟩
    · rw [eh] at h2
      exact h2
    · by_cases ea : a = h.1
      · right
        have e2 : some (eI n.toNatClampNeg (fun _ => 0)) = some x := by rw [← hx]; show _ = va_up h.2 h.1 _ a; rw [ea, va_up_self]
        cases e2
        rw [ea, eh]
        exact ⟨by have := hg.2.1; omega, e1⟩
      · left
        have e2 : h.2 a = some x := by rw [← hx]; exact (va_up_ne _ _ ea).symm
        exact ⟨e2, (hg.1.2 a x e2).lt⟩
    · rw [o1 q (by have := hg.2.1; omega)]
      exact hg.2.2.1 q hq
  · cases hf
theorem dz_outer (c : ClassId) (N h0 : Nat) : ∀ i : Nat, Jvm.Free.Multi.outerC c N h0 i = arrV c N (fun j => va_rf (if j < i then some (h0 + 1 + j) else none))
  | 0 => by
    show ({ cls := c, slots := Array.replicate N .null, vm := .none } : Cell) = _
    rw [arrV_new]
    exact congrArg (arrV c N) (funext fun j => by simp [va_rf])
  | i + 1 => by
    show (Jvm.Free.Multi.outerC c N h0 i).setSlot i (.ref (h0 + 1 + i)) = _
    rw [dz_outer c N h0 i, arrV_store]
    refine congrArg (arrV c N) (funext fun j => ?_)
    rcases Nat.lt_trichotomy j i with hj | hj | hj
    · simp [updV, Nat.ne_of_lt hj, hj, Nat.lt_succ_of_lt hj]
    · subst hj
      simp [updV, va_rf]
    · simp [updV, Nat.ne_of_gt hj, show ¬ j < i by omega, show ¬ j < i + 1 by omega]
theorem arrV_congr {c : ClassId} {n : Nat} {f g : Nat → Value} (h : ∀ i, i < n → f i = g i) : arrV c n f = arrV c n g := by
  unfold arrV
  congr 1
  apply Array.ext
  · simp
  · intro i h1 h2
    simp at h1
    simp [h i h1]
set_option maxHeartbeats 2000000 in
theorem dz_newm (hx : dzCx D tI tA mid p s m args meth c) {pc k : Nat} {n q : Int32} {ls : Array Slot} {rest : List Value} {H : Heap} {locs : List Loc} {u1 u2 : Nat} {h h1 : dzH} (hB : B ≤ s.heap.size) (hm : dzQ2 zl_m (dzOc mid) k = true) (hdg : decode (dzBy mid) pc = .ok (.multianewarray k 2, 4)) (hc1 : u1 + (1 + n.toNatClampNeg) ≤ dzMc mid) (hs1 : u2 + (n.toNatClampNeg + n.toNatClampNeg * q.toNatClampNeg) ≤ dzMs mid) (hg : dzG B D tI tA s h H locs) (hf : dnM h n q = some h1)
    (kk : ∀ (H1 : Heap), dzG B D tI tA s h1 H1 locs → W p l e (dzRm mid) s m args below meth c H1 locs (u1 + (1 + n.toNatClampNeg)) (u2 + (n.toNatClampNeg + n.toNatClampNeg * q.toNatClampNeg)) Q (F0 m (pc + 4) ls (.ref h.1 :: rest))) : W p l e (dzRm mid) s m args below meth c H locs u1 u2 Q (F0 m pc ls (.int q :: .int n :: rest)) := by
  obtain ⟨hexec, hb, hml, hn, hown, hts, hK, hmid⟩ := hx
  have hw := zl_m_ok _ (dzQ2_mem hm)
  dsimp only at hw
  rw [zt_oc_ok mid hmid] at hw
  have eh : h.1 = H.size := hg.1.1
  unfold dnM at hf
  split at hf
  · rename_i hcond
    cases hf
    intro T hT Xs
    have e9 : q.toNatClampNeg * componentBytes .int ≤ 536870912 := by
      have e8 : componentBytes .int = 4 := by decide
      rw [e8]
      omega
    have hov : (Cond.arrayOver (.array .int)).before args s = true := over_moved (Vm.Alike.refl _) hK.2.2
    obtain ⟨vm₁, cA, comp, -, fA, fC, hO, -, X', step⟩ := Xs.multianewarray2F (ty := .int) hexec hown (hts _ hw) hov (hts _ zs_ai) (g := F0 m pc ls (.int q :: .int n :: rest)) rfl (by rw [hb]; exact hdg) rfl hcond.1 hcond.2.1 (by omega) e9 (by omega) rfl rfl hc1 hs1
    have ecA : cA = tA := Option.some.inj (fA.symm.trans (hK.1.2 1 _ rfl).2)
    have ecI : comp = tI := Option.some.inj (fC.symm.trans (hK.1.2 0 _ rfl).2)
    subst ecA; subst ecI
    generalize hF : Jvm.Free.Multi.fill (T.setVm vm₁) cA comp n.toNatClampNeg q.toNatClampNeg (defaultValue .int) n.toNatClampNeg = F at X' step
    have hTh : (T.setVm vm₁).heap = H := hT
    obtain ⟨f1, f2, -, -⟩ := Jvm.Free.Multi.fill_facts (T.setVm vm₁) cA comp n.toNatClampNeg q.toNatClampNeg (defaultValue .int) n.toNatClampNeg
    rw [hF, hTh] at f1 f2
    have hold : ∀ x : Nat, x < H.size → F.heap[x]? = H[x]? := fun x hx => by
      have := Jvm.Free.Multi.fill_old (T.setVm vm₁) cA comp n.toNatClampNeg q.toNatClampNeg (defaultValue .int) (a := x) (by rw [hTh]; exact hx) n.toNatClampNeg
      rw [hF, hTh] at this
      exact this
    have hrow : ∀ j : Nat, j < n.toNatClampNeg → F.heap[H.size + 1 + j]? = some (vp_cell comp (q.toNatClampNeg, .inl (fun _ => 0))) := fun j hj => by
      have := Jvm.Free.Multi.fill_inner (T.setVm vm₁) cA comp n.toNatClampNeg q.toNatClampNeg (defaultValue .int) n.toNatClampNeg j hj
      rw [hF, hTh] at this
      rw [this, vp_cell_i, ← arrV_new]
      rfl
    have hout : F.heap[H.size]? = some (vp_cell cA (n.toNatClampNeg, .inr (.inr (.inr (.inr (fun i => some (H.size + 1 + i))))))) := by
      rw [f2, vp_cell_q, dz_outer]
      exact congrArg some (arrV_congr (fun i hi => by simp [hi]))
    have hgF : dzG B D comp cA s (h.1 + 1 + n.toNatClampNeg, fun q_1 => if q_1 = h.1 then some (eA n.toNatClampNeg (fun i => some (h.1 + 1 + i))) else if h.1 < q_1 ∧ q_1 ≤ h.1 + n.toNatClampNeg then some (eI q.toNatClampNeg (fun _ => 0)) else h.2 q_1) F.heap locs := by
      refine ⟨hg.1.more (by show h.1 + 1 + n.toNatClampNeg = _; rw [f1, eh]) hold (fun a x hx => ?_), by rw [f1]; have := hg.2.1; omega, fun x hx => ?_, hg.2.2.2⟩
      · dsimp only at hx
        by_cases ea : a = h.1
        · right
          rw [if_pos ea] at hx
          cases hx
          rw [ea, eh]
          exact ⟨by have := hg.2.1; omega, hout⟩
        · rw [if_neg ea] at hx
          by_cases eb : h.1 < a ∧ a ≤ h.1 + n.toNatClampNeg
          · right
            rw [if_pos eb] at hx
            cases hx
            refine ⟨by have := hg.2.1; omega, ?_⟩
            have := hrow (a - H.size - 1) (by omega)
            rw [show H.size + 1 + (a - H.size - 1) = a by omega] at this
            exact this
          · left
            rw [if_neg eb] at hx
            exact ⟨hx, (hg.1.2 a x hx).lt⟩
      · rw [hold x (by have := hg.2.1; omega)]
        exact hg.2.2.1 x hx
    obtain ⟨t, a1, b1⟩ := kk F.heap hgF F rfl (by rw [Nat.add_assoc, Nat.add_assoc] at X'; exact X')
    refine ⟨t, step t ?_, b1⟩
    rw [eh, ← hT] at a1
    exact a1
  · cases hf
end DZ2
