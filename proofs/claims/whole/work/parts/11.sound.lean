/-! soundness: what the deep interpreter answers, the machine does -/
theorem dz1I_of {S : List Value} {k : Int32 → List Value → Option dzR} {q : dzR} (h : dz1I S k = some q) : ∃ x r, S = .int x :: r ∧ k x r = some q := by
  unfold dz1I at h
  split at h
  · exact ⟨_, _, rfl, h⟩
  · cases h
theorem dz1J_of {S : List Value} {k : Int64 → List Value → Option dzR} {q : dzR} (h : dz1J S k = some q) : ∃ x r, S = .long x :: r ∧ k x r = some q := by
  unfold dz1J at h
  split at h
  · exact ⟨_, _, rfl, h⟩
  · cases h
theorem dz1A_of {S : List Value} {k : Nat → List Value → Option dzR} {q : dzR} (h : dz1A S k = some q) : ∃ x r, S = .ref x :: r ∧ k x r = some q := by
  unfold dz1A at h
  split at h
  · exact ⟨_, _, rfl, h⟩
  · cases h
theorem dz2I_of {S : List Value} {k : Int32 → Int32 → List Value → Option dzR} {q : dzR} (h : dz2I S k = some q) : ∃ x y r, S = .int y :: .int x :: r ∧ k x y r = some q := by
  unfold dz2I at h
  split at h
  · exact ⟨_, _, _, rfl, h⟩
  · cases h
theorem dz2J_of {S : List Value} {k : Int64 → Int64 → List Value → Option dzR} {q : dzR} (h : dz2J S k = some q) : ∃ x y r, S = .long y :: .long x :: r ∧ k x y r = some q := by
  unfold dz2J at h
  split at h
  · exact ⟨_, _, _, rfl, h⟩
  · cases h
theorem dzJI_of {S : List Value} {k : Int64 → Int32 → List Value → Option dzR} {q : dzR} (h : dzJI S k = some q) : ∃ x y r, S = .int y :: .long x :: r ∧ k x y r = some q := by
  unfold dzJI at h
  split at h
  · exact ⟨_, _, _, rfl, h⟩
  · cases h
theorem dzAI_of {S : List Value} {k : Nat → Int32 → List Value → Option dzR} {q : dzR} (h : dzAI S k = some q) : ∃ x y r, S = .int y :: .ref x :: r ∧ k x y r = some q := by
  unfold dzAI at h
  split at h
  · exact ⟨_, _, _, rfl, h⟩
  · cases h
theorem dzAII_of {S : List Value} {k : Nat → Int32 → Int32 → List Value → Option dzR} {q : dzR} (h : dzAII S k = some q) : ∃ x y z r, S = .int z :: .int y :: .ref x :: r ∧ k x y z r = some q := by
  unfold dzAII at h
  split at h
  · exact ⟨_, _, _, _, rfl, h⟩
  · cases h
theorem dzAV_of {S : List Value} {k : Nat → Value → List Value → Option dzR} {q : dzR} (h : dzAV S k = some q) : ∃ x v r, S = v :: .ref x :: r ∧ k x v r = some q := by
  unfold dzAV at h
  split at h
  · exact ⟨_, _, _, rfl, h⟩
  · cases h
-- locals
theorem dzFnd_mem {α : Type} : ∀ {l : List (Nat × α)} {i : Nat} {a : α}, dzFnd l i = some a → (i, a) ∈ l
  | [], _, _, h => by cases h
  | (k, b) :: r, i, a, h => by
    unfold dzFnd at h
    split at h
    · rename_i hb
      have e : k = i := Nat.eq_of_beq_eq_true hb
      cases h
      subst e
      exact List.mem_cons_self
    · exact List.mem_cons_of_mem _ (dzFnd_mem h)
theorem dzLI_of {ls : Array Slot} {n : Nat} {L : dzL} {i : Nat} {x : Int32} (hl : lv_has ls n L) (h : dzLI L i = some x) : ls[i]? = some (.val (.int x)) := by
  unfold dzLI at h
  split at h
  · rename_i e
    cases h
    exact hl.2.2 _ (dzFnd_mem e)
  · cases h
theorem dzLJ_of {ls : Array Slot} {n : Nat} {L : dzL} {i : Nat} {x : Int64} (hl : lv_has ls n L) (h : dzLJ L i = some x) : ls[i]? = some (.val (.long x)) := by
  unfold dzLJ at h
  split at h
  · rename_i e
    cases h
    exact hl.2.2 _ (dzFnd_mem e)
  · cases h
theorem dzLA_of {ls : Array Slot} {n : Nat} {L : dzL} {i : Nat} {x : Nat} (hl : lv_has ls n L) (h : dzLA L i = some x) : ls[i]? = some (.val (.ref x)) := by
  unfold dzLA at h
  split at h
  · rename_i e
    cases h
    exact hl.2.2 _ (dzFnd_mem e)
  · cases h
theorem dzIn_mem {i : Nat} {v : Value} : ∀ {L : dzL} {q : Nat × Value}, q ∈ dzIn i v L → q ∈ (i, v) :: L
  | [], q, h => h
  | (j, w) :: r, q, h => by
    unfold dzIn at h
    split at h
    · exact h
    · rcases List.mem_cons.mp h with h | h
      · exact List.mem_cons_of_mem _ (List.mem_cons.mpr (Or.inl h))
      · rcases List.mem_cons.mp (dzIn_mem h) with h | h
        · exact List.mem_cons.mpr (Or.inl h)
        · exact List.mem_cons_of_mem _ (List.mem_cons_of_mem _ h)
theorem lv_has.less {ls : Array Slot} {n : Nat} {L L' : dzL} (h : lv_has ls n L) (hs : ∀ q, q ∈ L' → q ∈ L) : lv_has ls n L' := ⟨h.1, h.2.1, fun q hq => h.2.2 q (hs q hq)⟩
-- the abstract heap and the machine's
def dzKn (D : va_G) (tI tA : ClassId) (U : State) : Prop :=
  va_K D zCl [(tI, .int), (tA, .array .int)] U ∧ (∀ q ∈ zl_n, va_Nw (dzNw q) U) ∧ (Cond.arrayOver (.array .int)).before #[] U = true
theorem dzKn.warm {D : va_G} {tI tA : ClassId} {s U : State} (hW : s.WarmedH U.vm) (h : dzKn D tI tA s) : dzKn D tI tA U :=
  ⟨va_K.moved hW.alike h.1, fun q hq => va_Nw.warmM hW (h.2.1 q hq), over_moved hW.alike h.2.2⟩
theorem dzKn.same {D : va_G} {tI tA : ClassId} {s U : State} (hv : s.vm = U.vm) (h : dzKn D tI tA s) : dzKn D tI tA U :=
  ⟨va_K.moved (by rw [hv]; exact Vm.Alike.refl _) h.1, fun q hq => va_Nw.same rfl hv (h.2.1 q hq), over_moved (by rw [hv]; exact Vm.Alike.refl _) h.2.2⟩
def dzAt (B : Nat) (D : va_G) (tI tA : ClassId) (s : State) (H : Heap) (a : Nat) : dzE → Prop
  | .inl (n, f) => B ≤ a ∧ H[a]? = some (vp_cell tI (n, .inl f))
  | .inr (.inl (n, f)) => B ≤ a ∧ H[a]? = some (vp_cell tA (n, .inr (.inr (.inr (.inr f)))))
  | .inr (.inr (.inl o)) => B ≤ a ∧ va_at D zCl (a, .inr o) H
  | .inr (.inr (.inr (n, f))) => a < B ∧ va_X a n f s H
theorem dzAt.kept {B : Nat} {D : va_G} {tI tA : ClassId} {s : State} {H H1 : Heap} {a : Nat} {x : dzE} (h : dzAt B D tI tA s H a x) (hq : H1[a]? = H[a]?) : dzAt B D tI tA s H1 a x := by
  rcases x with ⟨n, f⟩ | ⟨n, f⟩ | o | ⟨n, f⟩
  · exact ⟨h.1, hq.trans h.2⟩
  · exact ⟨h.1, hq.trans h.2⟩
  · exact ⟨h.1, h.2.kept hq⟩
  · exact ⟨h.1, h.2.kept hq⟩
theorem dzAt.moved {B : Nat} {D : va_G} {tI tA : ClassId} {s U : State} {H : Heap} {a : Nat} {x : dzE} (hv : s.vm.Alike U.vm) (h : dzAt B D tI tA s H a x) : dzAt B D tI tA U H a x := by
  rcases x with ⟨n, f⟩ | ⟨n, f⟩ | o | ⟨n, f⟩
  · exact h
  · exact h
  · exact h
  · exact ⟨h.1, h.2.moved hv⟩
theorem dzAt.lt {B : Nat} {D : va_G} {tI tA : ClassId} {s : State} {H : Heap} {a : Nat} {x : dzE} (h : dzAt B D tI tA s H a x) : a < H.size := by
  rcases x with ⟨n, f⟩ | ⟨n, f⟩ | o | ⟨n, f⟩
  · exact (Array.getElem?_eq_some_iff.mp h.2).1
  · exact (Array.getElem?_eq_some_iff.mp h.2).1
  · exact h.2.lt
  · obtain ⟨scr, h1, -⟩ := h.2
    exact (Array.getElem?_eq_some_iff.mp h1).1
def dzHo (B : Nat) (D : va_G) (tI tA : ClassId) (h : dzH) (s : State) (H : Heap) : Prop := h.1 = H.size ∧ ∀ a x, h.2 a = some x → dzAt B D tI tA s H a x
theorem dzHo.moved {B : Nat} {D : va_G} {tI tA : ClassId} {h : dzH} {s U : State} {H : Heap} (hv : s.vm.Alike U.vm) (ho : dzHo B D tI tA h s H) : dzHo B D tI tA h U H := ⟨ho.1, fun a x hx => (ho.2 a x hx).moved hv⟩
/-- one cell is written -/
theorem dzHo.up {B : Nat} {D : va_G} {tI tA : ClassId} {h : dzH} {s : State} {H H1 : Heap} {a : Nat} {x : dzE} (ho : dzHo B D tI tA h s H) (hz : H1.size = H.size) (oq : ∀ q : Nat, q ≠ a → H1[q]? = H[q]?) (hx : dzAt B D tI tA s H1 a x) : dzHo B D tI tA (h.1, va_up h.2 a (some x)) s H1 := by
  refine ⟨ho.1.trans hz.symm, fun q y hy => ?_⟩
  by_cases e : q = a
  · subst e
    have e2 : (some x : Option dzE) = some y := by rw [← hy]; exact (va_up_self _ _ _).symm
    cases e2
    exact hx
  · have e2 : h.2 q = some y := by rw [← hy]; exact (va_up_ne _ _ e).symm
    exact (ho.2 q y e2).kept (oq q e)
/-- cells are made -/
theorem dzHo.more {B : Nat} {D : va_G} {tI tA : ClassId} {h h1 : dzH} {s : State} {H H1 : Heap} (ho : dzHo B D tI tA h s H) (hz : h1.1 = H1.size) (oq : ∀ q : Nat, q < H.size → H1[q]? = H[q]?) (hn : ∀ a x, h1.2 a = some x → (h.2 a = some x ∧ a < H.size) ∨ dzAt B D tI tA s H1 a x) : dzHo B D tI tA h1 s H1 := by
  refine ⟨hz, fun a x hx => ?_⟩
  rcases hn a x hx with ⟨e, hlt⟩ | e
  · exact (ho.2 a x e).kept (oq a hlt)
  · exact e
/-- what a walk keeps: the abstract heap is the machine's; nothing below B has changed -/
def dzG (B : Nat) (D : va_G) (tI tA : ClassId) (s : State) (h : dzH) (H : Heap) (locs : List Loc) : Prop := dzHo B D tI tA h s H ∧ s.heap.size ≤ H.size ∧ (∀ q : Nat, q < B → H[q]? = s.heap[q]?) ∧ ∀ q ∈ locs, B ≤ q.base
theorem dzG.put {B : Nat} {D : va_G} {tI tA : ClassId} {s : State} {h : dzH} {H H1 : Heap} {locs : List Loc} {a k : Nat} {x : dzE} (hg : dzG B D tI tA s h H locs) (hz : H1.size = H.size) (oq : ∀ q : Nat, q ≠ a → H1[q]? = H[q]?) (hB : B ≤ a) (hx : dzAt B D tI tA s H1 a x) : dzG B D tI tA s (h.1, va_up h.2 a (some x)) H1 (locs ++ [⟨a, k⟩]) := by
  refine ⟨hg.1.up hz oq hx, by rw [hz]; exact hg.2.1, fun q hq => ?_, fun q hq => ?_⟩
  · rw [oq q (by omega)]
    exact hg.2.2.1 q hq
  · rcases List.mem_append.mp hq with h1 | h1
    · exact hg.2.2.2 q h1
    · rw [List.mem_singleton.mp h1]
      exact hB
def dzPr (B : Nat) (D : va_G) (tI tA : ClassId) (av : List Value) (h : dzH) : Array Value → State → Prop := va_Pc av (fun U => dzKn D tI tA U ∧ dzHo B D tI tA h U U.heap ∧ B ≤ U.heap.size)
def dzPo (B : Nat) (D : va_G) (tI tA : ClassId) (r : Option Value) (h' : dzH) : Array Value → State → Outcome → State → Prop := fun _ st oc t => oc = .returned r ∧ dzHo B D tI tA h' t t.heap ∧ st.heap.size ≤ t.heap.size ∧ ∀ q : Nat, q < B → t.heap[q]? = st.heap[q]?
theorem dzPr.blind {B : Nat} {D : va_G} {tI tA : ClassId} {av : List Value} {h : dzH} : FrameBlind (dzPr B D tI tA av h) := by
  intro a U g mk hp
  obtain ⟨e, hK, ho, hB⟩ := hp
  exact ⟨e, hK.same rfl, ho.moved (Vm.Alike.refl U.vm), hB⟩
section DZC
variable {p : Program} {l : Launch} {e : Env} {R : Room} {s : State} {m : MethodId} {args : Array Value} {below : List Frame} {meth : Method} {c : Code}
theorem dz_cont {B : Nat} {D : va_G} {tI tA : ClassId} {H : Heap} {locs : List Loc} {cells slots mc ms pc : Nat} {ls : Array Slot} {st0 rest : List Value} {a : Array Value} {r : Option Value} {h h' : dzH} {Q : State → Prop}
    (hr : va_Run p l e R s m args below meth c H locs cells slots mc ms (F0 m pc ls st0) rest (dzPo B D tI tA r h' a) (fun q => B ≤ q)) (hg : dzG B D tI tA s h H locs)
    (kk : ∀ (H1 : Heap) (locs1 : List Loc), dzG B D tI tA s h' H1 locs1 → W p l e R s m args below meth c H1 locs1 (cells + mc) (slots + ms) Q (F0 m (pc + 3) ls (r.toList ++ rest))) : W p l e R s m args below meth c H locs cells slots Q (F0 m pc ls st0) := by
  intro T hT X
  obtain ⟨v, st₀, t, T', L, h0, X', hL, e1, e2, ⟨hv, ho, hz, hk⟩, st⟩ := hr T hT X
  cases hv
  rw [h0] at hz hk
  obtain ⟨t2, a1, b1⟩ := kk T'.heap (locs ++ L) ⟨by rw [e1]; exact ho.moved (by rw [← e2]; exact X'.warmed.alike.symm), by rw [e1]; exact Nat.le_trans hg.2.1 hz, fun q hq => by rw [e1, hk q hq]; exact hg.2.2.1 q hq, fun q hq => by
      rcases List.mem_append.mp hq with h1 | h1
      · exact hg.2.2.2 q h1
      · exact hL q h1⟩ T' rfl X'
  exact ⟨t2, st t2 a1, b1⟩
end DZC
