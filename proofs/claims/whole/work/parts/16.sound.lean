/-! soundness of whole runs, method by method -/
section DZ5
variable {p : Program} {l : Launch} {e : Env} {s : State} {m : MethodId} {args : Array Value} {below : List Frame} {meth : Method} {c : Code}
variable {B : Nat} {D : va_G} {tI tA : ClassId} {mid : Nat} {r : Option Value} {h' : dzH}
theorem dz_end (hx : dzCx D tI tA mid p s m args meth c) (hr : meth.sig.returnType = dzRt mid) (hlocks : meth.locks = false) : dzOkE p l e s m args below meth c B D tI tA mid (MQ below (dzPo B D tI tA r h') args s (dzMc mid) (dzMs mid) (fun x => B ≤ x)) r h' := by
  intro pc ls H locs k n hk hn hrok hdg hg
  obtain ⟨hexec, hb, -⟩ := hx
  have hq : ∀ t : State, t.heap = H → s.WarmedH t.vm → dzPo B D tI tA r h' args s (.returned r) t := fun t ht hW =>
    ⟨rfl, by rw [ht]; exact hg.1.moved hW.alike, by rw [ht]; exact hg.2.1, fun q hq => by rw [ht]; exact hg.2.2.1 q hq⟩
  refine W.widen hk hn ?_
  cases r with
  | none => exact W.vret hexec hb (hr.trans hrok) hq hg.2.2.2 hdg hlocks
  | some v =>
    cases v with
    | int v =>
      rcases hrok with h1 | ⟨h1, h2⟩
      · exact W.iret hexec hb (hr.trans h1) hq hg.2.2.2 hdg hlocks
      · refine W.zret hexec hb (hr.trans h1) ?_ hq hg.2.2.2 hdg hlocks
        rcases h2 with rfl | rfl <;> decide
    | long v => exact W.lret hexec hb (hr.trans hrok) hq hg.2.2.2 hdg hlocks
    | ref v =>
      have h3 : dzRk mid = 3 := hrok
      have h4 : ∃ rt, dzRt mid = some rt ∧ ((∃ n, rt = .object n) ∨ ∃ t, rt = .array t) := by
        unfold dzRk at h3
        split at h3 <;> first | (cases h3; done) | (rename_i e9; exact ⟨_, e9, Or.inl ⟨_, rfl⟩⟩) | (rename_i e9; exact ⟨_, e9, Or.inr ⟨_, rfl⟩⟩)
      obtain ⟨rt, h5, h6⟩ := h4
      exact W.aret hexec hb (hr.trans h5) h6 (Or.inr ⟨v, rfl⟩) hq hg.2.2.2 hdg hlocks
    | float v => exact hrok.elim
    | double v => exact hrok.elim
    | null => exact hrok.elim
    | retAddr v => exact hrok.elim
/-- runs of n steps are right -/
def dzSound (l : Launch) (n : Nat) : Prop := ∀ (p : Program) (e : Env) (s : State) (m : MethodId) (args : Array Value) (below : List Frame) (meth : Method) (c : Code) (B : Nat) (D : va_G) (tI tA : ClassId) (mid : Nat) (Q : State → Prop) (r : Option Value) (h' : dzH), dzCx D tI tA mid p s m args meth c → B ≤ s.heap.size → dzOkE p l e s m args below meth c B D tI tA mid Q r h' → dzOkK p l e s m args below meth c B D tI tA mid Q r h' (dzRun n mid)
theorem dz_okC {n : Nat} (ih : dzSound l n) : dzOkC l B D tI tA (fun c => dzGo (dzRun n c) c) := by
  intro cid av h1 q hcall hcid hk9
  have hmw := zm_all cid hcid hk9
  obtain ⟨hcw, hiw, hpl, hnh, hkw⟩ := hmw
  have hrun : dzRun n cid 0 (lv_args 0 av) [] (0, 0) h1 = some q ∧ (lg_sl av).length ≤ dzMx cid ∧ ∀ ci, dzRcv cid = some ci → ∃ (a : Nat) (as : List Value) (fs : List Value), av = .ref a :: as ∧ h1.2 a = some (eO ci fs) := by
    unfold dzGo at hcall
    dsimp only at hcall
    split at hcall
    · rename_i hlen
      split at hcall
      · rename_i hrc
        exact ⟨hcall, Nat.le_of_ble_eq_true hlen, fun ci h => by rw [hrc] at h; cases h⟩
      · rename_i ci hrc
        split at hcall
        · rename_i a as
          split at hcall
          · rename_i c' fs ea
            split at hcall
            · rename_i ec
              subst ec
              exact ⟨hcall, Nat.le_of_ble_eq_true hlen, fun ci h => by rw [hrc] at h; cases h; exact ⟨a, as, fs, rfl, ea⟩⟩
            · cases hcall
          · cases hcall
        · cases hcall
    · cases hcall
  obtain ⟨hrun, hlen, hrc⟩ := hrun
  refine ⟨?_, hrc⟩
  refine Met.ofW (cc := dzBy cid) (maxL := dzMx cid) (ret := dzRt cid) hpl rfl ?_
  intro p e s m args below meth c s₁ Bd hml hv
  obtain ⟨rfl, hKn, ho, hB⟩ := hv
  have hts := atoms_spec (ws := dzWs cid) Bd.pre
  have hx : dzCx D tI tA cid p s m av.toArray meth c := ⟨Bd.exec, Bd.bytes, hml, fun h => (name_of_methodNamed Bd.named Bd.method).1.trans h, findClass_of_methodNamed Bd.named, fun w hw => hts w (List.mem_cons_of_mem _ hw), hKn, hcid⟩
  rw [lg_entry_eq]
  exact ih p e s m av.toArray below meth c B D tI tA cid _ q.1 q.2 hx hB (dz_end hx Bd.returns Bd.notSynchronized) 0 _ _ (0, 0) h1 hrun (Nat.zero_le _) (Nat.zero_le _) _ _ [] (lv_entry av hlen) ⟨ho, Nat.le_refl _, fun _ _ => rfl, fun _ h => by cases h⟩
theorem dz_okJ {p : Program} {e : Env} {Q : State → Prop} {K : dzKt} (hK : dzOkK p l e s m args below meth c B D tI tA mid Q r h' K) : dzOkK p l e s m args below meth c B D tI tA mid Q r h' (dzJ mid K) := by
  intro pc L S u h hd hu1 hu2 ls H locs hl hg
  unfold dzJ at hd
  split at hd
  · exact hK _ _ _ _ _ hd hu1 hu2 ls H locs (hl.less (fun q hq => (List.mem_filter.mp hq).1)) hg
  · exact hK _ _ _ _ _ hd hu1 hu2 ls H locs hl hg
theorem dz_sound : ∀ n, dzSound l n
  | 0 => fun _ _ _ _ _ _ _ _ _ _ _ _ _ _ _ _ _ _ _ pc L S u h hd => by cases hd
  | n + 1 => by
    intro p e s m args below meth c B D tI tA mid Q r h' hx hB hE pc L S u h hd hu1 hu2 ls H locs hl hg
    have ih := dz_sound n
    simp only [dzRun, dzS] at hd
    split at hd
    · rename_i nx i v sw pl ef
      have hck := List.all_eq_true.mp (ck_all mid hx.2.2.2.2.2.2.2) _ (dzFnd_mem ef)
      exact dz_step hx hB (dz_okJ (ih p e s m args below meth c B D tI tA mid Q r h' hx hB hE)) (dz_okC ih) hE hck hd hu1 hu2 hl hg
    · cases hd
end DZ5
