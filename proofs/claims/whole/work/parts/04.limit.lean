/-! the limit of the runs: one equation an instruction, no fuel -/
def dzUse (Φ : dzKt → dzCt → Option dzR) : Prop := ∀ (K : dzKt) (C : dzCt) (r : dzR), Φ K C = some r →
  (∀ (K' : dzKt) (C' : dzCt), Φ K' C' = some r) ∨
  (∃ (pc : Nat) (L : dzL) (S : List Value) (u : Nat × Nat) (h : dzH), K pc L S u h = some r ∧ ∀ (K' : dzKt) (C' : dzCt), K' pc L S u h = some r → Φ K' C' = some r) ∨
  (∃ (c : Nat) (av : List Value) (h1 : dzH) (q : dzR) (pc : Nat) (L : dzL) (S : List Value) (u : Nat × Nat) (h : dzH), C c av h1 = some q ∧ K pc L S u h = some r ∧ ∀ (K' : dzKt) (C' : dzCt), C' c av h1 = some q → K' pc L S u h = some r → Φ K' C' = some r)
theorem dzUse_none : dzUse (fun _ _ => none) := fun _ _ _ h => by cases h
theorem dzUse_some (r : dzR) : dzUse (fun _ _ => some r) := fun _ _ _ h => Or.inl (fun _ _ => h)
theorem dzUse_K (pc : Nat) (L : dzL) (S : List Value) (u : Nat × Nat) (h : dzH) : dzUse (fun K _ => K pc L S u h) :=
  fun _ _ _ hd => Or.inr (Or.inl ⟨pc, L, S, u, h, hd, fun _ _ h' => h'⟩)
theorem dzUse_bind {α : Type} (o : Option α) {f : α → dzKt → dzCt → Option dzR} (hf : ∀ x, dzUse (f x)) : dzUse (fun K C => o.bind fun x => f x K C) := by
  cases o with
  | none => exact dzUse_none
  | some x => exact hf x
theorem dzUse_ite (p : Prop) [d : Decidable p] {f g : dzKt → dzCt → Option dzR} (hf : dzUse f) (hg : dzUse g) : dzUse (fun K C => if p then f K C else g K C) := by
  by_cases hp : p
  · have e : (fun K C => if p then f K C else g K C) = f := by funext K C; rw [if_pos hp]
    rw [e]; exact hf
  · have e : (fun K C => if p then f K C else g K C) = g := by funext K C; rw [if_neg hp]
    rw [e]; exact hg
theorem dzUse_1I (S : List Value) {f : Int32 → List Value → dzKt → dzCt → Option dzR} (hf : ∀ x r, dzUse (f x r)) : dzUse (fun K C => dz1I S fun x r => f x r K C) := by
  unfold dz1I
  split
  · exact hf _ _
  · exact dzUse_none
theorem dzUse_1J (S : List Value) {f : Int64 → List Value → dzKt → dzCt → Option dzR} (hf : ∀ x r, dzUse (f x r)) : dzUse (fun K C => dz1J S fun x r => f x r K C) := by
  unfold dz1J
  split
  · exact hf _ _
  · exact dzUse_none
theorem dzUse_1A (S : List Value) {f : Nat → List Value → dzKt → dzCt → Option dzR} (hf : ∀ x r, dzUse (f x r)) : dzUse (fun K C => dz1A S fun x r => f x r K C) := by
  unfold dz1A
  split
  · exact hf _ _
  · exact dzUse_none
theorem dzUse_2I (S : List Value) {f : Int32 → Int32 → List Value → dzKt → dzCt → Option dzR} (hf : ∀ x y r, dzUse (f x y r)) : dzUse (fun K C => dz2I S fun x y r => f x y r K C) := by
  unfold dz2I
  split
  · exact hf _ _ _
  · exact dzUse_none
theorem dzUse_2J (S : List Value) {f : Int64 → Int64 → List Value → dzKt → dzCt → Option dzR} (hf : ∀ x y r, dzUse (f x y r)) : dzUse (fun K C => dz2J S fun x y r => f x y r K C) := by
  unfold dz2J
  split
  · exact hf _ _ _
  · exact dzUse_none
theorem dzUse_JI (S : List Value) {f : Int64 → Int32 → List Value → dzKt → dzCt → Option dzR} (hf : ∀ x y r, dzUse (f x y r)) : dzUse (fun K C => dzJI S fun x y r => f x y r K C) := by
  unfold dzJI
  split
  · exact hf _ _ _
  · exact dzUse_none
theorem dzUse_AI (S : List Value) {f : Nat → Int32 → List Value → dzKt → dzCt → Option dzR} (hf : ∀ x y r, dzUse (f x y r)) : dzUse (fun K C => dzAI S fun x y r => f x y r K C) := by
  unfold dzAI
  split
  · exact hf _ _ _
  · exact dzUse_none
theorem dzUse_AII (S : List Value) {f : Nat → Int32 → Int32 → List Value → dzKt → dzCt → Option dzR} (hf : ∀ x y z r, dzUse (f x y z r)) : dzUse (fun K C => dzAII S fun x y z r => f x y z r K C) := by
  unfold dzAII
  split
  · exact hf _ _ _ _
  · exact dzUse_none
theorem dzUse_AV (S : List Value) {f : Nat → Value → List Value → dzKt → dzCt → Option dzR} (hf : ∀ x y r, dzUse (f x y r)) : dzUse (fun K C => dzAV S fun x y r => f x y r K C) := by
  unfold dzAV
  split
  · exact hf _ _ _
  · exact dzUse_none
theorem dzUse_Sw (x : Int32) {f : Nat → dzKt → dzCt → Option dzR} (hf : ∀ t, dzUse (f t)) (d : Nat) : ∀ sw : List (Int32 × Nat), dzUse (fun K C => dzSw x (fun t => f t K C) sw d)
  | [] => hf d
  | (c, t) :: r => dzUse_ite (x = c) (hf t) (dzUse_Sw x hf d r)
theorem dzUse_RV (c : Nat) (av : List Value) (h : dzH) (pc : Nat) (L : dzL) (S : List Value) (u : Nat × Nat) : dzUse (fun K C => (dzRV (C c av h)).bind fun h => K pc L S u h) := by
  intro K C r hd
  obtain ⟨h1, e1, hd⟩ := Option.bind_eq_some_iff.mp hd
  have e2 : C c av h = some (none, h1) := by
    unfold dzRV at e1
    split at e1
    · rename_i hc; rw [hc]; cases e1; rfl
    · cases e1
  exact Or.inr (Or.inr ⟨c, av, h, _, pc, L, S, u, h1, e2, hd, fun K' C' g1 g2 => by dsimp only; rw [g1]; exact g2⟩)
theorem dzUse_RI (c : Nat) (av : List Value) (h : dzH) (pc : Nat) (L : dzL) (S : List Value) (u : Nat × Nat) : dzUse (fun K C => (dzRI (C c av h)).bind fun q => K pc L (.int q.1 :: S) u q.2) := by
  intro K C r hd
  obtain ⟨q, e1, hd⟩ := Option.bind_eq_some_iff.mp hd
  have e2 : C c av h = some (some (.int q.1), q.2) := by
    unfold dzRI at e1
    split at e1
    · rename_i hc; rw [hc]; cases e1; rfl
    · cases e1
  exact Or.inr (Or.inr ⟨c, av, h, _, pc, L, .int q.1 :: S, u, q.2, e2, hd, fun K' C' g1 g2 => by dsimp only; rw [g1]; exact g2⟩)
theorem dzUse_RJ (c : Nat) (av : List Value) (h : dzH) (pc : Nat) (L : dzL) (S : List Value) (u : Nat × Nat) : dzUse (fun K C => (dzRJ (C c av h)).bind fun q => K pc L (.long q.1 :: S) u q.2) := by
  intro K C r hd
  obtain ⟨q, e1, hd⟩ := Option.bind_eq_some_iff.mp hd
  have e2 : C c av h = some (some (.long q.1), q.2) := by
    unfold dzRJ at e1
    split at e1
    · rename_i hc; rw [hc]; cases e1; rfl
    · cases e1
  exact Or.inr (Or.inr ⟨c, av, h, _, pc, L, .long q.1 :: S, u, q.2, e2, hd, fun K' C' g1 g2 => by dsimp only; rw [g1]; exact g2⟩)
theorem dzUse_RA (c : Nat) (av : List Value) (h : dzH) (pc : Nat) (L : dzL) (S : List Value) (u : Nat × Nat) : dzUse (fun K C => (dzRA (C c av h)).bind fun q => K pc L (.ref q.1 :: S) u q.2) := by
  intro K C r hd
  obtain ⟨q, e1, hd⟩ := Option.bind_eq_some_iff.mp hd
  have e2 : C c av h = some (some (.ref q.1), q.2) := by
    unfold dzRA at e1
    split at e1
    · rename_i hc; rw [hc]; cases e1; rfl
    · cases e1
  exact Or.inr (Or.inr ⟨c, av, h, _, pc, L, .ref q.1 :: S, u, q.2, e2, hd, fun K' C' g1 g2 => by dsimp only; rw [g1]; exact g2⟩)
set_option maxHeartbeats 4000000 in
theorem dz1_use (mid nx : Nat) (L : dzL) (S : List Value) (u : Nat × Nat) (h : dzH) (i : dzIns) (v : Value) (sw : List (Int32 × Nat)) (pl : List Nat) : dzUse (fun K C => dz1 mid K C nx L S u h i v sw pl) := by
  cases i
  case nop => exact dzUse_K _ _ _ _ _
  case iload j => exact dzUse_bind _ (fun x => dzUse_K _ _ _ _ _)
  case lload j => exact dzUse_bind _ (fun x => dzUse_K _ _ _ _ _)
  case aload j => exact dzUse_bind _ (fun x => dzUse_K _ _ _ _ _)
  case istore j => exact dzUse_1I S (fun x r => dzUse_K _ _ _ _ _)
  case lstore j => exact dzUse_1J S (fun x r => dzUse_K _ _ _ _ _)
  case astore j => exact dzUse_1A S (fun x r => dzUse_K _ _ _ _ _)
  case iinc j c =>
    refine dzUse_bind _ (fun x => ?_)
    cases v
    case int c => exact dzUse_K _ _ _ _ _
    all_goals exact dzUse_none
  case iadd => exact dzUse_2I S (fun x y r => dzUse_K _ _ _ _ _)
  case isub => exact dzUse_2I S (fun x y r => dzUse_K _ _ _ _ _)
  case imul => exact dzUse_2I S (fun x y r => dzUse_K _ _ _ _ _)
  case iand => exact dzUse_2I S (fun x y r => dzUse_K _ _ _ _ _)
  case ior => exact dzUse_2I S (fun x y r => dzUse_K _ _ _ _ _)
  case ixor => exact dzUse_2I S (fun x y r => dzUse_K _ _ _ _ _)
  case ishl => exact dzUse_2I S (fun x y r => dzUse_K _ _ _ _ _)
  case ishr => exact dzUse_2I S (fun x y r => dzUse_K _ _ _ _ _)
  case iushr => exact dzUse_2I S (fun x y r => dzUse_K _ _ _ _ _)
  case idiv => exact dzUse_2I S (fun x y r => dzUse_ite _ dzUse_none (dzUse_K _ _ _ _ _))
  case irem => exact dzUse_2I S (fun x y r => dzUse_ite _ dzUse_none (dzUse_K _ _ _ _ _))
  case fmul =>
    refine dzUse_2I S (fun x y r => ?_)
    split
    · exact dzUse_K _ _ _ _ _
    · exact dzUse_none
  case ineg => exact dzUse_1I S (fun x r => dzUse_K _ _ _ _ _)
  case ladd => exact dzUse_2J S (fun x y r => dzUse_K _ _ _ _ _)
  case lsub => exact dzUse_2J S (fun x y r => dzUse_K _ _ _ _ _)
  case lmul => exact dzUse_2J S (fun x y r => dzUse_K _ _ _ _ _)
  case land => exact dzUse_2J S (fun x y r => dzUse_K _ _ _ _ _)
  case lor => exact dzUse_2J S (fun x y r => dzUse_K _ _ _ _ _)
  case lxor => exact dzUse_2J S (fun x y r => dzUse_K _ _ _ _ _)
  case ldiv => exact dzUse_2J S (fun x y r => dzUse_ite _ dzUse_none (dzUse_K _ _ _ _ _))
  case lrem => exact dzUse_2J S (fun x y r => dzUse_ite _ dzUse_none (dzUse_K _ _ _ _ _))
  case lneg => exact dzUse_1J S (fun x r => dzUse_K _ _ _ _ _)
  case lshl => exact dzUse_JI S (fun x y r => dzUse_K _ _ _ _ _)
  case lshr => exact dzUse_JI S (fun x y r => dzUse_K _ _ _ _ _)
  case lushr => exact dzUse_JI S (fun x y r => dzUse_K _ _ _ _ _)
  case lcmp => exact dzUse_2J S (fun x y r => dzUse_K _ _ _ _ _)
  case i2l => exact dzUse_1I S (fun x r => dzUse_K _ _ _ _ _)
  case l2i => exact dzUse_1J S (fun x r => dzUse_K _ _ _ _ _)
  case dup =>
    unfold dz1
    dsimp only
    split
    · exact dzUse_K _ _ _ _ _
    · exact dzUse_K _ _ _ _ _
    · exact dzUse_none
  case dup2 =>
    unfold dz1
    dsimp only
    split
    · exact dzUse_K _ _ _ _ _
    · exact dzUse_K _ _ _ _ _
    · exact dzUse_none
  case pop =>
    unfold dz1
    dsimp only
    split
    · exact dzUse_K _ _ _ _ _
    · exact dzUse_K _ _ _ _ _
    · exact dzUse_none
  case ifCond o t =>
    cases o <;> exact dzUse_1I S (fun x r => dzUse_ite _ (dzUse_K _ _ _ _ _) (dzUse_K _ _ _ _ _))
  case if_icmp o t =>
    cases o <;> exact dzUse_2I S (fun x y r => dzUse_ite _ (dzUse_K _ _ _ _ _) (dzUse_K _ _ _ _ _))
  case goto t => exact dzUse_K _ _ _ _ _
  case lookupswitch d ps => exact dzUse_1I S (fun x r => dzUse_Sw x (f := fun t K _ => K t L r u h) (fun t => dzUse_K t L r u h) _ sw)
  case iaload => exact dzUse_AI S (fun a j r => dzUse_bind _ (fun x => dzUse_K _ _ _ _ _))
  case aaload => exact dzUse_AI S (fun a j r => dzUse_bind _ (fun x => dzUse_K _ _ _ _ _))
  case iastore => exact dzUse_AII S (fun a j x r => dzUse_bind _ (fun h => dzUse_K _ _ _ _ _))
  case arraylength => exact dzUse_1A S (fun a r => dzUse_bind _ (fun x => dzUse_K _ _ _ _ _))
  case getfield k =>
    refine dzUse_1A S (fun a r => ?_)
    split
    · exact dzUse_bind _ (fun x => dzUse_K _ _ _ _ _)
    · exact dzUse_bind _ (fun x => dzUse_K _ _ _ _ _)
    · exact dzUse_bind _ (fun x => dzUse_K _ _ _ _ _)
    · exact dzUse_none
  case putfield k =>
    refine dzUse_AV S (fun a v r => ?_)
    split
    · exact dzUse_bind _ (fun x => dzUse_K _ _ _ _ _)
    · exact dzUse_none
  case swap =>
    unfold dz1
    dsimp only
    split
    · split
      · exact dzUse_bind _ (fun x => dzUse_K _ _ _ _ _)
      · exact dzUse_none
    · exact dzUse_none
  case invokespecial k =>
    refine dzUse_1A S (fun a r => ?_)
    split
    · exact dzUse_K _ _ _ _ _
    · exact dzUse_none
  case invokestatic k =>
    unfold dz1
    dsimp only
    split
    · split
      · split
        · exact dzUse_RV _ _ _ _ _ _ _
        · exact dzUse_RI _ _ _ _ _ _ _
        · exact dzUse_RJ _ _ _ _ _ _ _
        · exact dzUse_RA _ _ _ _ _ _ _
        · exact dzUse_none
      · exact dzUse_none
    · exact dzUse_none
  case new k =>
    unfold dz1
    dsimp only
    split
    · exact dzUse_K _ _ _ _ _
    · exact dzUse_none
  case newarray k =>
    refine dzUse_1I S (fun n r => ?_)
    split
    · exact dzUse_bind _ (fun x => dzUse_K _ _ _ _ _)
    · exact dzUse_none
  case multianewarray k k2 =>
    refine dzUse_2I S (fun n m r => ?_)
    split
    · exact dzUse_bind _ (fun x => dzUse_K _ _ _ _ _)
    · exact dzUse_none
  case ireturn =>
    unfold dz1
    dsimp only
    split
    · split
      · exact dzUse_some _
      · exact dzUse_bind _ (fun y => dzUse_some _)
    · exact dzUse_none
  case lreturn =>
    unfold dz1
    dsimp only
    split
    · exact dzUse_some _
    · exact dzUse_none
  case areturn =>
    unfold dz1
    dsimp only
    split
    · exact dzUse_some _
    · exact dzUse_none
  case return_ =>
    unfold dz1
    dsimp only
    split
    · exact dzUse_some _
    · exact dzUse_none
  all_goals exact dzUse_none
theorem dzS_use (mid pc : Nat) (L : dzL) (S : List Value) (u : Nat × Nat) (h : dzH) : dzUse (fun K C => dzS mid K C pc L S u h) := by
  unfold dzS
  split
  · exact dz1_use _ _ _ _ _ _ _ _ _ _
  · exact dzUse_none
/-- what goes on with more goes on -/
def dzLe (K K' : dzKt) : Prop := ∀ (pc : Nat) (L : dzL) (S : List Value) (u : Nat × Nat) (h : dzH) (r : dzR), K pc L S u h = some r → K' pc L S u h = some r
theorem dzJ_le {mid : Nat} {K K' : dzKt} (hk : dzLe K K') : dzLe (dzJ mid K) (dzJ mid K') := by
  intro pc L S u h r hd
  unfold dzJ at hd ⊢
  split at hd
  · exact hk _ _ _ _ _ _ hd
  · exact hk _ _ _ _ _ _ hd
theorem dzGo_le {c : Nat} {K K' : dzKt} (hk : dzLe K K') (av : List Value) (h : dzH) (r : dzR) (hd : dzGo K c av h = some r) : dzGo K' c av h = some r := by
  unfold dzGo at hd ⊢
  split at hd
  · split at hd
    · exact hk _ _ _ _ _ _ hd
    · split at hd
      · split at hd
        · split at hd
          · rename_i e
            rw [if_pos e]
            exact hk _ _ _ _ _ _ hd
          · cases hd
        · cases hd
      · cases hd
  · cases hd
theorem dzS_le {mid : Nat} {K K' : dzKt} {C C' : dzCt} (hk : dzLe K K') (hc : ∀ c av h r, C c av h = some r → C' c av h = some r) : dzLe (dzS mid K C) (dzS mid K' C') := by
  intro pc L S u h r hd
  rcases dzS_use mid pc L S u h K C r hd with g | ⟨a, b, c, d, e, g1, g⟩ | ⟨c1, av, h1, q, a, b, c, d, e, g1, g2, g⟩
  · exact g _ _
  · exact g _ _ (hk _ _ _ _ _ _ g1)
  · exact g _ _ (hc _ _ _ _ g1) (hk _ _ _ _ _ _ g2)
theorem dzRun_S : ∀ (n mid : Nat), dzLe (dzRun n mid) (dzRun (n + 1) mid)
  | 0, _ => fun _ _ _ _ _ _ h => by cases h
  | n + 1, mid => dzS_le (dzJ_le (dzRun_S n mid)) (fun c av h r => dzGo_le (dzRun_S n c) av h r)
theorem dzRun_le {n m : Nat} (hnm : n ≤ m) (mid : Nat) : dzLe (dzRun n mid) (dzRun m mid) := by
  induction hnm with
  | refl => exact fun _ _ _ _ _ _ h => h
  | step _ ih => exact fun pc L S u h r hd => dzRun_S _ _ _ _ _ _ _ _ (ih pc L S u h r hd)
noncomputable def dzF (mid : Nat) : dzKt := fun pc L S u h => match Classical.propDecidable (∃ n, (dzRun n mid pc L S u h).isSome = true) with
  | .isTrue e => dzRun e.choose mid pc L S u h
  | .isFalse _ => none
theorem dzF_iff {mid pc : Nat} {L : dzL} {S : List Value} {u : Nat × Nat} {h : dzH} {r : dzR} : dzF mid pc L S u h = some r ↔ ∃ n, dzRun n mid pc L S u h = some r := by
  constructor
  · intro hd
    unfold dzF at hd
    split at hd
    · exact ⟨_, hd⟩
    · cases hd
  · rintro ⟨n, hn⟩
    have e : ∃ n, (dzRun n mid pc L S u h).isSome = true := ⟨n, by rw [hn]; rfl⟩
    unfold dzF
    split
    · rename_i e2 _
      obtain ⟨r2, h2⟩ := Option.isSome_iff_exists.mp e2.choose_spec
      rw [h2]
      have a1 := dzRun_le (Nat.le_max_left n e2.choose) mid _ _ _ _ _ _ hn
      have a2 := dzRun_le (Nat.le_max_right n e2.choose) mid _ _ _ _ _ _ h2
      exact a2.symm.trans a1
    · rename_i e2 _
      exact absurd e e2
theorem dzRun_F (n mid : Nat) : dzLe (dzRun n mid) (dzF mid) := fun _ _ _ _ _ _ h => dzF_iff.mpr ⟨n, h⟩
theorem dzJ_F {mid pc : Nat} {L : dzL} {S : List Value} {u : Nat × Nat} {h : dzH} {r : dzR} (hd : dzJ mid (dzF mid) pc L S u h = some r) : ∃ n, dzJ mid (dzRun n mid) pc L S u h = some r := by
  unfold dzJ at hd ⊢
  split at hd
  · exact dzF_iff.mp hd
  · exact dzF_iff.mp hd
theorem dzGo_F {c : Nat} {av : List Value} {h : dzH} {r : dzR} (hd : dzGo (dzF c) c av h = some r) : ∃ n, dzGo (dzRun n c) c av h = some r := by
  unfold dzGo at hd ⊢
  split at hd
  · split at hd
    · exact dzF_iff.mp hd
    · split at hd
      · split at hd
        · split at hd
          · rename_i e
            obtain ⟨n, hn⟩ := dzF_iff.mp hd
            exact ⟨n, by rw [if_pos e]; exact hn⟩
          · cases hd
        · cases hd
      · cases hd
  · cases hd
noncomputable def dzC : dzCt := fun c => dzGo (dzF c) c
theorem dzF_eq (mid pc : Nat) (L : dzL) (S : List Value) (u : Nat × Nat) (h : dzH) : dzF mid pc L S u h = dzS mid (dzJ mid (dzF mid)) dzC pc L S u h := by
  apply Option.ext
  intro r
  constructor
  · intro hd
    obtain ⟨n, hn⟩ := dzF_iff.mp hd
    cases n with
    | zero => cases hn
    | succ n => exact dzS_le (dzJ_le (dzRun_F n mid)) (fun c av h r => dzGo_le (dzRun_F n c) av h r) _ _ _ _ _ _ hn
  · intro hd
    rcases dzS_use mid pc L S u h _ _ r hd with g | ⟨a, b, c, d, e, g1, g⟩ | ⟨c1, av, h1, q, a, b, c, d, e, g1, g2, g⟩
    · exact dzF_iff.mpr ⟨1, g _ _⟩
    · obtain ⟨n, hn⟩ := dzJ_F g1
      exact dzF_iff.mpr ⟨n + 1, g _ _ hn⟩
    · obtain ⟨n, hn⟩ := dzGo_F g1
      obtain ⟨k, hk⟩ := dzJ_F g2
      exact dzF_iff.mpr ⟨max n k + 1, g _ _ (dzGo_le (dzRun_le (Nat.le_max_left n k) _) _ _ _ hn) (dzJ_le (dzRun_le (Nat.le_max_right n k) _) _ _ _ _ _ _ hk)⟩
/-- k instructions, as far as the next head -/
noncomputable def dzW : Nat → Nat → dzKt
  | 0, mid => dzF mid
  | k + 1, mid => dzS mid (fun pc L S u h => match dzFnd (dzHd mid) pc with
    | some ks => dzF mid pc (dzRs ks L) S u h
    | none => dzW k mid pc L S u h) dzC
theorem dzW_eq : ∀ (k mid : Nat), dzF mid = dzW k mid
  | 0, _ => rfl
  | k + 1, mid => by
    funext pc L S u h
    rw [dzF_eq]
    unfold dzW dzJ
    rw [← dzW_eq k mid]
    rfl
theorem dzW_at (k mid pc : Nat) (L : dzL) (S : List Value) (u : Nat × Nat) (h : dzH) : dzF mid pc L S u h = dzW k mid pc L S u h := by rw [dzW_eq k mid]
