/-! the law's walk, out of a run of the deep interpreter -/
theorem dz_known {s : State} {args : Array Value} (hts : ∀ w ∈ lw_tbl, w.before args s = true) : ∃ (D : va_G) (tI tA : ClassId), dzKn D tI tA s := by
  have hgw : ∀ w ∈ dzGW, w.before args s = true := fun w h => hts w (List.mem_filter.mp h).1
  have hcl : ∀ ci : Nat, ∃ (cC : ClassId) (iS : Nat → Nat), ∀ (C : String) (T : u_T) (N : Nat), zCl[ci]? = some (C, T, N) → u_Kn s C T N cC iS := by
    intro ci
    cases hc : zCl[ci]? with
    | none => exact ⟨0, fun _ => 0, fun C T N h => by cases h⟩
    | some q =>
      obtain ⟨C, T, N⟩ := q
      obtain ⟨hi1, -, hin, -⟩ := zu_all ci C T N hc
      obtain ⟨cC, iS, hk⟩ := u_known hgw hin (hgw _ hi1)
      exact ⟨cC, iS, fun C' T' N' h => by cases h; exact hk⟩
  obtain ⟨cI, kI, compI, hnI, hkI, hkdI⟩ := Cond.arrayClass_spec (hgw _ zs_ai)
  obtain ⟨comp, cA, kA, hcomp, hidx, hkA, hkindA, hnameA⟩ := arrayOverA_spec (hts _ zl_over)
  refine ⟨(fun ci => (hcl ci).choose, fun ci => (hcl ci).choose_spec.choose), cI, cA, ⟨fun ci q hq => ?_, fun k q hk => ?_⟩, fun q hq => va_Nw.of rfl (hts _ (zl_n_ok q hq)), over_moved (Vm.Alike.refl _) (hts _ zl_over)⟩
  · obtain ⟨C, T, N⟩ := q
    exact (hcl ci).choose_spec.choose_spec C T N hq
  · match k, hk with
    | 0, hk =>
      cases hk
      exact ⟨fun n z => ⟨fun k h => (by cases h), kI, hkI, compI, hkdI⟩, hnI⟩
    | 1, hk =>
      cases hk
      exact ⟨fun n z => ⟨fun k h => (by cases h), kA, hkA, comp, hkindA⟩, hnameA⟩
    | n + 2, hk => cases hk
def dzLaw : Nat := 160
/-- the abstract heap at the start: the script alone -/
def dzH0 (n b L : Nat) (xs : Nat → Int32) : dzH := (n, fun a => if a = b then some (eX L xs) else none)
set_option maxRecDepth 100000 in
theorem dz_law {p : Program} {e : Env} {s : State} {m : MethodId} {below : List Frame} {meth : Method} {c : Code} (l : Launch) {b L : Nat} {xs : Nat → Int32} (C0 : lw_At p s m meth c b L xs) {h' : dzH}
    (hF : dzF dzLaw 0 [(0, .ref b)] [] (0, 0) (dzH0 s.heap.size b L xs) = some (some (.int 1), h')) : W p l e room_1 s m #[Value.ref b] below meth c s.heap [] 0 0 (lw_Z below #[Value.ref b] s) (entryFrame m ([Value.ref b] : List Value).toArray 4) := by
  obtain ⟨hx, hb, hr, hml, hown, hts, hX, hbl, hlocks, -⟩ := C0
  obtain ⟨D, tI, tA, hK⟩ := dz_known hts
  obtain ⟨n, hn⟩ := dzF_iff.mp hF
  have hcx : dzCx D tI tA dzLaw p s m #[Value.ref b] meth c := ⟨hx, hb, hml, fun h => absurd h (by decide +kernel), hown, fun w hw => hts w (List.mem_filter.mp hw).1, hK, by decide +kernel⟩
  rw [lg_entry_eq]
  have hl := lv_entry [Value.ref b] (n := 4) (Nat.le_of_ble_eq_true rfl)
  refine dz_sound n p e s m #[Value.ref b] below meth c s.heap.size D tI tA dzLaw (lw_Z below #[Value.ref b] s) (some (.int 1)) h' hcx (Nat.le_refl _) ?_ 0 _ _ (0, 0) _ hn (Nat.zero_le _) (Nat.zero_le _) _ _ [] hl ⟨⟨rfl, fun a x hx => ?_⟩, Nat.le_refl _, fun _ _ => rfl, fun _ h => by cases h⟩
  · intro pc ls H locs k n hk hn hrok hdg hg
    exact va_forget (fun q hq => hg.2.2.2 q hq) (W.widen hk hn (lw_ret hx hb hr hlocks hdg))
  · unfold dzH0 at hx
    dsimp only at hx
    split at hx
    · rename_i ea
      cases hx
      subst ea
      exact ⟨hbl, hX⟩
    · cases hx
