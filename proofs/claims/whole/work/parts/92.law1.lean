/-! what the tables say at the law's start -/
theorem prim_ok {s : State} {args : Array Value} {ty : FieldType} (h : (Cond.arrayClass ty).before args s = true) : ∃ cA, ArrOfT s cA ty ∧ s.vm.findClass ("[" ++ ty.toString) = some cA := by
  obtain ⟨cA, kA, comp, h1, h2, h3⟩ := Cond.arrayClass_spec h
  exact ⟨cA, fun n z => ⟨fun k h => (by cases h), kA, h2, comp, h3⟩, h1⟩
theorem over_ok {s : State} {args : Array Value} {C : String} (h : (Cond.arrayOver (.object C)).before args s = true) : ∃ cA, ArrOfT s cA (.object C) ∧ va_RA s cA (.object C) := by
  obtain ⟨comp, c, k, h1, h2, h3, h4, h5⟩ := Cond.arrayOver_spec h
  exact ⟨c, fun n z => ⟨fun k h => (by cases h), k, h3, comp, h4⟩, k, comp, h3, h4, h1, h5⟩
theorem overA_ok {s : State} {args : Array Value} (h : (Cond.arrayOver (.array .int)).before args s = true) : ∃ cA, ArrOfT s cA (.array .int) ∧ va_RA s cA (.array .int) := by
  obtain ⟨comp, c, k, h1, h2, h3, h4, h5⟩ := arrayOverA_spec h
  exact ⟨c, fun n z => ⟨fun k h => (by cases h), k, h3, comp, h4⟩, h5⟩
theorem Zk_start {s : State} {args : Array Value} (hts : ∀ w ∈ lw_tbl, w.before args s = true) : ∃ (D : va_G) (F : Nat → ClassId), ∀ B : Nat, Zk (B, D, F) s := by
  have hzg : ∀ w ∈ zG, w.before args s = true := fun w hw => hts w (List.mem_filter.mp hw).1
  have hci : ∀ ci : Nat, ∃ x : ClassId × (Nat → Nat), ∀ q, zcl[ci]? = some q → u_Kn s q.1 q.2.1 q.2.2 x.1 x.2 := by
    intro ci
    cases e : zcl[ci]? with
    | none => exact ⟨(0, fun _ => 0), fun q h => by cases h⟩
    | some q =>
      have hin : ∀ w ∈ u_ws q.1 q.2.1 q.2.2, w ∈ zG := zcl_in ci q e
      have hi : ∃ n, (Cond.instantiable q.1 n).before args s = true := by
        match ci, e with
        | 0, e => cases e; exact ⟨_, hzg _ wd_41⟩
        | 1, e => cases e; exact ⟨_, hzg _ wd_67⟩
        | 2, e => cases e; exact ⟨_, hzg _ wd_75⟩
        | 3, e => cases e; exact ⟨_, hzg _ wd_153⟩
        | 4, e => cases e; exact ⟨_, hzg _ wd_146⟩
        | 5, e => cases e; exact ⟨_, hzg _ wd_94⟩
        | 6, e => cases e; exact ⟨_, hzg _ wd_21⟩
        | 7, e => cases e; exact ⟨_, hzg _ wd_13⟩
        | 8, e => cases e; exact ⟨_, hzg _ wd_646⟩
        | ci + 9, e => simp [zcl] at e
      obtain ⟨n, hi⟩ := hi
      obtain ⟨cC, iS, h⟩ := u_known hzg hin hi
      exact ⟨(cC, iS), fun q2 h2 => by cases h2; exact h⟩
  obtain ⟨G, hG⟩ := Classical.axiomOfChoice hci
  have wS : (Cond.arrayOver (.object "EditGuess$Signs")).before args s = true := hts _ (by decide +kernel)
  have wB : (Cond.arrayOver (.object "EditGuess$Book")).before args s = true := hts _ (by decide +kernel)
  have wP : (Cond.arrayOver (.object "EditGuess$Piece")).before args s = true := hts _ (by decide +kernel)
  have wR : (Cond.arrayOver (.object "EditGuess$Row")).before args s = true := hts _ (by decide +kernel)
  have wA : (Cond.arrayOver (.array .int)).before args s = true := hts _ (by decide +kernel)
  obtain ⟨c0, i0⟩ := prim_ok (hzg _ wd_39)
  obtain ⟨c1, i1⟩ := prim_ok (hzg _ wd_113)
  obtain ⟨c2, i2⟩ := prim_ok (hzg _ wd_93)
  obtain ⟨c3, i3⟩ := over_ok wS
  obtain ⟨c4, i4⟩ := over_ok wB
  obtain ⟨c5, i5⟩ := over_ok wP
  obtain ⟨c6, i6⟩ := over_ok wR
  obtain ⟨c7, i7⟩ := overA_ok wA
  refine ⟨(fun ci => (G ci).1, fun ci => (G ci).2), fun k => [c0, c1, c2, c3, c4, c5, c6, c7].getD k c0, fun B => ⟨⟨fun ci q h => hG ci q h, fun k q h => ?_⟩, ⟨va_AO.of wS, va_AO.of wB, va_AO.of wP, va_AO.of wR, wA⟩, fun q hq => ?_⟩⟩
  · match k, h with
    | 0, h => cases h; exact i0
    | 1, h => cases h; exact i1
    | 2, h => cases h; exact i2
    | 3, h => cases h; exact i3
    | 4, h => cases h; exact i4
    | 5, h => cases h; exact i5
    | 6, h => cases h; exact i6
    | 7, h => cases h; exact i7
    | k + 8, h => simp [ztys] at h
  · have h : ∀ q ∈ znest, (.methodLinkNest q.1 q.2.1 q.2.2.1 q.2.2.2 : Cond) ∈ lw_tbl := by decide +kernel
    exact va_tabs (u := s) (A := args) rfl rfl (hts _ (h q hq))
