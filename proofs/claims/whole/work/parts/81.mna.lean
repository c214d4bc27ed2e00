/-! an array of arrays of ints -/
theorem zouter (c : ClassId) (N h0 : Nat) : ∀ i : Nat, Jvm.Free.Multi.outerC c N h0 i = arrV c N (fun j => va_rf (if j < i then some (h0 + 1 + j) else none))
  | 0 => by
    show ({ cls := c, slots := Array.replicate N .null, vm := .none } : Cell) = _
    rw [arrV_new]
    refine congrArg (arrV c N) (funext fun j => ?_)
    rw [if_neg (Nat.not_lt_zero j)]
    rfl
  | i + 1 => by
    show (Jvm.Free.Multi.outerC c N h0 i).setSlot i (.ref (h0 + 1 + i)) = _
    rw [zouter c N h0 i, arrV_store]
    refine congrArg (arrV c N) (funext fun j => ?_)
    by_cases e : j = i
    · subst e
      simp [updV, va_rf]
    · by_cases h : j < i
      · simp [updV, e, h, Nat.lt_succ_of_lt h]
      · simp [updV, e, h, show ¬ j < i + 1 by omega]
def zgrid (f : Nat → En) (n N K : Nat) : Nat → En := fun b => if b = n then .inl (7, N, .inr (.inr (fun i => if i < N then some (n + 1 + i) else none))) else if n < b ∧ b ≤ n + N then .inl (0, K, .inl (fun _ => 0)) else f b
section ZMN
variable {m : Zm} {Q : Option Value → Nat → (Nat → En) → Prop} {pc : Nat} {lo : List (Nat × Value)} {st : List Value} {cs ss n : Nat} {f : Nat → En}
theorem s_mna {N K index : Nat} (hgm : zg m = true) (hd : decode (zb m) pc = .ok (.multianewarray index 2, 4)) (hcl : Cond.classLink (zy m).cls index ("[" ++ (FieldType.array .int).toString) ∈ zG) (hov : ∀ (o : Zo) (U : State), Zk o U → zAOA U) (harr : Cond.arrayClass .int ∈ zG) (hN : N < 1000) (hK : K < 1000) (hc : cs + (1 + N) ≤ (zR m).cells) (hs : ss + (N + N * K) ≤ (zR m).slots) (kk : wp0 m Q (pc + 4) lo (.ref n :: st) (cs + 1 + N) (ss + N + N * K) (n + (1 + N)) (zgrid f n N K)) : wp0 m Q pc lo (.int (nI K) :: .int (nI N) :: st) cs ss n f := by
  intro p l e s mi args below meth c o n0 H locs ls C S T hT Xs
  have hts := C.2.2.2.2.2.1
  have sz := zaddr C S hgm
  have eN : (nI N).toNatClampNeg = N := nI_clamp (by omega)
  have eK : (nI K).toNatClampNeg = K := nI_clamp (by omega)
  have hZ := C.2.2.2.2.2.2.2.2.1
  obtain ⟨vm₁, cA, comp, -, fA, fC, -, -, X', step⟩ := Xs.multianewarray2F C.1 (ty := .int) C.2.2.2.2.1 (hts _ (List.mem_cons_of_mem _ hcl)) (show (Cond.arrayOver (.array .int)).before args s = true from hov o s hZ) (hts _ (List.mem_cons_of_mem _ harr)) (g := F0 mi pc ls ((.int (nI K) :: .int (nI N) :: st).map (trV o.1))) rfl (by rw [C.2.1]; exact hd) rfl (nI_pos (by omega)) (nI_pos (by omega)) (by rw [eN]; omega) (by rw [eK]; exact Nat.le_trans (Nat.mul_le_mul_left K (show componentBytes .int ≤ 8 from by decide)) (by omega)) (by rw [eK]; omega) rfl rfl (by rw [eN]; exact hc) (by rw [eN, eK]; exact hs)
  have hcA : cA = o.2.2 7 := Option.some.inj (fA.symm.trans (hZ.1.2 7 _ rfl).2)
  have hcC : comp = o.2.2 0 := Option.some.inj (fC.symm.trans (hZ.1.2 0 _ rfl).2)
  subst hcA
  subst hcC
  rw [eN, eK] at X' step
  generalize hF : Jvm.Free.Multi.fill (T.setVm vm₁) (o.2.2 7) (o.2.2 0) N K (defaultValue .int) N = F at X' step
  have hTh : (T.setVm vm₁).heap = H := hT
  obtain ⟨f1, f2, -, -⟩ := Jvm.Free.Multi.fill_facts (T.setVm vm₁) (o.2.2 7) (o.2.2 0) N K (defaultValue .int) N
  rw [hF, hTh] at f1 f2
  have hold : ∀ x : Nat, x < H.size → F.heap[x]? = H[x]? := fun x hx => by
    have := Jvm.Free.Multi.fill_old (T.setVm vm₁) (o.2.2 7) (o.2.2 0) N K (defaultValue .int) (a := x) (by rw [hTh]; exact hx) N
    rw [hF, hTh] at this
    exact this
  have hrow : ∀ j : Nat, j < N → F.heap[H.size + 1 + j]? = some (arrV (o.2.2 0) K (fun _ => .int 0)) := fun j hj => by
    have := Jvm.Free.Multi.fill_inner (T.setVm vm₁) (o.2.2 7) (o.2.2 0) N K (defaultValue .int) N j hj
    rw [hF, hTh] at this
    rw [this, ← arrV_new]
    rfl
  rw [zouter] at f2
  rw [sz] at f1 f2 hrow hold
  have hTsz : T.heap.size = o.1 + n := by rw [hT, sz]
  have hH : Hw o (n + (1 + N)) (zgrid f n N K) F.heap := by
    intro a ha
    by_cases c1 : a = n
    · subst c1
      rw [zgrid, if_pos rfl]
      show F.heap[o.1 + a]? = some (vp_cell _ _)
      rw [f2, vp_cell_q]
      refine congrArg some (congrArg (arrV _ _) (funext fun j => ?_))
      show va_rf (if j < N then some (o.1 + a + 1 + j) else none) = va_rf ((if j < N then some (a + 1 + j) else none).map (fun x => o.1 + x))
      by_cases h : j < N
      · rw [if_pos h, if_pos h]
        show va_rf (some (o.1 + a + 1 + j)) = va_rf (some (o.1 + (a + 1 + j)))
        rw [show o.1 + a + 1 + j = o.1 + (a + 1 + j) from by omega]
      · rw [if_neg h, if_neg h]
        rfl
    · by_cases c2 : n < a ∧ a ≤ n + N
      · rw [zgrid, if_neg c1, if_pos c2]
        show F.heap[o.1 + a]? = some (vp_cell _ _)
        rw [show o.1 + a = o.1 + n + 1 + (a - n - 1) from by omega, hrow _ (by omega), vp_cell_i]
      · rw [zgrid, if_neg c1, if_neg c2]
        exact (S.1 a (by omega)).kept (hold _ (by show o.1 + a < _; omega))
  obtain ⟨t, a1, b1⟩ := kk p l e s mi args below meth c o n0 F.heap locs ls C (zgrow C S hgm hH (by rw [f1]; omega) hold) F rfl X'
  refine ⟨t, step t ?_, b1⟩
  rw [hTsz]
  exact a1
end ZMN
