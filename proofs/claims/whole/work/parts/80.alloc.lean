/-! the rows of the logic that make cells: the new cell stands behind all others of the world -/
section ZNW
variable {m : Zm} {Q : Option Value → Nat → (Nat → En) → Prop} {pc : Nat} {lo : List (Nat × Value)} {st : List Value} {cs ss n : Nat} {f : Nat → En}
theorem zgrow {p : Program} {s : State} {mi : MethodId} {args : Array Value} {meth : Method} {c : Code} {o : Zo} {n0 : Nat} {H H1 : Heap} {locs : List Loc} {ls : Array Slot} (C : Zx m p s mi args meth c o n0) (S : Zs m s o n0 H locs ls lo n f) (hgm : zg m = true) {k : Nat} {f' : Nat → En} (hH : Hw o (n + k) f' H1) (z1 : H1.size = o.1 + n + k) (o1 : ∀ q, q < o.1 + n → H1[q]? = H[q]?) : Zs m s o n0 H1 locs ls lo (n + k) f' := by
  have sz := zaddr C S hgm
  have h2 := S.2.1
  have h3 := S.2.2.1
  have hS := S.2.2.2.2.1
  refine ⟨hH, by omega, by omega, fun h => (by rw [hgm] at h; cases h), ⟨by have := hS.1; omega, fun x h1 h4 => (o1 x (by have := hS.1; omega)).trans (hS.2.1 x h1 h4), hS.2.2⟩, S.2.2.2.2.2⟩
theorem s_new {ci index : Nat} {q : vw_C} {fs : List Value} (hgm : zg m = true) (hd : decode (zb m) pc = .ok (.new index, 3)) (hq : zcl[ci]? = some q) (hcl : Cond.classLink (zy m).cls index q.1 ∈ zG) (hins : Cond.instantiable q.1 q.2.2 ∈ zG) (hini : Cond.initialized q.1 ∈ zG) (hfs : ∀ B j, j < q.2.2 → defaultValue (ztf ci j) = vp_V (fs.map (trV B)) j) (hc : cs + 1 ≤ (zR m).cells) (hs : ss + q.2.2 ≤ (zR m).slots) (kk : wp0 m Q (pc + 3) lo (.ref n :: st) (cs + 1) (ss + q.2.2) (n + 1) (va_up f n (.inr (ci, fs)))) : wp0 m Q pc lo st cs ss n f := by
  intro p l e s mi args below meth c o n0 H locs ls C S
  have hts := C.2.2.2.2.2.1
  have hin : ∀ w ∈ u_ws q.1 q.2.1 q.2.2, w ∈ zw m := fun w h => List.mem_cons_of_mem _ (zcl_in ci q hq w h)
  have hKn := C.2.2.2.2.2.2.2.2.1.1.1 ci q hq
  have sz := zaddr C S hgm
  refine W.newcK C.1 C.2.1 C.2.2.2.2.1 (hts _ (List.mem_cons_of_mem _ hcl)) (hts _ (List.mem_cons_of_mem _ hins)) (hts _ (List.mem_cons_of_mem _ hini)) rfl hd hc hs hKn.2.1 sz fun H1 kC hkC e1 z1 o1 => ?_
  exact kk p l e s mi args below meth c o n0 H1 locs ls C (zgrow C S hgm (S.1.push ⟨_, hq, (u_born (ztf ci) hts hin hKn hkC e1 (zcl_ty ci q hq)).to (hfs o.1)⟩ o1) z1 o1)
theorem s_newaI {N : Nat} (hgm : zg m = true) (hd : decode (zb m) pc = .ok (.newarray .int, 2)) (harr : Cond.arrayClass .int ∈ zG) (hN : N < 2 ^ 20) (hc : cs + 1 ≤ (zR m).cells) (hs : ss + N ≤ (zR m).slots) (kk : wp0 m Q (pc + 2) lo (.ref n :: st) (cs + 1) (ss + N) (n + 1) (va_up f n (.inl (0, N, .inl (fun _ => 0))))) : wp0 m Q pc lo (.int (nI N) :: st) cs ss n f := by
  intro p l e s mi args below meth c o n0 H locs ls C S
  have hts := C.2.2.2.2.2.1
  have sz := zaddr C S hgm
  have hw : (Cond.arrayClass (newarray.typeOf .int)).before args s = true := hts _ (List.mem_cons_of_mem _ harr)
  refine va_newaK C.1 C.2.1 hw rfl hd rfl (nI_pos (by omega)) (nI_clamp (by omega)) (Nat.le_trans (Nat.mul_le_mul_left N (show componentBytes .int ≤ 8 from by decide)) (by omega)) hc hs sz fun H1 cA e1 z1 o1 hAr hNm => ?_
  have hra : s.vm.findClass ("[" ++ (FieldType.toString .int)) = some (o.2.2 0) := (C.2.2.2.2.2.2.2.2.1.1.2 0 _ rfl).2
  have hcA : cA = o.2.2 0 := Option.some.inj (hNm.symm.trans hra)
  subst hcA
  exact kk p l e s mi args below meth c o n0 H1 locs ls C (zgrow C S hgm (S.1.push e1 o1) z1 o1)
theorem s_newaL {N : Nat} (hgm : zg m = true) (hd : decode (zb m) pc = .ok (.newarray .long, 2)) (harr : Cond.arrayClass .long ∈ zG) (hN : N < 2 ^ 20) (hc : cs + 1 ≤ (zR m).cells) (hs : ss + N ≤ (zR m).slots) (kk : wp0 m Q (pc + 2) lo (.ref n :: st) (cs + 1) (ss + N) (n + 1) (va_up f n (.inl (1, N, .inr (.inl (fun _ => 0)))))) : wp0 m Q pc lo (.int (nI N) :: st) cs ss n f := by
  intro p l e s mi args below meth c o n0 H locs ls C S
  have hts := C.2.2.2.2.2.1
  have sz := zaddr C S hgm
  have hw : (Cond.arrayClass (newarray.typeOf .long)).before args s = true := hts _ (List.mem_cons_of_mem _ harr)
  refine va_newaK C.1 C.2.1 hw rfl hd rfl (nI_pos (by omega)) (nI_clamp (by omega)) (Nat.le_trans (Nat.mul_le_mul_left N (show componentBytes .long ≤ 8 from by decide)) (by omega)) hc hs sz fun H1 cA e1 z1 o1 hAr hNm => ?_
  have hra : s.vm.findClass ("[" ++ (FieldType.toString .long)) = some (o.2.2 1) := (C.2.2.2.2.2.2.2.2.1.1.2 1 _ rfl).2
  have hcA : cA = o.2.2 1 := Option.some.inj (hNm.symm.trans hra)
  subst hcA
  exact kk p l e s mi args below meth c o n0 H1 locs ls C (zgrow C S hgm (S.1.push e1 o1) z1 o1)
theorem s_newaZ {N : Nat} (hgm : zg m = true) (hd : decode (zb m) pc = .ok (.newarray .boolean, 2)) (harr : Cond.arrayClass .boolean ∈ zG) (hN : N < 2 ^ 20) (hc : cs + 1 ≤ (zR m).cells) (hs : ss + N ≤ (zR m).slots) (kk : wp0 m Q (pc + 2) lo (.ref n :: st) (cs + 1) (ss + N) (n + 1) (va_up f n (.inl (2, N, .inl (fun _ => 0))))) : wp0 m Q pc lo (.int (nI N) :: st) cs ss n f := by
  intro p l e s mi args below meth c o n0 H locs ls C S
  have hts := C.2.2.2.2.2.1
  have sz := zaddr C S hgm
  have hw : (Cond.arrayClass (newarray.typeOf .boolean)).before args s = true := hts _ (List.mem_cons_of_mem _ harr)
  refine va_newaK C.1 C.2.1 hw rfl hd rfl (nI_pos (by omega)) (nI_clamp (by omega)) (Nat.le_trans (Nat.mul_le_mul_left N (show componentBytes .boolean ≤ 8 from by decide)) (by omega)) hc hs sz fun H1 cA e1 z1 o1 hAr hNm => ?_
  have hra : s.vm.findClass ("[" ++ (FieldType.toString .boolean)) = some (o.2.2 2) := (C.2.2.2.2.2.2.2.2.1.1.2 2 _ rfl).2
  have hcA : cA = o.2.2 2 := Option.some.inj (hNm.symm.trans hra)
  subst hcA
  exact kk p l e s mi args below meth c o n0 H1 locs ls C (zgrow C S hgm (S.1.push e1 o1) z1 o1)
theorem s_anew {N t index : Nat} {D : String} (hgm : zg m = true) (hd : decode (zb m) pc = .ok (.anewarray index, 3)) (ht : ∀ o : Zo, (ztys o)[t]? = some (o.2.2 t, .object D)) (hcl : Cond.classLink (zy m).cls index D ∈ zG) (hov : ∀ (o : Zo) (U : State), Zk o U → va_AO D U) (hN : N < 2 ^ 20) (hc : cs + 1 ≤ (zR m).cells) (hs : ss + N ≤ (zR m).slots) (kk : wp0 m Q (pc + 3) lo (.ref n :: st) (cs + 1) (ss + N) (n + 1) (va_up f n (.inl (t, N, .inr (.inr (fun _ => none)))))) : wp0 m Q pc lo (.int (nI N) :: st) cs ss n f := by
  intro p l e s mi args below meth c o n0 H locs ls C S
  have hts := C.2.2.2.2.2.1
  have sz := zaddr C S hgm
  have eN : (nI N).toNatClampNeg = N := nI_clamp (by omega)
  refine W.anew C.1 C.2.1 C.2.2.2.2.1 (hts _ (List.mem_cons_of_mem _ hcl)) (va_AO.use (hov o s C.2.2.2.2.2.2.2.2.1)) rfl hd rfl (nI_pos (by omega)) (by rw [eN]; omega) hc (by rw [eN]; exact hs) fun cA kA comp f1 f2 f3 f4 => ?_
  obtain ⟨kA2, comp2, g2, g3, g4, g1⟩ := (C.2.2.2.2.2.2.2.2.1.1.2 t _ (ht o)).2
  have hcA : cA = o.2.2 t := Option.some.inj (f1.symm.trans g1)
  subst hcA
  rw [eN]
  generalize hH1 : H.push ({ cls := o.2.2 t, slots := Array.replicate N .null, vm := .none } : Cell) = H1
  have z1 : H1.size = o.1 + n + 1 := by rw [← hH1, Array.size_push, sz]
  have e1 : H1[o.1 + n]? = some (arrV (o.2.2 t) N (fun _ => .null)) := by rw [← hH1, ← sz, Array.getElem?_push_size, ← arrV_new]
  have o1 : ∀ q : Nat, q < o.1 + n → H1[q]? = H[q]? := fun q hq => by rw [← hH1, Array.getElem?_push, if_neg (by rw [sz]; exact Nat.ne_of_lt hq)]
  rw [sz]
  exact kk p l e s mi args below meth c o n0 H1 locs ls C (zgrow C S hgm (S.1.push e1 o1) z1 o1)
end ZNW
