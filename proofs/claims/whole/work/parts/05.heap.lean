/-! the rows of the logic that look at the world, and the calls -/
section ZHP
variable {m : Zm} {Q : Option Value → Nat → (Nat → En) → Prop} {pc : Nat} {lo lo' : List (Nat × Value)} {st : List Value} {cs ss n : Nat} {f : Nat → En}
theorem zone {D : va_G} {x : Nat × va_E} {H : Heap} (h : va_at D zcl x H) : va_P D zcl [x] H := fun k q hk => by
  have h0 : k < 1 := (List.getElem?_eq_some_iff.mp hk).1
  rw [show k = 0 by omega] at hk
  cases hk
  exact h
theorem zmem {p : Program} {s : State} {mi : MethodId} {args : Array Value} {meth : Method} {c : Code} {o : Zo} {n0 : Nat} {H : Heap} {locs : List Loc} {ls : Array Slot} (C : Zx m p s mi args meth c o n0) (S : Zs m s o n0 H locs ls lo n f) {a : Nat} (ha : a < n) : zA o.1 n0 s.heap.size (o.1 + a) := by
  obtain ⟨-, -, -, -, -, -, -, -, -, hg, hb⟩ := C
  obtain ⟨-, h1, h2, h3, -⟩ := S
  by_cases h : a < n0
  · exact Or.inl ⟨by omega, by omega⟩
  · cases hgm : zg m with
    | true =>
      have := hg hgm
      exact Or.inr (by omega)
    | false =>
      have := h3 hgm
      omega
theorem zaddr {p : Program} {s : State} {mi : MethodId} {args : Array Value} {meth : Method} {c : Code} {o : Zo} {n0 : Nat} {H : Heap} {locs : List Loc} {ls : Array Slot} (C : Zx m p s mi args meth c o n0) (S : Zs m s o n0 H locs ls lo n f) (hgm : zg m = true) : H.size = o.1 + n := by
  have h1 := C.2.2.2.2.2.2.2.2.2.1 hgm
  have h2 := S.2.2.1
  omega
theorem s_get {ci k index a : Nat} {fs : List Value} {q : vw_C} {v : Value} (hd : decode (zb m) pc = .ok (.getfield index, 3)) (hq : zcl[ci]? = some q) (hk : k < q.2.2) (hw : Cond.fieldLink (zy m).cls index (q.2.1 k).1 (q.2.1 k).2.1 (q.2.1 k).2.2.1 ∈ zG) (hf : f a = .inr (ci, fs)) (ha : a < n) (hv : fs[k]? = some v) (kk : wp0 m Q (pc + 3) lo (v :: st) cs ss n f) : wp0 m Q pc lo (.ref a :: st) cs ss n f := fun p l e s mi args below meth c o n0 H locs ls C S =>
  va_get (D := o.2.1) (ws := [(o.1 + a, trE o (f a))]) (tys := ztys o) (Ts := zw m) C.1 C.2.1 C.2.2.2.2.2.1 (fun w h => List.mem_cons_of_mem _ (zcl_in ci q hq w h)) C.2.2.2.2.1 C.2.2.2.2.2.2.2.2.1.1 (zone (S.1 a ha)) 0 (by rw [hf]; rfl) hq k hk (C.2.2.2.2.2.1 _ (List.mem_cons_of_mem _ hw)) (fun _ h => h) (by rw [List.getElem?_map, hv]; rfl) hd (kk p l e s mi args below meth c o n0 H locs ls C S)
theorem s_put {ci k index a : Nat} {fs : List Value} {q : vw_C} {v : Value} (hd : decode (zb m) pc = .ok (.putfield index, 3)) (hq : zcl[ci]? = some q) (hk : k < q.2.2) (hw : Cond.fieldLink (zy m).cls index (q.2.1 k).1 (q.2.1 k).2.1 (q.2.1 k).2.2.1 ∈ zG) (hfin : (q.2.1 k).2.2.2 = false) (hf : f a = .inr (ci, fs)) (ha : a < n) (hn : ∀ B, narrow (ztf ci k) (trV B v) = trV B v ∧ fits (ztf ci k) (trV B v) = true) (hl : k < fs.length) (kk : wp0 m Q (pc + 3) lo st cs ss n (va_up f a (.inr (ci, fs.set k v)))) : wp0 m Q pc lo (v :: .ref a :: st) cs ss n f := by
  intro p l e s mi args below meth c o n0 H locs ls C S
  have hts := C.2.2.2.2.2.1
  have hin : ∀ w ∈ u_ws q.1 q.2.1 q.2.2, w ∈ zw m := fun w h => List.mem_cons_of_mem _ (zcl_in ci q hq w h)
  have hK := C.2.2.2.2.2.2.2.2.1.1
  have hap := va_apart (own := (zy m).cls) (C := q.1) (T := q.2.1) (N := q.2.2) hts hin (ztf ci) (zcl_ty ci q hq) (zcl_nm ci q hq) hK hq
  have hat := S.1 a ha
  rw [hf] at hat
  obtain ⟨r, h1, cell, q1, q2, q3, q4⟩ := hat
  have hr : r = q := Option.some.inj (h1.symm.trans hq)
  subst hr
  obtain ⟨hS, hfc, kC, hkC, hkind⟩ := hK.1 ci _ hq
  obtain ⟨cf, kf, fi, fd, hi, hsl⟩ := hS k hk
  have hlay := hts _ (hin _ (u_in_lay hk))
  unfold u_lay at hlay
  rw [if_neg (by rw [hfin]; decide)] at hlay
  have hst := (u_facts hfc hkC (u_lays hts hin hk) hi).1
  have h6 := u_store hfc hkC hkind hlay hi (zcl_ty ci r hq k hk) (hn o.1).1 (hn o.1).2
  refine W.putK C.1 C.2.1 (f := fd) ⟨C.2.2.2.2.1, hts _ (List.mem_cons_of_mem _ hw), ⟨_, _, _, hi⟩, hst⟩ (by rw [q2]; exact h6) q1 q3 (by rw [hsl]; exact k2_hasslot (q4 k hk)) rfl rfl hd fun H' e1 e2 e3 => ?_
  rw [hsl] at e1 ⊢
  refine kk p l e s mi args below meth c o n0 H' _ ls C ⟨S.1.put (e := .inr (ci, fs.set k v)) ?_ e3, S.2.1, by rw [e2]; exact S.2.2.1, S.2.2.2.1, S.2.2.2.2.1.put e2 e3 (zmem C S ha), S.2.2.2.2.2⟩
  refine ⟨_, hq, t_OB.to (V := updV (vp_V (fs.map (trV o.1))) k (trV o.1 v)) ⟨_, e1, q2, q3, t_set q4 hap hk (trV o.1 v)⟩ (fun j _ => ?_)⟩
  rw [List.map_set]
  exact vp_updV_set (by rw [List.length_map]; exact hl) _ j
theorem s_putF {ci k index a : Nat} {fs : List Value} {q : vw_C} {v : Value} (hd : decode (zb m) pc = .ok (.putfield index, 3)) (hq : zcl[ci]? = some q) (hk : k < q.2.2) (hw : Cond.fieldLink (zy m).cls index (q.2.1 k).1 (q.2.1 k).2.1 (q.2.1 k).2.2.1 ∈ zG) (hfin : (q.2.1 k).2.2.2 = true) (hini : (zy m).name = "<init>") (hdecl : (q.2.1 k).1 = (zy m).cls) (hf : f a = .inr (ci, fs)) (ha : a < n) (hn : ∀ B, narrow (ztf ci k) (trV B v) = trV B v ∧ fits (ztf ci k) (trV B v) = true) (hl : k < fs.length) (kk : wp0 m Q (pc + 3) lo st cs ss n (va_up f a (.inr (ci, fs.set k v)))) : wp0 m Q pc lo (v :: .ref a :: st) cs ss n f := by
  intro p l e s mi args below meth c o n0 H locs ls C S
  have hts := C.2.2.2.2.2.1
  have hown := C.2.2.2.2.1
  have hin : ∀ w ∈ u_ws q.1 q.2.1 q.2.2, w ∈ zw m := fun w h => List.mem_cons_of_mem _ (zcl_in ci q hq w h)
  have hK := C.2.2.2.2.2.2.2.2.1.1
  have hap := va_apart (own := (zy m).cls) (C := q.1) (T := q.2.1) (N := q.2.2) hts hin (ztf ci) (zcl_ty ci q hq) (zcl_nm ci q hq) hK hq
  have hat := S.1 a ha
  rw [hf] at hat
  obtain ⟨r, h1, cell, q1, q2, q3, q4⟩ := hat
  have hr : r = q := Option.some.inj (h1.symm.trans hq)
  subst hr
  obtain ⟨hS, hfc, kC, hkC, hkind⟩ := hK.1 ci _ hq
  obtain ⟨cf, kf, fi, fd, hi, hsl⟩ := hS k hk
  have hlay := hts _ (hin _ (u_in_lay hk))
  unfold u_lay at hlay
  rw [if_pos hfin] at hlay
  have hst := (u_facts hfc hkC (u_lays hts hin hk) hi).1
  have hcf : mi.cls = cf := by
    obtain ⟨_, _, c', _, _, _, -, -, hf', -, -, -, hown2, -⟩ := Cond.laysFinal_spec hlay
    have e1 : c' = cf := by have := hi.symm.trans hf'; simp at this; exact this.1.symm
    rw [hdecl] at hown2
    rw [← e1]; exact Option.some.inj (hown.symm.trans hown2)
  have h6 := u_fits hfc hkC hkind (Or.inr hlay) hi (zcl_ty ci r hq k hk) (hn o.1).1 (hn o.1).2
  refine W.putFinK C.1 C.2.1 hown (hts _ (List.mem_cons_of_mem _ hw)) hi hst hcf (C.2.2.2.2.2.2.2.1.trans hini) (by rw [q2]; exact h6) q1 q3 (by rw [hsl]; exact k2_hasslot (q4 k hk)) rfl rfl hd fun H' e1 e2 e3 => ?_
  rw [hsl] at e1 ⊢
  refine kk p l e s mi args below meth c o n0 H' _ ls C ⟨S.1.put (e := .inr (ci, fs.set k v)) ?_ e3, S.2.1, by rw [e2]; exact S.2.2.1, S.2.2.2.1, S.2.2.2.2.1.put e2 e3 (zmem C S ha), S.2.2.2.2.2⟩
  refine ⟨_, hq, t_OB.to (V := updV (vp_V (fs.map (trV o.1))) k (trV o.1 v)) ⟨_, e1, q2, q3, t_set q4 hap hk (trV o.1 v)⟩ (fun j _ => ?_)⟩
  rw [List.map_set]
  exact vp_updV_set (by rw [List.length_map]; exact hl) _ j
theorem s_iald {a len : Nat} {g : Nat → Int32} {i : Int32} (hd : decode (zb m) pc = .ok (.iaload, 1)) (hf : f a = .inl (0, len, .inl g)) (ha : a < n) (hin : vp_in i len) (kk : wp0 m Q (pc + 1) lo (.int (g i.toNatClampNeg) :: st) cs ss n f) : wp0 m Q pc lo (.int i :: .ref a :: st) cs ss n f := fun p l e s mi args below meth c o n0 H locs ls C S =>
  va_iald (D := o.2.1) (ws := [(o.1 + a, trE o (f a))]) (tys := ztys o) C.1 C.2.1 C.2.2.2.2.2.2.2.2.1.1 (zone (S.1 a ha)) 0 0 (by rw [hf]; rfl) rfl hin hd (kk p l e s mi args below meth c o n0 H locs ls C S)
theorem s_zald {a len : Nat} {g : Nat → Int32} {i : Int32} (hd : decode (zb m) pc = .ok (.baload, 1)) (hf : f a = .inl (2, len, .inl g)) (ha : a < n) (hin : vp_in i len) (kk : wp0 m Q (pc + 1) lo (.int (g i.toNatClampNeg) :: st) cs ss n f) : wp0 m Q pc lo (.int i :: .ref a :: st) cs ss n f := fun p l e s mi args below meth c o n0 H locs ls C S =>
  va_zald (D := o.2.1) (ws := [(o.1 + a, trE o (f a))]) (tys := ztys o) C.1 C.2.1 C.2.2.2.2.2.2.2.2.1.1 (zone (S.1 a ha)) 0 2 (by rw [hf]; rfl) rfl hin hd (kk p l e s mi args below meth c o n0 H locs ls C S)
theorem s_lald {a len : Nat} {g : Nat → Int64} {i : Int32} (hd : decode (zb m) pc = .ok (.laload, 1)) (hf : f a = .inl (1, len, .inr (.inl g))) (ha : a < n) (hin : vp_in i len) (kk : wp0 m Q (pc + 1) lo (.long (g i.toNatClampNeg) :: st) cs ss n f) : wp0 m Q pc lo (.int i :: .ref a :: st) cs ss n f := fun p l e s mi args below meth c o n0 H locs ls C S =>
  va_lald (D := o.2.1) (ws := [(o.1 + a, trE o (f a))]) (tys := ztys o) C.1 C.2.1 C.2.2.2.2.2.2.2.2.1.1 (zone (S.1 a ha)) 0 1 (by rw [hf]; rfl) rfl hin hd (kk p l e s mi args below meth c o n0 H locs ls C S)
theorem s_aald {t a b len : Nat} {ty : FieldType} {g : Nat → Option Nat} {i : Int32} (hd : decode (zb m) pc = .ok (.aaload, 1)) (ht : ∀ o : Zo, (ztys o)[t]? = some (o.2.2 t, ty)) (hty : ty.isReference = true) (hf : f a = .inl (t, len, .inr (.inr g))) (ha : a < n) (hin : vp_in i len) (hg : g i.toNatClampNeg = some b) (kk : wp0 m Q (pc + 1) lo (.ref b :: st) cs ss n f) : wp0 m Q pc lo (.int i :: .ref a :: st) cs ss n f := by
  intro p l e s mi args below meth c o n0 H locs ls C S
  have hlt : i.toNatClampNeg < len := Nat.not_le.mp fun q => hin (Or.inr q)
  have hat := S.1 a ha
  rw [hf] at hat
  have hat : H[o.1 + a]? = some (arrV (o.2.2 t) len (fun j => va_rf ((g j).map (fun a => o.1 + a)))) := hat
  refine W.aald (v := .ref (o.1 + b)) (ty := ty) C.1 C.2.1 hat ((C.2.2.2.2.2.2.2.2.1.1.2 t _ (ht o)).1 len (fun j => va_rf ((g j).map (fun a => o.1 + a)))) hty (fun q => by cases q) (by rw [arrV_size]; exact hin) (by rw [arrV_read _ _ hlt, hg]; rfl) rfl rfl hd (kk p l e s mi args below meth c o n0 H locs ls C S)
theorem s_alen {t a len : Nat} {ty : FieldType} {g : (Nat → Int32) ⊕ (Nat → Int64) ⊕ (Nat → Option Nat)} (hd : decode (zb m) pc = .ok (.arraylength, 1)) (ht : ∀ o : Zo, (ztys o)[t]? = some (o.2.2 t, ty)) (hf : f a = .inl (t, len, g)) (ha : a < n) (kk : wp0 m Q (pc + 1) lo (.int (Int32.ofNat len) :: st) cs ss n f) : wp0 m Q pc lo (.ref a :: st) cs ss n f := by
  intro p l e s mi args below meth c o n0 H locs ls C S
  have kk' := kk p l e s mi args below meth c o n0 H locs ls C S
  obtain g | g | g := g
  · exact va_alen (D := o.2.1) (x := (len, .inl g)) (ws := [(o.1 + a, trE o (f a))]) (tys := ztys o) C.1 C.2.1 C.2.2.2.2.2.2.2.2.1.1 (zone (S.1 a ha)) 0 t (by rw [hf]; rfl) (ht o) rfl hd kk'
  · exact va_alen (D := o.2.1) (x := (len, .inr (.inl g))) (ws := [(o.1 + a, trE o (f a))]) (tys := ztys o) C.1 C.2.1 C.2.2.2.2.2.2.2.2.1.1 (zone (S.1 a ha)) 0 t (by rw [hf]; rfl) (ht o) rfl hd kk'
  · exact va_alen (D := o.2.1) (x := (len, .inr (.inr (.inr (.inr (fun i => (g i).map (fun a => o.1 + a))))))) (ws := [(o.1 + a, trE o (f a))]) (tys := ztys o) C.1 C.2.1 C.2.2.2.2.2.2.2.2.1.1 (zone (S.1 a ha)) 0 t (by rw [hf]; rfl) (ht o) rfl hd kk'
theorem s_iast {a len : Nat} {g : Nat → Int32} {i x : Int32} (hd : decode (zb m) pc = .ok (.iastore, 1)) (hf : f a = .inl (0, len, .inl g)) (ha : a < n) (hin : vp_in i len) (kk : wp0 m Q (pc + 1) lo st cs ss n (va_up f a (.inl (0, len, .inl (upd g i.toNatClampNeg x))))) : wp0 m Q pc lo (.int x :: .int i :: .ref a :: st) cs ss n f := by
  intro p l e s mi args below meth c o n0 H locs ls C S
  have hat := S.1 a ha
  rw [hf] at hat
  have hat : H[o.1 + a]? = some (arrV (o.2.2 0) len (fun j => .int (g j))) := hat
  refine W.iast C.1 C.2.1 hat ((C.2.2.2.2.2.2.2.2.1.1.2 0 _ rfl).1 len (fun j => .int (g j))) (fun q => by cases q) (by rw [arrV_size]; exact hin) rfl rfl hd fun H1 ee z oq => ?_
  refine kk p l e s mi args below meth c o n0 H1 _ ls C ⟨S.1.put ?_ oq, S.2.1, by rw [z]; exact S.2.2.1, S.2.2.2.1, S.2.2.2.2.1.put z oq (zmem C S ha), S.2.2.2.2.2⟩
  show H1[o.1 + a]? = some (vp_cell _ _)
  rw [ee, vp_cell_i, arrV_store]
  congr 2
  funext q
  by_cases hq : q = i.toNatClampNeg
  · subst hq
    simp [updV, upd]
  · simp [updV, upd, hq]
theorem s_zast {a len : Nat} {g : Nat → Int32} {i x : Int32} (hd : decode (zb m) pc = .ok (.bastore, 1)) (hf : f a = .inl (2, len, .inl g)) (ha : a < n) (hin : vp_in i len) (kk : wp0 m Q (pc + 1) lo st cs ss n (va_up f a (.inl (2, len, .inl (upd g i.toNatClampNeg (vp_nar .boolean x)))))) : wp0 m Q pc lo (.int x :: .int i :: .ref a :: st) cs ss n f := by
  intro p l e s mi args below meth c o n0 H locs ls C S
  have hat := S.1 a ha
  rw [hf] at hat
  have hat : H[o.1 + a]? = some (arrV (o.2.2 2) len (fun j => .int (g j))) := hat
  refine W.zast C.1 C.2.1 hat ((C.2.2.2.2.2.2.2.2.1.1.2 2 _ rfl).1 len (fun j => .int (g j))) (fun q => by cases q) (by rw [arrV_size]; exact hin) rfl rfl hd fun H1 ee z oq => ?_
  refine kk p l e s mi args below meth c o n0 H1 _ ls C ⟨S.1.put ?_ oq, S.2.1, by rw [z]; exact S.2.2.1, S.2.2.2.1, S.2.2.2.2.1.put z oq (zmem C S ha), S.2.2.2.2.2⟩
  show H1[o.1 + a]? = some (vp_cell _ _)
  rw [ee, vp_cell_i, arrV_store]
  congr 2
  funext q
  by_cases hq : q = i.toNatClampNeg
  · subst hq
    simp [updV, upd, vp_nar]
    try rfl
  · simp [updV, upd, hq]
theorem s_last {a len : Nat} {g : Nat → Int64} {i : Int32} {x : Int64} (hd : decode (zb m) pc = .ok (.lastore, 1)) (hf : f a = .inl (1, len, .inr (.inl g))) (ha : a < n) (hin : vp_in i len) (kk : wp0 m Q (pc + 1) lo st cs ss n (va_up f a (.inl (1, len, .inr (.inl (vp_updL g i.toNatClampNeg x)))))) : wp0 m Q pc lo (.long x :: .int i :: .ref a :: st) cs ss n f := by
  intro p l e s mi args below meth c o n0 H locs ls C S
  have hat := S.1 a ha
  rw [hf] at hat
  have hat : H[o.1 + a]? = some (arrV (o.2.2 1) len (fun j => .long (g j))) := hat
  refine W.last C.1 C.2.1 hat ((C.2.2.2.2.2.2.2.2.1.1.2 1 _ rfl).1 len (fun j => .long (g j))) (fun q => by cases q) (by rw [arrV_size]; exact hin) rfl rfl hd fun H1 ee z oq => ?_
  refine kk p l e s mi args below meth c o n0 H1 _ ls C ⟨S.1.put ?_ oq, S.2.1, by rw [z]; exact S.2.2.1, S.2.2.2.1, S.2.2.2.2.1.put z oq (zmem C S ha), S.2.2.2.2.2⟩
  show H1[o.1 + a]? = some (vp_cell _ _)
  rw [ee, vp_cell_l, arrV_store]
  congr 2
  funext q
  by_cases hq : q = i.toNatClampNeg
  · subst hq
    simp [updV, vp_updL]
  · simp [updV, vp_updL, hq]
theorem s_aast {t a b len cib : Nat} {g : Nat → Option Nat} {i : Int32} {r : vw_C} {fsb : List Value} (hd : decode (zb m) pc = .ok (.aastore, 1)) (ht : ∀ o : Zo, (ztys o)[t]? = some (o.2.2 t, .object r.1)) (hf : f a = .inl (t, len, .inr (.inr g))) (ha : a < n) (hin : vp_in i len) (hfb : f b = .inr (cib, fsb)) (hb : b < n) (hr : zcl[cib]? = some r) (kk : wp0 m Q (pc + 1) lo st cs ss n (va_up f a (.inl (t, len, .inr (.inr (va_up g i.toNatClampNeg (some b))))))) : wp0 m Q pc lo (.ref b :: .int i :: .ref a :: st) cs ss n f := by
  intro p l e s mi args below meth c o n0 H locs ls C S
  have hK := C.2.2.2.2.2.2.2.2.1.1
  have hat := S.1 a ha
  rw [hf] at hat
  have hat : H[o.1 + a]? = some (arrV (o.2.2 t) len (fun j => va_rf ((g j).map (fun a => o.1 + a)))) := hat
  have hbt := S.1 b hb
  rw [hfb] at hbt
  have hlt : i.toNatClampNeg < len := Nat.not_le.mp fun q => hin (Or.inr q)
  have h0 : ¬ i < 0 := fun q => hin (Or.inl q)
  obtain ⟨r', hr', cellV, g1, g2, g3, -⟩ := hbt
  have hcls := (hK.1 cib r hr).2
  obtain ⟨kA, comp, k1, k2, k3, -⟩ := (hK.2 t _ (ht o)).2
  have hcomp : comp = o.2.1.1 cib := Option.some.inj (k3.symm.trans hcls.1)
  subst hcomp
  obtain ⟨kC, hkC, -⟩ := hcls.2
  refine W.aast C.1 C.2.1 hat (fun q h => by cases h) (fun h => by cases h) k1 k2 rfl hkC ⟨h0, by rw [arrV_size]; exact hlt⟩ g1 (fun q h => by rw [g3] at h; cases h) (by rw [g2]; exact hkC) (by rw [g2]; exact va_assign hcls) rfl rfl hd fun H1 ee z oq => ?_
  refine kk p l e s mi args below meth c o n0 H1 _ ls C ⟨S.1.put ?_ oq, S.2.1, by rw [z]; exact S.2.2.1, S.2.2.2.1, S.2.2.2.2.1.put z oq (zmem C S ha), S.2.2.2.2.2⟩
  show H1[o.1 + a]? = some (vp_cell _ _)
  rw [ee, vp_cell_q, arrV_store]
  congr 2
  funext q
  by_cases hq : q = i.toNatClampNeg
  · subst hq
    simp [updV, va_up, va_rf]
  · simp [updV, va_up, hq]
end ZHP
