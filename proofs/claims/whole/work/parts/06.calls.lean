/-! the rows of the logic that call -/
/-- a call's static part: room, and what the tables say of the method -/
def Zc (m m' : Zm) (index np : Nat) : Prop := (zR m').frames + 1 ≤ (zR m).frames ∧ 8 + (zl m' + 11) + (zR m').locals ≤ (zR m).locals ∧ (zg m' = true → zg m = true) ∧ Cond.code (zy m') (zb m') (zl m') (zr m') ∈ zG ∧ Cond.initialized (zy m').cls ∈ zG ∧ ((zy m').cls ≠ "java/lang/invoke/MethodHandle" ∧ (zy m').cls ≠ "java/lang/invoke/VarHandle") ∧ (parseMethodDescriptor (zy m').desc).map (fun d => d.parameters.length) = some np
section ZCA
variable {m m' : Zm} {Q Q' : Option Value → Nat → (Nat → En) → Prop} {pc : Nat} {lo lo' : List (Nat × Value)} {st st0 : List Value} {cs ss n : Nat} {f : Nat → En} {as : List Value} {index np : Nat}
theorem zpay {s : State} {args : Array Value} (h : ∀ w ∈ zw m, w.before args s = true) (hc : Cond.code (zy m') (zb m') (zl m') (zr m') ∈ zG) : ∀ w ∈ zw m', ∀ (a' : Array Value) (U : State), s.WarmedH U.vm → w.before a' U = true := by
  intro w hw a' U hW
  have hg : w ∈ zG := by
    rcases List.mem_cons.mp hw with rfl | hw
    · exact hc
    · exact hw
  exact word_at hW (zg_good hg) (h w (List.mem_cons_of_mem _ hg))
theorem zcb {p : Program} {s : State} {mi : MethodId} {args : Array Value} {meth : Method} {c : Code} {o : Zo} {n0 : Nat} (C : Zx m p s mi args meth c o n0) (hz : Zc m m' index np) (hl : Cond.methodLink (zy m).cls index (zy m') ∈ zG) : CallB (headSpec (zw m) (zR m)).room s args (zy m).cls index (zy m') (zb m') (zl m') (zr m') (zw m') (zR m') (zR m').cells (zR m').slots np := by
  have hts := C.2.2.2.2.2.1
  obtain ⟨h1, h2, -, h4, h5, h6, h7⟩ := hz
  exact ⟨rfl, rfl, h1, h2, zpay hts h4, List.mem_cons_self, hts _ (List.mem_cons_of_mem _ h4), hts _ (List.mem_cons_of_mem _ h5), h6, fun sig h => by rw [h] at h7; exact (Option.some.inj h7).symm, hts _ (List.mem_cons_of_mem _ hl)⟩
/-- behind a call -/
theorem zback {p : Program} {l : Launch} {e : Env} {s : State} {mi : MethodId} {args : Array Value} {below : List Frame} {meth : Method} {c : Code} {o : Zo} {n0 : Nat} {H : Heap} {locs : List Loc} {ls : Array Slot} (C : Zx m p s mi args meth c o n0) (S : Zs m s o n0 H locs ls lo n f) (hgg : zg m' = true → zg m = true) {a : Array Value}
    (hr : va_Run p l e (headSpec (zw m) (zR m)).room s mi args below meth c H locs cs ss (zR m').cells (zR m').slots (F0 mi pc ls (st0.map (trV o.1))) (st.map (trV o.1)) (Zq m' o n Q' (zA o.1 n H.size) a) (zA o.1 n H.size))
    (kk : ∀ (v : Option Value) (n' : Nat) (f' : Nat → En), Q' v n' f' → wp0 m Q (pc + 3) lo (v.toList ++ st) (cs + (zR m').cells) (ss + (zR m').slots) n' f') :
    W p l e (headSpec (zw m) (zR m)).room s mi args below meth c H locs cs ss (MQ below (Zq m o n0 Q (zA o.1 n0 s.heap.size)) args s (zR m).cells (zR m).slots (zA o.1 n0 s.heap.size)) (F0 mi pc ls (st0.map (trV o.1))) := by
  intro T hT X
  obtain ⟨v, st₀, t, T', L, h0, X', hL, e1, e2, ⟨⟨v', n', f', hv, hq, hn, hH, hsz, hg⟩, hz, hk⟩, stp⟩ := hr T hT X
  cases hv
  rw [h0] at hz hk hsz
  have hA : ∀ q, zA o.1 n H.size q → zA o.1 n0 s.heap.size q := by
    intro q hq
    have hS1 := S.2.2.2.2.1.1
    rcases hq with ⟨g1, g2⟩ | g1
    · have := zmem C S (a := q - o.1) (by omega)
      rwa [show o.1 + (q - o.1) = q by omega] at this
    · exact Or.inr (by omega)
  obtain ⟨t2, a1, b1⟩ := kk v' n' f' hq p l e s mi args below meth c o n0 T'.heap (locs ++ L) ls C
    ⟨by rw [e1]; exact hH, Nat.le_trans S.2.1 hn, by rw [e1]; have := S.2.2.1; omega, fun hgm => by
      have h1 := S.2.2.2.1 hgm
      have h2 : zg m' = false := by
        cases hgm' : zg m' with
        | false => rfl
        | true => rw [hgg hgm'] at hgm; cases hgm
      have h3 := hg h2
      omega,
     ⟨Nat.le_trans S.2.2.2.2.1.1 (by rw [e1]; exact hz), fun q h1 h2 => by
        rw [e1, hk q (Nat.lt_of_lt_of_le h1 S.2.2.2.2.1.1) (fun z => h2 (hA q z))]
        exact S.2.2.2.2.1.2.1 q h1 h2, fun q hq => by
        rcases List.mem_append.mp hq with h | h
        · exact S.2.2.2.2.1.2.2 q h
        · exact hA _ (hL q h)⟩, S.2.2.2.2.2⟩ T' rfl X'
  refine ⟨t2, ?_, b1⟩
  refine stp t2 ?_
  have e3 : (v'.map (trV o.1)).toList ++ st.map (trV o.1) = (v'.toList ++ st).map (trV o.1) := by
    cases v' <;> rfl
  show Steps p.tables e below (T'.setTop (F0 mi (pc + 3) ls ((v'.map (trV o.1)).toList ++ st.map (trV o.1)))) t2
  rw [e3]
  exact a1
theorem zcat (B : Nat) : ∀ st : List Value, ((st.map (trV B)).map fun v => v.category).sum = (st.map fun v => v.category).sum
  | [] => rfl
  | v :: vs => by
    have := zcat B vs
    simp only [List.map_cons, List.sum_cons, trV_cat, this]
theorem zpre {p : Program} {s : State} {mi : MethodId} {args : Array Value} {meth : Method} {c : Code} {o : Zo} {n0 : Nat} {H : Heap} {locs : List Loc} {ls : Array Slot} (C : Zx m p s mi args meth c o n0) (S : Zs m s o n0 H locs ls lo n f) (hgg : zg m' = true → zg m = true) : ∀ U : State, U.heap = H → s.WarmedH U.vm → (va_Pc (as.map (trV o.1)) (fun U => U.heap.size = H.size ∧ Hw o n f U.heap ∧ Zk o U ∧ (zg m' = true → H.size = o.1 + n) ∧ o.1 + n ≤ H.size)) (as.map (trV o.1)).toArray U := by
  intro U hU hW
  refine ⟨rfl, by rw [hU], by rw [hU]; exact S.1, Zk.warm hW C.2.2.2.2.2.2.2.2.1, fun hg => zaddr C S (hgg hg), ?_⟩
  have h1 := C.2.2.2.2.2.2.2.2.2.2
  have h2 := S.2.2.1
  omega
theorem zblind {n2 sz : Nat} {o : Zo} {gg : Bool} : FrameBlind (va_Pc as (fun U => U.heap.size = sz ∧ Hw o n f U.heap ∧ Zk o U ∧ (gg = true → sz = o.1 + n) ∧ o.1 + n ≤ sz)) := fun a U g mk q => by
  obtain ⟨q0, q1, q2, q3, q4⟩ := q
  exact ⟨q0, q1, q2, Zk.same (u := U) (U := U.calling g mk a) rfl q3, q4⟩
theorem s_callV {b ci : Nat} {fs : List Value} {q : vw_C} (hd : decode (zb m) pc = .ok (.invokevirtual index, 3)) (hz : Zc m m' index np) (hl : Cond.methodLink (zy m).cls index (zy m') ∈ zG) (hi : Cond.instanceMethod (zy m') ∈ zG) (hs : Cond.selects (zy m').cls (zy m') (zy m') ∈ zG) (hq : zcl[ci]? = some q) (hqn : q.1 = (zy m').cls) (hf : f b = .inr (ci, fs)) (hb : b < n) (hst : st0 = as.reverse ++ .ref b :: st) (hn : as.length = np) (hW : (st.map fun v => v.category).sum ≤ 8) (hc : cs + (zR m').cells ≤ (zR m).cells) (hs2 : ss + (zR m').slots ≤ (zR m).slots)
    (hM : Call0 m' (.ref b :: as) n f Q') (kk : ∀ (v : Option Value) (n' : Nat) (f' : Nat → En), Q' v n' f' → wp0 m Q (pc + 3) lo (v.toList ++ st) (cs + (zR m').cells) (ss + (zR m').slots) n' f') : wp0 m Q pc lo st0 cs ss n f := by
  subst hst
  intro p l e s mi args below meth c o n0 H locs ls C S
  have hts := C.2.2.2.2.2.1
  refine zback (Q' := Q') (st := st) (a := (Value.ref (o.1 + b) :: as.map (trV o.1)).toArray) C S hz.2.2.1 ?_ kk
  exact va_runV (As := as.map (trV o.1)) (rest := st.map (trV o.1)) (b := o.1 + b) (C := (zy m').cls) (g := F0 mi pc ls ((as.reverse ++ .ref b :: st).map (trV o.1))) (cells := cs) (slots := ss) (locs := locs) (H := H)
    (S := (⟨C.1, C.2.1, C.2.2.2.1, C.2.2.2.2.1, hts⟩ : CallFix p mi c (zb m) (zl m) s args (zw m) (zy m).cls)) (hM l o H.size) ⟨zcb C hz hl, hts _ (List.mem_cons_of_mem _ hi), hts _ (List.mem_cons_of_mem _ hs)⟩
    ⟨zblind (n2 := 0), by
      have hbt := S.1 b hb
      rw [hf] at hbt
      obtain ⟨q', h1, cell, g1, g2, g3, -⟩ := hbt
      exact ⟨cell, g1, by rw [g3]; rfl, by rw [g2, ← hqn]; exact (C.2.2.2.2.2.2.2.2.1.1.1 ci q hq).2.1⟩, zpre (as := .ref b :: as) C S hz.2.2.1⟩
    rfl (by rw [List.length_map]; exact hn) S.2.2.2.2.2.1 (by show ((as.reverse ++ .ref b :: st).map (trV o.1)) = _; rw [List.map_append, List.map_reverse]; rfl) (lv_room (by rw [zcat]; exact hW)) hd ⟨hc, hs2⟩
theorem s_callS (hd : decode (zb m) pc = .ok (.invokestatic index, 3)) (hz : Zc m m' index np) (hl : Cond.methodLink (zy m).cls index (zy m') ∈ zG) (hi : Cond.static (zy m') ∈ zG) (hst : st0 = as.reverse ++ st) (hn : as.length = np) (hW : (st.map fun v => v.category).sum ≤ 8) (hc : cs + (zR m').cells ≤ (zR m).cells) (hs2 : ss + (zR m').slots ≤ (zR m).slots)
    (hM : Call0 m' as n f Q') (kk : ∀ (v : Option Value) (n' : Nat) (f' : Nat → En), Q' v n' f' → wp0 m Q (pc + 3) lo (v.toList ++ st) (cs + (zR m').cells) (ss + (zR m').slots) n' f') : wp0 m Q pc lo st0 cs ss n f := by
  subst hst
  intro p l e s mi args below meth c o n0 H locs ls C S
  have hts := C.2.2.2.2.2.1
  refine zback (Q' := Q') (st := st) (a := (as.map (trV o.1)).toArray) C S hz.2.2.1 ?_ kk
  exact va_runS (As := as.map (trV o.1)) (rest := st.map (trV o.1)) (g := F0 mi pc ls ((as.reverse ++ st).map (trV o.1))) (cells := cs) (slots := ss) (locs := locs) (H := H)
    (S := (⟨C.1, C.2.1, C.2.2.2.1, C.2.2.2.2.1, hts⟩ : CallFix p mi c (zb m) (zl m) s args (zw m) (zy m).cls)) (hM l o H.size) ⟨zcb C hz hl, hts _ (List.mem_cons_of_mem _ hi)⟩
    ⟨zblind (n2 := 0), zpre (as := as) C S hz.2.2.1⟩
    rfl (by rw [List.length_map]; exact hn) S.2.2.2.2.2.1 (by show ((as.reverse ++ st).map (trV o.1)) = _; rw [List.map_append, List.map_reverse]) (lv_room (by rw [zcat]; exact hW)) hd ⟨hc, hs2⟩
theorem s_callI {b : Nat} (hd : decode (zb m) pc = .ok (.invokespecial index, 3)) (hz : Zc m m' index np) (hl : Cond.methodLink (zy m).cls index (zy m') ∈ zG) (hi : Cond.instanceMethod (zy m') ∈ zG) (hni : (zy m').name = "<init>") (hrn : zr m' = none) (hst : st0 = as.reverse ++ .ref b :: st) (hn : as.length = np) (hW : (st.map fun v => v.category).sum ≤ 8) (hc : cs + (zR m').cells ≤ (zR m).cells) (hs2 : ss + (zR m').slots ≤ (zR m).slots)
    (hM : Call0 m' (.ref b :: as) n f Q') (kk : ∀ (v : Option Value) (n' : Nat) (f' : Nat → En), Q' v n' f' → wp0 m Q (pc + 3) lo (v.toList ++ st) (cs + (zR m').cells) (ss + (zR m').slots) n' f') : wp0 m Q pc lo st0 cs ss n f := by
  subst hst
  intro p l e s mi args below meth c o n0 H locs ls C S
  have hts := C.2.2.2.2.2.1
  have hcb := zcb C hz hl
  rw [hrn] at hcb
  refine zback (Q' := Q') (st := st) (a := (Value.ref (o.1 + b) :: as.map (trV o.1)).toArray) C S hz.2.2.1 ?_ kk
  exact va_runI (As := as.map (trV o.1)) (rest := st.map (trV o.1)) (b := o.1 + b) (g := F0 mi pc ls ((as.reverse ++ .ref b :: st).map (trV o.1))) (cells := cs) (slots := ss) (locs := locs) (H := H)
    (S := (⟨C.1, C.2.1, C.2.2.2.1, C.2.2.2.2.1, hts⟩ : CallFix p mi c (zb m) (zl m) s args (zw m) (zy m).cls)) (hM l o H.size) ⟨hcb, hni, hts _ (List.mem_cons_of_mem _ hi)⟩
    ⟨zblind (n2 := 0), zpre (as := .ref b :: as) C S hz.2.2.1⟩
    rfl (by rw [List.length_map]; exact hn) S.2.2.2.2.2.1 (by show ((as.reverse ++ .ref b :: st).map (trV o.1)) = _; rw [List.map_append, List.map_reverse]; rfl) (lv_room (by rw [zcat]; exact hW)) hd ⟨hc, hs2⟩
/-- a nest mate's private constructor -/
theorem s_callN {b : Nat} {host : String} (hd : decode (zb m) pc = .ok (.invokespecial index, 3)) (hz : Zc m m' index np) (hl : ((zy m).cls, index, zy m', host) ∈ znest) (hi : Cond.instanceMethod (zy m') ∈ zG) (hni : (zy m').name = "<init>") (hrn : zr m' = none) (hst : st0 = as.reverse ++ .ref b :: st) (hn : as.length = np) (hW : (st.map fun v => v.category).sum ≤ 8) (hc : cs + (zR m').cells ≤ (zR m).cells) (hs2 : ss + (zR m').slots ≤ (zR m).slots)
    (hM : Call0 m' (.ref b :: as) n f Q') (kk : ∀ (v : Option Value) (n' : Nat) (f' : Nat → En), Q' v n' f' → wp0 m Q (pc + 3) lo (v.toList ++ st) (cs + (zR m').cells) (ss + (zR m').slots) n' f') : wp0 m Q pc lo st0 cs ss n f := by
  subst hst
  intro p l e s mi args below meth c o n0 H locs ls C S
  have hts := C.2.2.2.2.2.1
  obtain ⟨h1, h2, h3, h4, h5, h6, h7⟩ := id hz
  have hcb : va_CN (headSpec (zw m) (zR m)).room s args (zy m).cls index (zy m') host (zb m') (zl m') none (zw m') (zR m') (zR m').cells (zR m').slots np := by
    rw [← hrn]
    exact ⟨⟨rfl, rfl, h1, h2, zpay hts h4, List.mem_cons_self⟩, hts _ (List.mem_cons_of_mem _ h4), hts _ (List.mem_cons_of_mem _ h5), h6, fun sig h => by rw [h] at h7; exact (Option.some.inj h7).symm, va_Nw.use rfl (C.2.2.2.2.2.2.2.2.1.2.2 _ hl)⟩
  refine zback (Q' := Q') (st := st) (a := (Value.ref (o.1 + b) :: as.map (trV o.1)).toArray) C S hz.2.2.1 ?_ kk
  exact va_runIN (As := as.map (trV o.1)) (rest := st.map (trV o.1)) (b := o.1 + b) (g := F0 mi pc ls ((as.reverse ++ .ref b :: st).map (trV o.1))) (cells := cs) (slots := ss) (locs := locs) (H := H)
    (S := (⟨C.1, C.2.1, C.2.2.2.1, C.2.2.2.2.1, hts⟩ : CallFix p mi c (zb m) (zl m) s args (zw m) (zy m).cls)) (hM l o H.size) ⟨hcb, hni, hts _ (List.mem_cons_of_mem _ hi)⟩
    ⟨zblind (n2 := 0), zpre (as := .ref b :: as) C S hz.2.2.1⟩
    rfl (by rw [List.length_map]; exact hn) S.2.2.2.2.2.1 (by show ((as.reverse ++ .ref b :: st).map (trV o.1)) = _; rw [List.map_append, List.map_reverse]; rfl) (lv_room (by rw [zcat]; exact hW)) hd ⟨hc, hs2⟩
theorem s_objInit {a : Nat} (hd : decode (zb m) pc = .ok (.invokespecial index, 3)) (hl : Cond.methodLink (zy m).cls index Lib.objectInit ∈ zG) (hi : Cond.instanceMethod Lib.objectInit ∈ zG) (hcd : Cond.code Lib.objectInit ⟨#[0xb1]⟩ 1 none ∈ zG) (hfr : 1 ≤ (zR m).frames) (hlo : (st.map fun v => v.category).sum + 12 ≤ (zR m).locals) (kk : wp0 m Q (pc + 3) lo st cs ss n f) : wp0 m Q pc lo (.ref a :: st) cs ss n f := by
  intro p l e s mi args below meth c o n0 H locs ls C S
  have hts := C.2.2.2.2.2.1
  exact W.objInit (g := F0 mi pc ls ((.ref a :: st).map (trV o.1))) C.1 C.2.1 C.2.2.2.2.1 (hts _ (List.mem_cons_of_mem _ hl)) (hts _ (List.mem_cons_of_mem _ hi)) (hts _ (List.mem_cons_of_mem _ hcd)) rfl (S.2.2.2.2.2.1.trans C.2.2.2.1.symm) rfl hd hfr (by show 2 * 0 + _ + 12 ≤ _; rw [zcat]; show _ ≤ (zR m).locals; omega) (kk p l e s mi args below meth c o n0 H locs ls C S)
section ZMA
variable {x y : Int32}
theorem s_mmax (hd : decode (zb m) pc = .ok (.invokestatic index, 3)) (hl : Cond.methodLink (zy m).cls index Lib.Math.max.name ∈ zG) (hst : Cond.static Lib.Math.max.name ∈ zG) (hin : Cond.initialized "java/lang/Math" ∈ zG) (hcd : Cond.code Lib.Math.max.name Lib.Math.max.code 2 (some .int) ∈ zG) (hfr : 1 ≤ (zR m).frames) (hlo : (st.map fun v => v.category).sum + 13 ≤ (zR m).locals) (hc : cs ≤ (zR m).cells) (hs : ss ≤ (zR m).slots) (kk : wp0 m Q (pc + 3) lo (.int (if x < y then y else x) :: st) cs ss n f) : wp0 m Q pc lo (.int y :: .int x :: st) cs ss n f := by
  intro p l e s mi args below meth c o n0 H locs ls C S
  have hts := C.2.2.2.2.2.1
  exact va_mmax C.1 C.2.1 (C.2.2.2.1.trans S.2.2.2.2.2.1.symm) C.2.2.2.2.1 (hts _ (List.mem_cons_of_mem _ hl)) (hts _ (List.mem_cons_of_mem _ hst)) (hts _ (List.mem_cons_of_mem _ hin)) (hts _ (List.mem_cons_of_mem _ hcd)) hfr (by rw [zcat]; exact hlo) hc hs hd (kk p l e s mi args below meth c o n0 H locs ls C S)
theorem s_mmin (hd : decode (zb m) pc = .ok (.invokestatic index, 3)) (hl : Cond.methodLink (zy m).cls index Lib.Math.min.name ∈ zG) (hst : Cond.static Lib.Math.min.name ∈ zG) (hin : Cond.initialized "java/lang/Math" ∈ zG) (hcd : Cond.code Lib.Math.min.name Lib.Math.min.code 2 (some .int) ∈ zG) (hfr : 1 ≤ (zR m).frames) (hlo : (st.map fun v => v.category).sum + 13 ≤ (zR m).locals) (hc : cs ≤ (zR m).cells) (hs : ss ≤ (zR m).slots) (kk : wp0 m Q (pc + 3) lo (.int (if y < x then y else x) :: st) cs ss n f) : wp0 m Q pc lo (.int y :: .int x :: st) cs ss n f := by
  intro p l e s mi args below meth c o n0 H locs ls C S
  have hts := C.2.2.2.2.2.1
  exact va_mmin C.1 C.2.1 (C.2.2.2.1.trans S.2.2.2.2.2.1.symm) C.2.2.2.2.1 (hts _ (List.mem_cons_of_mem _ hl)) (hts _ (List.mem_cons_of_mem _ hst)) (hts _ (List.mem_cons_of_mem _ hin)) (hts _ (List.mem_cons_of_mem _ hcd)) hfr (by rw [zcat]; exact hlo) hc hs hd (kk p l e s mi args below meth c o n0 H locs ls C S)
theorem s_mabs (hd : decode (zb m) pc = .ok (.invokestatic index, 3)) (hl : Cond.methodLink (zy m).cls index Lib.Math.abs.name ∈ zG) (hst : Cond.static Lib.Math.abs.name ∈ zG) (hin : Cond.initialized "java/lang/Math" ∈ zG) (hcd : Cond.code Lib.Math.abs.name Lib.Math.abs.code 1 (some .int) ∈ zG) (hfr : 1 ≤ (zR m).frames) (hlo : (st.map fun v => v.category).sum + 13 ≤ (zR m).locals) (hc : cs ≤ (zR m).cells) (hs : ss ≤ (zR m).slots) (kk : wp0 m Q (pc + 3) lo (.int (if 0 ≤ x then x else 0 - x) :: st) cs ss n f) : wp0 m Q pc lo (.int x :: st) cs ss n f := by
  intro p l e s mi args below meth c o n0 H locs ls C S
  have hts := C.2.2.2.2.2.1
  exact va_mabs C.1 C.2.1 (C.2.2.2.1.trans S.2.2.2.2.2.1.symm) C.2.2.2.2.1 (hts _ (List.mem_cons_of_mem _ hl)) (hts _ (List.mem_cons_of_mem _ hst)) (hts _ (List.mem_cons_of_mem _ hin)) (hts _ (List.mem_cons_of_mem _ hcd)) hfr (by rw [zcat]; exact hlo) hc hs hd (kk p l e s mi args below meth c o n0 H locs ls C S)
end ZMA
end ZCA
