/-! A program logic over the machine: wp0 m Q pc lo st cs ss n f: from the place pc of the method m, with the locals lo, the stack st, over a world of n cells whose contents are f, the method comes to its end with Q. References are numbers of cells; the machine's addresses are these numbers and the base of the world. -/
abbrev Zm : Type := MethodName × ByteArray × Nat × Option FieldType × (Nat × Nat × Nat × Nat) × Bool
def zy (m : Zm) : MethodName := m.1
def zb (m : Zm) : ByteArray := m.2.1
def zl (m : Zm) : Nat := m.2.2.1
def zr (m : Zm) : Option FieldType := m.2.2.2.1
def zk (m : Zm) : Nat × Nat × Nat × Nat := m.2.2.2.2.1
def zg (m : Zm) : Bool := m.2.2.2.2.2
def zR (m : Zm) : Room := { frames := (zk m).1, cells := (zk m).2.1, slots := (zk m).2.2.1, locals := (zk m).2.2.2 }
def zw (m : Zm) : List Cond := Cond.code (zy m) (zb m) (zl m) (zr m) :: zG
/-- the world: its base, the classes and slots, the array classes -/
abbrev Zo : Type := Nat × va_G × (Nat → ClassId)
def trV (B : Nat) (v : Value) : Value := match v with
  | .ref a => .ref (B + a)
  | w => w
def trL (B : Nat) (q : Nat × Value) : Nat × Value := (q.1, trV B q.2)
theorem trV_cat (B : Nat) (v : Value) : (trV B v).category = v.category := by cases v <;> rfl
/-- what a cell holds: an array (its type's number, its length, its contents) or an object (its class's number, its fields) -/
abbrev En : Type := (Nat × Nat × ((Nat → Int32) ⊕ (Nat → Int64) ⊕ (Nat → Option Nat))) ⊕ (Nat × List Value)
def trE (o : Zo) (e : En) : va_E := match e with
  | .inl (t, n, .inl f) => .inl (o.2.2 t, n, .inl f)
  | .inl (t, n, .inr (.inl f)) => .inl (o.2.2 t, n, .inr (.inl f))
  | .inl (t, n, .inr (.inr f)) => .inl (o.2.2 t, n, .inr (.inr (.inr (.inr (fun i => (f i).map (fun a => o.1 + a))))))
  | .inr (ci, fs) => .inr (ci, fs.map (trV o.1))
def ztys (o : Zo) : List (ClassId × FieldType) := [(o.2.2 0, .int), (o.2.2 1, .long), (o.2.2 2, .boolean), (o.2.2 3, .object "EditGuess$Signs"), (o.2.2 4, .object "EditGuess$Book"), (o.2.2 5, .object "EditGuess$Piece"), (o.2.2 6, .object "EditGuess$Row"), (o.2.2 7, .array .int)]
/-- the world's cells in a heap -/
def Hw (o : Zo) (n : Nat) (f : Nat → En) (H : Heap) : Prop := ∀ a : Nat, a < n → va_at o.2.1 zcl (o.1 + a, trE o (f a)) H
theorem Hw.congr {o : Zo} {n : Nat} {f g : Nat → En} {H : Heap} (h : Hw o n f H) (e : ∀ a, a < n → f a = g a) : Hw o n g H := fun a ha => by rw [← e a ha]; exact h a ha
theorem Hw.put {o : Zo} {n a : Nat} {f : Nat → En} {H H1 : Heap} {e : En} (h : Hw o n f H) (he : va_at o.2.1 zcl (o.1 + a, trE o e) H1) (oq : ∀ q : Nat, q ≠ o.1 + a → H1[q]? = H[q]?) : Hw o n (va_up f a e) H1 := fun b hb => by
  by_cases hba : b = a
  · subst hba
    rw [show va_up f b e b = e from if_pos rfl]
    exact he
  · rw [show va_up f a e b = f b from if_neg hba]
    exact (h b hb).kept (oq _ (fun z => hba (by omega)))
theorem Hw.push {o : Zo} {n : Nat} {f : Nat → En} {H H1 : Heap} {e : En} (h : Hw o n f H) (he : va_at o.2.1 zcl (o.1 + n, trE o e) H1) (oq : ∀ q : Nat, q < o.1 + n → H1[q]? = H[q]?) : Hw o (n + 1) (va_up f n e) H1 := fun b hb => by
  by_cases hba : b = n
  · subst hba
    rw [show va_up f b e b = e from if_pos rfl]
    exact he
  · rw [show va_up f n e b = f b from if_neg hba]
    exact (h b (by omega)).kept (oq _ (by show o.1 + b < _; omega))
/-- the nest mates' private constructors that are called -/
def znest : List (String × Nat × MethodName × String) := [("EditGuess$Fitting", 34, ⟨"EditGuess$Moves", "<init>", "()V"⟩, "EditGuess"), ("EditGuess$Fitting", 46, ⟨"EditGuess$Row", "<init>", "()V"⟩, "EditGuess"), ("EditGuess$Plan", 17, ⟨"EditGuess$Piece", "<init>", "()V"⟩, "EditGuess")]
def zAOA (U : State) : Prop := (Cond.arrayOver (.array .int)).before #[] U = true
theorem zAOA.moved {u U : State} (hvm : u.vm.Alike U.vm) (h : zAOA u) : zAOA U := over_moved hvm h
/-- what the tables say of the machine's classes -/
def Zk (o : Zo) (U : State) : Prop := va_K o.2.1 zcl (ztys o) U ∧ (va_AO "EditGuess$Signs" U ∧ va_AO "EditGuess$Book" U ∧ va_AO "EditGuess$Piece" U ∧ va_AO "EditGuess$Row" U ∧ zAOA U) ∧ ∀ q ∈ znest, va_Nw (.methodLinkNest q.1 q.2.1 q.2.2.1 q.2.2.2) U
theorem Zk.warm {o : Zo} {u U : State} (hW : u.WarmedH U.vm) (h : Zk o u) : Zk o U := ⟨va_K.moved hW.alike h.1, ⟨h.2.1.1.moved hW.alike, h.2.1.2.1.moved hW.alike, h.2.1.2.2.1.moved hW.alike, h.2.1.2.2.2.1.moved hW.alike, h.2.1.2.2.2.2.moved hW.alike⟩, fun q hq => va_Nw.warmM hW (h.2.2 q hq)⟩
theorem Zk.same {o : Zo} {u U : State} (e : u.vm = U.vm) (h : Zk o u) : Zk o U := by
  have hA : u.vm.Alike U.vm := by rw [e]; exact Vm.Alike.refl _
  exact ⟨va_K.moved hA h.1, ⟨h.2.1.1.moved hA, h.2.1.2.1.moved hA, h.2.1.2.2.1.moved hA, h.2.1.2.2.2.1.moved hA, h.2.1.2.2.2.2.moved hA⟩, fun q hq => va_Nw.same rfl e (h.2.2 q hq)⟩
/-- which cells a method may change: the world's, and those that it makes -/
def zA (B n sz : Nat) : Nat → Prop := fun q => (B ≤ q ∧ q < B + n) ∨ sz ≤ q
/-- what holds of the machine while a method runs -/
def Zx (m : Zm) (p : Program) (s : State) (mi : MethodId) (args : Array Value) (meth : Method) (c : Code) (o : Zo) (n0 : Nat) : Prop :=
  p.tables.exec = Jvm.exec ∧ c.code = zb m ∧ meth.sig.returnType = zr m ∧ c.maxLocals = zl m ∧ s.vm.findClass (zy m).cls = some mi.cls ∧ (∀ w ∈ zw m, w.before args s = true) ∧ meth.locks = false ∧ meth.name = (zy m).name ∧ Zk o s ∧ (zg m = true → s.heap.size = o.1 + n0) ∧ o.1 + n0 ≤ s.heap.size
/-- the end of a method -/
def Zq (m : Zm) (o : Zo) (n0 : Nat) (Q : Option Value → Nat → (Nat → En) → Prop) (A : Nat → Prop) : Array Value → State → Outcome → State → Prop := fun _ st oc t =>
  (∃ (v : Option Value) (n' : Nat) (f' : Nat → En), oc = .returned (v.map (trV o.1)) ∧ Q v n' f' ∧ n0 ≤ n' ∧ Hw o n' f' t.heap ∧ t.heap.size + n0 = st.heap.size + n' ∧ (zg m = false → n' = n0)) ∧ va_F A st t
/-- where a method's walk stands -/
def Zs (m : Zm) (s : State) (o : Zo) (n0 : Nat) (H : Heap) (locs : List Loc) (ls : Array Slot) (lo : List (Nat × Value)) (n : Nat) (f : Nat → En) : Prop :=
  Hw o n f H ∧ n0 ≤ n ∧ H.size + n0 = s.heap.size + n ∧ (zg m = false → n = n0) ∧ va_S (zA o.1 n0 s.heap.size) s.heap H locs ∧ lv_has ls (zl m) (lo.map (trL o.1))
def wp0 (m : Zm) (Q : Option Value → Nat → (Nat → En) → Prop) (pc : Nat) (lo : List (Nat × Value)) (st : List Value) (cs ss : Nat) (n : Nat) (f : Nat → En) : Prop :=
  ∀ (p : Program) (l : Launch) (e : Env) (s : State) (mi : MethodId) (args : Array Value) (below : List Frame) (meth : Method) (c : Code) (o : Zo) (n0 : Nat) (H : Heap) (locs : List Loc) (ls : Array Slot),
    Zx m p s mi args meth c o n0 → Zs m s o n0 H locs ls lo n f →
    W p l e (headSpec (zw m) (zR m)).room s mi args below meth c H locs cs ss (MQ below (Zq m o n0 Q (zA o.1 n0 s.heap.size)) args s (zR m).cells (zR m).slots (zA o.1 n0 s.heap.size)) (F0 mi pc ls (st.map (trV o.1)))
/-- a method's contract at given arguments and a given world -/
def Call0 (m : Zm) (as : List Value) (n : Nat) (f : Nat → En) (Q : Option Value → Nat → (Nat → En) → Prop) : Prop :=
  ∀ (l : Launch) (o : Zo) (sz : Nat), Met l (zy m) (zw m) (zR m) (va_Pc (as.map (trV o.1)) (fun U => U.heap.size = sz ∧ Hw o n f U.heap ∧ Zk o U ∧ (zg m = true → sz = o.1 + n) ∧ o.1 + n ≤ sz)) (Zq m o n Q (zA o.1 n sz)) (zR m).cells (zR m).slots (zA o.1 n sz)
theorem lv_args_tr (B : Nat) : ∀ (as : List Value) (i : Nat), lv_args i (as.map (trV B)) = (lv_args i as).map (trL B)
  | [], _ => rfl
  | v :: vs, i => by
    show (i, trV B v) :: lv_args (if (trV B v).category = 2 then i + 2 else i + 1) (vs.map (trV B)) = (i, trV B v) :: (lv_args (if v.category = 2 then i + 2 else i + 1) vs).map (trL B)
    rw [trV_cat, lv_args_tr B vs]
theorem lg_sl_tr (B : Nat) : ∀ (as : List Value), (lg_sl (as.map (trV B))).length = (lg_sl as).length
  | [] => rfl
  | v :: vs => by
    have ih := lg_sl_tr B vs
    simp only [lg_sl, List.map_cons, List.flatMap_cons, List.length_append] at ih ⊢
    rw [ih, trV_cat]
    split <;> rfl
/-- a contract out of a walk -/
theorem call0_of {m : Zm} {as : List Value} {n : Nat} {f : Nat → En} {Q : Option Value → Nat → (Nat → En) → Prop} (hpl : plainName (zy m).cls = true) (hlen : (lg_sl as).length ≤ zl m) (h : wp0 m Q 0 (lv_args 0 as) [] 0 0 n f) : Call0 m as n f Q := by
  intro l o sz
  refine Met.ofW (cc := zb m) (maxL := zl m) (ret := zr m) hpl rfl ?_
  intro p e s mi args below meth c s₁ B hml hv
  obtain ⟨rfl, hsz, hH, hK, hg, hb⟩ := hv
  subst hsz
  have hts := atoms_spec (ws := zw m) B.pre
  have hx : Zx m p s mi (as.map (trV o.1)).toArray meth c o n := ⟨B.exec, B.bytes, B.returns, hml, findClass_of_methodNamed B.named, hts, B.notSynchronized, (name_of_methodNamed B.named B.method).1, hK, hg, hb⟩
  have hl := lv_entry (as.map (trV o.1)) (n := zl m) (by rw [lg_sl_tr]; exact hlen)
  rw [lg_entry_eq]
  generalize (lg_sl (as.map (trV o.1)) ++ List.replicate (zl m - (lg_sl (as.map (trV o.1))).length) Slot.unset).toArray = ls at hl ⊢
  rw [lv_args_tr] at hl
  exact h p l e s mi _ below meth c o n s.heap [] ls hx ⟨hH, Nat.le_refl _, rfl, fun _ => rfl, va_S.rf, hl⟩
