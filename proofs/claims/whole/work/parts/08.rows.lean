/-! the rows of the logic over the layout -/
section ZRW
variable {yy : List Sh} {m m' : Zm} {Q : Option Value → Mem → Prop} {pc q : Nat} {lo lo' : List (Nat × Value)} {st st0 : List Value} {M : Mem}
theorem zt_sub (ks : List Nat) (hl : lv_pick lo ks = lo') (kk : wp yy m Q pc lo' st M) : wp yy m Q pc lo st M := s_sub ks hl kk

theorem zt_iconst {z : Int} {v : Int32} (hd : decode (zb m) pc = .ok (.iconst z, 1)) (hp : pc + 1 = q) (hv : Int32.ofInt z = v) (kk : wp yy m Q q lo (.int v :: st) M) : wp yy m Q pc lo st M := by
  subst hp
  exact s_iconst hd hv kk
theorem zt_bipush {z : Int} {v : Int32} (hd : decode (zb m) pc = .ok (.bipush z, 2)) (hp : pc + 2 = q) (hv : (Int8.ofInt z).toInt32 = v) (kk : wp yy m Q q lo (.int v :: st) M) : wp yy m Q pc lo st M := by
  subst hp
  exact s_bipush hd hv kk
theorem zt_sipush {z : Int} {v : Int32} (hd : decode (zb m) pc = .ok (.sipush z, 3)) (hp : pc + 3 = q) (hv : (Int16.ofInt z).toInt32 = v) (kk : wp yy m Q q lo (.int v :: st) M) : wp yy m Q pc lo st M := by
  subst hp
  exact s_sipush hd hv kk
theorem zt_lconst {z : Fin 2} {v : Int64} (hd : decode (zb m) pc = .ok (.lconst z, 1)) (hp : pc + 1 = q) (hv : Int64.ofNat (z : Nat) = v) (kk : wp yy m Q q lo (.long v :: st) M) : wp yy m Q pc lo st M := by
  subst hp
  exact s_lconst hd hv kk
theorem zt_ldc {i : Nat} {v : Int32} (hd : decode (zb m) pc = .ok (.ldc i, 2)) (hp : pc + 2 = q) (hw : Cond.constant (zy m).cls i v ∈ zG) (kk : wp yy m Q q lo (.int v :: st) M) : wp yy m Q pc lo st M := by
  subst hp
  exact s_ldc hd hw kk
theorem zt_ldc2_w {i : Nat} {v : Int64} (hd : decode (zb m) pc = .ok (.ldc2_w i, 3)) (hp : pc + 3 = q) (hw : Cond.constantLong (zy m).cls i v ∈ zG) (kk : wp yy m Q q lo (.long v :: st) M) : wp yy m Q pc lo st M := by
  subst hp
  exact s_ldc2_w hd hw kk
theorem zt_iload {i : Nat} {v : Int32} (k : Nat) (hd : decode (zb m) pc = .ok (.iload i, 2)) (hp : pc + 2 = q) (hl : lo[k]? = some (i, .int v)) (kk : wp yy m Q q lo (.int v :: st) M) : wp yy m Q pc lo st M := by
  subst hp
  exact s_iload k hd hl kk
theorem zt_iload_n {j : Fin 4} {i : Nat} {v : Int32} (k : Nat) (hd : decode (zb m) pc = .ok (.iload_n j, 1)) (hp : pc + 1 = q) (hi : (j : Nat) = i) (hl : lo[k]? = some (i, .int v)) (kk : wp yy m Q q lo (.int v :: st) M) : wp yy m Q pc lo st M := by
  subst hp
  exact s_iload_n k hd hi hl kk
theorem zt_lload {i : Nat} {v : Int64} (k : Nat) (hd : decode (zb m) pc = .ok (.lload i, 2)) (hp : pc + 2 = q) (hl : lo[k]? = some (i, .long v)) (kk : wp yy m Q q lo (.long v :: st) M) : wp yy m Q pc lo st M := by
  subst hp
  exact s_lload k hd hl kk
theorem zt_lload_n {j : Fin 4} {i : Nat} {v : Int64} (k : Nat) (hd : decode (zb m) pc = .ok (.lload_n j, 1)) (hp : pc + 1 = q) (hi : (j : Nat) = i) (hl : lo[k]? = some (i, .long v)) (kk : wp yy m Q q lo (.long v :: st) M) : wp yy m Q pc lo st M := by
  subst hp
  exact s_lload_n k hd hi hl kk
theorem zt_aload {i : Nat} {v : Nat} (k : Nat) (hd : decode (zb m) pc = .ok (.aload i, 2)) (hp : pc + 2 = q) (hl : lo[k]? = some (i, .ref v)) (kk : wp yy m Q q lo (.ref v :: st) M) : wp yy m Q pc lo st M := by
  subst hp
  exact s_aload k hd hl kk
theorem zt_aload_n {j : Fin 4} {i : Nat} {v : Nat} (k : Nat) (hd : decode (zb m) pc = .ok (.aload_n j, 1)) (hp : pc + 1 = q) (hi : (j : Nat) = i) (hl : lo[k]? = some (i, .ref v)) (kk : wp yy m Q q lo (.ref v :: st) M) : wp yy m Q pc lo st M := by
  subst hp
  exact s_aload_n k hd hi hl kk
theorem zt_istore {i : Nat} {v : Int32} (hd : decode (zb m) pc = .ok (.istore i, 2)) (hp : pc + 2 = q) (hn : i < zl m) (hl : (i, Value.int v) :: lo.filter (fun q => !(q.1 == i) && !(q.1 + 1 == i && q.2.category == 2)) = lo') (kk : wp yy m Q q lo' st M) : wp yy m Q pc lo (.int v :: st) M := by
  subst hp
  exact s_istore hd hn hl kk
theorem zt_istore_n {j : Fin 4} {i : Nat} {v : Int32} (hd : decode (zb m) pc = .ok (.istore_n j, 1)) (hp : pc + 1 = q) (hi : (j : Nat) = i) (hn : i < zl m) (hl : (i, Value.int v) :: lo.filter (fun q => !(q.1 == i) && !(q.1 + 1 == i && q.2.category == 2)) = lo') (kk : wp yy m Q q lo' st M) : wp yy m Q pc lo (.int v :: st) M := by
  subst hp
  exact s_istore_n hd hi hn hl kk
theorem zt_astore {i : Nat} {v : Nat} (hd : decode (zb m) pc = .ok (.astore i, 2)) (hp : pc + 2 = q) (hn : i < zl m) (hl : (i, Value.ref v) :: lo.filter (fun q => !(q.1 == i) && !(q.1 + 1 == i && q.2.category == 2)) = lo') (kk : wp yy m Q q lo' st M) : wp yy m Q pc lo (.ref v :: st) M := by
  subst hp
  exact s_astore hd hn hl kk
theorem zt_astore_n {j : Fin 4} {i : Nat} {v : Nat} (hd : decode (zb m) pc = .ok (.astore_n j, 1)) (hp : pc + 1 = q) (hi : (j : Nat) = i) (hn : i < zl m) (hl : (i, Value.ref v) :: lo.filter (fun q => !(q.1 == i) && !(q.1 + 1 == i && q.2.category == 2)) = lo') (kk : wp yy m Q q lo' st M) : wp yy m Q pc lo (.ref v :: st) M := by
  subst hp
  exact s_astore_n hd hi hn hl kk
theorem zt_lstore {i : Nat} {v : Int64} (hd : decode (zb m) pc = .ok (.lstore i, 2)) (hp : pc + 2 = q) (hn : i + 1 < zl m) (hl : (i, Value.long v) :: lo.filter (fun q => !(q.1 == i) && (!(q.1 == i + 1) && !(q.1 + 1 == i && q.2.category == 2))) = lo') (kk : wp yy m Q q lo' st M) : wp yy m Q pc lo (.long v :: st) M := by
  subst hp
  exact s_lstore hd hn hl kk
theorem zt_lstore_n {j : Fin 4} {i : Nat} {v : Int64} (hd : decode (zb m) pc = .ok (.lstore_n j, 1)) (hp : pc + 1 = q) (hi : (j : Nat) = i) (hn : i + 1 < zl m) (hl : (i, Value.long v) :: lo.filter (fun q => !(q.1 == i) && (!(q.1 == i + 1) && !(q.1 + 1 == i && q.2.category == 2))) = lo') (kk : wp yy m Q q lo' st M) : wp yy m Q pc lo (.long v :: st) M := by
  subst hp
  exact s_lstore_n hd hi hn hl kk
theorem zt_iinc {i : Nat} {z : Int} {x v : Int32} (k : Nat) (hd : decode (zb m) pc = .ok (.iinc i z, 3)) (hp : pc + 3 = q) (hk : lo[k]? = some (i, .int x)) (hv : x + Int32.ofInt z = v) (hn : i < zl m) (hl : (i, Value.int v) :: lo.filter (fun q => !(q.1 == i) && !(q.1 + 1 == i && q.2.category == 2)) = lo') (kk : wp yy m Q q lo' st M) : wp yy m Q pc lo st M := by
  subst hp
  exact s_iinc k hd hk hv hn hl kk
theorem zt_iadd {x y : Int32} (hd : decode (zb m) pc = .ok (.iadd, 1)) (hp : pc + 1 = q) (kk : wp yy m Q q lo (.int (x + y) :: st) M) : wp yy m Q pc lo (.int y :: .int x :: st) M := by
  subst hp
  exact s_iadd hd kk
theorem zt_isub {x y : Int32} (hd : decode (zb m) pc = .ok (.isub, 1)) (hp : pc + 1 = q) (kk : wp yy m Q q lo (.int (x - y) :: st) M) : wp yy m Q pc lo (.int y :: .int x :: st) M := by
  subst hp
  exact s_isub hd kk
theorem zt_imul {x y : Int32} (hd : decode (zb m) pc = .ok (.imul, 1)) (hp : pc + 1 = q) (kk : wp yy m Q q lo (.int (x * y) :: st) M) : wp yy m Q pc lo (.int y :: .int x :: st) M := by
  subst hp
  exact s_imul hd kk
theorem zt_iand {x y : Int32} (hd : decode (zb m) pc = .ok (.iand, 1)) (hp : pc + 1 = q) (kk : wp yy m Q q lo (.int (x &&& y) :: st) M) : wp yy m Q pc lo (.int y :: .int x :: st) M := by
  subst hp
  exact s_iand hd kk
theorem zt_ladd {x y : Int64} (hd : decode (zb m) pc = .ok (.ladd, 1)) (hp : pc + 1 = q) (kk : wp yy m Q q lo (.long (x + y) :: st) M) : wp yy m Q pc lo (.long y :: .long x :: st) M := by
  subst hp
  exact s_ladd hd kk
theorem zt_lmul {x y : Int64} (hd : decode (zb m) pc = .ok (.lmul, 1)) (hp : pc + 1 = q) (kk : wp yy m Q q lo (.long (x * y) :: st) M) : wp yy m Q pc lo (.long y :: .long x :: st) M := by
  subst hp
  exact s_lmul hd kk
theorem zt_idiv {x y : Int32} (hd : decode (zb m) pc = .ok (.idiv, 1)) (hp : pc + 1 = q) (hne : ¬ y = 0) (kk : wp yy m Q q lo (.int (x / y) :: st) M) : wp yy m Q pc lo (.int y :: .int x :: st) M := by
  subst hp
  exact s_idiv hd hne kk
theorem zt_irem {x y : Int32} (hd : decode (zb m) pc = .ok (.irem, 1)) (hp : pc + 1 = q) (hne : ¬ y = 0) (kk : wp yy m Q q lo (.int (x - x / y * y) :: st) M) : wp yy m Q pc lo (.int y :: .int x :: st) M := by
  subst hp
  exact s_irem hd hne kk
theorem zt_ineg {x : Int32} (hd : decode (zb m) pc = .ok (.ineg, 1)) (hp : pc + 1 = q) (kk : wp yy m Q q lo (.int (-x) :: st) M) : wp yy m Q pc lo (.int x :: st) M := by
  subst hp
  exact s_ineg hd kk
theorem zt_i2l {x : Int32} (hd : decode (zb m) pc = .ok (.i2l, 1)) (hp : pc + 1 = q) (kk : wp yy m Q q lo (.long x.toInt64 :: st) M) : wp yy m Q pc lo (.int x :: st) M := by
  subst hp
  exact s_i2l hd kk
theorem zt_lcmp {x y : Int64} (hd : decode (zb m) pc = .ok (.lcmp, 1)) (hp : pc + 1 = q) (kk : wp yy m Q q lo (.int (lg_cmp x y) :: st) M) : wp yy m Q pc lo (.long y :: .long x :: st) M := by
  subst hp
  exact s_lcmp hd kk
theorem zt_dup {v : Value} (hd : decode (zb m) pc = .ok (.dup, 1)) (hp : pc + 1 = q) (hv : v.category = 1) (kk : wp yy m Q q lo (v :: v :: st) M) : wp yy m Q pc lo (v :: st) M := by
  subst hp
  exact s_dup hd hv kk
theorem zt_pop {v : Value} (hd : decode (zb m) pc = .ok (.pop, 1)) (hp : pc + 1 = q) (hv : v.category = 1) (kk : wp yy m Q q lo st M) : wp yy m Q pc lo (v :: st) M := by
  subst hp
  exact s_pop hd hv kk
theorem zt_dup2 {v w : Value} (hd : decode (zb m) pc = .ok (.dup2, 1)) (hp : pc + 1 = q) (hv : v.category = 1) (hw : w.category = 1) (kk : wp yy m Q q lo (v :: w :: v :: w :: st) M) : wp yy m Q pc lo (v :: w :: st) M := by
  subst hp
  exact s_dup2 hd hv hw kk
theorem zt_goto {off : Int} {tgt : Nat} (hd : decode (zb m) pc = .ok (.goto off, 3)) (ht : (pc : Int) + off = (tgt : Int)) (kk : wp yy m Q tgt lo st M) : wp yy m Q pc lo st M := by
  exact s_goto hd ht kk
theorem zt_if_eq {x : Int32} {off : Int} {tgt : Nat} (hd : decode (zb m) pc = .ok (.ifCond .eq off, 3)) (hp : pc + 3 = q) (ht : (pc : Int) + off = (tgt : Int)) (kk : (x = 0 → wp yy m Q tgt lo st M) ∧ (¬ x = 0 → wp yy m Q q lo st M)) : wp yy m Q pc lo (.int x :: st) M := by
  subst hp
  exact s_if_eq hd ht kk
theorem zt_if_lt {x : Int32} {off : Int} {tgt : Nat} (hd : decode (zb m) pc = .ok (.ifCond .lt off, 3)) (hp : pc + 3 = q) (ht : (pc : Int) + off = (tgt : Int)) (kk : (x < 0 → wp yy m Q tgt lo st M) ∧ (¬ x < 0 → wp yy m Q q lo st M)) : wp yy m Q pc lo (.int x :: st) M := by
  subst hp
  exact s_if_lt hd ht kk
theorem zt_if_ge {x : Int32} {off : Int} {tgt : Nat} (hd : decode (zb m) pc = .ok (.ifCond .ge off, 3)) (hp : pc + 3 = q) (ht : (pc : Int) + off = (tgt : Int)) (kk : (0 ≤ x → wp yy m Q tgt lo st M) ∧ (¬ 0 ≤ x → wp yy m Q q lo st M)) : wp yy m Q pc lo (.int x :: st) M := by
  subst hp
  exact s_if_ge hd ht kk
theorem zt_if_gt {x : Int32} {off : Int} {tgt : Nat} (hd : decode (zb m) pc = .ok (.ifCond .gt off, 3)) (hp : pc + 3 = q) (ht : (pc : Int) + off = (tgt : Int)) (kk : (0 < x → wp yy m Q tgt lo st M) ∧ (¬ 0 < x → wp yy m Q q lo st M)) : wp yy m Q pc lo (.int x :: st) M := by
  subst hp
  exact s_if_gt hd ht kk
theorem zt_if_le {x : Int32} {off : Int} {tgt : Nat} (hd : decode (zb m) pc = .ok (.ifCond .le off, 3)) (hp : pc + 3 = q) (ht : (pc : Int) + off = (tgt : Int)) (kk : (x ≤ 0 → wp yy m Q tgt lo st M) ∧ (¬ x ≤ 0 → wp yy m Q q lo st M)) : wp yy m Q pc lo (.int x :: st) M := by
  subst hp
  exact s_if_le hd ht kk
theorem zt_if_ne {x : Int32} {off : Int} {tgt : Nat} (hd : decode (zb m) pc = .ok (.ifCond .ne off, 3)) (hp : pc + 3 = q) (ht : (pc : Int) + off = (tgt : Int)) (kk : (x = 0 → wp yy m Q q lo st M) ∧ (¬ x = 0 → wp yy m Q tgt lo st M)) : wp yy m Q pc lo (.int x :: st) M := by
  subst hp
  exact s_if_ne hd ht kk
theorem zt_icmp_eq {x y : Int32} {off : Int} {tgt : Nat} (hd : decode (zb m) pc = .ok (.if_icmp .eq off, 3)) (hp : pc + 3 = q) (ht : (pc : Int) + off = (tgt : Int)) (kk : (x = y → wp yy m Q tgt lo st M) ∧ (¬ x = y → wp yy m Q q lo st M)) : wp yy m Q pc lo (.int y :: .int x :: st) M := by
  subst hp
  exact s_icmp_eq hd ht kk
theorem zt_icmp_lt {x y : Int32} {off : Int} {tgt : Nat} (hd : decode (zb m) pc = .ok (.if_icmp .lt off, 3)) (hp : pc + 3 = q) (ht : (pc : Int) + off = (tgt : Int)) (kk : (x < y → wp yy m Q tgt lo st M) ∧ (¬ x < y → wp yy m Q q lo st M)) : wp yy m Q pc lo (.int y :: .int x :: st) M := by
  subst hp
  exact s_icmp_lt hd ht kk
theorem zt_icmp_ge {x y : Int32} {off : Int} {tgt : Nat} (hd : decode (zb m) pc = .ok (.if_icmp .ge off, 3)) (hp : pc + 3 = q) (ht : (pc : Int) + off = (tgt : Int)) (kk : (y ≤ x → wp yy m Q tgt lo st M) ∧ (¬ y ≤ x → wp yy m Q q lo st M)) : wp yy m Q pc lo (.int y :: .int x :: st) M := by
  subst hp
  exact s_icmp_ge hd ht kk
theorem zt_icmp_gt {x y : Int32} {off : Int} {tgt : Nat} (hd : decode (zb m) pc = .ok (.if_icmp .gt off, 3)) (hp : pc + 3 = q) (ht : (pc : Int) + off = (tgt : Int)) (kk : (y < x → wp yy m Q tgt lo st M) ∧ (¬ y < x → wp yy m Q q lo st M)) : wp yy m Q pc lo (.int y :: .int x :: st) M := by
  subst hp
  exact s_icmp_gt hd ht kk
theorem zt_icmp_le {x y : Int32} {off : Int} {tgt : Nat} (hd : decode (zb m) pc = .ok (.if_icmp .le off, 3)) (hp : pc + 3 = q) (ht : (pc : Int) + off = (tgt : Int)) (kk : (x ≤ y → wp yy m Q tgt lo st M) ∧ (¬ x ≤ y → wp yy m Q q lo st M)) : wp yy m Q pc lo (.int y :: .int x :: st) M := by
  subst hp
  exact s_icmp_le hd ht kk
theorem zt_icmp_ne {x y : Int32} {off : Int} {tgt : Nat} (hd : decode (zb m) pc = .ok (.if_icmp .ne off, 3)) (hp : pc + 3 = q) (ht : (pc : Int) + off = (tgt : Int)) (kk : (x = y → wp yy m Q q lo st M) ∧ (¬ x = y → wp yy m Q tgt lo st M)) : wp yy m Q pc lo (.int y :: .int x :: st) M := by
  subst hp
  exact s_icmp_ne hd ht kk
theorem zt_tabOut {dflt a b : Int} {offs : Array Int} {len : Nat} {x : Int32} {tgt : Nat} (hd : decode (zb m) pc = .ok (.tableswitch dflt a b offs, len)) (h : x.toInt < a ∨ b < x.toInt) (ht : (pc : Int) + dflt = (tgt : Int)) (kk : wp yy m Q tgt lo st M) : wp yy m Q pc lo (.int x :: st) M := by
  exact s_tabOut hd h ht kk
theorem zt_tabIn {dflt a b : Int} {offs : Array Int} {len : Nat} {x : Int32} {off : Int} {tgt : Nat} (hd : decode (zb m) pc = .ok (.tableswitch dflt a b offs, len)) (h1 : ¬ x.toInt < a) (h2 : ¬ b < x.toInt) (ho : offs[(x.toInt - a).toNat]? = some off) (ht : (pc : Int) + off = (tgt : Int)) (kk : wp yy m Q tgt lo st M) : wp yy m Q pc lo (.int x :: st) M := by
  exact s_tabIn hd h1 h2 ho ht kk
theorem zt_iret {v : Int32} (hr : zr m = some .int) (hd : decode (zb m) pc = .ok (.ireturn, 1))  (hq : Q (some (.int v)) M) : wp yy m Q pc lo [.int v] M := s_iret hr hd (Nat.zero_le _) (Nat.zero_le _) ⟨rfl, M, rfl, hq⟩
theorem zt_zret {v : Int32} (hr : zr m = some .boolean) (hd : decode (zb m) pc = .ok (.ireturn, 1))  (hn : narrow .boolean (.int v) = .int v) (hq : Q (some (.int v)) M) : wp yy m Q pc lo [.int v] M := s_zret hr hd (Nat.zero_le _) (Nat.zero_le _) hn ⟨rfl, M, rfl, hq⟩
theorem zt_lret {v : Int64} (hr : zr m = some .long) (hd : decode (zb m) pc = .ok (.lreturn, 1))  (hq : Q (some (.long v)) M) : wp yy m Q pc lo [.long v] M := s_lret hr hd (Nat.zero_le _) (Nat.zero_le _) ⟨rfl, M, rfl, hq⟩
theorem zt_vret  (hr : zr m = none) (hd : decode (zb m) pc = .ok (.return_, 1))  (hq : Q none M) : wp yy m Q pc lo [] M := s_vret hr hd (Nat.zero_le _) (Nat.zero_le _) ⟨rfl, M, rfl, hq⟩
theorem zt_aret {v : Nat} {rt : FieldType} (hr : zr m = some rt) (hrt : (∃ q, rt = .object q) ∨ ∃ t, rt = .array t) (hd : decode (zb m) pc = .ok (.areturn, 1))  (hq : Q (some (.ref v)) M) : wp yy m Q pc lo [.ref v] M := s_aret hr hrt hd (Nat.zero_le _) (Nat.zero_le _) ⟨rfl, M, rfl, hq⟩
/-- a field's site: its class and place, its link, its kind -/
def Zf (own : String) (index ci k : Nat) (d : Nat × Nat) (fin : Bool) (ty : FieldType) : Prop := ∃ cl : vw_C, zcl[ci]? = some cl ∧ k < cl.2.2 ∧ Cond.fieldLink own index (cl.2.1 k).1 (cl.2.1 k).2.1 (cl.2.1 k).2.2.1 ∈ zG ∧ (zfd ci)[k]? = some d ∧ (cl.2.1 k).2.2.2 = fin ∧ ztf ci k = ty
theorem zt_getI {ci k index a : Nat} {fin : Bool} {ty : FieldType} (hd : decode (zb m) pc = .ok (.getfield index, 3)) (hp : pc + 3 = q) (hz : Zf (zy m).cls index ci k (0, 0) fin ty) (hs : zsh yy a = (10 + ci, 0, 0, 0)) (kk : wp yy m Q q lo (.int (M.1 a k) :: st) M) : wp yy m Q pc lo (.ref a :: st) M := by
  subst hp
  obtain ⟨cl, h1, h2, h3, h4, h5, h6⟩ := hz
  exact s_get hd h1 h2 h3 (ent_obj hs) (zsh_lt hs (Or.inl (by omega))) (by rw [fldV_get _ _ _ _ _ _ h4, Nat.zero_add]; rfl) kk
theorem zt_getL {ci k index a : Nat} {fin : Bool} {ty : FieldType} (hd : decode (zb m) pc = .ok (.getfield index, 3)) (hp : pc + 3 = q) (hz : Zf (zy m).cls index ci k (1, 0) fin ty) (hs : zsh yy a = (10 + ci, 0, 0, 0)) (kk : wp yy m Q q lo (.long (M.2 a k) :: st) M) : wp yy m Q pc lo (.ref a :: st) M := by
  subst hp
  obtain ⟨cl, h1, h2, h3, h4, h5, h6⟩ := hz
  exact s_get hd h1 h2 h3 (ent_obj hs) (zsh_lt hs (Or.inl (by omega))) (by rw [fldV_get _ _ _ _ _ _ h4, Nat.zero_add]; rfl) kk
theorem zt_getR {ci k index a b off : Nat} {fin : Bool} {ty : FieldType} (hd : decode (zb m) pc = .ok (.getfield index, 3)) (hp : pc + 3 = q) (hz : Zf (zy m).cls index ci k (2, off) fin ty) (hb : a + off = b) (hs : zsh yy a = (10 + ci, 0, 0, 0)) (kk : wp yy m Q q lo (.ref b :: st) M) : wp yy m Q pc lo (.ref a :: st) M := by
  subst hp
  subst hb
  obtain ⟨cl, h1, h2, h3, h4, h5, h6⟩ := hz
  exact s_get hd h1 h2 h3 (ent_obj hs) (zsh_lt hs (Or.inl (by omega))) (by rw [fldV_get _ _ _ _ _ _ h4, Nat.zero_add]; rfl) kk
theorem zt_putI {ci k index a : Nat} {v : Int32} (hd : decode (zb m) pc = .ok (.putfield index, 3)) (hp : pc + 3 = q) (hz : Zf (zy m).cls index ci k (0, 0) false .int) (hs : zsh yy a = (10 + ci, 0, 0, 0)) (kk : wp yy m Q q lo st (uI M a k v)) : wp yy m Q pc lo (.int v :: .ref a :: st) M := by
  subst hp
  obtain ⟨cl, h1, h2, h3, h4, h5, h6⟩ := hz
  refine s_put hd h1 h2 h3 h5 (ent_obj hs) (zsh_lt hs (Or.inl (by omega))) (fun B => by rw [h6]; exact ⟨rfl, rfl⟩) (by rw [fldV_len]; exact (List.getElem?_eq_some_iff.mp h4).1) ?_
  rw [fldV_setI _ _ _ _ _ _ h4, Nat.zero_add, ent_upI (ent_obj hs)]
  exact kk
theorem zt_putZ {ci k index a : Nat} {v : Int32} (hd : decode (zb m) pc = .ok (.putfield index, 3)) (hp : pc + 3 = q) (hz : Zf (zy m).cls index ci k (0, 0) false .boolean) (hn : narrow .boolean (.int v) = .int v) (hfit : fits .boolean (.int v) = true) (hs : zsh yy a = (10 + ci, 0, 0, 0)) (kk : wp yy m Q q lo st (uI M a k v)) : wp yy m Q pc lo (.int v :: .ref a :: st) M := by
  subst hp
  obtain ⟨cl, h1, h2, h3, h4, h5, h6⟩ := hz
  refine s_put hd h1 h2 h3 h5 (ent_obj hs) (zsh_lt hs (Or.inl (by omega))) (fun B => by rw [h6]; exact ⟨hn, hfit⟩) (by rw [fldV_len]; exact (List.getElem?_eq_some_iff.mp h4).1) ?_
  rw [fldV_setI _ _ _ _ _ _ h4, Nat.zero_add, ent_upI (ent_obj hs)]
  exact kk
theorem zt_putL {ci k index a : Nat} {v : Int64} (hd : decode (zb m) pc = .ok (.putfield index, 3)) (hp : pc + 3 = q) (hz : Zf (zy m).cls index ci k (1, 0) false .long) (hs : zsh yy a = (10 + ci, 0, 0, 0)) (kk : wp yy m Q q lo st (uL M a k v)) : wp yy m Q pc lo (.long v :: .ref a :: st) M := by
  subst hp
  obtain ⟨cl, h1, h2, h3, h4, h5, h6⟩ := hz
  refine s_put hd h1 h2 h3 h5 (ent_obj hs) (zsh_lt hs (Or.inl (by omega))) (fun B => by rw [h6]; exact ⟨rfl, rfl⟩) (by rw [fldV_len]; exact (List.getElem?_eq_some_iff.mp h4).1) ?_
  rw [fldV_setL _ _ _ _ _ _ h4, Nat.zero_add, ent_upL (ent_obj hs)]
  exact kk
theorem zt_iald {a len : Nat} {i : Int32} (hd : decode (zb m) pc = .ok (.iaload, 1)) (hp : pc + 1 = q) (hs : zsh yy a = (0, len, 0, 0)) (hin : vp_in i len) (kk : wp yy m Q q lo (.int (M.1 a i.toNatClampNeg) :: st) M) : wp yy m Q pc lo (.int i :: .ref a :: st) M := by
  subst hp
  exact s_iald hd (ent_int hs) (zsh_lt hs (Or.inr (vp_pos hin))) hin kk
theorem zt_zald {a len : Nat} {i : Int32} (hd : decode (zb m) pc = .ok (.baload, 1)) (hp : pc + 1 = q) (hs : zsh yy a = (2, len, 0, 0)) (hin : vp_in i len) (kk : wp yy m Q q lo (.int (M.1 a i.toNatClampNeg) :: st) M) : wp yy m Q pc lo (.int i :: .ref a :: st) M := by
  subst hp
  exact s_zald hd (ent_bool hs) (zsh_lt hs (Or.inl (by omega))) hin kk
theorem zt_lald {a len : Nat} {i : Int32} (hd : decode (zb m) pc = .ok (.laload, 1)) (hp : pc + 1 = q) (hs : zsh yy a = (1, len, 0, 0)) (hin : vp_in i len) (kk : wp yy m Q q lo (.long (M.2 a i.toNatClampNeg) :: st) M) : wp yy m Q pc lo (.int i :: .ref a :: st) M := by
  subst hp
  exact s_lald hd (ent_long hs) (zsh_lt hs (Or.inl (by omega))) hin kk
theorem zt_aald {t a b len bs ks : Nat} {ty : FieldType} {i : Int32} (hd : decode (zb m) pc = .ok (.aaload, 1)) (hp : pc + 1 = q) (ht : ∀ o : Zo, (ztys o)[t]? = some (o.2.2 t, ty)) (hty : ty.isReference = true) (h3 : 3 ≤ t) (h9 : t < 10) (hs : zsh yy a = (t, len, bs, ks)) (hin : vp_in i len) (hb : a + bs + ks * i.toNatClampNeg = b) (kk : wp yy m Q q lo (.ref b :: st) M) : wp yy m Q pc lo (.int i :: .ref a :: st) M := by
  subst hp
  subst hb
  exact s_aald hd ht hty (ent_ref hs h3 h9) (zsh_lt hs (Or.inl (by omega))) hin (if_pos (vp_lt hin)) kk
theorem zt_alenI {a len : Nat} (hd : decode (zb m) pc = .ok (.arraylength, 1)) (hp : pc + 1 = q) (hs : zsh yy a = (0, len, 0, 0)) (h0 : 0 < len) (kk : wp yy m Q q lo (.int (Int32.ofNat len) :: st) M) : wp yy m Q pc lo (.ref a :: st) M := by
  subst hp
  exact s_alen (t := 0) hd (fun _ => rfl) (ent_int hs) (zsh_lt hs (Or.inr h0)) kk
theorem zt_iast {a len : Nat} {i x : Int32} (hd : decode (zb m) pc = .ok (.iastore, 1)) (hp : pc + 1 = q) (hs : zsh yy a = (0, len, 0, 0)) (hin : vp_in i len) (kk : wp yy m Q q lo st (uI M a i.toNatClampNeg x)) : wp yy m Q pc lo (.int x :: .int i :: .ref a :: st) M := by
  subst hp
  refine s_iast hd (ent_int hs) (zsh_lt hs (Or.inr (vp_pos hin))) hin ?_
  rw [ent_upI (k := i.toNatClampNeg) (v := x) (by rw [ent_int hs]; simp [uI])]
  exact kk
theorem zt_zast {a len : Nat} {i x : Int32} (hd : decode (zb m) pc = .ok (.bastore, 1)) (hp : pc + 1 = q) (hs : zsh yy a = (2, len, 0, 0)) (hin : vp_in i len) (kk : wp yy m Q q lo st (uI M a i.toNatClampNeg (vp_nar .boolean x))) : wp yy m Q pc lo (.int x :: .int i :: .ref a :: st) M := by
  subst hp
  refine s_zast hd (ent_bool hs) (zsh_lt hs (Or.inl (by omega))) hin ?_
  rw [ent_upI (k := i.toNatClampNeg) (v := vp_nar .boolean x) (by rw [ent_bool hs]; simp [uI])]
  exact kk
theorem zt_last {a len : Nat} {i : Int32} {x : Int64} (hd : decode (zb m) pc = .ok (.lastore, 1)) (hp : pc + 1 = q) (hs : zsh yy a = (1, len, 0, 0)) (hin : vp_in i len) (kk : wp yy m Q q lo st (uL M a i.toNatClampNeg x)) : wp yy m Q pc lo (.long x :: .int i :: .ref a :: st) M := by
  subst hp
  refine s_last hd (ent_long hs) (zsh_lt hs (Or.inl (by omega))) hin ?_
  rw [ent_upL (k := i.toNatClampNeg) (v := x) (by rw [ent_long hs]; simp [uL])]
  exact kk
/-- what the tables say of a method, whoever calls it -/
def Zm0 (m' : Zm) (np : Nat) : Prop := Cond.code (zy m') (zb m') (zl m') (zr m') ∈ zG ∧ Cond.initialized (zy m').cls ∈ zG ∧ ((zy m').cls ≠ "java/lang/invoke/MethodHandle" ∧ (zy m').cls ≠ "java/lang/invoke/VarHandle") ∧ (parseMethodDescriptor (zy m').desc).map (fun d => d.parameters.length) = some np
def ZmI (m' : Zm) (ci np : Nat) : Prop := Zm0 m' np ∧ Cond.instanceMethod (zy m') ∈ zG ∧ Cond.selects (zy m').cls (zy m') (zy m') ∈ zG ∧ (zR m').cells = 0 ∧ (zR m').slots = 0 ∧ zg m' = false ∧ ∃ cl : vw_C, zcl[ci]? = some cl ∧ cl.1 = (zy m').cls
def ZmS (m' : Zm) (np : Nat) : Prop := Zm0 m' np ∧ Cond.static (zy m') ∈ zG ∧ (zR m').cells = 0 ∧ (zR m').slots = 0 ∧ zg m' = false
/-- the room of a call -/
def Zro (m m' : Zm) : Prop := (zR m').frames + 1 ≤ (zR m).frames ∧ 8 + (zl m' + 11) + (zR m').locals ≤ (zR m).locals
theorem zt_callV {b ci np index : Nat} {as : List Value} {Q' : Option Value → Mem → Prop} (hd : decode (zb m) pc = .ok (.invokevirtual index, 3)) (hp : pc + 3 = q) (hm : ZmI m' ci np) (hro : Zro m m') (hl : Cond.methodLink (zy m).cls index (zy m') ∈ zG) (hst : st0 = as.reverse ++ .ref b :: st) (hn : as.length = np) (hW : (st.map fun v => v.category).sum ≤ 8) (hs : zsh yy b = (10 + ci, 0, 0, 0)) (hM : Call yy m' (.ref b :: as) M Q') (kk : ∀ v M1, Q' v M1 → wp yy m Q q lo (v.toList ++ st) M1) : wp yy m Q pc lo st0 M := by
  subst hp
  obtain ⟨⟨h1, h2, h3, h4⟩, h5, h6, h7, h8, h9, cl, h10, h11⟩ := hm
  refine s_callV hd ⟨hro.1, hro.2, (fun g => by rw [h9] at g; cases g), h1, h2, h3, h4⟩ hl h5 h6 h10 h11 (ent_obj hs) (zsh_lt hs (Or.inl (by omega))) hst hn hW (by rw [h7]; exact Nat.zero_le _) (by rw [h8]; exact Nat.zero_le _) hM ?_
  rintro v n' f' ⟨rfl, M1, rfl, hq⟩
  rw [h7, h8]
  exact kk v M1 hq
theorem zt_callS {np index : Nat} {as : List Value} {Q' : Option Value → Mem → Prop} (hd : decode (zb m) pc = .ok (.invokestatic index, 3)) (hp : pc + 3 = q) (hm : ZmS m' np) (hro : Zro m m') (hl : Cond.methodLink (zy m).cls index (zy m') ∈ zG) (hst : st0 = as.reverse ++ st) (hn : as.length = np) (hW : (st.map fun v => v.category).sum ≤ 8) (hM : Call yy m' as M Q') (kk : ∀ v M1, Q' v M1 → wp yy m Q q lo (v.toList ++ st) M1) : wp yy m Q pc lo st0 M := by
  subst hp
  obtain ⟨⟨h1, h2, h3, h4⟩, h5, h7, h8, h9⟩ := hm
  refine s_callS hd ⟨hro.1, hro.2, (fun g => by rw [h9] at g; cases g), h1, h2, h3, h4⟩ hl h5 hst hn hW (by rw [h7]; exact Nat.zero_le _) (by rw [h8]; exact Nat.zero_le _) hM ?_
  rintro v n' f' ⟨rfl, M1, rfl, hq⟩
  rw [h7, h8]
  exact kk v M1 hq
theorem zt_callVI {b ci np index : Nat} {as : List Value} {Q' : Int32 → Mem → Prop} (hd : decode (zb m) pc = .ok (.invokevirtual index, 3)) (hp : pc + 3 = q) (hm : ZmI m' ci np) (hro : Zro m m') (hl : Cond.methodLink (zy m).cls index (zy m') ∈ zG) (hst : st0 = as.reverse ++ .ref b :: st) (hn : as.length = np) (hW : (st.map fun v => v.category).sum ≤ 8) (hs : zsh yy b = (10 + ci, 0, 0, 0)) (hM : CallI yy m' (.ref b :: as) M Q') (kk : ∀ r M1, Q' r M1 → wp yy m Q q lo (.int r :: st) M1) : wp yy m Q pc lo st0 M :=
  zt_callV hd hp hm hro hl hst hn hW hs hM (fun v M1 h => by obtain ⟨r, rfl, h⟩ := h; exact kk r M1 h)
theorem zt_callSI {np index : Nat} {as : List Value} {Q' : Int32 → Mem → Prop} (hd : decode (zb m) pc = .ok (.invokestatic index, 3)) (hp : pc + 3 = q) (hm : ZmS m' np) (hro : Zro m m') (hl : Cond.methodLink (zy m).cls index (zy m') ∈ zG) (hst : st0 = as.reverse ++ st) (hn : as.length = np) (hW : (st.map fun v => v.category).sum ≤ 8) (hM : CallI yy m' as M Q') (kk : ∀ r M1, Q' r M1 → wp yy m Q q lo (.int r :: st) M1) : wp yy m Q pc lo st0 M :=
  zt_callS hd hp hm hro hl hst hn hW hM (fun v M1 h => by obtain ⟨r, rfl, h⟩ := h; exact kk r M1 h)
theorem zt_callVL {b ci np index : Nat} {as : List Value} {Q' : Int64 → Mem → Prop} (hd : decode (zb m) pc = .ok (.invokevirtual index, 3)) (hp : pc + 3 = q) (hm : ZmI m' ci np) (hro : Zro m m') (hl : Cond.methodLink (zy m).cls index (zy m') ∈ zG) (hst : st0 = as.reverse ++ .ref b :: st) (hn : as.length = np) (hW : (st.map fun v => v.category).sum ≤ 8) (hs : zsh yy b = (10 + ci, 0, 0, 0)) (hM : CallL yy m' (.ref b :: as) M Q') (kk : ∀ r M1, Q' r M1 → wp yy m Q q lo (.long r :: st) M1) : wp yy m Q pc lo st0 M :=
  zt_callV hd hp hm hro hl hst hn hW hs hM (fun v M1 h => by obtain ⟨r, rfl, h⟩ := h; exact kk r M1 h)
theorem zt_callSL {np index : Nat} {as : List Value} {Q' : Int64 → Mem → Prop} (hd : decode (zb m) pc = .ok (.invokestatic index, 3)) (hp : pc + 3 = q) (hm : ZmS m' np) (hro : Zro m m') (hl : Cond.methodLink (zy m).cls index (zy m') ∈ zG) (hst : st0 = as.reverse ++ st) (hn : as.length = np) (hW : (st.map fun v => v.category).sum ≤ 8) (hM : CallL yy m' as M Q') (kk : ∀ r M1, Q' r M1 → wp yy m Q q lo (.long r :: st) M1) : wp yy m Q pc lo st0 M :=
  zt_callS hd hp hm hro hl hst hn hW hM (fun v M1 h => by obtain ⟨r, rfl, h⟩ := h; exact kk r M1 h)
theorem zt_callVR {b ci np index : Nat} {as : List Value} {Q' : Nat → Mem → Prop} (hd : decode (zb m) pc = .ok (.invokevirtual index, 3)) (hp : pc + 3 = q) (hm : ZmI m' ci np) (hro : Zro m m') (hl : Cond.methodLink (zy m).cls index (zy m') ∈ zG) (hst : st0 = as.reverse ++ .ref b :: st) (hn : as.length = np) (hW : (st.map fun v => v.category).sum ≤ 8) (hs : zsh yy b = (10 + ci, 0, 0, 0)) (hM : CallR yy m' (.ref b :: as) M Q') (kk : ∀ r M1, Q' r M1 → wp yy m Q q lo (.ref r :: st) M1) : wp yy m Q pc lo st0 M :=
  zt_callV hd hp hm hro hl hst hn hW hs hM (fun v M1 h => by obtain ⟨r, rfl, h⟩ := h; exact kk r M1 h)
theorem zt_callSR {np index : Nat} {as : List Value} {Q' : Nat → Mem → Prop} (hd : decode (zb m) pc = .ok (.invokestatic index, 3)) (hp : pc + 3 = q) (hm : ZmS m' np) (hro : Zro m m') (hl : Cond.methodLink (zy m).cls index (zy m') ∈ zG) (hst : st0 = as.reverse ++ st) (hn : as.length = np) (hW : (st.map fun v => v.category).sum ≤ 8) (hM : CallR yy m' as M Q') (kk : ∀ r M1, Q' r M1 → wp yy m Q q lo (.ref r :: st) M1) : wp yy m Q pc lo st0 M :=
  zt_callS hd hp hm hro hl hst hn hW hM (fun v M1 h => by obtain ⟨r, rfl, h⟩ := h; exact kk r M1 h)
theorem zt_callVV {b ci np index : Nat} {as : List Value} {Q' : Mem → Prop} (hd : decode (zb m) pc = .ok (.invokevirtual index, 3)) (hp : pc + 3 = q) (hm : ZmI m' ci np) (hro : Zro m m') (hl : Cond.methodLink (zy m).cls index (zy m') ∈ zG) (hst : st0 = as.reverse ++ .ref b :: st) (hn : as.length = np) (hW : (st.map fun v => v.category).sum ≤ 8) (hs : zsh yy b = (10 + ci, 0, 0, 0)) (hM : CallV yy m' (.ref b :: as) M Q') (kk : ∀ M1, Q' M1 → wp yy m Q q lo st M1) : wp yy m Q pc lo st0 M :=
  zt_callV hd hp hm hro hl hst hn hW hs hM (fun v M1 h => by obtain ⟨rfl, h⟩ := h; exact kk M1 h)
theorem zt_callSV {np index : Nat} {as : List Value} {Q' : Mem → Prop} (hd : decode (zb m) pc = .ok (.invokestatic index, 3)) (hp : pc + 3 = q) (hm : ZmS m' np) (hro : Zro m m') (hl : Cond.methodLink (zy m).cls index (zy m') ∈ zG) (hst : st0 = as.reverse ++ st) (hn : as.length = np) (hW : (st.map fun v => v.category).sum ≤ 8) (hM : CallV yy m' as M Q') (kk : ∀ M1, Q' M1 → wp yy m Q q lo st M1) : wp yy m Q pc lo st0 M :=
  zt_callS hd hp hm hro hl hst hn hW hM (fun v M1 h => by obtain ⟨rfl, h⟩ := h; exact kk M1 h)
/-- Math's static functions -/
def Zma (m : Zm) (index : Nat) (y : MethodName) (b : ByteArray) (k : Nat) : Prop := Cond.methodLink (zy m).cls index y ∈ zG ∧ Cond.static y ∈ zG ∧ Cond.initialized "java/lang/Math" ∈ zG ∧ Cond.code y b k (some .int) ∈ zG ∧ 1 ≤ (zR m).frames
theorem zt_mmax {index : Nat} {x z : Int32} (hd : decode (zb m) pc = .ok (.invokestatic index, 3)) (hp : pc + 3 = q) (hz : Zma m index Lib.Math.max.name Lib.Math.max.code 2) (hlo : (st.map fun v => v.category).sum + 13 ≤ (zR m).locals) (kk : wp yy m Q q lo (.int (if x < z then z else x) :: st) M) : wp yy m Q pc lo (.int z :: .int x :: st) M := by
  subst hp
  exact s_mmax hd hz.1 hz.2.1 hz.2.2.1 hz.2.2.2.1 hz.2.2.2.2 hlo (Nat.zero_le _) (Nat.zero_le _) kk
theorem zt_mmin {index : Nat} {x z : Int32} (hd : decode (zb m) pc = .ok (.invokestatic index, 3)) (hp : pc + 3 = q) (hz : Zma m index Lib.Math.min.name Lib.Math.min.code 2) (hlo : (st.map fun v => v.category).sum + 13 ≤ (zR m).locals) (kk : wp yy m Q q lo (.int (if z < x then z else x) :: st) M) : wp yy m Q pc lo (.int z :: .int x :: st) M := by
  subst hp
  exact s_mmin hd hz.1 hz.2.1 hz.2.2.1 hz.2.2.2.1 hz.2.2.2.2 hlo (Nat.zero_le _) (Nat.zero_le _) kk
theorem zt_mabs {index : Nat} {x : Int32} (hd : decode (zb m) pc = .ok (.invokestatic index, 3)) (hp : pc + 3 = q) (hz : Zma m index Lib.Math.abs.name Lib.Math.abs.code 1) (hlo : (st.map fun v => v.category).sum + 13 ≤ (zR m).locals) (kk : wp yy m Q q lo (.int (if 0 ≤ x then x else 0 - x) :: st) M) : wp yy m Q pc lo (.int x :: st) M := by
  subst hp
  exact s_mabs hd hz.1 hz.2.1 hz.2.2.1 hz.2.2.2.1 hz.2.2.2.2 hlo (Nat.zero_le _) (Nat.zero_le _) kk
end ZRW
