/-! making the worlds: what a constructor has done so far -/
def M0 : Mem := (fun _ _ => 0, fun _ _ => 0)
theorem en_s {f : Nat → En} {k : Nat} {v : En} : va_up f k v k = v := if_pos rfl
theorem en_n {f : Nat → En} {k j : Nat} {v : En} (h : j ≠ k) : va_up f k v j = f j := if_neg h
/-- the object at a has the fields fs; all before it is as it was; all behind it is as the layout has it, but the arrays in R -/
def INV (y : List Sh) (f0 f : Nat → En) (a n ci : Nat) (fs : List Value) (R : List Nat) : Prop := f a = .inr (ci, fs) ∧ a < n ∧ (∀ b, b < a → f b = f0 b) ∧ ∀ b, a < b → b < n → b ∉ R → f b = ent y M0 b
section ZCT
variable {m : Zm} {Q : Option Value → Nat → (Nat → En) → Prop} {pc : Nat} {lo : List (Nat × Value)} {st : List Value} {cs ss n : Nat} {f g : Nat → En}
theorem s_cong (h : ∀ a, a < n → f a = g a) (kk : wp0 m Q pc lo st cs ss n g) : wp0 m Q pc lo st cs ss n f := fun p l e s mi args below meth c o n0 H locs ls C S => kk p l e s mi args below meth c o n0 H locs ls C ⟨S.1.congr h, S.2⟩
def PUSH (m : Zm) (Q : Option Value → Nat → (Nat → En) → Prop) (lo : List (Nat × Value)) (p1 p2 : Nat) (vs : List Value) : Prop := ∀ (st : List Value) (cs ss n : Nat) (f : Nat → En), wp0 m Q p2 lo (vs.reverse ++ st) cs ss n f → wp0 m Q p1 lo st cs ss n f
variable {y : List Sh} {f0 : Nat → En} {a ci : Nat} {fs : List Value} {R : List Nat}
theorem c_put {index k v : Nat} {d : Nat × Nat} {ty : FieldType} (hI : INV y f0 f a n ci fs R) (hini : (zy m).name = "<init>") (hd : decode (zb m) pc = .ok (.putfield index, 3)) (hz : Zf (zy m).cls index ci k d true ty) (hdecl : ∀ cl, zcl[ci]? = some cl → (cl.2.1 k).1 = (zy m).cls) (hn : ∀ x, narrow ty (.ref x) = .ref x ∧ fits ty (.ref x) = true) (hl : k < fs.length) (kk : ∀ g, INV y f0 g a n ci (fs.set k (.ref v)) R → (∀ b, b ≠ a → g b = f b) → wp0 m Q (pc + 3) lo st cs ss n g) : wp0 m Q pc lo (.ref v :: .ref a :: st) cs ss n f := by
  obtain ⟨cl, h1, h2, h3, h4, h5, h6⟩ := hz
  refine s_putF hd h1 h2 h3 h5 hini (hdecl cl h1) hI.1 hI.2.1 (fun B => ?_) hl (kk _ ⟨en_s, hI.2.1, fun b hb => ?_, fun b h7 h8 h9 => ?_⟩ (fun b hb => en_n hb))
  · rw [h6]
    exact hn _
  · rw [en_n (by omega)]
    exact hI.2.2.1 b hb
  · rw [en_n (by omega)]
    exact hI.2.2.2 b h7 h8 h9
theorem INV.grow {e : En} (hI : INV y f0 f a n ci fs R) (he : e = ent y M0 n) : INV y f0 (va_up f n e) a (n + 1) ci fs R := by
  have h2 := hI.2.1
  refine ⟨by rw [en_n (by omega)]; exact hI.1, by omega, fun b hb => by rw [en_n (by omega)]; exact hI.2.2.1 b hb, fun b h7 h8 h9 => ?_⟩
  by_cases c : b = n
  · subst c
    rw [en_s]
    exact he
  · rw [en_n c]
    exact hI.2.2.2 b h7 (by omega) h9
theorem INV.growR {e : En} (hI : INV y f0 f a n ci fs R) : INV y f0 (va_up f n e) a (n + 1) ci fs (n :: R) := by
  have h2 := hI.2.1
  refine ⟨by rw [en_n (by omega)]; exact hI.1, by omega, fun b hb => by rw [en_n (by omega)]; exact hI.2.2.1 b hb, fun b h7 h8 h9 => ?_⟩
  have c : b ≠ n := fun c => h9 (by rw [c]; exact List.mem_cons_self)
  rw [en_n c]
  exact hI.2.2.2 b h7 (by omega) (fun z => h9 (List.mem_cons_of_mem _ z))
theorem c_newI {index k N p2 : Nat} {d : Nat × Nat} (hI : INV y f0 f a n ci fs R) (hgm : zg m = true) (hini : (zy m).name = "<init>") (h0 : decode (zb m) pc = .ok (.aload_n 0, 1)) {kl : Nat} (hlo : lo[kl]? = some (0, .ref a)) (hp : PUSH m Q lo (pc + 1) p2 [.int (nI N)]) (h2 : decode (zb m) p2 = .ok (.newarray .int, 2)) (harr : Cond.arrayClass .int ∈ zG) (hN : N < 2 ^ 20) (hc : cs + 1 ≤ (zR m).cells) (hs : ss + N ≤ (zR m).slots) (h3 : decode (zb m) (p2 + 2) = .ok (.putfield index, 3)) (hz : Zf (zy m).cls index ci k d true (.array .int)) (hdecl : ∀ cl, zcl[ci]? = some cl → (cl.2.1 k).1 = (zy m).cls) (hl : k < fs.length) (hy : zsh y n = (0, N, 0, 0)) (kk : ∀ g, INV y f0 g a (n + 1) ci (fs.set k (.ref n)) R → (∀ b, b ≠ a → b < n → g b = f b) → wp0 m Q (p2 + 5) lo st (cs + 1) (ss + N) (n + 1) g) : wp0 m Q pc lo st cs ss n f := by
  refine s_aload_n kl h0 rfl hlo (hp _ _ _ _ _ (s_newaI hgm h2 harr hN hc hs ?_))
  refine c_put (hI.grow (by rw [ent_int hy]; rfl)) hini h3 hz hdecl (fun _ => ⟨rfl, rfl⟩) hl (fun g hg e => kk g hg (fun b hb hb2 => ?_))
  rw [e b hb, en_n (by omega)]
theorem c_newL {index k N p2 : Nat} {d : Nat × Nat} (hI : INV y f0 f a n ci fs R) (hgm : zg m = true) (hini : (zy m).name = "<init>") (h0 : decode (zb m) pc = .ok (.aload_n 0, 1)) {kl : Nat} (hlo : lo[kl]? = some (0, .ref a)) (hp : PUSH m Q lo (pc + 1) p2 [.int (nI N)]) (h2 : decode (zb m) p2 = .ok (.newarray .long, 2)) (harr : Cond.arrayClass .long ∈ zG) (hN : N < 2 ^ 20) (hc : cs + 1 ≤ (zR m).cells) (hs : ss + N ≤ (zR m).slots) (h3 : decode (zb m) (p2 + 2) = .ok (.putfield index, 3)) (hz : Zf (zy m).cls index ci k d true (.array .long)) (hdecl : ∀ cl, zcl[ci]? = some cl → (cl.2.1 k).1 = (zy m).cls) (hl : k < fs.length) (hy : zsh y n = (1, N, 0, 0)) (kk : ∀ g, INV y f0 g a (n + 1) ci (fs.set k (.ref n)) R → (∀ b, b ≠ a → b < n → g b = f b) → wp0 m Q (p2 + 5) lo st (cs + 1) (ss + N) (n + 1) g) : wp0 m Q pc lo st cs ss n f := by
  refine s_aload_n kl h0 rfl hlo (hp _ _ _ _ _ (s_newaL hgm h2 harr hN hc hs ?_))
  refine c_put (hI.grow (by rw [ent_long hy]; rfl)) hini h3 hz hdecl (fun _ => ⟨rfl, rfl⟩) hl (fun g hg e => kk g hg (fun b hb hb2 => ?_))
  rw [e b hb, en_n (by omega)]
theorem c_newZ {index k N p2 : Nat} {d : Nat × Nat} (hI : INV y f0 f a n ci fs R) (hgm : zg m = true) (hini : (zy m).name = "<init>") (h0 : decode (zb m) pc = .ok (.aload_n 0, 1)) {kl : Nat} (hlo : lo[kl]? = some (0, .ref a)) (hp : PUSH m Q lo (pc + 1) p2 [.int (nI N)]) (h2 : decode (zb m) p2 = .ok (.newarray .boolean, 2)) (harr : Cond.arrayClass .boolean ∈ zG) (hN : N < 2 ^ 20) (hc : cs + 1 ≤ (zR m).cells) (hs : ss + N ≤ (zR m).slots) (h3 : decode (zb m) (p2 + 2) = .ok (.putfield index, 3)) (hz : Zf (zy m).cls index ci k d true (.array .boolean)) (hdecl : ∀ cl, zcl[ci]? = some cl → (cl.2.1 k).1 = (zy m).cls) (hl : k < fs.length) (hy : zsh y n = (2, N, 0, 0)) (kk : ∀ g, INV y f0 g a (n + 1) ci (fs.set k (.ref n)) R → (∀ b, b ≠ a → b < n → g b = f b) → wp0 m Q (p2 + 5) lo st (cs + 1) (ss + N) (n + 1) g) : wp0 m Q pc lo st cs ss n f := by
  refine s_aload_n kl h0 rfl hlo (hp _ _ _ _ _ (s_newaZ hgm h2 harr hN hc hs ?_))
  refine c_put (hI.grow (by rw [ent_bool hy]; rfl)) hini h3 hz hdecl (fun _ => ⟨rfl, rfl⟩) hl (fun g hg e => kk g hg (fun b hb hb2 => ?_))
  rw [e b hb, en_n (by omega)]
theorem c_anew {index ix k N p2 t : Nat} {D : String} {d : Nat × Nat} (hI : INV y f0 f a n ci fs R) (hgm : zg m = true) (hini : (zy m).name = "<init>") (h0 : decode (zb m) pc = .ok (.aload_n 0, 1)) {kl : Nat} (hlo : lo[kl]? = some (0, .ref a)) (hp : PUSH m Q lo (pc + 1) p2 [.int (nI N)]) (h2 : decode (zb m) p2 = .ok (.anewarray ix, 3)) (ht : ∀ o : Zo, (ztys o)[t]? = some (o.2.2 t, .object D)) (hcl : Cond.classLink (zy m).cls ix D ∈ zG) (hov : ∀ (o : Zo) (U : State), Zk o U → va_AO D U) (hN : N < 2 ^ 20) (hc : cs + 1 ≤ (zR m).cells) (hs : ss + N ≤ (zR m).slots) (h3 : decode (zb m) (p2 + 3) = .ok (.putfield index, 3)) (hz : Zf (zy m).cls index ci k d true (.array (.object D))) (hdecl : ∀ cl, zcl[ci]? = some cl → (cl.2.1 k).1 = (zy m).cls) (hl : k < fs.length) (kk : ∀ g, INV y f0 g a (n + 1) ci (fs.set k (.ref n)) (n :: R) → g n = .inl (t, N, .inr (.inr (fun _ => none))) → (∀ b, b ≠ a → b < n → g b = f b) → wp0 m Q (p2 + 6) lo st (cs + 1) (ss + N) (n + 1) g) : wp0 m Q pc lo st cs ss n f := by
  refine s_aload_n kl h0 rfl hlo (hp _ _ _ _ _ (s_anew hgm h2 ht hcl hov hN hc hs ?_))
  have h9 := hI.2.1
  refine c_put hI.growR hini h3 hz hdecl (fun _ => ⟨rfl, rfl⟩) hl (fun g hg e => kk g hg ?_ (fun b hb hb2 => ?_))
  · rw [e n (by omega), en_s]
  · rw [e b hb, en_n (by omega)]
/-- a constructor's contract: it makes all of its object, behind which nothing stood -/
def CTR (y : List Sh) (m' : Zm) (cj : Nat) (bl : List Value) (sz n : Nat) (as : List Value) : Prop := ∀ g : Nat → En, g n = .inr (cj, bl) → Call0 m' (.ref n :: as) (n + 1) g (fun v n' h => v = none ∧ n' = n + sz ∧ (∀ b, b < n → h b = g b) ∧ ∀ b, n ≤ b → b < n + sz → h b = ent y M0 b)
theorem c_new {m' : Zm} {ix ic cj np sz p3 : Nat} {q : vw_C} {bl as : List Value} (hgm : zg m = true) (h1 : decode (zb m) pc = .ok (.new ix, 3)) (hq : zcl[cj]? = some q) (hcl : Cond.classLink (zy m).cls ix q.1 ∈ zG) (hins : Cond.instantiable q.1 q.2.2 ∈ zG) (hin0 : Cond.initialized q.1 ∈ zG) (hbl : ∀ B j, j < q.2.2 → defaultValue (ztf cj j) = vp_V (bl.map (trV B)) j) (h2 : decode (zb m) (pc + 3) = .ok (.dup, 1)) (hp : PUSH m Q lo (pc + 4) p3 as) (h3 : decode (zb m) p3 = .ok (.invokespecial ic, 3)) (hm : Zm0 m' np) (hro : Zro m m')
    (hl : Cond.methodLink (zy m).cls ic (zy m') ∈ zG) (hi : Cond.instanceMethod (zy m') ∈ zG) (hni : (zy m').name = "<init>") (hrn : zr m' = none) (hn : as.length = np) (hW : (st.map fun v => v.category).sum ≤ 7) (hc : cs + 1 + (zR m').cells ≤ (zR m).cells) (hs : ss + q.2.2 + (zR m').slots ≤ (zR m).slots) (hM : CTR y m' cj bl sz n as) (kk : ∀ g, (∀ b, b < n → g b = f b) → (∀ b, n ≤ b → b < n + sz → g b = ent y M0 b) → wp0 m Q (p3 + 3) lo (.ref n :: st) (cs + 1 + (zR m').cells) (ss + q.2.2 + (zR m').slots) (n + sz) g) : wp0 m Q pc lo st cs ss n f := by
  refine s_new hgm h1 hq hcl hins hin0 hbl (by omega) (by omega) (s_dup h2 rfl (hp _ _ _ _ _ ?_))
  refine s_callI (b := n) h3 ⟨hro.1, hro.2, fun _ => hgm, hm.1, hm.2.1, hm.2.2.1, hm.2.2.2⟩ hl hi hni hrn rfl hn (by rw [List.map_cons, List.sum_cons]; show 1 + _ ≤ 8; omega) hc hs (hM _ en_s) (fun v n' g hq => ?_)
  obtain ⟨rfl, rfl, q3, q4⟩ := hq
  exact kk g (fun b hb => by rw [q3 b hb, en_n (by omega)]) q4
theorem c_newN {m' : Zm} {ix ic cj np sz p3 : Nat} {q : vw_C} {bl as : List Value} {host : String} (hgm : zg m = true) (h1 : decode (zb m) pc = .ok (.new ix, 3)) (hq : zcl[cj]? = some q) (hcl : Cond.classLink (zy m).cls ix q.1 ∈ zG) (hins : Cond.instantiable q.1 q.2.2 ∈ zG) (hin0 : Cond.initialized q.1 ∈ zG) (hbl : ∀ B j, j < q.2.2 → defaultValue (ztf cj j) = vp_V (bl.map (trV B)) j) (h2 : decode (zb m) (pc + 3) = .ok (.dup, 1)) (hp : PUSH m Q lo (pc + 4) p3 as) (h3 : decode (zb m) p3 = .ok (.invokespecial ic, 3)) (hm : Zm0 m' np) (hro : Zro m m')
    (hl : ((zy m).cls, ic, zy m', host) ∈ znest) (hi : Cond.instanceMethod (zy m') ∈ zG) (hni : (zy m').name = "<init>") (hrn : zr m' = none) (hn : as.length = np) (hW : (st.map fun v => v.category).sum ≤ 7) (hc : cs + 1 + (zR m').cells ≤ (zR m).cells) (hs : ss + q.2.2 + (zR m').slots ≤ (zR m).slots) (hM : CTR y m' cj bl sz n as) (kk : ∀ g, (∀ b, b < n → g b = f b) → (∀ b, n ≤ b → b < n + sz → g b = ent y M0 b) → wp0 m Q (p3 + 3) lo (.ref n :: st) (cs + 1 + (zR m').cells) (ss + q.2.2 + (zR m').slots) (n + sz) g) : wp0 m Q pc lo st cs ss n f := by
  refine s_new hgm h1 hq hcl hins hin0 hbl (by omega) (by omega) (s_dup h2 rfl (hp _ _ _ _ _ ?_))
  refine s_callN (b := n) h3 ⟨hro.1, hro.2, fun _ => hgm, hm.1, hm.2.1, hm.2.2.1, hm.2.2.2⟩ hl hi hni hrn rfl hn (by rw [List.map_cons, List.sum_cons]; show 1 + _ ≤ 8; omega) hc hs (hM _ en_s) (fun v n' g hq => ?_)
  obtain ⟨rfl, rfl, q3, q4⟩ := hq
  exact kk g (fun b hb => by rw [q3 b hb, en_n (by omega)]) q4
theorem INV.block {sz : Nat} {g : Nat → En} (hI : INV y f0 f a n ci fs R) (h1 : ∀ b, b < n → g b = f b) (h2 : ∀ b, n ≤ b → b < n + sz → g b = ent y M0 b) : INV y f0 g a (n + sz) ci fs R := by
  have h9 := hI.2.1
  refine ⟨by rw [h1 a h9]; exact hI.1, by omega, fun b hb => by rw [h1 b (by omega)]; exact hI.2.2.1 b hb, fun b h7 h8 h10 => ?_⟩
  by_cases c : b < n
  · rw [h1 b c]
    exact hI.2.2.2 b h7 c h10
  · exact h2 b (by omega) h8
end ZCT
