/-! the law makes its two objects -/
section ZLN
variable {p : Program} {e : Env} {s : State} {m : MethodId} {below : List Frame} {meth : Method} {c : Code} {l : Launch} {b L : Nat} {xs : Nat → Int32} {Z : State → Prop} {D : va_G} {F : Nat → ClassId}
theorem L_new {H : Heap} {cs ss pc : Nat} {ls : Array Slot} {y : List Sh} {k ci ix ic N : Nat} {m' : Zm} {q : vw_C} {fs : List Value} {P : Mem → Prop} (C0 : lw_At p s m meth c b L xs) (hZ : ∀ B, Zk (B, D, F) s) (hls : ls.size = 4) (h1 : decode code pc = .ok (.new ix, 3)) (hq : zcl[ci]? = some q) (hcl : Cond.classLink R_law ix q.1 ∈ zG) (hins : Cond.instantiable q.1 q.2.2 ∈ zG) (hin0 : Cond.initialized q.1 ∈ zG) (hfs : ∀ B j, j < q.2.2 → defaultValue (ztf ci j) = vp_V (fs.map (trV B)) j) (h2 : decode code (pc + 3) = .ok (.dup, 1)) (h3 : decode code (pc + 4) = .ok (.invokespecial ic, 3)) (hm : Zm0 m' 0) (hfr : (zR m').frames + 1 ≤ 10) (hlo : 8 + (zl m' + 11) + (zR m').locals ≤ 386) (hl : Cond.methodLink R_law ic (zy m') ∈ zG) (hi : Cond.instanceMethod (zy m') ∈ zG) (hni : (zy m').name = "<init>") (hrn : zr m' = none) (hc : cs + 1 + (zR m').cells ≤ 600000) (hs : ss + q.2.2 + (zR m').slots ≤ 7302250) (hsz : H.size = s.heap.size + k)
    (hM : ∀ f : Nat → En, f 0 = .inr (ci, fs) → Call0 m' [.ref 0] 1 f (fun v n g => v = none ∧ n = N ∧ ∃ M', g = ent y M' ∧ P M'))
    (kk : ∀ (M' : Mem) (H' : Heap), P M' → Hw (s.heap.size + k, D, F) N (ent y M') H' → H'.size = s.heap.size + k + N → (∀ q : Nat, q < H.size → H'[q]? = H[q]?) → W p l e room_1 s m #[Value.ref b] below meth c H' [] (cs + 1 + (zR m').cells) (ss + q.2.2 + (zR m').slots) Z (F0 m (pc + 7) ls [.ref (s.heap.size + k)])) :
    W p l e room_1 s m #[Value.ref b] below meth c H [] cs ss Z (F0 m pc ls []) := by
  have hzg := lw_zg C0
  obtain ⟨C1, C2, C3, C4, C5, C6, C7, C8, C9, C10⟩ := C0
  obtain ⟨w1, w2, w3, w4⟩ := hm
  have hKn := (hZ 0).1.1 ci q hq
  refine W.newcK C1 C2 C5 (hzg _ hcl) (hzg _ hins) (hzg _ hin0) rfl h1 (by show cs + 1 ≤ 600000; omega) (by show ss + q.2.2 ≤ 7302250; omega) hKn.2.1 hsz fun H1 kC hkC e1 z1 o1 => ?_
  have hat : va_at D zcl (s.heap.size + k, .inr (ci, fs.map (trV (s.heap.size + k)))) H1 := ⟨_, hq, (u_born (ztf ci) hzg (zcl_in ci q hq) hKn hkC e1 (zcl_ty ci q hq)).to (hfs _)⟩
  refine lv_dup (va := .ref (s.heap.size + k)) C1 C2 h2 rfl ?_
  have hpay : ∀ w ∈ zw m', ∀ (a' : Array Value) (U : State), s.WarmedH U.vm → w.before a' U = true := by
    intro w hw a' U hWm
    have hg : w ∈ zG := by
      rcases List.mem_cons.mp hw with rfl | hw
      · exact w1
      · exact hw
    exact word_at hWm (zg_good hg) (hzg w hg)
  have hH1 : Hw (s.heap.size + k, D, F) 1 (fun _ => .inr (ci, fs)) H1 := fun a ha => by
    have : a = 0 := by omega
    subst this
    exact hat
  have run := va_runI (As := []) (rest := [.ref (s.heap.size + k)]) (b := s.heap.size + k) (g := F0 m (pc + 4) ls [.ref (s.heap.size + k), .ref (s.heap.size + k)]) (cells := cs + 1) (slots := ss + q.2.2) (locs := []) (H := H1) (R := room_1) (below := below) (meth := meth) (e := e)
    (S := (⟨C1, C2, C4, C5, C6⟩ : CallFix p m c code 4 s #[Value.ref b] lw_tbl R_law)) (hM (fun _ => .inr (ci, fs)) rfl l (s.heap.size + k, D, F) H1.size) ⟨⟨rfl, rfl, hfr, hlo, hpay, by rw [← hrn]; exact List.mem_cons_self, by rw [← hrn]; exact hzg _ w1, hzg _ w2, w3, fun sig h => by rw [h] at w4; exact (Option.some.inj w4).symm, hzg _ hl⟩, hni, hzg _ hi⟩
    ⟨zblind (n2 := 0), fun U hU hWm => ⟨rfl, by rw [hU], by rw [hU]; exact hH1, Zk.warm hWm (hZ (s.heap.size + k)), ⟨fun _ => z1, by show s.heap.size + k + 1 ≤ H1.size; omega⟩⟩⟩
    rfl rfl hls rfl (lv_room (by show 1 + 0 ≤ 8; decide)) h3 ⟨hc, hs⟩
  intro T hT X
  obtain ⟨v, st₀, t, T', Lc, h0, X', hL, e1', e2, ⟨⟨v', n', f', hv, ⟨rfl, rfl, M', rfl, hP⟩, -, hH', hsz', -⟩, hz, hk⟩, stp⟩ := run T hT X
  cases hv
  rw [h0] at hz hk hsz'
  have hforget : W p l e room_1 s m #[Value.ref b] below meth c t.heap ([] ++ Lc) (cs + 1 + (zR m').cells) (ss + q.2.2 + (zR m').slots) Z (F0 m (pc + 7) ls [.ref (s.heap.size + k)]) :=
    va_forget (fun q2 hq2 => by
      rw [List.nil_append] at hq2
      rcases hL q2 hq2 with ⟨y1, y2⟩ | y1
      · exact Nat.le_trans (Nat.le_add_right _ _) y1
      · omega) (kk M' t.heap hP hH' (by omega) (fun q2 hq1 => (hk q2 (by omega) (fun y => by
        rcases y with ⟨y1, y2⟩ | y1
        · exact absurd y1 (by show ¬ s.heap.size + k ≤ q2; omega)
        · omega)).trans (o1 q2 (by omega))))
  obtain ⟨t2, a1, b1⟩ := hforget T' e1' X'
  exact ⟨t2, stp t2 a1, b1⟩
end ZLN
