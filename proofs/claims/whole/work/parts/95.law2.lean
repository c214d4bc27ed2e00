/-! the law calls: a method runs over its own part of the heap -/
section ZLW
variable {p : Program} {e : Env} {s : State} {m : MethodId} {below : List Frame} {meth : Method} {c : Code} {l : Launch} {b L : Nat} {xs : Nat → Int32} {Z : State → Prop} {D : va_G} {F : Nat → ClassId}
theorem lw_zg (C0 : lw_At p s m meth c b L xs) : ∀ w ∈ zG, w.before #[Value.ref b] s = true := fun w hw => C0.2.2.2.2.2.1 w (List.mem_filter.mp hw).1
theorem L_call {H : Heap} {cs ss pc : Nat} {ls : Array Slot} {st : List Value} {y : List Sh} {k ci np index : Nat} {m' : Zm} {as : List Value} {M : Mem} {Q : Option Value → Mem → Prop} (C0 : lw_At p s m meth c b L xs) (hZ : ∀ B, Zk (B, D, F) s) (hls : ls.size = 4) (hd : decode code pc = .ok (.invokevirtual index, 3)) (hm : ZmI m' ci np) (hfr : (zR m').frames + 1 ≤ 10) (hlo : 8 + (zl m' + 11) + (zR m').locals ≤ 386) (hl : Cond.methodLink R_law index (zy m') ∈ zG) (hn : as.length = np) (hW : (st.map fun v => v.category).sum ≤ 8) (hc : cs ≤ 600000) (hs : ss ≤ 7302250) (hy : zsh y 0 = (10 + ci, 0, 0, 0)) (hH : Hw (s.heap.size + k, D, F) y.length (ent y M) H) (hle : s.heap.size + k + y.length ≤ H.size) (has : as.map (trV (s.heap.size + k)) = as) (hM : Call y m' (.ref 0 :: as) M Q)
    (kk : ∀ (v : Option Value) (M' : Mem) (H' : Heap), Q v M' → Hw (s.heap.size + k, D, F) y.length (ent y M') H' → H'.size = H.size → (∀ q : Nat, q < H.size → (q < s.heap.size + k ∨ s.heap.size + k + y.length ≤ q) → H'[q]? = H[q]?) → W p l e room_1 s m #[Value.ref b] below meth c H' [] cs ss Z (F0 m (pc + 3) ls ((v.map (trV (s.heap.size + k))).toList ++ st))) :
    W p l e room_1 s m #[Value.ref b] below meth c H [] cs ss Z (F0 m pc ls (as.reverse ++ .ref (s.heap.size + k) :: st)) := by
  have hzg := lw_zg C0
  obtain ⟨C1, C2, C3, C4, C5, C6, C7, C8, C9, C10⟩ := C0
  obtain ⟨⟨h1, h2, h3, h4⟩, h5, h6, h7, h8, h9, cl, h10, h11⟩ := hm
  have hlen : 0 < y.length := zsh_lt hy (Or.inl (by omega))
  have hat := hH 0 hlen
  rw [ent_obj hy] at hat
  obtain ⟨q', g1, cell, g2, g3, g4, -⟩ := hat
  have hq' : q' = cl := Option.some.inj (g1.symm.trans h10)
  subst hq'
  have hpay : ∀ w ∈ zw m', ∀ (a' : Array Value) (U : State), s.WarmedH U.vm → w.before a' U = true := by
    intro w hw a' U hWm
    have hg : w ∈ zG := by
      rcases List.mem_cons.mp hw with rfl | hw
      · exact h1
      · exact hw
    exact word_at hWm (zg_good hg) (hzg w hg)
  have run := va_runV (As := as) (rest := st) (b := s.heap.size + k) (C := (zy m').cls) (g := F0 m pc ls (as.reverse ++ .ref (s.heap.size + k) :: st)) (cells := cs) (slots := ss) (locs := []) (H := H) (R := room_1) (below := below) (meth := meth) (e := e)
    (S := (⟨C1, C2, C4, C5, C6⟩ : CallFix p m c code 4 s #[Value.ref b] lw_tbl R_law)) (hM l (s.heap.size + k, D, F) H.size) ⟨⟨rfl, rfl, hfr, hlo, hpay, List.mem_cons_self, hzg _ h1, hzg _ h2, h3, fun sig h => by rw [h] at h4; exact (Option.some.inj h4).symm, hzg _ hl⟩, hzg _ h5, hzg _ h6⟩
    ⟨zblind (n2 := 0), ⟨cell, by rw [Nat.add_zero] at g2; exact g2, by rw [g4]; rfl, by rw [g3, ← h11]; exact ((hZ 0).1.1 ci _ h10).2.1⟩, fun U hU hWm => ⟨by rw [List.map_cons, has]; rfl, by rw [hU], by rw [hU]; exact hH, Zk.warm hWm (hZ (s.heap.size + k)), ⟨fun (hg : zg m' = true) => absurd (h9.symm.trans hg) (by decide), hle⟩⟩⟩
    rfl hn hls rfl (lv_room hW) hd ⟨by rw [h7]; exact hc, by rw [h8]; exact hs⟩
  intro T hT X
  obtain ⟨v, st₀, t, T', Lc, h0, X', hL, e1, e2, ⟨⟨v', n', f', hv, ⟨rfl, M', rfl, hq⟩, -, hH', hsz, -⟩, hz, hk⟩, stp⟩ := run T hT X
  cases hv
  rw [h0] at hz hk hsz
  rw [h7, h8] at X'
  have hforget : W p l e room_1 s m #[Value.ref b] below meth c t.heap ([] ++ Lc) cs ss Z (F0 m (pc + 3) ls ((v'.map (trV (s.heap.size + k))).toList ++ st)) :=
    va_forget (fun q hq2 => by
      rw [List.nil_append] at hq2
      rcases hL q hq2 with ⟨z1, z2⟩ | z1
      · exact Nat.le_trans (Nat.le_add_right _ _) z1
      · omega) (kk v' M' t.heap hq hH' (by omega) (fun q hq1 hq2 => hk q hq1 (fun z => by
        rcases z with ⟨z1, z2⟩ | z1
        · rcases hq2 with hq2 | hq2
          · exact absurd z1 (by show ¬ s.heap.size + k ≤ q; omega)
          · exact absurd z2 (by show ¬ q < s.heap.size + k + y.length; omega)
        · omega)))
  obtain ⟨t2, a1, b1⟩ := hforget T' e1 X'
  exact ⟨t2, stp t2 a1, b1⟩
end ZLW
