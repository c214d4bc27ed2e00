/-! the law's loop, and the law from its entry -/
theorem wd_15 : ((Jvm.Cond.instanceMethod ({ cls := "EditGuess", name := "<init>", desc := "()V" } : Jvm.MethodName)) : Cond) ∈ zG := zgm (List.mem_append_right _ (List.mem_append_left _ (List.mem_of_getElem? (l := tables_1_1) (i := 15) rfl))) rfl
theorem wd_648 : ((Jvm.Cond.instanceMethod ({ cls := "EditGuessModel", name := "<init>", desc := "()V" } : Jvm.MethodName)) : Cond) ∈ zG := zgm (List.mem_append_right _ (List.mem_append_right _ (List.mem_append_right _ (List.mem_append_left _ (List.mem_of_getElem? (l := tables_1_3) (i := 168) rfl))))) rfl
section ZLL
variable {p : Program} {e : Env} {s : State} {m : MethodId} {below : List Frame} {meth : Method} {c : Code} {l : Launch} {b L : Nat} {xs : Nat → Int32} {D : va_G} {F : Nat → ClassId}
theorem lw_gt {a i : Nat} (ha : a ≤ 1536) (hi : i ≤ 1536) : (nI a - 3 < nI i) ↔ a < i + 3 := by
  rw [Int32.lt_iff_toInt_lt, show (3 : Int32) = nI 3 from rfl, pk_sub_toInt (by omega) (by omega), nI_toInt (by omega)]
  omega
theorem law_loop (hL : L ≤ 1536) (C0 : lw_At p s m meth c b L xs) (hZ : ∀ B, Zk (B, D, F) s) : ∀ (n i : Nat), i ≤ L → L + 1 ≤ i + n → ∀ (Mx My : Mem) (A : AA) (H : Heap) (ls : Array Slot), LV s D F Mx My A A H → VA A → lv_has ls 4 [(0, .ref b), (1, .ref (s.heap.size + 0)), (2, .ref (s.heap.size + 240)), (3, .int (nI i))] → W p l e room_1 s m #[Value.ref b] below meth c H [] 262 24878 (lw_Z below #[Value.ref b] s) (F0 m 18 ls []) := by
  obtain ⟨hx, hb, hr, hml, hown, hts, hX, hbl, hlocks, hgv⟩ := id C0
  intro n
  induction n with
  | zero =>
    intro i h1 h2
    exact absurd h2 (by omega)
  | succ n ih =>
    intro i hi hin Mx My A H ls hv hA hls
    have hS : va_S (fun q : Nat => s.heap.size ≤ q) s.heap H [] := ⟨by rw [hv.2.2.2.2.1]; exact Nat.le_add_right _ _, fun q h _ => hv.2.2.2.2.2 q h, fun _ h => by cases h⟩
    have hbA : ¬ (fun q : Nat => s.heap.size ≤ q) b := Nat.not_le.mpr hbl
    refine lv_iload_n hx hb dl_18 rfl (lv_at hls 3 rfl) ?_
    refine lv_aload_n hx hb dl_19 rfl (lv_at hls 0 rfl) ?_
    refine va_slen hx hb hX hbl hbA hS dl_20 ?_
    refine lv_iconst (v := 3) hx hb dl_21 (by decide) ?_
    refine lv_isub hx hb dl_22 ?_
    refine lv_icmp_gt (tgt := 492) hx hb dl_23 (by decide) (fun q => ?_) (fun q => ?_)
    · refine lv_iconst (v := 1) hx hb dl_492 (by decide) ?_
      refine W.widen (k := 600000) (n := 7302250) (by omega) (by omega) ?_
      exact lw_ret hx hb hr hlocks dl_493
    · have hlt : i + 3 ≤ L := by
        rcases Nat.lt_or_ge L (i + 3) with z | z
        · exact absurd ((lw_gt hL (by omega)).mpr z) q
        · exact z
      have hi1 : vp_in (nI i + 1) L := by
        rw [nI_1]
        exact vp_in_nI (by omega) (by omega)
      have hi2 : vp_in (nI i + 2) L := by
        rw [show nI i + 2 = nI (i + 2) from nI_add i 2]
        exact vp_in_nI (by omega) (by omega)
      have go : ∀ (Mx' My' : Mem) (A' : AA) (H' : Heap), LV s D F Mx' My' A' A' H' → VA A' → W p l e room_1 s m #[Value.ref b] below meth c H' [] 262 24878 (lw_Z below #[Value.ref b] s) (F0 m 486 ls []) := fun Mx' My' A' H' hv' hA' => by
        refine lv_iinc (v := nI (i + 3)) (lv' := [(3, .int (nI (i + 3))), (0, .ref b), (1, .ref (s.heap.size + 0)), (2, .ref (s.heap.size + 240))]) hx hb dl_486 hls (k := 3) rfl (nI_add i 3) (by decide) rfl (fun ls' hls' => ?_)
        refine lv_goto (tgt := 18) hx hb dl_489 (by decide) ?_
        exact ih (i + 3) hlt (by omega) Mx' My' A' H' ls' hv' hA' (lv_sub hls' [1, 2, 3, 0] rfl)
      refine lv_aload_n hx hb dl_26 rfl (lv_at hls 0 rfl) ?_
      refine lv_iload_n hx hb dl_27 rfl (lv_at hls 3 rfl) ?_
      refine va_sld hx hb hX hbl hbA hS (vp_in_nI (by omega) (by omega)) dl_28 ?_
      refine lv_bipush (v := 31) hx hb dl_29 (by decide) ?_
      refine lv_iand hx hb dl_31 ?_
      refine lv_topi (fun v ev => ?_)
      clear ev
      by_cases hv0 : v.toInt < 0 ∨ 17 < v.toInt
      · exact lv_tableOut (tgt := 486) hx hb dl_32 hv0 (by decide) (go Mx My A H hv hA)
      · have h1 : ¬ v.toInt < 0 := fun z => hv0 (Or.inl z)
        have h2 : ¬ 17 < v.toInt := fun z => hv0 (Or.inr z)
        rcases (show v.toInt = 0 ∨ v.toInt = 1 ∨ v.toInt = 2 ∨ v.toInt = 3 ∨ v.toInt = 4 ∨ v.toInt = 5 ∨ v.toInt = 6 ∨ v.toInt = 7 ∨ v.toInt = 8 ∨ v.toInt = 9 ∨ v.toInt = 10 ∨ v.toInt = 11 ∨ v.toInt = 12 ∨ v.toInt = 13 ∨ v.toInt = 14 ∨ v.toInt = 15 ∨ v.toInt = 16 ∨ v.toInt = 17 by omega) with z | z | z | z | z | z | z | z | z | z | z | z | z | z | z | z | z | z
        · exact lv_tableIn (off := 88) (tgt := 120) hx hb dl_32 h1 h2 (by rw [z]; rfl) (by decide) (cs_say C0 hZ hls hi1 hi2 hv hA go)
        · exact lv_tableIn (off := 111) (tgt := 143) hx hb dl_32 h1 h2 (by rw [z]; rfl) (by decide) (cs_wipe C0 hZ hls hi1 hi2 hv hA go)
        · exact lv_tableIn (off := 124) (tgt := 156) hx hb dl_32 h1 h2 (by rw [z]; rfl) (by decide) (cs_fault C0 hZ hls hi1 hi2 hv hA go)
        · exact lv_tableIn (off := 147) (tgt := 179) hx hb dl_32 h1 h2 (by rw [z]; rfl) (by decide) (cs_example C0 hZ hls hi1 hi2 hv hA go)
        · exact lv_tableIn (off := 160) (tgt := 192) hx hb dl_32 h1 h2 (by rw [z]; rfl) (by decide) (cs_forget C0 hZ hls hi1 hi2 hv hA go)
        · exact lv_tableIn (off := 173) (tgt := 205) hx hb dl_32 h1 h2 (by rw [z]; rfl) (by decide) (cs_pool C0 hZ hls hi1 hi2 hv hA go)
        · exact lv_tableIn (off := 186) (tgt := 218) hx hb dl_32 h1 h2 (by rw [z]; rfl) (by decide) (cs_drain C0 hZ hls hi1 hi2 hv hA go)
        · exact lv_tableIn (off := 209) (tgt := 241) hx hb dl_32 h1 h2 (by rw [z]; rfl) (by decide) (cs_plans C0 hZ hls hi1 hi2 hv hA go)
        · exact lv_tableIn (off := 223) (tgt := 255) hx hb dl_32 h1 h2 (by rw [z]; rfl) (by decide) (cs_cost C0 hZ hls hi1 hi2 hv hA go)
        · exact lv_tableIn (off := 246) (tgt := 278) hx hb dl_32 h1 h2 (by rw [z]; rfl) (by decide) (cs_piece C0 hZ hls hi1 hi2 hv hA go)
        · exact lv_tableIn (off := 279) (tgt := 311) hx hb dl_32 h1 h2 (by rw [z]; rfl) (by decide) (cs_place C0 hZ hls hi1 hi2 hv hA go)
        · exact lv_tableIn (off := 302) (tgt := 334) hx hb dl_32 h1 h2 (by rw [z]; rfl) (by decide) (cs_makes C0 hZ hls hi1 hi2 hv hA go)
        · exact lv_tableIn (off := 325) (tgt := 357) hx hb dl_32 h1 h2 (by rw [z]; rfl) (by decide) (cs_accept C0 hZ hls hi1 hi2 hv hA go)
        · exact lv_tableIn (off := 348) (tgt := 380) hx hb dl_32 h1 h2 (by rw [z]; rfl) (by decide) (cs_agreeing C0 hZ hls hi1 hi2 hv hA go)
        · exact lv_tableIn (off := 372) (tgt := 404) hx hb dl_32 h1 h2 (by rw [z]; rfl) (by decide) (cs_asked C0 hZ hls hi1 hi2 hv hA go)
        · exact lv_tableIn (off := 385) (tgt := 417) hx hb dl_32 h1 h2 (by rw [z]; rfl) (by decide) (cs_image C0 hZ hls hi1 hi2 hv hA go)
        · exact lv_tableIn (off := 408) (tgt := 440) hx hb dl_32 h1 h2 (by rw [z]; rfl) (by decide) (cs_restore C0 hZ hls hi1 hi2 hv hA go)
        · exact lv_tableIn (off := 431) (tgt := 463) hx hb dl_32 h1 h2 (by rw [z]; rfl) (by decide) (cs_told C0 hZ hls hi1 hi2 hv hA go)
/-- THE LAW, from its entry -/
theorem whole_start {p : Program} {e : Env} {s : State} {m : MethodId} {below : List Frame} {meth : Method} {c : Code} (l : Launch) (hflags : l.flags = flags0) {b L : Nat} {xs : Nat → Int32} (hL : L ≤ 1536) (C0 : lw_At p s m meth c b L xs) : W p l e room_1 s m #[Value.ref b] below meth c s.heap [] 0 0 (lw_Z below #[Value.ref b] s) (entryFrame m ([Value.ref b] : List Value).toArray 4) := by
  obtain ⟨hx, hb, hr, hml, hown, hts, hX, hbl, hlocks, hgv⟩ := id C0
  obtain ⟨D, F, hZ⟩ := Zk_start hts
  have hzx := zX_len
  have hzy := zY_len
  have hl := lv_entry ([.ref b]) (n := 4) (Nat.le_of_ble_eq_true rfl)
  rw [lg_entry_eq]
  generalize (lg_sl ([.ref b]) ++ List.replicate (4 - (lg_sl ([.ref b])).length) Slot.unset).toArray = ls at hl ⊢
  have hl : lv_has ls 4 [(0, .ref b)] := hl
  refine L_new (k := 0) (ci := 7) (N := 240) (y := zX) (m' := m_E_init) (fs := [.null, .null, .null, .null, .null, .null, .null, .null, .int 0, .long 0]) (P := fun M' => (∀ j, j < 6 → M'.2 159 j = -1) ∧ FR 159 160 M0 M') C0 hZ hl.1 dl_0 rfl wd_12 wd_13 wd_1 (fun B j hj => ?_) dl_3 dl_4 mk_E_init (by decide) (by decide) wd_14 wd_15 rfl rfl (by decide) (by decide) rfl (fun f hf => E_init_ok hf (fun M' h1 h2 => ⟨h1, h2⟩)) (fun Mx H1 hP hH1 hs1 ho1 => ?_)
  · rcases (show j = 0 ∨ j = 1 ∨ j = 2 ∨ j = 3 ∨ j = 4 ∨ j = 5 ∨ j = 6 ∨ j = 7 ∨ j = 8 ∨ j = 9 by have : j < 10 := hj; omega) with rfl | rfl | rfl | rfl | rfl | rfl | rfl | rfl | rfl | rfl <;> rfl
  refine lv_astore_n (lv' := [(1, .ref (s.heap.size + 0)), (0, .ref b)]) hx hb dl_7 rfl hl (by decide) rfl (fun ls hl => ?_)
  refine L_new (k := 240) (ci := 8) (N := 22) (y := zY) (m' := m_M_init) (fs := [.null, .null, .null, .null, .int 0, .null, .null, .int 0, .int 0, .null, .null, .null, .int 0, .null, .null, .null, .null, .int 0, .null, .null, .null, .null, .null, .int 0, .int 0, .null, .null, .null]) (P := fun M' => CD M' ∧ ∀ a, a ≠ 8 → M'.1 a = M0.1 a) C0 hZ hl.1 dl_8 rfl wd_645 wd_646 wd_10 (fun B j hj => ?_) dl_11 dl_12 mk_M_init (by decide) (by decide) wd_647 wd_648 rfl rfl (by decide) (by decide) (by omega) (fun f hf => M_init_ok hf (fun M' h1 h2 => ⟨h1, h2⟩)) (fun My H2 hQ hH2 hs2 ho2 => ?_)
  · rcases (show j = 0 ∨ j = 1 ∨ j = 2 ∨ j = 3 ∨ j = 4 ∨ j = 5 ∨ j = 6 ∨ j = 7 ∨ j = 8 ∨ j = 9 ∨ j = 10 ∨ j = 11 ∨ j = 12 ∨ j = 13 ∨ j = 14 ∨ j = 15 ∨ j = 16 ∨ j = 17 ∨ j = 18 ∨ j = 19 ∨ j = 20 ∨ j = 21 ∨ j = 22 ∨ j = 23 ∨ j = 24 ∨ j = 25 ∨ j = 26 ∨ j = 27 by have : j < 28 := hj; omega) with rfl | rfl | rfl | rfl | rfl | rfl | rfl | rfl | rfl | rfl | rfl | rfl | rfl | rfl | rfl | rfl | rfl | rfl | rfl | rfl | rfl | rfl | rfl | rfl | rfl | rfl | rfl | rfl <;> rfl
  refine lv_astore_n (lv' := [(2, .ref (s.heap.size + 240)), (1, .ref (s.heap.size + 0)), (0, .ref b)]) hx hb dl_15 rfl hl (by decide) rfl (fun ls hl => ?_)
  refine lv_iconst (v := 0) hx hb dl_16 (by decide) ?_
  refine lv_istore_n (lv' := [(3, .int 0), (2, .ref (s.heap.size + 240)), (1, .ref (s.heap.size + 0)), (0, .ref b)]) hx hb dl_17 rfl hl (by decide) rfl (fun ls hl => ?_)
  have hv : LV s D F Mx My A0 A0 H2 := by
    refine ⟨?_, ?_, XS_0 hP.1 hP.2, YS_0 hQ.1 hQ.2, by omega, fun q hq => (ho2 q (by omega)).trans (ho1 q hq)⟩
    · rw [hzx]
      exact fun a ha => (hH1 a ha).kept (ho2 _ (by show s.heap.size + 0 + a < H1.size; omega))
    · rw [hzy]
      exact hH2
  exact law_loop hL C0 hZ (L + 1) 0 (Nat.zero_le L) (by omega) Mx My A0 H2 ls hv VA_0 (lv_sub hl [3, 2, 1, 0] rfl)
end ZLL
