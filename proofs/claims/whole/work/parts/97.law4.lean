/-! the law's cases: both sides' call, compared -/
theorem zX_len : zX.length = 240 := by decide +kernel
theorem zY_len : zY.length = 22 := by decide +kernel
/-- what holds between the law's calls: both worlds, what they tell, what was there before -/
def LV (s : State) (D : va_G) (F : Nat → ClassId) (Mx My : Mem) (A B : AA) (H : Heap) : Prop := Hw (s.heap.size + 0, D, F) zX.length (ent zX Mx) H ∧ Hw (s.heap.size + 240, D, F) zY.length (ent zY My) H ∧ XS Mx A ∧ YS My B ∧ H.size = s.heap.size + 262 ∧ ∀ q : Nat, q < s.heap.size → H[q]? = s.heap[q]?
theorem QI_out {r0 : Int32} {P : Mem → Prop} {v : Option Value} {M : Mem} (h : QI (fun r M' => r = r0 ∧ P M') v M) : v = some (.int r0) ∧ P M := by
  obtain ⟨r, rfl, rfl, h⟩ := h
  exact ⟨rfl, h⟩
theorem QL_out {r0 : Int64} {P : Mem → Prop} {v : Option Value} {M : Mem} (h : QL (fun r M' => r = r0 ∧ P M') v M) : v = some (.long r0) ∧ P M := by
  obtain ⟨r, rfl, rfl, h⟩ := h
  exact ⟨rfl, h⟩
section ZLC
variable {p : Program} {e : Env} {s : State} {m : MethodId} {below : List Frame} {meth : Method} {c : Code} {l : Launch} {b L : Nat} {xs : Nat → Int32} {Z : State → Prop} {D : va_G} {F : Nat → ClassId} {H : Heap} {ls : Array Slot} {Mx My : Mem} {A B : AA} {i : Int32}
theorem L_arg {pc : Nat} {st : List Value} {n : Int} {v : Int32} (C0 : lw_At p s m meth c b L xs) (hv : LV s D F Mx My A B H) (h0 : ls[0]? = some (.val (.ref b))) (h3 : ls[3]? = some (.val (.int i))) (d0 : decode code pc = .ok (.aload_n 0, 1)) (d1 : decode code (pc + 1) = .ok (.iload_n 3, 1)) (d2 : decode code (pc + 2) = .ok (.iconst n, 1)) (hn : Int32.ofInt n = v) (d3 : decode code (pc + 3) = .ok (.iadd, 1)) (d4 : decode code (pc + 4) = .ok (.iaload, 1)) (hin : vp_in (i + v) L) (kk : W p l e room_1 s m #[Value.ref b] below meth c H [] 262 24878 Z (F0 m (pc + 5) ls (.int (xs (i + v).toNatClampNeg) :: st))) : W p l e room_1 s m #[Value.ref b] below meth c H [] 262 24878 Z (F0 m pc ls st) := by
  obtain ⟨hx, hb, -, -, -, -, hX, hbl, -, -⟩ := C0
  have hS : va_S (fun q : Nat => s.heap.size ≤ q) s.heap H [] := ⟨by rw [hv.2.2.2.2.1]; exact Nat.le_add_right _ _, fun q h _ => hv.2.2.2.2.2 q h, fun _ h => by cases h⟩
  refine lv_aload_n hx hb d0 rfl h0 ?_
  refine lv_iload_n hx hb d1 rfl h3 ?_
  refine lv_iconst hx hb d2 hn ?_
  refine lv_iadd hx hb d3 ?_
  exact va_sld hx hb hX hbl (Nat.not_le.mpr hbl) hS hin d4 kk
theorem L_x {pc index np : Nat} {st as : List Value} {m' : Zm} {r : Value} {A' : AA} {Q : Option Value → Mem → Prop} (C0 : lw_At p s m meth c b L xs) (hZ : ∀ B, Zk (B, D, F) s) (hls : ls.size = 4) (hd : decode code pc = .ok (.invokevirtual index, 3)) (hm : ZmI m' 7 np) (hfr : (zR m').frames + 1 ≤ 10) (hlo : 8 + (zl m' + 11) + (zR m').locals ≤ 386) (hl : Cond.methodLink "EditGuessLaw" index (zy m') ∈ zG) (hn : as.length = np) (hW : (st.map fun v => v.category).sum ≤ 8) (has : ∀ B, as.map (trV B) = as) (hr : ∀ B, trV B r = r) (hv : LV s D F Mx My A B H) (hM : ∀ M, XS M A → Call zX m' (.ref 0 :: as) M Q) (hQ : ∀ v M', Q v M' → v = some r ∧ XS M' A') (kk : ∀ (Mx' : Mem) (H' : Heap), LV s D F Mx' My A' B H' → W p l e room_1 s m #[Value.ref b] below meth c H' [] 262 24878 Z (F0 m (pc + 3) ls (r :: st))) : W p l e room_1 s m #[Value.ref b] below meth c H [] 262 24878 Z (F0 m pc ls (as.reverse ++ .ref (s.heap.size + 0) :: st)) := by
  obtain ⟨v1, v2, v3, v4, v5, v6⟩ := hv
  have hzx := zX_len
  have hzy := zY_len
  refine L_call (k := 0) (y := zX) (M := Mx) C0 hZ hls hd hm hfr hlo hl hn hW (by omega) (by omega) rfl v1 (by omega) (has _) (hM _ v3) (fun v M' H' hq w1 w2 w3 => ?_)
  obtain ⟨rfl, hq⟩ := hQ v M' hq
  rw [show (((some r : Option Value).map (trV (s.heap.size + 0))).toList ++ st) = r :: st by rw [Option.map_some, hr]; rfl]
  refine kk M' H' ⟨w1, fun a ha => (v2 a ha).kept (w3 _ ?_ (Or.inr ?_)), hq, v4, by omega, fun q hq => (w3 q (by omega) (Or.inl (by omega))).trans (v6 q hq)⟩
  · show s.heap.size + 240 + a < H.size
    omega
  · show s.heap.size + 0 + zX.length ≤ s.heap.size + 240 + a
    omega
theorem L_y {pc index np : Nat} {st as : List Value} {m' : Zm} {r : Value} {A' : AA} {Q : Option Value → Mem → Prop} (C0 : lw_At p s m meth c b L xs) (hZ : ∀ B, Zk (B, D, F) s) (hls : ls.size = 4) (hd : decode code pc = .ok (.invokevirtual index, 3)) (hm : ZmI m' 8 np) (hfr : (zR m').frames + 1 ≤ 10) (hlo : 8 + (zl m' + 11) + (zR m').locals ≤ 386) (hl : Cond.methodLink "EditGuessLaw" index (zy m') ∈ zG) (hn : as.length = np) (hW : (st.map fun v => v.category).sum ≤ 8) (has : ∀ B, as.map (trV B) = as) (hr : ∀ B, trV B r = r) (hv : LV s D F Mx My B A H) (hM : ∀ M, YS M A → Call zY m' (.ref 0 :: as) M Q) (hQ : ∀ v M', Q v M' → v = some r ∧ YS M' A') (kk : ∀ (My' : Mem) (H' : Heap), LV s D F Mx My' B A' H' → W p l e room_1 s m #[Value.ref b] below meth c H' [] 262 24878 Z (F0 m (pc + 3) ls (r :: st))) : W p l e room_1 s m #[Value.ref b] below meth c H [] 262 24878 Z (F0 m pc ls (as.reverse ++ .ref (s.heap.size + 240) :: st)) := by
  obtain ⟨v1, v2, v3, v4, v5, v6⟩ := hv
  have hzx := zX_len
  have hzy := zY_len
  refine L_call (k := 240) (y := zY) (M := My) C0 hZ hls hd hm hfr hlo hl hn hW (by omega) (by omega) rfl v2 (by omega) (has _) (hM _ v4) (fun v M' H' hq w1 w2 w3 => ?_)
  obtain ⟨rfl, hq⟩ := hQ v M' hq
  rw [show (((some r : Option Value).map (trV (s.heap.size + 240))).toList ++ st) = r :: st by rw [Option.map_some, hr]; rfl]
  refine kk M' H' ⟨fun a ha => (v1 a ha).kept (w3 _ ?_ (Or.inl ?_)), w1, v3, hq, by omega, fun q hq => (w3 q (by omega) (Or.inl (by omega))).trans (v6 q hq)⟩
  · show s.heap.size + 0 + a < H.size
    omega
  · show s.heap.size + 0 + a < s.heap.size + 240
    omega
theorem cs_say (C0 : lw_At p s m meth c b L xs) (hZ : ∀ B, Zk (B, D, F) s) (hls : lv_has ls 4 [(0, .ref b), (1, .ref (s.heap.size + 0)), (2, .ref (s.heap.size + 240)), (3, .int i)]) (hi1 : vp_in (i + 1) L) (hi2 : vp_in (i + 2) L) (hv : LV s D F Mx My A A H) (hA : VA A) (kk : ∀ (Mx' My' : Mem) (A' : AA) (H' : Heap), LV s D F Mx' My' A' A' H' → VA A' → W p l e room_1 s m #[Value.ref b] below meth c H' [] 262 24878 Z (F0 m 486 ls [])) : W p l e room_1 s m #[Value.ref b] below meth c H [] 262 24878 Z (F0 m 120 ls []) := by
  obtain ⟨hx, hb, -⟩ := id C0
  refine lv_aload_n hx hb dl_120 rfl (lv_at hls 1 rfl) ?_
  refine L_arg (v := 1) C0 hv (lv_at hls 0 rfl) (lv_at hls 3 rfl) dl_121 dl_122 dl_123 rfl dl_124 dl_125 hi1 ?_
  refine L_x (as := [.int (xs (i + 1).toNatClampNeg)]) (np := 1) (st := []) (r := .int (aSay A (xs (i + 1).toNatClampNeg)).1) (A' := (aSay A (xs (i + 1).toNatClampNeg)).2) C0 hZ hls.1 dl_126 mi_E_say (by decide) (by decide) wd_216 rfl (by decide) (fun _ => rfl) (fun _ => rfl) hv (fun M h => E_say_ok h hA (x := (xs (i + 1).toNatClampNeg)) (Q := fun r M' => r = (aSay A (xs (i + 1).toNatClampNeg)).1 ∧ XS M' (aSay A (xs (i + 1).toNatClampNeg)).2) (fun M' h' => ⟨rfl, h'⟩)) (fun v M' h => QI_out h) (fun _ _ hv => ?_)
  refine lv_aload_n hx hb dl_129 rfl (lv_at hls 2 rfl) ?_
  refine L_arg (v := 1) C0 hv (lv_at hls 0 rfl) (lv_at hls 3 rfl) dl_130 dl_131 dl_132 rfl dl_133 dl_134 hi1 ?_
  refine L_y (as := [.int (xs (i + 1).toNatClampNeg)]) (np := 1) (st := [.int (aSay A (xs (i + 1).toNatClampNeg)).1]) (r := .int (aSay A (xs (i + 1).toNatClampNeg)).1) (A' := (aSay A (xs (i + 1).toNatClampNeg)).2) C0 hZ hls.1 dl_135 mi_M_say (by decide) (by decide) wd_742 rfl (by decide) (fun _ => rfl) (fun _ => rfl) hv (fun M h => M_say_ok h hA (x := (xs (i + 1).toNatClampNeg)) (Q := fun r M' => r = (aSay A (xs (i + 1).toNatClampNeg)).1 ∧ YS M' (aSay A (xs (i + 1).toNatClampNeg)).2) (fun M' h' => ⟨rfl, h'⟩)) (fun v M' h => QI_out h) (fun _ _ hv => ?_)
  exact lv_icmp_eq (tgt := 486) hx hb dl_138 (by decide) (fun _ => kk _ _ _ _ hv (VA_say hA (xs (i + 1).toNatClampNeg))) (fun z => absurd rfl z)
theorem cs_wipe (C0 : lw_At p s m meth c b L xs) (hZ : ∀ B, Zk (B, D, F) s) (hls : lv_has ls 4 [(0, .ref b), (1, .ref (s.heap.size + 0)), (2, .ref (s.heap.size + 240)), (3, .int i)]) (hi1 : vp_in (i + 1) L) (hi2 : vp_in (i + 2) L) (hv : LV s D F Mx My A A H) (hA : VA A) (kk : ∀ (Mx' My' : Mem) (A' : AA) (H' : Heap), LV s D F Mx' My' A' A' H' → VA A' → W p l e room_1 s m #[Value.ref b] below meth c H' [] 262 24878 Z (F0 m 486 ls [])) : W p l e room_1 s m #[Value.ref b] below meth c H [] 262 24878 Z (F0 m 143 ls []) := by
  obtain ⟨hx, hb, -⟩ := id C0
  refine lv_aload_n hx hb dl_143 rfl (lv_at hls 1 rfl) ?_
  refine L_x (as := []) (np := 0) (st := []) (r := .int (aWipe A).1) (A' := (aWipe A).2) C0 hZ hls.1 dl_144 mi_E_wipe (by decide) (by decide) wd_231 rfl (by decide) (fun _ => rfl) (fun _ => rfl) hv (fun M h => E_wipe_ok h hA (Q := fun r M' => r = (aWipe A).1 ∧ XS M' (aWipe A).2) (fun M' h' => ⟨rfl, h'⟩)) (fun v M' h => QI_out h) (fun _ _ hv => ?_)
  refine lv_aload_n hx hb dl_147 rfl (lv_at hls 2 rfl) ?_
  refine L_y (as := []) (np := 0) (st := [.int (aWipe A).1]) (r := .int (aWipe A).1) (A' := (aWipe A).2) C0 hZ hls.1 dl_148 mi_M_wipe (by decide) (by decide) wd_746 rfl (by decide) (fun _ => rfl) (fun _ => rfl) hv (fun M h => M_wipe_ok h hA (Q := fun r M' => r = (aWipe A).1 ∧ YS M' (aWipe A).2) (fun M' h' => ⟨rfl, h'⟩)) (fun v M' h => QI_out h) (fun _ _ hv => ?_)
  exact lv_icmp_eq (tgt := 486) hx hb dl_151 (by decide) (fun _ => kk _ _ _ _ hv (VA_wipe hA)) (fun z => absurd rfl z)
theorem cs_fault (C0 : lw_At p s m meth c b L xs) (hZ : ∀ B, Zk (B, D, F) s) (hls : lv_has ls 4 [(0, .ref b), (1, .ref (s.heap.size + 0)), (2, .ref (s.heap.size + 240)), (3, .int i)]) (hi1 : vp_in (i + 1) L) (hi2 : vp_in (i + 2) L) (hv : LV s D F Mx My A A H) (hA : VA A) (kk : ∀ (Mx' My' : Mem) (A' : AA) (H' : Heap), LV s D F Mx' My' A' A' H' → VA A' → W p l e room_1 s m #[Value.ref b] below meth c H' [] 262 24878 Z (F0 m 486 ls [])) : W p l e room_1 s m #[Value.ref b] below meth c H [] 262 24878 Z (F0 m 156 ls []) := by
  obtain ⟨hx, hb, -⟩ := id C0
  refine lv_aload_n hx hb dl_156 rfl (lv_at hls 1 rfl) ?_
  refine L_arg (v := 1) C0 hv (lv_at hls 0 rfl) (lv_at hls 3 rfl) dl_157 dl_158 dl_159 rfl dl_160 dl_161 hi1 ?_
  refine L_x (as := [.int (xs (i + 1).toNatClampNeg)]) (np := 1) (st := []) (r := .int (aFault A (xs (i + 1).toNatClampNeg))) (A' := A) C0 hZ hls.1 dl_162 mi_E_fault (by decide) (by decide) wd_239 rfl (by decide) (fun _ => rfl) (fun _ => rfl) hv (fun M h => E_fault_ok h hA (x := (xs (i + 1).toNatClampNeg)) (Q := fun r M' => r = (aFault A (xs (i + 1).toNatClampNeg)) ∧ XS M' A) ⟨rfl, h⟩) (fun v M' h => QI_out h) (fun _ _ hv => ?_)
  refine lv_aload_n hx hb dl_165 rfl (lv_at hls 2 rfl) ?_
  refine L_arg (v := 1) C0 hv (lv_at hls 0 rfl) (lv_at hls 3 rfl) dl_166 dl_167 dl_168 rfl dl_169 dl_170 hi1 ?_
  refine L_y (as := [.int (xs (i + 1).toNatClampNeg)]) (np := 1) (st := [.int (aFault A (xs (i + 1).toNatClampNeg))]) (r := .int (aFault A (xs (i + 1).toNatClampNeg))) (A' := A) C0 hZ hls.1 dl_171 mi_M_fault (by decide) (by decide) wd_750 rfl (by decide) (fun _ => rfl) (fun _ => rfl) hv (fun M h => M_fault_ok h hA (x := (xs (i + 1).toNatClampNeg)) (Q := fun r M' => r = (aFault A (xs (i + 1).toNatClampNeg)) ∧ YS M' A) ⟨rfl, h⟩) (fun v M' h => QI_out h) (fun _ _ hv => ?_)
  exact lv_icmp_eq (tgt := 486) hx hb dl_174 (by decide) (fun _ => kk _ _ _ _ hv hA) (fun z => absurd rfl z)
theorem cs_example (C0 : lw_At p s m meth c b L xs) (hZ : ∀ B, Zk (B, D, F) s) (hls : lv_has ls 4 [(0, .ref b), (1, .ref (s.heap.size + 0)), (2, .ref (s.heap.size + 240)), (3, .int i)]) (hi1 : vp_in (i + 1) L) (hi2 : vp_in (i + 2) L) (hv : LV s D F Mx My A A H) (hA : VA A) (kk : ∀ (Mx' My' : Mem) (A' : AA) (H' : Heap), LV s D F Mx' My' A' A' H' → VA A' → W p l e room_1 s m #[Value.ref b] below meth c H' [] 262 24878 Z (F0 m 486 ls [])) : W p l e room_1 s m #[Value.ref b] below meth c H [] 262 24878 Z (F0 m 179 ls []) := by
  obtain ⟨hx, hb, -⟩ := id C0
  refine lv_aload_n hx hb dl_179 rfl (lv_at hls 1 rfl) ?_
  refine L_x (as := []) (np := 0) (st := []) (r := .int (aExample A).1) (A' := (aExample A).2) C0 hZ hls.1 dl_180 mi_E_example (by decide) (by decide) wd_263 rfl (by decide) (fun _ => rfl) (fun _ => rfl) hv (fun M h => E_example_ok h hA (Q := fun r M' => r = (aExample A).1 ∧ XS M' (aExample A).2) (fun M' h' => ⟨rfl, h'⟩)) (fun v M' h => QI_out h) (fun _ _ hv => ?_)
  refine lv_aload_n hx hb dl_183 rfl (lv_at hls 2 rfl) ?_
  refine L_y (as := []) (np := 0) (st := [.int (aExample A).1]) (r := .int (aExample A).1) (A' := (aExample A).2) C0 hZ hls.1 dl_184 mi_M_example (by decide) (by decide) wd_765 rfl (by decide) (fun _ => rfl) (fun _ => rfl) hv (fun M h => M_example_ok h hA (Q := fun r M' => r = (aExample A).1 ∧ YS M' (aExample A).2) (fun M' h' => ⟨rfl, h'⟩)) (fun v M' h => QI_out h) (fun _ _ hv => ?_)
  exact lv_icmp_eq (tgt := 486) hx hb dl_187 (by decide) (fun _ => kk _ _ _ _ hv (VA_example hA)) (fun z => absurd rfl z)
theorem cs_forget (C0 : lw_At p s m meth c b L xs) (hZ : ∀ B, Zk (B, D, F) s) (hls : lv_has ls 4 [(0, .ref b), (1, .ref (s.heap.size + 0)), (2, .ref (s.heap.size + 240)), (3, .int i)]) (hi1 : vp_in (i + 1) L) (hi2 : vp_in (i + 2) L) (hv : LV s D F Mx My A A H) (hA : VA A) (kk : ∀ (Mx' My' : Mem) (A' : AA) (H' : Heap), LV s D F Mx' My' A' A' H' → VA A' → W p l e room_1 s m #[Value.ref b] below meth c H' [] 262 24878 Z (F0 m 486 ls [])) : W p l e room_1 s m #[Value.ref b] below meth c H [] 262 24878 Z (F0 m 192 ls []) := by
  obtain ⟨hx, hb, -⟩ := id C0
  refine lv_aload_n hx hb dl_192 rfl (lv_at hls 1 rfl) ?_
  refine L_x (as := []) (np := 0) (st := []) (r := .int (aForget A).1) (A' := (aForget A).2) C0 hZ hls.1 dl_193 mi_E_forget (by decide) (by decide) wd_287 rfl (by decide) (fun _ => rfl) (fun _ => rfl) hv (fun M h => E_forget_ok h hA (Q := fun r M' => r = (aForget A).1 ∧ XS M' (aForget A).2) (fun M' h' => ⟨rfl, h'⟩)) (fun v M' h => QI_out h) (fun _ _ hv => ?_)
  refine lv_aload_n hx hb dl_196 rfl (lv_at hls 2 rfl) ?_
  refine L_y (as := []) (np := 0) (st := [.int (aForget A).1]) (r := .int (aForget A).1) (A' := (aForget A).2) C0 hZ hls.1 dl_197 mi_M_forget (by decide) (by decide) wd_769 rfl (by decide) (fun _ => rfl) (fun _ => rfl) hv (fun M h => M_forget_ok h hA (Q := fun r M' => r = (aForget A).1 ∧ YS M' (aForget A).2) (fun M' h' => ⟨rfl, h'⟩)) (fun v M' h => QI_out h) (fun _ _ hv => ?_)
  exact lv_icmp_eq (tgt := 486) hx hb dl_200 (by decide) (fun _ => kk _ _ _ _ hv (VA_forget hA)) (fun z => absurd rfl z)
theorem cs_pool (C0 : lw_At p s m meth c b L xs) (hZ : ∀ B, Zk (B, D, F) s) (hls : lv_has ls 4 [(0, .ref b), (1, .ref (s.heap.size + 0)), (2, .ref (s.heap.size + 240)), (3, .int i)]) (hi1 : vp_in (i + 1) L) (hi2 : vp_in (i + 2) L) (hv : LV s D F Mx My A A H) (hA : VA A) (kk : ∀ (Mx' My' : Mem) (A' : AA) (H' : Heap), LV s D F Mx' My' A' A' H' → VA A' → W p l e room_1 s m #[Value.ref b] below meth c H' [] 262 24878 Z (F0 m 486 ls [])) : W p l e room_1 s m #[Value.ref b] below meth c H [] 262 24878 Z (F0 m 205 ls []) := by
  obtain ⟨hx, hb, -⟩ := id C0
  refine lv_aload_n hx hb dl_205 rfl (lv_at hls 1 rfl) ?_
  refine L_x (as := []) (np := 0) (st := []) (r := .int (aPool A).1) (A' := (aPool A).2) C0 hZ hls.1 dl_206 mi_E_pool (by decide) (by decide) wd_295 rfl (by decide) (fun _ => rfl) (fun _ => rfl) hv (fun M h => E_pool_ok h hA (Q := fun r M' => r = (aPool A).1 ∧ XS M' (aPool A).2) (fun M' h' => ⟨rfl, h'⟩)) (fun v M' h => QI_out h) (fun _ _ hv => ?_)
  refine lv_aload_n hx hb dl_209 rfl (lv_at hls 2 rfl) ?_
  refine L_y (as := []) (np := 0) (st := [.int (aPool A).1]) (r := .int (aPool A).1) (A' := (aPool A).2) C0 hZ hls.1 dl_210 mi_M_pool (by decide) (by decide) wd_773 rfl (by decide) (fun _ => rfl) (fun _ => rfl) hv (fun M h => M_pool_ok h hA (Q := fun r M' => r = (aPool A).1 ∧ YS M' (aPool A).2) (fun M' h' => ⟨rfl, h'⟩)) (fun v M' h => QI_out h) (fun _ _ hv => ?_)
  exact lv_icmp_eq (tgt := 486) hx hb dl_213 (by decide) (fun _ => kk _ _ _ _ hv (VA_pool hA)) (fun z => absurd rfl z)
theorem cs_drain (C0 : lw_At p s m meth c b L xs) (hZ : ∀ B, Zk (B, D, F) s) (hls : lv_has ls 4 [(0, .ref b), (1, .ref (s.heap.size + 0)), (2, .ref (s.heap.size + 240)), (3, .int i)]) (hi1 : vp_in (i + 1) L) (hi2 : vp_in (i + 2) L) (hv : LV s D F Mx My A A H) (hA : VA A) (kk : ∀ (Mx' My' : Mem) (A' : AA) (H' : Heap), LV s D F Mx' My' A' A' H' → VA A' → W p l e room_1 s m #[Value.ref b] below meth c H' [] 262 24878 Z (F0 m 486 ls [])) : W p l e room_1 s m #[Value.ref b] below meth c H [] 262 24878 Z (F0 m 218 ls []) := by
  obtain ⟨hx, hb, -⟩ := id C0
  refine lv_aload_n hx hb dl_218 rfl (lv_at hls 1 rfl) ?_
  refine L_arg (v := 1) C0 hv (lv_at hls 0 rfl) (lv_at hls 3 rfl) dl_219 dl_220 dl_221 rfl dl_222 dl_223 hi1 ?_
  refine L_x (as := [.int (xs (i + 1).toNatClampNeg)]) (np := 1) (st := []) (r := .int (aDrain A (xs (i + 1).toNatClampNeg)).1) (A' := (aDrain A (xs (i + 1).toNatClampNeg)).2) C0 hZ hls.1 dl_224 mi_E_drain (by decide) (by decide) wd_313 rfl (by decide) (fun _ => rfl) (fun _ => rfl) hv (fun M h => E_drain_ok h hA (x := (xs (i + 1).toNatClampNeg)) (Q := fun r M' => r = (aDrain A (xs (i + 1).toNatClampNeg)).1 ∧ XS M' (aDrain A (xs (i + 1).toNatClampNeg)).2) (fun M' h' => ⟨rfl, h'⟩)) (fun v M' h => QI_out h) (fun _ _ hv => ?_)
  refine lv_aload_n hx hb dl_227 rfl (lv_at hls 2 rfl) ?_
  refine L_arg (v := 1) C0 hv (lv_at hls 0 rfl) (lv_at hls 3 rfl) dl_228 dl_229 dl_230 rfl dl_231 dl_232 hi1 ?_
  refine L_y (as := [.int (xs (i + 1).toNatClampNeg)]) (np := 1) (st := [.int (aDrain A (xs (i + 1).toNatClampNeg)).1]) (r := .int (aDrain A (xs (i + 1).toNatClampNeg)).1) (A' := (aDrain A (xs (i + 1).toNatClampNeg)).2) C0 hZ hls.1 dl_233 mi_M_drain (by decide) (by decide) wd_777 rfl (by decide) (fun _ => rfl) (fun _ => rfl) hv (fun M h => M_drain_ok h hA (x := (xs (i + 1).toNatClampNeg)) (Q := fun r M' => r = (aDrain A (xs (i + 1).toNatClampNeg)).1 ∧ YS M' (aDrain A (xs (i + 1).toNatClampNeg)).2) (fun M' h' => ⟨rfl, h'⟩)) (fun v M' h => QI_out h) (fun _ _ hv => ?_)
  exact lv_icmp_eq (tgt := 486) hx hb dl_236 (by decide) (fun _ => kk _ _ _ _ hv (VA_drain hA (xs (i + 1).toNatClampNeg))) (fun z => absurd rfl z)
theorem cs_plans (C0 : lw_At p s m meth c b L xs) (hZ : ∀ B, Zk (B, D, F) s) (hls : lv_has ls 4 [(0, .ref b), (1, .ref (s.heap.size + 0)), (2, .ref (s.heap.size + 240)), (3, .int i)]) (hi1 : vp_in (i + 1) L) (hi2 : vp_in (i + 2) L) (hv : LV s D F Mx My A A H) (hA : VA A) (kk : ∀ (Mx' My' : Mem) (A' : AA) (H' : Heap), LV s D F Mx' My' A' A' H' → VA A' → W p l e room_1 s m #[Value.ref b] below meth c H' [] 262 24878 Z (F0 m 486 ls [])) : W p l e room_1 s m #[Value.ref b] below meth c H [] 262 24878 Z (F0 m 241 ls []) := by
  obtain ⟨hx, hb, -⟩ := id C0
  refine lv_aload_n hx hb dl_241 rfl (lv_at hls 1 rfl) ?_
  refine L_x (as := []) (np := 0) (st := []) (r := .long (aPlans A)) (A' := A) C0 hZ hls.1 dl_242 mi_E_plans (by decide) (by decide) wd_326 rfl (by decide) (fun _ => rfl) (fun _ => rfl) hv (fun M h => E_plans_ok h hA (Q := fun r M' => r = (aPlans A) ∧ XS M' A) (fun M' h' => ⟨rfl, h'⟩)) (fun v M' h => QL_out h) (fun _ _ hv => ?_)
  refine lv_aload_n hx hb dl_245 rfl (lv_at hls 2 rfl) ?_
  refine L_y (as := []) (np := 0) (st := [.long (aPlans A)]) (r := .long (aPlans A)) (A' := A) C0 hZ hls.1 dl_246 mi_M_plans (by decide) (by decide) wd_801 rfl (by decide) (fun _ => rfl) (fun _ => rfl) hv (fun M h => M_plans_ok h hA (Q := fun r M' => r = (aPlans A) ∧ YS M' A) (fun M' h' => ⟨rfl, h'⟩)) (fun v M' h => QL_out h) (fun _ _ hv => ?_)
  refine W.lcmp hx hb dl_249 ?_
  exact lv_if_eq (tgt := 486) hx hb dl_250 (by decide) (fun _ => kk _ _ _ _ hv hA) (fun z => absurd ((lg_cmp_eq _ _).mpr rfl) z)
theorem cs_cost (C0 : lw_At p s m meth c b L xs) (hZ : ∀ B, Zk (B, D, F) s) (hls : lv_has ls 4 [(0, .ref b), (1, .ref (s.heap.size + 0)), (2, .ref (s.heap.size + 240)), (3, .int i)]) (hi1 : vp_in (i + 1) L) (hi2 : vp_in (i + 2) L) (hv : LV s D F Mx My A A H) (hA : VA A) (kk : ∀ (Mx' My' : Mem) (A' : AA) (H' : Heap), LV s D F Mx' My' A' A' H' → VA A' → W p l e room_1 s m #[Value.ref b] below meth c H' [] 262 24878 Z (F0 m 486 ls [])) : W p l e room_1 s m #[Value.ref b] below meth c H [] 262 24878 Z (F0 m 255 ls []) := by
  obtain ⟨hx, hb, -⟩ := id C0
  refine lv_aload_n hx hb dl_255 rfl (lv_at hls 1 rfl) ?_
  refine L_arg (v := 1) C0 hv (lv_at hls 0 rfl) (lv_at hls 3 rfl) dl_256 dl_257 dl_258 rfl dl_259 dl_260 hi1 ?_
  refine L_x (as := [.int (xs (i + 1).toNatClampNeg)]) (np := 1) (st := []) (r := .int (aCost A (xs (i + 1).toNatClampNeg))) (A' := A) C0 hZ hls.1 dl_261 mi_E_cost (by decide) (by decide) wd_541 rfl (by decide) (fun _ => rfl) (fun _ => rfl) hv (fun M h => E_cost_ok h hA (x := (xs (i + 1).toNatClampNeg)) (Q := fun r M' => r = (aCost A (xs (i + 1).toNatClampNeg)) ∧ XS M' A) (fun M' h' => ⟨rfl, h'⟩)) (fun v M' h => QI_out h) (fun _ _ hv => ?_)
  refine lv_aload_n hx hb dl_264 rfl (lv_at hls 2 rfl) ?_
  refine L_arg (v := 1) C0 hv (lv_at hls 0 rfl) (lv_at hls 3 rfl) dl_265 dl_266 dl_267 rfl dl_268 dl_269 hi1 ?_
  refine L_y (as := [.int (xs (i + 1).toNatClampNeg)]) (np := 1) (st := [.int (aCost A (xs (i + 1).toNatClampNeg))]) (r := .int (aCost A (xs (i + 1).toNatClampNeg))) (A' := A) C0 hZ hls.1 dl_270 mi_M_cost (by decide) (by decide) wd_840 rfl (by decide) (fun _ => rfl) (fun _ => rfl) hv (fun M h => M_cost_ok h hA (x := (xs (i + 1).toNatClampNeg)) (Q := fun r M' => r = (aCost A (xs (i + 1).toNatClampNeg)) ∧ YS M' A) (fun M' h' => ⟨rfl, h'⟩)) (fun v M' h => QI_out h) (fun _ _ hv => ?_)
  exact lv_icmp_eq (tgt := 486) hx hb dl_273 (by decide) (fun _ => kk _ _ _ _ hv hA) (fun z => absurd rfl z)
theorem cs_piece (C0 : lw_At p s m meth c b L xs) (hZ : ∀ B, Zk (B, D, F) s) (hls : lv_has ls 4 [(0, .ref b), (1, .ref (s.heap.size + 0)), (2, .ref (s.heap.size + 240)), (3, .int i)]) (hi1 : vp_in (i + 1) L) (hi2 : vp_in (i + 2) L) (hv : LV s D F Mx My A A H) (hA : VA A) (kk : ∀ (Mx' My' : Mem) (A' : AA) (H' : Heap), LV s D F Mx' My' A' A' H' → VA A' → W p l e room_1 s m #[Value.ref b] below meth c H' [] 262 24878 Z (F0 m 486 ls [])) : W p l e room_1 s m #[Value.ref b] below meth c H [] 262 24878 Z (F0 m 278 ls []) := by
  obtain ⟨hx, hb, -⟩ := id C0
  refine lv_aload_n hx hb dl_278 rfl (lv_at hls 1 rfl) ?_
  refine L_arg (v := 1) C0 hv (lv_at hls 0 rfl) (lv_at hls 3 rfl) dl_279 dl_280 dl_281 rfl dl_282 dl_283 hi1 ?_
  refine L_arg (v := 2) C0 hv (lv_at hls 0 rfl) (lv_at hls 3 rfl) dl_284 dl_285 dl_286 rfl dl_287 dl_288 hi2 ?_
  refine L_x (as := [.int (xs (i + 1).toNatClampNeg), .int (xs (i + 2).toNatClampNeg)]) (np := 2) (st := []) (r := .int (aPiece A (xs (i + 1).toNatClampNeg) (xs (i + 2).toNatClampNeg))) (A' := A) C0 hZ hls.1 dl_289 mi_E_piece (by decide) (by decide) wd_563 rfl (by decide) (fun _ => rfl) (fun _ => rfl) hv (fun M h => E_piece_ok h hA (x := (xs (i + 1).toNatClampNeg)) (y := (xs (i + 2).toNatClampNeg)) (Q := fun r M' => r = (aPiece A (xs (i + 1).toNatClampNeg) (xs (i + 2).toNatClampNeg)) ∧ XS M' A) (fun M' h' => ⟨rfl, h'⟩)) (fun v M' h => QI_out h) (fun _ _ hv => ?_)
  refine lv_aload_n hx hb dl_292 rfl (lv_at hls 2 rfl) ?_
  refine L_arg (v := 1) C0 hv (lv_at hls 0 rfl) (lv_at hls 3 rfl) dl_293 dl_294 dl_295 rfl dl_296 dl_297 hi1 ?_
  refine L_arg (v := 2) C0 hv (lv_at hls 0 rfl) (lv_at hls 3 rfl) dl_298 dl_299 dl_300 rfl dl_301 dl_302 hi2 ?_
  refine L_y (as := [.int (xs (i + 1).toNatClampNeg), .int (xs (i + 2).toNatClampNeg)]) (np := 2) (st := [.int (aPiece A (xs (i + 1).toNatClampNeg) (xs (i + 2).toNatClampNeg))]) (r := .int (aPiece A (xs (i + 1).toNatClampNeg) (xs (i + 2).toNatClampNeg))) (A' := A) C0 hZ hls.1 dl_303 mi_M_piece (by decide) (by decide) wd_864 rfl (by decide) (fun _ => rfl) (fun _ => rfl) hv (fun M h => M_piece_ok h hA (x := (xs (i + 1).toNatClampNeg)) (y := (xs (i + 2).toNatClampNeg)) (Q := fun r M' => r = (aPiece A (xs (i + 1).toNatClampNeg) (xs (i + 2).toNatClampNeg)) ∧ YS M' A) (fun M' h' => ⟨rfl, h'⟩)) (fun v M' h => QI_out h) (fun _ _ hv => ?_)
  exact lv_icmp_eq (tgt := 486) hx hb dl_306 (by decide) (fun _ => kk _ _ _ _ hv hA) (fun z => absurd rfl z)
theorem cs_place (C0 : lw_At p s m meth c b L xs) (hZ : ∀ B, Zk (B, D, F) s) (hls : lv_has ls 4 [(0, .ref b), (1, .ref (s.heap.size + 0)), (2, .ref (s.heap.size + 240)), (3, .int i)]) (hi1 : vp_in (i + 1) L) (hi2 : vp_in (i + 2) L) (hv : LV s D F Mx My A A H) (hA : VA A) (kk : ∀ (Mx' My' : Mem) (A' : AA) (H' : Heap), LV s D F Mx' My' A' A' H' → VA A' → W p l e room_1 s m #[Value.ref b] below meth c H' [] 262 24878 Z (F0 m 486 ls [])) : W p l e room_1 s m #[Value.ref b] below meth c H [] 262 24878 Z (F0 m 311 ls []) := by
  obtain ⟨hx, hb, -⟩ := id C0
  refine lv_aload_n hx hb dl_311 rfl (lv_at hls 1 rfl) ?_
  refine L_arg (v := 1) C0 hv (lv_at hls 0 rfl) (lv_at hls 3 rfl) dl_312 dl_313 dl_314 rfl dl_315 dl_316 hi1 ?_
  refine L_x (as := [.int (xs (i + 1).toNatClampNeg)]) (np := 1) (st := []) (r := .int (aPlace A (xs (i + 1).toNatClampNeg))) (A' := A) C0 hZ hls.1 dl_317 mi_E_place (by decide) (by decide) wd_575 rfl (by decide) (fun _ => rfl) (fun _ => rfl) hv (fun M h => E_place_ok h hA (x := (xs (i + 1).toNatClampNeg)) (Q := fun r M' => r = (aPlace A (xs (i + 1).toNatClampNeg)) ∧ XS M' A) ⟨rfl, h⟩) (fun v M' h => QI_out h) (fun _ _ hv => ?_)
  refine lv_aload_n hx hb dl_320 rfl (lv_at hls 2 rfl) ?_
  refine L_arg (v := 1) C0 hv (lv_at hls 0 rfl) (lv_at hls 3 rfl) dl_321 dl_322 dl_323 rfl dl_324 dl_325 hi1 ?_
  refine L_y (as := [.int (xs (i + 1).toNatClampNeg)]) (np := 1) (st := [.int (aPlace A (xs (i + 1).toNatClampNeg))]) (r := .int (aPlace A (xs (i + 1).toNatClampNeg))) (A' := A) C0 hZ hls.1 dl_326 mi_M_place (by decide) (by decide) wd_785 rfl (by decide) (fun _ => rfl) (fun _ => rfl) hv (fun M h => M_place_ok h hA (x := (xs (i + 1).toNatClampNeg)) (Q := fun r M' => r = (aPlace A (xs (i + 1).toNatClampNeg)) ∧ YS M' A) (fun M' h' => ⟨rfl, h'⟩)) (fun v M' h => QI_out h) (fun _ _ hv => ?_)
  exact lv_icmp_eq (tgt := 486) hx hb dl_329 (by decide) (fun _ => kk _ _ _ _ hv hA) (fun z => absurd rfl z)
theorem cs_makes (C0 : lw_At p s m meth c b L xs) (hZ : ∀ B, Zk (B, D, F) s) (hls : lv_has ls 4 [(0, .ref b), (1, .ref (s.heap.size + 0)), (2, .ref (s.heap.size + 240)), (3, .int i)]) (hi1 : vp_in (i + 1) L) (hi2 : vp_in (i + 2) L) (hv : LV s D F Mx My A A H) (hA : VA A) (kk : ∀ (Mx' My' : Mem) (A' : AA) (H' : Heap), LV s D F Mx' My' A' A' H' → VA A' → W p l e room_1 s m #[Value.ref b] below meth c H' [] 262 24878 Z (F0 m 486 ls [])) : W p l e room_1 s m #[Value.ref b] below meth c H [] 262 24878 Z (F0 m 334 ls []) := by
  obtain ⟨hx, hb, -⟩ := id C0
  refine lv_aload_n hx hb dl_334 rfl (lv_at hls 1 rfl) ?_
  refine L_arg (v := 1) C0 hv (lv_at hls 0 rfl) (lv_at hls 3 rfl) dl_335 dl_336 dl_337 rfl dl_338 dl_339 hi1 ?_
  refine L_x (as := [.int (xs (i + 1).toNatClampNeg)]) (np := 1) (st := []) (r := .int (aMakes A (xs (i + 1).toNatClampNeg))) (A' := A) C0 hZ hls.1 dl_340 mi_E_makes (by decide) (by decide) wd_586 rfl (by decide) (fun _ => rfl) (fun _ => rfl) hv (fun M h => E_makes_ok h hA (x := (xs (i + 1).toNatClampNeg)) (Q := fun r M' => r = (aMakes A (xs (i + 1).toNatClampNeg)) ∧ XS M' A) (fun M' h' => ⟨rfl, h'⟩)) (fun v M' h => QI_out h) (fun _ _ hv => ?_)
  refine lv_aload_n hx hb dl_343 rfl (lv_at hls 2 rfl) ?_
  refine L_arg (v := 1) C0 hv (lv_at hls 0 rfl) (lv_at hls 3 rfl) dl_344 dl_345 dl_346 rfl dl_347 dl_348 hi1 ?_
  refine L_y (as := [.int (xs (i + 1).toNatClampNeg)]) (np := 1) (st := [.int (aMakes A (xs (i + 1).toNatClampNeg))]) (r := .int (aMakes A (xs (i + 1).toNatClampNeg))) (A' := A) C0 hZ hls.1 dl_349 mi_M_makes (by decide) (by decide) wd_868 rfl (by decide) (fun _ => rfl) (fun _ => rfl) hv (fun M h => M_makes_ok h hA (x := (xs (i + 1).toNatClampNeg)) (Q := fun r M' => r = (aMakes A (xs (i + 1).toNatClampNeg)) ∧ YS M' A) (fun M' h' => ⟨rfl, h'⟩)) (fun v M' h => QI_out h) (fun _ _ hv => ?_)
  exact lv_icmp_eq (tgt := 486) hx hb dl_352 (by decide) (fun _ => kk _ _ _ _ hv hA) (fun z => absurd rfl z)
theorem cs_accept (C0 : lw_At p s m meth c b L xs) (hZ : ∀ B, Zk (B, D, F) s) (hls : lv_has ls 4 [(0, .ref b), (1, .ref (s.heap.size + 0)), (2, .ref (s.heap.size + 240)), (3, .int i)]) (hi1 : vp_in (i + 1) L) (hi2 : vp_in (i + 2) L) (hv : LV s D F Mx My A A H) (hA : VA A) (kk : ∀ (Mx' My' : Mem) (A' : AA) (H' : Heap), LV s D F Mx' My' A' A' H' → VA A' → W p l e room_1 s m #[Value.ref b] below meth c H' [] 262 24878 Z (F0 m 486 ls [])) : W p l e room_1 s m #[Value.ref b] below meth c H [] 262 24878 Z (F0 m 357 ls []) := by
  obtain ⟨hx, hb, -⟩ := id C0
  refine lv_aload_n hx hb dl_357 rfl (lv_at hls 1 rfl) ?_
  refine L_arg (v := 1) C0 hv (lv_at hls 0 rfl) (lv_at hls 3 rfl) dl_358 dl_359 dl_360 rfl dl_361 dl_362 hi1 ?_
  refine L_x (as := [.int (xs (i + 1).toNatClampNeg)]) (np := 1) (st := []) (r := .int (aAccept A (xs (i + 1).toNatClampNeg)).1) (A' := (aAccept A (xs (i + 1).toNatClampNeg)).2) C0 hZ hls.1 dl_363 mi_E_accept (by decide) (by decide) wd_600 rfl (by decide) (fun _ => rfl) (fun _ => rfl) hv (fun M h => E_accept_ok h hA (x := (xs (i + 1).toNatClampNeg)) (Q := fun r M' => r = (aAccept A (xs (i + 1).toNatClampNeg)).1 ∧ XS M' (aAccept A (xs (i + 1).toNatClampNeg)).2) (fun M' h' => ⟨rfl, h'⟩)) (fun v M' h => QI_out h) (fun _ _ hv => ?_)
  refine lv_aload_n hx hb dl_366 rfl (lv_at hls 2 rfl) ?_
  refine L_arg (v := 1) C0 hv (lv_at hls 0 rfl) (lv_at hls 3 rfl) dl_367 dl_368 dl_369 rfl dl_370 dl_371 hi1 ?_
  refine L_y (as := [.int (xs (i + 1).toNatClampNeg)]) (np := 1) (st := [.int (aAccept A (xs (i + 1).toNatClampNeg)).1]) (r := .int (aAccept A (xs (i + 1).toNatClampNeg)).1) (A' := (aAccept A (xs (i + 1).toNatClampNeg)).2) C0 hZ hls.1 dl_372 mi_M_accept (by decide) (by decide) wd_876 rfl (by decide) (fun _ => rfl) (fun _ => rfl) hv (fun M h => M_accept_ok h hA (x := (xs (i + 1).toNatClampNeg)) (Q := fun r M' => r = (aAccept A (xs (i + 1).toNatClampNeg)).1 ∧ YS M' (aAccept A (xs (i + 1).toNatClampNeg)).2) (fun M' h' => ⟨rfl, h'⟩)) (fun v M' h => QI_out h) (fun _ _ hv => ?_)
  exact lv_icmp_eq (tgt := 486) hx hb dl_375 (by decide) (fun _ => kk _ _ _ _ hv (VA_accept hA (xs (i + 1).toNatClampNeg))) (fun z => absurd rfl z)
theorem cs_agreeing (C0 : lw_At p s m meth c b L xs) (hZ : ∀ B, Zk (B, D, F) s) (hls : lv_has ls 4 [(0, .ref b), (1, .ref (s.heap.size + 0)), (2, .ref (s.heap.size + 240)), (3, .int i)]) (hi1 : vp_in (i + 1) L) (hi2 : vp_in (i + 2) L) (hv : LV s D F Mx My A A H) (hA : VA A) (kk : ∀ (Mx' My' : Mem) (A' : AA) (H' : Heap), LV s D F Mx' My' A' A' H' → VA A' → W p l e room_1 s m #[Value.ref b] below meth c H' [] 262 24878 Z (F0 m 486 ls [])) : W p l e room_1 s m #[Value.ref b] below meth c H [] 262 24878 Z (F0 m 380 ls []) := by
  obtain ⟨hx, hb, -⟩ := id C0
  refine lv_aload_n hx hb dl_380 rfl (lv_at hls 1 rfl) ?_
  refine L_arg (v := 1) C0 hv (lv_at hls 0 rfl) (lv_at hls 3 rfl) dl_381 dl_382 dl_383 rfl dl_384 dl_385 hi1 ?_
  refine L_x (as := [.int (xs (i + 1).toNatClampNeg)]) (np := 1) (st := []) (r := .long (aAgreeing A (xs (i + 1).toNatClampNeg))) (A' := A) C0 hZ hls.1 dl_386 mi_E_agreeing (by decide) (by decide) wd_612 rfl (by decide) (fun _ => rfl) (fun _ => rfl) hv (fun M h => E_agreeing_ok h hA (x := (xs (i + 1).toNatClampNeg)) (Q := fun r M' => r = (aAgreeing A (xs (i + 1).toNatClampNeg)) ∧ XS M' A) (fun M' h' => ⟨rfl, h'⟩)) (fun v M' h => QL_out h) (fun _ _ hv => ?_)
  refine lv_aload_n hx hb dl_389 rfl (lv_at hls 2 rfl) ?_
  refine L_arg (v := 1) C0 hv (lv_at hls 0 rfl) (lv_at hls 3 rfl) dl_390 dl_391 dl_392 rfl dl_393 dl_394 hi1 ?_
  refine L_y (as := [.int (xs (i + 1).toNatClampNeg)]) (np := 1) (st := [.long (aAgreeing A (xs (i + 1).toNatClampNeg))]) (r := .long (aAgreeing A (xs (i + 1).toNatClampNeg))) (A' := A) C0 hZ hls.1 dl_395 mi_M_agreeing (by decide) (by decide) wd_884 rfl (by decide) (fun _ => rfl) (fun _ => rfl) hv (fun M h => M_agreeing_ok h hA (x := (xs (i + 1).toNatClampNeg)) (Q := fun r M' => r = (aAgreeing A (xs (i + 1).toNatClampNeg)) ∧ YS M' A) (fun M' h' => ⟨rfl, h'⟩)) (fun v M' h => QL_out h) (fun _ _ hv => ?_)
  refine W.lcmp hx hb dl_398 ?_
  exact lv_if_eq (tgt := 486) hx hb dl_399 (by decide) (fun _ => kk _ _ _ _ hv hA) (fun z => absurd ((lg_cmp_eq _ _).mpr rfl) z)
theorem cs_asked (C0 : lw_At p s m meth c b L xs) (hZ : ∀ B, Zk (B, D, F) s) (hls : lv_has ls 4 [(0, .ref b), (1, .ref (s.heap.size + 0)), (2, .ref (s.heap.size + 240)), (3, .int i)]) (hi1 : vp_in (i + 1) L) (hi2 : vp_in (i + 2) L) (hv : LV s D F Mx My A A H) (hA : VA A) (kk : ∀ (Mx' My' : Mem) (A' : AA) (H' : Heap), LV s D F Mx' My' A' A' H' → VA A' → W p l e room_1 s m #[Value.ref b] below meth c H' [] 262 24878 Z (F0 m 486 ls [])) : W p l e room_1 s m #[Value.ref b] below meth c H [] 262 24878 Z (F0 m 404 ls []) := by
  obtain ⟨hx, hb, -⟩ := id C0
  refine lv_aload_n hx hb dl_404 rfl (lv_at hls 1 rfl) ?_
  refine L_x (as := []) (np := 0) (st := []) (r := .int (aAsked A)) (A' := A) C0 hZ hls.1 dl_405 mi_E_asked (by decide) (by decide) wd_625 rfl (by decide) (fun _ => rfl) (fun _ => rfl) hv (fun M h => E_asked_ok h hA (Q := fun r M' => r = (aAsked A) ∧ XS M' A) (fun M' h' => ⟨rfl, h'⟩)) (fun v M' h => QI_out h) (fun _ _ hv => ?_)
  refine lv_aload_n hx hb dl_408 rfl (lv_at hls 2 rfl) ?_
  refine L_y (as := []) (np := 0) (st := [.int (aAsked A)]) (r := .int (aAsked A)) (A' := A) C0 hZ hls.1 dl_409 mi_M_asked (by decide) (by decide) wd_894 rfl (by decide) (fun _ => rfl) (fun _ => rfl) hv (fun M h => M_asked_ok h hA (Q := fun r M' => r = (aAsked A) ∧ YS M' A) (fun M' h' => ⟨rfl, h'⟩)) (fun v M' h => QI_out h) (fun _ _ hv => ?_)
  exact lv_icmp_eq (tgt := 486) hx hb dl_412 (by decide) (fun _ => kk _ _ _ _ hv hA) (fun z => absurd rfl z)
theorem cs_image (C0 : lw_At p s m meth c b L xs) (hZ : ∀ B, Zk (B, D, F) s) (hls : lv_has ls 4 [(0, .ref b), (1, .ref (s.heap.size + 0)), (2, .ref (s.heap.size + 240)), (3, .int i)]) (hi1 : vp_in (i + 1) L) (hi2 : vp_in (i + 2) L) (hv : LV s D F Mx My A A H) (hA : VA A) (kk : ∀ (Mx' My' : Mem) (A' : AA) (H' : Heap), LV s D F Mx' My' A' A' H' → VA A' → W p l e room_1 s m #[Value.ref b] below meth c H' [] 262 24878 Z (F0 m 486 ls [])) : W p l e room_1 s m #[Value.ref b] below meth c H [] 262 24878 Z (F0 m 417 ls []) := by
  obtain ⟨hx, hb, -⟩ := id C0
  refine lv_aload_n hx hb dl_417 rfl (lv_at hls 1 rfl) ?_
  refine L_arg (v := 1) C0 hv (lv_at hls 0 rfl) (lv_at hls 3 rfl) dl_418 dl_419 dl_420 rfl dl_421 dl_422 hi1 ?_
  refine L_x (as := [.int (xs (i + 1).toNatClampNeg)]) (np := 1) (st := []) (r := .int (aImage A (xs (i + 1).toNatClampNeg)).1) (A' := (aImage A (xs (i + 1).toNatClampNeg)).2) C0 hZ hls.1 dl_423 mi_E_image (by decide) (by decide) wd_629 rfl (by decide) (fun _ => rfl) (fun _ => rfl) hv (fun M h => E_image_ok h hA (x := (xs (i + 1).toNatClampNeg)) (Q := fun r M' => r = (aImage A (xs (i + 1).toNatClampNeg)).1 ∧ XS M' (aImage A (xs (i + 1).toNatClampNeg)).2) (fun M' h' => ⟨rfl, h'⟩)) (fun v M' h => QI_out h) (fun _ _ hv => ?_)
  refine lv_aload_n hx hb dl_426 rfl (lv_at hls 2 rfl) ?_
  refine L_arg (v := 1) C0 hv (lv_at hls 0 rfl) (lv_at hls 3 rfl) dl_427 dl_428 dl_429 rfl dl_430 dl_431 hi1 ?_
  refine L_y (as := [.int (xs (i + 1).toNatClampNeg)]) (np := 1) (st := [.int (aImage A (xs (i + 1).toNatClampNeg)).1]) (r := .int (aImage A (xs (i + 1).toNatClampNeg)).1) (A' := (aImage A (xs (i + 1).toNatClampNeg)).2) C0 hZ hls.1 dl_432 mi_M_image (by decide) (by decide) wd_898 rfl (by decide) (fun _ => rfl) (fun _ => rfl) hv (fun M h => M_image_ok h hA (x := (xs (i + 1).toNatClampNeg)) (Q := fun r M' => r = (aImage A (xs (i + 1).toNatClampNeg)).1 ∧ YS M' (aImage A (xs (i + 1).toNatClampNeg)).2) (fun M' h' => ⟨rfl, h'⟩)) (fun v M' h => QI_out h) (fun _ _ hv => ?_)
  exact lv_icmp_eq (tgt := 486) hx hb dl_435 (by decide) (fun _ => kk _ _ _ _ hv (VA_image hA (xs (i + 1).toNatClampNeg))) (fun z => absurd rfl z)
theorem cs_restore (C0 : lw_At p s m meth c b L xs) (hZ : ∀ B, Zk (B, D, F) s) (hls : lv_has ls 4 [(0, .ref b), (1, .ref (s.heap.size + 0)), (2, .ref (s.heap.size + 240)), (3, .int i)]) (hi1 : vp_in (i + 1) L) (hi2 : vp_in (i + 2) L) (hv : LV s D F Mx My A A H) (hA : VA A) (kk : ∀ (Mx' My' : Mem) (A' : AA) (H' : Heap), LV s D F Mx' My' A' A' H' → VA A' → W p l e room_1 s m #[Value.ref b] below meth c H' [] 262 24878 Z (F0 m 486 ls [])) : W p l e room_1 s m #[Value.ref b] below meth c H [] 262 24878 Z (F0 m 440 ls []) := by
  obtain ⟨hx, hb, -⟩ := id C0
  refine lv_aload_n hx hb dl_440 rfl (lv_at hls 1 rfl) ?_
  refine L_arg (v := 1) C0 hv (lv_at hls 0 rfl) (lv_at hls 3 rfl) dl_441 dl_442 dl_443 rfl dl_444 dl_445 hi1 ?_
  refine L_x (as := [.int (xs (i + 1).toNatClampNeg)]) (np := 1) (st := []) (r := .int (aRestore A (xs (i + 1).toNatClampNeg)).1) (A' := (aRestore A (xs (i + 1).toNatClampNeg)).2) C0 hZ hls.1 dl_446 mi_E_restore (by decide) (by decide) wd_637 rfl (by decide) (fun _ => rfl) (fun _ => rfl) hv (fun M h => E_restore_ok h hA (x := (xs (i + 1).toNatClampNeg)) (Q := fun r M' => r = (aRestore A (xs (i + 1).toNatClampNeg)).1 ∧ XS M' (aRestore A (xs (i + 1).toNatClampNeg)).2) (fun M' h' => ⟨rfl, h'⟩)) (fun v M' h => QI_out h) (fun _ _ hv => ?_)
  refine lv_aload_n hx hb dl_449 rfl (lv_at hls 2 rfl) ?_
  refine L_arg (v := 1) C0 hv (lv_at hls 0 rfl) (lv_at hls 3 rfl) dl_450 dl_451 dl_452 rfl dl_453 dl_454 hi1 ?_
  refine L_y (as := [.int (xs (i + 1).toNatClampNeg)]) (np := 1) (st := [.int (aRestore A (xs (i + 1).toNatClampNeg)).1]) (r := .int (aRestore A (xs (i + 1).toNatClampNeg)).1) (A' := (aRestore A (xs (i + 1).toNatClampNeg)).2) C0 hZ hls.1 dl_455 mi_M_restore (by decide) (by decide) wd_902 rfl (by decide) (fun _ => rfl) (fun _ => rfl) hv (fun M h => M_restore_ok h hA (x := (xs (i + 1).toNatClampNeg)) (Q := fun r M' => r = (aRestore A (xs (i + 1).toNatClampNeg)).1 ∧ YS M' (aRestore A (xs (i + 1).toNatClampNeg)).2) (fun M' h' => ⟨rfl, h'⟩)) (fun v M' h => QI_out h) (fun _ _ hv => ?_)
  exact lv_icmp_eq (tgt := 486) hx hb dl_458 (by decide) (fun _ => kk _ _ _ _ hv (VA_restore hA (xs (i + 1).toNatClampNeg))) (fun z => absurd rfl z)
theorem cs_told (C0 : lw_At p s m meth c b L xs) (hZ : ∀ B, Zk (B, D, F) s) (hls : lv_has ls 4 [(0, .ref b), (1, .ref (s.heap.size + 0)), (2, .ref (s.heap.size + 240)), (3, .int i)]) (hi1 : vp_in (i + 1) L) (hi2 : vp_in (i + 2) L) (hv : LV s D F Mx My A A H) (hA : VA A) (kk : ∀ (Mx' My' : Mem) (A' : AA) (H' : Heap), LV s D F Mx' My' A' A' H' → VA A' → W p l e room_1 s m #[Value.ref b] below meth c H' [] 262 24878 Z (F0 m 486 ls [])) : W p l e room_1 s m #[Value.ref b] below meth c H [] 262 24878 Z (F0 m 463 ls []) := by
  obtain ⟨hx, hb, -⟩ := id C0
  refine lv_aload_n hx hb dl_463 rfl (lv_at hls 1 rfl) ?_
  refine L_arg (v := 1) C0 hv (lv_at hls 0 rfl) (lv_at hls 3 rfl) dl_464 dl_465 dl_466 rfl dl_467 dl_468 hi1 ?_
  refine L_x (as := [.int (xs (i + 1).toNatClampNeg)]) (np := 1) (st := []) (r := .int (aTold A (xs (i + 1).toNatClampNeg))) (A' := A) C0 hZ hls.1 dl_469 mi_E_told (by decide) (by decide) wd_641 rfl (by decide) (fun _ => rfl) (fun _ => rfl) hv (fun M h => E_told_ok h hA (x := (xs (i + 1).toNatClampNeg)) (Q := fun r M' => r = (aTold A (xs (i + 1).toNatClampNeg)) ∧ XS M' A) ⟨rfl, h⟩) (fun v M' h => QI_out h) (fun _ _ hv => ?_)
  refine lv_aload_n hx hb dl_472 rfl (lv_at hls 2 rfl) ?_
  refine L_arg (v := 1) C0 hv (lv_at hls 0 rfl) (lv_at hls 3 rfl) dl_473 dl_474 dl_475 rfl dl_476 dl_477 hi1 ?_
  refine L_y (as := [.int (xs (i + 1).toNatClampNeg)]) (np := 1) (st := [.int (aTold A (xs (i + 1).toNatClampNeg))]) (r := .int (aTold A (xs (i + 1).toNatClampNeg))) (A' := A) C0 hZ hls.1 dl_478 mi_M_told (by decide) (by decide) wd_906 rfl (by decide) (fun _ => rfl) (fun _ => rfl) hv (fun M h => M_told_ok h hA (x := (xs (i + 1).toNatClampNeg)) (Q := fun r M' => r = (aTold A (xs (i + 1).toNatClampNeg)) ∧ YS M' A) ⟨rfl, h⟩) (fun v M' h => QI_out h) (fun _ _ hv => ?_)
  exact lv_icmp_eq (tgt := 486) hx hb dl_481 (by decide) (fun _ => kk _ _ _ _ hv hA) (fun z => absurd rfl z)
end ZLC
