/-! EditGuessModel: examples, what is accepted, images -/
section ZS4
variable {M : Mem} {A : AA}
theorem M_example_ok (h : YS M A) (hv : VA A) {Q : Int32 → Mem → Prop} (k : ∀ M', YS M' (aExample A).2 → Q (aExample A).1 M') : CallI zY m_M_example [.ref 0] M Q := by
  unfold aExample at k
  have hb3 := hv.2.1.1
  have hl := hv.1
  refine e_M_example (M_exampleFault_ok h.1 hl ⟨fun c => ?_, fun c => ?_⟩)
  · have c := (exF_neg hl).mp c
    rw [if_pos c] at k
    have e := exF_ok c
    have s := sE_spec (l := aL A) 12 0
    have g62 : gt (aL A) (sE (aL A) 12 0) = 62 := by
      refine Classical.byContradiction fun z => ?_
      rw [exF, if_neg z] at c
      exact nI_ne6 (by omega) c
    have er : ((aL A).drop (sE (aL A) 12 0 + 1)).length = (aL A).length - (sE (aL A) 12 0 + 1) := List.length_drop ..
    have el : ((aL A).take (sE (aL A) 12 0)).length = sE (aL A) 12 0 := by rw [List.length_take]; omega
    have hr5 := e.2.1.2.1
    have ha12 := e.2.2.1
    have hal := e.2.2.2
    have hok := s.2.2
    generalize sE (aL A) 12 0 = a at k e g62 er el hr5 ha12 hal hok
    rw [h.2.1.1]
    refine pk_eq (bN (aB A)) 3 (fun d => ?_) (fun d => ?_)
    · rw [if_neg (by omega)] at k
      exact k M h
    · rw [if_pos (by omega)] at k
      generalize hn : bN (aB A) = n at k hb3 d
      have hB4 : M.1 0 4 = nI n := by rw [← hn]; exact h.2.1.1
      refine cp_loop (Lp := fun v M2 => wp zY m_M_example (QI Q) 23 [(0, .ref 0), (1, .int (nI v))] [] M2) a 1 (12 * n) 7 0 M (Or.inl (by omega)) (fun v M2 hv2 ee nx => ?_) ?_
      · have e4 : M2.1 0 4 = nI n := by rw [ee, cpm_n (by omega)]; exact hB4
        have e7 : M2.1 7 v = gt (aL A) v := by rw [ee, cpm_n (by omega)]; exact h.1.2 v (by omega)
        refine b_M_example_23 ⟨vp_in_nI (by omega) (by omega), ?_⟩
        rw [nI_clamp (by omega), e4, e7]
        refine br_f (fun z => (hok v (Nat.zero_le _) hv2).2 (by rw [z]; exact kd_62)) ⟨vp_in_nI (by omega) (by omega), ?_⟩
        rw [show (12 : Int32) * nI n = nI (12 * n) from pk_mul 12 _, nI_add]
        refine ⟨vp_in_nI (by omega) (by omega), ?_⟩
        rw [nI_clamp (by omega), nI_1]
        rintro N rfl
        rw [Nat.zero_add, e7] at nx
        exact nx
      · have v1 : ∀ w, w < a → (cpm M 1 (12 * n) 7 0 a).1 1 (12 * n + w) = gt (aL A) w := fun w hw => by
          rw [cpm_i hw, Nat.zero_add]
          exact h.1.2 w (by omega)
        have o1 : ∀ z, z < 12 * n → (cpm M 1 (12 * n) 7 0 a).1 1 z = M.1 1 z := fun z hz => cpm_o (by omega)
        have n1 : ∀ b, b ≠ 1 → (cpm M 1 (12 * n) 7 0 a).1 b = M.1 b := fun b hb => cpm_n hb
        have g1 : KF 1 7 [4, 7, 8] M (cpm M 1 (12 * n) 7 0 a) := KF.cp (by omega) (by omega) (by omega)
        generalize cpm M 1 (12 * n) 7 0 a = M1 at v1 o1 n1 g1
        refine b_M_example_23 ⟨vp_in_nI (by omega) (by omega), ?_⟩
        rw [nI_clamp (by omega), n1 7 (by omega), n1 0 (by omega), h.1.2 a (by omega), hB4]
        refine br_t g62 ⟨vp_in_nI (by omega) (by omega), ?_⟩
        rw [nI_clamp (by omega)]
        rintro N rfl
        rw [uI_n (b := 0) (by omega), n1 0 (by omega), hB4, h.1.1]
        refine ⟨vp_in_nI (by omega) (by omega), ?_⟩
        rw [nI_clamp (by omega), pk_sub (by omega), show nI ((aL A).length - a) - 1 = nI ((aL A).length - (a + 1)) from (pk_sub (b := 1) (by omega)).trans (congrArg nI (by omega))]
        rintro N rfl
        have g2 : KF 1 7 [4, 7, 8] M (uI (uI M1 2 n (nI a)) 4 n (nI ((aL A).length - (a + 1)))) := (g1.trans (KF.wI (by omega) (by omega) (by omega))).trans (KF.wI (by omega) (by omega) (by omega))
        generalize hM2 : uI (uI M1 2 n (nI a)) 4 n (nI ((aL A).length - (a + 1))) = M2 at g2
        refine cp_loop (Lp := fun v M3 => wp zY m_M_example (QI Q) 89 [(0, .ref 0), (1, .int (nI a)), (2, .int (nI v))] [] M3) ((aL A).length - (a + 1)) 3 (5 * n) 7 (a + 1) M2 (Or.inl (by omega)) (fun v M3 hv2 ee nx => ?_) ?_
        · have e4 : M3.1 0 4 = nI n := by rw [ee, cpm_n (by omega), ← hM2, uI_n (by omega), uI_n (by omega), n1 0 (by omega)]; exact hB4
          have e44 : M3.1 4 n = nI ((aL A).length - (a + 1)) := by rw [ee, cpm_n (by omega), ← hM2, uI_s]
          refine b_M_example_89 ?_
          rw [e4, nI_clamp (by omega), e44]
          refine ⟨vp_in_nI (by omega) (by omega), pk_le ((aL A).length - (a + 1)) v (fun z => absurd z (by omega)) (fun _ => ?_)⟩
          rw [nI_1, nI_1, nI_add, show (5 : Int32) * nI n = nI (5 * n) from pk_mul 5 _, nI_add]
          refine ⟨vp_in_nI (by omega) (by omega), vp_in_nI (by omega) (by omega), ?_⟩
          rw [nI_clamp (by omega), nI_clamp (by omega)]
          rintro N rfl
          exact nx
        · have v3 : ∀ w, w < (aL A).length - (a + 1) → (cpm M2 3 (5 * n) 7 (a + 1) ((aL A).length - (a + 1))).1 3 (5 * n + w) = gt (aL A) (a + 1 + w) := fun w hw => by
            rw [cpm_i hw, ← hM2, uI_n (by omega), uI_n (by omega), n1 7 (by omega)]
            exact h.1.2 _ (by omega)
          have o3 : ∀ z, z < 5 * n → (cpm M2 3 (5 * n) 7 (a + 1) ((aL A).length - (a + 1))).1 3 z = M.1 3 z := fun z hz => by
            rw [cpm_o (by omega), ← hM2, uI_n (by omega), uI_n (by omega), n1 3 (by omega)]
          have n3 : ∀ b, b ≠ 3 → (cpm M2 3 (5 * n) 7 (a + 1) ((aL A).length - (a + 1))).1 b = (uI (uI M1 2 n (nI a)) 4 n (nI ((aL A).length - (a + 1)))).1 b := fun b hb => by rw [cpm_n hb, hM2]
          have g3 : KF 1 7 [4, 7, 8] M (cpm M2 3 (5 * n) 7 (a + 1) ((aL A).length - (a + 1))) := g2.trans (KF.cp (by omega) (by omega) (by omega))
          generalize cpm M2 3 (5 * n) 7 (a + 1) ((aL A).length - (a + 1)) = M3 at v3 o3 n3 g3
          have e4 : M3.1 0 4 = nI n := by rw [n3 0 (by omega), uI_n (by omega), uI_n (by omega), n1 0 (by omega)]; exact hB4
          have e44 : M3.1 4 n = nI ((aL A).length - (a + 1)) := by rw [n3 4 (by omega), uI_s]
          refine b_M_example_89 ?_
          rw [e4, nI_clamp (by omega), e44]
          refine ⟨vp_in_nI (by omega) (by omega), br_t (Int32.le_refl _) ?_⟩
          rintro N rfl N2 rfl
          rw [uI_k (by omega), uI_s, nI_1]
          have g4 : KF 1 7 [4, 7, 8] M (uI (uI M3 0 4 (nI (n + 1))) 0 8 0) := (g3.trans KF.wz).trans KF.wz
          refine k _ (h.bk g4 (BM_add hv.2.1 h.2.1 ?_ ?_ ?_ ?_ ?_ ?_ ?_ ?_ ?_ ?_ ?_ ?_) ⟨uI_s, fun i hi => absurd hi (Nat.not_lt_zero i)⟩)
          · intro w hw
            rw [el] at hw
            rw [hn, uI_n (by omega), uI_n (by omega), n3 1 (by omega), uI_n (by omega), uI_n (by omega), v1 w hw, gt_take hw]
          · intro z hz
            rw [hn] at hz
            rw [uI_n (by omega), uI_n (by omega), n3 1 (by omega), uI_n (by omega), uI_n (by omega), o1 z hz]
          · rw [hn, el, uI_n (by omega), uI_n (by omega), n3 2 (by omega), uI_n (by omega), uI_s]
          · intro z hz
            rw [hn] at hz
            rw [uI_n (by omega), uI_n (by omega), n3 2 (by omega), uI_n (by omega), uI_k (by omega), n1 2 (by omega)]
          · intro w hw
            rw [er] at hw
            rw [hn, uI_n (by omega), uI_n (by omega), v3 w hw, gt_drop]
          · intro z hz
            rw [hn] at hz
            rw [uI_n (by omega), uI_n (by omega), o3 z hz]
          · rw [hn, er, uI_n (by omega), uI_n (by omega), e44]
          · intro z hz
            rw [hn] at hz
            rw [uI_n (by omega), uI_n (by omega), n3 4 (by omega), uI_k (by omega), uI_n (by omega), n1 4 (by omega)]
          · rw [uI_n (by omega), uI_n (by omega), n3 5 (by omega), uI_n (by omega), uI_n (by omega), n1 5 (by omega)]
          · rw [uI_n (by omega), uI_n (by omega), n3 6 (by omega), uI_n (by omega), uI_n (by omega), n1 6 (by omega)]
          · rw [hn, uI_k (by omega), uI_s]
          · rw [uI_k (by omega), uI_k (by omega), n3 0 (by omega), uI_n (by omega), uI_n (by omega), n1 0 (by omega)]
  · rw [if_neg (fun z => c ((exF_neg hl).mpr z))] at k
    exact k M h
theorem M_accept_ok (h : YS M A) (hv : VA A) {x : Int32} {Q : Int32 → Mem → Prop} (k : ∀ M', YS M' (aAccept A x).2 → Q (aAccept A x).1 M') : CallI zY m_M_accept [.ref 0, .int x] M Q := by
  unfold aAccept at k
  have hb3 := hv.2.1.1
  have hb6 := hv.2.1.2.1
  refine e_M_accept ?_
  rw [h.2.1.2.1]
  refine M_in_n (by omega) (fun i hi e => ?_) (fun z => ?_)
  · subst e
    rw [if_pos ⟨nI_pos (by omega), nI_lt hi (by omega)⟩, nI_clamp (by omega)] at k
    refine br_f (by decide) ?_
    rw [h.2.1.1]
    refine pk_eq (bN (aB A)) 0 (fun d => ?_) (fun d => ?_)
    · rw [if_pos d] at k
      exact k M h
    · rw [if_neg d] at k
      have bf := BP_facts hv.2.1 (by omega)
      have hr := (hv.2.1.2.2.1 0 (by omega)).2.2.1
      refine M_layBest_ok hv.2.1 (by omega) h.2.1 h.2.2.1 (fun M1 c0 f => ?_) (fun M1 c0 hP h24 hW f => ?_)
      · rw [if_neg (fun z => by
          have := z.1
          rw [mkL_nil c0] at this
          exact absurd this (by decide))] at k
        exact br_t rfl (k M1 (h.kt f))
      · have h1 := h.kt f
        have hl := hv.2.1.2.2.2 i hi
        have hPi := h1.2.1.2.2.2 i hi
        refine br_f (by decide) (M_lookAtPool_ok (by omega) hPi.1 hPi.2 hl.1 (fun M2 hN f2 => ?_))
        have h2 := h1.kt (f2.mono (by omega) (by omega))
        refine M_make_ok (hP.kt f2 (by omega)) bf.1 bf.2.1 hN hl.1 hr (outs0 h2.2.1 (by omega)) (fun M3 hS f3 => ?_)
        have h3 := h2.kt (f3.mono (by omega) (by omega))
        have hN3 := hN.kt f3 (by omega)
        have hS : SA M3 (mkL (aB A) (bP (aB A) i)) := hS
        have hmk : (mkL (aB A) (bP (aB A) i)).length ≤ 60 := mkL_len hv.2.1 (by omega) hl.1
        have hok : okS (mkL (aB A) (bP (aB A) i)) := mkF_okS hl.2 (hv.2.1.2.2.1 0 (by omega)).2.2.2 _ _ okS_nil
        rw [show mkF (bR (aB A) 0) (bP (aB A) i) (bp (aB A)) [] = mkL (aB A) (bP (aB A) i) from rfl]
        generalize mkL (aB A) (bP (aB A) i) = mm at k hS hmk hok
        refine M_in_ok (fun c d2 => ?_) (fun c => ?_)
        · have c1 : 1 ≤ mm.length := Nat.le_of_not_lt (fun z => c (nI_lt (b := 1) z (by omega)))
          have d1 : mm.length ≤ 5 := Nat.le_of_not_lt (fun z => d2 ((nI_ltI (a := 5) (by omega) (by omega)).mpr z))
          rw [if_pos ⟨c1, d1⟩] at k
          refine br_f (by decide) ?_
          rw [h3.2.1.1]
          refine pk_eq (bN (aB A)) 3 (fun d4 => ?_) (fun d4 => ?_)
          · rw [if_neg (by omega)] at k
            exact k M3 h3
          · rw [if_pos (by omega)] at k
            have hVB : VB (addE (aB A) (bP (aB A) i) mm) := VB_addE hv.2.1 (by omega) hl ⟨c1, d1, hok⟩
            generalize hn : bN (aB A) = n at k hb3 d4
            have hB4 : M3.1 0 4 = nI n := by rw [← hn]; exact h3.2.1.1
            generalize hl2 : bP (aB A) i = l at k hl hPi hN hN3 hVB
            refine cp_loop (Lp := fun v M4 => wp zY m_M_accept (QI Q) 71 [(0, .ref 0), (1, .int (nI i)), (2, .int (nI mm.length)), (3, .int (nI v))] [] M4) l.length 1 (12 * n) 9 0 M3 (Or.inl (by omega)) (fun v M4 hv2 ee nx => ?_) ?_
            · have e4 : M4.1 0 4 = nI n := by rw [ee, cpm_n (by omega)]; exact hB4
              have e12 : M4.1 0 12 = nI l.length := by rw [ee, cpm_n (by omega)]; exact hN3.1
              have hl12 := hl.1
              refine b_M_accept_71 ?_
              rw [e4, e12]
              refine pk_le l.length v (fun z => absurd z (by omega)) (fun _ => ⟨vp_in_nI (by omega) (by omega), ?_⟩)
              rw [show (12 : Int32) * nI n = nI (12 * n) from pk_mul 12 _, nI_add]
              refine ⟨vp_in_nI (by omega) (by omega), ?_⟩
              rw [nI_clamp (by omega), nI_clamp (by omega), nI_1]
              rintro N rfl
              rw [Nat.zero_add] at nx
              exact nx
            · have hl12 := hl.1
              have v1 : ∀ w, w < l.length → (cpm M3 1 (12 * n) 9 0 l.length).1 1 (12 * n + w) = gt l w := fun w hw => by
                rw [cpm_i hw, Nat.zero_add]
                exact hN3.2 w hw
              have o1 : ∀ z, z < 12 * n → (cpm M3 1 (12 * n) 9 0 l.length).1 1 z = M3.1 1 z := fun z hz => cpm_o (by omega)
              have n1 : ∀ b, b ≠ 1 → (cpm M3 1 (12 * n) 9 0 l.length).1 b = M3.1 b := fun b hb => cpm_n hb
              have g1 : KF 1 7 [4, 7, 8] M3 (cpm M3 1 (12 * n) 9 0 l.length) := KF.cp (by omega) (by omega) (by omega)
              generalize cpm M3 1 (12 * n) 9 0 l.length = M4 at v1 o1 n1 g1
              refine b_M_accept_71 ?_
              rw [n1 0 (by omega), hN3.1]
              refine br_t (Int32.le_refl _) ?_
              refine cp_loop (Lp := fun v M5 => wp zY m_M_accept (QI Q) 107 [(0, .ref 0), (1, .int (nI i)), (2, .int (nI mm.length)), (3, .int (nI v))] [] M5) mm.length 3 (5 * n) 19 0 M4 (Or.inl (by omega)) (fun v M5 hv2 ee nx => ?_) ?_
              · have e4 : M5.1 0 4 = nI n := by rw [ee, cpm_n (by omega), n1 0 (by omega)]; exact hB4
                refine b_M_accept_107 ?_
                rw [e4]
                refine pk_le mm.length v (fun z => absurd z (by omega)) (fun _ => ⟨vp_in_nI (by omega) (by omega), ?_⟩)
                rw [show (5 : Int32) * nI n = nI (5 * n) from pk_mul 5 _, nI_add]
                refine ⟨vp_in_nI (by omega) (by omega), ?_⟩
                rw [nI_clamp (by omega), nI_clamp (by omega), nI_1]
                rintro N rfl
                rw [Nat.zero_add] at nx
                exact nx
              · have v3 : ∀ w, w < mm.length → (cpm M4 3 (5 * n) 19 0 mm.length).1 3 (5 * n + w) = gt mm w := fun w hw => by
                  rw [cpm_i hw, n1 19 (by omega), Nat.zero_add]
                  exact hS w hw
                have o3 : ∀ z, z < 5 * n → (cpm M4 3 (5 * n) 19 0 mm.length).1 3 z = M3.1 3 z := fun z hz => by
                  rw [cpm_o (by omega), n1 3 (by omega)]
                have n3 : ∀ b, b ≠ 3 → (cpm M4 3 (5 * n) 19 0 mm.length).1 b = M4.1 b := fun b hb => cpm_n hb
                have g3 : KF 1 7 [4, 7, 8] M3 (cpm M4 3 (5 * n) 19 0 mm.length) := g1.trans (KF.cp (by omega) (by omega) (by omega))
                generalize cpm M4 3 (5 * n) 19 0 mm.length = M5 at v3 o3 n3 g3
                have e4 : M5.1 0 4 = nI n := by rw [n3 0 (by omega), n1 0 (by omega)]; exact hB4
                have e12 : M5.1 0 12 = nI l.length := by rw [n3 0 (by omega), n1 0 (by omega)]; exact hN3.1
                refine b_M_accept_107 (br_t (Int32.le_refl _) ?_)
                rw [e4, e12]
                refine ⟨vp_in_nI (by omega) (by omega), ?_⟩
                rw [nI_clamp (by omega)]
                rintro N rfl
                rw [uI_n (b := 0) (by omega), e4]
                refine ⟨vp_in_nI (by omega) (by omega), ?_⟩
                rw [nI_clamp (by omega)]
                rintro N rfl N2 rfl
                rw [uI_n (a := 4) (b := 0) (by omega), uI_n (a := 2) (b := 0) (by omega), e4, nI_1]
                have g4 : KF 1 7 [4, 7, 8] M3 (uI (uI (uI M5 2 n (nI l.length)) 4 n (nI mm.length)) 0 4 (nI (n + 1))) := ((g3.trans (KF.wI (by omega) (by omega) (by omega))).trans (KF.wI (by omega) (by omega) (by omega))).trans KF.wz
                have hBA : BM (uI (uI (uI M5 2 n (nI l.length)) 4 n (nI mm.length)) 0 4 (nI (n + 1))) (addE (aB A) l mm) := by
                  refine BM_add hv.2.1 h3.2.1 ?_ ?_ ?_ ?_ ?_ ?_ ?_ ?_ ?_ ?_ ?_ ?_
                  · intro w hw
                    rw [hn, uI_n (by omega), uI_n (by omega), uI_n (by omega), n3 1 (by omega), v1 w hw]
                  · intro z hz
                    rw [hn] at hz
                    rw [uI_n (by omega), uI_n (by omega), uI_n (by omega), n3 1 (by omega), o1 z hz]
                  · rw [hn, uI_n (by omega), uI_n (by omega), uI_s]
                  · intro z hz
                    rw [hn] at hz
                    rw [uI_n (by omega), uI_n (by omega), uI_k (by omega), n3 2 (by omega), n1 2 (by omega)]
                  · intro w hw
                    rw [hn, uI_n (by omega), uI_n (by omega), uI_n (by omega), v3 w hw]
                  · intro z hz
                    rw [hn] at hz
                    rw [uI_n (by omega), uI_n (by omega), uI_n (by omega), o3 z hz]
                  · rw [hn, uI_n (by omega), uI_s]
                  · intro z hz
                    rw [hn] at hz
                    rw [uI_n (by omega), uI_k (by omega), uI_n (by omega), n3 4 (by omega), n1 4 (by omega)]
                  · rw [uI_n (by omega), uI_n (by omega), uI_n (by omega), n3 5 (by omega), n1 5 (by omega)]
                  · rw [uI_n (by omega), uI_n (by omega), uI_n (by omega), n3 6 (by omega), n1 6 (by omega)]
                  · rw [hn, uI_s]
                  · rw [uI_k (by omega), uI_n (by omega), uI_n (by omega), n3 0 (by omega), n1 0 (by omega)]
                refine M_goFrom_ok hVB hBA hi (fun M6 hB6 f6 => ?_)
                have e64 : M6.1 0 4 = nI (n + 1) := by rw [f6.z (k := 4), uI_s]
                rw [e64]
                exact k M6 (h3.bk (g4.trans (f6.mono (by omega) (by omega))) hB6 ⟨by rw [f6.z (k := 8), uI_k (by omega), uI_n (by omega), uI_n (by omega), n3 0 (by omega), n1 0 (by omega)]; exact h3.1.1, by rw [f6.a (a := 7) (by omega) (by omega), uI_n (by omega), uI_n (by omega), uI_n (by omega), n3 7 (by omega), n1 7 (by omega)]; exact h3.1.2⟩)
        · rw [if_neg (fun z => c ⟨fun y => ?_, fun y => ?_⟩)] at k
          · exact br_t rfl (k M3 h3)
          · have := (nI_ltI (b := 1) (by omega) (by omega)).mp y
            omega
          · have := (nI_ltI (a := 5) (by omega) (by omega)).mp y
            omega
  · rw [if_neg z] at k
    exact br_t rfl (k M h)
end ZS4
