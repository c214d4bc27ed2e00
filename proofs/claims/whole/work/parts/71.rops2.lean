/-! EditGuessModel: plans, and what is asked -/
theorem OKR_exs {b : Bo} (hb : VB b) : OKR (exs b) := fun i hi => by
  rw [exs_len] at hi
  rw [rt_exs hi]
  exact (hb.2.2.1 i hi).2.2.2
theorem OKR_app {rs : RS} (h : OKR rs) {l r : LI} (hr : okS r) : OKR (rs ++ [(l, r)]) := fun i hi => by
  rw [List.length_append] at hi
  simp only [List.length_singleton] at hi
  by_cases e : i < rs.length
  · rw [rt_app1 e]
    exact h i e
  · rw [rt_app2 (by omega)]
    exact hr
theorem mkL_nil {b : Bo} (h : CN (exs b) = 0) (l : LI) : mkL b l = [] := by rw [mkL, bp, if_pos h]; rfl
theorem askF_nil {b : Bo} (h : CN (exs b) = 0) : ∀ (k i : Nat) (f : Option Nat) (few : Nat), askF b k i f few = f
  | 0, i, f, few => rfl
  | k + 1, i, f, few => by
    rw [askF, if_neg (fun z => by
      have := z.1.1
      rw [mkL_nil h] at this
      exact absurd this (by decide))]
    exact askF_nil h k (i + 1) f few
def WX (M : Mem) (rs : RS) : Prop := ∀ e, e < rs.length → WR M e (ln rs e) (rt rs e)
theorem WX.kt {M M' : Mem} {rs : RS} {lo hi : Nat} {F : List Nat} (h : WX M rs) (f : KF lo hi F M M') (h1 : hi ≤ 10 ∨ 14 ≤ lo) : WX M' rs := by
  intro e he
  unfold WR
  rw [f.a (a := 10) (by omega) (by omega), f.a (a := 11) (by omega) (by omega), f.a (a := 12) (by omega) (by omega), f.a (a := 13) (by omega) (by omega)]
  exact h e he
section ZS2
variable {M : Mem} {A : AA}
theorem M_plans_ok (h : YS M A) (hv : VA A) {Q : Int64 → Mem → Prop} (k : ∀ M', YS M' A → Q (aPlans A) M') : CallL zY m_M_plans [.ref 0] M Q := by
  unfold aPlans at k
  have hb3 := hv.2.1.1
  refine e_M_plans ?_
  rw [h.2.1.1]
  refine pk_eq (bN (aB A)) 0 (fun d => ?_) (fun d => ?_)
  · rw [if_pos d] at k
    exact k M h
  · rw [if_neg d] at k
    refine M_layExamples_ok hv.2.1 h.2.1 h.2.2.1 (fun M1 hW f1 => M_count_ok (VR_exs hv.2.1) (by rw [exs_len]; omega) (OKR_exs hv.2.1) hW (fun M2 _ f2 _ => k M2 ?_))
    exact h.kt ((f1.mono (by omega) (by omega)).trans (f2.mono (by omega) (by omega)))
theorem M_costOfPiece_ok {r0 : LI} {ps : List T3} (hP : PK M ps) (hpv : ∀ p, p ∈ ps → PV r0 p) (h5 : ps.length ≤ 5) {i : Nat} (hi : i < ps.length) {Q : Int32 → Mem → Prop} (k : Q (nI (pcost (g3 ps i))) M) : CallI zY m_M_costOfPiece [.ref 0, .int (nI i)] M Q := by
  have hq := hP.2 i hi
  have hvp := hpv _ (g3_mem hi)
  refine e_M_costOfPiece ⟨vp_in_nI (by omega) (by omega), ?_⟩
  rw [nI_clamp (by omega), hq.1, hq.2.1]
  have hq2 := hq.2.2
  clear hq
  generalize g3 ps i = p at hvp k hq2
  unfold pcost at k
  rcases hvp with ⟨p0, p1, p2⟩ | ⟨p0, p1, p2⟩
  · rw [if_pos p0] at k
    rw [if_pos p0] at hq2
    rw [p0, if_pos rfl]
    refine br_t rfl ⟨vp_in_nI (by omega) (by omega), M_costOfMark_ok p1 ⟨vp_in_nI (by omega) (by omega), ?_⟩⟩
    rw [hq2]
    refine M_costOfMark_ok p2 ?_
    rw [show (1 : Int32) + nI (mprice p.2.1) = nI (1 + mprice p.2.1) from nI_add 1 _, nI_add, show 1 + mprice p.2.1 + mprice p.2.2 = mprice p.2.1 + mprice p.2.2 + 1 from by omega]
    exact k
  · rw [if_neg (by omega)] at k
    rw [p0, if_neg Nat.one_ne_zero]
    refine br_f (by decide) ⟨vp_in_nI (by omega) (by omega), ?_⟩
    rw [show (2 : Int32) * nI p.2.1 = nI (2 * p.2.1) from pk_mul 2 _, show nI (2 * p.2.1) + 2 = nI (2 * p.2.1 + 2) from nI_add _ 2]
    exact k
theorem M_cost_ok (h : YS M A) (hv : VA A) {x : Int32} {Q : Int32 → Mem → Prop} (k : ∀ M', YS M' A → Q (aCost A x) M') : CallI zY m_M_cost [.ref 0, .int x] M Q := by
  unfold aCost at k
  have hb3 := hv.2.1.1
  refine e_M_cost ⟨fun c => ?_, fun c => ?_⟩
  · rw [if_pos c] at k
    rw [h.2.1.1]
    refine pk_eq (bN (aB A)) 0 (fun d => ?_) (fun d => ?_)
    · rw [if_pos d] at k
      exact k M h
    · rw [if_neg d] at k
      have bf := BP_facts hv.2.1 (by omega)
      refine M_layBest_ok hv.2.1 (by omega) h.2.1 h.2.2.1 (fun M1 c0 f => ?_) (fun M1 c0 hP h24 hW f => ?_)
      · rw [if_pos (bf.2.2.mpr c0)] at k
        exact br_t rfl (k M1 (h.kt f))
      · rw [if_neg (fun z => c0 (bf.2.2.mp z))] at k
        have k := k M1 (h.kt f)
        refine br_f (by decide) ⟨fun c1 => ?_, fun c1 => ⟨fun c2 => ?_, fun c2 => ?_⟩⟩
        · rw [if_neg (by rw [c1]; decide), if_pos c1] at k
          rw [h24]
          exact k
        · rw [if_neg (by rw [c2]; decide), if_neg c1] at k
          rw [hP.1]
          exact k
        · have x0 : ¬ x < 0 := fun z => by
            have t1 : ¬ x.toInt = -1 := fun y => c1 (Int32.toInt_inj.mp (y.trans (by decide)))
            have t2 : ¬ x.toInt = -2 := fun y => c2 (Int32.toInt_inj.mp (y.trans (by decide)))
            rw [Int32.le_iff_toInt_le] at c
            rw [Int32.lt_iff_toInt_lt] at z
            have z0 : (0 : Int32).toInt = 0 := rfl
            have z1 : (-2 : Int32).toInt = -2 := rfl
            omega
          rw [if_pos (le_of_nlt x0)] at k
          rw [hP.1]
          refine ⟨fun c3 => ?_, fun c3 => ?_⟩
          · rw [if_pos c3] at k
            exact k
          · rw [if_neg c3] at k
            obtain ⟨j, hj, rfl⟩ := nI_of x0
            rw [nI_leI (by omega) hj] at c3
            rw [nI_clamp hj] at k
            exact M_costOfPiece_ok hP bf.1 bf.2.1 (by omega) k
  · rw [if_neg c] at k
    exact k M h
theorem M_piece_ok (h : YS M A) (hv : VA A) {x y : Int32} {Q : Int32 → Mem → Prop} (k : ∀ M', YS M' A → Q (aPiece A x y) M') : CallI zY m_M_piece [.ref 0, .int x, .int y] M Q := by
  unfold aPiece at k
  have hb3 := hv.2.1.1
  refine e_M_piece ?_
  rw [h.2.1.1]
  refine pk_eq (bN (aB A)) 0 (fun d => ?_) (fun d => ?_)
  · rw [if_pos d] at k
    exact k M h
  · rw [if_neg d] at k
    have bf := BP_facts hv.2.1 (by omega)
    refine M_layBest_ok hv.2.1 (by omega) h.2.1 h.2.2.1 (fun M1 c0 f => ?_) (fun M1 c0 hP h24 hW f => ?_)
    · have k := k M1 (h.kt f)
      refine br_t rfl ?_
      by_cases c : x < 0
      · rw [if_pos c] at k
        exact k
      · rw [if_neg c, if_neg (fun z => ?_)] at k
        · exact k
        · rw [bf.2.2.mpr c0] at z
          obtain ⟨j, hj, rfl⟩ := nI_of c
          rw [nI_ltI hj (by omega)] at z
          omega
    · have k := k M1 (h.kt f)
      refine br_f (by decide) ?_
      rw [hP.1]
      refine M_in_n (by omega) (fun i hi e => ?_) (fun z => ?_)
      · subst e
        have hq := hP.2 i hi
        have hvp := bf.1 _ (g3_mem hi)
        rw [if_neg (nI_pos (by omega)), if_pos (nI_lt hi (by omega)), nI_clamp (by omega)] at k
        refine br_f (by decide) ⟨fun c => ?_, fun c => ?_, fun c => ?_, fun c => ?_⟩
        · by_cases c1 : y < 0
          · rw [if_pos c1] at k
            exact k
          · rw [if_neg c1, if_neg (fun z => ?_)] at k
            · exact k
            · rw [Int32.lt_iff_toInt_lt] at c1
              rw [Int32.le_iff_toInt_le] at z
              have z0 : (0 : Int32).toInt = 0 := rfl
              have z2 : (2 : Int32).toInt = 2 := rfl
              omega
        · have : y = 0 := Int32.toInt_inj.mp (c.trans (by decide))
          subst this
          rw [if_neg (by decide), if_pos (by decide), ptell, if_pos rfl] at k
          refine ⟨vp_in_nI (by omega) (by omega), ?_⟩
          rw [nI_clamp (by omega), hq.1]
          exact k
        · have : y = 1 := Int32.toInt_inj.mp (c.trans (by decide))
          subst this
          rw [if_neg (by decide), if_pos (by decide), ptell, if_neg (by decide)] at k
          refine ⟨vp_in_nI (by omega) (by omega), ?_⟩
          rw [nI_clamp (by omega), hq.2.1]
          by_cases p0 : (g3 (bp (aB A)) i).1 = 0
          · rw [if_pos p0, if_pos rfl] at k
            rw [if_pos p0]
            exact k
          · rw [if_neg p0, if_pos rfl] at k
            rw [if_neg p0]
            exact k
        · have : y = 2 := Int32.toInt_inj.mp (c.trans (by decide))
          subst this
          rw [if_neg (by decide), if_pos (by decide), ptell, if_neg (by decide)] at k
          refine ⟨vp_in_nI (by omega) (by omega), ?_⟩
          rw [nI_clamp (by omega), hq.1, hq.2.2]
          rcases hvp with ⟨p0, p1, p2⟩ | ⟨p0, p1, p2⟩
          · rw [if_pos p0, if_neg (by decide)] at k
            rw [if_pos p0, p0]
            exact br_t rfl ⟨vp_in_nI (by omega) (by omega), k⟩
          · have p3 : ¬ (g3 (bp (aB A)) i).1 = 0 := by omega
            have hr := (hv.2.1.2.2.1 0 (by omega)).2.2.1
            rw [if_neg p3, if_neg (by decide)] at k
            rw [if_neg p3, p0]
            refine br_f (by decide) ⟨vp_in_nI (by omega) (by omega), vp_in_nI (by omega) (by omega), ?_⟩
            have e0 := (h.2.1.2.2.1 0 (by omega)).2.2.2 (g3 (bp (aB A)) i).2.2 (by omega)
            rw [Nat.mul_zero, Nat.zero_add] at e0
            rw [nI_clamp (by omega), f.a (a := 3) (by omega) (by omega), e0]
            exact k
      · refine br_t rfl ?_
        by_cases c : x < 0
        · rw [if_pos c] at k
          exact k
        · rw [if_neg c, if_neg (fun y => z ⟨c, y⟩)] at k
          exact k
theorem outs0 {b : Bo} (h : BM M b) (h0 : 0 < bN b) : ∀ k, k < (bR b 0).length → M.1 3 k = gt (bR b 0) k := fun k hk => by
  have e0 := (h.2.2.1 0 h0).2.2.2 k hk
  rw [Nat.mul_zero, Nat.zero_add] at e0
  exact e0
theorem M_makes_ok (h : YS M A) (hv : VA A) {x : Int32} {Q : Int32 → Mem → Prop} (k : ∀ M', YS M' A → Q (aMakes A x) M') : CallI zY m_M_makes [.ref 0, .int x] M Q := by
  unfold aMakes at k
  have hb3 := hv.2.1.1
  refine e_M_makes (M_lineFault_ok h.1 hv.1 ⟨fun c => ?_, fun c => ?_⟩)
  · have c := (liF_neg hv.1).mp c
    rw [if_pos c] at k
    rw [h.2.1.1]
    refine pk_eq (bN (aB A)) 0 (fun d => ?_) (fun d => ?_)
    · rw [if_pos d] at k
      exact k M h
    · rw [if_neg d] at k
      have bf := BP_facts hv.2.1 (by omega)
      have hr := (hv.2.1.2.2.1 0 (by omega)).2.2.1
      have hll := (liF_ok c).1
      refine M_layBest_ok hv.2.1 (by omega) h.2.1 h.2.2.1 (fun M1 c0 f => ?_) (fun M1 c0 hP h24 hW f => ?_)
      · rw [if_pos (bf.2.2.mpr c0)] at k
        exact br_t rfl (k M1 (h.kt f))
      · rw [if_neg (fun z => c0 (bf.2.2.mp z))] at k
        have h1 := h.kt f
        refine br_f (by decide) (M_lookAtPad_ok h1.1 hll (fun M2 hN f2 => ?_))
        have h2 := h1.kt (f2.mono (by omega) (by omega))
        refine M_make_ok (hP.kt f2 (by omega)) bf.1 bf.2.1 hN hll hr (outs0 h2.2.1 (by omega)) (fun M3 hS f3 => ?_)
        have k := k M3 (h2.kt (f3.mono (by omega) (by omega)))
        have hS : SA M3 (mkL (aB A) (aL A)) := hS
        have hmk : (mkL (aB A) (aL A)).length ≤ 60 := mkL_len hv.2.1 (by omega) hll
        show (x = -1 → Q (nI (mkL (aB A) (aL A)).length) M3) ∧ (¬ x = -1 → CallI zY m_M_in [.int x, .int 0, .int (nI (mkL (aB A) (aL A)).length - 1)] M3 _)
        generalize mkL (aB A) (aL A) = mm at k hS hmk
        refine ⟨fun c1 => ?_, fun c1 => M_in_n (by omega) (fun i hi e => ?_) (fun z => ?_)⟩
        · rw [if_pos c1] at k
          exact k
        · subst e
          rw [if_neg c1, if_neg (nI_pos (by omega)), if_neg (fun z => by rw [nI_leI (by omega) (by omega)] at z; omega), nI_clamp (by omega)] at k
          refine br_f (by decide) ⟨vp_in_nI (by omega) (by omega), ?_⟩
          rw [nI_clamp (by omega), hS i hi]
          exact k
        · refine br_t rfl ?_
          rw [if_neg c1] at k
          by_cases y : x < 0
          · rw [if_pos y] at k
            exact k
          · rw [if_neg y, if_pos (le_of_nlt (fun w => z ⟨y, w⟩))] at k
            exact k
  · rw [if_neg (fun z => c ((liF_neg hv.1).mpr z))] at k
    exact k M h
theorem M_agreeingOf_ok {b : Bo} (hb : VB b) (h0 : 0 < bN b) (hc : CN (exs b) ≠ 0) (hB : BM M b) (hC : CD M) (hP : PK M (bp b)) (hX : WX M (exs b)) {i : Nat} (hi : i < bM b) {Q : Int64 → Mem → Prop}
    (k : ∀ M', PK M' (bp b) → WX M' (exs b) → KF 9 20 [12, 17, 23, 24] M M' → Q (if okM (mkL b (bP b i)) then lN (agr b i) else -5) M') : CallL zY m_M_agreeingOf [.ref 0, .int (nI i)] M Q := by
  have h6 := hb.2.1
  have h3 := hb.1
  have hPi := hB.2.2.2 i hi
  have hl := hb.2.2.2 i hi
  have bf := BP_facts hb h0
  have hr := (hb.2.2.1 0 h0).2.2.1
  refine e_M_agreeingOf (M_lookAtPool_ok (by omega) hPi.1 hPi.2 hl.1 (fun M1 hN f1 => ?_))
  have hB1 := hB.kt f1 (by omega)
  refine M_make_ok (hP.kt f1 (by omega)) bf.1 bf.2.1 hN hl.1 hr (outs0 hB1 h0) (fun M2 hS f2 => ?_)
  have hP2 := (hP.kt f1 (by omega)).kt f2 (by omega)
  have hX2 := (hX.kt f1 (by omega)).kt f2 (by omega)
  have hN2 := hN.kt f2 (by omega)
  have hC2 := (hC.kt f1 (by omega)).kt f2 (by omega)
  have hB2 := hB1.kt f2 (by omega)
  have f12 : KF 9 20 [12, 17, 23, 24] M M2 := (f1.mono (by omega) (by omega)).trans (f2.mono (by omega) (by omega))
  have hS : SA M2 (mkL b (bP b i)) := hS
  have hmk : (mkL b (bP b i)).length ≤ 60 := mkL_len hb h0 hl.1
  rw [show mkF (bR b 0) (bP b i) (bp b) [] = mkL b (bP b i) from rfl]
  refine M_in_ok (fun c d => ?_) (fun c => ?_)
  · have c1 : 1 ≤ (mkL b (bP b i)).length := Nat.le_of_not_lt (fun z => c (nI_lt (b := 1) z (by omega)))
    have d1 : (mkL b (bP b i)).length ≤ 5 := Nat.le_of_not_lt (fun z => d ((nI_ltI (a := 5) (by omega) (by omega)).mpr z))
    rw [if_pos ⟨c1, d1⟩] at k
    have hrok : okS (mkL b (bP b i)) := mkF_okS hl.2 (hb.2.2.1 0 h0).2.2.2 _ _ okS_nil
    have hVR := VR_app hb hl.1 d1
    have ek : agr b i = CN (exs b ++ [(bP b i, mkL b (bP b i))]) := rfl
    rw [ek] at k
    generalize mkL b (bP b i) = mm at k hS hmk c1 d1 hrok hVR
    refine br_f (by decide) ?_
    have lp : ∀ (u v : Nat) (M3 : Mem), v + u = mm.length → KF 11 12 [] M2 M3 → WX M3 (exs b) → (∀ w, w < v → M3.1 11 (5 * bN b + w) = gt mm w) → wp zY m_M_agreeingOf (QL Q) 25 [(0, .ref 0), (2, .int (nI mm.length)), (3, .int (nI v))] [] M3 := by
      intro u
      induction u with
      | zero =>
        intro v M3 hvm f3 hX3 ho
        have hB3 := hB2.kt f3 (by omega)
        refine b_M_agreeingOf_25 (pk_le mm.length v (fun _ => ?_) (fun z => absurd z (by omega)))
        rw [hB3.1]
        refine ⟨vp_in_nI (by omega) (by omega), ?_⟩
        rw [nI_clamp (by omega)]
        rintro N rfl N2 rfl
        rw [uI_n (b := 0) (by omega), hB3.1]
        have f4 : KF 11 13 [17] M2 (uI (uI M3 12 (bN b) (nI mm.length)) 0 17 (nI (bN b))) := ((f3.mono (by omega) (by omega)).trans (KF.wI (by omega) (by omega) (by omega))).trans KF.wz
        have el : (exs b).length = bN b := exs_len b
        refine M_addWork_ok (rs := exs b) (l := bP b i) (r := mm) (VR_exs hb) (by omega) ⟨by rw [uI_s, el], fun e he => ?_⟩ (hN2.kt f4 (by omega)) (hC2.kt f4 (by omega)) hl.1 d1 (by rw [uI_n (by omega), el, uI_s]) (fun w hw => by rw [uI_n (by omega), uI_n (by omega), el]; exact ho w (by omega)) (fun M5 hW5 f5 => ?_)
        · unfold WR
          rw [uI_n (b := 12) (a := 0) (by omega), uI_n (b := 13) (a := 0) (by omega), uI_n (b := 11) (a := 0) (by omega), uI_n (b := 10) (a := 0) (by omega), uI_n (b := 13) (by omega), uI_n (b := 11) (by omega), uI_n (b := 10) (by omega), uI_k (by omega)]
          exact hX3 e he
        · refine M_count_ok hVR (by rw [List.length_append]; exact Nat.succ_pos _) (OKR_app (OKR_exs hb) hrok) hW5 (fun M6 _ f6 e6 => ?_)
          have hX6 : WX M6 (exs b) := fun e he => by
            have := (hW5.m1 e6).2 e (by rw [List.length_append]; omega)
            rw [ln_app1 he, rt_app1 he] at this
            exact this
          exact k M6 (((hP2.kt f4 (by omega)).kt f5 (by omega)).kt f6 (by omega)) hX6 (((f12.trans (f4.mono (by omega) (by omega))).trans (f5.mono (by omega) (by omega))).trans (f6.mono (by omega) (by omega)))
      | succ u ihu =>
        intro v M3 hvm f3 hX3 ho
        have hB3 := hB2.kt f3 (by omega)
        refine b_M_agreeingOf_25 (pk_le mm.length v (fun z => absurd z (by omega)) (fun _ => ⟨vp_in_nI (by omega) (by omega), ?_⟩))
        rw [hB3.1, show (5 : Int32) * nI (bN b) = nI (5 * bN b) from pk_mul 5 _, nI_add]
        refine ⟨vp_in_nI (by omega) (by omega), ?_⟩
        rintro N rfl
        rw [nI_clamp (by omega), nI_clamp (by omega), f3.a (a := 19) (by omega) (by omega), hS v (by omega), nI_1]
        refine ihu (v + 1) _ (by omega) (f3.trans (KF.wI (by omega) (by omega) (by omega))) (fun e he => ?_) (fun w hw => ?_)
        · unfold WR
          rw [uI_n (b := 13) (by omega), uI_n (b := 12) (by omega), uI_n (b := 10) (by omega)]
          refine ⟨(hX3 e he).1, fun m hm => ?_, (hX3 e he).2.2.1, (hX3 e he).2.2.2⟩
          have hx := ((VR_exs hb).2 e he).2
          rw [exs_len] at he
          rw [uI_k (by omega)]
          exact (hX3 e (by rw [exs_len]; exact he)).2.1 m hm
        · by_cases e : w = v
          · subst e
            exact uI_s
          · rw [uI_k (by omega)]
            exact ho w (by omega)
    exact lp mm.length 0 M2 (Nat.zero_add _) KF.rf hX2 (fun w hw => absurd hw (Nat.not_lt_zero w))
  · rw [if_neg (fun z => c ⟨fun y => ?_, fun y => ?_⟩)] at k
    · exact br_t rfl (k M2 hP2 hX2 f12)
    · have := (nI_ltI (b := 1) (by omega) (by omega)).mp y
      omega
    · have := (nI_ltI (a := 5) (by omega) (by omega)).mp y
      omega
theorem M_agreeing_ok (h : YS M A) (hv : VA A) {x : Int32} {Q : Int64 → Mem → Prop} (k : ∀ M', YS M' A → Q (aAgreeing A x) M') : CallL zY m_M_agreeing [.ref 0, .int x] M Q := by
  unfold aAgreeing at k
  have hb3 := hv.2.1.1
  have hb6 := hv.2.1.2.1
  refine e_M_agreeing ?_
  rw [h.2.1.2.1]
  refine M_in_n (by omega) (fun i hi e => ?_) (fun z => ?_)
  · subst e
    rw [if_pos ⟨nI_pos (by omega), nI_lt hi (by omega)⟩, nI_clamp (by omega)] at k
    refine br_f (by decide) ?_
    rw [h.2.1.1]
    refine pk_eq (bN (aB A)) 0 (fun d => ?_) (fun d => ?_)
    · rw [if_pos d] at k
      exact k M h
    · rw [if_neg d] at k
      refine M_layBest_ok hv.2.1 (by omega) h.2.1 h.2.2.1 (fun M1 c0 f => ?_) (fun M1 c0 hP h24 hW f => ?_)
      · rw [if_neg (fun z => by
          have := z.1
          rw [mkL_nil c0] at this
          exact absurd this (by decide))] at k
        exact br_t rfl (k M1 (h.kt f))
      · have h1 := h.kt f
        refine br_f (by decide) (M_agreeingOf_ok hv.2.1 (by omega) c0 h1.2.1 h1.2.2.1 hP hW.2 hi (fun M2 _ _ f2 => ?_))
        exact k M2 (h1.kt f2)
  · rw [if_neg z] at k
    exact br_t rfl (k M h)
theorem lgc_lt0 {a : Nat} (ha : a < 2 ^ 63) : ¬ lg_cmp (lN a) 0 < 0 := fun z => by
  have := (lgc_ge (b := 0) ha (by omega)).mpr (Nat.zero_le _)
  rw [Int32.le_iff_toInt_le] at this
  rw [Int32.lt_iff_toInt_lt] at z
  have e : lg_cmp (lN a) (lN 0) = lg_cmp (lN a) 0 := rfl
  rw [e] at this
  omega
theorem M_asked_ok (h : YS M A) (hv : VA A) {Q : Int32 → Mem → Prop} (k : ∀ M', YS M' A → Q (aAsked A) M') : CallI zY m_M_asked [.ref 0] M Q := by
  unfold aAsked at k
  have hb3 := hv.2.1.1
  have hb6 := hv.2.1.2.1
  refine e_M_asked ?_
  rw [h.2.1.1]
  refine pk_eq (bN (aB A)) 0 (fun d => ?_) (fun d => ?_)
  · rw [if_pos d] at k
    exact k M h
  rw [if_neg d] at k
  refine M_layBest_ok hv.2.1 (by omega) h.2.1 h.2.2.1 (fun M1 c0 f => ?_) (fun M1 c0 hP h24 hW f => ?_)
  · rw [askF_nil c0] at k
    have k := k M1 (h.kt f)
    exact b_M_asked_24 ⟨fun _ => k, fun _ => br_t rfl k⟩
  have key : ∀ (j i : Nat) (M' : Mem) (f : Option Nat) (few : Nat), i + j = bM (aB A) → (∀ u, f = some u → u < 6) → few < 2 ^ 63 → askF (aB A) j i f few = askF (aB A) (bM (aB A)) 0 none 0 → YS M' A → PK M' (bp (aB A)) → WX M' (exs (aB A)) → wp zY m_M_asked (QI Q) 24 [(0, .ref 0), (1, .int (oI f)), (2, .long (lN few)), (4, .int 1), (5, .int (nI i))] [] M' := by
    intro j
    induction j with
    | zero =>
      intro i M' f few hi hf hw hE hY hP' hX'
      refine b_M_asked_24 ?_
      rw [hY.2.1.2.1]
      refine pk_le (bM (aB A)) i (fun _ => ?_) (fun z => absurd z (by omega))
      rw [← hE] at k
      exact k M' hY
    | succ j ih =>
      intro i M' f few hi hf hw hE hY hP' hX'
      have hi2 : i < bM (aB A) := by omega
      rw [askF] at hE
      refine b_M_asked_24 ?_
      rw [hY.2.1.2.1]
      refine pk_le (bM (aB A)) i (fun z => absurd z (by omega)) (fun _ => br_f (by decide) ?_)
      refine M_agreeingOf_ok hv.2.1 (by omega) c0 hY.2.1 hY.2.2.1 hP' hX' hi2 (fun M2 hP2 hX2 f2 => ?_)
      have hY2 := hY.kt f2
      rw [nI_1]
      by_cases g : okM (mkL (aB A) (bP (aB A) i))
      · rw [if_pos g]
        have hag := agr_lt hv.2.1 hi2 g
        refine br_f (lgc_lt0 hag) ?_
        cases f with
        | none =>
          rw [if_pos ⟨g, Or.inl rfl⟩] at hE
          exact br_t (by decide) (ih (i + 1) M2 (some i) (agr (aB A) i) (by omega) (fun u hu => by cases hu; omega) hag hE hY2 hP2 hX2)
        | some u =>
          have hu := hf u rfl
          refine br_f (nI_pos (by omega)) ⟨fun c => ?_, fun c => ?_⟩
          · have c2 := (lgc_ge hag hw).mp c
            rw [if_neg (fun z => z.2.elim (fun q => by cases q) (fun q => by omega))] at hE
            exact ih (i + 1) M2 (some u) few (by omega) hf hw hE hY2 hP2 hX2
          · have c2 : agr (aB A) i < few := Nat.lt_of_not_le (fun z => c ((lgc_ge hag hw).mpr z))
            rw [if_pos ⟨g, Or.inr c2⟩] at hE
            exact ih (i + 1) M2 (some i) (agr (aB A) i) (by omega) (fun u hu => by cases hu; omega) hag hE hY2 hP2 hX2
      · rw [if_neg g]
        rw [if_neg (fun z => g z.1)] at hE
        exact br_t (by decide) (ih (i + 1) M2 f few (by omega) hf hw hE hY2 hP2 hX2)
  exact key (bM (aB A)) 0 M1 none 0 (Nat.zero_add _) (fun u hu => by cases hu) (by omega) rfl (h.kt f) hP hW.2
end ZS2
