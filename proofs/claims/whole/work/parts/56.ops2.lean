/-! EditGuess: the plans, and what is asked -/
theorem lN_toInt63 {n : Nat} (h : n < 2 ^ 63) : (lN n).toInt = (n : Int) := lg_ofNat_toInt (by omega)
theorem lN_ne {n : Nat} (h : n < 2 ^ 63) : lN n ≠ -1 := fun q => by
  have e := congrArg Int64.toInt q
  rw [lN_toInt63 h] at e
  have z : (-1 : Int64).toInt = -1 := by decide
  omega
theorem lg_cmp_m1 (x : Int64) : lg_cmp x (-1) = 0 ↔ x = -1 := by
  unfold lg_cmp
  constructor
  · intro h
    split at h
    · exact absurd h (by decide)
    split at h
    · assumption
    · exact absurd h (by decide)
  · rintro rfl
    decide
theorem lgc_ge {a b : Nat} (ha : a < 2 ^ 63) (hb : b < 2 ^ 63) : 0 ≤ lg_cmp (lN a) (lN b) ↔ b ≤ a := by
  unfold lg_cmp
  have e1 : lN a > lN b ↔ b < a := by
    show lN b < lN a ↔ b < a
    rw [Int64.lt_iff_toInt_lt, lN_toInt63 ha, lN_toInt63 hb]
    omega
  have e2 : lN a = lN b ↔ a = b := by
    rw [← Int64.toInt_inj, lN_toInt63 ha, lN_toInt63 hb]
    omega
  by_cases c : b < a
  · rw [if_pos (e1.mpr c)]
    exact ⟨fun _ => by omega, fun _ => by decide⟩
  · rw [if_neg (fun z => c (e1.mp z))]
    by_cases d : a = b
    · rw [if_pos (e2.mpr d)]
      exact ⟨fun _ => by omega, fun _ => by decide⟩
    · rw [if_neg (fun z => d (e2.mp z))]
      exact ⟨fun z => absurd z (by decide), fun z => by omega⟩
theorem mkF_len {r0 l : LI} (hl : l.length ≤ 12) (hr : r0.length ≤ 5) : ∀ (ps : List T3) (acc : LI), (mkF r0 l ps acc).length ≤ acc.length + 12 * ps.length := by
  intro ps
  induction ps with
  | nil => exact fun acc => Nat.le_refl _
  | cons p ps ih =>
    intro acc
    rw [mkF]
    cases e : pm r0 l p with
    | none => exact Nat.zero_le _
    | some x =>
      have h1 := ih (acc ++ x)
      have h2 := pm_len hl hr e
      rw [List.length_append] at h1
      rw [List.length_cons]
      show (mkF r0 l ps (acc ++ x)).length ≤ _
      omega
theorem mkL_len {b : Bo} (hb : VB b) (h0 : 0 < bN b) {l : LI} (hl : l.length ≤ 12) : (mkL b l).length ≤ 60 := by
  have h := mkF_len hl (hb.2.2.1 0 h0).2.2.1 (bp b) []
  have h2 := (BP_facts hb h0).2.1
  have h3 : ([] : LI).length = 0 := rfl
  unfold mkL
  omega
theorem agr_lt {b : Bo} (hb : VB b) {i : Nat} (hi : i < bM b) (hm : okM (mkL b (bP b i))) : agr b i < 2 ^ 63 := by
  refine CN_lt (VR_app hb (hb.2.2.2 i hi).1 hm.2) ?_
  rw [List.length_append]
  exact Nat.succ_pos _
section ZO2
variable {M : Mem} {A : AA}
theorem E_plans_ok (h : XS M A) (hv : VA A) {Q : Int64 → Mem → Prop} (k : ∀ M', XS M' A → Q (aPlans A) M') : CallL zX m_E_plans [.ref 0] M Q := by
  unfold aPlans at k
  have hb3 := hv.2.1.1
  refine e_E_plans (Bk_examples_ok T_book h.1.2.1 (pk_eq (bN (aB A)) 0 (fun d => ?_) (fun d => ?_)))
  · rw [if_pos d] at k
    exact k M h
  · rw [if_neg d] at k
    refine E_guess_ok h hv (by omega) (fun M1 hK hF hC => ?_)
    rw [hF.2.2.2.1]
    exact k M1 ⟨hK, Or.inr hF, hC⟩
theorem g3_PV {b : Bo} (hv : VB b) (h0 : 0 < bN b) {i : Nat} (hi : i < (bp b).length) : PV (bR b 0) (g3 (bp b) i) := (BP_facts hv h0).1 _ (g3_mem hi)
theorem E_cost_ok (h : XS M A) (hv : VA A) {x : Int32} {Q : Int32 → Mem → Prop} (k : ∀ M', XS M' A → Q (aCost A x) M') : CallI zX m_E_cost [.ref 0, .int x] M Q := by
  unfold aCost at k
  have hb3 := hv.2.1.1
  refine e_E_cost ⟨fun c => ?_, fun c => ?_⟩
  · rw [if_pos c] at k
    refine Bk_examples_ok T_book h.1.2.1 (pk_eq (bN (aB A)) 0 (fun d => ?_) (fun d => ?_))
    · rw [if_pos d] at k
      exact k M h
    · rw [if_neg d] at k
      refine E_guess_ok h hv (by omega) (fun M1 hK hF hC => ?_)
      have hX : XS M1 A := ⟨hK, Or.inr hF, hC⟩
      have k := k M1 hX
      have bf := BP_facts hv.2.1 (by omega)
      have hr := (hv.2.1.2.2.1 0 (by omega)).2.2.1
      have hP := hF.2.2.2.2
      refine Pl_many_ok hP (pk_eq (bp (aB A)).length 0 (fun e => ?_) (fun e => ?_))
      · rw [if_pos e] at k
        exact k
      · rw [if_neg e] at k
        refine ⟨fun c0 => ?_, fun c0 => ⟨fun c1 => ?_, fun c1 => ?_⟩⟩
        · rw [if_pos c0] at k
          refine Pl_many_ok hP ⟨fun c1 => ?_, fun c1 => ?_⟩
          · rw [if_pos c1] at k
            exact k
          · rw [if_neg c1] at k
            obtain ⟨j, hj, rfl⟩ := nI_of (x := x) (fun z => by rw [Int32.le_iff_toInt_le] at c0; rw [Int32.lt_iff_toInt_lt] at z; omega)
            rw [nI_leI (by omega) hj] at c1
            rw [nI_clamp hj] at k
            refine Pl_at_ok (by omega) ⟨T_pieces j (by omega), Pc_price_ok (T_pieces j (by omega)) (g3_PV hv.2.1 (by omega) (by omega)) hr (hP.2 j (by omega)) k⟩
        · rw [if_neg c0, if_pos c1] at k
          exact Pl_price_ok hP bf.2.1 bf.1 hr k
        · rw [if_neg c0, if_neg c1] at k
          exact Pl_many_ok hP k
  · rw [if_neg c] at k
    exact k M h
theorem E_piece_ok (h : XS M A) (hv : VA A) {x y : Int32} {Q : Int32 → Mem → Prop} (k : ∀ M', XS M' A → Q (aPiece A x y) M') : CallI zX m_E_piece [.ref 0, .int x, .int y] M Q := by
  unfold aPiece at k
  have hb3 := hv.2.1.1
  refine e_E_piece (Bk_examples_ok T_book h.1.2.1 (pk_eq (bN (aB A)) 0 (fun d => ?_) (fun d => ?_)))
  · rw [if_pos d] at k
    exact k M h
  · rw [if_neg d] at k
    refine E_guess_ok h hv (by omega) (fun M1 hK hF hC => ?_)
    have hX : XS M1 A := ⟨hK, Or.inr hF, hC⟩
    have k := k M1 hX
    have bf := BP_facts hv.2.1 (by omega)
    have hr := (hv.2.1.2.2.1 0 (by omega)).2.2.1
    have hP := hF.2.2.2.2
    refine ⟨fun c => ?_, fun c => Pl_many_ok hP ⟨fun c1 => ⟨fun c2 => ?_, fun c2 => ⟨fun c3 => ?_, fun c3 => ?_⟩⟩, fun c1 => ?_⟩⟩
    · rw [if_pos c] at k
      exact k
    · rw [if_neg c, if_pos c1, if_pos c2] at k
      exact k
    · rw [if_neg c, if_pos c1, if_neg c2, if_pos c3] at k
      obtain ⟨j, hj, rfl⟩ := nI_of c
      rw [nI_ltI hj (by omega)] at c1
      rw [nI_clamp hj] at k
      exact Pl_at_ok (by omega) ⟨T_pieces j (by omega), Pc_tells_ok (T_pieces j (by omega)) (g3_PV hv.2.1 (by omega) c1) hr (hP.2 j c1) k⟩
    · rw [if_neg c, if_pos c1, if_neg c2, if_neg c3] at k
      exact k
    · rw [if_neg c, if_neg c1] at k
      exact k
theorem Mk_runIndex_ok {x0 x1 : Int32} {Q : Int32 → Mem → Prop} (k : Q (rix x0 x1) M) : CallI zX m_Mk_runIndex [.int x0, .int x1] M Q := by
  unfold rix at k
  refine e_Mk_runIndex ⟨fun c => ?_, fun c => ⟨fun d => ?_, fun d => ⟨fun e => ?_, fun e => ⟨fun f => ?_, fun f => ?_⟩⟩⟩⟩
  · rw [if_pos c] at k
    exact k
  · rw [if_neg c, if_pos d] at k
    exact k
  · rw [if_neg c, if_neg d, if_pos e] at k
    exact k
  · rw [if_neg c, if_neg d, if_neg e, if_pos f] at k
    exact k
  · rw [if_neg c, if_neg d, if_neg e, if_neg f] at k
    exact k
theorem Mk_index_ok {x : Int32} {Q : Int32 → Mem → Prop} (k : Q (oI (idx x)) M) : CallI zX m_Mk_index [.int x] M Q := by
  rw [← mix_ok] at k
  unfold mix at k
  refine e_Mk_index ⟨fun c => ⟨fun d => ⟨fun e => ⟨fun f => ?_, fun f => ⟨fun g => ?_, fun g => ?_⟩⟩, fun e => ⟨fun f => ?_, fun f => ?_⟩⟩, fun d => ?_⟩, fun c => ?_⟩
  · rw [if_pos c, if_pos d, if_pos e, if_pos f] at k
    exact k
  · rw [if_pos c, if_pos d, if_pos e, if_neg f, if_pos g] at k
    exact k
  · rw [if_pos c, if_pos d, if_pos e, if_neg f, if_neg g] at k
    exact k
  · rw [if_pos c, if_pos d, if_neg e, if_pos f] at k
    exact k
  · rw [if_pos c, if_pos d, if_neg e, if_neg f] at k
    exact k
  · rw [if_pos c, if_neg d] at k
    exact Mk_runIndex_ok k
  · rw [if_neg c] at k
    exact Mk_runIndex_ok k
theorem E_place_ok (h : XS M A) (hv : VA A) {x : Int32} {Q : Int32 → Mem → Prop} (k : Q (aPlace A x) M) : CallI zX m_E_place [.ref 0, .int x] M Q := by
  unfold aPlace at k
  refine e_E_place (E_lineFault_ok h.1 hv ⟨fun c => ?_, fun c => ?_⟩)
  · rw [if_pos c] at k
    refine Mk_index_ok ?_
    cases e : idx x with
    | none =>
      rw [e] at k
      exact br_f (by decide) k
    | some m =>
      rw [e] at k
      have hm := (idx_spec e).1
      refine pk_le 0 m (fun _ => Mk_placeIn_ok T_pad (by omega) h.1.1 hv.1 hm k) (fun q => absurd q (by omega))
  · rw [if_neg c] at k
    exact k
theorem E_makes_ok (h : XS M A) (hv : VA A) {x : Int32} {Q : Int32 → Mem → Prop} (k : ∀ M', XS M' A → Q (aMakes A x) M') : CallI zX m_E_makes [.ref 0, .int x] M Q := by
  unfold aMakes at k
  have hb3 := hv.2.1.1
  refine e_E_makes (E_lineFault_ok h.1 hv ⟨fun c => ?_, fun c => ?_⟩)
  · rw [if_pos c] at k
    refine Bk_examples_ok T_book h.1.2.1 (pk_eq (bN (aB A)) 0 (fun d => ?_) (fun d => ?_))
    · rw [if_pos d] at k
      exact k M h
    · rw [if_neg d] at k
      refine E_guess_ok h hv (by omega) (fun M1 hK hF hC => ?_)
      have bf := BP_facts hv.2.1 (by omega)
      have hr := (hv.2.1.2.2.1 0 (by omega)).2.2.1
      have hP := hF.2.2.2.2
      refine Pl_many_ok hP (pk_eq (bp (aB A)).length 0 (fun e => ?_) (fun e => ?_))
      · rw [if_pos e] at k
        exact k M1 ⟨hK, Or.inr hF, hC⟩
      · rw [if_neg e] at k
        refine Pl_applyTo_ok hP bf.2.1 bf.1 hr T_pad (by omega) hK.1 (liF_ok c).1 hv.1 (by omega) (fun M2 hS f2 => ?_)
        have k := k M2 ⟨hK.fr f2 (by omega), Or.inr (hF.fr hv.2.1 f2 (by omega)), hC.fr f2 (by omega)⟩
        have hmk : (mkL (aB A) (aL A)).length ≤ 60 := mkL_len hv.2.1 (by omega) (liF_ok c).1
        refine ⟨fun c1 => ?_, fun c1 => ⟨fun c2 => ?_, fun c2 => Sg_many_ok T_made hS ⟨fun c3 => ?_, fun c3 => ?_⟩⟩⟩
        · rw [if_pos c1] at k
          exact Sg_many_ok T_made hS k
        · rw [if_neg c1, if_pos c2] at k
          exact k
        · rw [if_neg c1, if_neg c2, if_pos (show nI (mkL (aB A) (aL A)).length ≤ x from c3)] at k
          exact k
        · rw [if_neg c1, if_neg c2, if_neg (show ¬ nI (mkL (aB A) (aL A)).length ≤ x from c3)] at k
          obtain ⟨j, hj, rfl⟩ := nI_of c2
          rw [nI_clamp hj] at k
          exact Sg_at_ok T_made (by omega) hS hmk hj k
  · rw [if_neg c] at k
    exact k M h
theorem E_makesResult_ok (hK : XK M A) (hF : FO M (aB A)) (hC : CA M (aB A)) (hv : VA A) {i : Nat} (hi : i < bM (aB A)) {Q : Int32 → Mem → Prop} (k : ∀ M', XK M' A → FO M' (aB A) → CA M' (aB A) → SG M' 156 (mkL (aB A) (bP (aB A) i)) → Q (if okM (mkL (aB A) (bP (aB A) i)) then 1 else 0) M') : CallI zX m_E_makesResult [.ref 0, .int (nI i)] M Q := by
  have h6 := hv.2.1.2.1
  have bf := BP_facts hv.2.1 hF.2.1
  have hr := (hv.2.1.2.2.1 0 hF.2.1).2.2.1
  have hl := (hv.2.1.2.2.2 i hi).1
  have hmk : (mkL (aB A) (bP (aB A) i)).length ≤ 60 := mkL_len hv.2.1 hF.2.1 hl
  refine e_E_makesResult (Bk_line_ok T_book (by omega) ⟨12, T_li T_book (by omega), ?_⟩)
  refine Pl_applyTo_ok hF.2.2.2.2 bf.2.1 bf.1 hr (T_li T_book (by omega)) (by omega) (hK.2.1.2.2.2 i (by omega)).1 hl hl (by omega) (fun M2 hS f2 => ?_)
  have k := k M2 (hK.fr f2 (by omega)) (hF.fr hv.2.1 f2 (by omega)) (hC.fr f2 (by omega)) hS
  refine Sg_many_ok T_made hS (pk_lt (mkL (aB A) (bP (aB A) i)).length 1 (fun c => ?_) (fun c => Sg_many_ok T_made hS (pk_lt 5 (mkL (aB A) (bP (aB A) i)).length (fun d => ?_) (fun d => ?_))))
  · rw [if_neg (fun z => absurd z.1 (by omega))] at k
    exact k
  · rw [if_neg (fun z => absurd z.2 (by omega))] at k
    exact k
  · rw [if_pos ⟨c, d⟩] at k
    exact k
theorem E_countAgreeing_ok (hK : XK M A) (hF : FO M (aB A)) (hC : CA M (aB A)) (hv : VA A) {i : Nat} (hi : i < bM (aB A)) (hm : okM (mkL (aB A) (bP (aB A) i))) (hS : SG M 156 (mkL (aB A) (bP (aB A) i))) {Q : Int64 → Mem → Prop} (k : ∀ M', XK M' A → FO M' (aB A) → CA M' (aB A) → Q (lN (agr (aB A) i)) M') : CallL zX m_E_countAgreeing [.ref 0, .int (nI i)] M Q := by
  have h6 := hv.2.1.2.1
  have h3 := hv.2.1.1
  have bf := BP_facts hv.2.1 hF.2.1
  have hl := (hv.2.1.2.2.2 i hi).1
  have hVR := VR_app hv.2.1 hl hm.2
  have hlen : 0 < (exs (aB A) ++ [(bP (aB A) i, mkL (aB A) (bP (aB A) i))]).length := by rw [List.length_append]; exact Nat.succ_pos _
  refine e_E_countAgreeing (pk_lt i 0 (fun q => absurd q (by omega)) (fun _ => pk_lt i 6 (fun _ => ⟨vp_in_nI (by omega) (by omega), ?_⟩) (fun q => absurd q (by omega))))
  rw [nI_clamp (by omega)]
  rcases hC i (by omega) with c | c
  · refine br_t ((lg_cmp_m1 _).mpr c) ?_
    refine Bk_line_ok T_book (by omega) ⟨12, T_li T_book (by omega), ?_⟩
    refine Ft_addRow_ok (by rw [exs_len]; exact h3) hF.2.2.1 (T_li T_book (by omega)) (by omega) (hK.2.1.2.2.2 i (by omega)).1 hl hl (by omega) T_made (by omega) hS hm.2 (by have := hm.2; omega) (by omega) (fun M1 hF1 f1 => ?_)
    refine Ft_count_ok hVR hlen hF1 (fun M2 hW hF2 hG f2 => ?_)
    rw [dp_le hVR hlen (Nat.le_refl _)]
    refine ⟨vp_in_nI (by omega) (by omega), ?_⟩
    rintro N rfl
    have f12 : FR 46 134 M M2 := f1.trans (f2.mono (by omega) (by omega))
    have f3 : FR 159 160 M2 (uL M2 159 i (lN (WW (exs (aB A) ++ [(bP (aB A) i, mkL (aB A) (bP (aB A) i))]) (enT (exs (aB A) ++ [(bP (aB A) i, mkL (aB A) (bP (aB A) i))]))))) := FR.uL (by omega) (by omega)
    have v3 : (uL M2 159 i (lN (WW (exs (aB A) ++ [(bP (aB A) i, mkL (aB A) (bP (aB A) i))]) (enT (exs (aB A) ++ [(bP (aB A) i, mkL (aB A) (bP (aB A) i))]))))).2 159 i = lN (agr (aB A) i) := uL_s
    have w3 : ∀ j, j ≠ i → (uL M2 159 i (lN (WW (exs (aB A) ++ [(bP (aB A) i, mkL (aB A) (bP (aB A) i))]) (enT (exs (aB A) ++ [(bP (aB A) i, mkL (aB A) (bP (aB A) i))]))))).2 159 j = M.2 159 j := fun j hj => by rw [uL_k hj, (f12 159 (by omega)).2]
    generalize uL M2 159 i (lN (WW (exs (aB A) ++ [(bP (aB A) i, mkL (aB A) (bP (aB A) i))]) (enT (exs (aB A) ++ [(bP (aB A) i, mkL (aB A) (bP (aB A) i))])))) = M3 at f3 v3 w3
    have hF3 := hF2.fr2 hVR.1 f3 (by omega)
    refine e_Ft_dropRow ?_
    rw [hF3.1, List.length_append, exs_len]
    refine pk_le (bN (aB A) + [(bP (aB A) i, mkL (aB A) (bP (aB A) i))].length) 0 (fun q => absurd q (by rw [List.length_singleton]; omega)) (fun _ => ?_) rfl rfl (by rw [List.length_singleton]; omega)
    rintro N rfl
    have f4 : FR 46 47 M3 (uI M3 46 8 (nI (bN (aB A) + [(bP (aB A) i, mkL (aB A) (bP (aB A) i))].length) - 1)) := FR.uI (by omega) (by omega)
    refine ⟨vp_in_nI (by omega) (by omega), ?_⟩
    rw [uI_2, v3]
    refine k _ (((hK.fr f12 (by omega)).fr f3 (by omega)).fr f4 (by omega)) ⟨?_, hF.2.1, ⟨?_, fun j hj => ?_⟩, ?_, ?_⟩ (fun j hj => ?_)
    · rw [(f4 0 (by omega)).1, (f3 0 (by omega)).1, (f12 0 (by omega)).1]
      exact hF.1
    · rw [uI_s, exs_len, List.length_singleton]
      exact pk_sub (a := bN (aB A) + 1) (b := 1) (by omega)
    · have := (hF3.2 j (by rw [List.length_append]; omega)).fr f4 (by omega)
      rw [ln_app1 hj, rt_app1 hj] at this
      exact this
    · rw [(f4 0 (by omega)).2, (f3 0 (by omega)).2, (f12 0 (by omega)).2]
      exact hF.2.2.2.1
    · exact ((hF.2.2.2.2.fr bf.2.1 f12 (by omega)).fr bf.2.1 f3 (by omega)).fr bf.2.1 f4 (by omega)
    · rw [uI_2]
      by_cases e : j = i
      · subst e
        exact Or.inr ⟨hi, hm, v3⟩
      · rw [w3 j e]
        exact hC j hj
  · refine br_f (fun z => lN_ne (agr_lt hv.2.1 hi hm) (c.2.2.symm.trans ((lg_cmp_m1 _).mp z))) ⟨vp_in_nI (by omega) (by omega), ?_⟩
    rw [c.2.2]
    exact k M hK hF hC
theorem E_accept_ok (h : XS M A) (hv : VA A) {x : Int32} {Q : Int32 → Mem → Prop} (k : ∀ M', XS M' (aAccept A x).2 → Q (aAccept A x).1 M') : CallI zX m_E_accept [.ref 0, .int x] M Q := by
  unfold aAccept at k
  have hb3 := hv.2.1.1
  have hb6 := hv.2.1.2.1
  refine e_E_accept (Bk_knows_ok T_book h.1.2.1 (fun c => br_f (by decide) ?_) (fun c => br_t rfl ?_))
  · rw [if_pos (show ¬ x < 0 ∧ x < nI (bM (aB A)) from c)] at k
    refine Bk_examples_ok T_book h.1.2.1 (pk_eq (bN (aB A)) 0 (fun d => ?_) (fun d => ?_))
    · rw [if_pos d] at k
      exact k M h
    · rw [if_neg d] at k
      have e := kno_nat hb6 c
      generalize x.toNatClampNeg = j at k e
      rw [e.2]
      have hl := (hv.2.1.2.2.2 j e.1).1
      refine E_guess_ok h hv (by omega) (fun M1 hK hF hC => E_makesResult_ok hK hF hC hv e.1 (fun M2 hK2 hF2 hC2 hS2 => ?_))
      by_cases g : okM (mkL (aB A) (bP (aB A) j))
      · rw [if_pos g] at k
        rw [if_pos g]
        refine br_f (by decide) (Bk_examples_ok T_book hK2.2.1 (pk_lt (bN (aB A)) 3 (fun d2 => ?_) (fun d2 => ?_)))
        · rw [if_pos d2] at k
          have hj6 : j < 6 := by omega
          have hL := hK2.2.1.2.2.2 j hj6
          refine Bk_line_ok T_book hj6 ⟨12, T_li T_book hj6, Sg_many_ok (T_li T_book hj6) hL.1 ?_⟩
          refine Bk_addExample_ok (fr0 := 0) T_book hK2.2.1 d2 (T_li T_book hj6) (by omega) hL.1 hl (by omega) T_made (by omega) hS2 (by have := g.2; omega) (by omega) hl (Nat.zero_le _) g.2 (fun M3 hB3 f3 => ?_)
          rw [List.take_of_length_le (Nat.le_refl _), List.drop_zero] at hB3
          have hB3 : BX M3 4 (addE (aB A) (bP (aB A) j) (mkL (aB A) (bP (aB A) j))) := hB3
          refine Bk_dropLine_ok T_book hB3 hb6 e.1 (fun M4 hB4 f4 => ?_)
          exact E_examplesChanged_ok ((hK2.bk f3 hB3).bk f4 hB4) (fun M5 hX => Bk_examples_ok T_book hX.1.2.1 (k M5 hX))
        · rw [if_neg (by omega)] at k
          exact k M2 ⟨hK2, Or.inr hF2, hC2⟩
      · rw [if_neg g] at k
        rw [if_neg g]
        exact br_t rfl (k M2 ⟨hK2, Or.inr hF2, hC2⟩)
  · rw [if_neg (show ¬ (¬ x < 0 ∧ x < nI (bM (aB A))) from c)] at k
    exact k M h
theorem E_agreeing_ok (h : XS M A) (hv : VA A) {x : Int32} {Q : Int64 → Mem → Prop} (k : ∀ M', XS M' A → Q (aAgreeing A x) M') : CallL zX m_E_agreeing [.ref 0, .int x] M Q := by
  unfold aAgreeing at k
  have hb3 := hv.2.1.1
  have hb6 := hv.2.1.2.1
  refine e_E_agreeing (Bk_knows_ok T_book h.1.2.1 (fun c => br_f (by decide) ?_) (fun c => br_t rfl ?_))
  · rw [if_pos (show ¬ x < 0 ∧ x < nI (bM (aB A)) from c)] at k
    refine Bk_examples_ok T_book h.1.2.1 (pk_eq (bN (aB A)) 0 (fun d => ?_) (fun d => ?_))
    · rw [if_pos d] at k
      exact k M h
    · rw [if_neg d] at k
      have e := kno_nat hb6 c
      generalize x.toNatClampNeg = j at k e
      rw [e.2]
      refine E_guess_ok h hv (by omega) (fun M1 hK hF hC => E_makesResult_ok hK hF hC hv e.1 (fun M2 hK2 hF2 hC2 hS2 => ?_))
      by_cases g : okM (mkL (aB A) (bP (aB A) j))
      · rw [if_pos g] at k
        rw [if_pos g]
        exact br_f (by decide) (E_countAgreeing_ok hK2 hF2 hC2 hv e.1 g hS2 (fun M3 hK3 hF3 hC3 => k M3 ⟨hK3, Or.inr hF3, hC3⟩))
      · rw [if_neg g] at k
        rw [if_neg g]
        exact br_t rfl (k M2 ⟨hK2, Or.inr hF2, hC2⟩)
  · rw [if_neg (show ¬ (¬ x < 0 ∧ x < nI (bM (aB A))) from c)] at k
    exact k M h
theorem E_asked_ok (h : XS M A) (hv : VA A) {Q : Int32 → Mem → Prop} (k : ∀ M', XS M' A → Q (aAsked A) M') : CallI zX m_E_asked [.ref 0] M Q := by
  unfold aAsked at k
  have hb3 := hv.2.1.1
  have hb6 := hv.2.1.2.1
  refine e_E_asked (Bk_examples_ok T_book h.1.2.1 (pk_eq (bN (aB A)) 0 (fun d => ?_) (fun d => ?_)))
  · rw [if_pos d] at k
    exact k M h
  rw [if_neg d] at k
  have key : ∀ (j i : Nat) (M' : Mem) (f : Option Nat) (few : Nat), i + j = bM (aB A) → (∀ u, f = some u → u < 6) → few < 2 ^ 63 → askF (aB A) j i f few = askF (aB A) (bM (aB A)) 0 none 0 → XK M' A → FO M' (aB A) → CA M' (aB A) → wp zX m_E_asked (QI Q) 25 [(0, .ref 0), (1, .int (oI f)), (2, .long (lN few)), (4, .int (nI i))] [] M' := by
    intro j
    induction j with
    | zero =>
      intro i M' f few hi hf hw hE hK hF hC
      have hi2 : i = bM (aB A) := by omega
      subst hi2
      refine b_E_asked_25 (Bk_pooled_ok T_book hK.2.1 (br_t (Int32.le_refl _) ?_))
      rw [← hE] at k
      exact k M' ⟨hK, Or.inr hF, hC⟩
    | succ j ih =>
      intro i M' f few hi hf hw hE hK hF hC
      have hi2 : i < bM (aB A) := by omega
      rw [askF] at hE
      refine b_E_asked_25 (Bk_pooled_ok T_book hK.2.1 (pk_le (bM (aB A)) i (fun q => absurd q (by omega)) (fun _ => ?_)))
      refine E_makesResult_ok hK hF hC hv hi2 (fun M2 hK2 hF2 hC2 hS2 => ?_)
      rw [nI_1]
      by_cases g : okM (mkL (aB A) (bP (aB A) i))
      · rw [if_pos g]
        refine br_f (by decide) (E_countAgreeing_ok hK2 hF2 hC2 hv hi2 g hS2 (fun M3 hK3 hF3 hC3 => ?_))
        have hag := agr_lt hv.2.1 hi2 g
        cases f with
        | none =>
          rw [if_pos ⟨g, Or.inl rfl⟩] at hE
          exact br_t rfl (ih (i + 1) M3 (some i) (agr (aB A) i) (by omega) (fun u hu => by cases hu; omega) hag hE hK3 hF3 hC3)
        | some u =>
          have hu := hf u rfl
          refine br_f (nI_ne6 (by omega)) ⟨fun c => ?_, fun c => ?_⟩
          · have c2 := (lgc_ge hag hw).mp c
            rw [if_neg (fun z => z.2.elim (fun q => by cases q) (fun q => by omega))] at hE
            exact ih (i + 1) M3 (some u) few (by omega) hf hw hE hK3 hF3 hC3
          · have c2 : agr (aB A) i < few := Nat.lt_of_not_le (fun z => c ((lgc_ge hag hw).mpr z))
            rw [if_pos ⟨g, Or.inr c2⟩] at hE
            exact ih (i + 1) M3 (some i) (agr (aB A) i) (by omega) (fun u hu => by cases hu; omega) hag hE hK3 hF3 hC3
      · rw [if_neg g]
        rw [if_neg (fun z => g z.1)] at hE
        exact br_t rfl (ih (i + 1) M2 f few (by omega) hf hw hE hK2 hF2 hC2)
  exact E_guess_ok h hv (by omega) (fun M1 hK hF hC => key (bM (aB A)) 0 M1 none 0 (Nat.zero_add _) (fun u hu => by cases hu) (by omega) rfl hK hF hC)
end ZO2
