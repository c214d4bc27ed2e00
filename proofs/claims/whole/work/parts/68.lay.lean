/-! The reference lays the best plan, in all -/
section ZR8
variable {M : Mem} {rs : RS}
theorem M_layBest_ok {b : Bo} (hb : VB b) (h0 : 0 < bN b) (hB : BM M b) (hC : CD M) {Q : Int32 → Mem → Prop}
    (kN : ∀ M', CN (exs b) = 0 → KF 9 20 [12, 17, 23, 24] M M' → Q 0 M')
    (kY : ∀ M', CN (exs b) ≠ 0 → PK M' (bp b) → M'.1 0 24 = nI (ls (bp b) pcost) → WK M' (exs b) → KF 9 20 [12, 17, 23, 24] M M' → Q 1 M') : CallI zY m_M_layBest [.ref 0] M Q := by
  have hv := VR_exs hb
  have hl0 : 0 < (exs b).length := by rw [exs_len]; exact h0
  have hok : OKR (exs b) := fun i hi => by
    rw [exs_len] at hi
    rw [rt_exs hi]
    exact (hb.2.2.1 i hi).2.2.2
  refine e_M_layBest (M_layExamples_ok hb hB hC (fun M1 hW1 f1 => M_count_ok hv hl0 hok hW1 (fun M2 hA2 f2 e2 => ?_)))
  have hW2 : WK M2 (exs b) := hW1.m1 e2
  have hC1 : CD M1 := hC.kt f1 (by omega)
  have hC2 : CD M2 := hC1.kt f2 (by omega)
  by_cases c0 : CN (exs b) = 0
  · exact br_t ((lg_cmp_0 _).mpr ((lN_0 (CN_lt hv hl0)).mpr c0)) (kN M2 c0 ((f1.mono (by omega) (by omega)).trans (f2.mono (by omega) (by omega))))
  refine br_f (fun z => c0 ((lN_0 (CN_lt hv hl0)).mp ((lg_cmp_0 _).mp z))) (M_rows_ok hv hW2 (M_end_ok hv hW2 ?_))
  refine M_weigh_ok hv hl0 hok c0 rfl ⟨hW2, hC2, hA2, KF.rf⟩ (fun M3 L hK3 hL3 hLST hL0 hLb => ?_)
  have hL0e : L 0 = Lc (exs b) 0 := LS_uniq hv hl0 hLST (Lc_LS hv hl0) (enT (exs b)) 0 (by omega) (by rw [WW_0]; omega)
  have hall : ∀ t, WW (exs b) t ≠ 0 → L t = Lc (exs b) t := fun t ht => LS_uniq hv hl0 hLST (Lc_LS hv hl0) (enT (exs b)) t (by omega) ht
  have hL0b := LS_0 hv hl0 hLST c0
  have hW00 : WW (exs b) 0 ≠ 0 := by rw [WW_0]; omega
  have hbp : bp b = tlF (exs b) L (enT (exs b)) 5 0 [] := by
    rw [bp, if_neg c0, BP]
    exact (tlF_congr hv hl0 hall _ 5 0 [] hW00 hL0b).symm
  have hcost : ls (bp b) pcost = L 0 := by
    rw [bp, if_neg c0, (BP_spec hv hl0 c0).1, hL0e]
  have hpr := pow_rows hv
  have he := enT_b hv
  refine b_M_layBest_27 (br_t (by decide) ⟨vp_in_nI (n := 0) (by omega) (by omega), ?_⟩)
  rintro N rfl N2 rfl
  rw [show (0 : Int32).toNatClampNeg = 0 from rfl, hL3 0 (Nat.pow_pos (by omega))]
  have key : ∀ (k s : Nat) (ps : List T3) (M' : Mem), 5 ≤ k + s % 6 → WW (exs b) s ≠ 0 → L s < 1000000 → ps.length ≤ s % 6 → PK M' ps → M'.1 0 24 = nI (L 0) → KF 16 19 [23, 24] M3 M' → tlF (exs b) L (enT (exs b)) k s ps = tlF (exs b) L (enT (exs b)) 5 0 [] → wp zY m_M_layBest (QI Q) 288 [(0, .ref 0), (2, .int (nI (enT (exs b)))), (3, .int (nI s))] [] M' := by
    intro k
    induction k with
    | zero =>
      intro s ps M' hk hw hl hpl hP h24 f hE
      have hVS := WW_V hv hl0 hw
      have hse := VS_le hVS
      refine b_M_layBest_288 (pk_eq s (enT (exs b)) (fun z => ?_) (fun z => ?_))
      · refine kY M' c0 (by rw [hbp, ← hE]; exact hP) (by rw [hcost]; exact h24) (hK3.1.kt f (by omega)) ?_
        exact (((f1.mono (by omega) (by omega)).trans (f2.mono (by omega) (by omega))).trans (hK3.2.2.2.mono (by omega) (by omega))).trans (f.mono (by omega) (by omega))
      · exfalso
        obtain ⟨FC, FX, _, _, hne, hc, ht⟩ := tl_facts hv hl0 hLST hw (by omega) hl ps
        cases FC with
        | some mt =>
          obtain ⟨m, t⟩ := mt
          have := (hc m t rfl).2.2.1
          omega
        | none =>
          cases FX with
          | some mt =>
            obtain ⟨m, t⟩ := mt
            have := (ht m t rfl rfl).2.2.1
            omega
          | none => exact hne rfl rfl
    | succ k ih =>
      intro s ps M' hk hw hl hpl hP h24 f hE
      have hVS := WW_V hv hl0 hw
      have hse := VS_le hVS
      refine b_M_layBest_288 (pk_eq s (enT (exs b)) (fun z => ?_) (fun z => ?_))
      · rw [tlF, if_neg (by omega)] at hE
        refine kY M' c0 (by rw [hbp, ← hE]; exact hP) (by rw [hcost]; exact h24) (hK3.1.kt f (by omega)) ?_
        exact (((f1.mono (by omega) (by omega)).trans (f2.mono (by omega) (by omega))).trans (hK3.2.2.2.mono (by omega) (by omega))).trans (f.mono (by omega) (by omega))
      · obtain ⟨FC, FX, hFC, hFX, hne, hc, ht⟩ := tl_facts hv hl0 hLST hw (by omega) hl ps
        have hlen : ps.length < 5 := by
          clear hFC hFX
          cases FC with
          | some mt =>
            obtain ⟨m, t⟩ := mt
            have := (hc m t rfl).2.2.1
            omega
          | none =>
            cases FX with
            | some mt =>
              obtain ⟨m, t⟩ := mt
              have := (ht m t rfl rfl).2.2.1
              omega
            | none => exact absurd rfl (hne rfl)
        have hW4 := hK3.1.kt f (by omega)
        have hC4 := hK3.2.1.kt f (by omega)
        have hL4 : ∀ t, t < 6 ^ (exs b).length → M'.1 15 t = nI (L t) ∧ L t ≤ 1000000 := fun t ht => ⟨by rw [f.a (a := 15) (by omega) (by omega)]; exact hL3 t ht, hLb t ht⟩
        have st : ∀ p t M4, NX (exs b) L s ps p t → PK M4 (ps ++ [p]) → KF 16 19 [23] M' M4 → wp zY m_M_layBest (QI Q) 288 [(0, .ref 0), (2, .int (nI (enT (exs b)))), (3, .int (nI t))] [] M4 := by
          clear hFC hFX
          intro p t M4 nx hP4 f4
          exact ih t _ M4 (by have := nx.2.2.1; omega) nx.2.1 nx.2.2.2 (by rw [List.length_append, List.length_singleton]; have := nx.2.2.1; omega) hP4 (by rw [f4.z (k := 24)]; exact h24) (f.trans (f4.mono (by omega) (by omega))) ((nx.1 k).symm.trans hE)
        exact M_goOn_ok hv hl0 hok hW4 hC4 hL4 hVS hP hlen hFC hFX hne (fun m t M4 x hP4 f4 => st _ t M4 (hc m t x) hP4 f4) (fun n t M4 x y hP4 f4 => st _ t M4 (ht n t x y) hP4 f4)
  refine key 5 0 [] _ (by omega) hW00 hL0b (Nat.zero_le _) ⟨uI_s, fun i hi => absurd hi (Nat.not_lt_zero i)⟩ ?_ (KF.trans KF.wz KF.wz) rfl
  rw [uI_k (by omega), uI_s]
end ZR8
