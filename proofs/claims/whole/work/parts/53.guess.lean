/-! Guessing: the examples become rows, are counted, weighed and told -/
theorem FT.fr3 {M M' : Mem} {rs : RS} (h : FT M rs) (hv : rs.length ≤ 4) {lo hi : Nat} (f : FR lo hi M M') (h1 : hi ≤ 46 ∨ 134 ≤ lo) : FT M' rs := h.fr2 hv f h1
theorem CA.fr {M M' : Mem} {b : Bo} (h : CA M b) {lo hi : Nat} (f : FR lo hi M M') (h1 : hi ≤ 159 ∨ 160 ≤ lo) : CA M' b := fun j hj => by
  rw [(f 159 (by omega)).2]
  exact h j hj
theorem take_exs {b : Bo} {i : Nat} (h : i < bN b) : (exs b).take (i + 1) = (exs b).take i ++ [(bE b i, bR b i)] := by
  rw [List.take_succ, exs, List.getElem?_map, List.getElem?_range h]
  rfl
section ZGU
variable {M : Mem}
theorem Ft_addRow_ok {rs : RS} (hv : rs.length ≤ 3) (hF : FT M rs) {p np : Nat} (tp : T_Sg zX p np) (hnp : np < 100) {l : LI} (hL : SG M p l) (hl : l.length ≤ 12) (hlp : l.length ≤ np) (hp : p + 3 ≤ 46 ∨ 134 ≤ p) {q nq : Nat} (tq : T_Sg zX q nq) (hnq : nq < 100) {r : LI} (hR : SG M q r) (hr : r.length ≤ 5) (hrq : r.length ≤ nq) (hq : q + 3 ≤ 46 ∨ 134 ≤ q) {Q : Mem → Prop} (k : ∀ M', FT M' (rs ++ [(l, r)]) → FR 46 134 M M' → Q M') : CallV zX m_Ft_addRow [.ref 46, .ref p, .ref q] M Q := by
  refine e_Ft_addRow tp tq ?_
  rw [hF.1]
  refine pk_le 4 rs.length (fun z => absurd z (by omega)) (fun _ => ⟨vp_in_nI (by omega) (by omega), ?_⟩)
  rw [nI_clamp (by omega)]
  refine Rw_become_ok (T_rows _ (by omega)) tp hnp (by omega) hlp hl hr tq hnq (by omega) hrq hL hR (fun M1 hW f1 => ?_)
  rintro N rfl
  have e1 : M1.1 46 = M.1 46 := (f1 46 (by omega)).1
  have f2 : FR 46 47 M1 (uI M1 46 8 (M1.1 46 8 + 1)) := FR.uI (by omega) (by omega)
  refine k _ ⟨?_, fun i hi => ?_⟩ ((f1.mono (by omega) (by omega)).trans (f2.mono (by omega) (by omega)))
  · rw [uI_s, e1, hF.1, nI_1, List.length_append]
    rfl
  · rw [List.length_append] at hi
    simp only [List.length_singleton] at hi
    by_cases e : i < rs.length
    · rw [ln_app1 e, rt_app1 e]
      exact ((hF.2 i e).fr f1 (by omega)).fr f2 (by omega)
    · have : i = rs.length := by omega
      subst this
      rw [ln_app2 rfl, rt_app2 rfl]
      exact hW.fr f2 (by omega)
theorem T_ex {b i : Nat} (t : T_Bk zX b) (hi : i < 3) : T_Sg zX (b + 1 + 3 + 6 * i) 12 := t.2.2.2.2.1 _ hi
theorem T_re {b i : Nat} (t : T_Bk zX b) (hi : i < 3) : T_Sg zX (b + 2 + 5 + 6 * i) 5 := t.2.2.2.2.2.1 _ hi
theorem T_li {b i : Nat} (t : T_Bk zX b) (hi : i < 6) : T_Sg zX (b + 3 + 19 + 3 * i) 12 := t.2.2.2.2.2.2 _ hi
theorem E_guess_ok {A : AA} (h : XS M A) (hv : VA A) (h0 : 0 < bN (aB A)) {Q : Mem → Prop} (k : ∀ M', XK M' A → FO M' (aB A) → CA M' (aB A) → Q M') : CallV zX m_E_guess [.ref 0] M Q := by
  have hb := hv.2.1
  have hVR := VR_exs hb
  have hlen : 0 < (exs (aB A)).length := by rw [exs_len]; exact h0
  refine e_E_guess ⟨fun c => ?_, fun c => h.2.1.elim (fun c2 => absurd c2 c) (fun c2 => k M h.1 c2 h.2.2)⟩
  refine e_Ft_clear ?_
  rintro N rfl
  have key : ∀ (j i : Nat) (M' : Mem), i + j = bN (aB A) → FT M' ((exs (aB A)).take i) → XK M' A → CA M' (aB A) → wp zX m_E_guess (QV Q) 17 [(0, .ref 0), (1, .int (nI i))] [] M' := by
    intro j
    induction j with
    | zero =>
      intro i M' hi hF hK hC
      have hi2 : i = bN (aB A) := by omega
      subst hi2
      rw [List.take_of_length_le (by rw [exs_len]; exact Nat.le_refl _)] at hF
      refine b_E_guess_17 (Bk_examples_ok T_book hK.2.1 ?_)
      refine br_t (Int32.le_refl _) ?_
      refine Ft_count_ok hVR hlen hF (fun M2 hW hF2 hG f2 => ?_)
      rw [show lN (dpF (exs (aB A)) (grp (exs (aB A))) (enT (exs (aB A))) 0 w0 (enT (exs (aB A)))) = lN (CN (exs (aB A))) from congrArg lN (dp_le hVR hlen (Nat.le_refl _))]
      rintro N rfl
      have hK2 := hK.fr f2 (by omega)
      have hC2 := hC.fr f2 (by omega)
      have f3 : FR 0 1 M2 (uL M2 0 9 (lN (CN (exs (aB A))))) := FR.uL (by omega) (by omega)
      have hF3 := hF2.fr2 hVR.1 f3 (by omega)
      have hK3 := hK2.fr f3 (by omega)
      have hC3 := hC2.fr f3 (by omega)
      have hW3 := hW.fr f3 (by omega)
      have hG3 := hG.fr f3 (by omega)
      refine e_Pl_clear ?_
      rintro N rfl
      have f4 : FR 134 135 (uL M2 0 9 (lN (CN (exs (aB A))))) (uI (uL M2 0 9 (lN (CN (exs (aB A))))) 134 1 0) := FR.uI (by omega) (by omega)
      have v9 : (uI (uL M2 0 9 (lN (CN (exs (aB A))))) 134 1 0).2 0 9 = lN (CN (exs (aB A))) := (congrFun (congrFun uI_2 0) 9).trans uL_s
      rw [v9]
      have hPL : PL (uI (uL M2 0 9 (lN (CN (exs (aB A))))) 134 1 0) (bR (aB A) 0) [] := ⟨uI_s, fun i hi => absurd hi (Nat.not_lt_zero i)⟩
      have hF4 := hF3.fr2 hVR.1 f4 (by omega)
      have hK4 := hK3.fr f4 (by omega)
      have hC4 := hC3.fr f4 (by omega)
      have hW4 := hW3.fr f4 (by omega)
      have hG4 := hG3.fr f4 (by omega)
      generalize (uI (uL M2 0 9 (lN (CN (exs (aB A))))) 134 1 0) = M4 at v9 hPL hF4 hK4 hC4 hW4 hG4
      by_cases c0 : CN (exs (aB A)) = 0
      · refine br_t ((lg_cmp_0 _).mpr ((lN_0 (CN_lt hVR hlen)).mpr c0)) ?_
        rintro N rfl
        have f5 : FR 0 1 M4 (uI M4 0 8 1) := FR.uI (by omega) (by omega)
        refine k _ (hK4.fr f5 (by omega)) ⟨uI_s, h0, hF4.fr2 hVR.1 f5 (by omega), v9, ?_⟩ (hC4.fr f5 (by omega))
        rw [bp, if_pos c0]
        exact hPL.fr (Nat.zero_le _) f5 (by omega)
      · refine br_f (fun z => c0 ((lN_0 (CN_lt hVR hlen)).mp ((lg_cmp_0 _).mp z))) ?_
        have hcl : ∀ s, s < enT (exs (aB A)) → lN (dpF (exs (aB A)) (grp (exs (aB A))) (enT (exs (aB A))) 0 w0 s) ≠ 0 → ∀ x, x ∈ mvs (exs (aB A)) s (grp (exs (aB A))) → lN (dpF (exs (aB A)) (grp (exs (aB A))) (enT (exs (aB A))) 0 w0 x.1) ≠ 0 ∧ x.1 ≤ enT (exs (aB A)) := by
          intro s hs hw x hx
          have hww := (dp_iff hVR hlen (by omega)).mp hw
          have hp := mvs_PCE hx
          have hpv := PCE_V hVR hlen (WW_V hVR hlen hww) hp
          exact ⟨(dp_iff hVR hlen hpv.2.2.2.1).mpr (WW_step hVR hlen hww hp), hpv.2.2.2.1⟩
        refine Ft_weigh_ok hVR hlen hF4 hG4 (grp_GB _) hW4 hcl (fun M5 hF5 hO5 f5 => ?_)
        have hK5 := hK4.fr f5 (by omega)
        have hC5 := hC4.fr f5 (by omega)
        have hP5 : PL M5 (rt (exs (aB A)) 0) [] := by
          rw [rt_exs h0]
          exact hPL.fr (Nat.zero_le _) f5 (by omega)
        have v5 : M5.2 0 9 = lN (CN (exs (aB A))) := by rw [(f5 0 (by omega)).2]; exact v9
        have hT : TLK M5 (exs (aB A)) (Lc (exs (aB A))) (fun s => WW (exs (aB A)) s ≠ 0 ∧ s ≤ enT (exs (aB A))) := by
          rintro s ⟨hs, hse⟩
          refine ⟨hO5 s hse ((dp_iff hVR hlen hse).mpr hs), fun hlt => ⟨fun m t hm ht => ?_, fun n hn hnl => ?_⟩⟩
          · have hp : PCE (exs (aB A)) s t _ := Or.inl ⟨m, hm, ht, rfl⟩
            exact ⟨WW_step hVR hlen hs hp, (PCE_V hVR hlen (WW_V hVR hlen hs) hp).2.2.2.1⟩
          · have hp : PCE (exs (aB A)) s (txT (exs (aB A)) s n) (2 * ((n - 1) + 1) + 2) := Or.inr ⟨n - 1, by have := lgT_le (exs (aB A)) s; omega, by rw [tT, if_pos (by omega), Nat.sub_add_cancel hn], rfl⟩
            exact ⟨WW_step hVR hlen hs hp, (PCE_V hVR hlen (WW_V hVR hlen hs) hp).2.2.2.1⟩
        refine Ft_tell_ok hVR hlen hF5 hT ⟨by rw [WW_0]; omega, Nat.zero_le _⟩ hP5 (fun M6 hP6 hF6 f6 hl6 => ?_)
        rintro N rfl
        have f7 : FR 0 1 M6 (uI M6 0 8 1) := FR.uI (by omega) (by omega)
        refine k _ ((hK5.fr f6 (by omega)).fr f7 (by omega)) ⟨uI_s, h0, hF6.fr2 hVR.1 f7 (by omega), ?_, ?_⟩ ((hC5.fr f6 (by omega)).fr f7 (by omega))
        · show M6.2 0 9 = _
          rw [(f6 0 (by omega)).2]
          exact v5
        · rw [bp, if_neg c0]
          rw [rt_exs h0] at hP6
          exact hP6.fr hl6 f7 (by omega)
    | succ j ih =>
      intro i M' hi hF hK hC
      have hB := hK.2.1
      have hb3 := hb.1
      have hex := hB.2.2.1 i (by omega)
      refine b_E_guess_17 (Bk_examples_ok T_book hB ?_)
      refine br_f (fun z => ?_) ?_
      · rw [nI_leI (by omega) (by omega)] at z
        omega
      refine Bk_exampleLine_ok T_book (by omega) ⟨12, T_ex T_book (by omega), Bk_result_ok T_book (by omega) ⟨5, T_re T_book (by omega), ?_⟩⟩
      refine Ft_addRow_ok (by rw [List.length_take, exs_len]; omega) hF (T_ex T_book (by omega)) (by omega) hex.1.1 hex.1.2 hex.1.2 (by omega) (T_re T_book (by omega)) (by omega) hex.2.1 hex.2.2 hex.2.2 (by omega) (fun M2 hF2 f2 => ?_)
      rw [nI_1]
      refine ih (i + 1) M2 (by omega) ?_ (hK.fr f2 (by omega)) (hC.fr f2 (by omega))
      rw [take_exs (by omega)]
      exact hF2
  have f1 : FR 46 47 M (uI M 46 8 0) := FR.uI (by omega) (by omega)
  exact key (bN (aB A)) 0 _ (Nat.zero_add _) ⟨uI_s, fun i hi => absurd hi (Nat.not_lt_zero i)⟩ (h.1.fr f1 (by omega)) (h.2.2.fr f1 (by omega))
end ZGU
