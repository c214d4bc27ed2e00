/-! The reference: looking, laying, digits -/
theorem uI_c {M : Mem} {a k : Nat} {v : Int32} {b j : Nat} : (uI M a k v).1 b j = if b = a ∧ j = k then v else M.1 b j := by
  by_cases h : b = a
  · subst h
    by_cases h2 : j = k
    · subst h2
      rw [uI_s, if_pos ⟨rfl, rfl⟩]
    · rw [uI_k h2, if_neg (fun z => h2 z.2)]
  · rw [uI_n h, if_neg (fun z => h z.1)]
section ZR3
variable {M : Mem}
theorem M_power_ok {e : Nat} (he : e < 4) {Q : Int32 → Mem → Prop} (k : Q (nI (6 ^ e)) M) : CallI zY m_M_power [.int (nI e)] M Q := by
  refine e_M_power (pk_eq e 0 (fun z => ?_) (fun z => pk_eq e 1 (fun z1 => ?_) (fun z1 => pk_eq e 2 (fun z2 => ?_) (fun z2 => ?_))))
  · subst z
    exact k
  · subst z1
    exact k
  · subst z2
    exact k
  · have : e = 3 := by omega
    subst this
    exact k
theorem pow6_b {e : Nat} (he : e < 4) : 0 < 6 ^ e ∧ 6 ^ e ≤ 216 := by
  have : e = 0 ∨ e = 1 ∨ e = 2 ∨ e = 3 := by omega
  rcases this with h | h | h | h <;> subst h <;> decide
theorem M_at_ok {s e : Nat} (hs : s < 10000) (he : e < 4) {Q : Int32 → Mem → Prop} (k : Q (nI (dg s e)) M) : CallI zY m_M_at [.int (nI s), .int (nI e)] M Q := by
  have p := pow6_b he
  refine e_M_at (M_power_ok he ⟨fun z => ?_, ?_⟩)
  · have := (nI_eq (a := 6 ^ e) (b := 0) (by omega) (by omega)).mp z
    omega
  · have e1 : nI s / nI (6 ^ e) = nI (s / 6 ^ e) := pk_div (by omega) p.1 (by omega)
    have b1 : s / 6 ^ e ≤ s := Nat.div_le_self _ _
    have e2 : nI (s / 6 ^ e) - nI (s / 6 ^ e) / nI 6 * nI 6 = nI (s / 6 ^ e % 6) := pk_rem (by omega) (by omega) (by omega)
    rw [e1]
    exact e2 ▸ k
theorem M_lookAtPad_ok {l : LI} (h : PD M l) (hl : l.length ≤ 12) {Q : Mem → Prop} (k : ∀ M', NW M' l → KF 9 10 [12] M M' → Q M') : CallV zY m_M_lookAtPad [.ref 0] M Q := by
  refine e_M_lookAtPad ?_
  rintro N rfl
  have key : ∀ (j i : Nat) (M' : Mem), i + j = l.length → M'.1 0 12 = nI l.length → (∀ u, u < i → M'.1 9 u = gt l u) → KF 9 10 [12] M M' → wp zY m_M_lookAtPad (QV Q) 10 [(0, .ref 0), (1, .int (nI i))] [] M' := by
    intro j
    induction j with
    | zero =>
      intro i M' hi h0 hu f
      refine b_M_lookAtPad_10 ?_
      rw [f.z (k := 8), h.1]
      exact pk_le l.length i (fun _ => k M' ⟨h0, fun u h2 => hu u (by omega)⟩ f) (fun z => absurd z (by omega))
    | succ j ih =>
      intro i M' hi h0 hu f
      refine b_M_lookAtPad_10 ?_
      rw [f.z (k := 8), h.1]
      refine pk_le l.length i (fun z => absurd z (by omega)) (fun _ => ⟨vp_in_nI (by omega) (by omega), vp_in_nI (by omega) (by omega), ?_⟩)
      rintro N rfl
      rw [nI_clamp (by omega), f.a (a := 7) (by omega) (by omega), h.2 _ (by omega), nI_1]
      refine ih (i + 1) _ (by omega) (by rw [uI_n (by omega)]; exact h0) (fun u h2 => ?_) (f.trans (KF.wI (by omega) (by omega) (by omega)))
      by_cases e : u = i
      · subst e
        exact uI_s
      · rw [uI_k e]
        exact hu u (by omega)
  exact key l.length 0 _ (Nat.zero_add _) (by rw [uI_s]; exact h.1) (fun u h2 => absurd h2 (Nat.not_lt_zero u)) KF.wz
theorem M_lookAtPool_ok {i0 : Nat} (hi0 : i0 < 6) {l : LI} (h6 : M.1 6 i0 = nI l.length) (h5 : ∀ k, k < l.length → M.1 5 (12 * i0 + k) = gt l k) (hl : l.length ≤ 12) {Q : Mem → Prop} (k : ∀ M', NW M' l → KF 9 10 [12] M M' → Q M') : CallV zY m_M_lookAtPool [.ref 0, .int (nI i0)] M Q := by
  refine e_M_lookAtPool ⟨vp_in_nI hi0 (by omega), ?_⟩
  rintro N rfl
  rw [nI_clamp (by omega), h6]
  have key : ∀ (j i : Nat) (M' : Mem), i + j = l.length → M'.1 0 12 = nI l.length → (∀ u, u < i → M'.1 9 u = gt l u) → KF 9 10 [12] M M' → wp zY m_M_lookAtPool (QV Q) 12 [(0, .ref 0), (1, .int (nI i0)), (2, .int (nI i))] [] M' := by
    intro j
    induction j with
    | zero =>
      intro i M' hi h0 hu f
      refine b_M_lookAtPool_12 ?_
      rw [h0]
      exact pk_le l.length i (fun _ => k M' ⟨h0, fun u h2 => hu u (by omega)⟩ f) (fun z => absurd z (by omega))
    | succ j ih =>
      intro i M' hi h0 hu f
      refine b_M_lookAtPool_12 ?_
      rw [h0]
      rw [show (12 : Int32) * nI i0 = nI (12 * i0) from pk_mul 12 i0, nI_add]
      refine pk_le l.length i (fun z => absurd z (by omega)) (fun _ => ⟨vp_in_nI (by omega) (by omega), vp_in_nI (by omega) (by omega), ?_⟩)
      rintro N rfl
      rw [nI_clamp (by omega), nI_clamp (by omega), f.a (a := 5) (by omega) (by omega), h5 _ (by omega), nI_1]
      refine ih (i + 1) _ (by omega) (by rw [uI_n (by omega)]; exact h0) (fun u h2 => ?_) (f.trans (KF.wI (by omega) (by omega) (by omega)))
      by_cases e : u = i
      · subst e
        exact uI_s
      · rw [uI_k e]
        exact hu u (by omega)
  exact key l.length 0 _ (Nat.zero_add _) uI_s (fun u h2 => absurd h2 (Nat.not_lt_zero u)) KF.wz
theorem M_addWork_ok {rs : RS} {l r : LI} (hv : VR rs) (h3 : rs.length ≤ 3) (hW : WK M rs) (hN : NW M l) (hC : CD M) (hl : l.length ≤ 12) (hr : r.length ≤ 5) (hs : M.1 12 rs.length = nI r.length) (ho : ∀ k, k < r.length → M.1 11 (5 * rs.length + k) = gt r k) {Q : Mem → Prop}
    (k : ∀ M', WK M' (rs ++ [(l, r)]) → KF 10 14 [17] M M' → Q M') : CallV zY m_M_addWork [.ref 0] M Q := by
  refine e_M_addWork ?_
  have key2 : ∀ (j i : Nat) (M' : Mem), i + j = 62 → KF 10 14 [17] M M' → WK M' rs → NW M' l → M'.1 12 = M.1 12 → M'.1 11 = M.1 11 → (∀ u, u < l.length → M'.1 10 (12 * rs.length + u) = gt l u) → (∀ u, u < i → M'.1 13 (62 * rs.length + u) = oI (plc l u)) → wp zY m_M_addWork (QV Q) 38 [(0, .ref 0), (1, .int (nI i))] [] M' := by
    intro j
    induction j with
    | zero =>
      intro i M' hi f hW' hN' e12 e11 hu hp
      refine b_M_addWork_38 (pk_le 62 i (fun _ => ?_) (fun z => absurd z (by omega)))
      rintro N rfl
      have g : KF 10 14 [17] M' (uI M' 0 17 (M'.1 0 17 + 1)) := KF.wz
      refine k _ ⟨?_, fun e he => ?_⟩ (f.trans g)
      · rw [uI_s, hW'.1, nI_1, List.length_append]
        rfl
      · rw [List.length_append] at he
        simp only [List.length_singleton] at he
        unfold WR
        rw [uI_n (b := 12) (by omega), uI_n (b := 11) (by omega), uI_n (b := 10) (by omega), uI_n (b := 13) (by omega)]
        by_cases c : e < rs.length
        · rw [ln_app1 c, rt_app1 c]
          exact hW'.2 e c
        · have : e = rs.length := by omega
          subst this
          rw [ln_app2 rfl, rt_app2 rfl, e12, e11]
          exact ⟨hs, ho, hu, fun m hm => hp m (by omega)⟩
    | succ j ih =>
      intro i M' hi f hW' hN' e12 e11 hu hp
      refine b_M_addWork_38 (pk_le 62 i (fun z => absurd z (by omega)) (fun _ => ⟨vp_in_nI (by omega) (by omega), ?_⟩))
      rw [nI_clamp (by omega), f.a (a := 8) (by omega) (by omega), hC _ (by omega)]
      refine M_placeOf_ok hN' hl (by omega) ?_
      rw [hW'.1, show (62 : Int32) * nI rs.length = nI (62 * rs.length) from pk_mul 62 _, nI_add]
      refine ⟨vp_in_nI (by omega) (by omega), ?_⟩
      rintro N rfl
      rw [nI_clamp (by omega), nI_1]
      refine ih (i + 1) _ (by omega) (f.trans (KF.wI (by omega) (by omega) (by omega))) ⟨by rw [uI_n (by omega)]; exact hW'.1, fun e he => ?_⟩ ⟨by rw [uI_n (by omega)]; exact hN'.1, by rw [uI_n (by omega)]; exact hN'.2⟩ (by rw [uI_n (by omega)]; exact e12) (by rw [uI_n (by omega)]; exact e11) (by rw [uI_n (by omega)]; exact hu) (fun u h2 => ?_)
      · unfold WR
        rw [uI_n (b := 12) (by omega), uI_n (b := 11) (by omega), uI_n (b := 10) (by omega)]
        refine ⟨(hW'.2 e he).1, (hW'.2 e he).2.1, (hW'.2 e he).2.2.1, fun m hm => ?_⟩
        rw [uI_k (by omega)]
        exact (hW'.2 e he).2.2.2 m hm
      · by_cases e : u = i
        · subst e
          exact uI_s
        · rw [uI_k (by omega)]
          exact hp u (by omega)
  have key1 : ∀ (j i : Nat) (M' : Mem), i + j = l.length → KF 10 14 [17] M M' → WK M' rs → NW M' l → M'.1 12 = M.1 12 → M'.1 11 = M.1 11 → (∀ u, u < i → M'.1 10 (12 * rs.length + u) = gt l u) → wp zY m_M_addWork (QV Q) 2 [(0, .ref 0), (1, .int (nI i))] [] M' := by
    intro j
    induction j with
    | zero =>
      intro i M' hi f hW' hN' e12 e11 hu
      refine b_M_addWork_2 ?_
      rw [hN'.1]
      exact pk_le l.length i (fun _ => key2 62 0 M' (by omega) f hW' hN' e12 e11 (fun u h2 => hu u (by omega)) (fun u h2 => absurd h2 (Nat.not_lt_zero u))) (fun z => absurd z (by omega))
    | succ j ih =>
      intro i M' hi f hW' hN' e12 e11 hu
      refine b_M_addWork_2 ?_
      rw [hN'.1, hW'.1, show (12 : Int32) * nI rs.length = nI (12 * rs.length) from pk_mul 12 _, nI_add]
      refine pk_le l.length i (fun z => absurd z (by omega)) (fun _ => ⟨vp_in_nI (by omega) (by omega), vp_in_nI (by omega) (by omega), ?_⟩)
      rintro N rfl
      rw [nI_clamp (by omega), nI_clamp (by omega), hN'.2 _ (by omega), nI_1]
      refine ih (i + 1) _ (by omega) (f.trans (KF.wI (by omega) (by omega) (by omega))) ⟨by rw [uI_n (by omega)]; exact hW'.1, fun e he => ?_⟩ ⟨by rw [uI_n (by omega)]; exact hN'.1, by rw [uI_n (by omega)]; exact hN'.2⟩ (by rw [uI_n (by omega)]; exact e12) (by rw [uI_n (by omega)]; exact e11) (fun u h2 => ?_)
      · unfold WR
        rw [uI_n (b := 12) (by omega), uI_n (b := 11) (by omega), uI_n (b := 13) (by omega)]
        refine ⟨(hW'.2 e he).1, (hW'.2 e he).2.1, fun m hm => ?_, (hW'.2 e he).2.2.2⟩
        have hle := (hv.2 e he).1
        rw [uI_k (by omega)]
        exact (hW'.2 e he).2.2.1 m hm
      · by_cases e : u = i
        · subst e
          exact uI_s
        · rw [uI_k (by omega)]
          exact hu u (by omega)
  exact key1 l.length 0 M (Nat.zero_add _) KF.rf hW hN rfl rfl (fun u h2 => absurd h2 (Nat.not_lt_zero u))
theorem M_end_ok {rs : RS} (hv : VR rs) (hW : WK M rs) {Q : Int32 → Mem → Prop} (k : Q (nI (enT rs)) M) : CallI zY m_M_end [.ref 0] M Q := by
  refine e_M_end ?_
  have h4 := hv.1
  have key : ∀ (j i acc : Nat), i + j = rs.length → Q (nI (enF rs j i acc)) M → wp zY m_M_end (QI Q) 4 [(0, .ref 0), (1, .int (nI acc)), (2, .int (nI i))] [] M := by
    intro j
    induction j with
    | zero =>
      intro i acc hi q
      refine b_M_end_4 ?_
      rw [hW.1]
      exact pk_le rs.length i (fun _ => q) (fun z => absurd z (by omega))
    | succ j ih =>
      intro i acc hi q
      refine b_M_end_4 ?_
      rw [hW.1]
      refine pk_le rs.length i (fun z => absurd z (by omega)) (fun z => ⟨vp_in_nI (by omega) (by omega), M_power_ok (by omega) ?_⟩)
      rw [nI_clamp (by omega), (hW.2 i z).1, pk_mul, nI_add, nI_1]
      exact ih (i + 1) _ (by omega) q
  exact key rs.length 0 0 (Nat.zero_add _) k
theorem M_rows_ok {rs : RS} (hv : VR rs) (hW : WK M rs) {Q : Int32 → Mem → Prop} (k : Q (nI (6 ^ rs.length)) M) : CallI zY m_M_rows [.ref 0] M Q := by
  have h4 := hv.1
  refine e_M_rows ?_
  rw [hW.1]
  refine pk_eq rs.length 4 (fun z => ?_) (fun z => M_power_ok (by omega) k)
  rw [z] at k
  exact k
theorem M_layExamples_ok {b : Bo} (hb : VB b) (hB : BM M b) (hC : CD M) {Q : Mem → Prop} (k : ∀ M', WK M' (exs b) → KF 9 14 [12, 17] M M' → Q M') : CallV zY m_M_layExamples [.ref 0] M Q := by
  refine e_M_layExamples ?_
  rintro N rfl
  have h3 := hb.1
  have key : ∀ (j i : Nat) (M' : Mem), i + j = bN b → KF 9 14 [12, 17] M M' → WK M' ((exs b).take i) → wp zY m_M_layExamples (QV Q) 7 [(0, .ref 0), (1, .int (nI i))] [] M' := by
    intro j
    induction j with
    | zero =>
      intro i M' hi f hW
      have : i = bN b := by omega
      subst this
      rw [List.take_of_length_le (by rw [exs_len]; exact Nat.le_refl _)] at hW
      refine b_M_layExamples_7 ?_
      rw [f.z (k := 4), hB.1]
      exact br_t (Int32.le_refl _) (k M' hW f)
    | succ j ih =>
      intro i M' hi f hW
      have hi2 : i < bN b := by omega
      have hE := hB.2.2.1 i hi2
      have hbi := hb.2.2.1 i hi2
      have hl := hbi.1.1
      have hr := hbi.2.2.1
      have hlen : ((exs b).take i).length = i := by rw [List.length_take, exs_len]; omega
      refine b_M_layExamples_7 ?_
      rw [f.z (k := 4), hB.1]
      refine pk_le (bN b) i (fun z => absurd z (by omega)) (fun _ => ⟨vp_in_nI (by omega) (by omega), ?_⟩)
      rw [nI_clamp (by omega), f.a (a := 2) (by omega) (by omega), hE.1]
      rintro N rfl
      have k3 : ∀ (u v : Nat) (M2 : Mem), v + u = (bR b i).length → KF 9 14 [12, 17] M M2 → WK M2 ((exs b).take i) → NW M2 (bE b i) → (∀ w, w < v → M2.1 11 (5 * i + w) = gt (bR b i) w) → wp zY m_M_layExamples (QV Q) 60 [(0, .ref 0), (1, .int (nI i)), (2, .int (nI v))] [] M2 := by
        intro u
        induction u with
        | zero =>
          intro v M2 hv g hW2 hN2 ho
          refine b_M_layExamples_60 ⟨vp_in_nI (by omega) (by omega), ?_⟩
          rw [nI_clamp (by omega), g.a (a := 4) (by omega) (by omega), hE.2.1]
          refine pk_le (bR b i).length v (fun _ => ⟨vp_in_nI (by omega) (by omega), vp_in_nI (by omega) (by omega), ?_⟩) (fun z => absurd z (by omega))
          rintro N rfl
          have g2 : KF 9 14 [12, 17] M2 (uI M2 12 i (nI (bR b i).length)) := KF.wI (by omega) (by omega) (by omega)
          refine M_addWork_ok (rs := (exs b).take i) (l := bE b i) (r := bR b i) ?_ (by omega) ⟨by rw [uI_n (by omega)]; exact hW2.1, fun e he => ?_⟩ ⟨by rw [uI_n (by omega)]; exact hN2.1, by rw [uI_n (by omega)]; exact hN2.2⟩ (hC.kt (g.trans g2) (by omega)) hl hr (by rw [hlen, uI_s]) (fun w hw => by rw [hlen, uI_n (by omega)]; exact ho w (by omega)) (fun M3 hW3 f3 => ?_)
          · refine ⟨by omega, fun e he => ?_⟩
            have hx := (VR_exs hb).2 e (by rw [exs_len]; omega)
            have e1 : ln ((exs b).take i) e = ln (exs b) e := by rw [ln, ln, List.getD_eq_getElem?_getD, List.getD_eq_getElem?_getD, List.getElem?_take_of_lt (by omega)]
            have e2 : rt ((exs b).take i) e = rt (exs b) e := by rw [rt, rt, List.getD_eq_getElem?_getD, List.getD_eq_getElem?_getD, List.getElem?_take_of_lt (by omega)]
            rw [e1, e2]
            exact hx
          · unfold WR
            rw [uI_n (b := 13) (by omega), uI_n (b := 11) (by omega), uI_n (b := 10) (by omega), uI_k (by omega)]
            exact hW2.2 e he
          · rw [nI_1]
            refine ih (i + 1) M3 (by omega) ((g.trans g2).trans (f3.mono (by omega) (by omega))) ?_
            rw [take_exs hi2]
            exact hW3
        | succ u ihu =>
          intro v M2 hv g hW2 hN2 ho
          refine b_M_layExamples_60 ⟨vp_in_nI (by omega) (by omega), ?_⟩
          rw [nI_clamp (by omega), g.a (a := 4) (by omega) (by omega), hE.2.1]
          rw [show (5 : Int32) * nI i = nI (5 * i) from pk_mul 5 _, nI_add]
          refine pk_le (bR b i).length v (fun z => absurd z (by omega)) (fun _ => ⟨vp_in_nI (by omega) (by omega), vp_in_nI (by omega) (by omega), ?_⟩)
          rintro N rfl
          rw [nI_clamp (by omega), g.a (a := 3) (by omega) (by omega), hE.2.2.2 _ (by omega), nI_1]
          refine ihu (v + 1) _ (by omega) (g.trans (KF.wI (by omega) (by omega) (by omega))) ⟨by rw [uI_n (by omega)]; exact hW2.1, fun e he => ?_⟩ ⟨by rw [uI_n (by omega)]; exact hN2.1, by rw [uI_n (by omega)]; exact hN2.2⟩ (fun w hw => ?_)
          · unfold WR
            rw [uI_n (b := 13) (by omega), uI_n (b := 12) (by omega), uI_n (b := 10) (by omega)]
            refine ⟨(hW2.2 e he).1, fun m hm => ?_, (hW2.2 e he).2.2.1, (hW2.2 e he).2.2.2⟩
            have e2 : rt ((exs b).take i) e = rt (exs b) e := by rw [rt, rt, List.getD_eq_getElem?_getD, List.getD_eq_getElem?_getD, List.getElem?_take_of_lt (by omega)]
            have hx := ((VR_exs hb).2 e (by rw [exs_len]; omega)).2
            rw [← e2] at hx
            rw [uI_k (by omega)]
            exact (hW2.2 e he).2.1 m hm
          · by_cases e : w = v
            · subst e
              exact uI_s
            · rw [uI_k (by omega)]
              exact ho w (by omega)
      have k2 : ∀ (u v : Nat) (M2 : Mem), v + u = (bE b i).length → KF 9 14 [12, 17] M M2 → WK M2 ((exs b).take i) → M2.1 0 12 = nI (bE b i).length → (∀ w, w < v → M2.1 9 w = gt (bE b i) w) → wp zY m_M_layExamples (QV Q) 27 [(0, .ref 0), (1, .int (nI i)), (2, .int (nI v))] [] M2 := by
        intro u
        induction u with
        | zero =>
          intro v M2 hv g hW2 h12 ho
          refine b_M_layExamples_27 ?_
          rw [h12]
          exact pk_le (bE b i).length v (fun _ => k3 _ 0 M2 (Nat.zero_add _) g hW2 ⟨h12, fun w hw => ho w (by omega)⟩ (fun w hw => absurd hw (Nat.not_lt_zero w))) (fun z => absurd z (by omega))
        | succ u ihu =>
          intro v M2 hv g hW2 h12 ho
          refine b_M_layExamples_27 ?_
          rw [h12, show (12 : Int32) * nI i = nI (12 * i) from pk_mul 12 _, nI_add]
          refine pk_le (bE b i).length v (fun z => absurd z (by omega)) (fun _ => ⟨vp_in_nI (by omega) (by omega), vp_in_nI (by omega) (by omega), ?_⟩)
          rintro N rfl
          rw [nI_clamp (by omega), nI_clamp (by omega), g.a (a := 1) (by omega) (by omega), hE.2.2.1 _ (by omega), nI_1]
          have g2 : KF 9 10 [] M2 (uI M2 9 v (gt (bE b i) v)) := KF.wI (by omega) (by omega) (by omega)
          refine ihu (v + 1) _ (by omega) (g.trans (g2.mono (by omega) (by omega))) (hW2.kt g2 (by omega)) (by rw [uI_n (by omega)]; exact h12) (fun w hw => ?_)
          by_cases e : w = v
          · subst e
            exact uI_s
          · rw [uI_k e]
            exact ho w (by omega)
      have g1 : KF 9 14 [12] M' (uI M' 0 12 (nI (bE b i).length)) := KF.wz
      refine k2 _ 0 _ (Nat.zero_add _) (f.trans (g1.mono (by omega) (by omega))) ⟨by rw [uI_k (by omega)]; exact hW.1, fun e he => ?_⟩ uI_s (fun w hw => absurd hw (Nat.not_lt_zero w))
      unfold WR
      rw [uI_n (b := 13) (by omega), uI_n (b := 11) (by omega), uI_n (b := 10) (by omega), uI_n (b := 12) (by omega)]
      exact hW.2 e he
  exact key (bN b) 0 _ (Nat.zero_add _) KF.wz ⟨uI_s, fun e he => absurd he (by rw [List.take_zero]; exact Nat.not_lt_zero e)⟩
end ZR3
