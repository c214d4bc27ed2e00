/-! The reference makes -/
def SA (M : Mem) (l : LI) : Prop := ∀ k, k < l.length → M.1 19 k = gt l k
theorem SA_push {M : Mem} {l : LI} (h : SA M l) (v : Int32) : SA (uI M 19 l.length v) (l ++ [v]) := by
  intro k hk
  rw [List.length_append] at hk
  simp only [List.length_singleton] at hk
  by_cases e : k = l.length
  · subst e
    rw [uI_s, gt_app2 (Nat.le_refl _), Nat.sub_self]
    rfl
  · rw [uI_k e, gt_app1 (by omega)]
    exact h k (by omega)
theorem take_gt {l : LI} {k : Nat} (h : k < l.length) : l.take (k + 1) = l.take k ++ [gt l k] := by
  rw [List.take_succ, gt, List.getD_eq_getElem?_getD, List.getElem?_eq_getElem h]
  rfl
theorem gt_txt {r0 : LI} {p : T3} {k : Nat} (h : k < p.2.1) : gt (txt r0 p) k = gt r0 (p.2.2 + k) := by
  rw [txt, gt_drop, gt_take (by omega)]
theorem gt_cut {l : LI} {a b k : Nat} (h : a + k < b) : gt ((l.take b).drop a) k = gt l (a + k) := by
  rw [gt_drop, gt_take h]
section ZR9
variable {M : Mem}
theorem M_make_ok {r0 l : LI} {ps : List T3} (hP : PK M ps) (hpv : ∀ p, p ∈ ps → PV r0 p) (h5 : ps.length ≤ 5) (hN : NW M l) (hl : l.length ≤ 12) (hr : r0.length ≤ 5) (hO : ∀ k, k < r0.length → M.1 3 k = gt r0 k) {Q : Int32 → Mem → Prop}
    (k : ∀ M', SA M' (mkF r0 l ps []) → KF 19 20 [] M M' → Q (nI (mkF r0 l ps []).length) M') : CallI zY m_M_make [.ref 0] M Q := by
  refine e_M_make ?_
  have key : ∀ (j i : Nat) (acc : LI) (M' : Mem), i + j = ps.length → KF 19 20 [] M M' → SA M' acc → acc.length ≤ 12 * i → mkF r0 l (ps.drop i) acc = mkF r0 l ps [] → wp zY m_M_make (QI Q) 4 [(0, .ref 0), (1, .int (nI acc.length)), (2, .int (nI i))] [] M' := by
    intro j
    induction j with
    | zero =>
      intro i acc M' hi f hS hcap hE
      rw [List.drop_of_length_le (by omega)] at hE
      have hE : acc = mkF r0 l ps [] := hE
      subst hE
      refine b_M_make_4 ?_
      rw [f.z (k := 23), hP.1]
      exact pk_le ps.length i (fun _ => k M' hS f) (fun z => absurd z (by omega))
    | succ j ih =>
      intro i acc M' hi f hS hcap hE
      have hil : i < ps.length := by omega
      have hq := hP.2 i hil
      have hvp := hpv _ (g3_mem hil)
      rw [drop_g3 hil, mkF] at hE
      generalize g3 ps i = p at hq hvp hE
      refine b_M_make_4 ?_
      rw [f.z (k := 23), hP.1]
      refine pk_le ps.length i (fun z => absurd z (by omega)) (fun _ => ⟨vp_in_nI (by omega) (by omega), ?_⟩)
      rw [nI_clamp (by omega), f.a (a := 16) (by omega) (by omega), hq.1]
      rcases hvp with ⟨p0, p1, p2⟩ | ⟨p0, p1, p2⟩
      · rw [p0] at hq ⊢
        rw [if_pos rfl, if_pos rfl] at hq
        refine br_f (by decide) ⟨vp_in_nI (by omega) (by omega), ?_⟩
        rw [f.a (a := 17) (by omega) (by omega), hq.2.1]
        have hN' : NW M' l := hN.kt f (by omega)
        refine M_placeOf_ok hN' hl p1 ⟨vp_in_nI (by omega) (by omega), ?_⟩
        rw [f.a (a := 18) (by omega) (by omega), hq.2.2]
        refine M_placeOf_ok hN' hl p2 ?_
        have epm : pm r0 l p = match plc l p.2.1, plc l p.2.2 with
          | some a, some b => if a < b then some ((l.take b).drop a) else none
          | _, _ => none := by
          rw [pm, if_pos p0]
          rfl
        rw [epm] at hE
        cases ea : plc l p.2.1 with
        | none =>
          rw [ea] at hE
          refine br_t (by decide) ?_
          have hE : ([] : LI) = mkF r0 l ps [] := hE
          have := k M' (by rw [← hE]; exact fun k hk => absurd hk (Nat.not_lt_zero k)) f
          rw [← hE] at this
          exact this
        | some a =>
          have hal := plc_le ea
          refine br_f (fun z => absurd ((nI_ltI (a := a) (b := 0) (by omega) (by omega)).mp z) (Nat.not_lt_zero a)) ?_
          rw [ea] at hE
          cases eb : plc l p.2.2 with
          | none =>
            rw [eb] at hE
            refine br_f (fun z => ?_) ?_
            · have z2 : nI a < (-6 : Int32) := z
              rw [Int32.lt_iff_toInt_lt, nI_toInt (by omega)] at z2
              have z0 : (-6 : Int32).toInt = -6 := rfl
              omega
            have hE : ([] : LI) = mkF r0 l ps [] := hE
            have := k M' (by rw [← hE]; exact fun k hk => absurd hk (Nat.not_lt_zero k)) f
            rw [← hE] at this
            exact this
          | some b =>
            have hbl := plc_le eb
            rw [eb] at hE
            refine pk_lt a b (fun z => ?_) (fun z => ?_)
            · have hE : (match (if a < b then some ((l.take b).drop a) else none) with
                | none => []
                | some x => mkF r0 l (ps.drop (i + 1)) (acc ++ x)) = mkF r0 l ps [] := hE
              rw [if_pos z] at hE
              have hE : mkF r0 l (ps.drop (i + 1)) (acc ++ (l.take b).drop a) = mkF r0 l ps [] := hE
              have hX : ((l.take b).drop a).length = b - a := by rw [List.length_drop, List.length_take]; omega
              have lp : ∀ (u v : Nat) (M2 : Mem), v + u = b - a → KF 19 20 [] M M2 → SA M2 (acc ++ ((l.take b).drop a).take v) → wp zY m_M_make (QI Q) 103 [(0, .ref 0), (1, .int (nI (acc ++ ((l.take b).drop a).take v).length)), (2, .int (nI i)), (4, .int (nI b)), (5, .int (nI (a + v)))] [] M2 := by
                intro u
                induction u with
                | zero =>
                  intro v M2 hv f2 hS2
                  rw [List.take_of_length_le (by omega)] at hS2 ⊢
                  refine b_M_make_103 (pk_le b (a + v) (fun _ => ?_) (fun z => absurd z (by omega)))
                  rw [nI_1]
                  exact ih (i + 1) _ M2 (by omega) f2 hS2 (by rw [List.length_append]; omega) hE
                | succ u ihu =>
                  intro v M2 hv f2 hS2
                  have hlen : (acc ++ ((l.take b).drop a).take v).length = acc.length + v := by rw [List.length_append, List.length_take, hX]; omega
                  refine b_M_make_103 (pk_le b (a + v) (fun z => absurd z (by omega)) (fun _ => ⟨vp_in_nI (by omega) (by omega), vp_in_nI (by omega) (by omega), ?_⟩))
                  rintro N rfl
                  rw [nI_clamp (by omega), nI_clamp (by omega), f2.a (a := 9) (by omega) (by omega), hN.2 _ (by omega), nI_1, nI_1]
                  have hS3 := SA_push hS2 (gt l (a + v))
                  have e3 : acc ++ ((l.take b).drop a).take v ++ [gt l (a + v)] = acc ++ ((l.take b).drop a).take (v + 1) := by
                    rw [take_gt (by omega), gt_cut (by omega), List.append_assoc]
                  have e4 : (acc ++ ((l.take b).drop a).take v).length + 1 = (acc ++ ((l.take b).drop a).take (v + 1)).length := by rw [← e3, List.length_append (as := acc ++ _)]; rfl
                  rw [e3] at hS3
                  rw [e4]
                  exact ihu (v + 1) _ (by omega) (f2.trans (KF.wI (by omega) (by omega) (by omega))) hS3
              have := lp (b - a) 0 M' (Nat.zero_add _) f (by rw [List.take_zero, List.append_nil]; exact hS)
              rw [List.take_zero, List.append_nil] at this
              exact this
            · have hE : (match (if a < b then some ((l.take b).drop a) else none) with
                | none => []
                | some x => mkF r0 l (ps.drop (i + 1)) (acc ++ x)) = mkF r0 l ps [] := hE
              rw [if_neg (by omega)] at hE
              have hE : ([] : LI) = mkF r0 l ps [] := hE
              have := k M' (by rw [← hE]; exact fun k hk => absurd hk (Nat.not_lt_zero k)) f
              rw [← hE] at this
              exact this
      · rw [p0] at hq ⊢
        rw [if_neg (by decide), if_neg (by decide)] at hq
        refine br_t rfl ?_
        have epm : pm r0 l p = some (txt r0 p) := by rw [pm, if_neg (by omega)]
        rw [epm] at hE
        have hE : mkF r0 l (ps.drop (i + 1)) (acc ++ txt r0 p) = mkF r0 l ps [] := hE
        have hX : (txt r0 p).length = p.2.1 := txt_len (n := p.2.1) (p := p.2.2) p2
        have lp : ∀ (u v : Nat) (M2 : Mem), v + u = p.2.1 → KF 19 20 [] M M2 → SA M2 (acc ++ (txt r0 p).take v) → wp zY m_M_make (QI Q) 24 [(0, .ref 0), (1, .int (nI (acc ++ (txt r0 p).take v).length)), (2, .int (nI i)), (3, .int (nI v))] [] M2 := by
          intro u
          induction u with
          | zero =>
            intro v M2 hv f2 hS2
            rw [List.take_of_length_le (by omega)] at hS2 ⊢
            refine b_M_make_24 ⟨vp_in_nI (by omega) (by omega), ?_⟩
            rw [nI_clamp (by omega), f2.a (a := 17) (by omega) (by omega), hq.2.1]
            refine pk_le p.2.1 v (fun _ => ?_) (fun z => absurd z (by omega))
            rw [nI_1]
            exact ih (i + 1) _ M2 (by omega) f2 hS2 (by rw [List.length_append]; omega) hE
          | succ u ihu =>
            intro v M2 hv f2 hS2
            have hlen : (acc ++ (txt r0 p).take v).length = acc.length + v := by rw [List.length_append, List.length_take, hX]; omega
            refine b_M_make_24 ⟨vp_in_nI (by omega) (by omega), ?_⟩
            rw [nI_clamp (by omega), f2.a (a := 17) (by omega) (by omega), f2.a (a := 18) (by omega) (by omega), hq.2.1, hq.2.2, nI_add]
            refine pk_le p.2.1 v (fun z => absurd z (by omega)) (fun _ => ⟨vp_in_nI (by omega) (by omega), vp_in_nI (by omega) (by omega), vp_in_nI (by omega) (by omega), ?_⟩)
            rintro N rfl
            rw [nI_clamp (by omega), nI_clamp (by omega), f2.a (a := 3) (by omega) (by omega), hO _ (by omega), nI_1, nI_1]
            have hS3 := SA_push hS2 (gt r0 (p.2.2 + v))
            have e3 : acc ++ (txt r0 p).take v ++ [gt r0 (p.2.2 + v)] = acc ++ (txt r0 p).take (v + 1) := by
              rw [take_gt (by omega), gt_txt (by omega), List.append_assoc]
            have e4 : (acc ++ (txt r0 p).take v).length + 1 = (acc ++ (txt r0 p).take (v + 1)).length := by rw [← e3, List.length_append (as := acc ++ _)]; rfl
            rw [e3] at hS3
            rw [e4]
            exact ihu (v + 1) _ (by omega) (f2.trans (KF.wI (by omega) (by omega) (by omega))) hS3
        have := lp p.2.1 0 M' (Nat.zero_add _) f (by rw [List.take_zero, List.append_nil]; exact hS)
        rw [List.take_zero, List.append_nil] at this
        exact this
  exact key ps.length 0 [] M (Nat.zero_add _) KF.rf (fun k hk => absurd hk (Nat.not_lt_zero k)) (Nat.le_refl _) rfl
end ZR9
