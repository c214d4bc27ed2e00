/-! EditGuessModel: images -/
section ZS5
variable {M : Mem} {A : AA}
theorem M_image_ok (h : YS M A) (hv : VA A) {x : Int32} {Q : Int32 → Mem → Prop} (k : ∀ M', YS M' (aImage A x).2 → Q (aImage A x).1 M') : CallI zY m_M_image [.ref 0, .int x] M Q := by
  unfold aImage at k
  refine e_M_image (M_in_ok (fun c d => ?_) (fun c => ?_))
  · obtain ⟨j, hj, rfl⟩ := nI_of c
    have hj2 : j < 2 := by
      refine Nat.lt_of_not_le fun z => d ?_
      exact (nI_ltI (a := 1) (by omega) hj).mpr z
    rw [if_neg c, if_pos (show nI j < (2 : Int32) from nI_lt (b := 2) hj2 (by omega)), nI_clamp hj] at k
    refine br_f (by decide) ?_
    rw [show (150 : Int32) * nI j = nI (150 * j) from pk_mul 150 j]
    refine cp_loop (Lp := fun v M2 => wp zY m_M_image (QI Q) 20 [(0, .ref 0), (1, .int (nI j)), (2, .int (nI (150 * j))), (3, .int (nI v))] [] M2) 72 20 (150 * j) 5 0 M (Or.inl (by omega)) (fun v M2 hv2 ee nx => ?_) ?_
    · refine b_M_image_20 (pk_le 72 v (fun z => absurd z (by omega)) (fun _ => ⟨vp_in_nI (by omega) (by omega), ?_⟩))
      rw [nI_add, nI_clamp (by omega), nI_clamp (by omega), nI_1]
      refine ⟨vp_in_nI (by omega) (by omega), ?_⟩
      rintro N rfl
      rw [Nat.zero_add] at nx
      exact nx
    have r1 : ∀ w, w < 72 → (cpm M 20 (150 * j) 5 0 72).1 20 (150 * j + w) = M.1 5 w := fun w hw => by rw [cpm_i hw, Nat.zero_add]
    have o1 : ∀ z, (z < 150 * j ∨ 150 * j + 150 ≤ z) → (cpm M 20 (150 * j) 5 0 72).1 20 z = M.1 20 z := fun z hz => cpm_o (by omega)
    have n1 : ∀ b, b ≠ 20 → (cpm M 20 (150 * j) 5 0 72).1 b = M.1 b := fun b hb => cpm_n hb
    have g1 : KF 20 22 [] M (cpm M 20 (150 * j) 5 0 72) := KF.cp (by omega) (by omega) (by omega)
    generalize cpm M 20 (150 * j) 5 0 72 = M1 at r1 o1 n1 g1
    refine b_M_image_20 (br_t (by decide) ?_)
    refine cp_loop (Lp := fun v M2 => wp zY m_M_image (QI Q) 48 [(0, .ref 0), (1, .int (nI j)), (2, .int (nI (150 * j))), (3, .int (nI v))] [] M2) 36 20 (150 * j + 72) 1 0 M1 (Or.inl (by omega)) (fun v M2 hv2 ee nx => ?_) ?_
    · refine b_M_image_48 (pk_le 36 v (fun z => absurd z (by omega)) (fun _ => ⟨vp_in_nI (by omega) (by omega), ?_⟩))
      rw [show nI (150 * j) + 72 = nI (150 * j + 72) from nI_add _ 72, nI_add, nI_clamp (by omega), nI_clamp (by omega), nI_1]
      refine ⟨vp_in_nI (by omega) (by omega), ?_⟩
      rintro N rfl
      rw [Nat.zero_add] at nx
      exact nx
    have r2 : ∀ w, w < 72 → (cpm M1 20 (150 * j + 72) 1 0 36).1 20 (150 * j + w) = M.1 5 w := fun w hw => by rw [cpm_o (by omega), r1 w hw]
    have s2 : ∀ w, w < 36 → (cpm M1 20 (150 * j + 72) 1 0 36).1 20 (150 * j + 72 + w) = M.1 1 w := fun w hw => by rw [cpm_i hw, Nat.zero_add, n1 1 (by omega)]
    have o2 : ∀ z, (z < 150 * j ∨ 150 * j + 150 ≤ z) → (cpm M1 20 (150 * j + 72) 1 0 36).1 20 z = M.1 20 z := fun z hz => by rw [cpm_o (by omega), o1 z hz]
    have n2 : ∀ b, b ≠ 20 → (cpm M1 20 (150 * j + 72) 1 0 36).1 b = M.1 b := fun b hb => by rw [cpm_n hb, n1 b hb]
    have g2 : KF 20 22 [] M (cpm M1 20 (150 * j + 72) 1 0 36) := g1.trans (KF.cp (by omega) (by omega) (by omega))
    generalize cpm M1 20 (150 * j + 72) 1 0 36 = M2 at r2 s2 o2 n2 g2
    refine b_M_image_48 (br_t (by decide) ?_)
    refine cp_loop (Lp := fun v M2 => wp zY m_M_image (QI Q) 79 [(0, .ref 0), (1, .int (nI j)), (2, .int (nI (150 * j))), (3, .int (nI v))] [] M2) 15 20 (150 * j + 108) 3 0 M2 (Or.inl (by omega)) (fun v M2 hv2 ee nx => ?_) ?_
    · refine b_M_image_79 (pk_le 15 v (fun z => absurd z (by omega)) (fun _ => ⟨vp_in_nI (by omega) (by omega), ?_⟩))
      rw [show nI (150 * j) + 108 = nI (150 * j + 108) from nI_add _ 108, nI_add, nI_clamp (by omega), nI_clamp (by omega), nI_1]
      refine ⟨vp_in_nI (by omega) (by omega), ?_⟩
      rintro N rfl
      rw [Nat.zero_add] at nx
      exact nx
    have r3 : ∀ w, w < 72 → (cpm M2 20 (150 * j + 108) 3 0 15).1 20 (150 * j + w) = M.1 5 w := fun w hw => by rw [cpm_o (by omega), r2 w hw]
    have s3 : ∀ w, w < 36 → (cpm M2 20 (150 * j + 108) 3 0 15).1 20 (150 * j + 72 + w) = M.1 1 w := fun w hw => by rw [cpm_o (by omega), s2 w hw]
    have t3 : ∀ w, w < 15 → (cpm M2 20 (150 * j + 108) 3 0 15).1 20 (150 * j + 108 + w) = M.1 3 w := fun w hw => by rw [cpm_i hw, Nat.zero_add, n2 3 (by omega)]
    have o3 : ∀ z, (z < 150 * j ∨ 150 * j + 150 ≤ z) → (cpm M2 20 (150 * j + 108) 3 0 15).1 20 z = M.1 20 z := fun z hz => by rw [cpm_o (by omega), o2 z hz]
    have n3 : ∀ b, b ≠ 20 → (cpm M2 20 (150 * j + 108) 3 0 15).1 b = M.1 b := fun b hb => by rw [cpm_n hb, n2 b hb]
    have g3 : KF 20 22 [] M (cpm M2 20 (150 * j + 108) 3 0 15) := g2.trans (KF.cp (by omega) (by omega) (by omega))
    generalize cpm M2 20 (150 * j + 108) 3 0 15 = M3 at r3 s3 t3 o3 n3 g3
    refine b_M_image_79 (br_t (by decide) ?_)
    refine cp_loop (Lp := fun v M2 => wp zY m_M_image (QI Q) 110 [(0, .ref 0), (1, .int (nI j)), (2, .int (nI (150 * j))), (3, .int (nI v))] [] M2) 6 20 (150 * j + 124) 6 0 M3 (Or.inl (by omega)) (fun v M2 hv2 ee nx => ?_) ?_
    · refine b_M_image_110 (pk_le 6 v (fun z => absurd z (by omega)) (fun _ => ⟨vp_in_nI (by omega) (by omega), ?_⟩))
      rw [show nI (150 * j) + 124 = nI (150 * j + 124) from nI_add _ 124, nI_add, nI_clamp (by omega), nI_clamp (by omega), nI_1]
      refine ⟨vp_in_nI (by omega) (by omega), ?_⟩
      rintro N rfl
      rw [Nat.zero_add] at nx
      exact nx
    have r4 : ∀ w, w < 72 → (cpm M3 20 (150 * j + 124) 6 0 6).1 20 (150 * j + w) = M.1 5 w := fun w hw => by rw [cpm_o (by omega), r3 w hw]
    have s4 : ∀ w, w < 36 → (cpm M3 20 (150 * j + 124) 6 0 6).1 20 (150 * j + 72 + w) = M.1 1 w := fun w hw => by rw [cpm_o (by omega), s3 w hw]
    have t4 : ∀ w, w < 15 → (cpm M3 20 (150 * j + 124) 6 0 6).1 20 (150 * j + 108 + w) = M.1 3 w := fun w hw => by rw [cpm_o (by omega), t3 w hw]
    have u4 : ∀ w, w < 6 → (cpm M3 20 (150 * j + 124) 6 0 6).1 20 (150 * j + 124 + w) = M.1 6 w := fun w hw => by rw [cpm_i hw, Nat.zero_add, n3 6 (by omega)]
    have o4 : ∀ z, (z < 150 * j ∨ 150 * j + 150 ≤ z) → (cpm M3 20 (150 * j + 124) 6 0 6).1 20 z = M.1 20 z := fun z hz => by rw [cpm_o (by omega), o3 z hz]
    have n4 : ∀ b, b ≠ 20 → (cpm M3 20 (150 * j + 124) 6 0 6).1 b = M.1 b := fun b hb => by rw [cpm_n hb, n3 b hb]
    have g4 : KF 20 22 [] M (cpm M3 20 (150 * j + 124) 6 0 6) := g3.trans (KF.cp (by omega) (by omega) (by omega))
    generalize cpm M3 20 (150 * j + 124) 6 0 6 = M4 at r4 s4 t4 u4 o4 n4 g4
    refine b_M_image_110 (br_t (by decide) ?_)
    have lp : ∀ (u v : Nat) (M' : Mem), v + u = 3 → KF 20 22 [] M M' → (∀ b, b ≠ 20 → M'.1 b = M.1 b) → (∀ z, (z < 150 * j + 132 ∨ 150 * j + 140 ≤ z) → M'.1 20 z = M4.1 20 z) → (∀ w, w < v → M'.1 20 (150 * j + 132 + w) = M.1 2 w ∧ M'.1 20 (150 * j + 136 + w) = M.1 4 w) → wp zY m_M_image (QI Q) 141 [(0, .ref 0), (1, .int (nI j)), (2, .int (nI (150 * j))), (3, .int (nI v))] [] M' := by
      intro u
      induction u with
      | zero =>
        intro v M' hvv g n o w
        have : v = 3 := by omega
        subst this
        refine b_M_image_141 (br_t (by decide) ?_)
        rw [show nI (150 * j) + 140 = nI (150 * j + 140) from nI_add _ 140, show nI (150 * j) + 141 = nI (150 * j + 141) from nI_add _ 141]
        refine ⟨vp_in_nI (by omega) (by omega), ?_⟩
        rw [nI_clamp (by omega), nI_clamp (by omega), nI_clamp (by omega)]
        rintro N rfl
        refine ⟨vp_in_nI (by omega) (by omega), ?_⟩
        rintro N rfl
        refine ⟨vp_in_nI (by omega) (by omega), ?_⟩
        rintro N rfl
        rw [uI_n (b := 0) (by omega), n 0 (by omega)]
        have gg : KF 20 22 [] M (uI (uI (uI M' 20 (150 * j + 140) (M.1 0 4)) 20 (150 * j + 141) (M.1 0 7)) 21 j (vp_nar .boolean 1)) := ((g.trans (KF.wI (by omega) (by omega) (by omega))).trans (KF.wI (by omega) (by omega) (by omega))).trans (KF.wI (by omega) (by omega) (by omega))
        refine k _ ⟨h.1.kt gg (by omega), h.2.1.kt gg (by omega), h.2.2.1.kt gg (by omega), fun i hi => ?_⟩
        show match (if i = j then some (aB A) else aI A i) with
          | none => _
          | some b => _
        by_cases e : i = j
        · subst e
          rw [if_pos rfl]
          refine ⟨uI_s, ?_⟩
          have hB := h.2.1
          have q4 : M.1 0 4 = nI (bN (aB A)) := hB.1
          have q7 : M.1 0 7 = nI (bM (aB A)) := hB.2.1
          unfold BM at hB
          rw [q4, q7] at hB
          show BY _ _ _ _ _ _ _ _ _
          rw [uI_n (a := 21) (b := 20) (by omega), uI_s, uI_k (by omega), uI_s, q4, q7]
          refine BY_congr hv.2.1 hB ?_ ?_ ?_ ?_ ?_ ?_
          · intro z hz
            show (uI _ 20 _ _).1 20 (150 * i + 72 + z) = _
            rw [uI_k (by omega), uI_k (by omega), o _ (by omega), s4 z hz]
          · intro z hz
            show (uI _ 20 _ _).1 20 (150 * i + 132 + z) = _
            rw [uI_k (by omega), uI_k (by omega), (w z hz).1]
          · intro z hz
            show (uI _ 20 _ _).1 20 (150 * i + 108 + z) = _
            rw [uI_k (by omega), uI_k (by omega), o _ (by omega), t4 z hz]
          · intro z hz
            show (uI _ 20 _ _).1 20 (150 * i + 136 + z) = _
            rw [uI_k (by omega), uI_k (by omega), (w z hz).2]
          · intro z hz
            show (uI _ 20 _ _).1 20 (150 * i + z) = _
            rw [uI_k (by omega), uI_k (by omega), o _ (by omega), r4 z hz]
          · intro z hz
            show (uI _ 20 _ _).1 20 (150 * i + 124 + z) = _
            rw [uI_k (by omega), uI_k (by omega), o _ (by omega), u4 z hz]
        · rw [if_neg e]
          have := h.2.2.2 i hi
          revert this
          cases hh : aI A i with
          | none =>
            intro t
            show (uI _ 21 j _).1 21 i = 0
            rw [uI_k e, uI_n (by omega), uI_n (by omega), n 21 (by omega)]
            exact t
          | some b =>
            intro t
            refine ⟨?_, ?_⟩
            · show (uI _ 21 j _).1 21 i = 1
              rw [uI_k e, uI_n (by omega), uI_n (by omega), n 21 (by omega)]
              exact t.1
            · have hbb := hv.2.2 i b hh
              have rd : ∀ z, z < 142 → (uI (uI (uI M' 20 (150 * j + 140) (M.1 0 4)) 20 (150 * j + 141) (M.1 0 7)) 21 j (vp_nar .boolean 1)).1 20 (150 * i + z) = M.1 20 (150 * i + z) := fun z hz => by
                rw [uI_n (by omega), uI_k (by omega), uI_k (by omega), o _ (by omega), o4 _ (by omega)]
              show BY _ _ _ _ _ _ _ _ _
              rw [rd 140 (by omega), rd 141 (by omega)]
              refine BY_congr hbb t.2 ?_ ?_ ?_ ?_ ?_ ?_
              · exact fun z hz => by rw [Nat.add_assoc]; exact rd _ (by omega)
              · exact fun z hz => by rw [Nat.add_assoc]; exact rd _ (by omega)
              · exact fun z hz => by rw [Nat.add_assoc]; exact rd _ (by omega)
              · exact fun z hz => by rw [Nat.add_assoc]; exact rd _ (by omega)
              · exact fun z hz => rd _ (by omega)
              · exact fun z hz => by rw [Nat.add_assoc]; exact rd _ (by omega)
      | succ u ih =>
        intro v M' hvv g n o w
        refine b_M_image_141 (pk_le 3 v (fun z => absurd z (by omega)) (fun _ => ⟨vp_in_nI (by omega) (by omega), ?_⟩))
        rw [show nI (150 * j) + 132 = nI (150 * j + 132) from nI_add _ 132, show nI (150 * j) + 136 = nI (150 * j + 136) from nI_add _ 136, nI_add, nI_add, nI_1, nI_clamp (by omega), nI_clamp (by omega), nI_clamp (by omega)]
        refine ⟨vp_in_nI (by omega) (by omega), ?_⟩
        rintro N rfl
        refine ⟨vp_in_nI (by omega) (by omega), vp_in_nI (by omega) (by omega), ?_⟩
        rintro N rfl
        refine ih (v + 1) _ (by omega) ((g.trans (KF.wI (by omega) (by omega) (by omega))).trans (KF.wI (by omega) (by omega) (by omega))) (fun b hb => by rw [uI_n hb, uI_n hb, n b hb]) (fun z hz => by rw [uI_k (by omega), uI_k (by omega), o z hz]) (fun z hz => ?_)
        rw [uI_n (b := 4) (by omega), n 2 (by omega), n 4 (by omega)]
        by_cases e : z = v
        · subst e
          exact ⟨by rw [uI_k (by omega), uI_s], uI_s⟩
        · exact ⟨by rw [uI_k (by omega), uI_k (by omega), (w z (by omega)).1], by rw [uI_k (by omega), uI_k (by omega), (w z (by omega)).2]⟩
    exact lp 3 0 M4 rfl g4 n4 (fun z _ => rfl) (fun z hz => absurd hz (Nat.not_lt_zero z))
  · by_cases z : x < 0
    · rw [if_pos z] at k
      exact br_t rfl (k M h)
    · rw [if_neg z, if_neg (fun y => c ⟨z, ?_⟩)] at k
      · exact br_t rfl (k M h)
      · intro w
        rw [Int32.lt_iff_toInt_lt] at w y
        have z1 : (1 : Int32).toInt = 1 := rfl
        have z2 : (2 : Int32).toInt = 2 := rfl
        omega
theorem M_restore_ok (h : YS M A) (hv : VA A) {x : Int32} {Q : Int32 → Mem → Prop} (k : ∀ M', YS M' (aRestore A x).2 → Q (aRestore A x).1 M') : CallI zY m_M_restore [.ref 0, .int x] M Q := by
  unfold aRestore at k
  refine e_M_restore (M_in_ok (fun c d => ?_) (fun c => ?_))
  · obtain ⟨j, hj, rfl⟩ := nI_of c
    have hj2 : j < 2 := by
      refine Nat.lt_of_not_le fun z => d ?_
      exact (nI_ltI (a := 1) (by omega) hj).mpr z
    rw [if_neg c, if_pos (show nI j < (2 : Int32) from nI_lt (b := 2) hj2 (by omega)), nI_clamp hj] at k
    refine br_f (by decide) ⟨vp_in_nI (by omega) (by omega), ?_⟩
    rw [nI_clamp hj, show (150 : Int32) * nI j = nI (150 * j) from pk_mul 150 j]
    have him := h.2.2.2 j hj2
    revert him
    cases hh : aI A j with
    | none =>
      intro t
      rw [hh] at k
      exact br_t t (k M h)
    | some b =>
      intro t
      rw [hh] at k
      have hbb := hv.2.2 j b hh
      refine br_f (fun z => absurd (t.1.symm.trans z) (by decide)) ?_
      refine cp_loop (Lp := fun v M2 => wp zY m_M_restore (QI Q) 32 [(0, .ref 0), (2, .int (nI (150 * j))), (3, .int (nI v))] [] M2) 72 5 0 20 (150 * j) M (Or.inl (by omega)) (fun v M2 hv2 ee nx => ?_) ?_
      · refine b_M_restore_32 (pk_le 72 v (fun z => absurd z (by omega)) (fun _ => ?_))
        rw [nI_add, nI_clamp (by omega), nI_clamp (by omega), nI_1]
        refine ⟨vp_in_nI (by omega) (by omega), vp_in_nI (by omega) (by omega), ?_⟩
        rintro N rfl
        rw [Nat.zero_add] at nx
        exact nx
      have r1 : ∀ w, w < 72 → (cpm M 5 0 20 (150 * j) 72).1 5 w = M.1 20 (150 * j + w) := fun w hw => by
        have := cpm_i (M := M) (d := 5) (off := 0) (s := 20) (soff := 150 * j) hw
        rw [Nat.zero_add] at this
        exact this
      have n1 : ∀ b, b ≠ 5 → (cpm M 5 0 20 (150 * j) 72).1 b = M.1 b := fun b hb => cpm_n hb
      have g1 : KF 1 7 [4, 7, 8] M (cpm M 5 0 20 (150 * j) 72) := KF.cp (by omega) (by omega) (by omega)
      generalize cpm M 5 0 20 (150 * j) 72 = M1 at r1 n1 g1
      refine b_M_restore_32 (br_t (by decide) ?_)
      refine cp_loop (Lp := fun v M2 => wp zY m_M_restore (QI Q) 60 [(0, .ref 0), (2, .int (nI (150 * j))), (3, .int (nI v))] [] M2) 36 1 0 20 (150 * j + 72) M1 (Or.inl (by omega)) (fun v M2 hv2 ee nx => ?_) ?_
      · refine b_M_restore_60 (pk_le 36 v (fun z => absurd z (by omega)) (fun _ => ?_))
        rw [show nI (150 * j) + 72 = nI (150 * j + 72) from nI_add _ 72, nI_add, nI_clamp (by omega), nI_clamp (by omega), nI_1]
        refine ⟨vp_in_nI (by omega) (by omega), vp_in_nI (by omega) (by omega), ?_⟩
        rintro N rfl
        rw [Nat.zero_add] at nx
        exact nx
      have s2 : ∀ w, w < 36 → (cpm M1 1 0 20 (150 * j + 72) 36).1 1 w = M.1 20 (150 * j + 72 + w) := fun w hw => by
        have := cpm_i (M := M1) (d := 1) (off := 0) (s := 20) (soff := 150 * j + 72) hw
        rw [Nat.zero_add, n1 20 (by omega)] at this
        exact this
      have n2 : ∀ b, b ≠ 1 → (cpm M1 1 0 20 (150 * j + 72) 36).1 b = M1.1 b := fun b hb => cpm_n hb
      have g2 : KF 1 7 [4, 7, 8] M (cpm M1 1 0 20 (150 * j + 72) 36) := g1.trans (KF.cp (by omega) (by omega) (by omega))
      generalize cpm M1 1 0 20 (150 * j + 72) 36 = M2 at s2 n2 g2
      refine b_M_restore_60 (br_t (by decide) ?_)
      refine cp_loop (Lp := fun v M2 => wp zY m_M_restore (QI Q) 91 [(0, .ref 0), (2, .int (nI (150 * j))), (3, .int (nI v))] [] M2) 15 3 0 20 (150 * j + 108) M2 (Or.inl (by omega)) (fun v M2 hv2 ee nx => ?_) ?_
      · refine b_M_restore_91 (pk_le 15 v (fun z => absurd z (by omega)) (fun _ => ?_))
        rw [show nI (150 * j) + 108 = nI (150 * j + 108) from nI_add _ 108, nI_add, nI_clamp (by omega), nI_clamp (by omega), nI_1]
        refine ⟨vp_in_nI (by omega) (by omega), vp_in_nI (by omega) (by omega), ?_⟩
        rintro N rfl
        rw [Nat.zero_add] at nx
        exact nx
      have t3 : ∀ w, w < 15 → (cpm M2 3 0 20 (150 * j + 108) 15).1 3 w = M.1 20 (150 * j + 108 + w) := fun w hw => by
        have := cpm_i (M := M2) (d := 3) (off := 0) (s := 20) (soff := 150 * j + 108) hw
        rw [Nat.zero_add, n2 20 (by omega), n1 20 (by omega)] at this
        exact this
      have n3 : ∀ b, b ≠ 3 → (cpm M2 3 0 20 (150 * j + 108) 15).1 b = M2.1 b := fun b hb => cpm_n hb
      have g3 : KF 1 7 [4, 7, 8] M (cpm M2 3 0 20 (150 * j + 108) 15) := g2.trans (KF.cp (by omega) (by omega) (by omega))
      generalize cpm M2 3 0 20 (150 * j + 108) 15 = M3 at t3 n3 g3
      refine b_M_restore_91 (br_t (by decide) ?_)
      refine cp_loop (Lp := fun v M2 => wp zY m_M_restore (QI Q) 122 [(0, .ref 0), (2, .int (nI (150 * j))), (3, .int (nI v))] [] M2) 6 6 0 20 (150 * j + 124) M3 (Or.inl (by omega)) (fun v M2 hv2 ee nx => ?_) ?_
      · refine b_M_restore_122 (pk_le 6 v (fun z => absurd z (by omega)) (fun _ => ?_))
        rw [show nI (150 * j) + 124 = nI (150 * j + 124) from nI_add _ 124, nI_add, nI_clamp (by omega), nI_clamp (by omega), nI_1]
        refine ⟨vp_in_nI (by omega) (by omega), vp_in_nI (by omega) (by omega), ?_⟩
        rintro N rfl
        rw [Nat.zero_add] at nx
        exact nx
      have u4 : ∀ w, w < 6 → (cpm M3 6 0 20 (150 * j + 124) 6).1 6 w = M.1 20 (150 * j + 124 + w) := fun w hw => by
        have := cpm_i (M := M3) (d := 6) (off := 0) (s := 20) (soff := 150 * j + 124) hw
        rw [Nat.zero_add, n3 20 (by omega), n2 20 (by omega), n1 20 (by omega)] at this
        exact this
      have n4 : ∀ b, b ≠ 6 → (cpm M3 6 0 20 (150 * j + 124) 6).1 b = M3.1 b := fun b hb => cpm_n hb
      have g4 : KF 1 7 [4, 7, 8] M (cpm M3 6 0 20 (150 * j + 124) 6) := g3.trans (KF.cp (by omega) (by omega) (by omega))
      generalize cpm M3 6 0 20 (150 * j + 124) 6 = M4 at u4 n4 g4
      refine b_M_restore_122 (br_t (by decide) ?_)
      have lp : ∀ (u v : Nat) (M' : Mem), v + u = 3 → KF 1 7 [4, 7, 8] M M' → (∀ b, b ≠ 2 → b ≠ 4 → M'.1 b = M4.1 b) → (∀ w, w < v → M'.1 2 w = M.1 20 (150 * j + 132 + w) ∧ M'.1 4 w = M.1 20 (150 * j + 136 + w)) → wp zY m_M_restore (QI Q) 153 [(0, .ref 0), (2, .int (nI (150 * j))), (3, .int (nI v))] [] M' := by
        intro u
        induction u with
        | zero =>
          intro v M' hvv g n w
          have : v = 3 := by omega
          subst this
          have e20 : M'.1 20 = M.1 20 := by rw [n 20 (by omega) (by omega), n4 20 (by omega), n3 20 (by omega), n2 20 (by omega), n1 20 (by omega)]
          refine b_M_restore_153 (br_t (by decide) ?_)
          rw [show nI (150 * j) + 140 = nI (150 * j + 140) from nI_add _ 140, show nI (150 * j) + 141 = nI (150 * j + 141) from nI_add _ 141]
          refine ⟨vp_in_nI (by omega) (by omega), ?_⟩
          rw [nI_clamp (by omega), nI_clamp (by omega), e20]
          rintro N rfl
          refine ⟨vp_in_nI (by omega) (by omega), ?_⟩
          rw [uI_n (b := 20) (by omega), e20]
          rintro N rfl
          have gg : KF 1 7 [4, 7, 8] M (uI (uI M' 0 4 (M.1 20 (150 * j + 140))) 0 7 (M.1 20 (150 * j + 141))) := (g.trans KF.wz).trans KF.wz
          refine k _ (h.bk gg ?_ ⟨by rw [uI_k (by omega), uI_k (by omega), n 0 (by omega) (by omega), n4 0 (by omega), n3 0 (by omega), n2 0 (by omega), n1 0 (by omega)]; exact h.1.1, by rw [uI_n (by omega), uI_n (by omega), n 7 (by omega) (by omega), n4 7 (by omega), n3 7 (by omega), n2 7 (by omega), n1 7 (by omega)]; exact h.1.2⟩)
          unfold BM
          rw [uI_k (a := 0) (k := 7) (j := 4) (by omega), uI_s, uI_s]
          refine BY_congr hbb t.2 ?_ ?_ ?_ ?_ ?_ ?_
          · intro z hz
            rw [uI_n (by omega), uI_n (by omega), n 1 (by omega) (by omega), n4 1 (by omega), n3 1 (by omega), s2 z hz]
          · intro z hz
            rw [uI_n (by omega), uI_n (by omega), (w z hz).1]
          · intro z hz
            rw [uI_n (by omega), uI_n (by omega), n 3 (by omega) (by omega), n4 3 (by omega), t3 z hz]
          · intro z hz
            rw [uI_n (by omega), uI_n (by omega), (w z hz).2]
          · intro z hz
            rw [uI_n (by omega), uI_n (by omega), n 5 (by omega) (by omega), n4 5 (by omega), n3 5 (by omega), n2 5 (by omega), r1 z hz]
          · intro z hz
            rw [uI_n (by omega), uI_n (by omega), n 6 (by omega) (by omega), u4 z hz]
        | succ u ih =>
          intro v M' hvv g n w
          have e20 : M'.1 20 = M.1 20 := by rw [n 20 (by omega) (by omega), n4 20 (by omega), n3 20 (by omega), n2 20 (by omega), n1 20 (by omega)]
          refine b_M_restore_153 (pk_le 3 v (fun z => absurd z (by omega)) (fun _ => ?_))
          rw [show nI (150 * j) + 132 = nI (150 * j + 132) from nI_add _ 132, show nI (150 * j) + 136 = nI (150 * j + 136) from nI_add _ 136, nI_add, nI_add, nI_1, nI_clamp (by omega), nI_clamp (by omega), nI_clamp (by omega), e20]
          refine ⟨vp_in_nI (by omega) (by omega), vp_in_nI (by omega) (by omega), ?_⟩
          rintro N rfl
          refine ⟨vp_in_nI (by omega) (by omega), vp_in_nI (by omega) (by omega), ?_⟩
          rw [uI_n (b := 20) (by omega), e20]
          rintro N rfl
          refine ih (v + 1) _ (by omega) ((g.trans (KF.wI (by omega) (by omega) (by omega))).trans (KF.wI (by omega) (by omega) (by omega))) (fun b hb hb2 => by rw [uI_n hb2, uI_n hb, n b hb hb2]) (fun z hz => ?_)
          rw [uI_n (b := 2) (by omega)]
          by_cases e : z = v
          · subst e
            exact ⟨uI_s, uI_s⟩
          · exact ⟨by rw [uI_k e, (w z (by omega)).1], by rw [uI_k e, uI_n (by omega), (w z (by omega)).2]⟩
      exact lp 3 0 M4 rfl g4 (fun _ _ _ => rfl) (fun z hz => absurd hz (Nat.not_lt_zero z))
  · by_cases z : x < 0
    · rw [if_pos z] at k
      exact br_t rfl (k M h)
    · rw [if_neg z, if_neg (fun y => c ⟨z, ?_⟩)] at k
      · exact br_t rfl (k M h)
      · intro w
        rw [Int32.lt_iff_toInt_lt] at w y
        have z1 : (1 : Int32).toInt = 1 := rfl
        have z2 : (2 : Int32).toInt = 2 := rfl
        omega
end ZS5
