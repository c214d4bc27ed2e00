/-! walks, by program: what must hold from each cut point on -/
theorem e_Ft_clear {Q : Mem → Prop} {M : Mem}  (h : ∀ N1, N1 = uI M 46 8 0 → (Q N1)) : CallV zX m_Ft_clear [.ref 46] M Q := by
  refine call_of (by decide) (Nat.le_of_ble_eq_true rfl) ?_
  show wp zX m_Ft_clear (QV Q) 0 [(0, .ref 46)] [] M
  refine zt_aload_n 0 d_Ft_clear_0 rfl rfl rfl ?_
  refine zt_iconst (v := 0) d_Ft_clear_1 rfl (by decide) ?_
  refine zt_putI d_Ft_clear_2 rfl fl_Ft_47 rfl ?_
  have h2 := h _ rfl
  exact zt_vret rfl d_Ft_clear_5 ⟨rfl, h2⟩
theorem e_Ft_addRow {Q : Mem → Prop} {M : Mem} {a1 n1 : Nat} (t1 : T_Sg zX a1 n1) {a2 n2 : Nat} (t2 : T_Sg zX a2 n2) (h : (4 ≤ (M.1 46 8) → (Q M)) ∧ (¬ 4 ≤ (M.1 46 8) → (vp_in (M.1 46 8) 4 ∧ (CallV zX m_Rw_become [.ref (47 + 11 + 19 * (M.1 46 8).toNatClampNeg), .ref a1, .ref a2] M (fun M7 => ∀ N9, N9 = uI M7 46 8 ((M7.1 46 8) + 1) → (Q N9)))))) : CallV zX m_Ft_addRow [.ref 46, .ref a1, .ref a2] M Q := by
  refine call_of (by decide) (Nat.le_of_ble_eq_true rfl) ?_
  show wp zX m_Ft_addRow (QV Q) 0 [(0, .ref 46), (1, .ref a1), (2, .ref a2)] [] M
  refine zt_aload_n 0 d_Ft_addRow_0 rfl rfl rfl ?_
  refine zt_getI d_Ft_addRow_1 rfl fl_Ft_47 rfl ?_
  refine zt_iconst (v := 4) d_Ft_addRow_4 rfl (by decide) ?_
  refine zt_icmp_ge d_Ft_addRow_5 rfl (tgt := 32) (by decide) ⟨fun c1 => ?_, fun c1 => ?_⟩
  · have h2 := h.1 c1
    exact zt_vret rfl d_Ft_addRow_32 ⟨rfl, h2⟩
  · have h3 := h.2 c1
    refine zt_aload_n 0 d_Ft_addRow_8 rfl rfl rfl ?_
    refine zt_getR (b := 47) d_Ft_addRow_9 rfl fl_Ft_13 rfl rfl ?_
    refine zt_aload_n 0 d_Ft_addRow_12 rfl rfl rfl ?_
    refine zt_getI d_Ft_addRow_13 rfl fl_Ft_47 rfl ?_
    obtain ⟨g4, h5⟩ := h3
    refine zt_aald (b := 47 + 11 + 19 * (M.1 46 8).toNatClampNeg) d_Ft_addRow_16 rfl (fun _ => rfl) rfl (by decide) (by decide) rfl g4 rfl ?_
    refine zt_aload_n 1 d_Ft_addRow_17 rfl rfl rfl ?_
    refine zt_aload_n 2 d_Ft_addRow_18 rfl rfl rfl ?_
    refine zt_callVV (as := [.ref a1, .ref a2]) d_Ft_addRow_19 rfl mi_Rw_become ⟨Nat.le_of_ble_eq_true rfl, Nat.le_of_ble_eq_true rfl⟩ wd_351 rfl rfl (Nat.le_of_ble_eq_true rfl) (T_rows _ (vp_lt g4)).1 h5 (fun M7 h6 => ?_)
    refine zt_aload_n 0 d_Ft_addRow_22 rfl rfl rfl ?_
    refine zt_dup d_Ft_addRow_23 rfl rfl ?_
    refine zt_getI d_Ft_addRow_24 rfl fl_Ft_47 rfl ?_
    refine zt_iconst (v := 1) d_Ft_addRow_27 rfl (by decide) ?_
    refine zt_iadd d_Ft_addRow_28 rfl ?_
    refine zt_putI d_Ft_addRow_29 rfl fl_Ft_47 rfl ?_
    have h10 := h6 _ rfl
    exact zt_vret rfl d_Ft_addRow_32 ⟨rfl, h10⟩
theorem e_Ft_dropRow {Q : Mem → Prop} {M : Mem}  (h : ((M.1 46 8) ≤ 0 → (Q M)) ∧ (¬ (M.1 46 8) ≤ 0 → (∀ N4, N4 = uI M 46 8 ((M.1 46 8) - 1) → (Q N4)))) : CallV zX m_Ft_dropRow [.ref 46] M Q := by
  refine call_of (by decide) (Nat.le_of_ble_eq_true rfl) ?_
  show wp zX m_Ft_dropRow (QV Q) 0 [(0, .ref 46)] [] M
  refine zt_aload_n 0 d_Ft_dropRow_0 rfl rfl rfl ?_
  refine zt_getI d_Ft_dropRow_1 rfl fl_Ft_47 rfl ?_
  refine zt_if_le d_Ft_dropRow_4 rfl (tgt := 17) (by decide) ⟨fun c1 => ?_, fun c1 => ?_⟩
  · have h2 := h.1 c1
    exact zt_vret rfl d_Ft_dropRow_17 ⟨rfl, h2⟩
  · have h3 := h.2 c1
    refine zt_aload_n 0 d_Ft_dropRow_7 rfl rfl rfl ?_
    refine zt_dup d_Ft_dropRow_8 rfl rfl ?_
    refine zt_getI d_Ft_dropRow_9 rfl fl_Ft_47 rfl ?_
    refine zt_iconst (v := 1) d_Ft_dropRow_12 rfl (by decide) ?_
    refine zt_isub d_Ft_dropRow_13 rfl ?_
    refine zt_putI d_Ft_dropRow_14 rfl fl_Ft_47 rfl ?_
    have h5 := h3 _ rfl
    exact zt_vret rfl d_Ft_dropRow_17 ⟨rfl, h5⟩
theorem e_Ft_count {Q : Int64 → Mem → Prop} {M : Mem}  (h : CallV zX m_Ft_groupMarks [.ref 46] M (fun M2 => wp zX m_Ft_count (QL Q) 6 [(0, .ref 46), (1, .int 0)] [] M2)) : CallL zX m_Ft_count [.ref 46] M Q := by
  refine call_of (by decide) (Nat.le_of_ble_eq_true rfl) ?_
  show wp zX m_Ft_count (QL Q) 0 [(0, .ref 46)] [] M
  refine zt_aload_n 0 d_Ft_count_0 rfl rfl rfl ?_
  refine zt_callVV (as := []) d_Ft_count_1 rfl mi_Ft_groupMarks ⟨Nat.le_of_ble_eq_true rfl, Nat.le_of_ble_eq_true rfl⟩ wd_386 rfl rfl (Nat.le_of_ble_eq_true rfl) rfl h (fun M2 h1 => ?_)
  refine zt_iconst (v := 0) d_Ft_count_4 rfl (by decide) ?_
  refine zt_istore_n d_Ft_count_5 rfl rfl (by decide) rfl ?_
  exact zt_sub [1, 0] rfl h1
theorem b_Ft_count_6 {Q : Int64 → Mem → Prop} {M : Mem} {x1 : Int32} (h : (1296 ≤ x1 → (vp_in 0 1296 ∧ (∀ N6, N6 = uL M 56 (0 : Int32).toNatClampNeg 1 → (CallI zX m_Ft_lastState [.ref 46] N6 (fun r9 M8 => wp zX m_Ft_count (QL Q) 40 [(0, .ref 46), (1, .int r9), (2, .int 0)] [] M8))))) ∧ (¬ 1296 ≤ x1 → (vp_in x1 1296 ∧ (∀ N12, N12 = uL M 56 x1.toNatClampNeg 0 → (wp zX m_Ft_count (QL Q) 6 [(0, .ref 46), (1, .int (x1 + 1))] [] N12))))) : wp zX m_Ft_count (QL Q) 6 [(0, .ref 46), (1, .int x1)] [] M := by
  refine zt_iload_n 1 d_Ft_count_6 rfl rfl rfl ?_
  refine zt_sipush (v := 1296) d_Ft_count_7 rfl (by decide) ?_
  refine zt_icmp_ge d_Ft_count_10 rfl (tgt := 26) (by decide) ⟨fun c1 => ?_, fun c1 => ?_⟩
  · have h2 := h.1 c1
    refine zt_aload_n 0 d_Ft_count_26 rfl rfl rfl ?_
    refine zt_getR (b := 56) d_Ft_count_27 rfl fl_Ft_39 rfl rfl ?_
    refine zt_iconst (v := 0) d_Ft_count_30 rfl (by decide) ?_
    refine zt_lconst (v := 1) d_Ft_count_31 rfl (by decide) ?_
    obtain ⟨g4, h5⟩ := h2
    refine zt_last d_Ft_count_32 rfl rfl g4 ?_
    have h5 := h5 _ rfl
    refine zt_aload_n 0 d_Ft_count_33 rfl rfl rfl ?_
    refine zt_callVI (as := []) d_Ft_count_34 rfl mi_Ft_lastState ⟨Nat.le_of_ble_eq_true rfl, Nat.le_of_ble_eq_true rfl⟩ wd_412 rfl rfl (Nat.le_of_ble_eq_true rfl) rfl h5 (fun r9 M8 h7 => ?_)
    refine zt_istore_n d_Ft_count_37 rfl rfl (by decide) rfl ?_
    refine zt_iconst (v := 0) d_Ft_count_38 rfl (by decide) ?_
    refine zt_istore_n d_Ft_count_39 rfl rfl (by decide) rfl ?_
    exact zt_sub [2, 1, 0] rfl h7
  · have h3 := h.2 c1
    refine zt_aload_n 0 d_Ft_count_13 rfl rfl rfl ?_
    refine zt_getR (b := 56) d_Ft_count_14 rfl fl_Ft_39 rfl rfl ?_
    refine zt_iload_n 1 d_Ft_count_17 rfl rfl rfl ?_
    refine zt_lconst (v := 0) d_Ft_count_18 rfl (by decide) ?_
    obtain ⟨g10, h11⟩ := h3
    refine zt_last d_Ft_count_19 rfl rfl g10 ?_
    have h11 := h11 _ rfl
    refine zt_iinc (v := (x1 + 1)) 1 d_Ft_count_20 rfl rfl rfl (by decide) rfl ?_
    refine zt_goto d_Ft_count_23 (tgt := 6) (by decide) ?_
    exact zt_sub [1, 0] rfl h11
theorem b_Ft_count_40 {Q : Int64 → Mem → Prop} {M : Mem} {x1 : Int32} {x2 : Int32} (h : (x1 ≤ x2 → (vp_in x1 1296 ∧ (Q (M.2 56 x1.toNatClampNeg) M))) ∧ (¬ x1 ≤ x2 → (vp_in x2 1296 ∧ (((lg_cmp (M.2 56 x2.toNatClampNeg) 0) = 0 → (wp zX m_Ft_count (QL Q) 40 [(0, .ref 46), (1, .int x1), (2, .int (x2 + 1))] [] M)) ∧ (¬ (lg_cmp (M.2 56 x2.toNatClampNeg) 0) = 0 → (CallV zX m_Ft_listMoves [.ref 46, .int x2] M (fun M12 => wp zX m_Ft_count (QL Q) 63 [(0, .ref 46), (1, .int x1), (2, .int x2), (3, .int 0)] [] M12))))))) : wp zX m_Ft_count (QL Q) 40 [(0, .ref 46), (1, .int x1), (2, .int x2)] [] M := by
  refine zt_iload_n 2 d_Ft_count_40 rfl rfl rfl ?_
  refine zt_iload_n 1 d_Ft_count_41 rfl rfl rfl ?_
  refine zt_icmp_ge d_Ft_count_42 rfl (tgt := 114) (by decide) ⟨fun c1 => ?_, fun c1 => ?_⟩
  · have h2 := h.1 c1
    refine zt_aload_n 0 d_Ft_count_114 rfl rfl rfl ?_
    refine zt_getR (b := 56) d_Ft_count_115 rfl fl_Ft_39 rfl rfl ?_
    refine zt_iload_n 1 d_Ft_count_118 rfl rfl rfl ?_
    obtain ⟨g4, h5⟩ := h2
    refine zt_lald d_Ft_count_119 rfl rfl g4 ?_
    exact zt_lret rfl d_Ft_count_120 ⟨_, rfl, h5⟩
  · have h3 := h.2 c1
    refine zt_aload_n 0 d_Ft_count_45 rfl rfl rfl ?_
    refine zt_getR (b := 56) d_Ft_count_46 rfl fl_Ft_39 rfl rfl ?_
    refine zt_iload_n 2 d_Ft_count_49 rfl rfl rfl ?_
    obtain ⟨g6, h7⟩ := h3
    refine zt_lald d_Ft_count_50 rfl rfl g6 ?_
    refine zt_lconst (v := 0) d_Ft_count_51 rfl (by decide) ?_
    refine zt_lcmp d_Ft_count_52 rfl ?_
    refine zt_if_eq d_Ft_count_53 rfl (tgt := 108) (by decide) ⟨fun c8 => ?_, fun c8 => ?_⟩
    · have h9 := h7.1 c8
      refine zt_iinc (v := (x2 + 1)) 2 d_Ft_count_108 rfl rfl rfl (by decide) rfl ?_
      refine zt_goto d_Ft_count_111 (tgt := 40) (by decide) ?_
      exact zt_sub [1, 2, 0] rfl h9
    · have h10 := h7.2 c8
      refine zt_aload_n 0 d_Ft_count_56 rfl rfl rfl ?_
      refine zt_iload_n 2 d_Ft_count_57 rfl rfl rfl ?_
      refine zt_callVV (as := [.int x2]) d_Ft_count_58 rfl mi_Ft_listMoves ⟨Nat.le_of_ble_eq_true rfl, Nat.le_of_ble_eq_true rfl⟩ wd_421 rfl rfl (Nat.le_of_ble_eq_true rfl) rfl h10 (fun M12 h11 => ?_)
      refine zt_iconst (v := 0) d_Ft_count_61 rfl (by decide) ?_
      refine zt_istore_n d_Ft_count_62 rfl rfl (by decide) rfl ?_
      exact zt_sub [1, 2, 3, 0] rfl h11
theorem b_Ft_count_63 {Q : Int64 → Mem → Prop} {M : Mem} {x1 : Int32} {x2 : Int32} {x3 : Int32} (h : CallI zX m_Mv_many [.ref 52] M (fun r3 M2 => (r3 ≤ x3 → (wp zX m_Ft_count (QL Q) 40 [(0, .ref 46), (1, .int x1), (2, .int (x2 + 1))] [] M2)) ∧ (¬ r3 ≤ x3 → (CallI zX m_Mv_target [.ref 52, .int x3] M2 (fun r9 M8 => vp_in x2 1296 ∧ (CallI zX m_Mv_pieces [.ref 52, .int x3] M8 (fun r14 M13 => CallV zX m_Ft_addWays [.ref 46, .int r9, .long ((M8.2 56 x2.toNatClampNeg) * r14.toInt64)] M13 (fun M16 => wp zX m_Ft_count (QL Q) 63 [(0, .ref 46), (1, .int x1), (2, .int x2), (3, .int (x3 + 1))] [] M16)))))))) : wp zX m_Ft_count (QL Q) 63 [(0, .ref 46), (1, .int x1), (2, .int x2), (3, .int x3)] [] M := by
  refine zt_iload_n 3 d_Ft_count_63 rfl rfl rfl ?_
  refine zt_aload_n 0 d_Ft_count_64 rfl rfl rfl ?_
  refine zt_getR (b := 52) d_Ft_count_65 rfl fl_Ft_35 rfl rfl ?_
  refine zt_callVI (as := []) d_Ft_count_68 rfl mi_Mv_many ⟨Nat.le_of_ble_eq_true rfl, Nat.le_of_ble_eq_true rfl⟩ wd_478 rfl rfl (Nat.le_of_ble_eq_true rfl) rfl h (fun r3 M2 h1 => ?_)
  refine zt_icmp_ge d_Ft_count_71 rfl (tgt := 108) (by decide) ⟨fun c4 => ?_, fun c4 => ?_⟩
  · have h5 := h1.1 c4
    refine zt_iinc (v := (x2 + 1)) 2 d_Ft_count_108 rfl rfl rfl (by decide) rfl ?_
    refine zt_goto d_Ft_count_111 (tgt := 40) (by decide) ?_
    exact zt_sub [1, 2, 0] rfl h5
  · have h6 := h1.2 c4
    refine zt_aload_n 0 d_Ft_count_74 rfl rfl rfl ?_
    refine zt_aload_n 0 d_Ft_count_75 rfl rfl rfl ?_
    refine zt_getR (b := 52) d_Ft_count_76 rfl fl_Ft_35 rfl rfl ?_
    refine zt_iload_n 3 d_Ft_count_79 rfl rfl rfl ?_
    refine zt_callVI (as := [.int x3]) d_Ft_count_80 rfl mi_Mv_target ⟨Nat.le_of_ble_eq_true rfl, Nat.le_of_ble_eq_true rfl⟩ wd_482 rfl rfl (Nat.le_of_ble_eq_true rfl) rfl h6 (fun r9 M8 h7 => ?_)
    refine zt_aload_n 0 d_Ft_count_83 rfl rfl rfl ?_
    refine zt_getR (b := 56) d_Ft_count_84 rfl fl_Ft_39 rfl rfl ?_
    refine zt_iload_n 2 d_Ft_count_87 rfl rfl rfl ?_
    obtain ⟨g10, h11⟩ := h7
    refine zt_lald d_Ft_count_88 rfl rfl g10 ?_
    refine zt_aload_n 0 d_Ft_count_89 rfl rfl rfl ?_
    refine zt_getR (b := 52) d_Ft_count_90 rfl fl_Ft_35 rfl rfl ?_
    refine zt_iload_n 3 d_Ft_count_93 rfl rfl rfl ?_
    refine zt_callVI (as := [.int x3]) d_Ft_count_94 rfl mi_Mv_pieces ⟨Nat.le_of_ble_eq_true rfl, Nat.le_of_ble_eq_true rfl⟩ wd_486 rfl rfl (Nat.le_of_ble_eq_true rfl) rfl h11 (fun r14 M13 h12 => ?_)
    refine zt_i2l d_Ft_count_97 rfl ?_
    refine zt_lmul d_Ft_count_98 rfl ?_
    refine zt_callVV (as := [.int r9, .long ((M8.2 56 x2.toNatClampNeg) * r14.toInt64)]) d_Ft_count_99 rfl mi_Ft_addWays ⟨Nat.le_of_ble_eq_true rfl, Nat.le_of_ble_eq_true rfl⟩ wd_490 rfl rfl (Nat.le_of_ble_eq_true rfl) rfl h12 (fun M16 h15 => ?_)
    refine zt_iinc (v := (x3 + 1)) 3 d_Ft_count_102 rfl rfl rfl (by decide) rfl ?_
    refine zt_goto d_Ft_count_105 (tgt := 63) (by decide) ?_
    exact zt_sub [1, 2, 3, 0] rfl h15
theorem e_Ft_addWays {Q : Mem → Prop} {M : Mem} {x1 : Int32} {x2 : Int64} (h : (x1 < 0 → (Q M)) ∧ (¬ x1 < 0 → ((1296 ≤ x1 → (Q M)) ∧ (¬ 1296 ≤ x1 → (vp_in x1 1296 ∧ (vp_in x1 1296 ∧ (∀ N11, N11 = uL M 56 x1.toNatClampNeg ((M.2 56 x1.toNatClampNeg) + x2) → (Q N11)))))))) : CallV zX m_Ft_addWays [.ref 46, .int x1, .long x2] M Q := by
  refine call_of (by decide) (Nat.le_of_ble_eq_true rfl) ?_
  show wp zX m_Ft_addWays (QV Q) 0 [(0, .ref 46), (1, .int x1), (2, .long x2)] [] M
  refine zt_iload_n 1 d_Ft_addWays_0 rfl rfl rfl ?_
  refine zt_if_lt d_Ft_addWays_1 rfl (tgt := 21) (by decide) ⟨fun c1 => ?_, fun c1 => ?_⟩
  · have h2 := h.1 c1
    exact zt_vret rfl d_Ft_addWays_21 ⟨rfl, h2⟩
  · have h3 := h.2 c1
    refine zt_iload_n 1 d_Ft_addWays_4 rfl rfl rfl ?_
    refine zt_sipush (v := 1296) d_Ft_addWays_5 rfl (by decide) ?_
    refine zt_icmp_ge d_Ft_addWays_8 rfl (tgt := 21) (by decide) ⟨fun c4 => ?_, fun c4 => ?_⟩
    · have h5 := h3.1 c4
      exact zt_vret rfl d_Ft_addWays_21 ⟨rfl, h5⟩
    · have h6 := h3.2 c4
      refine zt_aload_n 0 d_Ft_addWays_11 rfl rfl rfl ?_
      refine zt_getR (b := 56) d_Ft_addWays_12 rfl fl_Ft_39 rfl rfl ?_
      refine zt_iload_n 1 d_Ft_addWays_15 rfl rfl rfl ?_
      refine zt_dup2 d_Ft_addWays_16 rfl rfl rfl ?_
      obtain ⟨g7, h8⟩ := h6
      refine zt_lald d_Ft_addWays_17 rfl rfl g7 ?_
      refine zt_lload_n 2 d_Ft_addWays_18 rfl rfl rfl ?_
      refine zt_ladd d_Ft_addWays_19 rfl ?_
      obtain ⟨g9, h10⟩ := h8
      refine zt_last d_Ft_addWays_20 rfl rfl g9 ?_
      have h10 := h10 _ rfl
      exact zt_vret rfl d_Ft_addWays_21 ⟨rfl, h10⟩
theorem e_Ft_weigh {Q : Mem → Prop} {M : Mem}  (h : CallI zX m_Ft_lastState [.ref 46] M (fun r3 M2 => vp_in r3 1296 ∧ (∀ N6, N6 = uI M2 57 r3.toNatClampNeg 0 → (wp zX m_Ft_weigh (QV Q) 16 [(0, .ref 46), (2, .int (r3 - 1))] [] N6)))) : CallV zX m_Ft_weigh [.ref 46] M Q := by
  refine call_of (by decide) (Nat.le_of_ble_eq_true rfl) ?_
  show wp zX m_Ft_weigh (QV Q) 0 [(0, .ref 46)] [] M
  refine zt_aload_n 0 d_Ft_weigh_0 rfl rfl rfl ?_
  refine zt_callVI (as := []) d_Ft_weigh_1 rfl mi_Ft_lastState ⟨Nat.le_of_ble_eq_true rfl, Nat.le_of_ble_eq_true rfl⟩ wd_412 rfl rfl (Nat.le_of_ble_eq_true rfl) rfl h (fun r3 M2 h1 => ?_)
  refine zt_istore_n d_Ft_weigh_4 rfl rfl (by decide) rfl ?_
  refine zt_aload_n 1 d_Ft_weigh_5 rfl rfl rfl ?_
  refine zt_getR (b := 57) d_Ft_weigh_6 rfl fl_Ft_43 rfl rfl ?_
  refine zt_iload_n 0 d_Ft_weigh_9 rfl rfl rfl ?_
  refine zt_iconst (v := 0) d_Ft_weigh_10 rfl (by decide) ?_
  obtain ⟨g4, h5⟩ := h1
  refine zt_iast d_Ft_weigh_11 rfl rfl g4 ?_
  have h5 := h5 _ rfl
  refine zt_iload_n 0 d_Ft_weigh_12 rfl rfl rfl ?_
  refine zt_iconst (v := 1) d_Ft_weigh_13 rfl (by decide) ?_
  refine zt_isub d_Ft_weigh_14 rfl ?_
  refine zt_istore_n d_Ft_weigh_15 rfl rfl (by decide) rfl ?_
  exact zt_sub [2, 0] rfl h5
theorem b_Ft_weigh_16 {Q : Mem → Prop} {M : Mem} {x2 : Int32} (h : (x2 < 0 → (Q M)) ∧ (¬ x2 < 0 → (vp_in x2 1296 ∧ (((lg_cmp (M.2 56 x2.toNatClampNeg) 0) = 0 → (wp zX m_Ft_weigh (QV Q) 16 [(0, .ref 46), (2, .int (x2 + (-1)))] [] M)) ∧ (¬ (lg_cmp (M.2 56 x2.toNatClampNeg) 0) = 0 → (CallV zX m_Ft_listMoves [.ref 46, .int x2] M (fun M10 => wp zX m_Ft_weigh (QV Q) 42 [(0, .ref 46), (2, .int x2), (3, .int 1000000), (4, .int 0)] [] M10))))))) : wp zX m_Ft_weigh (QV Q) 16 [(0, .ref 46), (2, .int x2)] [] M := by
  refine zt_iload_n 1 d_Ft_weigh_16 rfl rfl rfl ?_
  refine zt_if_lt d_Ft_weigh_17 rfl (tgt := 101) (by decide) ⟨fun c1 => ?_, fun c1 => ?_⟩
  · have h2 := h.1 c1
    exact zt_vret rfl d_Ft_weigh_101 ⟨rfl, h2⟩
  · have h3 := h.2 c1
    refine zt_aload_n 0 d_Ft_weigh_20 rfl rfl rfl ?_
    refine zt_getR (b := 56) d_Ft_weigh_21 rfl fl_Ft_39 rfl rfl ?_
    refine zt_iload_n 1 d_Ft_weigh_24 rfl rfl rfl ?_
    obtain ⟨g4, h5⟩ := h3
    refine zt_lald d_Ft_weigh_25 rfl rfl g4 ?_
    refine zt_lconst (v := 0) d_Ft_weigh_26 rfl (by decide) ?_
    refine zt_lcmp d_Ft_weigh_27 rfl ?_
    refine zt_if_eq d_Ft_weigh_28 rfl (tgt := 95) (by decide) ⟨fun c6 => ?_, fun c6 => ?_⟩
    · have h7 := h5.1 c6
      refine zt_iinc (v := (x2 + (-1))) 1 d_Ft_weigh_95 rfl rfl rfl (by decide) rfl ?_
      refine zt_goto d_Ft_weigh_98 (tgt := 16) (by decide) ?_
      exact zt_sub [1, 0] rfl h7
    · have h8 := h5.2 c6
      refine zt_aload_n 0 d_Ft_weigh_31 rfl rfl rfl ?_
      refine zt_iload_n 1 d_Ft_weigh_32 rfl rfl rfl ?_
      refine zt_callVV (as := [.int x2]) d_Ft_weigh_33 rfl mi_Ft_listMoves ⟨Nat.le_of_ble_eq_true rfl, Nat.le_of_ble_eq_true rfl⟩ wd_421 rfl rfl (Nat.le_of_ble_eq_true rfl) rfl h8 (fun M10 h9 => ?_)
      refine zt_ldc (v := 1000000) d_Ft_weigh_36 rfl wd_502 ?_
      refine zt_istore_n d_Ft_weigh_38 rfl rfl (by decide) rfl ?_
      refine zt_iconst (v := 0) d_Ft_weigh_39 rfl (by decide) ?_
      refine zt_istore d_Ft_weigh_40 rfl (by decide) rfl ?_
      exact zt_sub [2, 3, 1, 0] rfl h9
theorem b_Ft_weigh_42 {Q : Mem → Prop} {M : Mem} {x2 : Int32} {x3 : Int32} {x4 : Int32} (h : CallI zX m_Mv_many [.ref 52] M (fun r3 M2 => (r3 ≤ x4 → (vp_in x2 1296 ∧ (∀ N9, N9 = uI M2 57 x2.toNatClampNeg x3 → (wp zX m_Ft_weigh (QV Q) 16 [(0, .ref 46), (2, .int (x2 + (-1)))] [] N9)))) ∧ (¬ r3 ≤ x4 → (CallI zX m_Mv_price [.ref 52, .int x4] M2 (fun r12 M11 => CallI zX m_Mv_target [.ref 52, .int x4] M11 (fun r15 M14 => CallI zX m_Ft_leastFrom [.ref 46, .int r15] M14 (fun r18 M17 => wp zX m_Ft_weigh (QV Q) 42 [(0, .ref 46), (2, .int x2), (3, .int (if (r12 + r18) < x3 then (r12 + r18) else x3)), (4, .int (x4 + 1))] [] M17))))))) : wp zX m_Ft_weigh (QV Q) 42 [(0, .ref 46), (2, .int x2), (3, .int x3), (4, .int x4)] [] M := by
  refine zt_iload 3 d_Ft_weigh_42 rfl rfl ?_
  refine zt_aload_n 0 d_Ft_weigh_44 rfl rfl rfl ?_
  refine zt_getR (b := 52) d_Ft_weigh_45 rfl fl_Ft_35 rfl rfl ?_
  refine zt_callVI (as := []) d_Ft_weigh_48 rfl mi_Mv_many ⟨Nat.le_of_ble_eq_true rfl, Nat.le_of_ble_eq_true rfl⟩ wd_478 rfl rfl (Nat.le_of_ble_eq_true rfl) rfl h (fun r3 M2 h1 => ?_)
  refine zt_icmp_ge d_Ft_weigh_51 rfl (tgt := 88) (by decide) ⟨fun c4 => ?_, fun c4 => ?_⟩
  · have h5 := h1.1 c4
    refine zt_aload_n 0 d_Ft_weigh_88 rfl rfl rfl ?_
    refine zt_getR (b := 57) d_Ft_weigh_89 rfl fl_Ft_43 rfl rfl ?_
    refine zt_iload_n 1 d_Ft_weigh_92 rfl rfl rfl ?_
    refine zt_iload_n 2 d_Ft_weigh_93 rfl rfl rfl ?_
    obtain ⟨g7, h8⟩ := h5
    refine zt_iast d_Ft_weigh_94 rfl rfl g7 ?_
    have h8 := h8 _ rfl
    refine zt_iinc (v := (x2 + (-1))) 1 d_Ft_weigh_95 rfl rfl rfl (by decide) rfl ?_
    refine zt_goto d_Ft_weigh_98 (tgt := 16) (by decide) ?_
    exact zt_sub [1, 0] rfl h8
  · have h6 := h1.2 c4
    refine zt_iload_n 2 d_Ft_weigh_54 rfl rfl rfl ?_
    refine zt_aload_n 0 d_Ft_weigh_55 rfl rfl rfl ?_
    refine zt_getR (b := 52) d_Ft_weigh_56 rfl fl_Ft_35 rfl rfl ?_
    refine zt_iload 3 d_Ft_weigh_59 rfl rfl ?_
    refine zt_callVI (as := [.int x4]) d_Ft_weigh_61 rfl mi_Mv_price ⟨Nat.le_of_ble_eq_true rfl, Nat.le_of_ble_eq_true rfl⟩ wd_503 rfl rfl (Nat.le_of_ble_eq_true rfl) rfl h6 (fun r12 M11 h10 => ?_)
    refine zt_aload_n 0 d_Ft_weigh_64 rfl rfl rfl ?_
    refine zt_aload_n 0 d_Ft_weigh_65 rfl rfl rfl ?_
    refine zt_getR (b := 52) d_Ft_weigh_66 rfl fl_Ft_35 rfl rfl ?_
    refine zt_iload 3 d_Ft_weigh_69 rfl rfl ?_
    refine zt_callVI (as := [.int x4]) d_Ft_weigh_71 rfl mi_Mv_target ⟨Nat.le_of_ble_eq_true rfl, Nat.le_of_ble_eq_true rfl⟩ wd_482 rfl rfl (Nat.le_of_ble_eq_true rfl) rfl h10 (fun r15 M14 h13 => ?_)
    refine zt_callVI (as := [.int r15]) d_Ft_weigh_74 rfl mi_Ft_leastFrom ⟨Nat.le_of_ble_eq_true rfl, Nat.le_of_ble_eq_true rfl⟩ wd_507 rfl rfl (Nat.le_of_ble_eq_true rfl) rfl h13 (fun r18 M17 h16 => ?_)
    refine zt_iadd d_Ft_weigh_77 rfl ?_
    refine zt_mmin d_Ft_weigh_78 rfl ma_Ft_weigh_86 (Nat.le_of_ble_eq_true rfl) ?_
    refine zt_istore_n d_Ft_weigh_81 rfl rfl (by decide) rfl ?_
    refine zt_iinc (v := (x4 + 1)) 3 d_Ft_weigh_82 rfl rfl rfl (by decide) rfl ?_
    refine zt_goto d_Ft_weigh_85 (tgt := 42) (by decide) ?_
    exact zt_sub [2, 3, 1, 0] rfl h16
theorem e_Ft_leastFrom {Q : Int32 → Mem → Prop} {M : Mem} {x1 : Int32} (h : (x1 < 0 → (Q 1000000 M)) ∧ (¬ x1 < 0 → ((1296 ≤ x1 → (Q 1000000 M)) ∧ (¬ 1296 ≤ x1 → (vp_in x1 1296 ∧ (Q (M.1 57 x1.toNatClampNeg) M)))))) : CallI zX m_Ft_leastFrom [.ref 46, .int x1] M Q := by
  refine call_of (by decide) (Nat.le_of_ble_eq_true rfl) ?_
  show wp zX m_Ft_leastFrom (QI Q) 0 [(0, .ref 46), (1, .int x1)] [] M
  refine zt_iload_n 1 d_Ft_leastFrom_0 rfl rfl rfl ?_
  refine zt_if_lt d_Ft_leastFrom_1 rfl (tgt := 20) (by decide) ⟨fun c1 => ?_, fun c1 => ?_⟩
  · have h2 := h.1 c1
    refine zt_ldc (v := 1000000) d_Ft_leastFrom_20 rfl wd_502 ?_
    exact zt_iret rfl d_Ft_leastFrom_22 ⟨_, rfl, h2⟩
  · have h3 := h.2 c1
    refine zt_iload_n 1 d_Ft_leastFrom_4 rfl rfl rfl ?_
    refine zt_sipush (v := 1296) d_Ft_leastFrom_5 rfl (by decide) ?_
    refine zt_icmp_ge d_Ft_leastFrom_8 rfl (tgt := 20) (by decide) ⟨fun c4 => ?_, fun c4 => ?_⟩
    · have h5 := h3.1 c4
      refine zt_ldc (v := 1000000) d_Ft_leastFrom_20 rfl wd_502 ?_
      exact zt_iret rfl d_Ft_leastFrom_22 ⟨_, rfl, h5⟩
    · have h6 := h3.2 c4
      refine zt_aload_n 0 d_Ft_leastFrom_11 rfl rfl rfl ?_
      refine zt_getR (b := 57) d_Ft_leastFrom_12 rfl fl_Ft_43 rfl rfl ?_
      refine zt_iload_n 1 d_Ft_leastFrom_15 rfl rfl rfl ?_
      obtain ⟨g7, h8⟩ := h6
      refine zt_iald d_Ft_leastFrom_16 rfl rfl g7 ?_
      refine zt_goto d_Ft_leastFrom_17 (tgt := 22) (by decide) ?_
      exact zt_iret rfl d_Ft_leastFrom_22 ⟨_, rfl, h8⟩
theorem e_Ft_tell {Q : Mem → Prop} {M : Mem}  (h : CallI zX m_Ft_lastState [.ref 46] M (fun r3 M2 => wp zX m_Ft_tell (QV Q) 10 [(0, .ref 46), (1, .ref 134), (2, .int r3), (3, .int 0), (4, .int 0)] [] M2)) : CallV zX m_Ft_tell [.ref 46, .ref 134] M Q := by
  refine call_of (by decide) (Nat.le_of_ble_eq_true rfl) ?_
  show wp zX m_Ft_tell (QV Q) 0 [(0, .ref 46), (1, .ref 134)] [] M
  refine zt_aload_n 0 d_Ft_tell_0 rfl rfl rfl ?_
  refine zt_callVI (as := []) d_Ft_tell_1 rfl mi_Ft_lastState ⟨Nat.le_of_ble_eq_true rfl, Nat.le_of_ble_eq_true rfl⟩ wd_412 rfl rfl (Nat.le_of_ble_eq_true rfl) rfl h (fun r3 M2 h1 => ?_)
  refine zt_istore_n d_Ft_tell_4 rfl rfl (by decide) rfl ?_
  refine zt_iconst (v := 0) d_Ft_tell_5 rfl (by decide) ?_
  refine zt_istore_n d_Ft_tell_6 rfl rfl (by decide) rfl ?_
  refine zt_iconst (v := 0) d_Ft_tell_7 rfl (by decide) ?_
  refine zt_istore d_Ft_tell_8 rfl (by decide) rfl ?_
  exact zt_sub [3, 4, 2, 1, 0] rfl h1
theorem b_Ft_tell_10 {Q : Mem → Prop} {M : Mem} {x2 : Int32} {x3 : Int32} {x4 : Int32} (h : (5 ≤ x4 → (Q M)) ∧ (¬ 5 ≤ x4 → ((x2 ≤ x3 → (Q M)) ∧ (¬ x2 ≤ x3 → (CallV zX m_Ft_reach [.ref 46, .int x3] M (fun M8 => CallI zX m_Ft_tellCut [.ref 46, .int x3, .ref 134] M8 (fun r12 M11 => (r12 = (-6) → (CallI zX m_Ft_tellText [.ref 46, .int x3, .ref 134] M11 (fun r18 M17 => wp zX m_Ft_tell (QV Q) 10 [(0, .ref 46), (1, .ref 134), (2, .int x2), (3, .int r18), (4, .int (x4 + 1))] [] M17))) ∧ (¬ r12 = (-6) → (wp zX m_Ft_tell (QV Q) 10 [(0, .ref 46), (1, .ref 134), (2, .int x2), (3, .int r12), (4, .int (x4 + 1))] [] M11))))))))) : wp zX m_Ft_tell (QV Q) 10 [(0, .ref 46), (1, .ref 134), (2, .int x2), (3, .int x3), (4, .int x4)] [] M := by
  refine zt_iload 4 d_Ft_tell_10 rfl rfl ?_
  refine zt_iconst (v := 5) d_Ft_tell_12 rfl (by decide) ?_
  refine zt_icmp_ge d_Ft_tell_13 rfl (tgt := 59) (by decide) ⟨fun c1 => ?_, fun c1 => ?_⟩
  · have h2 := h.1 c1
    exact zt_vret rfl d_Ft_tell_59 ⟨rfl, h2⟩
  · have h3 := h.2 c1
    refine zt_iload_n 3 d_Ft_tell_16 rfl rfl rfl ?_
    refine zt_iload_n 2 d_Ft_tell_17 rfl rfl rfl ?_
    refine zt_icmp_ge d_Ft_tell_18 rfl (tgt := 59) (by decide) ⟨fun c4 => ?_, fun c4 => ?_⟩
    · have h5 := h3.1 c4
      exact zt_vret rfl d_Ft_tell_59 ⟨rfl, h5⟩
    · have h6 := h3.2 c4
      refine zt_aload_n 0 d_Ft_tell_21 rfl rfl rfl ?_
      refine zt_iload_n 3 d_Ft_tell_22 rfl rfl rfl ?_
      refine zt_callVV (as := [.int x3]) d_Ft_tell_23 rfl mi_Ft_reach ⟨Nat.le_of_ble_eq_true rfl, Nat.le_of_ble_eq_true rfl⟩ wd_429 rfl rfl (Nat.le_of_ble_eq_true rfl) rfl h6 (fun M8 h7 => ?_)
      refine zt_aload_n 0 d_Ft_tell_26 rfl rfl rfl ?_
      refine zt_iload_n 3 d_Ft_tell_27 rfl rfl rfl ?_
      refine zt_aload_n 1 d_Ft_tell_28 rfl rfl rfl ?_
      refine zt_callVI (as := [.int x3, .ref 134]) d_Ft_tell_29 rfl mi_Ft_tellCut ⟨Nat.le_of_ble_eq_true rfl, Nat.le_of_ble_eq_true rfl⟩ wd_515 rfl rfl (Nat.le_of_ble_eq_true rfl) rfl h7 (fun r12 M11 h10 => ?_)
      refine zt_istore d_Ft_tell_32 rfl (by decide) rfl ?_
      refine zt_iload 0 d_Ft_tell_34 rfl rfl ?_
      refine zt_bipush (v := -6) d_Ft_tell_36 rfl (by decide) ?_
      refine zt_icmp_eq d_Ft_tell_38 rfl (tgt := 46) (by decide) ⟨fun c13 => ?_, fun c13 => ?_⟩
      · have h14 := h10.1 c13
        refine zt_aload_n 1 d_Ft_tell_46 rfl rfl rfl ?_
        refine zt_iload_n 4 d_Ft_tell_47 rfl rfl rfl ?_
        refine zt_aload_n 2 d_Ft_tell_48 rfl rfl rfl ?_
        refine zt_callVI (as := [.int x3, .ref 134]) d_Ft_tell_49 rfl mi_Ft_tellText ⟨Nat.le_of_ble_eq_true rfl, Nat.le_of_ble_eq_true rfl⟩ wd_531 rfl rfl (Nat.le_of_ble_eq_true rfl) rfl h14 (fun r18 M17 h16 => ?_)
        refine zt_istore_n d_Ft_tell_52 rfl rfl (by decide) rfl ?_
        refine zt_iinc (v := (x4 + 1)) 5 d_Ft_tell_53 rfl rfl rfl (by decide) rfl ?_
        refine zt_goto d_Ft_tell_56 (tgt := 10) (by decide) ?_
        exact zt_sub [3, 4, 5, 1, 0] rfl h16
      · have h15 := h10.2 c13
        refine zt_iload 0 d_Ft_tell_41 rfl rfl ?_
        refine zt_goto d_Ft_tell_43 (tgt := 52) (by decide) ?_
        refine zt_istore_n d_Ft_tell_52 rfl rfl (by decide) rfl ?_
        refine zt_iinc (v := (x4 + 1)) 5 d_Ft_tell_53 rfl rfl rfl (by decide) rfl ?_
        refine zt_goto d_Ft_tell_56 (tgt := 10) (by decide) ?_
        exact zt_sub [3, 4, 5, 1, 0] rfl h15
theorem e_Ft_tellCut {Q : Int32 → Mem → Prop} {M : Mem} {x1 : Int32} (h : wp zX m_Ft_tellCut (QI Q) 2 [(0, .ref 46), (1, .int x1), (2, .ref 134), (3, .int 0)] [] M) : CallI zX m_Ft_tellCut [.ref 46, .int x1, .ref 134] M Q := by
  refine call_of (by decide) (Nat.le_of_ble_eq_true rfl) ?_
  show wp zX m_Ft_tellCut (QI Q) 0 [(0, .ref 46), (1, .int x1), (2, .ref 134)] [] M
  refine zt_iconst (v := 0) d_Ft_tellCut_0 rfl (by decide) ?_
  refine zt_istore_n d_Ft_tellCut_1 rfl rfl (by decide) rfl ?_
  exact zt_sub [1, 2, 3, 0] rfl h
theorem b_Ft_tellCut_2 {Q : Int32 → Mem → Prop} {M : Mem} {x1 : Int32} {x3 : Int32} (h : (62 ≤ x3 → (Q (-6) M)) ∧ (¬ 62 ≤ x3 → (CallI zX m_Ft_canBegin [.ref 46, .int x3] M (fun r6 M5 => (r6 = 0 → (wp zX m_Ft_tellCut (QI Q) 27 [(0, .ref 46), (1, .int x1), (2, .ref 134), (3, .int x3), (4, .int 0), (5, .int 0)] [] M5)) ∧ (¬ r6 = 0 → (wp zX m_Ft_tellCut (QI Q) 27 [(0, .ref 46), (1, .int x1), (2, .ref 134), (3, .int x3), (4, .int 62), (5, .int 0)] [] M5)))))) : wp zX m_Ft_tellCut (QI Q) 2 [(0, .ref 46), (1, .int x1), (2, .ref 134), (3, .int x3)] [] M := by
  refine zt_iload_n 3 d_Ft_tellCut_2 rfl rfl rfl ?_
  refine zt_bipush (v := 62) d_Ft_tellCut_3 rfl (by decide) ?_
  refine zt_icmp_ge d_Ft_tellCut_5 rfl (tgt := 107) (by decide) ⟨fun c1 => ?_, fun c1 => ?_⟩
  · have h2 := h.1 c1
    refine zt_bipush (v := -6) d_Ft_tellCut_107 rfl (by decide) ?_
    exact zt_iret rfl d_Ft_tellCut_109 ⟨_, rfl, h2⟩
  · have h3 := h.2 c1
    refine zt_aload_n 0 d_Ft_tellCut_8 rfl rfl rfl ?_
    refine zt_iload_n 3 d_Ft_tellCut_9 rfl rfl rfl ?_
    refine zt_callVI (as := [.int x3]) d_Ft_tellCut_10 rfl mi_Ft_canBegin ⟨Nat.le_of_ble_eq_true rfl, Nat.le_of_ble_eq_true rfl⟩ wd_433 rfl rfl (Nat.le_of_ble_eq_true rfl) rfl h3 (fun r6 M5 h4 => ?_)
    refine zt_if_eq d_Ft_tellCut_13 rfl (tgt := 21) (by decide) ⟨fun c7 => ?_, fun c7 => ?_⟩
    · have h8 := h4.1 c7
      refine zt_iconst (v := 0) d_Ft_tellCut_21 rfl (by decide) ?_
      refine zt_istore d_Ft_tellCut_22 rfl (by decide) rfl ?_
      refine zt_iconst (v := 0) d_Ft_tellCut_24 rfl (by decide) ?_
      refine zt_istore d_Ft_tellCut_25 rfl (by decide) rfl ?_
      exact zt_sub [2, 3, 4, 5, 1, 0] rfl h8
    · have h9 := h4.2 c7
      refine zt_bipush (v := 62) d_Ft_tellCut_16 rfl (by decide) ?_
      refine zt_goto d_Ft_tellCut_18 (tgt := 22) (by decide) ?_
      refine zt_istore d_Ft_tellCut_22 rfl (by decide) rfl ?_
      refine zt_iconst (v := 0) d_Ft_tellCut_24 rfl (by decide) ?_
      refine zt_istore d_Ft_tellCut_25 rfl (by decide) rfl ?_
      exact zt_sub [2, 3, 4, 5, 1, 0] rfl h9
theorem b_Ft_tellCut_27 {Q : Int32 → Mem → Prop} {M : Mem} {x1 : Int32} {x3 : Int32} {x4 : Int32} {x5 : Int32} (h : (x4 ≤ x5 → (wp zX m_Ft_tellCut (QI Q) 2 [(0, .ref 46), (1, .int x1), (2, .ref 134), (3, .int (x3 + 1))] [] M)) ∧ (¬ x4 ≤ x5 → (CallI zX m_Ft_cutTarget [.ref 46, .int x1, .int x3, .int x5] M (fun r6 M5 => CallI zX m_Mk_price [.int x3] M5 (fun r9 M8 => CallI zX m_Mk_price [.int x5] M8 (fun r12 M11 => CallI zX m_Pc_cutPrice [.int r9, .int r12] M11 (fun r15 M14 => (r6 = (-6) → (wp zX m_Ft_tellCut (QI Q) 27 [(0, .ref 46), (1, .int x1), (2, .ref 134), (3, .int x3), (4, .int x4), (5, .int (x5 + 1))] [] M14)) ∧ (¬ r6 = (-6) → (CallI zX m_Ft_leastFrom [.ref 46, .int r6] M14 (fun r21 M20 => CallI zX m_Ft_leastFrom [.ref 46, .int x1] M20 (fun r24 M23 => ((r15 + r21) = r24 → (CallR zX m_Pl_next [.ref 134] M23 (fun r30 M29 => T_Pc zX r30 ∧ (CallV zX m_Pc_becomeCut [.ref r30, .int x3, .int x5] M29 (fun M33 => Q r6 M33))))) ∧ (¬ (r15 + r21) = r24 → (wp zX m_Ft_tellCut (QI Q) 27 [(0, .ref 46), (1, .int x1), (2, .ref 134), (3, .int x3), (4, .int x4), (5, .int (x5 + 1))] [] M23))))))))))))) : wp zX m_Ft_tellCut (QI Q) 27 [(0, .ref 46), (1, .int x1), (2, .ref 134), (3, .int x3), (4, .int x4), (5, .int x5)] [] M := by
  refine zt_iload 5 d_Ft_tellCut_27 rfl rfl ?_
  refine zt_iload 4 d_Ft_tellCut_29 rfl rfl ?_
  refine zt_icmp_ge d_Ft_tellCut_31 rfl (tgt := 101) (by decide) ⟨fun c1 => ?_, fun c1 => ?_⟩
  · have h2 := h.1 c1
    refine zt_iinc (v := (x3 + 1)) 3 d_Ft_tellCut_101 rfl rfl rfl (by decide) rfl ?_
    refine zt_goto d_Ft_tellCut_104 (tgt := 2) (by decide) ?_
    exact zt_sub [1, 2, 3, 0] rfl h2
  · have h3 := h.2 c1
    refine zt_aload_n 0 d_Ft_tellCut_34 rfl rfl rfl ?_
    refine zt_iload_n 1 d_Ft_tellCut_35 rfl rfl rfl ?_
    refine zt_iload_n 3 d_Ft_tellCut_36 rfl rfl rfl ?_
    refine zt_iload 5 d_Ft_tellCut_37 rfl rfl ?_
    refine zt_callVI (as := [.int x1, .int x3, .int x5]) d_Ft_tellCut_39 rfl mi_Ft_cutTarget ⟨Nat.le_of_ble_eq_true rfl, Nat.le_of_ble_eq_true rfl⟩ wd_445 rfl rfl (Nat.le_of_ble_eq_true rfl) rfl h3 (fun r6 M5 h4 => ?_)
    refine zt_istore d_Ft_tellCut_42 rfl (by decide) rfl ?_
    refine zt_iload_n 4 d_Ft_tellCut_44 rfl rfl rfl ?_
    refine zt_callSI (as := [.int x3]) d_Ft_tellCut_45 rfl ms_Mk_price ⟨Nat.le_of_ble_eq_true rfl, Nat.le_of_ble_eq_true rfl⟩ wd_406 rfl rfl (Nat.le_of_ble_eq_true rfl) h4 (fun r9 M8 h7 => ?_)
    refine zt_iload 6 d_Ft_tellCut_48 rfl rfl ?_
    refine zt_callSI (as := [.int x5]) d_Ft_tellCut_50 rfl ms_Mk_price ⟨Nat.le_of_ble_eq_true rfl, Nat.le_of_ble_eq_true rfl⟩ wd_406 rfl rfl (Nat.le_of_ble_eq_true rfl) h7 (fun r12 M11 h10 => ?_)
    refine zt_callSI (as := [.int r9, .int r12]) d_Ft_tellCut_53 rfl ms_Pc_cutPrice ⟨Nat.le_of_ble_eq_true rfl, Nat.le_of_ble_eq_true rfl⟩ wd_455 rfl rfl (Nat.le_of_ble_eq_true rfl) h10 (fun r15 M14 h13 => ?_)
    refine zt_istore d_Ft_tellCut_56 rfl (by decide) rfl ?_
    refine zt_iload 1 d_Ft_tellCut_58 rfl rfl ?_
    refine zt_bipush (v := -6) d_Ft_tellCut_60 rfl (by decide) ?_
    refine zt_icmp_eq d_Ft_tellCut_62 rfl (tgt := 95) (by decide) ⟨fun c16 => ?_, fun c16 => ?_⟩
    · have h17 := h13.1 c16
      refine zt_iinc (v := (x5 + 1)) 7 d_Ft_tellCut_95 rfl rfl rfl (by decide) rfl ?_
      refine zt_goto d_Ft_tellCut_98 (tgt := 27) (by decide) ?_
      exact zt_sub [3, 4, 5, 6, 7, 0] rfl h17
    · have h18 := h13.2 c16
      refine zt_iload 0 d_Ft_tellCut_65 rfl rfl ?_
      refine zt_aload_n 2 d_Ft_tellCut_67 rfl rfl rfl ?_
      refine zt_iload 1 d_Ft_tellCut_68 rfl rfl ?_
      refine zt_callVI (as := [.int r6]) d_Ft_tellCut_70 rfl mi_Ft_leastFrom ⟨Nat.le_of_ble_eq_true rfl, Nat.le_of_ble_eq_true rfl⟩ wd_507 rfl rfl (Nat.le_of_ble_eq_true rfl) rfl h18 (fun r21 M20 h19 => ?_)
      refine zt_iadd d_Ft_tellCut_73 rfl ?_
      refine zt_aload_n 2 d_Ft_tellCut_74 rfl rfl rfl ?_
      refine zt_iload_n 3 d_Ft_tellCut_75 rfl rfl rfl ?_
      refine zt_callVI (as := [.int x1]) d_Ft_tellCut_76 rfl mi_Ft_leastFrom ⟨Nat.le_of_ble_eq_true rfl, Nat.le_of_ble_eq_true rfl⟩ wd_507 rfl rfl (Nat.le_of_ble_eq_true rfl) rfl h19 (fun r24 M23 h22 => ?_)
      refine zt_icmp_ne d_Ft_tellCut_79 rfl (tgt := 95) (by decide) ⟨fun c25 => ?_, fun c25 => ?_⟩
      · have h26 := h22.1 c25
        refine zt_aload_n 4 d_Ft_tellCut_82 rfl rfl rfl ?_
        refine zt_callVR (as := []) d_Ft_tellCut_83 rfl mi_Pl_next ⟨Nat.le_of_ble_eq_true rfl, Nat.le_of_ble_eq_true rfl⟩ wd_519 rfl rfl (Nat.le_of_ble_eq_true rfl) rfl h26 (fun r30 M29 h28 => ?_)
        obtain ⟨t31, h28⟩ := h28
        refine zt_iload_n 5 d_Ft_tellCut_86 rfl rfl rfl ?_
        refine zt_iload 7 d_Ft_tellCut_87 rfl rfl ?_
        refine zt_callVV (as := [.int x3, .int x5]) d_Ft_tellCut_89 rfl mi_Pc_becomeCut ⟨Nat.le_of_ble_eq_true rfl, Nat.le_of_ble_eq_true rfl⟩ wd_527 rfl rfl (Nat.le_of_ble_eq_true rfl) t31.1 h28 (fun M33 h32 => ?_)
        refine zt_iload 1 d_Ft_tellCut_92 rfl rfl ?_
        exact zt_iret rfl d_Ft_tellCut_94 ⟨_, rfl, h32⟩
      · have h27 := h22.2 c25
        refine zt_iinc (v := (x5 + 1)) 7 d_Ft_tellCut_95 rfl rfl rfl (by decide) rfl ?_
        refine zt_goto d_Ft_tellCut_98 (tgt := 27) (by decide) ?_
        exact zt_sub [3, 4, 5, 6, 7, 0] rfl h27
theorem e_Ft_tellText {Q : Int32 → Mem → Prop} {M : Mem} {x1 : Int32} (h : CallI zX m_Ft_longestText [.ref 46] M (fun r3 M2 => wp zX m_Ft_tellText (QI Q) 8 [(0, .ref 46), (1, .int x1), (2, .ref 134), (3, .int r3), (4, .int 1)] [] M2)) : CallI zX m_Ft_tellText [.ref 46, .int x1, .ref 134] M Q := by
  refine call_of (by decide) (Nat.le_of_ble_eq_true rfl) ?_
  show wp zX m_Ft_tellText (QI Q) 0 [(0, .ref 46), (1, .int x1), (2, .ref 134)] [] M
  refine zt_aload_n 0 d_Ft_tellText_0 rfl rfl rfl ?_
  refine zt_callVI (as := []) d_Ft_tellText_1 rfl mi_Ft_longestText ⟨Nat.le_of_ble_eq_true rfl, Nat.le_of_ble_eq_true rfl⟩ wd_462 rfl rfl (Nat.le_of_ble_eq_true rfl) rfl h (fun r3 M2 h1 => ?_)
  refine zt_istore_n d_Ft_tellText_4 rfl rfl (by decide) rfl ?_
  refine zt_iconst (v := 1) d_Ft_tellText_5 rfl (by decide) ?_
  refine zt_istore d_Ft_tellText_6 rfl (by decide) rfl ?_
  exact zt_sub [2, 3, 4, 1, 0] rfl h1
theorem b_Ft_tellText_8 {Q : Int32 → Mem → Prop} {M : Mem} {x1 : Int32} {x3 : Int32} {x4 : Int32} (h : (x3 < x4 → (CallI zX m_Ft_lastState [.ref 46] M (fun r6 M5 => Q r6 M5))) ∧ (¬ x3 < x4 → (CallI zX m_Ft_textTarget [.ref 46, .int x1, .int x4] M (fun r9 M8 => CallI zX m_Pc_textPrice [.int x4] M8 (fun r12 M11 => CallI zX m_Ft_leastFrom [.ref 46, .int r9] M11 (fun r15 M14 => CallI zX m_Ft_leastFrom [.ref 46, .int x1] M14 (fun r18 M17 => ((r12 + r15) = r18 → (CallR zX m_Pl_next [.ref 134] M17 (fun r24 M23 => T_Pc zX r24 ∧ (vp_in 0 4 ∧ (CallR zX m_Rw_result [.ref (47 + 11 + 19 * (0 : Int32).toNatClampNeg)] M23 (fun r30 M29 => ∃ n32, T_Sg zX r30 n32 ∧ (vp_in 0 4 ∧ (vp_in 0 4 ∧ (CallV zX m_Pc_becomeText [.ref r24, .ref r30, .int (M29.1 48 (0 : Int32).toNatClampNeg), .int ((M29.1 48 (0 : Int32).toNatClampNeg) + x4)] M29 (fun M38 => Q r9 M38)))))))))) ∧ (¬ (r12 + r15) = r18 → (wp zX m_Ft_tellText (QI Q) 8 [(0, .ref 46), (1, .int x1), (2, .ref 134), (3, .int x3), (4, .int (x4 + 1))] [] M17))))))))) : wp zX m_Ft_tellText (QI Q) 8 [(0, .ref 46), (1, .int x1), (2, .ref 134), (3, .int x3), (4, .int x4)] [] M := by
  refine zt_iload 4 d_Ft_tellText_8 rfl rfl ?_
  refine zt_iload_n 3 d_Ft_tellText_10 rfl rfl rfl ?_
  refine zt_icmp_gt d_Ft_tellText_11 rfl (tgt := 83) (by decide) ⟨fun c1 => ?_, fun c1 => ?_⟩
  · have h2 := h.1 c1
    refine zt_aload_n 0 d_Ft_tellText_83 rfl rfl rfl ?_
    refine zt_callVI (as := []) d_Ft_tellText_84 rfl mi_Ft_lastState ⟨Nat.le_of_ble_eq_true rfl, Nat.le_of_ble_eq_true rfl⟩ wd_412 rfl rfl (Nat.le_of_ble_eq_true rfl) rfl h2 (fun r6 M5 h4 => ?_)
    exact zt_iret rfl d_Ft_tellText_87 ⟨_, rfl, h4⟩
  · have h3 := h.2 c1
    refine zt_aload_n 0 d_Ft_tellText_14 rfl rfl rfl ?_
    refine zt_iload_n 1 d_Ft_tellText_15 rfl rfl rfl ?_
    refine zt_iload 4 d_Ft_tellText_16 rfl rfl ?_
    refine zt_callVI (as := [.int x1, .int x4]) d_Ft_tellText_18 rfl mi_Ft_textTarget ⟨Nat.le_of_ble_eq_true rfl, Nat.le_of_ble_eq_true rfl⟩ wd_471 rfl rfl (Nat.le_of_ble_eq_true rfl) rfl h3 (fun r9 M8 h7 => ?_)
    refine zt_istore d_Ft_tellText_21 rfl (by decide) rfl ?_
    refine zt_iload 5 d_Ft_tellText_23 rfl rfl ?_
    refine zt_callSI (as := [.int x4]) d_Ft_tellText_25 rfl ms_Pc_textPrice ⟨Nat.le_of_ble_eq_true rfl, Nat.le_of_ble_eq_true rfl⟩ wd_475 rfl rfl (Nat.le_of_ble_eq_true rfl) h7 (fun r12 M11 h10 => ?_)
    refine zt_aload_n 1 d_Ft_tellText_28 rfl rfl rfl ?_
    refine zt_iload 0 d_Ft_tellText_29 rfl rfl ?_
    refine zt_callVI (as := [.int r9]) d_Ft_tellText_31 rfl mi_Ft_leastFrom ⟨Nat.le_of_ble_eq_true rfl, Nat.le_of_ble_eq_true rfl⟩ wd_507 rfl rfl (Nat.le_of_ble_eq_true rfl) rfl h10 (fun r15 M14 h13 => ?_)
    refine zt_iadd d_Ft_tellText_34 rfl ?_
    refine zt_aload_n 1 d_Ft_tellText_35 rfl rfl rfl ?_
    refine zt_iload_n 2 d_Ft_tellText_36 rfl rfl rfl ?_
    refine zt_callVI (as := [.int x1]) d_Ft_tellText_37 rfl mi_Ft_leastFrom ⟨Nat.le_of_ble_eq_true rfl, Nat.le_of_ble_eq_true rfl⟩ wd_507 rfl rfl (Nat.le_of_ble_eq_true rfl) rfl h13 (fun r18 M17 h16 => ?_)
    refine zt_icmp_ne d_Ft_tellText_40 rfl (tgt := 77) (by decide) ⟨fun c19 => ?_, fun c19 => ?_⟩
    · have h20 := h16.1 c19
      refine zt_aload_n 3 d_Ft_tellText_43 rfl rfl rfl ?_
      refine zt_callVR (as := []) d_Ft_tellText_44 rfl mi_Pl_next ⟨Nat.le_of_ble_eq_true rfl, Nat.le_of_ble_eq_true rfl⟩ wd_519 rfl rfl (Nat.le_of_ble_eq_true rfl) rfl h20 (fun r24 M23 h22 => ?_)
      obtain ⟨t25, h22⟩ := h22
      refine zt_aload_n 1 d_Ft_tellText_47 rfl rfl rfl ?_
      refine zt_getR (b := 47) d_Ft_tellText_48 rfl fl_Ft_13 rfl rfl ?_
      refine zt_iconst (v := 0) d_Ft_tellText_51 rfl (by decide) ?_
      obtain ⟨g26, h27⟩ := h22
      refine zt_aald (b := 47 + 11 + 19 * (0 : Int32).toNatClampNeg) d_Ft_tellText_52 rfl (fun _ => rfl) rfl (by decide) (by decide) rfl g26 rfl ?_
      refine zt_callVR (as := []) d_Ft_tellText_53 rfl mi_Rw_result ⟨Nat.le_of_ble_eq_true rfl, Nat.le_of_ble_eq_true rfl⟩ wd_416 rfl rfl (Nat.le_of_ble_eq_true rfl) (T_rows _ (vp_lt g26)).1 h27 (fun r30 M29 h28 => ?_)
      obtain ⟨n32, t31, h28⟩ := h28
      refine zt_aload_n 1 d_Ft_tellText_56 rfl rfl rfl ?_
      refine zt_getR (b := 48) d_Ft_tellText_57 rfl fl_Ft_17 rfl rfl ?_
      refine zt_iconst (v := 0) d_Ft_tellText_60 rfl (by decide) ?_
      obtain ⟨g33, h34⟩ := h28
      refine zt_iald d_Ft_tellText_61 rfl rfl g33 ?_
      refine zt_aload_n 1 d_Ft_tellText_62 rfl rfl rfl ?_
      refine zt_getR (b := 48) d_Ft_tellText_63 rfl fl_Ft_17 rfl rfl ?_
      refine zt_iconst (v := 0) d_Ft_tellText_66 rfl (by decide) ?_
      obtain ⟨g35, h36⟩ := h34
      refine zt_iald d_Ft_tellText_67 rfl rfl g35 ?_
      refine zt_iload 5 d_Ft_tellText_68 rfl rfl ?_
      refine zt_iadd d_Ft_tellText_70 rfl ?_
      refine zt_callVV (as := [.ref r30, .int (M29.1 48 (0 : Int32).toNatClampNeg), .int ((M29.1 48 (0 : Int32).toNatClampNeg) + x4)]) d_Ft_tellText_71 rfl mi_Pc_becomeText ⟨Nat.le_of_ble_eq_true rfl, Nat.le_of_ble_eq_true rfl⟩ wd_535 rfl rfl (Nat.le_of_ble_eq_true rfl) t25.1 h36 (fun M38 h37 => ?_)
      refine zt_iload 0 d_Ft_tellText_74 rfl rfl ?_
      exact zt_iret rfl d_Ft_tellText_76 ⟨_, rfl, h37⟩
    · have h21 := h16.2 c19
      refine zt_iinc (v := (x4 + 1)) 5 d_Ft_tellText_77 rfl rfl rfl (by decide) rfl ?_
      refine zt_goto d_Ft_tellText_80 (tgt := 8) (by decide) ?_
      exact zt_sub [2, 3, 4, 5, 0] rfl h21
theorem e_Ft_listMoves {Q : Mem → Prop} {M : Mem} {x1 : Int32} (h : CallV zX m_Mv_clear [.ref 52] M (fun M2 => CallV zX m_Ft_reach [.ref 46, .int x1] M2 (fun M5 => wp zX m_Ft_listMoves (QV Q) 14 [(0, .ref 46), (1, .int x1), (2, .int 0)] [] M5))) : CallV zX m_Ft_listMoves [.ref 46, .int x1] M Q := by
  refine call_of (by decide) (Nat.le_of_ble_eq_true rfl) ?_
  show wp zX m_Ft_listMoves (QV Q) 0 [(0, .ref 46), (1, .int x1)] [] M
  refine zt_aload_n 0 d_Ft_listMoves_0 rfl rfl rfl ?_
  refine zt_getR (b := 52) d_Ft_listMoves_1 rfl fl_Ft_35 rfl rfl ?_
  refine zt_callVV (as := []) d_Ft_listMoves_4 rfl mi_Mv_clear ⟨Nat.le_of_ble_eq_true rfl, Nat.le_of_ble_eq_true rfl⟩ wd_425 rfl rfl (Nat.le_of_ble_eq_true rfl) rfl h (fun M2 h1 => ?_)
  refine zt_aload_n 0 d_Ft_listMoves_7 rfl rfl rfl ?_
  refine zt_iload_n 1 d_Ft_listMoves_8 rfl rfl rfl ?_
  refine zt_callVV (as := [.int x1]) d_Ft_listMoves_9 rfl mi_Ft_reach ⟨Nat.le_of_ble_eq_true rfl, Nat.le_of_ble_eq_true rfl⟩ wd_429 rfl rfl (Nat.le_of_ble_eq_true rfl) rfl h1 (fun M5 h4 => ?_)
  refine zt_iconst (v := 0) d_Ft_listMoves_12 rfl (by decide) ?_
  refine zt_istore_n d_Ft_listMoves_13 rfl rfl (by decide) rfl ?_
  exact zt_sub [1, 2, 0] rfl h4
theorem b_Ft_listMoves_14 {Q : Mem → Prop} {M : Mem} {x1 : Int32} {x2 : Int32} (h : ((M.1 46 9) ≤ x2 → (CallI zX m_Ft_longestText [.ref 46] M (fun r6 M5 => wp zX m_Ft_listMoves (QV Q) 54 [(0, .ref 46), (1, .int x1), (2, .int r6), (3, .int 1)] [] M5))) ∧ (¬ (M.1 46 9) ≤ x2 → (vp_in x2 62 ∧ (CallI zX m_Ft_canBegin [.ref 46, .int (M.1 49 x2.toNatClampNeg)] M (fun r11 M10 => (r11 = 0 → (wp zX m_Ft_listMoves (QV Q) 14 [(0, .ref 46), (1, .int x1), (2, .int (x2 + 1))] [] M10)) ∧ (¬ r11 = 0 → (CallV zX m_Ft_listCuts [.ref 46, .int x1, .int x2] M10 (fun M16 => wp zX m_Ft_listMoves (QV Q) 14 [(0, .ref 46), (1, .int x1), (2, .int (x2 + 1))] [] M16)))))))) : wp zX m_Ft_listMoves (QV Q) 14 [(0, .ref 46), (1, .int x1), (2, .int x2)] [] M := by
  refine zt_iload_n 2 d_Ft_listMoves_14 rfl rfl rfl ?_
  refine zt_aload_n 0 d_Ft_listMoves_15 rfl rfl rfl ?_
  refine zt_getI d_Ft_listMoves_16 rfl fl_Ft_146 rfl ?_
  refine zt_icmp_ge d_Ft_listMoves_19 rfl (tgt := 47) (by decide) ⟨fun c1 => ?_, fun c1 => ?_⟩
  · have h2 := h.1 c1
    refine zt_aload_n 0 d_Ft_listMoves_47 rfl rfl rfl ?_
    refine zt_callVI (as := []) d_Ft_listMoves_48 rfl mi_Ft_longestText ⟨Nat.le_of_ble_eq_true rfl, Nat.le_of_ble_eq_true rfl⟩ wd_462 rfl rfl (Nat.le_of_ble_eq_true rfl) rfl h2 (fun r6 M5 h4 => ?_)
    refine zt_istore_n d_Ft_listMoves_51 rfl rfl (by decide) rfl ?_
    refine zt_iconst (v := 1) d_Ft_listMoves_52 rfl (by decide) ?_
    refine zt_istore_n d_Ft_listMoves_53 rfl rfl (by decide) rfl ?_
    exact zt_sub [2, 3, 1, 0] rfl h4
  · have h3 := h.2 c1
    refine zt_aload_n 0 d_Ft_listMoves_22 rfl rfl rfl ?_
    refine zt_aload_n 0 d_Ft_listMoves_23 rfl rfl rfl ?_
    refine zt_getR (b := 49) d_Ft_listMoves_24 rfl fl_Ft_23 rfl rfl ?_
    refine zt_iload_n 2 d_Ft_listMoves_27 rfl rfl rfl ?_
    obtain ⟨g7, h8⟩ := h3
    refine zt_iald d_Ft_listMoves_28 rfl rfl g7 ?_
    refine zt_callVI (as := [.int (M.1 49 x2.toNatClampNeg)]) d_Ft_listMoves_29 rfl mi_Ft_canBegin ⟨Nat.le_of_ble_eq_true rfl, Nat.le_of_ble_eq_true rfl⟩ wd_433 rfl rfl (Nat.le_of_ble_eq_true rfl) rfl h8 (fun r11 M10 h9 => ?_)
    refine zt_if_eq d_Ft_listMoves_32 rfl (tgt := 41) (by decide) ⟨fun c12 => ?_, fun c12 => ?_⟩
    · have h13 := h9.1 c12
      refine zt_iinc (v := (x2 + 1)) 2 d_Ft_listMoves_41 rfl rfl rfl (by decide) rfl ?_
      refine zt_goto d_Ft_listMoves_44 (tgt := 14) (by decide) ?_
      exact zt_sub [1, 2, 0] rfl h13
    · have h14 := h9.2 c12
      refine zt_aload_n 0 d_Ft_listMoves_35 rfl rfl rfl ?_
      refine zt_iload_n 1 d_Ft_listMoves_36 rfl rfl rfl ?_
      refine zt_iload_n 2 d_Ft_listMoves_37 rfl rfl rfl ?_
      refine zt_callVV (as := [.int x1, .int x2]) d_Ft_listMoves_38 rfl mi_Ft_listCuts ⟨Nat.le_of_ble_eq_true rfl, Nat.le_of_ble_eq_true rfl⟩ wd_441 rfl rfl (Nat.le_of_ble_eq_true rfl) rfl h14 (fun M16 h15 => ?_)
      refine zt_iinc (v := (x2 + 1)) 2 d_Ft_listMoves_41 rfl rfl rfl (by decide) rfl ?_
      refine zt_goto d_Ft_listMoves_44 (tgt := 14) (by decide) ?_
      exact zt_sub [1, 2, 0] rfl h15
theorem b_Ft_listMoves_54 {Q : Mem → Prop} {M : Mem} {x1 : Int32} {x2 : Int32} {x3 : Int32} (h : (x2 < x3 → (Q M)) ∧ (¬ x2 < x3 → (CallI zX m_Ft_textTarget [.ref 46, .int x1, .int x3] M (fun r6 M5 => CallI zX m_Pc_textPrice [.int x3] M5 (fun r9 M8 => CallV zX m_Mv_add [.ref 52, .int r6, .int 1, .int r9] M8 (fun M11 => wp zX m_Ft_listMoves (QV Q) 54 [(0, .ref 46), (1, .int x1), (2, .int x2), (3, .int (x3 + 1))] [] M11)))))) : wp zX m_Ft_listMoves (QV Q) 54 [(0, .ref 46), (1, .int x1), (2, .int x2), (3, .int x3)] [] M := by
  refine zt_iload_n 3 d_Ft_listMoves_54 rfl rfl rfl ?_
  refine zt_iload_n 2 d_Ft_listMoves_55 rfl rfl rfl ?_
  refine zt_icmp_gt d_Ft_listMoves_56 rfl (tgt := 83) (by decide) ⟨fun c1 => ?_, fun c1 => ?_⟩
  · have h2 := h.1 c1
    exact zt_vret rfl d_Ft_listMoves_83 ⟨rfl, h2⟩
  · have h3 := h.2 c1
    refine zt_aload_n 0 d_Ft_listMoves_59 rfl rfl rfl ?_
    refine zt_getR (b := 52) d_Ft_listMoves_60 rfl fl_Ft_35 rfl rfl ?_
    refine zt_aload_n 0 d_Ft_listMoves_63 rfl rfl rfl ?_
    refine zt_iload_n 1 d_Ft_listMoves_64 rfl rfl rfl ?_
    refine zt_iload_n 3 d_Ft_listMoves_65 rfl rfl rfl ?_
    refine zt_callVI (as := [.int x1, .int x3]) d_Ft_listMoves_66 rfl mi_Ft_textTarget ⟨Nat.le_of_ble_eq_true rfl, Nat.le_of_ble_eq_true rfl⟩ wd_471 rfl rfl (Nat.le_of_ble_eq_true rfl) rfl h3 (fun r6 M5 h4 => ?_)
    refine zt_iconst (v := 1) d_Ft_listMoves_69 rfl (by decide) ?_
    refine zt_iload_n 3 d_Ft_listMoves_70 rfl rfl rfl ?_
    refine zt_callSI (as := [.int x3]) d_Ft_listMoves_71 rfl ms_Pc_textPrice ⟨Nat.le_of_ble_eq_true rfl, Nat.le_of_ble_eq_true rfl⟩ wd_475 rfl rfl (Nat.le_of_ble_eq_true rfl) h4 (fun r9 M8 h7 => ?_)
    refine zt_callVV (as := [.int r6, .int 1, .int r9]) d_Ft_listMoves_74 rfl mi_Mv_add ⟨Nat.le_of_ble_eq_true rfl, Nat.le_of_ble_eq_true rfl⟩ wd_458 rfl rfl (Nat.le_of_ble_eq_true rfl) rfl h7 (fun M11 h10 => ?_)
    refine zt_iinc (v := (x3 + 1)) 3 d_Ft_listMoves_77 rfl rfl rfl (by decide) rfl ?_
    refine zt_goto d_Ft_listMoves_80 (tgt := 54) (by decide) ?_
    exact zt_sub [1, 2, 3, 0] rfl h10
theorem e_Ft_listCuts {Q : Mem → Prop} {M : Mem} {x1 : Int32} {x2 : Int32} (h : wp zX m_Ft_listCuts (QV Q) 2 [(0, .ref 46), (1, .int x1), (2, .int x2), (3, .int 0)] [] M) : CallV zX m_Ft_listCuts [.ref 46, .int x1, .int x2] M Q := by
  refine call_of (by decide) (Nat.le_of_ble_eq_true rfl) ?_
  show wp zX m_Ft_listCuts (QV Q) 0 [(0, .ref 46), (1, .int x1), (2, .int x2)] [] M
  refine zt_iconst (v := 0) d_Ft_listCuts_0 rfl (by decide) ?_
  refine zt_istore_n d_Ft_listCuts_1 rfl rfl (by decide) rfl ?_
  exact zt_sub [1, 2, 3, 0] rfl h
theorem b_Ft_listCuts_2 {Q : Mem → Prop} {M : Mem} {x1 : Int32} {x2 : Int32} {x3 : Int32} (h : ((M.1 46 9) ≤ x3 → (Q M)) ∧ (¬ (M.1 46 9) ≤ x3 → (vp_in x2 62 ∧ (vp_in x3 62 ∧ (CallI zX m_Ft_cutTarget [.ref 46, .int x1, .int (M.1 49 x2.toNatClampNeg), .int (M.1 49 x3.toNatClampNeg)] M (fun r10 M9 => (r10 = (-6) → (wp zX m_Ft_listCuts (QV Q) 2 [(0, .ref 46), (1, .int x1), (2, .int x2), (3, .int (x3 + 1))] [] M9)) ∧ (¬ r10 = (-6) → (vp_in x2 62 ∧ (vp_in x3 62 ∧ (CallI zX m_Pc_cutPrice [.int (M9.1 51 x2.toNatClampNeg), .int (M9.1 51 x3.toNatClampNeg)] M9 (fun r20 M19 => vp_in x2 62 ∧ (vp_in x3 62 ∧ (CallV zX m_Mv_add [.ref 52, .int r10, .int ((M19.1 50 x2.toNatClampNeg) * (M19.1 50 x3.toNatClampNeg)), .int r20] M19 (fun M26 => wp zX m_Ft_listCuts (QV Q) 2 [(0, .ref 46), (1, .int x1), (2, .int x2), (3, .int (x3 + 1))] [] M26)))))))))))))) : wp zX m_Ft_listCuts (QV Q) 2 [(0, .ref 46), (1, .int x1), (2, .int x2), (3, .int x3)] [] M := by
  refine zt_iload_n 3 d_Ft_listCuts_2 rfl rfl rfl ?_
  refine zt_aload_n 0 d_Ft_listCuts_3 rfl rfl rfl ?_
  refine zt_getI d_Ft_listCuts_4 rfl fl_Ft_146 rfl ?_
  refine zt_icmp_ge d_Ft_listCuts_7 rfl (tgt := 83) (by decide) ⟨fun c1 => ?_, fun c1 => ?_⟩
  · have h2 := h.1 c1
    exact zt_vret rfl d_Ft_listCuts_83 ⟨rfl, h2⟩
  · have h3 := h.2 c1
    refine zt_aload_n 0 d_Ft_listCuts_10 rfl rfl rfl ?_
    refine zt_iload_n 1 d_Ft_listCuts_11 rfl rfl rfl ?_
    refine zt_aload_n 0 d_Ft_listCuts_12 rfl rfl rfl ?_
    refine zt_getR (b := 49) d_Ft_listCuts_13 rfl fl_Ft_23 rfl rfl ?_
    refine zt_iload_n 2 d_Ft_listCuts_16 rfl rfl rfl ?_
    obtain ⟨g4, h5⟩ := h3
    refine zt_iald d_Ft_listCuts_17 rfl rfl g4 ?_
    refine zt_aload_n 0 d_Ft_listCuts_18 rfl rfl rfl ?_
    refine zt_getR (b := 49) d_Ft_listCuts_19 rfl fl_Ft_23 rfl rfl ?_
    refine zt_iload_n 3 d_Ft_listCuts_22 rfl rfl rfl ?_
    obtain ⟨g6, h7⟩ := h5
    refine zt_iald d_Ft_listCuts_23 rfl rfl g6 ?_
    refine zt_callVI (as := [.int x1, .int (M.1 49 x2.toNatClampNeg), .int (M.1 49 x3.toNatClampNeg)]) d_Ft_listCuts_24 rfl mi_Ft_cutTarget ⟨Nat.le_of_ble_eq_true rfl, Nat.le_of_ble_eq_true rfl⟩ wd_445 rfl rfl (Nat.le_of_ble_eq_true rfl) rfl h7 (fun r10 M9 h8 => ?_)
    refine zt_istore d_Ft_listCuts_27 rfl (by decide) rfl ?_
    refine zt_iload 0 d_Ft_listCuts_29 rfl rfl ?_
    refine zt_bipush (v := -6) d_Ft_listCuts_31 rfl (by decide) ?_
    refine zt_icmp_eq d_Ft_listCuts_33 rfl (tgt := 77) (by decide) ⟨fun c11 => ?_, fun c11 => ?_⟩
    · have h12 := h8.1 c11
      refine zt_iinc (v := (x3 + 1)) 4 d_Ft_listCuts_77 rfl rfl rfl (by decide) rfl ?_
      refine zt_goto d_Ft_listCuts_80 (tgt := 2) (by decide) ?_
      exact zt_sub [2, 3, 4, 0] rfl h12
    · have h13 := h8.2 c11
      refine zt_aload_n 1 d_Ft_listCuts_36 rfl rfl rfl ?_
      refine zt_getR (b := 51) d_Ft_listCuts_37 rfl fl_Ft_29 rfl rfl ?_
      refine zt_iload_n 3 d_Ft_listCuts_40 rfl rfl rfl ?_
      obtain ⟨g14, h15⟩ := h13
      refine zt_iald d_Ft_listCuts_41 rfl rfl g14 ?_
      refine zt_aload_n 1 d_Ft_listCuts_42 rfl rfl rfl ?_
      refine zt_getR (b := 51) d_Ft_listCuts_43 rfl fl_Ft_29 rfl rfl ?_
      refine zt_iload_n 4 d_Ft_listCuts_46 rfl rfl rfl ?_
      obtain ⟨g16, h17⟩ := h15
      refine zt_iald d_Ft_listCuts_47 rfl rfl g16 ?_
      refine zt_callSI (as := [.int (M9.1 51 x2.toNatClampNeg), .int (M9.1 51 x3.toNatClampNeg)]) d_Ft_listCuts_48 rfl ms_Pc_cutPrice ⟨Nat.le_of_ble_eq_true rfl, Nat.le_of_ble_eq_true rfl⟩ wd_455 rfl rfl (Nat.le_of_ble_eq_true rfl) h17 (fun r20 M19 h18 => ?_)
      refine zt_istore d_Ft_listCuts_51 rfl (by decide) rfl ?_
      refine zt_aload_n 2 d_Ft_listCuts_53 rfl rfl rfl ?_
      refine zt_getR (b := 52) d_Ft_listCuts_54 rfl fl_Ft_35 rfl rfl ?_
      refine zt_iload 1 d_Ft_listCuts_57 rfl rfl ?_
      refine zt_aload_n 2 d_Ft_listCuts_59 rfl rfl rfl ?_
      refine zt_getR (b := 50) d_Ft_listCuts_60 rfl fl_Ft_26 rfl rfl ?_
      refine zt_iload_n 4 d_Ft_listCuts_63 rfl rfl rfl ?_
      obtain ⟨g21, h22⟩ := h18
      refine zt_iald d_Ft_listCuts_64 rfl rfl g21 ?_
      refine zt_aload_n 2 d_Ft_listCuts_65 rfl rfl rfl ?_
      refine zt_getR (b := 50) d_Ft_listCuts_66 rfl fl_Ft_26 rfl rfl ?_
      refine zt_iload_n 5 d_Ft_listCuts_69 rfl rfl rfl ?_
      obtain ⟨g23, h24⟩ := h22
      refine zt_iald d_Ft_listCuts_70 rfl rfl g23 ?_
      refine zt_imul d_Ft_listCuts_71 rfl ?_
      refine zt_iload 0 d_Ft_listCuts_72 rfl rfl ?_
      refine zt_callVV (as := [.int r10, .int ((M19.1 50 x2.toNatClampNeg) * (M19.1 50 x3.toNatClampNeg)), .int r20]) d_Ft_listCuts_74 rfl mi_Mv_add ⟨Nat.le_of_ble_eq_true rfl, Nat.le_of_ble_eq_true rfl⟩ wd_458 rfl rfl (Nat.le_of_ble_eq_true rfl) rfl h24 (fun M26 h25 => ?_)
      refine zt_iinc (v := (x3 + 1)) 5 d_Ft_listCuts_77 rfl rfl rfl (by decide) rfl ?_
      refine zt_goto d_Ft_listCuts_80 (tgt := 2) (by decide) ?_
      exact zt_sub [3, 4, 5, 0] rfl h25
theorem e_Ft_groupMarks {Q : Mem → Prop} {M : Mem}  (h : ∀ N1, N1 = uI M 46 9 0 → (wp zX m_Ft_groupMarks (QV Q) 7 [(0, .ref 46), (1, .int 0)] [] N1)) : CallV zX m_Ft_groupMarks [.ref 46] M Q := by
  refine call_of (by decide) (Nat.le_of_ble_eq_true rfl) ?_
  show wp zX m_Ft_groupMarks (QV Q) 0 [(0, .ref 46)] [] M
  refine zt_aload_n 0 d_Ft_groupMarks_0 rfl rfl rfl ?_
  refine zt_iconst (v := 0) d_Ft_groupMarks_1 rfl (by decide) ?_
  refine zt_putI d_Ft_groupMarks_2 rfl fl_Ft_146 rfl ?_
  have h2 := h _ rfl
  refine zt_iconst (v := 0) d_Ft_groupMarks_5 rfl (by decide) ?_
  refine zt_istore_n d_Ft_groupMarks_6 rfl rfl (by decide) rfl ?_
  exact zt_sub [1, 0] rfl h2
theorem b_Ft_groupMarks_7 {Q : Mem → Prop} {M : Mem} {x1 : Int32} (h : (62 ≤ x1 → (Q M)) ∧ (¬ 62 ≤ x1 → (CallI zX m_Ft_isToldInAll [.ref 46, .int x1] M (fun r6 M5 => (r6 = 0 → (wp zX m_Ft_groupMarks (QV Q) 7 [(0, .ref 46), (1, .int (x1 + 1))] [] M5)) ∧ (¬ r6 = 0 → (CallV zX m_Ft_joinGroup [.ref 46, .int x1] M5 (fun M11 => wp zX m_Ft_groupMarks (QV Q) 7 [(0, .ref 46), (1, .int (x1 + 1))] [] M11))))))) : wp zX m_Ft_groupMarks (QV Q) 7 [(0, .ref 46), (1, .int x1)] [] M := by
  refine zt_iload_n 1 d_Ft_groupMarks_7 rfl rfl rfl ?_
  refine zt_bipush (v := 62) d_Ft_groupMarks_8 rfl (by decide) ?_
  refine zt_icmp_ge d_Ft_groupMarks_10 rfl (tgt := 32) (by decide) ⟨fun c1 => ?_, fun c1 => ?_⟩
  · have h2 := h.1 c1
    exact zt_vret rfl d_Ft_groupMarks_32 ⟨rfl, h2⟩
  · have h3 := h.2 c1
    refine zt_aload_n 0 d_Ft_groupMarks_13 rfl rfl rfl ?_
    refine zt_iload_n 1 d_Ft_groupMarks_14 rfl rfl rfl ?_
    refine zt_callVI (as := [.int x1]) d_Ft_groupMarks_15 rfl mi_Ft_isToldInAll ⟨Nat.le_of_ble_eq_true rfl, Nat.le_of_ble_eq_true rfl⟩ wd_390 rfl rfl (Nat.le_of_ble_eq_true rfl) rfl h3 (fun r6 M5 h4 => ?_)
    refine zt_if_eq d_Ft_groupMarks_18 rfl (tgt := 26) (by decide) ⟨fun c7 => ?_, fun c7 => ?_⟩
    · have h8 := h4.1 c7
      refine zt_iinc (v := (x1 + 1)) 1 d_Ft_groupMarks_26 rfl rfl rfl (by decide) rfl ?_
      refine zt_goto d_Ft_groupMarks_29 (tgt := 7) (by decide) ?_
      exact zt_sub [1, 0] rfl h8
    · have h9 := h4.2 c7
      refine zt_aload_n 0 d_Ft_groupMarks_21 rfl rfl rfl ?_
      refine zt_iload_n 1 d_Ft_groupMarks_22 rfl rfl rfl ?_
      refine zt_callVV (as := [.int x1]) d_Ft_groupMarks_23 rfl mi_Ft_joinGroup ⟨Nat.le_of_ble_eq_true rfl, Nat.le_of_ble_eq_true rfl⟩ wd_398 rfl rfl (Nat.le_of_ble_eq_true rfl) rfl h9 (fun M11 h10 => ?_)
      refine zt_iinc (v := (x1 + 1)) 1 d_Ft_groupMarks_26 rfl rfl rfl (by decide) rfl ?_
      refine zt_goto d_Ft_groupMarks_29 (tgt := 7) (by decide) ?_
      exact zt_sub [1, 0] rfl h10
theorem e_Ft_joinGroup {Q : Mem → Prop} {M : Mem} {x1 : Int32} (h : wp zX m_Ft_joinGroup (QV Q) 2 [(0, .ref 46), (1, .int x1), (2, .int 0)] [] M) : CallV zX m_Ft_joinGroup [.ref 46, .int x1] M Q := by
  refine call_of (by decide) (Nat.le_of_ble_eq_true rfl) ?_
  show wp zX m_Ft_joinGroup (QV Q) 0 [(0, .ref 46), (1, .int x1)] [] M
  refine zt_iconst (v := 0) d_Ft_joinGroup_0 rfl (by decide) ?_
  refine zt_istore_n d_Ft_joinGroup_1 rfl rfl (by decide) rfl ?_
  exact zt_sub [1, 2, 0] rfl h
theorem b_Ft_joinGroup_2 {Q : Mem → Prop} {M : Mem} {x1 : Int32} {x2 : Int32} (h : ((M.1 46 9) ≤ x2 → (wp zX m_Ft_joinGroup (QV Q) 30 [(0, .ref 46), (1, .int x1), (2, .int x2)] [] M)) ∧ (¬ (M.1 46 9) ≤ x2 → (vp_in x2 62 ∧ (CallI zX m_Ft_tellSame [.ref 46, .int (M.1 49 x2.toNatClampNeg), .int x1] M (fun r8 M7 => (r8 = 0 → (wp zX m_Ft_joinGroup (QV Q) 2 [(0, .ref 46), (1, .int x1), (2, .int (x2 + 1))] [] M7)) ∧ (¬ r8 = 0 → (wp zX m_Ft_joinGroup (QV Q) 30 [(0, .ref 46), (1, .int x1), (2, .int x2)] [] M7))))))) : wp zX m_Ft_joinGroup (QV Q) 2 [(0, .ref 46), (1, .int x1), (2, .int x2)] [] M := by
  refine zt_iload_n 2 d_Ft_joinGroup_2 rfl rfl rfl ?_
  refine zt_aload_n 0 d_Ft_joinGroup_3 rfl rfl rfl ?_
  refine zt_getI d_Ft_joinGroup_4 rfl fl_Ft_146 rfl ?_
  refine zt_icmp_ge d_Ft_joinGroup_7 rfl (tgt := 30) (by decide) ⟨fun c1 => ?_, fun c1 => ?_⟩
  · have h2 := h.1 c1
    exact h2
  · have h3 := h.2 c1
    refine zt_aload_n 0 d_Ft_joinGroup_10 rfl rfl rfl ?_
    refine zt_aload_n 0 d_Ft_joinGroup_11 rfl rfl rfl ?_
    refine zt_getR (b := 49) d_Ft_joinGroup_12 rfl fl_Ft_23 rfl rfl ?_
    refine zt_iload_n 2 d_Ft_joinGroup_15 rfl rfl rfl ?_
    obtain ⟨g4, h5⟩ := h3
    refine zt_iald d_Ft_joinGroup_16 rfl rfl g4 ?_
    refine zt_iload_n 1 d_Ft_joinGroup_17 rfl rfl rfl ?_
    refine zt_callVI (as := [.int (M.1 49 x2.toNatClampNeg), .int x1]) d_Ft_joinGroup_18 rfl mi_Ft_tellSame ⟨Nat.le_of_ble_eq_true rfl, Nat.le_of_ble_eq_true rfl⟩ wd_402 rfl rfl (Nat.le_of_ble_eq_true rfl) rfl h5 (fun r8 M7 h6 => ?_)
    refine zt_if_ne d_Ft_joinGroup_21 rfl (tgt := 30) (by decide) ⟨fun c9 => ?_, fun c9 => ?_⟩
    · have h10 := h6.1 c9
      refine zt_iinc (v := (x2 + 1)) 2 d_Ft_joinGroup_24 rfl rfl rfl (by decide) rfl ?_
      refine zt_goto d_Ft_joinGroup_27 (tgt := 2) (by decide) ?_
      exact zt_sub [1, 2, 0] rfl h10
    · have h11 := h6.2 c9
      exact h11
theorem b_Ft_joinGroup_30 {Q : Mem → Prop} {M : Mem} {x1 : Int32} {x2 : Int32} (h : (x2 < 62 → ((x2 = (M.1 46 9) → (vp_in x2 62 ∧ (∀ N9, N9 = uI M 49 x2.toNatClampNeg x1 → (vp_in x2 62 ∧ (∀ N12, N12 = uI N9 50 x2.toNatClampNeg 0 → (CallI zX m_Mk_price [.int x1] N12 (fun r15 M14 => vp_in x2 62 ∧ (∀ N18, N18 = uI M14 51 x2.toNatClampNeg r15 → (∀ N19, N19 = uI N18 46 9 ((N18.1 46 9) + 1) → (wp zX m_Ft_joinGroup (QV Q) 79 [(0, .ref 46), (1, .int x1), (2, .int x2)] [] N19)))))))))) ∧ (¬ x2 = (M.1 46 9) → (wp zX m_Ft_joinGroup (QV Q) 79 [(0, .ref 46), (1, .int x1), (2, .int x2)] [] M)))) ∧ (¬ x2 < 62 → (Q M))) : wp zX m_Ft_joinGroup (QV Q) 30 [(0, .ref 46), (1, .int x1), (2, .int x2)] [] M := by
  refine zt_iload_n 2 d_Ft_joinGroup_30 rfl rfl rfl ?_
  refine zt_bipush (v := 62) d_Ft_joinGroup_31 rfl (by decide) ?_
  refine zt_icmp_lt d_Ft_joinGroup_33 rfl (tgt := 37) (by decide) ⟨fun c1 => ?_, fun c1 => ?_⟩
  · have h2 := h.1 c1
    refine zt_iload_n 2 d_Ft_joinGroup_37 rfl rfl rfl ?_
    refine zt_aload_n 0 d_Ft_joinGroup_38 rfl rfl rfl ?_
    refine zt_getI d_Ft_joinGroup_39 rfl fl_Ft_146 rfl ?_
    refine zt_icmp_ne d_Ft_joinGroup_42 rfl (tgt := 79) (by decide) ⟨fun c4 => ?_, fun c4 => ?_⟩
    · have h5 := h2.1 c4
      refine zt_aload_n 0 d_Ft_joinGroup_45 rfl rfl rfl ?_
      refine zt_getR (b := 49) d_Ft_joinGroup_46 rfl fl_Ft_23 rfl rfl ?_
      refine zt_iload_n 2 d_Ft_joinGroup_49 rfl rfl rfl ?_
      refine zt_iload_n 1 d_Ft_joinGroup_50 rfl rfl rfl ?_
      obtain ⟨g7, h8⟩ := h5
      refine zt_iast d_Ft_joinGroup_51 rfl rfl g7 ?_
      have h8 := h8 _ rfl
      refine zt_aload_n 0 d_Ft_joinGroup_52 rfl rfl rfl ?_
      refine zt_getR (b := 50) d_Ft_joinGroup_53 rfl fl_Ft_26 rfl rfl ?_
      refine zt_iload_n 2 d_Ft_joinGroup_56 rfl rfl rfl ?_
      refine zt_iconst (v := 0) d_Ft_joinGroup_57 rfl (by decide) ?_
      obtain ⟨g10, h11⟩ := h8
      refine zt_iast d_Ft_joinGroup_58 rfl rfl g10 ?_
      have h11 := h11 _ rfl
      refine zt_aload_n 0 d_Ft_joinGroup_59 rfl rfl rfl ?_
      refine zt_getR (b := 51) d_Ft_joinGroup_60 rfl fl_Ft_29 rfl rfl ?_
      refine zt_iload_n 2 d_Ft_joinGroup_63 rfl rfl rfl ?_
      refine zt_iload_n 1 d_Ft_joinGroup_64 rfl rfl rfl ?_
      refine zt_callSI (as := [.int x1]) d_Ft_joinGroup_65 rfl ms_Mk_price ⟨Nat.le_of_ble_eq_true rfl, Nat.le_of_ble_eq_true rfl⟩ wd_406 rfl rfl (Nat.le_of_ble_eq_true rfl) h11 (fun r15 M14 h13 => ?_)
      obtain ⟨g16, h17⟩ := h13
      refine zt_iast d_Ft_joinGroup_68 rfl rfl g16 ?_
      have h17 := h17 _ rfl
      refine zt_aload_n 0 d_Ft_joinGroup_69 rfl rfl rfl ?_
      refine zt_dup d_Ft_joinGroup_70 rfl rfl ?_
      refine zt_getI d_Ft_joinGroup_71 rfl fl_Ft_146 rfl ?_
      refine zt_iconst (v := 1) d_Ft_joinGroup_74 rfl (by decide) ?_
      refine zt_iadd d_Ft_joinGroup_75 rfl ?_
      refine zt_putI d_Ft_joinGroup_76 rfl fl_Ft_146 rfl ?_
      have h20 := h17 _ rfl
      exact h20
    · have h6 := h2.2 c4
      exact h6
  · have h3 := h.2 c1
    exact zt_vret rfl d_Ft_joinGroup_36 ⟨rfl, h3⟩
theorem b_Ft_joinGroup_79 {Q : Mem → Prop} {M : Mem} {x1 : Int32} {x2 : Int32} (h : vp_in x2 62 ∧ (vp_in x2 62 ∧ (∀ N5, N5 = uI M 50 x2.toNatClampNeg ((M.1 50 x2.toNatClampNeg) + 1) → (vp_in x2 62 ∧ (CallI zX m_Mk_price [.int x1] N5 (fun r10 M9 => vp_in x2 62 ∧ (∀ N13, N13 = uI M9 51 x2.toNatClampNeg (if r10 < (N5.1 51 x2.toNatClampNeg) then r10 else (N5.1 51 x2.toNatClampNeg)) → (Q N13)))))))) : wp zX m_Ft_joinGroup (QV Q) 79 [(0, .ref 46), (1, .int x1), (2, .int x2)] [] M := by
  refine zt_aload_n 0 d_Ft_joinGroup_79 rfl rfl rfl ?_
  refine zt_getR (b := 50) d_Ft_joinGroup_80 rfl fl_Ft_26 rfl rfl ?_
  refine zt_iload_n 2 d_Ft_joinGroup_83 rfl rfl rfl ?_
  refine zt_dup2 d_Ft_joinGroup_84 rfl rfl rfl ?_
  obtain ⟨g1, h2⟩ := h
  refine zt_iald d_Ft_joinGroup_85 rfl rfl g1 ?_
  refine zt_iconst (v := 1) d_Ft_joinGroup_86 rfl (by decide) ?_
  refine zt_iadd d_Ft_joinGroup_87 rfl ?_
  obtain ⟨g3, h4⟩ := h2
  refine zt_iast d_Ft_joinGroup_88 rfl rfl g3 ?_
  have h4 := h4 _ rfl
  refine zt_aload_n 0 d_Ft_joinGroup_89 rfl rfl rfl ?_
  refine zt_getR (b := 51) d_Ft_joinGroup_90 rfl fl_Ft_29 rfl rfl ?_
  refine zt_iload_n 2 d_Ft_joinGroup_93 rfl rfl rfl ?_
  refine zt_aload_n 0 d_Ft_joinGroup_94 rfl rfl rfl ?_
  refine zt_getR (b := 51) d_Ft_joinGroup_95 rfl fl_Ft_29 rfl rfl ?_
  refine zt_iload_n 2 d_Ft_joinGroup_98 rfl rfl rfl ?_
  obtain ⟨g6, h7⟩ := h4
  refine zt_iald d_Ft_joinGroup_99 rfl rfl g6 ?_
  refine zt_iload_n 1 d_Ft_joinGroup_100 rfl rfl rfl ?_
  refine zt_callSI (as := [.int x1]) d_Ft_joinGroup_101 rfl ms_Mk_price ⟨Nat.le_of_ble_eq_true rfl, Nat.le_of_ble_eq_true rfl⟩ wd_406 rfl rfl (Nat.le_of_ble_eq_true rfl) h7 (fun r10 M9 h8 => ?_)
  refine zt_mmin d_Ft_joinGroup_104 rfl ma_Ft_joinGroup_86 (Nat.le_of_ble_eq_true rfl) ?_
  obtain ⟨g11, h12⟩ := h8
  refine zt_iast d_Ft_joinGroup_107 rfl rfl g11 ?_
  have h12 := h12 _ rfl
  exact zt_vret rfl d_Ft_joinGroup_108 ⟨rfl, h12⟩
theorem e_Ft_isToldInAll {Q : Int32 → Mem → Prop} {M : Mem} {x1 : Int32} (h : wp zX m_Ft_isToldInAll (QI Q) 2 [(0, .ref 46), (1, .int x1), (2, .int 0)] [] M) : CallI zX m_Ft_isToldInAll [.ref 46, .int x1] M Q := by
  refine call_of (by decide) (Nat.le_of_ble_eq_true rfl) ?_
  show wp zX m_Ft_isToldInAll (QI Q) 0 [(0, .ref 46), (1, .int x1)] [] M
  refine zt_iconst (v := 0) d_Ft_isToldInAll_0 rfl (by decide) ?_
  refine zt_istore_n d_Ft_isToldInAll_1 rfl rfl (by decide) rfl ?_
  exact zt_sub [1, 2, 0] rfl h
theorem b_Ft_isToldInAll_2 {Q : Int32 → Mem → Prop} {M : Mem} {x1 : Int32} {x2 : Int32} (h : ((M.1 46 8) ≤ x2 → (Q 1 M)) ∧ (¬ (M.1 46 8) ≤ x2 → (vp_in x2 4 ∧ (CallI zX m_Rw_placeOf [.ref (47 + 11 + 19 * x2.toNatClampNeg), .int x1] M (fun r8 M7 => (r8 = (-6) → (Q 0 M7)) ∧ (¬ r8 = (-6) → (wp zX m_Ft_isToldInAll (QI Q) 2 [(0, .ref 46), (1, .int x1), (2, .int (x2 + 1))] [] M7))))))) : wp zX m_Ft_isToldInAll (QI Q) 2 [(0, .ref 46), (1, .int x1), (2, .int x2)] [] M := by
  refine zt_iload_n 2 d_Ft_isToldInAll_2 rfl rfl rfl ?_
  refine zt_aload_n 0 d_Ft_isToldInAll_3 rfl rfl rfl ?_
  refine zt_getI d_Ft_isToldInAll_4 rfl fl_Ft_47 rfl ?_
  refine zt_icmp_ge d_Ft_isToldInAll_7 rfl (tgt := 33) (by decide) ⟨fun c1 => ?_, fun c1 => ?_⟩
  · have h2 := h.1 c1
    refine zt_iconst (v := 1) d_Ft_isToldInAll_33 rfl (by decide) ?_
    exact zt_zret rfl d_Ft_isToldInAll_34 rfl ⟨_, rfl, h2⟩
  · have h3 := h.2 c1
    refine zt_aload_n 0 d_Ft_isToldInAll_10 rfl rfl rfl ?_
    refine zt_getR (b := 47) d_Ft_isToldInAll_11 rfl fl_Ft_13 rfl rfl ?_
    refine zt_iload_n 2 d_Ft_isToldInAll_14 rfl rfl rfl ?_
    obtain ⟨g4, h5⟩ := h3
    refine zt_aald (b := 47 + 11 + 19 * x2.toNatClampNeg) d_Ft_isToldInAll_15 rfl (fun _ => rfl) rfl (by decide) (by decide) rfl g4 rfl ?_
    refine zt_iload_n 1 d_Ft_isToldInAll_16 rfl rfl rfl ?_
    refine zt_callVI (as := [.int x1]) d_Ft_isToldInAll_17 rfl mi_Rw_placeOf ⟨Nat.le_of_ble_eq_true rfl, Nat.le_of_ble_eq_true rfl⟩ wd_394 rfl rfl (Nat.le_of_ble_eq_true rfl) (T_rows _ (vp_lt g4)).1 h5 (fun r8 M7 h6 => ?_)
    refine zt_bipush (v := -6) d_Ft_isToldInAll_20 rfl (by decide) ?_
    refine zt_icmp_ne d_Ft_isToldInAll_22 rfl (tgt := 27) (by decide) ⟨fun c9 => ?_, fun c9 => ?_⟩
    · have h10 := h6.1 c9
      refine zt_iconst (v := 0) d_Ft_isToldInAll_25 rfl (by decide) ?_
      exact zt_zret rfl d_Ft_isToldInAll_26 rfl ⟨_, rfl, h10⟩
    · have h11 := h6.2 c9
      refine zt_iinc (v := (x2 + 1)) 2 d_Ft_isToldInAll_27 rfl rfl rfl (by decide) rfl ?_
      refine zt_goto d_Ft_isToldInAll_30 (tgt := 2) (by decide) ?_
      exact zt_sub [1, 2, 0] rfl h11
theorem e_Ft_tellSame {Q : Int32 → Mem → Prop} {M : Mem} {x1 : Int32} {x2 : Int32} (h : wp zX m_Ft_tellSame (QI Q) 2 [(0, .ref 46), (1, .int x1), (2, .int x2), (3, .int 0)] [] M) : CallI zX m_Ft_tellSame [.ref 46, .int x1, .int x2] M Q := by
  refine call_of (by decide) (Nat.le_of_ble_eq_true rfl) ?_
  show wp zX m_Ft_tellSame (QI Q) 0 [(0, .ref 46), (1, .int x1), (2, .int x2)] [] M
  refine zt_iconst (v := 0) d_Ft_tellSame_0 rfl (by decide) ?_
  refine zt_istore_n d_Ft_tellSame_1 rfl rfl (by decide) rfl ?_
  exact zt_sub [1, 2, 3, 0] rfl h
theorem b_Ft_tellSame_2 {Q : Int32 → Mem → Prop} {M : Mem} {x1 : Int32} {x2 : Int32} {x3 : Int32} (h : ((M.1 46 8) ≤ x3 → (Q 1 M)) ∧ (¬ (M.1 46 8) ≤ x3 → (vp_in x3 4 ∧ (CallI zX m_Rw_placeOf [.ref (47 + 11 + 19 * x3.toNatClampNeg), .int x1] M (fun r8 M7 => vp_in x3 4 ∧ (CallI zX m_Rw_placeOf [.ref (47 + 11 + 19 * x3.toNatClampNeg), .int x2] M7 (fun r13 M12 => (r8 = r13 → (wp zX m_Ft_tellSame (QI Q) 2 [(0, .ref 46), (1, .int x1), (2, .int x2), (3, .int (x3 + 1))] [] M12)) ∧ (¬ r8 = r13 → (Q 0 M12))))))))) : wp zX m_Ft_tellSame (QI Q) 2 [(0, .ref 46), (1, .int x1), (2, .int x2), (3, .int x3)] [] M := by
  refine zt_iload_n 3 d_Ft_tellSame_2 rfl rfl rfl ?_
  refine zt_aload_n 0 d_Ft_tellSame_3 rfl rfl rfl ?_
  refine zt_getI d_Ft_tellSame_4 rfl fl_Ft_47 rfl ?_
  refine zt_icmp_ge d_Ft_tellSame_7 rfl (tgt := 41) (by decide) ⟨fun c1 => ?_, fun c1 => ?_⟩
  · have h2 := h.1 c1
    refine zt_iconst (v := 1) d_Ft_tellSame_41 rfl (by decide) ?_
    exact zt_zret rfl d_Ft_tellSame_42 rfl ⟨_, rfl, h2⟩
  · have h3 := h.2 c1
    refine zt_aload_n 0 d_Ft_tellSame_10 rfl rfl rfl ?_
    refine zt_getR (b := 47) d_Ft_tellSame_11 rfl fl_Ft_13 rfl rfl ?_
    refine zt_iload_n 3 d_Ft_tellSame_14 rfl rfl rfl ?_
    obtain ⟨g4, h5⟩ := h3
    refine zt_aald (b := 47 + 11 + 19 * x3.toNatClampNeg) d_Ft_tellSame_15 rfl (fun _ => rfl) rfl (by decide) (by decide) rfl g4 rfl ?_
    refine zt_iload_n 1 d_Ft_tellSame_16 rfl rfl rfl ?_
    refine zt_callVI (as := [.int x1]) d_Ft_tellSame_17 rfl mi_Rw_placeOf ⟨Nat.le_of_ble_eq_true rfl, Nat.le_of_ble_eq_true rfl⟩ wd_394 rfl rfl (Nat.le_of_ble_eq_true rfl) (T_rows _ (vp_lt g4)).1 h5 (fun r8 M7 h6 => ?_)
    refine zt_aload_n 0 d_Ft_tellSame_20 rfl rfl rfl ?_
    refine zt_getR (b := 47) d_Ft_tellSame_21 rfl fl_Ft_13 rfl rfl ?_
    refine zt_iload_n 3 d_Ft_tellSame_24 rfl rfl rfl ?_
    obtain ⟨g9, h10⟩ := h6
    refine zt_aald (b := 47 + 11 + 19 * x3.toNatClampNeg) d_Ft_tellSame_25 rfl (fun _ => rfl) rfl (by decide) (by decide) rfl g9 rfl ?_
    refine zt_iload_n 2 d_Ft_tellSame_26 rfl rfl rfl ?_
    refine zt_callVI (as := [.int x2]) d_Ft_tellSame_27 rfl mi_Rw_placeOf ⟨Nat.le_of_ble_eq_true rfl, Nat.le_of_ble_eq_true rfl⟩ wd_394 rfl rfl (Nat.le_of_ble_eq_true rfl) (T_rows _ (vp_lt g9)).1 h10 (fun r13 M12 h11 => ?_)
    refine zt_icmp_eq d_Ft_tellSame_30 rfl (tgt := 35) (by decide) ⟨fun c14 => ?_, fun c14 => ?_⟩
    · have h15 := h11.1 c14
      refine zt_iinc (v := (x3 + 1)) 3 d_Ft_tellSame_35 rfl rfl rfl (by decide) rfl ?_
      refine zt_goto d_Ft_tellSame_38 (tgt := 2) (by decide) ?_
      exact zt_sub [1, 2, 3, 0] rfl h15
    · have h16 := h11.2 c14
      refine zt_iconst (v := 0) d_Ft_tellSame_33 rfl (by decide) ?_
      exact zt_zret rfl d_Ft_tellSame_34 rfl ⟨_, rfl, h16⟩
theorem e_Ft_reach {Q : Mem → Prop} {M : Mem} {x1 : Int32} (h : wp zX m_Ft_reach (QV Q) 4 [(0, .ref 46), (2, .int x1), (3, .int 0)] [] M) : CallV zX m_Ft_reach [.ref 46, .int x1] M Q := by
  refine call_of (by decide) (Nat.le_of_ble_eq_true rfl) ?_
  show wp zX m_Ft_reach (QV Q) 0 [(0, .ref 46), (1, .int x1)] [] M
  refine zt_iload_n 1 d_Ft_reach_0 rfl rfl rfl ?_
  refine zt_istore_n d_Ft_reach_1 rfl rfl (by decide) rfl ?_
  refine zt_iconst (v := 0) d_Ft_reach_2 rfl (by decide) ?_
  refine zt_istore_n d_Ft_reach_3 rfl rfl (by decide) rfl ?_
  exact zt_sub [2, 1, 0] rfl h
theorem b_Ft_reach_4 {Q : Mem → Prop} {M : Mem} {x2 : Int32} {x3 : Int32} (h : ((M.1 46 8) ≤ x3 → (Q M)) ∧ (¬ (M.1 46 8) ≤ x3 → (vp_in x3 4 ∧ (∀ N6, N6 = uI M 48 x3.toNatClampNeg (x2 - x2 / 6 * 6) → (wp zX m_Ft_reach (QV Q) 4 [(0, .ref 46), (2, .int (x2 / 6)), (3, .int (x3 + 1))] [] N6))))) : wp zX m_Ft_reach (QV Q) 4 [(0, .ref 46), (2, .int x2), (3, .int x3)] [] M := by
  refine zt_iload_n 2 d_Ft_reach_4 rfl rfl rfl ?_
  refine zt_aload_n 0 d_Ft_reach_5 rfl rfl rfl ?_
  refine zt_getI d_Ft_reach_6 rfl fl_Ft_47 rfl ?_
  refine zt_icmp_ge d_Ft_reach_9 rfl (tgt := 33) (by decide) ⟨fun c1 => ?_, fun c1 => ?_⟩
  · have h2 := h.1 c1
    exact zt_vret rfl d_Ft_reach_33 ⟨rfl, h2⟩
  · have h3 := h.2 c1
    refine zt_aload_n 0 d_Ft_reach_12 rfl rfl rfl ?_
    refine zt_getR (b := 48) d_Ft_reach_13 rfl fl_Ft_17 rfl rfl ?_
    refine zt_iload_n 2 d_Ft_reach_16 rfl rfl rfl ?_
    refine zt_iload_n 1 d_Ft_reach_17 rfl rfl rfl ?_
    refine zt_bipush (v := 6) d_Ft_reach_18 rfl (by decide) ?_
    refine zt_irem d_Ft_reach_20 rfl (by decide) ?_
    obtain ⟨g4, h5⟩ := h3
    refine zt_iast d_Ft_reach_21 rfl rfl g4 ?_
    have h5 := h5 _ rfl
    refine zt_iload_n 1 d_Ft_reach_22 rfl rfl rfl ?_
    refine zt_bipush (v := 6) d_Ft_reach_23 rfl (by decide) ?_
    refine zt_idiv d_Ft_reach_25 rfl (by decide) ?_
    refine zt_istore_n d_Ft_reach_26 rfl rfl (by decide) rfl ?_
    refine zt_iinc (v := (x3 + 1)) 2 d_Ft_reach_27 rfl rfl rfl (by decide) rfl ?_
    refine zt_goto d_Ft_reach_30 (tgt := 4) (by decide) ?_
    exact zt_sub [2, 1, 0] rfl h5
theorem e_Ft_canBegin {Q : Int32 → Mem → Prop} {M : Mem} {x1 : Int32} (h : wp zX m_Ft_canBegin (QI Q) 2 [(0, .ref 46), (1, .int x1), (2, .int 0)] [] M) : CallI zX m_Ft_canBegin [.ref 46, .int x1] M Q := by
  refine call_of (by decide) (Nat.le_of_ble_eq_true rfl) ?_
  show wp zX m_Ft_canBegin (QI Q) 0 [(0, .ref 46), (1, .int x1)] [] M
  refine zt_iconst (v := 0) d_Ft_canBegin_0 rfl (by decide) ?_
  refine zt_istore_n d_Ft_canBegin_1 rfl rfl (by decide) rfl ?_
  exact zt_sub [1, 2, 0] rfl h
theorem b_Ft_canBegin_2 {Q : Int32 → Mem → Prop} {M : Mem} {x1 : Int32} {x2 : Int32} (h : ((M.1 46 8) ≤ x2 → (Q 1 M)) ∧ (¬ (M.1 46 8) ≤ x2 → (vp_in x2 4 ∧ (vp_in x2 4 ∧ (CallI zX m_Rw_placeOf [.ref (47 + 11 + 19 * x2.toNatClampNeg), .int x1] M (fun r10 M9 => vp_in x2 4 ∧ (CallI zX m_Rw_longestFrom [.ref (47 + 11 + 19 * x2.toNatClampNeg), .int r10, .int (M9.1 48 x2.toNatClampNeg)] M9 (fun r15 M14 => (r15 = 0 → (Q 0 M14)) ∧ (¬ r15 = 0 → (wp zX m_Ft_canBegin (QI Q) 2 [(0, .ref 46), (1, .int x1), (2, .int (x2 + 1))] [] M14)))))))))) : wp zX m_Ft_canBegin (QI Q) 2 [(0, .ref 46), (1, .int x1), (2, .int x2)] [] M := by
  refine zt_iload_n 2 d_Ft_canBegin_2 rfl rfl rfl ?_
  refine zt_aload_n 0 d_Ft_canBegin_3 rfl rfl rfl ?_
  refine zt_getI d_Ft_canBegin_4 rfl fl_Ft_47 rfl ?_
  refine zt_icmp_ge d_Ft_canBegin_7 rfl (tgt := 46) (by decide) ⟨fun c1 => ?_, fun c1 => ?_⟩
  · have h2 := h.1 c1
    refine zt_iconst (v := 1) d_Ft_canBegin_46 rfl (by decide) ?_
    exact zt_zret rfl d_Ft_canBegin_47 rfl ⟨_, rfl, h2⟩
  · have h3 := h.2 c1
    refine zt_aload_n 0 d_Ft_canBegin_10 rfl rfl rfl ?_
    refine zt_getR (b := 47) d_Ft_canBegin_11 rfl fl_Ft_13 rfl rfl ?_
    refine zt_iload_n 2 d_Ft_canBegin_14 rfl rfl rfl ?_
    obtain ⟨g4, h5⟩ := h3
    refine zt_aald (b := 47 + 11 + 19 * x2.toNatClampNeg) d_Ft_canBegin_15 rfl (fun _ => rfl) rfl (by decide) (by decide) rfl g4 rfl ?_
    refine zt_aload_n 0 d_Ft_canBegin_16 rfl rfl rfl ?_
    refine zt_getR (b := 47) d_Ft_canBegin_17 rfl fl_Ft_13 rfl rfl ?_
    refine zt_iload_n 2 d_Ft_canBegin_20 rfl rfl rfl ?_
    obtain ⟨g6, h7⟩ := h5
    refine zt_aald (b := 47 + 11 + 19 * x2.toNatClampNeg) d_Ft_canBegin_21 rfl (fun _ => rfl) rfl (by decide) (by decide) rfl g6 rfl ?_
    refine zt_iload_n 1 d_Ft_canBegin_22 rfl rfl rfl ?_
    refine zt_callVI (as := [.int x1]) d_Ft_canBegin_23 rfl mi_Rw_placeOf ⟨Nat.le_of_ble_eq_true rfl, Nat.le_of_ble_eq_true rfl⟩ wd_394 rfl rfl (Nat.le_of_ble_eq_true rfl) (T_rows _ (vp_lt g6)).1 h7 (fun r10 M9 h8 => ?_)
    refine zt_aload_n 0 d_Ft_canBegin_26 rfl rfl rfl ?_
    refine zt_getR (b := 48) d_Ft_canBegin_27 rfl fl_Ft_17 rfl rfl ?_
    refine zt_iload_n 2 d_Ft_canBegin_30 rfl rfl rfl ?_
    obtain ⟨g11, h12⟩ := h8
    refine zt_iald d_Ft_canBegin_31 rfl rfl g11 ?_
    refine zt_callVI (as := [.int r10, .int (M9.1 48 x2.toNatClampNeg)]) d_Ft_canBegin_32 rfl mi_Rw_longestFrom ⟨Nat.le_of_ble_eq_true rfl, Nat.le_of_ble_eq_true rfl⟩ wd_437 rfl rfl (Nat.le_of_ble_eq_true rfl) (T_rows _ (vp_lt g4)).1 h12 (fun r15 M14 h13 => ?_)
    refine zt_if_ne d_Ft_canBegin_35 rfl (tgt := 40) (by decide) ⟨fun c16 => ?_, fun c16 => ?_⟩
    · have h17 := h13.1 c16
      refine zt_iconst (v := 0) d_Ft_canBegin_38 rfl (by decide) ?_
      exact zt_zret rfl d_Ft_canBegin_39 rfl ⟨_, rfl, h17⟩
    · have h18 := h13.2 c16
      refine zt_iinc (v := (x2 + 1)) 2 d_Ft_canBegin_40 rfl rfl rfl (by decide) rfl ?_
      refine zt_goto d_Ft_canBegin_43 (tgt := 2) (by decide) ?_
      exact zt_sub [1, 2, 0] rfl h18
theorem e_Ft_cutTarget {Q : Int32 → Mem → Prop} {M : Mem} {x1 : Int32} {x2 : Int32} {x3 : Int32} (h : wp zX m_Ft_cutTarget (QI Q) 9 [(0, .ref 46), (2, .int x2), (3, .int x3), (4, .int x1), (5, .int 1), (6, .int 0)] [] M) : CallI zX m_Ft_cutTarget [.ref 46, .int x1, .int x2, .int x3] M Q := by
  refine call_of (by decide) (Nat.le_of_ble_eq_true rfl) ?_
  show wp zX m_Ft_cutTarget (QI Q) 0 [(0, .ref 46), (1, .int x1), (2, .int x2), (3, .int x3)] [] M
  refine zt_iload_n 1 d_Ft_cutTarget_0 rfl rfl rfl ?_
  refine zt_istore d_Ft_cutTarget_1 rfl (by decide) rfl ?_
  refine zt_iconst (v := 1) d_Ft_cutTarget_3 rfl (by decide) ?_
  refine zt_istore d_Ft_cutTarget_4 rfl (by decide) rfl ?_
  refine zt_iconst (v := 0) d_Ft_cutTarget_6 rfl (by decide) ?_
  refine zt_istore d_Ft_cutTarget_7 rfl (by decide) rfl ?_
  exact zt_sub [3, 5, 6, 2, 1, 0] rfl h
theorem b_Ft_cutTarget_9 {Q : Int32 → Mem → Prop} {M : Mem} {x2 : Int32} {x3 : Int32} {x4 : Int32} {x5 : Int32} {x6 : Int32} (h : ((M.1 46 8) ≤ x6 → (Q x4 M)) ∧ (¬ (M.1 46 8) ≤ x6 → (vp_in x6 4 ∧ (vp_in x6 4 ∧ (CallI zX m_Rw_cutLength [.ref (47 + 11 + 19 * x6.toNatClampNeg), .int x2, .int x3, .int (M.1 48 x6.toNatClampNeg)] M (fun r10 M9 => (r10 = 0 → (Q (-6) M9)) ∧ (¬ r10 = 0 → (wp zX m_Ft_cutTarget (QI Q) 9 [(0, .ref 46), (2, .int x2), (3, .int x3), (4, .int (x4 + (r10 * x5))), (5, .int (x5 * 6)), (6, .int (x6 + 1))] [] M9)))))))) : wp zX m_Ft_cutTarget (QI Q) 9 [(0, .ref 46), (2, .int x2), (3, .int x3), (4, .int x4), (5, .int x5), (6, .int x6)] [] M := by
  refine zt_iload 5 d_Ft_cutTarget_9 rfl rfl ?_
  refine zt_aload_n 0 d_Ft_cutTarget_11 rfl rfl rfl ?_
  refine zt_getI d_Ft_cutTarget_12 rfl fl_Ft_47 rfl ?_
  refine zt_icmp_ge d_Ft_cutTarget_15 rfl (tgt := 70) (by decide) ⟨fun c1 => ?_, fun c1 => ?_⟩
  · have h2 := h.1 c1
    refine zt_iload 3 d_Ft_cutTarget_70 rfl rfl ?_
    exact zt_iret rfl d_Ft_cutTarget_72 ⟨_, rfl, h2⟩
  · have h3 := h.2 c1
    refine zt_aload_n 0 d_Ft_cutTarget_18 rfl rfl rfl ?_
    refine zt_getR (b := 47) d_Ft_cutTarget_19 rfl fl_Ft_13 rfl rfl ?_
    refine zt_iload 5 d_Ft_cutTarget_22 rfl rfl ?_
    obtain ⟨g4, h5⟩ := h3
    refine zt_aald (b := 47 + 11 + 19 * x6.toNatClampNeg) d_Ft_cutTarget_24 rfl (fun _ => rfl) rfl (by decide) (by decide) rfl g4 rfl ?_
    refine zt_iload_n 1 d_Ft_cutTarget_25 rfl rfl rfl ?_
    refine zt_iload_n 2 d_Ft_cutTarget_26 rfl rfl rfl ?_
    refine zt_aload_n 0 d_Ft_cutTarget_27 rfl rfl rfl ?_
    refine zt_getR (b := 48) d_Ft_cutTarget_28 rfl fl_Ft_17 rfl rfl ?_
    refine zt_iload 5 d_Ft_cutTarget_31 rfl rfl ?_
    obtain ⟨g6, h7⟩ := h5
    refine zt_iald d_Ft_cutTarget_33 rfl rfl g6 ?_
    refine zt_callVI (as := [.int x2, .int x3, .int (M.1 48 x6.toNatClampNeg)]) d_Ft_cutTarget_34 rfl mi_Rw_cutLength ⟨Nat.le_of_ble_eq_true rfl, Nat.le_of_ble_eq_true rfl⟩ wd_449 rfl rfl (Nat.le_of_ble_eq_true rfl) (T_rows _ (vp_lt g4)).1 h7 (fun r10 M9 h8 => ?_)
    refine zt_istore d_Ft_cutTarget_37 rfl (by decide) rfl ?_
    refine zt_iload 0 d_Ft_cutTarget_39 rfl rfl ?_
    refine zt_if_ne d_Ft_cutTarget_41 rfl (tgt := 47) (by decide) ⟨fun c11 => ?_, fun c11 => ?_⟩
    · have h12 := h8.1 c11
      refine zt_bipush (v := -6) d_Ft_cutTarget_44 rfl (by decide) ?_
      exact zt_iret rfl d_Ft_cutTarget_46 ⟨_, rfl, h12⟩
    · have h13 := h8.2 c11
      refine zt_iload 4 d_Ft_cutTarget_47 rfl rfl ?_
      refine zt_iload 0 d_Ft_cutTarget_49 rfl rfl ?_
      refine zt_iload 5 d_Ft_cutTarget_51 rfl rfl ?_
      refine zt_imul d_Ft_cutTarget_53 rfl ?_
      refine zt_iadd d_Ft_cutTarget_54 rfl ?_
      refine zt_istore d_Ft_cutTarget_55 rfl (by decide) rfl ?_
      refine zt_iload 5 d_Ft_cutTarget_57 rfl rfl ?_
      refine zt_bipush (v := 6) d_Ft_cutTarget_59 rfl (by decide) ?_
      refine zt_imul d_Ft_cutTarget_61 rfl ?_
      refine zt_istore d_Ft_cutTarget_62 rfl (by decide) rfl ?_
      refine zt_iinc (v := (x6 + 1)) 6 d_Ft_cutTarget_64 rfl rfl rfl (by decide) rfl ?_
      refine zt_goto d_Ft_cutTarget_67 (tgt := 9) (by decide) ?_
      exact zt_sub [4, 5, 6, 2, 1, 0] rfl h13
theorem e_Ft_textTarget {Q : Int32 → Mem → Prop} {M : Mem} {x1 : Int32} {x2 : Int32} (h : wp zX m_Ft_textTarget (QI Q) 8 [(0, .ref 46), (2, .int x2), (3, .int x1), (4, .int 1), (5, .int 0)] [] M) : CallI zX m_Ft_textTarget [.ref 46, .int x1, .int x2] M Q := by
  refine call_of (by decide) (Nat.le_of_ble_eq_true rfl) ?_
  show wp zX m_Ft_textTarget (QI Q) 0 [(0, .ref 46), (1, .int x1), (2, .int x2)] [] M
  refine zt_iload_n 1 d_Ft_textTarget_0 rfl rfl rfl ?_
  refine zt_istore_n d_Ft_textTarget_1 rfl rfl (by decide) rfl ?_
  refine zt_iconst (v := 1) d_Ft_textTarget_2 rfl (by decide) ?_
  refine zt_istore d_Ft_textTarget_3 rfl (by decide) rfl ?_
  refine zt_iconst (v := 0) d_Ft_textTarget_5 rfl (by decide) ?_
  refine zt_istore d_Ft_textTarget_6 rfl (by decide) rfl ?_
  exact zt_sub [3, 5, 2, 1, 0] rfl h
theorem b_Ft_textTarget_8 {Q : Int32 → Mem → Prop} {M : Mem} {x2 : Int32} {x3 : Int32} {x4 : Int32} {x5 : Int32} (h : ((M.1 46 8) ≤ x5 → (Q x3 M)) ∧ (¬ (M.1 46 8) ≤ x5 → (wp zX m_Ft_textTarget (QI Q) 8 [(0, .ref 46), (2, .int x2), (3, .int (x3 + (x2 * x4))), (4, .int (x4 * 6)), (5, .int (x5 + 1))] [] M))) : wp zX m_Ft_textTarget (QI Q) 8 [(0, .ref 46), (2, .int x2), (3, .int x3), (4, .int x4), (5, .int x5)] [] M := by
  refine zt_iload 4 d_Ft_textTarget_8 rfl rfl ?_
  refine zt_aload_n 0 d_Ft_textTarget_10 rfl rfl rfl ?_
  refine zt_getI d_Ft_textTarget_11 rfl fl_Ft_47 rfl ?_
  refine zt_icmp_ge d_Ft_textTarget_14 rfl (tgt := 37) (by decide) ⟨fun c1 => ?_, fun c1 => ?_⟩
  · have h2 := h.1 c1
    refine zt_iload_n 2 d_Ft_textTarget_37 rfl rfl rfl ?_
    exact zt_iret rfl d_Ft_textTarget_38 ⟨_, rfl, h2⟩
  · have h3 := h.2 c1
    refine zt_iload_n 2 d_Ft_textTarget_17 rfl rfl rfl ?_
    refine zt_iload_n 1 d_Ft_textTarget_18 rfl rfl rfl ?_
    refine zt_iload 3 d_Ft_textTarget_19 rfl rfl ?_
    refine zt_imul d_Ft_textTarget_21 rfl ?_
    refine zt_iadd d_Ft_textTarget_22 rfl ?_
    refine zt_istore_n d_Ft_textTarget_23 rfl rfl (by decide) rfl ?_
    refine zt_iload 3 d_Ft_textTarget_24 rfl rfl ?_
    refine zt_bipush (v := 6) d_Ft_textTarget_26 rfl (by decide) ?_
    refine zt_imul d_Ft_textTarget_28 rfl ?_
    refine zt_istore d_Ft_textTarget_29 rfl (by decide) rfl ?_
    refine zt_iinc (v := (x5 + 1)) 4 d_Ft_textTarget_31 rfl rfl rfl (by decide) rfl ?_
    refine zt_goto d_Ft_textTarget_34 (tgt := 8) (by decide) ?_
    exact zt_sub [3, 4, 2, 1, 0] rfl h3
theorem e_Ft_longestText {Q : Int32 → Mem → Prop} {M : Mem}  (h : wp zX m_Ft_longestText (QI Q) 2 [(0, .ref 46), (1, .int 0)] [] M) : CallI zX m_Ft_longestText [.ref 46] M Q := by
  refine call_of (by decide) (Nat.le_of_ble_eq_true rfl) ?_
  show wp zX m_Ft_longestText (QI Q) 0 [(0, .ref 46)] [] M
  refine zt_iconst (v := 0) d_Ft_longestText_0 rfl (by decide) ?_
  refine zt_istore_n d_Ft_longestText_1 rfl rfl (by decide) rfl ?_
  exact zt_sub [1, 0] rfl h
theorem b_Ft_longestText_2 {Q : Int32 → Mem → Prop} {M : Mem} {x1 : Int32} (h : (5 ≤ x1 → (Q x1 M)) ∧ (¬ 5 ≤ x1 → (CallI zX m_Ft_isNextInAll [.ref 46, .int x1] M (fun r6 M5 => (r6 = 0 → (Q x1 M5)) ∧ (¬ r6 = 0 → (wp zX m_Ft_longestText (QI Q) 2 [(0, .ref 46), (1, .int (x1 + 1))] [] M5)))))) : wp zX m_Ft_longestText (QI Q) 2 [(0, .ref 46), (1, .int x1)] [] M := by
  refine zt_iload_n 1 d_Ft_longestText_2 rfl rfl rfl ?_
  refine zt_iconst (v := 5) d_Ft_longestText_3 rfl (by decide) ?_
  refine zt_icmp_ge d_Ft_longestText_4 rfl (tgt := 21) (by decide) ⟨fun c1 => ?_, fun c1 => ?_⟩
  · have h2 := h.1 c1
    refine zt_iload_n 1 d_Ft_longestText_21 rfl rfl rfl ?_
    exact zt_iret rfl d_Ft_longestText_22 ⟨_, rfl, h2⟩
  · have h3 := h.2 c1
    refine zt_aload_n 0 d_Ft_longestText_7 rfl rfl rfl ?_
    refine zt_iload_n 1 d_Ft_longestText_8 rfl rfl rfl ?_
    refine zt_callVI (as := [.int x1]) d_Ft_longestText_9 rfl mi_Ft_isNextInAll ⟨Nat.le_of_ble_eq_true rfl, Nat.le_of_ble_eq_true rfl⟩ wd_466 rfl rfl (Nat.le_of_ble_eq_true rfl) rfl h3 (fun r6 M5 h4 => ?_)
    refine zt_if_eq d_Ft_longestText_12 rfl (tgt := 21) (by decide) ⟨fun c7 => ?_, fun c7 => ?_⟩
    · have h8 := h4.1 c7
      refine zt_iload_n 1 d_Ft_longestText_21 rfl rfl rfl ?_
      exact zt_iret rfl d_Ft_longestText_22 ⟨_, rfl, h8⟩
    · have h9 := h4.2 c7
      refine zt_iinc (v := (x1 + 1)) 1 d_Ft_longestText_15 rfl rfl rfl (by decide) rfl ?_
      refine zt_goto d_Ft_longestText_18 (tgt := 2) (by decide) ?_
      exact zt_sub [1, 0] rfl h9
theorem e_Ft_isNextInAll {Q : Int32 → Mem → Prop} {M : Mem} {x1 : Int32} (h : vp_in 0 4 ∧ (CallR zX m_Rw_result [.ref (47 + 11 + 19 * (0 : Int32).toNatClampNeg)] M (fun r5 M4 => ∃ n7, T_Sg zX r5 n7 ∧ (vp_in 0 4 ∧ (CallI zX m_Sg_at [.ref r5, .int ((M4.1 48 (0 : Int32).toNatClampNeg) + x1)] M4 (fun r12 M11 => wp zX m_Ft_isNextInAll (QI Q) 23 [(0, .ref 46), (1, .int x1), (2, .int r12), (3, .int 0)] [] M11)))))) : CallI zX m_Ft_isNextInAll [.ref 46, .int x1] M Q := by
  refine call_of (by decide) (Nat.le_of_ble_eq_true rfl) ?_
  show wp zX m_Ft_isNextInAll (QI Q) 0 [(0, .ref 46), (1, .int x1)] [] M
  refine zt_aload_n 0 d_Ft_isNextInAll_0 rfl rfl rfl ?_
  refine zt_getR (b := 47) d_Ft_isNextInAll_1 rfl fl_Ft_13 rfl rfl ?_
  refine zt_iconst (v := 0) d_Ft_isNextInAll_4 rfl (by decide) ?_
  obtain ⟨g1, h2⟩ := h
  refine zt_aald (b := 47 + 11 + 19 * (0 : Int32).toNatClampNeg) d_Ft_isNextInAll_5 rfl (fun _ => rfl) rfl (by decide) (by decide) rfl g1 rfl ?_
  refine zt_callVR (as := []) d_Ft_isNextInAll_6 rfl mi_Rw_result ⟨Nat.le_of_ble_eq_true rfl, Nat.le_of_ble_eq_true rfl⟩ wd_416 rfl rfl (Nat.le_of_ble_eq_true rfl) (T_rows _ (vp_lt g1)).1 h2 (fun r5 M4 h3 => ?_)
  obtain ⟨n7, t6, h3⟩ := h3
  refine zt_aload_n 0 d_Ft_isNextInAll_9 rfl rfl rfl ?_
  refine zt_getR (b := 48) d_Ft_isNextInAll_10 rfl fl_Ft_17 rfl rfl ?_
  refine zt_iconst (v := 0) d_Ft_isNextInAll_13 rfl (by decide) ?_
  obtain ⟨g8, h9⟩ := h3
  refine zt_iald d_Ft_isNextInAll_14 rfl rfl g8 ?_
  refine zt_iload_n 1 d_Ft_isNextInAll_15 rfl rfl rfl ?_
  refine zt_iadd d_Ft_isNextInAll_16 rfl ?_
  refine zt_callVI (as := [.int ((M4.1 48 (0 : Int32).toNatClampNeg) + x1)]) d_Ft_isNextInAll_17 rfl mi_Sg_at ⟨Nat.le_of_ble_eq_true rfl, Nat.le_of_ble_eq_true rfl⟩ wd_470 rfl rfl (Nat.le_of_ble_eq_true rfl) t6.1 h9 (fun r12 M11 h10 => ?_)
  refine zt_istore_n d_Ft_isNextInAll_20 rfl rfl (by decide) rfl ?_
  refine zt_iconst (v := 0) d_Ft_isNextInAll_21 rfl (by decide) ?_
  refine zt_istore_n d_Ft_isNextInAll_22 rfl rfl (by decide) rfl ?_
  exact zt_sub [2, 3, 1, 0] rfl h10
theorem b_Ft_isNextInAll_23 {Q : Int32 → Mem → Prop} {M : Mem} {x1 : Int32} {x2 : Int32} {x3 : Int32} (h : ((M.1 46 8) ≤ x3 → ((x2 = 0 → (Q 0 M)) ∧ (¬ x2 = 0 → (Q 1 M)))) ∧ (¬ (M.1 46 8) ≤ x3 → (vp_in x3 4 ∧ (CallR zX m_Rw_result [.ref (47 + 11 + 19 * x3.toNatClampNeg)] M (fun r11 M10 => ∃ n13, T_Sg zX r11 n13 ∧ (vp_in x3 4 ∧ (CallI zX m_Sg_at [.ref r11, .int ((M10.1 48 x3.toNatClampNeg) + x1)] M10 (fun r18 M17 => (r18 = x2 → (wp zX m_Ft_isNextInAll (QI Q) 23 [(0, .ref 46), (1, .int x1), (2, .int x2), (3, .int (x3 + 1))] [] M17)) ∧ (¬ r18 = x2 → (Q 0 M17)))))))))) : wp zX m_Ft_isNextInAll (QI Q) 23 [(0, .ref 46), (1, .int x1), (2, .int x2), (3, .int x3)] [] M := by
  refine zt_iload_n 3 d_Ft_isNextInAll_23 rfl rfl rfl ?_
  refine zt_aload_n 0 d_Ft_isNextInAll_24 rfl rfl rfl ?_
  refine zt_getI d_Ft_isNextInAll_25 rfl fl_Ft_47 rfl ?_
  refine zt_icmp_ge d_Ft_isNextInAll_28 rfl (tgt := 63) (by decide) ⟨fun c1 => ?_, fun c1 => ?_⟩
  · have h2 := h.1 c1
    refine zt_iload_n 2 d_Ft_isNextInAll_63 rfl rfl rfl ?_
    refine zt_if_eq d_Ft_isNextInAll_64 rfl (tgt := 71) (by decide) ⟨fun c4 => ?_, fun c4 => ?_⟩
    · have h5 := h2.1 c4
      refine zt_iconst (v := 0) d_Ft_isNextInAll_71 rfl (by decide) ?_
      exact zt_zret rfl d_Ft_isNextInAll_72 rfl ⟨_, rfl, h5⟩
    · have h6 := h2.2 c4
      refine zt_iconst (v := 1) d_Ft_isNextInAll_67 rfl (by decide) ?_
      refine zt_goto d_Ft_isNextInAll_68 (tgt := 72) (by decide) ?_
      exact zt_zret rfl d_Ft_isNextInAll_72 rfl ⟨_, rfl, h6⟩
  · have h3 := h.2 c1
    refine zt_aload_n 0 d_Ft_isNextInAll_31 rfl rfl rfl ?_
    refine zt_getR (b := 47) d_Ft_isNextInAll_32 rfl fl_Ft_13 rfl rfl ?_
    refine zt_iload_n 3 d_Ft_isNextInAll_35 rfl rfl rfl ?_
    obtain ⟨g7, h8⟩ := h3
    refine zt_aald (b := 47 + 11 + 19 * x3.toNatClampNeg) d_Ft_isNextInAll_36 rfl (fun _ => rfl) rfl (by decide) (by decide) rfl g7 rfl ?_
    refine zt_callVR (as := []) d_Ft_isNextInAll_37 rfl mi_Rw_result ⟨Nat.le_of_ble_eq_true rfl, Nat.le_of_ble_eq_true rfl⟩ wd_416 rfl rfl (Nat.le_of_ble_eq_true rfl) (T_rows _ (vp_lt g7)).1 h8 (fun r11 M10 h9 => ?_)
    obtain ⟨n13, t12, h9⟩ := h9
    refine zt_aload_n 0 d_Ft_isNextInAll_40 rfl rfl rfl ?_
    refine zt_getR (b := 48) d_Ft_isNextInAll_41 rfl fl_Ft_17 rfl rfl ?_
    refine zt_iload_n 3 d_Ft_isNextInAll_44 rfl rfl rfl ?_
    obtain ⟨g14, h15⟩ := h9
    refine zt_iald d_Ft_isNextInAll_45 rfl rfl g14 ?_
    refine zt_iload_n 1 d_Ft_isNextInAll_46 rfl rfl rfl ?_
    refine zt_iadd d_Ft_isNextInAll_47 rfl ?_
    refine zt_callVI (as := [.int ((M10.1 48 x3.toNatClampNeg) + x1)]) d_Ft_isNextInAll_48 rfl mi_Sg_at ⟨Nat.le_of_ble_eq_true rfl, Nat.le_of_ble_eq_true rfl⟩ wd_470 rfl rfl (Nat.le_of_ble_eq_true rfl) t12.1 h15 (fun r18 M17 h16 => ?_)
    refine zt_iload_n 2 d_Ft_isNextInAll_51 rfl rfl rfl ?_
    refine zt_icmp_eq d_Ft_isNextInAll_52 rfl (tgt := 57) (by decide) ⟨fun c19 => ?_, fun c19 => ?_⟩
    · have h20 := h16.1 c19
      refine zt_iinc (v := (x3 + 1)) 3 d_Ft_isNextInAll_57 rfl rfl rfl (by decide) rfl ?_
      refine zt_goto d_Ft_isNextInAll_60 (tgt := 23) (by decide) ?_
      exact zt_sub [1, 2, 3, 0] rfl h20
    · have h21 := h16.2 c19
      refine zt_iconst (v := 0) d_Ft_isNextInAll_55 rfl (by decide) ?_
      exact zt_zret rfl d_Ft_isNextInAll_56 rfl ⟨_, rfl, h21⟩
theorem e_Ft_lastState {Q : Int32 → Mem → Prop} {M : Mem}  (h : wp zX m_Ft_lastState (QI Q) 6 [(0, .ref 46), (1, .int 0), (2, .int 1), (3, .int 0)] [] M) : CallI zX m_Ft_lastState [.ref 46] M Q := by
  refine call_of (by decide) (Nat.le_of_ble_eq_true rfl) ?_
  show wp zX m_Ft_lastState (QI Q) 0 [(0, .ref 46)] [] M
  refine zt_iconst (v := 0) d_Ft_lastState_0 rfl (by decide) ?_
  refine zt_istore_n d_Ft_lastState_1 rfl rfl (by decide) rfl ?_
  refine zt_iconst (v := 1) d_Ft_lastState_2 rfl (by decide) ?_
  refine zt_istore_n d_Ft_lastState_3 rfl rfl (by decide) rfl ?_
  refine zt_iconst (v := 0) d_Ft_lastState_4 rfl (by decide) ?_
  refine zt_istore_n d_Ft_lastState_5 rfl rfl (by decide) rfl ?_
  exact zt_sub [3, 2, 1, 0] rfl h
theorem b_Ft_lastState_6 {Q : Int32 → Mem → Prop} {M : Mem} {x1 : Int32} {x2 : Int32} {x3 : Int32} (h : ((M.1 46 8) ≤ x3 → (Q (if 1295 < x1 then 1295 else x1) M)) ∧ (¬ (M.1 46 8) ≤ x3 → (vp_in x3 4 ∧ (CallR zX m_Rw_result [.ref (47 + 11 + 19 * x3.toNatClampNeg)] M (fun r8 M7 => ∃ n10, T_Sg zX r8 n10 ∧ (CallI zX m_Sg_many [.ref r8] M7 (fun r13 M12 => wp zX m_Ft_lastState (QI Q) 6 [(0, .ref 46), (1, .int (x1 + (r13 * x2))), (2, .int (x2 * 6)), (3, .int (x3 + 1))] [] M12))))))) : wp zX m_Ft_lastState (QI Q) 6 [(0, .ref 46), (1, .int x1), (2, .int x2), (3, .int x3)] [] M := by
  refine zt_iload_n 3 d_Ft_lastState_6 rfl rfl rfl ?_
  refine zt_aload_n 0 d_Ft_lastState_7 rfl rfl rfl ?_
  refine zt_getI d_Ft_lastState_8 rfl fl_Ft_47 rfl ?_
  refine zt_icmp_ge d_Ft_lastState_11 rfl (tgt := 42) (by decide) ⟨fun c1 => ?_, fun c1 => ?_⟩
  · have h2 := h.1 c1
    refine zt_iload_n 1 d_Ft_lastState_42 rfl rfl rfl ?_
    refine zt_sipush (v := 1295) d_Ft_lastState_43 rfl (by decide) ?_
    refine zt_mmin d_Ft_lastState_46 rfl ma_Ft_lastState_86 (Nat.le_of_ble_eq_true rfl) ?_
    exact zt_iret rfl d_Ft_lastState_49 ⟨_, rfl, h2⟩
  · have h3 := h.2 c1
    refine zt_iload_n 1 d_Ft_lastState_14 rfl rfl rfl ?_
    refine zt_aload_n 0 d_Ft_lastState_15 rfl rfl rfl ?_
    refine zt_getR (b := 47) d_Ft_lastState_16 rfl fl_Ft_13 rfl rfl ?_
    refine zt_iload_n 3 d_Ft_lastState_19 rfl rfl rfl ?_
    obtain ⟨g4, h5⟩ := h3
    refine zt_aald (b := 47 + 11 + 19 * x3.toNatClampNeg) d_Ft_lastState_20 rfl (fun _ => rfl) rfl (by decide) (by decide) rfl g4 rfl ?_
    refine zt_callVR (as := []) d_Ft_lastState_21 rfl mi_Rw_result ⟨Nat.le_of_ble_eq_true rfl, Nat.le_of_ble_eq_true rfl⟩ wd_416 rfl rfl (Nat.le_of_ble_eq_true rfl) (T_rows _ (vp_lt g4)).1 h5 (fun r8 M7 h6 => ?_)
    obtain ⟨n10, t9, h6⟩ := h6
    refine zt_callVI (as := []) d_Ft_lastState_24 rfl mi_Sg_many ⟨Nat.le_of_ble_eq_true rfl, Nat.le_of_ble_eq_true rfl⟩ wd_420 rfl rfl (Nat.le_of_ble_eq_true rfl) t9.1 h6 (fun r13 M12 h11 => ?_)
    refine zt_iload_n 2 d_Ft_lastState_27 rfl rfl rfl ?_
    refine zt_imul d_Ft_lastState_28 rfl ?_
    refine zt_iadd d_Ft_lastState_29 rfl ?_
    refine zt_istore_n d_Ft_lastState_30 rfl rfl (by decide) rfl ?_
    refine zt_iload_n 2 d_Ft_lastState_31 rfl rfl rfl ?_
    refine zt_bipush (v := 6) d_Ft_lastState_32 rfl (by decide) ?_
    refine zt_imul d_Ft_lastState_34 rfl ?_
    refine zt_istore_n d_Ft_lastState_35 rfl rfl (by decide) rfl ?_
    refine zt_iinc (v := (x3 + 1)) 3 d_Ft_lastState_36 rfl rfl rfl (by decide) rfl ?_
    refine zt_goto d_Ft_lastState_39 (tgt := 6) (by decide) ?_
    exact zt_sub [3, 2, 1, 0] rfl h11
