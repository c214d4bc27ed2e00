/-! walks, by program: what must hold from each cut point on -/
theorem e_M_in {Q : Int32 → Mem → Prop} {M : Mem} {x0 : Int32} {x1 : Int32} {x2 : Int32} (h : (x0 < x1 → (Q 0 M)) ∧ (¬ x0 < x1 → ((x2 < x0 → (Q 0 M)) ∧ (¬ x2 < x0 → (Q 1 M))))) : CallI zY m_M_in [.int x0, .int x1, .int x2] M Q := by
  refine call_of (by decide) (Nat.le_of_ble_eq_true rfl) ?_
  show wp zY m_M_in (QI Q) 0 [(0, .int x0), (1, .int x1), (2, .int x2)] [] M
  refine zt_iload_n 0 d_M_in_0 rfl rfl rfl ?_
  refine zt_iload_n 1 d_M_in_1 rfl rfl rfl ?_
  refine zt_icmp_lt d_M_in_2 rfl (tgt := 14) (by decide) ⟨fun c1 => ?_, fun c1 => ?_⟩
  · have h2 := h.1 c1
    refine zt_iconst (v := 0) d_M_in_14 rfl (by decide) ?_
    exact zt_zret rfl d_M_in_15 rfl ⟨_, rfl, h2⟩
  · have h3 := h.2 c1
    refine zt_iload_n 0 d_M_in_5 rfl rfl rfl ?_
    refine zt_iload_n 2 d_M_in_6 rfl rfl rfl ?_
    refine zt_icmp_gt d_M_in_7 rfl (tgt := 14) (by decide) ⟨fun c4 => ?_, fun c4 => ?_⟩
    · have h5 := h3.1 c4
      refine zt_iconst (v := 0) d_M_in_14 rfl (by decide) ?_
      exact zt_zret rfl d_M_in_15 rfl ⟨_, rfl, h5⟩
    · have h6 := h3.2 c4
      refine zt_iconst (v := 1) d_M_in_10 rfl (by decide) ?_
      refine zt_goto d_M_in_11 (tgt := 15) (by decide) ?_
      exact zt_zret rfl d_M_in_15 rfl ⟨_, rfl, h6⟩
theorem e_M_isCode {Q : Int32 → Mem → Prop} {M : Mem} {x0 : Int32} (h : (100 ≤ x0 → ((300 ≤ x0 → (Q 0 M)) ∧ (¬ 300 ≤ x0 → ((60 ≤ (x0 - x0 / 100 * 100) → (Q 0 M)) ∧ (¬ 60 ≤ (x0 - x0 / 100 * 100) → (CallI zY m_M_in [.int ((x0 - x0 / 100 * 100) - (x0 - x0 / 100 * 100) / 20 * 20), .int 0, .int 6] M (fun r12 M11 => (r12 = 0 → (Q 0 M11)) ∧ (¬ r12 = 0 → ((((x0 - x0 / 100 * 100) - (x0 - x0 / 100 * 100) / 20 * 20) = 3 → (Q 0 M11)) ∧ (¬ ((x0 - x0 / 100 * 100) - (x0 - x0 / 100 * 100) / 20 * 20) = 3 → (Q 1 M11))))))))))) ∧ (¬ 100 ≤ x0 → (CallI zY m_M_in [.int x0, .int 0, .int 12] M (fun r21 M20 => (r21 = 0 → (CallI zY m_M_in [.int x0, .int 20, .int 32] M20 (fun r27 M26 => (r27 = 0 → (Q 0 M26)) ∧ (¬ r27 = 0 → (Q 1 M26))))) ∧ (¬ r21 = 0 → (Q 1 M20)))))) : CallI zY m_M_isCode [.int x0] M Q := by
  refine call_of (by decide) (Nat.le_of_ble_eq_true rfl) ?_
  show wp zY m_M_isCode (QI Q) 0 [(0, .int x0)] [] M
  refine zt_iload_n 0 d_M_isCode_0 rfl rfl rfl ?_
  refine zt_bipush (v := 100) d_M_isCode_1 rfl (by decide) ?_
  refine zt_icmp_ge d_M_isCode_3 rfl (tgt := 33) (by decide) ⟨fun c1 => ?_, fun c1 => ?_⟩
  · have h2 := h.1 c1
    refine zt_iload_n 0 d_M_isCode_33 rfl rfl rfl ?_
    refine zt_bipush (v := 100) d_M_isCode_34 rfl (by decide) ?_
    refine zt_irem d_M_isCode_36 rfl (by decide) ?_
    refine zt_istore_n d_M_isCode_37 rfl rfl (by decide) rfl ?_
    refine zt_iload_n 1 d_M_isCode_38 rfl rfl rfl ?_
    refine zt_sipush (v := 300) d_M_isCode_39 rfl (by decide) ?_
    refine zt_icmp_ge d_M_isCode_42 rfl (tgt := 76) (by decide) ⟨fun c4 => ?_, fun c4 => ?_⟩
    · have h5 := h2.1 c4
      refine zt_iconst (v := 0) d_M_isCode_76 rfl (by decide) ?_
      exact zt_zret rfl d_M_isCode_77 rfl ⟨_, rfl, h5⟩
    · have h6 := h2.2 c4
      refine zt_iload_n 0 d_M_isCode_45 rfl rfl rfl ?_
      refine zt_bipush (v := 60) d_M_isCode_46 rfl (by decide) ?_
      refine zt_icmp_ge d_M_isCode_48 rfl (tgt := 76) (by decide) ⟨fun c7 => ?_, fun c7 => ?_⟩
      · have h8 := h6.1 c7
        refine zt_iconst (v := 0) d_M_isCode_76 rfl (by decide) ?_
        exact zt_zret rfl d_M_isCode_77 rfl ⟨_, rfl, h8⟩
      · have h9 := h6.2 c7
        refine zt_iload_n 0 d_M_isCode_51 rfl rfl rfl ?_
        refine zt_bipush (v := 20) d_M_isCode_52 rfl (by decide) ?_
        refine zt_irem d_M_isCode_54 rfl (by decide) ?_
        refine zt_iconst (v := 0) d_M_isCode_55 rfl (by decide) ?_
        refine zt_bipush (v := 6) d_M_isCode_56 rfl (by decide) ?_
        refine zt_callSI (as := [.int ((x0 - x0 / 100 * 100) - (x0 - x0 / 100 * 100) / 20 * 20), .int 0, .int 6]) d_M_isCode_58 rfl ms_M_in ⟨Nat.le_of_ble_eq_true rfl, Nat.le_of_ble_eq_true rfl⟩ wd_654 rfl rfl (Nat.le_of_ble_eq_true rfl) h9 (fun r12 M11 h10 => ?_)
        refine zt_if_eq d_M_isCode_61 rfl (tgt := 76) (by decide) ⟨fun c13 => ?_, fun c13 => ?_⟩
        · have h14 := h10.1 c13
          refine zt_iconst (v := 0) d_M_isCode_76 rfl (by decide) ?_
          exact zt_zret rfl d_M_isCode_77 rfl ⟨_, rfl, h14⟩
        · have h15 := h10.2 c13
          refine zt_iload_n 0 d_M_isCode_64 rfl rfl rfl ?_
          refine zt_bipush (v := 20) d_M_isCode_65 rfl (by decide) ?_
          refine zt_irem d_M_isCode_67 rfl (by decide) ?_
          refine zt_iconst (v := 3) d_M_isCode_68 rfl (by decide) ?_
          refine zt_icmp_eq d_M_isCode_69 rfl (tgt := 76) (by decide) ⟨fun c16 => ?_, fun c16 => ?_⟩
          · have h17 := h15.1 c16
            refine zt_iconst (v := 0) d_M_isCode_76 rfl (by decide) ?_
            exact zt_zret rfl d_M_isCode_77 rfl ⟨_, rfl, h17⟩
          · have h18 := h15.2 c16
            refine zt_iconst (v := 1) d_M_isCode_72 rfl (by decide) ?_
            refine zt_goto d_M_isCode_73 (tgt := 77) (by decide) ?_
            exact zt_zret rfl d_M_isCode_77 rfl ⟨_, rfl, h18⟩
  · have h3 := h.2 c1
    refine zt_iload_n 0 d_M_isCode_6 rfl rfl rfl ?_
    refine zt_iconst (v := 0) d_M_isCode_7 rfl (by decide) ?_
    refine zt_bipush (v := 12) d_M_isCode_8 rfl (by decide) ?_
    refine zt_callSI (as := [.int x0, .int 0, .int 12]) d_M_isCode_10 rfl ms_M_in ⟨Nat.le_of_ble_eq_true rfl, Nat.le_of_ble_eq_true rfl⟩ wd_654 rfl rfl (Nat.le_of_ble_eq_true rfl) h3 (fun r21 M20 h19 => ?_)
    refine zt_if_ne d_M_isCode_13 rfl (tgt := 27) (by decide) ⟨fun c22 => ?_, fun c22 => ?_⟩
    · have h23 := h19.1 c22
      refine zt_iload_n 0 d_M_isCode_16 rfl rfl rfl ?_
      refine zt_bipush (v := 20) d_M_isCode_17 rfl (by decide) ?_
      refine zt_bipush (v := 32) d_M_isCode_19 rfl (by decide) ?_
      refine zt_callSI (as := [.int x0, .int 20, .int 32]) d_M_isCode_21 rfl ms_M_in ⟨Nat.le_of_ble_eq_true rfl, Nat.le_of_ble_eq_true rfl⟩ wd_654 rfl rfl (Nat.le_of_ble_eq_true rfl) h23 (fun r27 M26 h25 => ?_)
      refine zt_if_eq d_M_isCode_24 rfl (tgt := 31) (by decide) ⟨fun c28 => ?_, fun c28 => ?_⟩
      · have h29 := h25.1 c28
        refine zt_iconst (v := 0) d_M_isCode_31 rfl (by decide) ?_
        exact zt_zret rfl d_M_isCode_32 rfl ⟨_, rfl, h29⟩
      · have h30 := h25.2 c28
        refine zt_iconst (v := 1) d_M_isCode_27 rfl (by decide) ?_
        refine zt_goto d_M_isCode_28 (tgt := 32) (by decide) ?_
        exact zt_zret rfl d_M_isCode_32 rfl ⟨_, rfl, h30⟩
    · have h24 := h19.2 c22
      refine zt_iconst (v := 1) d_M_isCode_27 rfl (by decide) ?_
      refine zt_goto d_M_isCode_28 (tgt := 32) (by decide) ?_
      exact zt_zret rfl d_M_isCode_32 rfl ⟨_, rfl, h24⟩
theorem e_M_costOfMark {Q : Int32 → Mem → Prop} {M : Mem} {x0 : Int32} (h : (100 ≤ x0 → ((((x0 - x0 / 100 * 100) - (x0 - x0 / 100 * 100) / 20 * 20) = 4 → (Q 1 M)) ∧ (¬ ((x0 - x0 / 100 * 100) - (x0 - x0 / 100 * 100) / 20 * 20) = 4 → ((((x0 - x0 / 100 * 100) - (x0 - x0 / 100 * 100) / 20 * 20) = 2 → (Q 1 M)) ∧ (¬ ((x0 - x0 / 100 * 100) - (x0 - x0 / 100 * 100) / 20 * 20) = 2 → (Q 2 M)))))) ∧ (¬ 100 ≤ x0 → (Q 3 M))) : CallI zY m_M_costOfMark [.int x0] M Q := by
  refine call_of (by decide) (Nat.le_of_ble_eq_true rfl) ?_
  show wp zY m_M_costOfMark (QI Q) 0 [(0, .int x0)] [] M
  refine zt_iload_n 0 d_M_costOfMark_0 rfl rfl rfl ?_
  refine zt_bipush (v := 100) d_M_costOfMark_1 rfl (by decide) ?_
  refine zt_icmp_ge d_M_costOfMark_3 rfl (tgt := 10) (by decide) ⟨fun c1 => ?_, fun c1 => ?_⟩
  · have h2 := h.1 c1
    refine zt_iload_n 0 d_M_costOfMark_10 rfl rfl rfl ?_
    refine zt_bipush (v := 100) d_M_costOfMark_11 rfl (by decide) ?_
    refine zt_irem d_M_costOfMark_13 rfl (by decide) ?_
    refine zt_bipush (v := 20) d_M_costOfMark_14 rfl (by decide) ?_
    refine zt_irem d_M_costOfMark_16 rfl (by decide) ?_
    refine zt_iconst (v := 4) d_M_costOfMark_17 rfl (by decide) ?_
    refine zt_icmp_eq d_M_costOfMark_18 rfl (tgt := 32) (by decide) ⟨fun c4 => ?_, fun c4 => ?_⟩
    · have h5 := h2.1 c4
      refine zt_iconst (v := 1) d_M_costOfMark_32 rfl (by decide) ?_
      refine zt_goto d_M_costOfMark_33 (tgt := 37) (by decide) ?_
      exact zt_iret rfl d_M_costOfMark_37 ⟨_, rfl, h5⟩
    · have h6 := h2.2 c4
      refine zt_iload_n 0 d_M_costOfMark_21 rfl rfl rfl ?_
      refine zt_bipush (v := 100) d_M_costOfMark_22 rfl (by decide) ?_
      refine zt_irem d_M_costOfMark_24 rfl (by decide) ?_
      refine zt_bipush (v := 20) d_M_costOfMark_25 rfl (by decide) ?_
      refine zt_irem d_M_costOfMark_27 rfl (by decide) ?_
      refine zt_iconst (v := 2) d_M_costOfMark_28 rfl (by decide) ?_
      refine zt_icmp_ne d_M_costOfMark_29 rfl (tgt := 36) (by decide) ⟨fun c7 => ?_, fun c7 => ?_⟩
      · have h8 := h6.1 c7
        refine zt_iconst (v := 1) d_M_costOfMark_32 rfl (by decide) ?_
        refine zt_goto d_M_costOfMark_33 (tgt := 37) (by decide) ?_
        exact zt_iret rfl d_M_costOfMark_37 ⟨_, rfl, h8⟩
      · have h9 := h6.2 c7
        refine zt_iconst (v := 2) d_M_costOfMark_36 rfl (by decide) ?_
        exact zt_iret rfl d_M_costOfMark_37 ⟨_, rfl, h9⟩
  · have h3 := h.2 c1
    refine zt_iconst (v := 3) d_M_costOfMark_6 rfl (by decide) ?_
    refine zt_goto d_M_costOfMark_7 (tgt := 37) (by decide) ?_
    exact zt_iret rfl d_M_costOfMark_37 ⟨_, rfl, h3⟩
theorem e_M_classOf {Q : Int32 → Mem → Prop} {M : Mem} {x0 : Int32} (h : CallI zY m_M_in [.int x0, .int 97, .int 101] M (fun r3 M2 => (r3 = 0 → (CallI zY m_M_in [.int x0, .int 48, .int 52] M2 (fun r9 M8 => (r9 = 0 → ((x0 = 45 → (Q 2 M8)) ∧ (¬ x0 = 45 → ((x0 = 46 → (Q 2 M8)) ∧ (¬ x0 = 46 → (Q (-6) M8)))))) ∧ (¬ r9 = 0 → (Q 1 M8))))) ∧ (¬ r3 = 0 → (Q 0 M2)))) : CallI zY m_M_classOf [.int x0] M Q := by
  refine call_of (by decide) (Nat.le_of_ble_eq_true rfl) ?_
  show wp zY m_M_classOf (QI Q) 0 [(0, .int x0)] [] M
  refine zt_iload_n 0 d_M_classOf_0 rfl rfl rfl ?_
  refine zt_bipush (v := 97) d_M_classOf_1 rfl (by decide) ?_
  refine zt_bipush (v := 101) d_M_classOf_3 rfl (by decide) ?_
  refine zt_callSI (as := [.int x0, .int 97, .int 101]) d_M_classOf_5 rfl ms_M_in ⟨Nat.le_of_ble_eq_true rfl, Nat.le_of_ble_eq_true rfl⟩ wd_654 rfl rfl (Nat.le_of_ble_eq_true rfl) h (fun r3 M2 h1 => ?_)
  refine zt_if_eq d_M_classOf_8 rfl (tgt := 15) (by decide) ⟨fun c4 => ?_, fun c4 => ?_⟩
  · have h5 := h1.1 c4
    refine zt_iload_n 0 d_M_classOf_15 rfl rfl rfl ?_
    refine zt_bipush (v := 48) d_M_classOf_16 rfl (by decide) ?_
    refine zt_bipush (v := 52) d_M_classOf_18 rfl (by decide) ?_
    refine zt_callSI (as := [.int x0, .int 48, .int 52]) d_M_classOf_20 rfl ms_M_in ⟨Nat.le_of_ble_eq_true rfl, Nat.le_of_ble_eq_true rfl⟩ wd_654 rfl rfl (Nat.le_of_ble_eq_true rfl) h5 (fun r9 M8 h7 => ?_)
    refine zt_if_eq d_M_classOf_23 rfl (tgt := 30) (by decide) ⟨fun c10 => ?_, fun c10 => ?_⟩
    · have h11 := h7.1 c10
      refine zt_iload_n 0 d_M_classOf_30 rfl rfl rfl ?_
      refine zt_bipush (v := 45) d_M_classOf_31 rfl (by decide) ?_
      refine zt_icmp_eq d_M_classOf_33 rfl (tgt := 42) (by decide) ⟨fun c13 => ?_, fun c13 => ?_⟩
      · have h14 := h11.1 c13
        refine zt_iconst (v := 2) d_M_classOf_42 rfl (by decide) ?_
        refine zt_goto d_M_classOf_43 (tgt := 48) (by decide) ?_
        exact zt_iret rfl d_M_classOf_48 ⟨_, rfl, h14⟩
      · have h15 := h11.2 c13
        refine zt_iload_n 0 d_M_classOf_36 rfl rfl rfl ?_
        refine zt_bipush (v := 46) d_M_classOf_37 rfl (by decide) ?_
        refine zt_icmp_ne d_M_classOf_39 rfl (tgt := 46) (by decide) ⟨fun c16 => ?_, fun c16 => ?_⟩
        · have h17 := h15.1 c16
          refine zt_iconst (v := 2) d_M_classOf_42 rfl (by decide) ?_
          refine zt_goto d_M_classOf_43 (tgt := 48) (by decide) ?_
          exact zt_iret rfl d_M_classOf_48 ⟨_, rfl, h17⟩
        · have h18 := h15.2 c16
          refine zt_bipush (v := -6) d_M_classOf_46 rfl (by decide) ?_
          exact zt_iret rfl d_M_classOf_48 ⟨_, rfl, h18⟩
    · have h12 := h7.2 c10
      refine zt_iconst (v := 1) d_M_classOf_26 rfl (by decide) ?_
      refine zt_goto d_M_classOf_27 (tgt := 48) (by decide) ?_
      exact zt_iret rfl d_M_classOf_48 ⟨_, rfl, h12⟩
  · have h6 := h1.2 c4
    refine zt_iconst (v := 0) d_M_classOf_11 rfl (by decide) ?_
    refine zt_goto d_M_classOf_12 (tgt := 48) (by decide) ?_
    exact zt_iret rfl d_M_classOf_48 ⟨_, rfl, h6⟩
theorem e_M_say {Q : Int32 → Mem → Prop} {M : Mem} {x1 : Int32} (h : CallI zY m_M_in [.int x1, .int 33, .int 126] M (fun r3 M2 => (r3 = 0 → (Q (-2) M2)) ∧ (¬ r3 = 0 → (((M2.1 0 8) = 18 → (Q (-4) M2)) ∧ (¬ (M2.1 0 8) = 18 → (vp_in (M2.1 0 8) 18 ∧ (∀ N12, N12 = uI M2 7 (M2.1 0 8).toNatClampNeg x1 → (∀ N13, N13 = uI N12 0 8 ((N12.1 0 8) + 1) → (Q (N13.1 0 8) N13))))))))) : CallI zY m_M_say [.ref 0, .int x1] M Q := by
  refine call_of (by decide) (Nat.le_of_ble_eq_true rfl) ?_
  show wp zY m_M_say (QI Q) 0 [(0, .ref 0), (1, .int x1)] [] M
  refine zt_iload_n 1 d_M_say_0 rfl rfl rfl ?_
  refine zt_bipush (v := 33) d_M_say_1 rfl (by decide) ?_
  refine zt_bipush (v := 126) d_M_say_3 rfl (by decide) ?_
  refine zt_callSI (as := [.int x1, .int 33, .int 126]) d_M_say_5 rfl ms_M_in ⟨Nat.le_of_ble_eq_true rfl, Nat.le_of_ble_eq_true rfl⟩ wd_654 rfl rfl (Nat.le_of_ble_eq_true rfl) h (fun r3 M2 h1 => ?_)
  refine zt_if_ne d_M_say_8 rfl (tgt := 14) (by decide) ⟨fun c4 => ?_, fun c4 => ?_⟩
  · have h5 := h1.1 c4
    refine zt_bipush (v := -2) d_M_say_11 rfl (by decide) ?_
    exact zt_iret rfl d_M_say_13 ⟨_, rfl, h5⟩
  · have h6 := h1.2 c4
    refine zt_aload_n 0 d_M_say_14 rfl rfl rfl ?_
    refine zt_getI d_M_say_15 rfl fl_M_83 rfl ?_
    refine zt_bipush (v := 18) d_M_say_18 rfl (by decide) ?_
    refine zt_icmp_ne d_M_say_20 rfl (tgt := 26) (by decide) ⟨fun c7 => ?_, fun c7 => ?_⟩
    · have h8 := h6.1 c7
      refine zt_bipush (v := -4) d_M_say_23 rfl (by decide) ?_
      exact zt_iret rfl d_M_say_25 ⟨_, rfl, h8⟩
    · have h9 := h6.2 c7
      refine zt_aload_n 0 d_M_say_26 rfl rfl rfl ?_
      refine zt_getR (b := 7) d_M_say_27 rfl fl_M_28 rfl rfl ?_
      refine zt_aload_n 0 d_M_say_30 rfl rfl rfl ?_
      refine zt_getI d_M_say_31 rfl fl_M_83 rfl ?_
      refine zt_iload_n 1 d_M_say_34 rfl rfl rfl ?_
      obtain ⟨g10, h11⟩ := h9
      refine zt_iast d_M_say_35 rfl rfl g10 ?_
      have h11 := h11 _ rfl
      refine zt_aload_n 0 d_M_say_36 rfl rfl rfl ?_
      refine zt_dup d_M_say_37 rfl rfl ?_
      refine zt_getI d_M_say_38 rfl fl_M_83 rfl ?_
      refine zt_iconst (v := 1) d_M_say_41 rfl (by decide) ?_
      refine zt_iadd d_M_say_42 rfl ?_
      refine zt_putI d_M_say_43 rfl fl_M_83 rfl ?_
      have h14 := h11 _ rfl
      refine zt_aload_n 0 d_M_say_46 rfl rfl rfl ?_
      refine zt_getI d_M_say_47 rfl fl_M_83 rfl ?_
      exact zt_iret rfl d_M_say_50 ⟨_, rfl, h14⟩
theorem e_M_wipe {Q : Int32 → Mem → Prop} {M : Mem}  (h : ∀ N1, N1 = uI M 0 8 0 → (Q (M.1 0 8) N1)) : CallI zY m_M_wipe [.ref 0] M Q := by
  refine call_of (by decide) (Nat.le_of_ble_eq_true rfl) ?_
  show wp zY m_M_wipe (QI Q) 0 [(0, .ref 0)] [] M
  refine zt_aload_n 0 d_M_wipe_0 rfl rfl rfl ?_
  refine zt_getI d_M_wipe_1 rfl fl_M_83 rfl ?_
  refine zt_istore_n d_M_wipe_4 rfl rfl (by decide) rfl ?_
  refine zt_aload_n 1 d_M_wipe_5 rfl rfl rfl ?_
  refine zt_iconst (v := 0) d_M_wipe_6 rfl (by decide) ?_
  refine zt_putI d_M_wipe_7 rfl fl_M_83 rfl ?_
  have h2 := h _ rfl
  refine zt_iload_n 0 d_M_wipe_10 rfl rfl rfl ?_
  exact zt_iret rfl d_M_wipe_11 ⟨_, rfl, h2⟩
theorem e_M_exampleFault {Q : Int32 → Mem → Prop} {M : Mem}  (h : wp zY m_M_exampleFault (QI Q) 5 [(0, .ref 0), (1, .int (-6)), (2, .int 0)] [] M) : CallI zY m_M_exampleFault [.ref 0] M Q := by
  refine call_of (by decide) (Nat.le_of_ble_eq_true rfl) ?_
  show wp zY m_M_exampleFault (QI Q) 0 [(0, .ref 0)] [] M
  refine zt_bipush (v := -6) d_M_exampleFault_0 rfl (by decide) ?_
  refine zt_istore_n d_M_exampleFault_2 rfl rfl (by decide) rfl ?_
  refine zt_iconst (v := 0) d_M_exampleFault_3 rfl (by decide) ?_
  refine zt_istore_n d_M_exampleFault_4 rfl rfl (by decide) rfl ?_
  exact zt_sub [2, 1, 0] rfl h
theorem b_M_exampleFault_5 {Q : Int32 → Mem → Prop} {M : Mem} {x1 : Int32} {x2 : Int32} (h : ((M.1 0 8) ≤ x2 → ((x1 < 0 → (Q (M.1 0 8) M)) ∧ (¬ x1 < 0 → ((x1 = ((M.1 0 8) - 1) → (Q (M.1 0 8) M)) ∧ (¬ x1 = ((M.1 0 8) - 1) → (Q (-6) M)))))) ∧ (¬ (M.1 0 8) ≤ x2 → (vp_in x2 18 ∧ (CallI zY m_M_classOf [.int (M.1 7 x2.toNatClampNeg)] M (fun r14 M13 => (r14 < 0 → (wp zY m_M_exampleFault (QI Q) 30 [(0, .ref 0), (1, .int x1), (2, .int x2)] [.int 0] M13)) ∧ (¬ r14 < 0 → (wp zY m_M_exampleFault (QI Q) 30 [(0, .ref 0), (1, .int x1), (2, .int x2)] [.int 1] M13))))))) : wp zY m_M_exampleFault (QI Q) 5 [(0, .ref 0), (1, .int x1), (2, .int x2)] [] M := by
  refine zt_iload_n 2 d_M_exampleFault_5 rfl rfl rfl ?_
  refine zt_aload_n 0 d_M_exampleFault_6 rfl rfl rfl ?_
  refine zt_getI d_M_exampleFault_7 rfl fl_M_83 rfl ?_
  refine zt_icmp_ge d_M_exampleFault_10 rfl (tgt := 120) (by decide) ⟨fun c1 => ?_, fun c1 => ?_⟩
  · have h2 := h.1 c1
    refine zt_iload_n 1 d_M_exampleFault_120 rfl rfl rfl ?_
    refine zt_if_lt d_M_exampleFault_121 rfl (tgt := 134) (by decide) ⟨fun c4 => ?_, fun c4 => ?_⟩
    · have h5 := h2.1 c4
      refine zt_aload_n 0 d_M_exampleFault_134 rfl rfl rfl ?_
      refine zt_getI d_M_exampleFault_135 rfl fl_M_83 rfl ?_
      refine zt_goto d_M_exampleFault_138 (tgt := 143) (by decide) ?_
      exact zt_iret rfl d_M_exampleFault_143 ⟨_, rfl, h5⟩
    · have h6 := h2.2 c4
      refine zt_iload_n 1 d_M_exampleFault_124 rfl rfl rfl ?_
      refine zt_aload_n 0 d_M_exampleFault_125 rfl rfl rfl ?_
      refine zt_getI d_M_exampleFault_126 rfl fl_M_83 rfl ?_
      refine zt_iconst (v := 1) d_M_exampleFault_129 rfl (by decide) ?_
      refine zt_isub d_M_exampleFault_130 rfl ?_
      refine zt_icmp_ne d_M_exampleFault_131 rfl (tgt := 141) (by decide) ⟨fun c7 => ?_, fun c7 => ?_⟩
      · have h8 := h6.1 c7
        refine zt_aload_n 0 d_M_exampleFault_134 rfl rfl rfl ?_
        refine zt_getI d_M_exampleFault_135 rfl fl_M_83 rfl ?_
        refine zt_goto d_M_exampleFault_138 (tgt := 143) (by decide) ?_
        exact zt_iret rfl d_M_exampleFault_143 ⟨_, rfl, h8⟩
      · have h9 := h6.2 c7
        refine zt_bipush (v := -6) d_M_exampleFault_141 rfl (by decide) ?_
        exact zt_iret rfl d_M_exampleFault_143 ⟨_, rfl, h9⟩
  · have h3 := h.2 c1
    refine zt_aload_n 0 d_M_exampleFault_13 rfl rfl rfl ?_
    refine zt_getR (b := 7) d_M_exampleFault_14 rfl fl_M_28 rfl rfl ?_
    refine zt_iload_n 2 d_M_exampleFault_17 rfl rfl rfl ?_
    obtain ⟨g10, h11⟩ := h3
    refine zt_iald d_M_exampleFault_18 rfl rfl g10 ?_
    refine zt_callSI (as := [.int (M.1 7 x2.toNatClampNeg)]) d_M_exampleFault_19 rfl ms_M_classOf ⟨Nat.le_of_ble_eq_true rfl, Nat.le_of_ble_eq_true rfl⟩ wd_758 rfl rfl (Nat.le_of_ble_eq_true rfl) h11 (fun r14 M13 h12 => ?_)
    refine zt_if_lt d_M_exampleFault_22 rfl (tgt := 29) (by decide) ⟨fun c15 => ?_, fun c15 => ?_⟩
    · have h16 := h12.1 c15
      refine zt_iconst (v := 0) d_M_exampleFault_29 rfl (by decide) ?_
      exact h16
    · have h17 := h12.2 c15
      refine zt_iconst (v := 1) d_M_exampleFault_25 rfl (by decide) ?_
      refine zt_goto d_M_exampleFault_26 (tgt := 30) (by decide) ?_
      exact h17
theorem b_M_exampleFault_30 {Q : Int32 → Mem → Prop} {M : Mem} {x1 : Int32} {x2 : Int32} {xs0 : Int32} (h : (0 ≤ x1 → ((xs0 = 0 → (wp zY m_M_exampleFault (QI Q) 88 [(0, .ref 0), (1, .int x1), (2, .int x2)] [.int 0] M)) ∧ (¬ xs0 = 0 → ((5 < (x2 - x1) → (wp zY m_M_exampleFault (QI Q) 88 [(0, .ref 0), (1, .int x1), (2, .int x2)] [.int 0] M)) ∧ (¬ 5 < (x2 - x1) → (wp zY m_M_exampleFault (QI Q) 88 [(0, .ref 0), (1, .int x1), (2, .int x2)] [.int 1] M)))))) ∧ (¬ 0 ≤ x1 → ((xs0 = 0 → (vp_in x2 18 ∧ (((M.1 7 x2.toNatClampNeg) = 62 → (wp zY m_M_exampleFault (QI Q) 88 [(0, .ref 0), (1, .int x1), (2, .int x2)] [.int 1] M)) ∧ (¬ (M.1 7 x2.toNatClampNeg) = 62 → (wp zY m_M_exampleFault (QI Q) 88 [(0, .ref 0), (1, .int x1), (2, .int x2)] [.int 0] M))))) ∧ (¬ xs0 = 0 → ((12 ≤ x2 → (wp zY m_M_exampleFault (QI Q) 88 [(0, .ref 0), (1, .int x1), (2, .int x2)] [.int 0] M)) ∧ (¬ 12 ≤ x2 → (wp zY m_M_exampleFault (QI Q) 88 [(0, .ref 0), (1, .int x1), (2, .int x2)] [.int 1] M))))))) : wp zY m_M_exampleFault (QI Q) 30 [(0, .ref 0), (1, .int x1), (2, .int x2)] [.int xs0] M := by
  refine zt_istore_n d_M_exampleFault_30 rfl rfl (by decide) rfl ?_
  refine zt_iload_n 2 d_M_exampleFault_31 rfl rfl rfl ?_
  refine zt_if_ge d_M_exampleFault_32 rfl (tgt := 72) (by decide) ⟨fun c1 => ?_, fun c1 => ?_⟩
  · have h2 := h.1 c1
    refine zt_iload_n 0 d_M_exampleFault_72 rfl rfl rfl ?_
    refine zt_if_eq d_M_exampleFault_73 rfl (tgt := 87) (by decide) ⟨fun c4 => ?_, fun c4 => ?_⟩
    · have h5 := h2.1 c4
      refine zt_iconst (v := 0) d_M_exampleFault_87 rfl (by decide) ?_
      exact zt_sub [1, 2, 3] rfl h5
    · have h6 := h2.2 c4
      refine zt_iload_n 3 d_M_exampleFault_76 rfl rfl rfl ?_
      refine zt_iload_n 2 d_M_exampleFault_77 rfl rfl rfl ?_
      refine zt_isub d_M_exampleFault_78 rfl ?_
      refine zt_iconst (v := 5) d_M_exampleFault_79 rfl (by decide) ?_
      refine zt_icmp_gt d_M_exampleFault_80 rfl (tgt := 87) (by decide) ⟨fun c7 => ?_, fun c7 => ?_⟩
      · have h8 := h6.1 c7
        refine zt_iconst (v := 0) d_M_exampleFault_87 rfl (by decide) ?_
        exact zt_sub [1, 2, 3] rfl h8
      · have h9 := h6.2 c7
        refine zt_iconst (v := 1) d_M_exampleFault_83 rfl (by decide) ?_
        refine zt_goto d_M_exampleFault_84 (tgt := 88) (by decide) ?_
        exact zt_sub [1, 2, 3] rfl h9
  · have h3 := h.2 c1
    refine zt_iload_n 0 d_M_exampleFault_35 rfl rfl rfl ?_
    refine zt_if_eq d_M_exampleFault_36 rfl (tgt := 53) (by decide) ⟨fun c10 => ?_, fun c10 => ?_⟩
    · have h11 := h3.1 c10
      refine zt_aload_n 1 d_M_exampleFault_53 rfl rfl rfl ?_
      refine zt_getR (b := 7) d_M_exampleFault_54 rfl fl_M_28 rfl rfl ?_
      refine zt_iload_n 3 d_M_exampleFault_57 rfl rfl rfl ?_
      obtain ⟨g13, h14⟩ := h11
      refine zt_iald d_M_exampleFault_58 rfl rfl g13 ?_
      refine zt_bipush (v := 62) d_M_exampleFault_59 rfl (by decide) ?_
      refine zt_icmp_ne d_M_exampleFault_61 rfl (tgt := 68) (by decide) ⟨fun c15 => ?_, fun c15 => ?_⟩
      · have h16 := h14.1 c15
        refine zt_iconst (v := 1) d_M_exampleFault_64 rfl (by decide) ?_
        refine zt_goto d_M_exampleFault_65 (tgt := 88) (by decide) ?_
        exact zt_sub [1, 2, 3] rfl h16
      · have h17 := h14.2 c15
        refine zt_iconst (v := 0) d_M_exampleFault_68 rfl (by decide) ?_
        refine zt_goto d_M_exampleFault_69 (tgt := 88) (by decide) ?_
        exact zt_sub [1, 2, 3] rfl h17
    · have h12 := h3.2 c10
      refine zt_iload_n 3 d_M_exampleFault_39 rfl rfl rfl ?_
      refine zt_bipush (v := 12) d_M_exampleFault_40 rfl (by decide) ?_
      refine zt_icmp_ge d_M_exampleFault_42 rfl (tgt := 49) (by decide) ⟨fun c18 => ?_, fun c18 => ?_⟩
      · have h19 := h12.1 c18
        refine zt_iconst (v := 0) d_M_exampleFault_49 rfl (by decide) ?_
        refine zt_goto d_M_exampleFault_50 (tgt := 88) (by decide) ?_
        exact zt_sub [1, 2, 3] rfl h19
      · have h20 := h12.2 c18
        refine zt_iconst (v := 1) d_M_exampleFault_45 rfl (by decide) ?_
        refine zt_goto d_M_exampleFault_46 (tgt := 88) (by decide) ?_
        exact zt_sub [1, 2, 3] rfl h20
theorem b_M_exampleFault_88 {Q : Int32 → Mem → Prop} {M : Mem} {x1 : Int32} {x2 : Int32} {xs0 : Int32} (h : (xs0 = 0 → (Q x2 M)) ∧ (¬ xs0 = 0 → (vp_in x2 18 ∧ (((M.1 7 x2.toNatClampNeg) = 62 → (wp zY m_M_exampleFault (QI Q) 5 [(0, .ref 0), (1, .int x2), (2, .int (x2 + 1))] [] M)) ∧ (¬ (M.1 7 x2.toNatClampNeg) = 62 → (wp zY m_M_exampleFault (QI Q) 5 [(0, .ref 0), (1, .int x1), (2, .int (x2 + 1))] [] M)))))) : wp zY m_M_exampleFault (QI Q) 88 [(0, .ref 0), (1, .int x1), (2, .int x2)] [.int xs0] M := by
  refine zt_istore d_M_exampleFault_88 rfl (by decide) rfl ?_
  refine zt_iload 0 d_M_exampleFault_90 rfl rfl ?_
  refine zt_if_ne d_M_exampleFault_92 rfl (tgt := 97) (by decide) ⟨fun c1 => ?_, fun c1 => ?_⟩
  · have h2 := h.1 c1
    refine zt_iload_n 3 d_M_exampleFault_95 rfl rfl rfl ?_
    exact zt_iret rfl d_M_exampleFault_96 ⟨_, rfl, h2⟩
  · have h3 := h.2 c1
    refine zt_aload_n 1 d_M_exampleFault_97 rfl rfl rfl ?_
    refine zt_getR (b := 7) d_M_exampleFault_98 rfl fl_M_28 rfl rfl ?_
    refine zt_iload_n 3 d_M_exampleFault_101 rfl rfl rfl ?_
    obtain ⟨g4, h5⟩ := h3
    refine zt_iald d_M_exampleFault_102 rfl rfl g4 ?_
    refine zt_bipush (v := 62) d_M_exampleFault_103 rfl (by decide) ?_
    refine zt_icmp_ne d_M_exampleFault_105 rfl (tgt := 112) (by decide) ⟨fun c6 => ?_, fun c6 => ?_⟩
    · have h7 := h5.1 c6
      refine zt_iload_n 3 d_M_exampleFault_108 rfl rfl rfl ?_
      refine zt_goto d_M_exampleFault_109 (tgt := 113) (by decide) ?_
      refine zt_istore_n d_M_exampleFault_113 rfl rfl (by decide) rfl ?_
      refine zt_iinc (v := (x2 + 1)) 3 d_M_exampleFault_114 rfl rfl rfl (by decide) rfl ?_
      refine zt_goto d_M_exampleFault_117 (tgt := 5) (by decide) ?_
      exact zt_sub [3, 1, 0] rfl h7
    · have h8 := h5.2 c6
      refine zt_iload_n 2 d_M_exampleFault_112 rfl rfl rfl ?_
      refine zt_istore_n d_M_exampleFault_113 rfl rfl (by decide) rfl ?_
      refine zt_iinc (v := (x2 + 1)) 3 d_M_exampleFault_114 rfl rfl rfl (by decide) rfl ?_
      refine zt_goto d_M_exampleFault_117 (tgt := 5) (by decide) ?_
      exact zt_sub [3, 1, 0] rfl h8
theorem e_M_lineFault {Q : Int32 → Mem → Prop} {M : Mem}  (h : wp zY m_M_lineFault (QI Q) 2 [(0, .ref 0), (1, .int 0)] [] M) : CallI zY m_M_lineFault [.ref 0] M Q := by
  refine call_of (by decide) (Nat.le_of_ble_eq_true rfl) ?_
  show wp zY m_M_lineFault (QI Q) 0 [(0, .ref 0)] [] M
  refine zt_iconst (v := 0) d_M_lineFault_0 rfl (by decide) ?_
  refine zt_istore_n d_M_lineFault_1 rfl rfl (by decide) rfl ?_
  exact zt_sub [1, 0] rfl h
theorem b_M_lineFault_2 {Q : Int32 → Mem → Prop} {M : Mem} {x1 : Int32} (h : ((M.1 0 8) ≤ x1 → (Q (-6) M)) ∧ (¬ (M.1 0 8) ≤ x1 → (vp_in x1 18 ∧ (CallI zY m_M_classOf [.int (M.1 7 x1.toNatClampNeg)] M (fun r8 M7 => (r8 < 0 → (Q x1 M7)) ∧ (¬ r8 < 0 → ((x1 = 12 → (Q x1 M7)) ∧ (¬ x1 = 12 → (wp zY m_M_lineFault (QI Q) 2 [(0, .ref 0), (1, .int (x1 + 1))] [] M7))))))))) : wp zY m_M_lineFault (QI Q) 2 [(0, .ref 0), (1, .int x1)] [] M := by
  refine zt_iload_n 1 d_M_lineFault_2 rfl rfl rfl ?_
  refine zt_aload_n 0 d_M_lineFault_3 rfl rfl rfl ?_
  refine zt_getI d_M_lineFault_4 rfl fl_M_83 rfl ?_
  refine zt_icmp_ge d_M_lineFault_7 rfl (tgt := 36) (by decide) ⟨fun c1 => ?_, fun c1 => ?_⟩
  · have h2 := h.1 c1
    refine zt_bipush (v := -6) d_M_lineFault_36 rfl (by decide) ?_
    exact zt_iret rfl d_M_lineFault_38 ⟨_, rfl, h2⟩
  · have h3 := h.2 c1
    refine zt_aload_n 0 d_M_lineFault_10 rfl rfl rfl ?_
    refine zt_getR (b := 7) d_M_lineFault_11 rfl fl_M_28 rfl rfl ?_
    refine zt_iload_n 1 d_M_lineFault_14 rfl rfl rfl ?_
    obtain ⟨g4, h5⟩ := h3
    refine zt_iald d_M_lineFault_15 rfl rfl g4 ?_
    refine zt_callSI (as := [.int (M.1 7 x1.toNatClampNeg)]) d_M_lineFault_16 rfl ms_M_classOf ⟨Nat.le_of_ble_eq_true rfl, Nat.le_of_ble_eq_true rfl⟩ wd_758 rfl rfl (Nat.le_of_ble_eq_true rfl) h5 (fun r8 M7 h6 => ?_)
    refine zt_if_lt d_M_lineFault_19 rfl (tgt := 28) (by decide) ⟨fun c9 => ?_, fun c9 => ?_⟩
    · have h10 := h6.1 c9
      refine zt_iload_n 1 d_M_lineFault_28 rfl rfl rfl ?_
      exact zt_iret rfl d_M_lineFault_29 ⟨_, rfl, h10⟩
    · have h11 := h6.2 c9
      refine zt_iload_n 1 d_M_lineFault_22 rfl rfl rfl ?_
      refine zt_bipush (v := 12) d_M_lineFault_23 rfl (by decide) ?_
      refine zt_icmp_ne d_M_lineFault_25 rfl (tgt := 30) (by decide) ⟨fun c12 => ?_, fun c12 => ?_⟩
      · have h13 := h11.1 c12
        refine zt_iload_n 1 d_M_lineFault_28 rfl rfl rfl ?_
        exact zt_iret rfl d_M_lineFault_29 ⟨_, rfl, h13⟩
      · have h14 := h11.2 c12
        refine zt_iinc (v := (x1 + 1)) 1 d_M_lineFault_30 rfl rfl rfl (by decide) rfl ?_
        refine zt_goto d_M_lineFault_33 (tgt := 2) (by decide) ?_
        exact zt_sub [1, 0] rfl h14
theorem e_M_fault {Q : Int32 → Mem → Prop} {M : Mem} {x1 : Int32} (h : (x1 = 0 → (CallI zY m_M_exampleFault [.ref 0] M (fun r6 M5 => Q r6 M5))) ∧ (¬ x1 = 0 → ((x1 = 1 → (CallI zY m_M_lineFault [.ref 0] M (fun r12 M11 => Q r12 M11))) ∧ (¬ x1 = 1 → (Q (-2) M))))) : CallI zY m_M_fault [.ref 0, .int x1] M Q := by
  refine call_of (by decide) (Nat.le_of_ble_eq_true rfl) ?_
  show wp zY m_M_fault (QI Q) 0 [(0, .ref 0), (1, .int x1)] [] M
  refine zt_iload_n 1 d_M_fault_0 rfl rfl rfl ?_
  refine zt_if_ne d_M_fault_1 rfl (tgt := 11) (by decide) ⟨fun c1 => ?_, fun c1 => ?_⟩
  · have h2 := h.1 c1
    refine zt_aload_n 0 d_M_fault_4 rfl rfl rfl ?_
    refine zt_callVI (as := []) d_M_fault_5 rfl mi_M_exampleFault ⟨Nat.le_of_ble_eq_true rfl, Nat.le_of_ble_eq_true rfl⟩ wd_754 rfl rfl (Nat.le_of_ble_eq_true rfl) rfl h2 (fun r6 M5 h4 => ?_)
    refine zt_goto d_M_fault_8 (tgt := 25) (by decide) ?_
    exact zt_iret rfl d_M_fault_25 ⟨_, rfl, h4⟩
  · have h3 := h.2 c1
    refine zt_iload_n 1 d_M_fault_11 rfl rfl rfl ?_
    refine zt_iconst (v := 1) d_M_fault_12 rfl (by decide) ?_
    refine zt_icmp_ne d_M_fault_13 rfl (tgt := 23) (by decide) ⟨fun c7 => ?_, fun c7 => ?_⟩
    · have h8 := h3.1 c7
      refine zt_aload_n 0 d_M_fault_16 rfl rfl rfl ?_
      refine zt_callVI (as := []) d_M_fault_17 rfl mi_M_lineFault ⟨Nat.le_of_ble_eq_true rfl, Nat.le_of_ble_eq_true rfl⟩ wd_761 rfl rfl (Nat.le_of_ble_eq_true rfl) rfl h8 (fun r12 M11 h10 => ?_)
      refine zt_goto d_M_fault_20 (tgt := 25) (by decide) ?_
      exact zt_iret rfl d_M_fault_25 ⟨_, rfl, h10⟩
    · have h9 := h3.2 c7
      refine zt_bipush (v := -2) d_M_fault_23 rfl (by decide) ?_
      exact zt_iret rfl d_M_fault_25 ⟨_, rfl, h9⟩
theorem e_M_example {Q : Int32 → Mem → Prop} {M : Mem}  (h : CallI zY m_M_exampleFault [.ref 0] M (fun r3 M2 => (r3 < 0 → (((M2.1 0 4) = 3 → (Q (-4) M2)) ∧ (¬ (M2.1 0 4) = 3 → (wp zY m_M_example (QI Q) 23 [(0, .ref 0), (1, .int 0)] [] M2)))) ∧ (¬ r3 < 0 → (Q (-5) M2)))) : CallI zY m_M_example [.ref 0] M Q := by
  refine call_of (by decide) (Nat.le_of_ble_eq_true rfl) ?_
  show wp zY m_M_example (QI Q) 0 [(0, .ref 0)] [] M
  refine zt_aload_n 0 d_M_example_0 rfl rfl rfl ?_
  refine zt_callVI (as := []) d_M_example_1 rfl mi_M_exampleFault ⟨Nat.le_of_ble_eq_true rfl, Nat.le_of_ble_eq_true rfl⟩ wd_754 rfl rfl (Nat.le_of_ble_eq_true rfl) rfl h (fun r3 M2 h1 => ?_)
  refine zt_if_lt d_M_example_4 rfl (tgt := 10) (by decide) ⟨fun c4 => ?_, fun c4 => ?_⟩
  · have h5 := h1.1 c4
    refine zt_aload_n 0 d_M_example_10 rfl rfl rfl ?_
    refine zt_getI d_M_example_11 rfl fl_M_98 rfl ?_
    refine zt_iconst (v := 3) d_M_example_14 rfl (by decide) ?_
    refine zt_icmp_ne d_M_example_15 rfl (tgt := 21) (by decide) ⟨fun c7 => ?_, fun c7 => ?_⟩
    · have h8 := h5.1 c7
      refine zt_bipush (v := -4) d_M_example_18 rfl (by decide) ?_
      exact zt_iret rfl d_M_example_20 ⟨_, rfl, h8⟩
    · have h9 := h5.2 c7
      refine zt_iconst (v := 0) d_M_example_21 rfl (by decide) ?_
      refine zt_istore_n d_M_example_22 rfl rfl (by decide) rfl ?_
      exact zt_sub [1, 0] rfl h9
  · have h6 := h1.2 c4
    refine zt_bipush (v := -5) d_M_example_7 rfl (by decide) ?_
    exact zt_iret rfl d_M_example_9 ⟨_, rfl, h6⟩
theorem b_M_example_23 {Q : Int32 → Mem → Prop} {M : Mem} {x1 : Int32} (h : vp_in x1 18 ∧ (((M.1 7 x1.toNatClampNeg) = 62 → (vp_in (M.1 0 4) 3 ∧ (∀ N8, N8 = uI M 2 (M.1 0 4).toNatClampNeg x1 → (vp_in (N8.1 0 4) 3 ∧ (∀ N11, N11 = uI N8 4 (N8.1 0 4).toNatClampNeg (((N8.1 0 8) - x1) - 1) → (wp zY m_M_example (QI Q) 89 [(0, .ref 0), (1, .int x1), (2, .int 0)] [] N11)))))) ∧ (¬ (M.1 7 x1.toNatClampNeg) = 62 → (vp_in x1 18 ∧ (vp_in ((12 * (M.1 0 4)) + x1) 36 ∧ (∀ N16, N16 = uI M 1 ((12 * (M.1 0 4)) + x1).toNatClampNeg (M.1 7 x1.toNatClampNeg) → (wp zY m_M_example (QI Q) 23 [(0, .ref 0), (1, .int (x1 + 1))] [] N16))))))) : wp zY m_M_example (QI Q) 23 [(0, .ref 0), (1, .int x1)] [] M := by
  refine zt_aload_n 0 d_M_example_23 rfl rfl rfl ?_
  refine zt_getR (b := 7) d_M_example_24 rfl fl_M_28 rfl rfl ?_
  refine zt_iload_n 1 d_M_example_27 rfl rfl rfl ?_
  obtain ⟨g1, h2⟩ := h
  refine zt_iald d_M_example_28 rfl rfl g1 ?_
  refine zt_bipush (v := 62) d_M_example_29 rfl (by decide) ?_
  refine zt_icmp_eq d_M_example_31 rfl (tgt := 60) (by decide) ⟨fun c3 => ?_, fun c3 => ?_⟩
  · have h4 := h2.1 c3
    refine zt_aload_n 0 d_M_example_60 rfl rfl rfl ?_
    refine zt_getR (b := 2) d_M_example_61 rfl fl_M_13 rfl rfl ?_
    refine zt_aload_n 0 d_M_example_64 rfl rfl rfl ?_
    refine zt_getI d_M_example_65 rfl fl_M_98 rfl ?_
    refine zt_iload_n 1 d_M_example_68 rfl rfl rfl ?_
    obtain ⟨g6, h7⟩ := h4
    refine zt_iast d_M_example_69 rfl rfl g6 ?_
    have h7 := h7 _ rfl
    refine zt_aload_n 0 d_M_example_70 rfl rfl rfl ?_
    refine zt_getR (b := 4) d_M_example_71 rfl fl_M_19 rfl rfl ?_
    refine zt_aload_n 0 d_M_example_74 rfl rfl rfl ?_
    refine zt_getI d_M_example_75 rfl fl_M_98 rfl ?_
    refine zt_aload_n 0 d_M_example_78 rfl rfl rfl ?_
    refine zt_getI d_M_example_79 rfl fl_M_83 rfl ?_
    refine zt_iload_n 1 d_M_example_82 rfl rfl rfl ?_
    refine zt_isub d_M_example_83 rfl ?_
    refine zt_iconst (v := 1) d_M_example_84 rfl (by decide) ?_
    refine zt_isub d_M_example_85 rfl ?_
    obtain ⟨g9, h10⟩ := h7
    refine zt_iast d_M_example_86 rfl rfl g9 ?_
    have h10 := h10 _ rfl
    refine zt_iconst (v := 0) d_M_example_87 rfl (by decide) ?_
    refine zt_istore_n d_M_example_88 rfl rfl (by decide) rfl ?_
    exact zt_sub [1, 2, 0] rfl h10
  · have h5 := h2.2 c3
    refine zt_aload_n 0 d_M_example_34 rfl rfl rfl ?_
    refine zt_getR (b := 1) d_M_example_35 rfl fl_M_7 rfl rfl ?_
    refine zt_bipush (v := 12) d_M_example_38 rfl (by decide) ?_
    refine zt_aload_n 0 d_M_example_40 rfl rfl rfl ?_
    refine zt_getI d_M_example_41 rfl fl_M_98 rfl ?_
    refine zt_imul d_M_example_44 rfl ?_
    refine zt_iload_n 1 d_M_example_45 rfl rfl rfl ?_
    refine zt_iadd d_M_example_46 rfl ?_
    refine zt_aload_n 0 d_M_example_47 rfl rfl rfl ?_
    refine zt_getR (b := 7) d_M_example_48 rfl fl_M_28 rfl rfl ?_
    refine zt_iload_n 1 d_M_example_51 rfl rfl rfl ?_
    obtain ⟨g12, h13⟩ := h5
    refine zt_iald d_M_example_52 rfl rfl g12 ?_
    obtain ⟨g14, h15⟩ := h13
    refine zt_iast d_M_example_53 rfl rfl g14 ?_
    have h15 := h15 _ rfl
    refine zt_iinc (v := (x1 + 1)) 1 d_M_example_54 rfl rfl rfl (by decide) rfl ?_
    refine zt_goto d_M_example_57 (tgt := 23) (by decide) ?_
    exact zt_sub [1, 0] rfl h15
theorem b_M_example_89 {Q : Int32 → Mem → Prop} {M : Mem} {x1 : Int32} {x2 : Int32} (h : vp_in (M.1 0 4) 3 ∧ (((M.1 4 (M.1 0 4).toNatClampNeg) ≤ x2 → (∀ N6, N6 = uI M 0 4 ((M.1 0 4) + 1) → (∀ N8, N8 = uI N6 0 8 0 → (Q (N8.1 0 4) N8)))) ∧ (¬ (M.1 4 (M.1 0 4).toNatClampNeg) ≤ x2 → (vp_in ((x1 + 1) + x2) 18 ∧ (vp_in ((5 * (M.1 0 4)) + x2) 15 ∧ (∀ N14, N14 = uI M 3 ((5 * (M.1 0 4)) + x2).toNatClampNeg (M.1 7 ((x1 + 1) + x2).toNatClampNeg) → (wp zY m_M_example (QI Q) 89 [(0, .ref 0), (1, .int x1), (2, .int (x2 + 1))] [] N14))))))) : wp zY m_M_example (QI Q) 89 [(0, .ref 0), (1, .int x1), (2, .int x2)] [] M := by
  refine zt_iload_n 2 d_M_example_89 rfl rfl rfl ?_
  refine zt_aload_n 0 d_M_example_90 rfl rfl rfl ?_
  refine zt_getR (b := 4) d_M_example_91 rfl fl_M_19 rfl rfl ?_
  refine zt_aload_n 0 d_M_example_94 rfl rfl rfl ?_
  refine zt_getI d_M_example_95 rfl fl_M_98 rfl ?_
  obtain ⟨g1, h2⟩ := h
  refine zt_iald d_M_example_98 rfl rfl g1 ?_
  refine zt_icmp_ge d_M_example_99 rfl (tgt := 131) (by decide) ⟨fun c3 => ?_, fun c3 => ?_⟩
  · have h4 := h2.1 c3
    refine zt_aload_n 0 d_M_example_131 rfl rfl rfl ?_
    refine zt_dup d_M_example_132 rfl rfl ?_
    refine zt_getI d_M_example_133 rfl fl_M_98 rfl ?_
    refine zt_iconst (v := 1) d_M_example_136 rfl (by decide) ?_
    refine zt_iadd d_M_example_137 rfl ?_
    refine zt_putI d_M_example_138 rfl fl_M_98 rfl ?_
    have h7 := h4 _ rfl
    refine zt_aload_n 0 d_M_example_141 rfl rfl rfl ?_
    refine zt_iconst (v := 0) d_M_example_142 rfl (by decide) ?_
    refine zt_putI d_M_example_143 rfl fl_M_83 rfl ?_
    have h9 := h7 _ rfl
    refine zt_aload_n 0 d_M_example_146 rfl rfl rfl ?_
    refine zt_getI d_M_example_147 rfl fl_M_98 rfl ?_
    exact zt_iret rfl d_M_example_150 ⟨_, rfl, h9⟩
  · have h5 := h2.2 c3
    refine zt_aload_n 0 d_M_example_102 rfl rfl rfl ?_
    refine zt_getR (b := 3) d_M_example_103 rfl fl_M_16 rfl rfl ?_
    refine zt_iconst (v := 5) d_M_example_106 rfl (by decide) ?_
    refine zt_aload_n 0 d_M_example_107 rfl rfl rfl ?_
    refine zt_getI d_M_example_108 rfl fl_M_98 rfl ?_
    refine zt_imul d_M_example_111 rfl ?_
    refine zt_iload_n 2 d_M_example_112 rfl rfl rfl ?_
    refine zt_iadd d_M_example_113 rfl ?_
    refine zt_aload_n 0 d_M_example_114 rfl rfl rfl ?_
    refine zt_getR (b := 7) d_M_example_115 rfl fl_M_28 rfl rfl ?_
    refine zt_iload_n 1 d_M_example_118 rfl rfl rfl ?_
    refine zt_iconst (v := 1) d_M_example_119 rfl (by decide) ?_
    refine zt_iadd d_M_example_120 rfl ?_
    refine zt_iload_n 2 d_M_example_121 rfl rfl rfl ?_
    refine zt_iadd d_M_example_122 rfl ?_
    obtain ⟨g10, h11⟩ := h5
    refine zt_iald d_M_example_123 rfl rfl g10 ?_
    obtain ⟨g12, h13⟩ := h11
    refine zt_iast d_M_example_124 rfl rfl g12 ?_
    have h13 := h13 _ rfl
    refine zt_iinc (v := (x2 + 1)) 2 d_M_example_125 rfl rfl rfl (by decide) rfl ?_
    refine zt_goto d_M_example_128 (tgt := 89) (by decide) ?_
    exact zt_sub [1, 2, 0] rfl h13
theorem e_M_forget {Q : Int32 → Mem → Prop} {M : Mem}  (h : ((M.1 0 4) = 0 → (Q (-5) M)) ∧ (¬ (M.1 0 4) = 0 → (∀ N4, N4 = uI M 0 4 ((M.1 0 4) - 1) → (Q (N4.1 0 4) N4)))) : CallI zY m_M_forget [.ref 0] M Q := by
  refine call_of (by decide) (Nat.le_of_ble_eq_true rfl) ?_
  show wp zY m_M_forget (QI Q) 0 [(0, .ref 0)] [] M
  refine zt_aload_n 0 d_M_forget_0 rfl rfl rfl ?_
  refine zt_getI d_M_forget_1 rfl fl_M_98 rfl ?_
  refine zt_if_ne d_M_forget_4 rfl (tgt := 10) (by decide) ⟨fun c1 => ?_, fun c1 => ?_⟩
  · have h2 := h.1 c1
    refine zt_bipush (v := -5) d_M_forget_7 rfl (by decide) ?_
    exact zt_iret rfl d_M_forget_9 ⟨_, rfl, h2⟩
  · have h3 := h.2 c1
    refine zt_aload_n 0 d_M_forget_10 rfl rfl rfl ?_
    refine zt_dup d_M_forget_11 rfl rfl ?_
    refine zt_getI d_M_forget_12 rfl fl_M_98 rfl ?_
    refine zt_iconst (v := 1) d_M_forget_15 rfl (by decide) ?_
    refine zt_isub d_M_forget_16 rfl ?_
    refine zt_putI d_M_forget_17 rfl fl_M_98 rfl ?_
    have h5 := h3 _ rfl
    refine zt_aload_n 0 d_M_forget_20 rfl rfl rfl ?_
    refine zt_getI d_M_forget_21 rfl fl_M_98 rfl ?_
    exact zt_iret rfl d_M_forget_24 ⟨_, rfl, h5⟩
theorem e_M_pool {Q : Int32 → Mem → Prop} {M : Mem}  (h : CallI zY m_M_lineFault [.ref 0] M (fun r3 M2 => (r3 < 0 → (((M2.1 0 7) = 6 → (Q (-4) M2)) ∧ (¬ (M2.1 0 7) = 6 → (wp zY m_M_pool (QI Q) 24 [(0, .ref 0), (1, .int 0)] [] M2)))) ∧ (¬ r3 < 0 → (Q (-5) M2)))) : CallI zY m_M_pool [.ref 0] M Q := by
  refine call_of (by decide) (Nat.le_of_ble_eq_true rfl) ?_
  show wp zY m_M_pool (QI Q) 0 [(0, .ref 0)] [] M
  refine zt_aload_n 0 d_M_pool_0 rfl rfl rfl ?_
  refine zt_callVI (as := []) d_M_pool_1 rfl mi_M_lineFault ⟨Nat.le_of_ble_eq_true rfl, Nat.le_of_ble_eq_true rfl⟩ wd_761 rfl rfl (Nat.le_of_ble_eq_true rfl) rfl h (fun r3 M2 h1 => ?_)
  refine zt_if_lt d_M_pool_4 rfl (tgt := 10) (by decide) ⟨fun c4 => ?_, fun c4 => ?_⟩
  · have h5 := h1.1 c4
    refine zt_aload_n 0 d_M_pool_10 rfl rfl rfl ?_
    refine zt_getI d_M_pool_11 rfl fl_M_101 rfl ?_
    refine zt_bipush (v := 6) d_M_pool_14 rfl (by decide) ?_
    refine zt_icmp_ne d_M_pool_16 rfl (tgt := 22) (by decide) ⟨fun c7 => ?_, fun c7 => ?_⟩
    · have h8 := h5.1 c7
      refine zt_bipush (v := -4) d_M_pool_19 rfl (by decide) ?_
      exact zt_iret rfl d_M_pool_21 ⟨_, rfl, h8⟩
    · have h9 := h5.2 c7
      refine zt_iconst (v := 0) d_M_pool_22 rfl (by decide) ?_
      refine zt_istore_n d_M_pool_23 rfl rfl (by decide) rfl ?_
      exact zt_sub [1, 0] rfl h9
  · have h6 := h1.2 c4
    refine zt_bipush (v := -5) d_M_pool_7 rfl (by decide) ?_
    exact zt_iret rfl d_M_pool_9 ⟨_, rfl, h6⟩
theorem b_M_pool_24 {Q : Int32 → Mem → Prop} {M : Mem} {x1 : Int32} (h : ((M.1 0 8) ≤ x1 → (vp_in (M.1 0 7) 6 ∧ (∀ N6, N6 = uI M 6 (M.1 0 7).toNatClampNeg (M.1 0 8) → (∀ N7, N7 = uI N6 0 7 ((N6.1 0 7) + 1) → (∀ N9, N9 = uI N7 0 8 0 → (Q (N9.1 0 7) N9)))))) ∧ (¬ (M.1 0 8) ≤ x1 → (vp_in x1 18 ∧ (vp_in ((12 * (M.1 0 7)) + x1) 72 ∧ (∀ N15, N15 = uI M 5 ((12 * (M.1 0 7)) + x1).toNatClampNeg (M.1 7 x1.toNatClampNeg) → (wp zY m_M_pool (QI Q) 24 [(0, .ref 0), (1, .int (x1 + 1))] [] N15)))))) : wp zY m_M_pool (QI Q) 24 [(0, .ref 0), (1, .int x1)] [] M := by
  refine zt_iload_n 1 d_M_pool_24 rfl rfl rfl ?_
  refine zt_aload_n 0 d_M_pool_25 rfl rfl rfl ?_
  refine zt_getI d_M_pool_26 rfl fl_M_83 rfl ?_
  refine zt_icmp_ge d_M_pool_29 rfl (tgt := 58) (by decide) ⟨fun c1 => ?_, fun c1 => ?_⟩
  · have h2 := h.1 c1
    refine zt_aload_n 0 d_M_pool_58 rfl rfl rfl ?_
    refine zt_getR (b := 6) d_M_pool_59 rfl fl_M_25 rfl rfl ?_
    refine zt_aload_n 0 d_M_pool_62 rfl rfl rfl ?_
    refine zt_getI d_M_pool_63 rfl fl_M_101 rfl ?_
    refine zt_aload_n 0 d_M_pool_66 rfl rfl rfl ?_
    refine zt_getI d_M_pool_67 rfl fl_M_83 rfl ?_
    obtain ⟨g4, h5⟩ := h2
    refine zt_iast d_M_pool_70 rfl rfl g4 ?_
    have h5 := h5 _ rfl
    refine zt_aload_n 0 d_M_pool_71 rfl rfl rfl ?_
    refine zt_dup d_M_pool_72 rfl rfl ?_
    refine zt_getI d_M_pool_73 rfl fl_M_101 rfl ?_
    refine zt_iconst (v := 1) d_M_pool_76 rfl (by decide) ?_
    refine zt_iadd d_M_pool_77 rfl ?_
    refine zt_putI d_M_pool_78 rfl fl_M_101 rfl ?_
    have h8 := h5 _ rfl
    refine zt_aload_n 0 d_M_pool_81 rfl rfl rfl ?_
    refine zt_iconst (v := 0) d_M_pool_82 rfl (by decide) ?_
    refine zt_putI d_M_pool_83 rfl fl_M_83 rfl ?_
    have h10 := h8 _ rfl
    refine zt_aload_n 0 d_M_pool_86 rfl rfl rfl ?_
    refine zt_getI d_M_pool_87 rfl fl_M_101 rfl ?_
    exact zt_iret rfl d_M_pool_90 ⟨_, rfl, h10⟩
  · have h3 := h.2 c1
    refine zt_aload_n 0 d_M_pool_32 rfl rfl rfl ?_
    refine zt_getR (b := 5) d_M_pool_33 rfl fl_M_22 rfl rfl ?_
    refine zt_bipush (v := 12) d_M_pool_36 rfl (by decide) ?_
    refine zt_aload_n 0 d_M_pool_38 rfl rfl rfl ?_
    refine zt_getI d_M_pool_39 rfl fl_M_101 rfl ?_
    refine zt_imul d_M_pool_42 rfl ?_
    refine zt_iload_n 1 d_M_pool_43 rfl rfl rfl ?_
    refine zt_iadd d_M_pool_44 rfl ?_
    refine zt_aload_n 0 d_M_pool_45 rfl rfl rfl ?_
    refine zt_getR (b := 7) d_M_pool_46 rfl fl_M_28 rfl rfl ?_
    refine zt_iload_n 1 d_M_pool_49 rfl rfl rfl ?_
    obtain ⟨g11, h12⟩ := h3
    refine zt_iald d_M_pool_50 rfl rfl g11 ?_
    obtain ⟨g13, h14⟩ := h12
    refine zt_iast d_M_pool_51 rfl rfl g13 ?_
    have h14 := h14 _ rfl
    refine zt_iinc (v := (x1 + 1)) 1 d_M_pool_52 rfl rfl rfl (by decide) rfl ?_
    refine zt_goto d_M_pool_55 (tgt := 24) (by decide) ?_
    exact zt_sub [1, 0] rfl h14
theorem e_M_goFrom {Q : Mem → Prop} {M : Mem} {x1 : Int32} (h : ∀ N1, N1 = uI M 0 7 ((M.1 0 7) - 1) → (wp zY m_M_goFrom (QV Q) 12 [(0, .ref 0), (2, .int x1)] [] N1)) : CallV zY m_M_goFrom [.ref 0, .int x1] M Q := by
  refine call_of (by decide) (Nat.le_of_ble_eq_true rfl) ?_
  show wp zY m_M_goFrom (QV Q) 0 [(0, .ref 0), (1, .int x1)] [] M
  refine zt_aload_n 0 d_M_goFrom_0 rfl rfl rfl ?_
  refine zt_dup d_M_goFrom_1 rfl rfl ?_
  refine zt_getI d_M_goFrom_2 rfl fl_M_101 rfl ?_
  refine zt_iconst (v := 1) d_M_goFrom_5 rfl (by decide) ?_
  refine zt_isub d_M_goFrom_6 rfl ?_
  refine zt_putI d_M_goFrom_7 rfl fl_M_101 rfl ?_
  have h2 := h _ rfl
  refine zt_iload_n 1 d_M_goFrom_10 rfl rfl rfl ?_
  refine zt_istore_n d_M_goFrom_11 rfl rfl (by decide) rfl ?_
  exact zt_sub [1, 0] rfl h2
theorem b_M_goFrom_12 {Q : Mem → Prop} {M : Mem} {x2 : Int32} (h : ((M.1 0 7) ≤ x2 → (Q M)) ∧ (¬ (M.1 0 7) ≤ x2 → (vp_in (x2 + 1) 6 ∧ (vp_in x2 6 ∧ (∀ N8, N8 = uI M 6 x2.toNatClampNeg (M.1 6 (x2 + 1).toNatClampNeg) → (wp zY m_M_goFrom (QV Q) 36 [(0, .ref 0), (2, .int x2), (3, .int 0)] [] N8)))))) : wp zY m_M_goFrom (QV Q) 12 [(0, .ref 0), (2, .int x2)] [] M := by
  refine zt_iload_n 1 d_M_goFrom_12 rfl rfl rfl ?_
  refine zt_aload_n 0 d_M_goFrom_13 rfl rfl rfl ?_
  refine zt_getI d_M_goFrom_14 rfl fl_M_101 rfl ?_
  refine zt_icmp_ge d_M_goFrom_17 rfl (tgt := 79) (by decide) ⟨fun c1 => ?_, fun c1 => ?_⟩
  · have h2 := h.1 c1
    exact zt_vret rfl d_M_goFrom_79 ⟨rfl, h2⟩
  · have h3 := h.2 c1
    refine zt_aload_n 0 d_M_goFrom_20 rfl rfl rfl ?_
    refine zt_getR (b := 6) d_M_goFrom_21 rfl fl_M_25 rfl rfl ?_
    refine zt_iload_n 1 d_M_goFrom_24 rfl rfl rfl ?_
    refine zt_aload_n 0 d_M_goFrom_25 rfl rfl rfl ?_
    refine zt_getR (b := 6) d_M_goFrom_26 rfl fl_M_25 rfl rfl ?_
    refine zt_iload_n 1 d_M_goFrom_29 rfl rfl rfl ?_
    refine zt_iconst (v := 1) d_M_goFrom_30 rfl (by decide) ?_
    refine zt_iadd d_M_goFrom_31 rfl ?_
    obtain ⟨g4, h5⟩ := h3
    refine zt_iald d_M_goFrom_32 rfl rfl g4 ?_
    obtain ⟨g6, h7⟩ := h5
    refine zt_iast d_M_goFrom_33 rfl rfl g6 ?_
    have h7 := h7 _ rfl
    refine zt_iconst (v := 0) d_M_goFrom_34 rfl (by decide) ?_
    refine zt_istore_n d_M_goFrom_35 rfl rfl (by decide) rfl ?_
    exact zt_sub [1, 2, 0] rfl h7
theorem b_M_goFrom_36 {Q : Mem → Prop} {M : Mem} {x2 : Int32} {x3 : Int32} (h : (12 ≤ x3 → (wp zY m_M_goFrom (QV Q) 12 [(0, .ref 0), (2, .int (x2 + 1))] [] M)) ∧ (¬ 12 ≤ x3 → (vp_in (((12 * x2) + 12) + x3) 72 ∧ (vp_in ((12 * x2) + x3) 72 ∧ (∀ N8, N8 = uI M 5 ((12 * x2) + x3).toNatClampNeg (M.1 5 (((12 * x2) + 12) + x3).toNatClampNeg) → (wp zY m_M_goFrom (QV Q) 36 [(0, .ref 0), (2, .int x2), (3, .int (x3 + 1))] [] N8)))))) : wp zY m_M_goFrom (QV Q) 36 [(0, .ref 0), (2, .int x2), (3, .int x3)] [] M := by
  refine zt_iload_n 2 d_M_goFrom_36 rfl rfl rfl ?_
  refine zt_bipush (v := 12) d_M_goFrom_37 rfl (by decide) ?_
  refine zt_icmp_ge d_M_goFrom_39 rfl (tgt := 73) (by decide) ⟨fun c1 => ?_, fun c1 => ?_⟩
  · have h2 := h.1 c1
    refine zt_iinc (v := (x2 + 1)) 1 d_M_goFrom_73 rfl rfl rfl (by decide) rfl ?_
    refine zt_goto d_M_goFrom_76 (tgt := 12) (by decide) ?_
    exact zt_sub [1, 0] rfl h2
  · have h3 := h.2 c1
    refine zt_aload_n 0 d_M_goFrom_42 rfl rfl rfl ?_
    refine zt_getR (b := 5) d_M_goFrom_43 rfl fl_M_22 rfl rfl ?_
    refine zt_bipush (v := 12) d_M_goFrom_46 rfl (by decide) ?_
    refine zt_iload_n 1 d_M_goFrom_48 rfl rfl rfl ?_
    refine zt_imul d_M_goFrom_49 rfl ?_
    refine zt_iload_n 2 d_M_goFrom_50 rfl rfl rfl ?_
    refine zt_iadd d_M_goFrom_51 rfl ?_
    refine zt_aload_n 0 d_M_goFrom_52 rfl rfl rfl ?_
    refine zt_getR (b := 5) d_M_goFrom_53 rfl fl_M_22 rfl rfl ?_
    refine zt_bipush (v := 12) d_M_goFrom_56 rfl (by decide) ?_
    refine zt_iload_n 1 d_M_goFrom_58 rfl rfl rfl ?_
    refine zt_imul d_M_goFrom_59 rfl ?_
    refine zt_bipush (v := 12) d_M_goFrom_60 rfl (by decide) ?_
    refine zt_iadd d_M_goFrom_62 rfl ?_
    refine zt_iload_n 2 d_M_goFrom_63 rfl rfl rfl ?_
    refine zt_iadd d_M_goFrom_64 rfl ?_
    obtain ⟨g4, h5⟩ := h3
    refine zt_iald d_M_goFrom_65 rfl rfl g4 ?_
    obtain ⟨g6, h7⟩ := h5
    refine zt_iast d_M_goFrom_66 rfl rfl g6 ?_
    have h7 := h7 _ rfl
    refine zt_iinc (v := (x3 + 1)) 2 d_M_goFrom_67 rfl rfl rfl (by decide) rfl ?_
    refine zt_goto d_M_goFrom_70 (tgt := 36) (by decide) ?_
    exact zt_sub [1, 2, 0] rfl h7
theorem e_M_drain {Q : Int32 → Mem → Prop} {M : Mem} {x1 : Int32} (h : CallI zY m_M_in [.int x1, .int 0, .int ((M.1 0 7) - 1)] M (fun r3 M2 => (r3 = 0 → (Q (-1) M2)) ∧ (¬ r3 = 0 → (CallV zY m_M_goFrom [.ref 0, .int x1] M2 (fun M8 => Q (M8.1 0 7) M8))))) : CallI zY m_M_drain [.ref 0, .int x1] M Q := by
  refine call_of (by decide) (Nat.le_of_ble_eq_true rfl) ?_
  show wp zY m_M_drain (QI Q) 0 [(0, .ref 0), (1, .int x1)] [] M
  refine zt_iload_n 1 d_M_drain_0 rfl rfl rfl ?_
  refine zt_iconst (v := 0) d_M_drain_1 rfl (by decide) ?_
  refine zt_aload_n 0 d_M_drain_2 rfl rfl rfl ?_
  refine zt_getI d_M_drain_3 rfl fl_M_101 rfl ?_
  refine zt_iconst (v := 1) d_M_drain_6 rfl (by decide) ?_
  refine zt_isub d_M_drain_7 rfl ?_
  refine zt_callSI (as := [.int x1, .int 0, .int ((M.1 0 7) - 1)]) d_M_drain_8 rfl ms_M_in ⟨Nat.le_of_ble_eq_true rfl, Nat.le_of_ble_eq_true rfl⟩ wd_654 rfl rfl (Nat.le_of_ble_eq_true rfl) h (fun r3 M2 h1 => ?_)
  refine zt_if_ne d_M_drain_11 rfl (tgt := 16) (by decide) ⟨fun c4 => ?_, fun c4 => ?_⟩
  · have h5 := h1.1 c4
    refine zt_iconst (v := -1) d_M_drain_14 rfl (by decide) ?_
    exact zt_iret rfl d_M_drain_15 ⟨_, rfl, h5⟩
  · have h6 := h1.2 c4
    refine zt_aload_n 0 d_M_drain_16 rfl rfl rfl ?_
    refine zt_iload_n 1 d_M_drain_17 rfl rfl rfl ?_
    refine zt_callVV (as := [.int x1]) d_M_drain_18 rfl mi_M_goFrom ⟨Nat.le_of_ble_eq_true rfl, Nat.le_of_ble_eq_true rfl⟩ wd_781 rfl rfl (Nat.le_of_ble_eq_true rfl) rfl h6 (fun M8 h7 => ?_)
    refine zt_aload_n 0 d_M_drain_21 rfl rfl rfl ?_
    refine zt_getI d_M_drain_22 rfl fl_M_101 rfl ?_
    exact zt_iret rfl d_M_drain_25 ⟨_, rfl, h7⟩
theorem e_M_lookAtPad {Q : Mem → Prop} {M : Mem}  (h : ∀ N1, N1 = uI M 0 12 (M.1 0 8) → (wp zY m_M_lookAtPad (QV Q) 10 [(0, .ref 0), (1, .int 0)] [] N1)) : CallV zY m_M_lookAtPad [.ref 0] M Q := by
  refine call_of (by decide) (Nat.le_of_ble_eq_true rfl) ?_
  show wp zY m_M_lookAtPad (QV Q) 0 [(0, .ref 0)] [] M
  refine zt_aload_n 0 d_M_lookAtPad_0 rfl rfl rfl ?_
  refine zt_aload_n 0 d_M_lookAtPad_1 rfl rfl rfl ?_
  refine zt_getI d_M_lookAtPad_2 rfl fl_M_83 rfl ?_
  refine zt_putI d_M_lookAtPad_5 rfl fl_M_108 rfl ?_
  have h2 := h _ rfl
  refine zt_iconst (v := 0) d_M_lookAtPad_8 rfl (by decide) ?_
  refine zt_istore_n d_M_lookAtPad_9 rfl rfl (by decide) rfl ?_
  exact zt_sub [1, 0] rfl h2
theorem b_M_lookAtPad_10 {Q : Mem → Prop} {M : Mem} {x1 : Int32} (h : ((M.1 0 8) ≤ x1 → (Q M)) ∧ (¬ (M.1 0 8) ≤ x1 → (vp_in x1 18 ∧ (vp_in x1 12 ∧ (∀ N8, N8 = uI M 9 x1.toNatClampNeg (M.1 7 x1.toNatClampNeg) → (wp zY m_M_lookAtPad (QV Q) 10 [(0, .ref 0), (1, .int (x1 + 1))] [] N8)))))) : wp zY m_M_lookAtPad (QV Q) 10 [(0, .ref 0), (1, .int x1)] [] M := by
  refine zt_iload_n 1 d_M_lookAtPad_10 rfl rfl rfl ?_
  refine zt_aload_n 0 d_M_lookAtPad_11 rfl rfl rfl ?_
  refine zt_getI d_M_lookAtPad_12 rfl fl_M_83 rfl ?_
  refine zt_icmp_ge d_M_lookAtPad_15 rfl (tgt := 36) (by decide) ⟨fun c1 => ?_, fun c1 => ?_⟩
  · have h2 := h.1 c1
    exact zt_vret rfl d_M_lookAtPad_36 ⟨rfl, h2⟩
  · have h3 := h.2 c1
    refine zt_aload_n 0 d_M_lookAtPad_18 rfl rfl rfl ?_
    refine zt_getR (b := 9) d_M_lookAtPad_19 rfl fl_M_34 rfl rfl ?_
    refine zt_iload_n 1 d_M_lookAtPad_22 rfl rfl rfl ?_
    refine zt_aload_n 0 d_M_lookAtPad_23 rfl rfl rfl ?_
    refine zt_getR (b := 7) d_M_lookAtPad_24 rfl fl_M_28 rfl rfl ?_
    refine zt_iload_n 1 d_M_lookAtPad_27 rfl rfl rfl ?_
    obtain ⟨g4, h5⟩ := h3
    refine zt_iald d_M_lookAtPad_28 rfl rfl g4 ?_
    obtain ⟨g6, h7⟩ := h5
    refine zt_iast d_M_lookAtPad_29 rfl rfl g6 ?_
    have h7 := h7 _ rfl
    refine zt_iinc (v := (x1 + 1)) 1 d_M_lookAtPad_30 rfl rfl rfl (by decide) rfl ?_
    refine zt_goto d_M_lookAtPad_33 (tgt := 10) (by decide) ?_
    exact zt_sub [1, 0] rfl h7
theorem e_M_lookAtPool {Q : Mem → Prop} {M : Mem} {x1 : Int32} (h : vp_in x1 6 ∧ (∀ N3, N3 = uI M 0 12 (M.1 6 x1.toNatClampNeg) → (wp zY m_M_lookAtPool (QV Q) 12 [(0, .ref 0), (1, .int x1), (2, .int 0)] [] N3))) : CallV zY m_M_lookAtPool [.ref 0, .int x1] M Q := by
  refine call_of (by decide) (Nat.le_of_ble_eq_true rfl) ?_
  show wp zY m_M_lookAtPool (QV Q) 0 [(0, .ref 0), (1, .int x1)] [] M
  refine zt_aload_n 0 d_M_lookAtPool_0 rfl rfl rfl ?_
  refine zt_aload_n 0 d_M_lookAtPool_1 rfl rfl rfl ?_
  refine zt_getR (b := 6) d_M_lookAtPool_2 rfl fl_M_25 rfl rfl ?_
  refine zt_iload_n 1 d_M_lookAtPool_5 rfl rfl rfl ?_
  obtain ⟨g1, h2⟩ := h
  refine zt_iald d_M_lookAtPool_6 rfl rfl g1 ?_
  refine zt_putI d_M_lookAtPool_7 rfl fl_M_108 rfl ?_
  have h4 := h2 _ rfl
  refine zt_iconst (v := 0) d_M_lookAtPool_10 rfl (by decide) ?_
  refine zt_istore_n d_M_lookAtPool_11 rfl rfl (by decide) rfl ?_
  exact zt_sub [1, 2, 0] rfl h4
theorem b_M_lookAtPool_12 {Q : Mem → Prop} {M : Mem} {x1 : Int32} {x2 : Int32} (h : ((M.1 0 12) ≤ x2 → (Q M)) ∧ (¬ (M.1 0 12) ≤ x2 → (vp_in ((12 * x1) + x2) 72 ∧ (vp_in x2 12 ∧ (∀ N8, N8 = uI M 9 x2.toNatClampNeg (M.1 5 ((12 * x1) + x2).toNatClampNeg) → (wp zY m_M_lookAtPool (QV Q) 12 [(0, .ref 0), (1, .int x1), (2, .int (x2 + 1))] [] N8)))))) : wp zY m_M_lookAtPool (QV Q) 12 [(0, .ref 0), (1, .int x1), (2, .int x2)] [] M := by
  refine zt_iload_n 2 d_M_lookAtPool_12 rfl rfl rfl ?_
  refine zt_aload_n 0 d_M_lookAtPool_13 rfl rfl rfl ?_
  refine zt_getI d_M_lookAtPool_14 rfl fl_M_108 rfl ?_
  refine zt_icmp_ge d_M_lookAtPool_17 rfl (tgt := 43) (by decide) ⟨fun c1 => ?_, fun c1 => ?_⟩
  · have h2 := h.1 c1
    exact zt_vret rfl d_M_lookAtPool_43 ⟨rfl, h2⟩
  · have h3 := h.2 c1
    refine zt_aload_n 0 d_M_lookAtPool_20 rfl rfl rfl ?_
    refine zt_getR (b := 9) d_M_lookAtPool_21 rfl fl_M_34 rfl rfl ?_
    refine zt_iload_n 2 d_M_lookAtPool_24 rfl rfl rfl ?_
    refine zt_aload_n 0 d_M_lookAtPool_25 rfl rfl rfl ?_
    refine zt_getR (b := 5) d_M_lookAtPool_26 rfl fl_M_22 rfl rfl ?_
    refine zt_bipush (v := 12) d_M_lookAtPool_29 rfl (by decide) ?_
    refine zt_iload_n 1 d_M_lookAtPool_31 rfl rfl rfl ?_
    refine zt_imul d_M_lookAtPool_32 rfl ?_
    refine zt_iload_n 2 d_M_lookAtPool_33 rfl rfl rfl ?_
    refine zt_iadd d_M_lookAtPool_34 rfl ?_
    obtain ⟨g4, h5⟩ := h3
    refine zt_iald d_M_lookAtPool_35 rfl rfl g4 ?_
    obtain ⟨g6, h7⟩ := h5
    refine zt_iast d_M_lookAtPool_36 rfl rfl g6 ?_
    have h7 := h7 _ rfl
    refine zt_iinc (v := (x2 + 1)) 2 d_M_lookAtPool_37 rfl rfl rfl (by decide) rfl ?_
    refine zt_goto d_M_lookAtPool_40 (tgt := 12) (by decide) ?_
    exact zt_sub [1, 2, 0] rfl h7
theorem e_M_runAt {Q : Int32 → Mem → Prop} {M : Mem} {x1 : Int32} {x2 : Int32} {x3 : Int32} (h : wp zY m_M_runAt (QI Q) 6 [(0, .ref 0), (1, .int x1), (2, .int x2), (3, .int x3), (4, .int 0), (5, .int 0)] [] M) : CallI zY m_M_runAt [.ref 0, .int x1, .int x2, .int x3] M Q := by
  refine call_of (by decide) (Nat.le_of_ble_eq_true rfl) ?_
  show wp zY m_M_runAt (QI Q) 0 [(0, .ref 0), (1, .int x1), (2, .int x2), (3, .int x3)] [] M
  refine zt_iconst (v := 0) d_M_runAt_0 rfl (by decide) ?_
  refine zt_istore d_M_runAt_1 rfl (by decide) rfl ?_
  refine zt_iconst (v := 0) d_M_runAt_3 rfl (by decide) ?_
  refine zt_istore d_M_runAt_4 rfl (by decide) rfl ?_
  exact zt_sub [2, 3, 4, 5, 1, 0] rfl h
theorem b_M_runAt_6 {Q : Int32 → Mem → Prop} {M : Mem} {x1 : Int32} {x2 : Int32} {x3 : Int32} {x4 : Int32} {x5 : Int32} (h : ((M.1 0 12) ≤ x5 → (Q (-6) M)) ∧ (¬ (M.1 0 12) ≤ x5 → ((x2 ≤ 0 → ((x2 ≤ 0 → (wp zY m_M_runAt (QI Q) 50 [(0, .ref 0), (1, .int x1), (2, .int x2), (3, .int x3), (4, .int x4), (5, .int x5), (6, .int (((M.1 0 12) - 1) - x5))] [.int ((((M.1 0 12) - 1) - x5) + 1)] M)) ∧ (¬ x2 ≤ 0 → (wp zY m_M_runAt (QI Q) 50 [(0, .ref 0), (1, .int x1), (2, .int x2), (3, .int x3), (4, .int x4), (5, .int x5), (6, .int (((M.1 0 12) - 1) - x5))] [.int ((((M.1 0 12) - 1) - x5) - 1)] M)))) ∧ (¬ x2 ≤ 0 → ((x2 ≤ 0 → (wp zY m_M_runAt (QI Q) 50 [(0, .ref 0), (1, .int x1), (2, .int x2), (3, .int x3), (4, .int x4), (5, .int x5), (6, .int x5)] [.int (x5 + 1)] M)) ∧ (¬ x2 ≤ 0 → (wp zY m_M_runAt (QI Q) 50 [(0, .ref 0), (1, .int x1), (2, .int x2), (3, .int x3), (4, .int x4), (5, .int x5), (6, .int x5)] [.int (x5 - 1)] M))))))) : wp zY m_M_runAt (QI Q) 6 [(0, .ref 0), (1, .int x1), (2, .int x2), (3, .int x3), (4, .int x4), (5, .int x5)] [] M := by
  refine zt_iload 5 d_M_runAt_6 rfl rfl ?_
  refine zt_aload_n 0 d_M_runAt_8 rfl rfl rfl ?_
  refine zt_getI d_M_runAt_9 rfl fl_M_108 rfl ?_
  refine zt_icmp_ge d_M_runAt_12 rfl (tgt := 225) (by decide) ⟨fun c1 => ?_, fun c1 => ?_⟩
  · have h2 := h.1 c1
    refine zt_bipush (v := -6) d_M_runAt_225 rfl (by decide) ?_
    exact zt_iret rfl d_M_runAt_227 ⟨_, rfl, h2⟩
  · have h3 := h.2 c1
    refine zt_iload_n 2 d_M_runAt_15 rfl rfl rfl ?_
    refine zt_if_le d_M_runAt_16 rfl (tgt := 24) (by decide) ⟨fun c4 => ?_, fun c4 => ?_⟩
    · have h5 := h3.1 c4
      refine zt_aload_n 0 d_M_runAt_24 rfl rfl rfl ?_
      refine zt_getI d_M_runAt_25 rfl fl_M_108 rfl ?_
      refine zt_iconst (v := 1) d_M_runAt_28 rfl (by decide) ?_
      refine zt_isub d_M_runAt_29 rfl ?_
      refine zt_iload 5 d_M_runAt_30 rfl rfl ?_
      refine zt_isub d_M_runAt_32 rfl ?_
      refine zt_istore d_M_runAt_33 rfl (by decide) rfl ?_
      refine zt_iload_n 3 d_M_runAt_35 rfl rfl rfl ?_
      refine zt_if_le d_M_runAt_36 rfl (tgt := 46) (by decide) ⟨fun c7 => ?_, fun c7 => ?_⟩
      · have h8 := h5.1 c7
        refine zt_iload 0 d_M_runAt_46 rfl rfl ?_
        refine zt_iconst (v := 1) d_M_runAt_48 rfl (by decide) ?_
        refine zt_iadd d_M_runAt_49 rfl ?_
        exact zt_sub [1, 2, 3, 4, 5, 6, 0] rfl h8
      · have h9 := h5.2 c7
        refine zt_iload 0 d_M_runAt_39 rfl rfl ?_
        refine zt_iconst (v := 1) d_M_runAt_41 rfl (by decide) ?_
        refine zt_isub d_M_runAt_42 rfl ?_
        refine zt_goto d_M_runAt_43 (tgt := 50) (by decide) ?_
        exact zt_sub [1, 2, 3, 4, 5, 6, 0] rfl h9
    · have h6 := h3.2 c4
      refine zt_iload 5 d_M_runAt_19 rfl rfl ?_
      refine zt_goto d_M_runAt_21 (tgt := 33) (by decide) ?_
      refine zt_istore d_M_runAt_33 rfl (by decide) rfl ?_
      refine zt_iload_n 3 d_M_runAt_35 rfl rfl rfl ?_
      refine zt_if_le d_M_runAt_36 rfl (tgt := 46) (by decide) ⟨fun c10 => ?_, fun c10 => ?_⟩
      · have h11 := h6.1 c10
        refine zt_iload 0 d_M_runAt_46 rfl rfl ?_
        refine zt_iconst (v := 1) d_M_runAt_48 rfl (by decide) ?_
        refine zt_iadd d_M_runAt_49 rfl ?_
        exact zt_sub [1, 2, 3, 4, 5, 6, 0] rfl h11
      · have h12 := h6.2 c10
        refine zt_iload 0 d_M_runAt_39 rfl rfl ?_
        refine zt_iconst (v := 1) d_M_runAt_41 rfl (by decide) ?_
        refine zt_isub d_M_runAt_42 rfl ?_
        refine zt_goto d_M_runAt_43 (tgt := 50) (by decide) ?_
        exact zt_sub [1, 2, 3, 4, 5, 6, 0] rfl h12
theorem b_M_runAt_50 {Q : Int32 → Mem → Prop} {M : Mem} {x1 : Int32} {x2 : Int32} {x3 : Int32} {x4 : Int32} {x5 : Int32} {x6 : Int32} {xs0 : Int32} (h : vp_in x6 12 ∧ (CallI zY m_M_classOf [.int (M.1 9 x6.toNatClampNeg)] M (fun r5 M4 => (r5 = x1 → (CallI zY m_M_in [.int xs0, .int 0, .int ((M4.1 0 12) - 1)] M4 (fun r11 M10 => (r11 = 0 → (wp zY m_M_runAt (QI Q) 114 [(0, .ref 0), (1, .int x1), (2, .int x2), (3, .int x3), (5, .int x5), (6, .int x6), (8, .int 1)] [.int 1, .int x4] M10)) ∧ (¬ r11 = 0 → (vp_in xs0 12 ∧ (CallI zY m_M_classOf [.int (M10.1 9 xs0.toNatClampNeg)] M10 (fun r22 M21 => (r22 = x1 → (wp zY m_M_runAt (QI Q) 114 [(0, .ref 0), (1, .int x1), (2, .int x2), (3, .int x3), (5, .int x5), (6, .int x6), (8, .int 0)] [.int 0, .int x4] M21)) ∧ (¬ r22 = x1 → (wp zY m_M_runAt (QI Q) 114 [(0, .ref 0), (1, .int x1), (2, .int x2), (3, .int x3), (5, .int x5), (6, .int x6), (8, .int 1)] [.int 1, .int x4] M21))))))))) ∧ (¬ r5 = x1 → (wp zY m_M_runAt (QI Q) 114 [(0, .ref 0), (1, .int x1), (2, .int x2), (3, .int x3), (5, .int x5), (6, .int x6), (8, .int 0)] [.int 0, .int x4] M4))))) : wp zY m_M_runAt (QI Q) 50 [(0, .ref 0), (1, .int x1), (2, .int x2), (3, .int x3), (4, .int x4), (5, .int x5), (6, .int x6)] [.int xs0] M := by
  refine zt_istore d_M_runAt_50 rfl (by decide) rfl ?_
  refine zt_aload_n 1 d_M_runAt_52 rfl rfl rfl ?_
  refine zt_getR (b := 9) d_M_runAt_53 rfl fl_M_34 rfl rfl ?_
  refine zt_iload 7 d_M_runAt_56 rfl rfl ?_
  obtain ⟨g1, h2⟩ := h
  refine zt_iald d_M_runAt_58 rfl rfl g1 ?_
  refine zt_callSI (as := [.int (M.1 9 x6.toNatClampNeg)]) d_M_runAt_59 rfl ms_M_classOf ⟨Nat.le_of_ble_eq_true rfl, Nat.le_of_ble_eq_true rfl⟩ wd_758 rfl rfl (Nat.le_of_ble_eq_true rfl) h2 (fun r5 M4 h3 => ?_)
  refine zt_iload_n 2 d_M_runAt_62 rfl rfl rfl ?_
  refine zt_icmp_ne d_M_runAt_63 rfl (tgt := 99) (by decide) ⟨fun c6 => ?_, fun c6 => ?_⟩
  · have h7 := h3.1 c6
    refine zt_iload 0 d_M_runAt_66 rfl rfl ?_
    refine zt_iconst (v := 0) d_M_runAt_68 rfl (by decide) ?_
    refine zt_aload_n 1 d_M_runAt_69 rfl rfl rfl ?_
    refine zt_getI d_M_runAt_70 rfl fl_M_108 rfl ?_
    refine zt_iconst (v := 1) d_M_runAt_73 rfl (by decide) ?_
    refine zt_isub d_M_runAt_74 rfl ?_
    refine zt_callSI (as := [.int xs0, .int 0, .int ((M4.1 0 12) - 1)]) d_M_runAt_75 rfl ms_M_in ⟨Nat.le_of_ble_eq_true rfl, Nat.le_of_ble_eq_true rfl⟩ wd_654 rfl rfl (Nat.le_of_ble_eq_true rfl) h7 (fun r11 M10 h9 => ?_)
    refine zt_if_eq d_M_runAt_78 rfl (tgt := 95) (by decide) ⟨fun c12 => ?_, fun c12 => ?_⟩
    · have h13 := h9.1 c12
      refine zt_iconst (v := 1) d_M_runAt_95 rfl (by decide) ?_
      refine zt_goto d_M_runAt_96 (tgt := 100) (by decide) ?_
      refine zt_istore d_M_runAt_100 rfl (by decide) rfl ?_
      refine zt_iload 6 d_M_runAt_102 rfl rfl ?_
      refine zt_iload 0 d_M_runAt_104 rfl rfl ?_
      refine zt_if_eq d_M_runAt_106 rfl (tgt := 113) (by decide) ⟨fun c => absurd c (by decide), fun _ => ?_⟩
      refine zt_iconst (v := 1) d_M_runAt_109 rfl (by decide) ?_
      refine zt_goto d_M_runAt_110 (tgt := 114) (by decide) ?_
      exact zt_sub [2, 3, 4, 5, 7, 8, 0] rfl h13
    · have h14 := h9.2 c12
      refine zt_aload_n 1 d_M_runAt_81 rfl rfl rfl ?_
      refine zt_getR (b := 9) d_M_runAt_82 rfl fl_M_34 rfl rfl ?_
      refine zt_iload 0 d_M_runAt_85 rfl rfl ?_
      obtain ⟨g18, h19⟩ := h14
      refine zt_iald d_M_runAt_87 rfl rfl g18 ?_
      refine zt_callSI (as := [.int (M10.1 9 xs0.toNatClampNeg)]) d_M_runAt_88 rfl ms_M_classOf ⟨Nat.le_of_ble_eq_true rfl, Nat.le_of_ble_eq_true rfl⟩ wd_758 rfl rfl (Nat.le_of_ble_eq_true rfl) h19 (fun r22 M21 h20 => ?_)
      refine zt_iload_n 2 d_M_runAt_91 rfl rfl rfl ?_
      refine zt_icmp_eq d_M_runAt_92 rfl (tgt := 99) (by decide) ⟨fun c23 => ?_, fun c23 => ?_⟩
      · have h24 := h20.1 c23
        refine zt_iconst (v := 0) d_M_runAt_99 rfl (by decide) ?_
        refine zt_istore d_M_runAt_100 rfl (by decide) rfl ?_
        refine zt_iload 6 d_M_runAt_102 rfl rfl ?_
        refine zt_iload 0 d_M_runAt_104 rfl rfl ?_
        refine zt_if_eq d_M_runAt_106 rfl (tgt := 113) (by decide) ⟨fun _ => ?_, fun c => absurd (by decide) c⟩
        refine zt_iconst (v := 0) d_M_runAt_113 rfl (by decide) ?_
        exact zt_sub [2, 3, 4, 5, 7, 8, 0] rfl h24
      · have h25 := h20.2 c23
        refine zt_iconst (v := 1) d_M_runAt_95 rfl (by decide) ?_
        refine zt_goto d_M_runAt_96 (tgt := 100) (by decide) ?_
        refine zt_istore d_M_runAt_100 rfl (by decide) rfl ?_
        refine zt_iload 6 d_M_runAt_102 rfl rfl ?_
        refine zt_iload 0 d_M_runAt_104 rfl rfl ?_
        refine zt_if_eq d_M_runAt_106 rfl (tgt := 113) (by decide) ⟨fun c => absurd c (by decide), fun _ => ?_⟩
        refine zt_iconst (v := 1) d_M_runAt_109 rfl (by decide) ?_
        refine zt_goto d_M_runAt_110 (tgt := 114) (by decide) ?_
        exact zt_sub [2, 3, 4, 5, 7, 8, 0] rfl h25
  · have h8 := h3.2 c6
    refine zt_iconst (v := 0) d_M_runAt_99 rfl (by decide) ?_
    refine zt_istore d_M_runAt_100 rfl (by decide) rfl ?_
    refine zt_iload 6 d_M_runAt_102 rfl rfl ?_
    refine zt_iload 0 d_M_runAt_104 rfl rfl ?_
    refine zt_if_eq d_M_runAt_106 rfl (tgt := 113) (by decide) ⟨fun _ => ?_, fun c => absurd (by decide) c⟩
    refine zt_iconst (v := 0) d_M_runAt_113 rfl (by decide) ?_
    exact zt_sub [2, 3, 4, 5, 7, 8, 0] rfl h8
theorem b_M_runAt_114 {Q : Int32 → Mem → Prop} {M : Mem} {x1 : Int32} {x2 : Int32} {x3 : Int32} {x5 : Int32} {x6 : Int32} {x8 : Int32} {xs0 : Int32} {xs1 : Int32} (h : (x8 = 0 → (wp zY m_M_runAt (QI Q) 6 [(0, .ref 0), (1, .int x1), (2, .int x2), (3, .int x3), (4, .int (xs0 + xs1)), (5, .int (x5 + 1))] [] M)) ∧ (¬ x8 = 0 → ((x2 ≤ 0 → (((xs0 + xs1) = (-x2) → (wp zY m_M_runAt (QI Q) 145 [(0, .ref 0), (1, .int x1), (3, .int x3), (9, .int x6), (10, .int x6)] [] M)) ∧ (¬ (xs0 + xs1) = (-x2) → (wp zY m_M_runAt (QI Q) 6 [(0, .ref 0), (1, .int x1), (2, .int x2), (3, .int x3), (4, .int (xs0 + xs1)), (5, .int (x5 + 1))] [] M)))) ∧ (¬ x2 ≤ 0 → (((xs0 + xs1) = x2 → (wp zY m_M_runAt (QI Q) 145 [(0, .ref 0), (1, .int x1), (3, .int x3), (9, .int x6), (10, .int x6)] [] M)) ∧ (¬ (xs0 + xs1) = x2 → (wp zY m_M_runAt (QI Q) 6 [(0, .ref 0), (1, .int x1), (2, .int x2), (3, .int x3), (4, .int (xs0 + xs1)), (5, .int (x5 + 1))] [] M))))))) : wp zY m_M_runAt (QI Q) 114 [(0, .ref 0), (1, .int x1), (2, .int x2), (3, .int x3), (5, .int x5), (6, .int x6), (8, .int x8)] [.int xs1, .int xs0] M := by
  refine zt_iadd d_M_runAt_114 rfl ?_
  refine zt_istore d_M_runAt_115 rfl (by decide) rfl ?_
  refine zt_iload 7 d_M_runAt_117 rfl rfl ?_
  refine zt_if_eq d_M_runAt_119 rfl (tgt := 219) (by decide) ⟨fun c1 => ?_, fun c1 => ?_⟩
  · have h2 := h.1 c1
    refine zt_iinc (v := (x5 + 1)) 5 d_M_runAt_219 rfl rfl rfl (by decide) rfl ?_
    refine zt_goto d_M_runAt_222 (tgt := 6) (by decide) ?_
    exact zt_sub [2, 3, 4, 5, 1, 0] rfl h2
  · have h3 := h.2 c1
    refine zt_iload 0 d_M_runAt_122 rfl rfl ?_
    refine zt_iload_n 3 d_M_runAt_124 rfl rfl rfl ?_
    refine zt_if_le d_M_runAt_125 rfl (tgt := 132) (by decide) ⟨fun c4 => ?_, fun c4 => ?_⟩
    · have h5 := h3.1 c4
      refine zt_iload_n 3 d_M_runAt_132 rfl rfl rfl ?_
      refine zt_ineg d_M_runAt_133 rfl ?_
      refine zt_icmp_ne d_M_runAt_134 rfl (tgt := 219) (by decide) ⟨fun c7 => ?_, fun c7 => ?_⟩
      · have h8 := h5.1 c7
        refine zt_iload 6 d_M_runAt_137 rfl rfl ?_
        refine zt_istore d_M_runAt_139 rfl (by decide) rfl ?_
        refine zt_iload 7 d_M_runAt_141 rfl rfl ?_
        refine zt_istore d_M_runAt_143 rfl (by decide) rfl ?_
        exact zt_sub [3, 4, 6, 1, 0] rfl h8
      · have h9 := h5.2 c7
        refine zt_iinc (v := (x5 + 1)) 5 d_M_runAt_219 rfl rfl rfl (by decide) rfl ?_
        refine zt_goto d_M_runAt_222 (tgt := 6) (by decide) ?_
        exact zt_sub [2, 3, 4, 5, 1, 0] rfl h9
    · have h6 := h3.2 c4
      refine zt_iload_n 3 d_M_runAt_128 rfl rfl rfl ?_
      refine zt_goto d_M_runAt_129 (tgt := 134) (by decide) ?_
      refine zt_icmp_ne d_M_runAt_134 rfl (tgt := 219) (by decide) ⟨fun c10 => ?_, fun c10 => ?_⟩
      · have h11 := h6.1 c10
        refine zt_iload 6 d_M_runAt_137 rfl rfl ?_
        refine zt_istore d_M_runAt_139 rfl (by decide) rfl ?_
        refine zt_iload 7 d_M_runAt_141 rfl rfl ?_
        refine zt_istore d_M_runAt_143 rfl (by decide) rfl ?_
        exact zt_sub [3, 4, 6, 1, 0] rfl h11
      · have h12 := h6.2 c10
        refine zt_iinc (v := (x5 + 1)) 5 d_M_runAt_219 rfl rfl rfl (by decide) rfl ?_
        refine zt_goto d_M_runAt_222 (tgt := 6) (by decide) ?_
        exact zt_sub [2, 3, 4, 5, 1, 0] rfl h12
theorem b_M_runAt_145 {Q : Int32 → Mem → Prop} {M : Mem} {x1 : Int32} {x3 : Int32} {x9 : Int32} {x10 : Int32} (h : (x9 ≤ 0 → (wp zY m_M_runAt (QI Q) 172 [(0, .ref 0), (1, .int x1), (3, .int x3), (9, .int x9), (10, .int x10)] [] M)) ∧ (¬ x9 ≤ 0 → (vp_in (x9 - 1) 12 ∧ (CallI zY m_M_classOf [.int (M.1 9 (x9 - 1).toNatClampNeg)] M (fun r8 M7 => (r8 = x1 → (wp zY m_M_runAt (QI Q) 145 [(0, .ref 0), (1, .int x1), (3, .int x3), (9, .int (x9 + (-1))), (10, .int x10)] [] M7)) ∧ (¬ r8 = x1 → (wp zY m_M_runAt (QI Q) 172 [(0, .ref 0), (1, .int x1), (3, .int x3), (9, .int x9), (10, .int x10)] [] M7))))))) : wp zY m_M_runAt (QI Q) 145 [(0, .ref 0), (1, .int x1), (3, .int x3), (9, .int x9), (10, .int x10)] [] M := by
  refine zt_iload 3 d_M_runAt_145 rfl rfl ?_
  refine zt_if_le d_M_runAt_147 rfl (tgt := 172) (by decide) ⟨fun c1 => ?_, fun c1 => ?_⟩
  · have h2 := h.1 c1
    exact h2
  · have h3 := h.2 c1
    refine zt_aload_n 0 d_M_runAt_150 rfl rfl rfl ?_
    refine zt_getR (b := 9) d_M_runAt_151 rfl fl_M_34 rfl rfl ?_
    refine zt_iload 3 d_M_runAt_154 rfl rfl ?_
    refine zt_iconst (v := 1) d_M_runAt_156 rfl (by decide) ?_
    refine zt_isub d_M_runAt_157 rfl ?_
    obtain ⟨g4, h5⟩ := h3
    refine zt_iald d_M_runAt_158 rfl rfl g4 ?_
    refine zt_callSI (as := [.int (M.1 9 (x9 - 1).toNatClampNeg)]) d_M_runAt_159 rfl ms_M_classOf ⟨Nat.le_of_ble_eq_true rfl, Nat.le_of_ble_eq_true rfl⟩ wd_758 rfl rfl (Nat.le_of_ble_eq_true rfl) h5 (fun r8 M7 h6 => ?_)
    refine zt_iload_n 1 d_M_runAt_162 rfl rfl rfl ?_
    refine zt_icmp_ne d_M_runAt_163 rfl (tgt := 172) (by decide) ⟨fun c9 => ?_, fun c9 => ?_⟩
    · have h10 := h6.1 c9
      refine zt_iinc (v := (x9 + (-1))) 3 d_M_runAt_166 rfl rfl rfl (by decide) rfl ?_
      refine zt_goto d_M_runAt_169 (tgt := 145) (by decide) ?_
      exact zt_sub [1, 2, 3, 0, 4] rfl h10
    · have h11 := h6.2 c9
      exact h11
theorem b_M_runAt_172 {Q : Int32 → Mem → Prop} {M : Mem} {x1 : Int32} {x3 : Int32} {x9 : Int32} {x10 : Int32} (h : ((M.1 0 12) ≤ (x10 + 1) → ((x3 = 0 → (Q x9 M)) ∧ (¬ x3 = 0 → (Q (x10 + 1) M)))) ∧ (¬ (M.1 0 12) ≤ (x10 + 1) → (vp_in (x10 + 1) 12 ∧ (CallI zY m_M_classOf [.int (M.1 9 (x10 + 1).toNatClampNeg)] M (fun r11 M10 => (r11 = x1 → (wp zY m_M_runAt (QI Q) 172 [(0, .ref 0), (1, .int x1), (3, .int x3), (9, .int x9), (10, .int (x10 + 1))] [] M10)) ∧ (¬ r11 = x1 → ((x3 = 0 → (Q x9 M10)) ∧ (¬ x3 = 0 → (Q (x10 + 1) M10))))))))) : wp zY m_M_runAt (QI Q) 172 [(0, .ref 0), (1, .int x1), (3, .int x3), (9, .int x9), (10, .int x10)] [] M := by
  refine zt_iload 4 d_M_runAt_172 rfl rfl ?_
  refine zt_iconst (v := 1) d_M_runAt_174 rfl (by decide) ?_
  refine zt_iadd d_M_runAt_175 rfl ?_
  refine zt_aload_n 0 d_M_runAt_176 rfl rfl rfl ?_
  refine zt_getI d_M_runAt_177 rfl fl_M_108 rfl ?_
  refine zt_icmp_ge d_M_runAt_180 rfl (tgt := 205) (by decide) ⟨fun c1 => ?_, fun c1 => ?_⟩
  · have h2 := h.1 c1
    refine zt_iload_n 2 d_M_runAt_205 rfl rfl rfl ?_
    refine zt_if_eq d_M_runAt_206 rfl (tgt := 216) (by decide) ⟨fun c4 => ?_, fun c4 => ?_⟩
    · have h5 := h2.1 c4
      refine zt_iload 3 d_M_runAt_216 rfl rfl ?_
      exact zt_iret rfl d_M_runAt_218 ⟨_, rfl, h5⟩
    · have h6 := h2.2 c4
      refine zt_iload 4 d_M_runAt_209 rfl rfl ?_
      refine zt_iconst (v := 1) d_M_runAt_211 rfl (by decide) ?_
      refine zt_iadd d_M_runAt_212 rfl ?_
      refine zt_goto d_M_runAt_213 (tgt := 218) (by decide) ?_
      exact zt_iret rfl d_M_runAt_218 ⟨_, rfl, h6⟩
  · have h3 := h.2 c1
    refine zt_aload_n 0 d_M_runAt_183 rfl rfl rfl ?_
    refine zt_getR (b := 9) d_M_runAt_184 rfl fl_M_34 rfl rfl ?_
    refine zt_iload 4 d_M_runAt_187 rfl rfl ?_
    refine zt_iconst (v := 1) d_M_runAt_189 rfl (by decide) ?_
    refine zt_iadd d_M_runAt_190 rfl ?_
    obtain ⟨g7, h8⟩ := h3
    refine zt_iald d_M_runAt_191 rfl rfl g7 ?_
    refine zt_callSI (as := [.int (M.1 9 (x10 + 1).toNatClampNeg)]) d_M_runAt_192 rfl ms_M_classOf ⟨Nat.le_of_ble_eq_true rfl, Nat.le_of_ble_eq_true rfl⟩ wd_758 rfl rfl (Nat.le_of_ble_eq_true rfl) h8 (fun r11 M10 h9 => ?_)
    refine zt_iload_n 1 d_M_runAt_195 rfl rfl rfl ?_
    refine zt_icmp_ne d_M_runAt_196 rfl (tgt := 205) (by decide) ⟨fun c12 => ?_, fun c12 => ?_⟩
    · have h13 := h9.1 c12
      refine zt_iinc (v := (x10 + 1)) 4 d_M_runAt_199 rfl rfl rfl (by decide) rfl ?_
      refine zt_goto d_M_runAt_202 (tgt := 172) (by decide) ?_
      exact zt_sub [1, 2, 3, 4, 0] rfl h13
    · have h14 := h9.2 c12
      refine zt_iload_n 2 d_M_runAt_205 rfl rfl rfl ?_
      refine zt_if_eq d_M_runAt_206 rfl (tgt := 216) (by decide) ⟨fun c15 => ?_, fun c15 => ?_⟩
      · have h16 := h14.1 c15
        refine zt_iload 3 d_M_runAt_216 rfl rfl ?_
        exact zt_iret rfl d_M_runAt_218 ⟨_, rfl, h16⟩
      · have h17 := h14.2 c15
        refine zt_iload 4 d_M_runAt_209 rfl rfl ?_
        refine zt_iconst (v := 1) d_M_runAt_211 rfl (by decide) ?_
        refine zt_iadd d_M_runAt_212 rfl ?_
        refine zt_goto d_M_runAt_213 (tgt := 218) (by decide) ?_
        exact zt_iret rfl d_M_runAt_218 ⟨_, rfl, h17⟩
theorem e_M_placeOf {Q : Int32 → Mem → Prop} {M : Mem} {x1 : Int32} (h : (20 ≤ x1 → ((100 ≤ x1 → ((x1 < 200 → (CallI zY m_M_runAt [.ref 0, .int ((x1 - x1 / 100 * 100) / 20), .int ((x1 - x1 / 20 * 20) - 3), .int 0] M (fun r12 M11 => Q r12 M11))) ∧ (¬ x1 < 200 → (CallI zY m_M_runAt [.ref 0, .int ((x1 - x1 / 100 * 100) / 20), .int ((x1 - x1 / 20 * 20) - 3), .int 1] M (fun r15 M14 => Q r15 M14))))) ∧ (¬ 100 ≤ x1 → (((M.1 0 12) < (x1 - 20) → (Q (-6) M)) ∧ (¬ (M.1 0 12) < (x1 - 20) → (Q (((M.1 0 12) - x1) + 20) M)))))) ∧ (¬ 20 ≤ x1 → (((M.1 0 12) < x1 → (Q (-6) M)) ∧ (¬ (M.1 0 12) < x1 → (Q x1 M))))) : CallI zY m_M_placeOf [.ref 0, .int x1] M Q := by
  refine call_of (by decide) (Nat.le_of_ble_eq_true rfl) ?_
  show wp zY m_M_placeOf (QI Q) 0 [(0, .ref 0), (1, .int x1)] [] M
  refine zt_iload_n 1 d_M_placeOf_0 rfl rfl rfl ?_
  refine zt_bipush (v := 20) d_M_placeOf_1 rfl (by decide) ?_
  refine zt_icmp_ge d_M_placeOf_3 rfl (tgt := 21) (by decide) ⟨fun c1 => ?_, fun c1 => ?_⟩
  · have h2 := h.1 c1
    refine zt_iload_n 1 d_M_placeOf_21 rfl rfl rfl ?_
    refine zt_bipush (v := 100) d_M_placeOf_22 rfl (by decide) ?_
    refine zt_icmp_ge d_M_placeOf_24 rfl (tgt := 53) (by decide) ⟨fun c4 => ?_, fun c4 => ?_⟩
    · have h5 := h2.1 c4
      refine zt_aload_n 0 d_M_placeOf_53 rfl rfl rfl ?_
      refine zt_iload_n 1 d_M_placeOf_54 rfl rfl rfl ?_
      refine zt_bipush (v := 100) d_M_placeOf_55 rfl (by decide) ?_
      refine zt_irem d_M_placeOf_57 rfl (by decide) ?_
      refine zt_bipush (v := 20) d_M_placeOf_58 rfl (by decide) ?_
      refine zt_idiv d_M_placeOf_60 rfl (by decide) ?_
      refine zt_iload_n 1 d_M_placeOf_61 rfl rfl rfl ?_
      refine zt_bipush (v := 20) d_M_placeOf_62 rfl (by decide) ?_
      refine zt_irem d_M_placeOf_64 rfl (by decide) ?_
      refine zt_iconst (v := 3) d_M_placeOf_65 rfl (by decide) ?_
      refine zt_isub d_M_placeOf_66 rfl ?_
      refine zt_iload_n 1 d_M_placeOf_67 rfl rfl rfl ?_
      refine zt_sipush (v := 200) d_M_placeOf_68 rfl (by decide) ?_
      refine zt_icmp_lt d_M_placeOf_71 rfl (tgt := 78) (by decide) ⟨fun c7 => ?_, fun c7 => ?_⟩
      · have h8 := h5.1 c7
        refine zt_iconst (v := 0) d_M_placeOf_78 rfl (by decide) ?_
        refine zt_callVI (as := [.int ((x1 - x1 / 100 * 100) / 20), .int ((x1 - x1 / 20 * 20) - 3), .int 0]) d_M_placeOf_79 rfl mi_M_runAt ⟨Nat.le_of_ble_eq_true rfl, Nat.le_of_ble_eq_true rfl⟩ wd_797 rfl rfl (Nat.le_of_ble_eq_true rfl) rfl h8 (fun r12 M11 h10 => ?_)
        exact zt_iret rfl d_M_placeOf_82 ⟨_, rfl, h10⟩
      · have h9 := h5.2 c7
        refine zt_iconst (v := 1) d_M_placeOf_74 rfl (by decide) ?_
        refine zt_goto d_M_placeOf_75 (tgt := 79) (by decide) ?_
        refine zt_callVI (as := [.int ((x1 - x1 / 100 * 100) / 20), .int ((x1 - x1 / 20 * 20) - 3), .int 1]) d_M_placeOf_79 rfl mi_M_runAt ⟨Nat.le_of_ble_eq_true rfl, Nat.le_of_ble_eq_true rfl⟩ wd_797 rfl rfl (Nat.le_of_ble_eq_true rfl) rfl h9 (fun r15 M14 h13 => ?_)
        exact zt_iret rfl d_M_placeOf_82 ⟨_, rfl, h13⟩
    · have h6 := h2.2 c4
      refine zt_iload_n 1 d_M_placeOf_27 rfl rfl rfl ?_
      refine zt_bipush (v := 20) d_M_placeOf_28 rfl (by decide) ?_
      refine zt_isub d_M_placeOf_30 rfl ?_
      refine zt_aload_n 0 d_M_placeOf_31 rfl rfl rfl ?_
      refine zt_getI d_M_placeOf_32 rfl fl_M_108 rfl ?_
      refine zt_icmp_gt d_M_placeOf_35 rfl (tgt := 50) (by decide) ⟨fun c16 => ?_, fun c16 => ?_⟩
      · have h17 := h6.1 c16
        refine zt_bipush (v := -6) d_M_placeOf_50 rfl (by decide) ?_
        exact zt_iret rfl d_M_placeOf_52 ⟨_, rfl, h17⟩
      · have h18 := h6.2 c16
        refine zt_aload_n 0 d_M_placeOf_38 rfl rfl rfl ?_
        refine zt_getI d_M_placeOf_39 rfl fl_M_108 rfl ?_
        refine zt_iload_n 1 d_M_placeOf_42 rfl rfl rfl ?_
        refine zt_isub d_M_placeOf_43 rfl ?_
        refine zt_bipush (v := 20) d_M_placeOf_44 rfl (by decide) ?_
        refine zt_iadd d_M_placeOf_46 rfl ?_
        refine zt_goto d_M_placeOf_47 (tgt := 52) (by decide) ?_
        exact zt_iret rfl d_M_placeOf_52 ⟨_, rfl, h18⟩
  · have h3 := h.2 c1
    refine zt_iload_n 1 d_M_placeOf_6 rfl rfl rfl ?_
    refine zt_aload_n 0 d_M_placeOf_7 rfl rfl rfl ?_
    refine zt_getI d_M_placeOf_8 rfl fl_M_108 rfl ?_
    refine zt_icmp_gt d_M_placeOf_11 rfl (tgt := 18) (by decide) ⟨fun c19 => ?_, fun c19 => ?_⟩
    · have h20 := h3.1 c19
      refine zt_bipush (v := -6) d_M_placeOf_18 rfl (by decide) ?_
      exact zt_iret rfl d_M_placeOf_20 ⟨_, rfl, h20⟩
    · have h21 := h3.2 c19
      refine zt_iload_n 1 d_M_placeOf_14 rfl rfl rfl ?_
      refine zt_goto d_M_placeOf_15 (tgt := 20) (by decide) ?_
      exact zt_iret rfl d_M_placeOf_20 ⟨_, rfl, h21⟩
theorem e_M_place {Q : Int32 → Mem → Prop} {M : Mem} {x1 : Int32} (h : CallI zY m_M_lineFault [.ref 0] M (fun r3 M2 => (r3 < 0 → (CallI zY m_M_isCode [.int x1] M2 (fun r9 M8 => (r9 = 0 → (Q (-2) M8)) ∧ (¬ r9 = 0 → (CallV zY m_M_lookAtPad [.ref 0] M8 (fun M14 => CallI zY m_M_placeOf [.ref 0, .int x1] M14 (fun r18 M17 => Q r18 M17))))))) ∧ (¬ r3 < 0 → (Q (-5) M2)))) : CallI zY m_M_place [.ref 0, .int x1] M Q := by
  refine call_of (by decide) (Nat.le_of_ble_eq_true rfl) ?_
  show wp zY m_M_place (QI Q) 0 [(0, .ref 0), (1, .int x1)] [] M
  refine zt_aload_n 0 d_M_place_0 rfl rfl rfl ?_
  refine zt_callVI (as := []) d_M_place_1 rfl mi_M_lineFault ⟨Nat.le_of_ble_eq_true rfl, Nat.le_of_ble_eq_true rfl⟩ wd_761 rfl rfl (Nat.le_of_ble_eq_true rfl) rfl h (fun r3 M2 h1 => ?_)
  refine zt_if_lt d_M_place_4 rfl (tgt := 10) (by decide) ⟨fun c4 => ?_, fun c4 => ?_⟩
  · have h5 := h1.1 c4
    refine zt_iload_n 1 d_M_place_10 rfl rfl rfl ?_
    refine zt_callSI (as := [.int x1]) d_M_place_11 rfl ms_M_isCode ⟨Nat.le_of_ble_eq_true rfl, Nat.le_of_ble_eq_true rfl⟩ wd_651 rfl rfl (Nat.le_of_ble_eq_true rfl) h5 (fun r9 M8 h7 => ?_)
    refine zt_if_ne d_M_place_14 rfl (tgt := 20) (by decide) ⟨fun c10 => ?_, fun c10 => ?_⟩
    · have h11 := h7.1 c10
      refine zt_bipush (v := -2) d_M_place_17 rfl (by decide) ?_
      exact zt_iret rfl d_M_place_19 ⟨_, rfl, h11⟩
    · have h12 := h7.2 c10
      refine zt_aload_n 0 d_M_place_20 rfl rfl rfl ?_
      refine zt_callVV (as := []) d_M_place_21 rfl mi_M_lookAtPad ⟨Nat.le_of_ble_eq_true rfl, Nat.le_of_ble_eq_true rfl⟩ wd_789 rfl rfl (Nat.le_of_ble_eq_true rfl) rfl h12 (fun M14 h13 => ?_)
      refine zt_aload_n 0 d_M_place_24 rfl rfl rfl ?_
      refine zt_iload_n 1 d_M_place_25 rfl rfl rfl ?_
      refine zt_callVI (as := [.int x1]) d_M_place_26 rfl mi_M_placeOf ⟨Nat.le_of_ble_eq_true rfl, Nat.le_of_ble_eq_true rfl⟩ wd_793 rfl rfl (Nat.le_of_ble_eq_true rfl) rfl h13 (fun r18 M17 h16 => ?_)
      exact zt_iret rfl d_M_place_29 ⟨_, rfl, h16⟩
  · have h6 := h1.2 c4
    refine zt_bipush (v := -5) d_M_place_7 rfl (by decide) ?_
    exact zt_iret rfl d_M_place_9 ⟨_, rfl, h6⟩
theorem e_M_power {Q : Int32 → Mem → Prop} {M : Mem} {x0 : Int32} (h : (x0 = 0 → (Q 1 M)) ∧ (¬ x0 = 0 → ((x0 = 1 → (Q 6 M)) ∧ (¬ x0 = 1 → ((x0 = 2 → (Q 36 M)) ∧ (¬ x0 = 2 → (Q 216 M))))))) : CallI zY m_M_power [.int x0] M Q := by
  refine call_of (by decide) (Nat.le_of_ble_eq_true rfl) ?_
  show wp zY m_M_power (QI Q) 0 [(0, .int x0)] [] M
  refine zt_iload_n 0 d_M_power_0 rfl rfl rfl ?_
  refine zt_if_ne d_M_power_1 rfl (tgt := 8) (by decide) ⟨fun c1 => ?_, fun c1 => ?_⟩
  · have h2 := h.1 c1
    refine zt_iconst (v := 1) d_M_power_4 rfl (by decide) ?_
    refine zt_goto d_M_power_5 (tgt := 31) (by decide) ?_
    exact zt_iret rfl d_M_power_31 ⟨_, rfl, h2⟩
  · have h3 := h.2 c1
    refine zt_iload_n 0 d_M_power_8 rfl rfl rfl ?_
    refine zt_iconst (v := 1) d_M_power_9 rfl (by decide) ?_
    refine zt_icmp_ne d_M_power_10 rfl (tgt := 18) (by decide) ⟨fun c4 => ?_, fun c4 => ?_⟩
    · have h5 := h3.1 c4
      refine zt_bipush (v := 6) d_M_power_13 rfl (by decide) ?_
      refine zt_goto d_M_power_15 (tgt := 31) (by decide) ?_
      exact zt_iret rfl d_M_power_31 ⟨_, rfl, h5⟩
    · have h6 := h3.2 c4
      refine zt_iload_n 0 d_M_power_18 rfl rfl rfl ?_
      refine zt_iconst (v := 2) d_M_power_19 rfl (by decide) ?_
      refine zt_icmp_ne d_M_power_20 rfl (tgt := 28) (by decide) ⟨fun c7 => ?_, fun c7 => ?_⟩
      · have h8 := h6.1 c7
        refine zt_bipush (v := 36) d_M_power_23 rfl (by decide) ?_
        refine zt_goto d_M_power_25 (tgt := 31) (by decide) ?_
        exact zt_iret rfl d_M_power_31 ⟨_, rfl, h8⟩
      · have h9 := h6.2 c7
        refine zt_sipush (v := 216) d_M_power_28 rfl (by decide) ?_
        exact zt_iret rfl d_M_power_31 ⟨_, rfl, h9⟩
theorem e_M_at {Q : Int32 → Mem → Prop} {M : Mem} {x0 : Int32} {x1 : Int32} (h : CallI zY m_M_power [.int x1] M (fun r3 M2 => ¬ r3 = 0 ∧ (Q ((x0 / r3) - (x0 / r3) / 6 * 6) M2))) : CallI zY m_M_at [.int x0, .int x1] M Q := by
  refine call_of (by decide) (Nat.le_of_ble_eq_true rfl) ?_
  show wp zY m_M_at (QI Q) 0 [(0, .int x0), (1, .int x1)] [] M
  refine zt_iload_n 0 d_M_at_0 rfl rfl rfl ?_
  refine zt_iload_n 1 d_M_at_1 rfl rfl rfl ?_
  refine zt_callSI (as := [.int x1]) d_M_at_2 rfl ms_M_power ⟨Nat.le_of_ble_eq_true rfl, Nat.le_of_ble_eq_true rfl⟩ wd_822 rfl rfl (Nat.le_of_ble_eq_true rfl) h (fun r3 M2 h1 => ?_)
  obtain ⟨g4, h5⟩ := h1
  refine zt_idiv d_M_at_5 rfl g4 ?_
  refine zt_bipush (v := 6) d_M_at_6 rfl (by decide) ?_
  refine zt_irem d_M_at_8 rfl (by decide) ?_
  exact zt_iret rfl d_M_at_9 ⟨_, rfl, h5⟩
theorem e_M_addWork {Q : Mem → Prop} {M : Mem}  (h : wp zY m_M_addWork (QV Q) 2 [(0, .ref 0), (1, .int 0)] [] M) : CallV zY m_M_addWork [.ref 0] M Q := by
  refine call_of (by decide) (Nat.le_of_ble_eq_true rfl) ?_
  show wp zY m_M_addWork (QV Q) 0 [(0, .ref 0)] [] M
  refine zt_iconst (v := 0) d_M_addWork_0 rfl (by decide) ?_
  refine zt_istore_n d_M_addWork_1 rfl rfl (by decide) rfl ?_
  exact zt_sub [1, 0] rfl h
theorem b_M_addWork_2 {Q : Mem → Prop} {M : Mem} {x1 : Int32} (h : ((M.1 0 12) ≤ x1 → (wp zY m_M_addWork (QV Q) 38 [(0, .ref 0), (1, .int 0)] [] M)) ∧ (¬ (M.1 0 12) ≤ x1 → (vp_in x1 12 ∧ (vp_in ((12 * (M.1 0 17)) + x1) 48 ∧ (∀ N8, N8 = uI M 10 ((12 * (M.1 0 17)) + x1).toNatClampNeg (M.1 9 x1.toNatClampNeg) → (wp zY m_M_addWork (QV Q) 2 [(0, .ref 0), (1, .int (x1 + 1))] [] N8)))))) : wp zY m_M_addWork (QV Q) 2 [(0, .ref 0), (1, .int x1)] [] M := by
  refine zt_iload_n 1 d_M_addWork_2 rfl rfl rfl ?_
  refine zt_aload_n 0 d_M_addWork_3 rfl rfl rfl ?_
  refine zt_getI d_M_addWork_4 rfl fl_M_108 rfl ?_
  refine zt_icmp_ge d_M_addWork_7 rfl (tgt := 36) (by decide) ⟨fun c1 => ?_, fun c1 => ?_⟩
  · have h2 := h.1 c1
    refine zt_iconst (v := 0) d_M_addWork_36 rfl (by decide) ?_
    refine zt_istore_n d_M_addWork_37 rfl rfl (by decide) rfl ?_
    exact zt_sub [1, 0] rfl h2
  · have h3 := h.2 c1
    refine zt_aload_n 0 d_M_addWork_10 rfl rfl rfl ?_
    refine zt_getR (b := 10) d_M_addWork_11 rfl fl_M_37 rfl rfl ?_
    refine zt_bipush (v := 12) d_M_addWork_14 rfl (by decide) ?_
    refine zt_aload_n 0 d_M_addWork_16 rfl rfl rfl ?_
    refine zt_getI d_M_addWork_17 rfl fl_M_124 rfl ?_
    refine zt_imul d_M_addWork_20 rfl ?_
    refine zt_iload_n 1 d_M_addWork_21 rfl rfl rfl ?_
    refine zt_iadd d_M_addWork_22 rfl ?_
    refine zt_aload_n 0 d_M_addWork_23 rfl rfl rfl ?_
    refine zt_getR (b := 9) d_M_addWork_24 rfl fl_M_34 rfl rfl ?_
    refine zt_iload_n 1 d_M_addWork_27 rfl rfl rfl ?_
    obtain ⟨g4, h5⟩ := h3
    refine zt_iald d_M_addWork_28 rfl rfl g4 ?_
    obtain ⟨g6, h7⟩ := h5
    refine zt_iast d_M_addWork_29 rfl rfl g6 ?_
    have h7 := h7 _ rfl
    refine zt_iinc (v := (x1 + 1)) 1 d_M_addWork_30 rfl rfl rfl (by decide) rfl ?_
    refine zt_goto d_M_addWork_33 (tgt := 2) (by decide) ?_
    exact zt_sub [1, 0] rfl h7
theorem b_M_addWork_38 {Q : Mem → Prop} {M : Mem} {x1 : Int32} (h : (62 ≤ x1 → (∀ N4, N4 = uI M 0 17 ((M.1 0 17) + 1) → (Q N4))) ∧ (¬ 62 ≤ x1 → (vp_in x1 62 ∧ (CallI zY m_M_placeOf [.ref 0, .int (M.1 8 x1.toNatClampNeg)] M (fun r10 M9 => vp_in ((62 * (M.1 0 17)) + x1) 248 ∧ (∀ N13, N13 = uI M9 13 ((62 * (M.1 0 17)) + x1).toNatClampNeg r10 → (wp zY m_M_addWork (QV Q) 38 [(0, .ref 0), (1, .int (x1 + 1))] [] N13))))))) : wp zY m_M_addWork (QV Q) 38 [(0, .ref 0), (1, .int x1)] [] M := by
  refine zt_iload_n 1 d_M_addWork_38 rfl rfl rfl ?_
  refine zt_bipush (v := 62) d_M_addWork_39 rfl (by decide) ?_
  refine zt_icmp_ge d_M_addWork_41 rfl (tgt := 74) (by decide) ⟨fun c1 => ?_, fun c1 => ?_⟩
  · have h2 := h.1 c1
    refine zt_aload_n 0 d_M_addWork_74 rfl rfl rfl ?_
    refine zt_dup d_M_addWork_75 rfl rfl ?_
    refine zt_getI d_M_addWork_76 rfl fl_M_124 rfl ?_
    refine zt_iconst (v := 1) d_M_addWork_79 rfl (by decide) ?_
    refine zt_iadd d_M_addWork_80 rfl ?_
    refine zt_putI d_M_addWork_81 rfl fl_M_124 rfl ?_
    have h5 := h2 _ rfl
    exact zt_vret rfl d_M_addWork_84 ⟨rfl, h5⟩
  · have h3 := h.2 c1
    refine zt_aload_n 0 d_M_addWork_44 rfl rfl rfl ?_
    refine zt_getR (b := 13) d_M_addWork_45 rfl fl_M_46 rfl rfl ?_
    refine zt_bipush (v := 62) d_M_addWork_48 rfl (by decide) ?_
    refine zt_aload_n 0 d_M_addWork_50 rfl rfl rfl ?_
    refine zt_getI d_M_addWork_51 rfl fl_M_124 rfl ?_
    refine zt_imul d_M_addWork_54 rfl ?_
    refine zt_iload_n 1 d_M_addWork_55 rfl rfl rfl ?_
    refine zt_iadd d_M_addWork_56 rfl ?_
    refine zt_aload_n 0 d_M_addWork_57 rfl rfl rfl ?_
    refine zt_aload_n 0 d_M_addWork_58 rfl rfl rfl ?_
    refine zt_getR (b := 8) d_M_addWork_59 rfl fl_M_31 rfl rfl ?_
    refine zt_iload_n 1 d_M_addWork_62 rfl rfl rfl ?_
    obtain ⟨g6, h7⟩ := h3
    refine zt_iald d_M_addWork_63 rfl rfl g6 ?_
    refine zt_callVI (as := [.int (M.1 8 x1.toNatClampNeg)]) d_M_addWork_64 rfl mi_M_placeOf ⟨Nat.le_of_ble_eq_true rfl, Nat.le_of_ble_eq_true rfl⟩ wd_793 rfl rfl (Nat.le_of_ble_eq_true rfl) rfl h7 (fun r10 M9 h8 => ?_)
    obtain ⟨g11, h12⟩ := h8
    refine zt_iast d_M_addWork_67 rfl rfl g11 ?_
    have h12 := h12 _ rfl
    refine zt_iinc (v := (x1 + 1)) 1 d_M_addWork_68 rfl rfl rfl (by decide) rfl ?_
    refine zt_goto d_M_addWork_71 (tgt := 38) (by decide) ?_
    exact zt_sub [1, 0] rfl h12
theorem e_M_layExamples {Q : Mem → Prop} {M : Mem}  (h : ∀ N1, N1 = uI M 0 17 0 → (wp zY m_M_layExamples (QV Q) 7 [(0, .ref 0), (1, .int 0)] [] N1)) : CallV zY m_M_layExamples [.ref 0] M Q := by
  refine call_of (by decide) (Nat.le_of_ble_eq_true rfl) ?_
  show wp zY m_M_layExamples (QV Q) 0 [(0, .ref 0)] [] M
  refine zt_aload_n 0 d_M_layExamples_0 rfl rfl rfl ?_
  refine zt_iconst (v := 0) d_M_layExamples_1 rfl (by decide) ?_
  refine zt_putI d_M_layExamples_2 rfl fl_M_124 rfl ?_
  have h2 := h _ rfl
  refine zt_iconst (v := 0) d_M_layExamples_5 rfl (by decide) ?_
  refine zt_istore_n d_M_layExamples_6 rfl rfl (by decide) rfl ?_
  exact zt_sub [1, 0] rfl h2
theorem b_M_layExamples_7 {Q : Mem → Prop} {M : Mem} {x1 : Int32} (h : ((M.1 0 4) ≤ x1 → (Q M)) ∧ (¬ (M.1 0 4) ≤ x1 → (vp_in x1 3 ∧ (∀ N6, N6 = uI M 0 12 (M.1 2 x1.toNatClampNeg) → (wp zY m_M_layExamples (QV Q) 27 [(0, .ref 0), (1, .int x1), (2, .int 0)] [] N6))))) : wp zY m_M_layExamples (QV Q) 7 [(0, .ref 0), (1, .int x1)] [] M := by
  refine zt_iload_n 1 d_M_layExamples_7 rfl rfl rfl ?_
  refine zt_aload_n 0 d_M_layExamples_8 rfl rfl rfl ?_
  refine zt_getI d_M_layExamples_9 rfl fl_M_98 rfl ?_
  refine zt_icmp_ge d_M_layExamples_12 rfl (tgt := 118) (by decide) ⟨fun c1 => ?_, fun c1 => ?_⟩
  · have h2 := h.1 c1
    exact zt_vret rfl d_M_layExamples_118 ⟨rfl, h2⟩
  · have h3 := h.2 c1
    refine zt_aload_n 0 d_M_layExamples_15 rfl rfl rfl ?_
    refine zt_aload_n 0 d_M_layExamples_16 rfl rfl rfl ?_
    refine zt_getR (b := 2) d_M_layExamples_17 rfl fl_M_13 rfl rfl ?_
    refine zt_iload_n 1 d_M_layExamples_20 rfl rfl rfl ?_
    obtain ⟨g4, h5⟩ := h3
    refine zt_iald d_M_layExamples_21 rfl rfl g4 ?_
    refine zt_putI d_M_layExamples_22 rfl fl_M_108 rfl ?_
    have h7 := h5 _ rfl
    refine zt_iconst (v := 0) d_M_layExamples_25 rfl (by decide) ?_
    refine zt_istore_n d_M_layExamples_26 rfl rfl (by decide) rfl ?_
    exact zt_sub [1, 2, 0] rfl h7
theorem b_M_layExamples_27 {Q : Mem → Prop} {M : Mem} {x1 : Int32} {x2 : Int32} (h : ((M.1 0 12) ≤ x2 → (wp zY m_M_layExamples (QV Q) 60 [(0, .ref 0), (1, .int x1), (2, .int 0)] [] M)) ∧ (¬ (M.1 0 12) ≤ x2 → (vp_in ((12 * x1) + x2) 36 ∧ (vp_in x2 12 ∧ (∀ N8, N8 = uI M 9 x2.toNatClampNeg (M.1 1 ((12 * x1) + x2).toNatClampNeg) → (wp zY m_M_layExamples (QV Q) 27 [(0, .ref 0), (1, .int x1), (2, .int (x2 + 1))] [] N8)))))) : wp zY m_M_layExamples (QV Q) 27 [(0, .ref 0), (1, .int x1), (2, .int x2)] [] M := by
  refine zt_iload_n 2 d_M_layExamples_27 rfl rfl rfl ?_
  refine zt_aload_n 0 d_M_layExamples_28 rfl rfl rfl ?_
  refine zt_getI d_M_layExamples_29 rfl fl_M_108 rfl ?_
  refine zt_icmp_ge d_M_layExamples_32 rfl (tgt := 58) (by decide) ⟨fun c1 => ?_, fun c1 => ?_⟩
  · have h2 := h.1 c1
    refine zt_iconst (v := 0) d_M_layExamples_58 rfl (by decide) ?_
    refine zt_istore_n d_M_layExamples_59 rfl rfl (by decide) rfl ?_
    exact zt_sub [1, 2, 0] rfl h2
  · have h3 := h.2 c1
    refine zt_aload_n 0 d_M_layExamples_35 rfl rfl rfl ?_
    refine zt_getR (b := 9) d_M_layExamples_36 rfl fl_M_34 rfl rfl ?_
    refine zt_iload_n 2 d_M_layExamples_39 rfl rfl rfl ?_
    refine zt_aload_n 0 d_M_layExamples_40 rfl rfl rfl ?_
    refine zt_getR (b := 1) d_M_layExamples_41 rfl fl_M_7 rfl rfl ?_
    refine zt_bipush (v := 12) d_M_layExamples_44 rfl (by decide) ?_
    refine zt_iload_n 1 d_M_layExamples_46 rfl rfl rfl ?_
    refine zt_imul d_M_layExamples_47 rfl ?_
    refine zt_iload_n 2 d_M_layExamples_48 rfl rfl rfl ?_
    refine zt_iadd d_M_layExamples_49 rfl ?_
    obtain ⟨g4, h5⟩ := h3
    refine zt_iald d_M_layExamples_50 rfl rfl g4 ?_
    obtain ⟨g6, h7⟩ := h5
    refine zt_iast d_M_layExamples_51 rfl rfl g6 ?_
    have h7 := h7 _ rfl
    refine zt_iinc (v := (x2 + 1)) 2 d_M_layExamples_52 rfl rfl rfl (by decide) rfl ?_
    refine zt_goto d_M_layExamples_55 (tgt := 27) (by decide) ?_
    exact zt_sub [1, 2, 0] rfl h7
theorem b_M_layExamples_60 {Q : Mem → Prop} {M : Mem} {x1 : Int32} {x2 : Int32} (h : vp_in x1 3 ∧ (((M.1 4 x1.toNatClampNeg) ≤ x2 → (vp_in x1 3 ∧ (vp_in x1 4 ∧ (∀ N10, N10 = uI M 12 x1.toNatClampNeg (M.1 4 x1.toNatClampNeg) → (CallV zY m_M_addWork [.ref 0] N10 (fun M12 => wp zY m_M_layExamples (QV Q) 7 [(0, .ref 0), (1, .int (x1 + 1))] [] M12)))))) ∧ (¬ (M.1 4 x1.toNatClampNeg) ≤ x2 → (vp_in ((5 * x1) + x2) 15 ∧ (vp_in ((5 * x1) + x2) 20 ∧ (∀ N18, N18 = uI M 11 ((5 * x1) + x2).toNatClampNeg (M.1 3 ((5 * x1) + x2).toNatClampNeg) → (wp zY m_M_layExamples (QV Q) 60 [(0, .ref 0), (1, .int x1), (2, .int (x2 + 1))] [] N18))))))) : wp zY m_M_layExamples (QV Q) 60 [(0, .ref 0), (1, .int x1), (2, .int x2)] [] M := by
  refine zt_iload_n 2 d_M_layExamples_60 rfl rfl rfl ?_
  refine zt_aload_n 0 d_M_layExamples_61 rfl rfl rfl ?_
  refine zt_getR (b := 4) d_M_layExamples_62 rfl fl_M_19 rfl rfl ?_
  refine zt_iload_n 1 d_M_layExamples_65 rfl rfl rfl ?_
  obtain ⟨g1, h2⟩ := h
  refine zt_iald d_M_layExamples_66 rfl rfl g1 ?_
  refine zt_icmp_ge d_M_layExamples_67 rfl (tgt := 96) (by decide) ⟨fun c3 => ?_, fun c3 => ?_⟩
  · have h4 := h2.1 c3
    refine zt_aload_n 0 d_M_layExamples_96 rfl rfl rfl ?_
    refine zt_getR (b := 12) d_M_layExamples_97 rfl fl_M_43 rfl rfl ?_
    refine zt_iload_n 1 d_M_layExamples_100 rfl rfl rfl ?_
    refine zt_aload_n 0 d_M_layExamples_101 rfl rfl rfl ?_
    refine zt_getR (b := 4) d_M_layExamples_102 rfl fl_M_19 rfl rfl ?_
    refine zt_iload_n 1 d_M_layExamples_105 rfl rfl rfl ?_
    obtain ⟨g6, h7⟩ := h4
    refine zt_iald d_M_layExamples_106 rfl rfl g6 ?_
    obtain ⟨g8, h9⟩ := h7
    refine zt_iast d_M_layExamples_107 rfl rfl g8 ?_
    have h9 := h9 _ rfl
    refine zt_aload_n 0 d_M_layExamples_108 rfl rfl rfl ?_
    refine zt_callVV (as := []) d_M_layExamples_109 rfl mi_M_addWork ⟨Nat.le_of_ble_eq_true rfl, Nat.le_of_ble_eq_true rfl⟩ wd_810 rfl rfl (Nat.le_of_ble_eq_true rfl) rfl h9 (fun M12 h11 => ?_)
    refine zt_iinc (v := (x1 + 1)) 1 d_M_layExamples_112 rfl rfl rfl (by decide) rfl ?_
    refine zt_goto d_M_layExamples_115 (tgt := 7) (by decide) ?_
    exact zt_sub [1, 0] rfl h11
  · have h5 := h2.2 c3
    refine zt_aload_n 0 d_M_layExamples_70 rfl rfl rfl ?_
    refine zt_getR (b := 11) d_M_layExamples_71 rfl fl_M_40 rfl rfl ?_
    refine zt_iconst (v := 5) d_M_layExamples_74 rfl (by decide) ?_
    refine zt_iload_n 1 d_M_layExamples_75 rfl rfl rfl ?_
    refine zt_imul d_M_layExamples_76 rfl ?_
    refine zt_iload_n 2 d_M_layExamples_77 rfl rfl rfl ?_
    refine zt_iadd d_M_layExamples_78 rfl ?_
    refine zt_aload_n 0 d_M_layExamples_79 rfl rfl rfl ?_
    refine zt_getR (b := 3) d_M_layExamples_80 rfl fl_M_16 rfl rfl ?_
    refine zt_iconst (v := 5) d_M_layExamples_83 rfl (by decide) ?_
    refine zt_iload_n 1 d_M_layExamples_84 rfl rfl rfl ?_
    refine zt_imul d_M_layExamples_85 rfl ?_
    refine zt_iload_n 2 d_M_layExamples_86 rfl rfl rfl ?_
    refine zt_iadd d_M_layExamples_87 rfl ?_
    obtain ⟨g14, h15⟩ := h5
    refine zt_iald d_M_layExamples_88 rfl rfl g14 ?_
    obtain ⟨g16, h17⟩ := h15
    refine zt_iast d_M_layExamples_89 rfl rfl g16 ?_
    have h17 := h17 _ rfl
    refine zt_iinc (v := (x2 + 1)) 2 d_M_layExamples_90 rfl rfl rfl (by decide) rfl ?_
    refine zt_goto d_M_layExamples_93 (tgt := 60) (by decide) ?_
    exact zt_sub [1, 2, 0] rfl h17
theorem e_M_cut {Q : Int32 → Mem → Prop} {M : Mem} {x1 : Int32} {x2 : Int32} {x3 : Int32} (h : wp zY m_M_cut (QI Q) 6 [(0, .ref 0), (1, .int x1), (2, .int x2), (3, .int x3), (4, .int x1), (5, .int 0)] [] M) : CallI zY m_M_cut [.ref 0, .int x1, .int x2, .int x3] M Q := by
  refine call_of (by decide) (Nat.le_of_ble_eq_true rfl) ?_
  show wp zY m_M_cut (QI Q) 0 [(0, .ref 0), (1, .int x1), (2, .int x2), (3, .int x3)] [] M
  refine zt_iload_n 1 d_M_cut_0 rfl rfl rfl ?_
  refine zt_istore d_M_cut_1 rfl (by decide) rfl ?_
  refine zt_iconst (v := 0) d_M_cut_3 rfl (by decide) ?_
  refine zt_istore d_M_cut_4 rfl (by decide) rfl ?_
  exact zt_sub [2, 3, 4, 5, 1, 0] rfl h
theorem b_M_cut_6 {Q : Int32 → Mem → Prop} {M : Mem} {x1 : Int32} {x2 : Int32} {x3 : Int32} {x4 : Int32} {x5 : Int32} (h : ((M.1 0 17) ≤ x5 → (Q x4 M)) ∧ (¬ (M.1 0 17) ≤ x5 → (vp_in ((62 * x5) + x2) 248 ∧ (vp_in ((62 * x5) + x3) 248 ∧ (CallI zY m_M_at [.int x1, .int x5] M (fun r10 M9 => ((M.1 13 ((62 * x5) + x2).toNatClampNeg) < 0 → (Q (-6) M9)) ∧ (¬ (M.1 13 ((62 * x5) + x2).toNatClampNeg) < 0 → (((M.1 13 ((62 * x5) + x3).toNatClampNeg) ≤ (M.1 13 ((62 * x5) + x2).toNatClampNeg) → (Q (-6) M9)) ∧ (¬ (M.1 13 ((62 * x5) + x3).toNatClampNeg) ≤ (M.1 13 ((62 * x5) + x2).toNatClampNeg) → (vp_in x5 4 ∧ ((((r10 + (M.1 13 ((62 * x5) + x3).toNatClampNeg)) - (M.1 13 ((62 * x5) + x2).toNatClampNeg)) ≤ (M9.1 12 x5.toNatClampNeg) → (wp zY m_M_cut (QI Q) 88 [(0, .ref 0), (1, .int x1), (2, .int x2), (3, .int x3), (4, .int x4), (5, .int x5), (6, .int (M.1 13 ((62 * x5) + x2).toNatClampNeg)), (7, .int (M.1 13 ((62 * x5) + x3).toNatClampNeg)), (8, .int r10), (9, .int (M.1 13 ((62 * x5) + x2).toNatClampNeg))] [] M9)) ∧ (¬ ((r10 + (M.1 13 ((62 * x5) + x3).toNatClampNeg)) - (M.1 13 ((62 * x5) + x2).toNatClampNeg)) ≤ (M9.1 12 x5.toNatClampNeg) → (Q (-6) M9))))))))))))) : wp zY m_M_cut (QI Q) 6 [(0, .ref 0), (1, .int x1), (2, .int x2), (3, .int x3), (4, .int x4), (5, .int x5)] [] M := by
  refine zt_iload 5 d_M_cut_6 rfl rfl ?_
  refine zt_aload_n 0 d_M_cut_8 rfl rfl rfl ?_
  refine zt_getI d_M_cut_9 rfl fl_M_124 rfl ?_
  refine zt_icmp_ge d_M_cut_12 rfl (tgt := 160) (by decide) ⟨fun c1 => ?_, fun c1 => ?_⟩
  · have h2 := h.1 c1
    refine zt_iload 4 d_M_cut_160 rfl rfl ?_
    exact zt_iret rfl d_M_cut_162 ⟨_, rfl, h2⟩
  · have h3 := h.2 c1
    refine zt_aload_n 0 d_M_cut_15 rfl rfl rfl ?_
    refine zt_getR (b := 13) d_M_cut_16 rfl fl_M_46 rfl rfl ?_
    refine zt_bipush (v := 62) d_M_cut_19 rfl (by decide) ?_
    refine zt_iload 5 d_M_cut_21 rfl rfl ?_
    refine zt_imul d_M_cut_23 rfl ?_
    refine zt_iload_n 2 d_M_cut_24 rfl rfl rfl ?_
    refine zt_iadd d_M_cut_25 rfl ?_
    obtain ⟨g4, h5⟩ := h3
    refine zt_iald d_M_cut_26 rfl rfl g4 ?_
    refine zt_istore d_M_cut_27 rfl (by decide) rfl ?_
    refine zt_aload_n 1 d_M_cut_29 rfl rfl rfl ?_
    refine zt_getR (b := 13) d_M_cut_30 rfl fl_M_46 rfl rfl ?_
    refine zt_bipush (v := 62) d_M_cut_33 rfl (by decide) ?_
    refine zt_iload 6 d_M_cut_35 rfl rfl ?_
    refine zt_imul d_M_cut_37 rfl ?_
    refine zt_iload_n 4 d_M_cut_38 rfl rfl rfl ?_
    refine zt_iadd d_M_cut_39 rfl ?_
    obtain ⟨g6, h7⟩ := h5
    refine zt_iald d_M_cut_40 rfl rfl g6 ?_
    refine zt_istore d_M_cut_41 rfl (by decide) rfl ?_
    refine zt_iload_n 3 d_M_cut_43 rfl rfl rfl ?_
    refine zt_iload 7 d_M_cut_44 rfl rfl ?_
    refine zt_callSI (as := [.int x1, .int x5]) d_M_cut_46 rfl ms_M_at ⟨Nat.le_of_ble_eq_true rfl, Nat.le_of_ble_eq_true rfl⟩ wd_829 rfl rfl (Nat.le_of_ble_eq_true rfl) h7 (fun r10 M9 h8 => ?_)
    refine zt_istore d_M_cut_49 rfl (by decide) rfl ?_
    refine zt_iload 2 d_M_cut_51 rfl rfl ?_
    refine zt_if_lt d_M_cut_53 rfl (tgt := 81) (by decide) ⟨fun c11 => ?_, fun c11 => ?_⟩
    · have h12 := h8.1 c11
      refine zt_bipush (v := -6) d_M_cut_81 rfl (by decide) ?_
      exact zt_iret rfl d_M_cut_83 ⟨_, rfl, h12⟩
    · have h13 := h8.2 c11
      refine zt_iload 2 d_M_cut_56 rfl rfl ?_
      refine zt_iload 1 d_M_cut_58 rfl rfl ?_
      refine zt_icmp_ge d_M_cut_60 rfl (tgt := 81) (by decide) ⟨fun c14 => ?_, fun c14 => ?_⟩
      · have h15 := h13.1 c14
        refine zt_bipush (v := -6) d_M_cut_81 rfl (by decide) ?_
        exact zt_iret rfl d_M_cut_83 ⟨_, rfl, h15⟩
      · have h16 := h13.2 c14
        refine zt_iload 0 d_M_cut_63 rfl rfl ?_
        refine zt_iload 1 d_M_cut_65 rfl rfl ?_
        refine zt_iadd d_M_cut_67 rfl ?_
        refine zt_iload 2 d_M_cut_68 rfl rfl ?_
        refine zt_isub d_M_cut_70 rfl ?_
        refine zt_aload_n 3 d_M_cut_71 rfl rfl rfl ?_
        refine zt_getR (b := 12) d_M_cut_72 rfl fl_M_43 rfl rfl ?_
        refine zt_iload 8 d_M_cut_75 rfl rfl ?_
        obtain ⟨g17, h18⟩ := h16
        refine zt_iald d_M_cut_77 rfl rfl g17 ?_
        refine zt_icmp_le d_M_cut_78 rfl (tgt := 84) (by decide) ⟨fun c19 => ?_, fun c19 => ?_⟩
        · have h20 := h18.1 c19
          refine zt_iload 2 d_M_cut_84 rfl rfl ?_
          refine zt_istore d_M_cut_86 rfl (by decide) rfl ?_
          exact zt_sub [4, 5, 6, 7, 8, 9, 3, 2, 1, 0] rfl h20
        · have h21 := h18.2 c19
          refine zt_bipush (v := -6) d_M_cut_81 rfl (by decide) ?_
          exact zt_iret rfl d_M_cut_83 ⟨_, rfl, h21⟩
theorem b_M_cut_88 {Q : Int32 → Mem → Prop} {M : Mem} {x1 : Int32} {x2 : Int32} {x3 : Int32} {x4 : Int32} {x5 : Int32} {x6 : Int32} {x7 : Int32} {x8 : Int32} {x9 : Int32} (h : (x7 ≤ x9 → (CallI zY m_M_power [.int x5] M (fun r6 M5 => wp zY m_M_cut (QI Q) 6 [(0, .ref 0), (1, .int x1), (2, .int x2), (3, .int x3), (4, .int (x4 + ((x7 - x6) * r6))), (5, .int (x5 + 1))] [] M5))) ∧ (¬ x7 ≤ x9 → (vp_in ((12 * x5) + x9) 48 ∧ (vp_in ((((5 * x5) + x8) + x9) - x6) 20 ∧ (((M.1 10 ((12 * x5) + x9).toNatClampNeg) = (M.1 11 ((((5 * x5) + x8) + x9) - x6).toNatClampNeg) → (wp zY m_M_cut (QI Q) 88 [(0, .ref 0), (1, .int x1), (2, .int x2), (3, .int x3), (4, .int x4), (5, .int x5), (6, .int x6), (7, .int x7), (8, .int x8), (9, .int (x9 + 1))] [] M)) ∧ (¬ (M.1 10 ((12 * x5) + x9).toNatClampNeg) = (M.1 11 ((((5 * x5) + x8) + x9) - x6).toNatClampNeg) → (Q (-6) M))))))) : wp zY m_M_cut (QI Q) 88 [(0, .ref 0), (1, .int x1), (2, .int x2), (3, .int x3), (4, .int x4), (5, .int x5), (6, .int x6), (7, .int x7), (8, .int x8), (9, .int x9)] [] M := by
  refine zt_iload 9 d_M_cut_88 rfl rfl ?_
  refine zt_iload 7 d_M_cut_90 rfl rfl ?_
  refine zt_icmp_ge d_M_cut_92 rfl (tgt := 138) (by decide) ⟨fun c1 => ?_, fun c1 => ?_⟩
  · have h2 := h.1 c1
    refine zt_iload 4 d_M_cut_138 rfl rfl ?_
    refine zt_iload 7 d_M_cut_140 rfl rfl ?_
    refine zt_iload 6 d_M_cut_142 rfl rfl ?_
    refine zt_isub d_M_cut_144 rfl ?_
    refine zt_iload 5 d_M_cut_145 rfl rfl ?_
    refine zt_callSI (as := [.int x5]) d_M_cut_147 rfl ms_M_power ⟨Nat.le_of_ble_eq_true rfl, Nat.le_of_ble_eq_true rfl⟩ wd_822 rfl rfl (Nat.le_of_ble_eq_true rfl) h2 (fun r6 M5 h4 => ?_)
    refine zt_imul d_M_cut_150 rfl ?_
    refine zt_iadd d_M_cut_151 rfl ?_
    refine zt_istore d_M_cut_152 rfl (by decide) rfl ?_
    refine zt_iinc (v := (x5 + 1)) 5 d_M_cut_154 rfl rfl rfl (by decide) rfl ?_
    refine zt_goto d_M_cut_157 (tgt := 6) (by decide) ?_
    exact zt_sub [2, 3, 4, 5, 1, 0] rfl h4
  · have h3 := h.2 c1
    refine zt_aload_n 0 d_M_cut_95 rfl rfl rfl ?_
    refine zt_getR (b := 10) d_M_cut_96 rfl fl_M_37 rfl rfl ?_
    refine zt_bipush (v := 12) d_M_cut_99 rfl (by decide) ?_
    refine zt_iload 5 d_M_cut_101 rfl rfl ?_
    refine zt_imul d_M_cut_103 rfl ?_
    refine zt_iload 9 d_M_cut_104 rfl rfl ?_
    refine zt_iadd d_M_cut_106 rfl ?_
    obtain ⟨g7, h8⟩ := h3
    refine zt_iald d_M_cut_107 rfl rfl g7 ?_
    refine zt_aload_n 0 d_M_cut_108 rfl rfl rfl ?_
    refine zt_getR (b := 11) d_M_cut_109 rfl fl_M_40 rfl rfl ?_
    refine zt_iconst (v := 5) d_M_cut_112 rfl (by decide) ?_
    refine zt_iload 5 d_M_cut_113 rfl rfl ?_
    refine zt_imul d_M_cut_115 rfl ?_
    refine zt_iload 8 d_M_cut_116 rfl rfl ?_
    refine zt_iadd d_M_cut_118 rfl ?_
    refine zt_iload 9 d_M_cut_119 rfl rfl ?_
    refine zt_iadd d_M_cut_121 rfl ?_
    refine zt_iload 6 d_M_cut_122 rfl rfl ?_
    refine zt_isub d_M_cut_124 rfl ?_
    obtain ⟨g9, h10⟩ := h8
    refine zt_iald d_M_cut_125 rfl rfl g9 ?_
    refine zt_icmp_eq d_M_cut_126 rfl (tgt := 132) (by decide) ⟨fun c11 => ?_, fun c11 => ?_⟩
    · have h12 := h10.1 c11
      refine zt_iinc (v := (x9 + 1)) 9 d_M_cut_132 rfl rfl rfl (by decide) rfl ?_
      refine zt_goto d_M_cut_135 (tgt := 88) (by decide) ?_
      exact zt_sub [1, 2, 3, 4, 5, 6, 7, 8, 9, 0] rfl h12
    · have h13 := h10.2 c11
      refine zt_bipush (v := -6) d_M_cut_129 rfl (by decide) ?_
      exact zt_iret rfl d_M_cut_131 ⟨_, rfl, h13⟩
theorem e_M_text {Q : Int32 → Mem → Prop} {M : Mem} {x1 : Int32} {x2 : Int32} (h : wp zY m_M_text (QI Q) 5 [(0, .ref 0), (1, .int x1), (2, .int x2), (3, .int x1), (4, .int 0)] [] M) : CallI zY m_M_text [.ref 0, .int x1, .int x2] M Q := by
  refine call_of (by decide) (Nat.le_of_ble_eq_true rfl) ?_
  show wp zY m_M_text (QI Q) 0 [(0, .ref 0), (1, .int x1), (2, .int x2)] [] M
  refine zt_iload_n 1 d_M_text_0 rfl rfl rfl ?_
  refine zt_istore_n d_M_text_1 rfl rfl (by decide) rfl ?_
  refine zt_iconst (v := 0) d_M_text_2 rfl (by decide) ?_
  refine zt_istore d_M_text_3 rfl (by decide) rfl ?_
  exact zt_sub [2, 3, 4, 1, 0] rfl h
theorem b_M_text_5 {Q : Int32 → Mem → Prop} {M : Mem} {x1 : Int32} {x2 : Int32} {x3 : Int32} {x4 : Int32} (h : ((M.1 0 17) ≤ x4 → (Q x3 M)) ∧ (¬ (M.1 0 17) ≤ x4 → (CallI zY m_M_at [.int x1, .int x4] M (fun r6 M5 => vp_in x4 4 ∧ (((r6 + x2) ≤ (M5.1 12 x4.toNatClampNeg) → (wp zY m_M_text (QI Q) 42 [(0, .ref 0), (1, .int x1), (2, .int x2), (3, .int x3), (4, .int x4), (5, .int r6), (6, .int 0)] [] M5)) ∧ (¬ (r6 + x2) ≤ (M5.1 12 x4.toNatClampNeg) → (Q (-6) M5))))))) : wp zY m_M_text (QI Q) 5 [(0, .ref 0), (1, .int x1), (2, .int x2), (3, .int x3), (4, .int x4)] [] M := by
  refine zt_iload 4 d_M_text_5 rfl rfl ?_
  refine zt_aload_n 0 d_M_text_7 rfl rfl rfl ?_
  refine zt_getI d_M_text_8 rfl fl_M_124 rfl ?_
  refine zt_icmp_ge d_M_text_11 rfl (tgt := 104) (by decide) ⟨fun c1 => ?_, fun c1 => ?_⟩
  · have h2 := h.1 c1
    refine zt_iload_n 3 d_M_text_104 rfl rfl rfl ?_
    exact zt_iret rfl d_M_text_105 ⟨_, rfl, h2⟩
  · have h3 := h.2 c1
    refine zt_iload_n 1 d_M_text_14 rfl rfl rfl ?_
    refine zt_iload 4 d_M_text_15 rfl rfl ?_
    refine zt_callSI (as := [.int x1, .int x4]) d_M_text_17 rfl ms_M_at ⟨Nat.le_of_ble_eq_true rfl, Nat.le_of_ble_eq_true rfl⟩ wd_829 rfl rfl (Nat.le_of_ble_eq_true rfl) h3 (fun r6 M5 h4 => ?_)
    refine zt_istore d_M_text_20 rfl (by decide) rfl ?_
    refine zt_iload 0 d_M_text_22 rfl rfl ?_
    refine zt_iload_n 3 d_M_text_24 rfl rfl rfl ?_
    refine zt_iadd d_M_text_25 rfl ?_
    refine zt_aload_n 1 d_M_text_26 rfl rfl rfl ?_
    refine zt_getR (b := 12) d_M_text_27 rfl fl_M_43 rfl rfl ?_
    refine zt_iload 5 d_M_text_30 rfl rfl ?_
    obtain ⟨g7, h8⟩ := h4
    refine zt_iald d_M_text_32 rfl rfl g7 ?_
    refine zt_icmp_le d_M_text_33 rfl (tgt := 39) (by decide) ⟨fun c9 => ?_, fun c9 => ?_⟩
    · have h10 := h8.1 c9
      refine zt_iconst (v := 0) d_M_text_39 rfl (by decide) ?_
      refine zt_istore d_M_text_40 rfl (by decide) rfl ?_
      exact zt_sub [2, 3, 4, 5, 6, 1, 0] rfl h10
    · have h11 := h8.2 c9
      refine zt_bipush (v := -6) d_M_text_36 rfl (by decide) ?_
      exact zt_iret rfl d_M_text_38 ⟨_, rfl, h11⟩
theorem b_M_text_42 {Q : Int32 → Mem → Prop} {M : Mem} {x1 : Int32} {x2 : Int32} {x3 : Int32} {x4 : Int32} {x5 : Int32} {x6 : Int32} (h : (x2 ≤ x6 → (CallI zY m_M_power [.int x4] M (fun r6 M5 => wp zY m_M_text (QI Q) 5 [(0, .ref 0), (1, .int x1), (2, .int x2), (3, .int (x3 + (x2 * r6))), (4, .int (x4 + 1))] [] M5))) ∧ (¬ x2 ≤ x6 → (vp_in (((5 * x4) + x5) + x6) 20 ∧ (CallI zY m_M_at [.int x1, .int 0] M (fun r11 M10 => vp_in (r11 + x6) 20 ∧ (((M.1 11 (((5 * x4) + x5) + x6).toNatClampNeg) = (M10.1 11 (r11 + x6).toNatClampNeg) → (wp zY m_M_text (QI Q) 42 [(0, .ref 0), (1, .int x1), (2, .int x2), (3, .int x3), (4, .int x4), (5, .int x5), (6, .int (x6 + 1))] [] M10)) ∧ (¬ (M.1 11 (((5 * x4) + x5) + x6).toNatClampNeg) = (M10.1 11 (r11 + x6).toNatClampNeg) → (Q (-6) M10)))))))) : wp zY m_M_text (QI Q) 42 [(0, .ref 0), (1, .int x1), (2, .int x2), (3, .int x3), (4, .int x4), (5, .int x5), (6, .int x6)] [] M := by
  refine zt_iload 6 d_M_text_42 rfl rfl ?_
  refine zt_iload_n 2 d_M_text_44 rfl rfl rfl ?_
  refine zt_icmp_ge d_M_text_45 rfl (tgt := 88) (by decide) ⟨fun c1 => ?_, fun c1 => ?_⟩
  · have h2 := h.1 c1
    refine zt_iload_n 3 d_M_text_88 rfl rfl rfl ?_
    refine zt_iload_n 2 d_M_text_89 rfl rfl rfl ?_
    refine zt_iload 4 d_M_text_90 rfl rfl ?_
    refine zt_callSI (as := [.int x4]) d_M_text_92 rfl ms_M_power ⟨Nat.le_of_ble_eq_true rfl, Nat.le_of_ble_eq_true rfl⟩ wd_822 rfl rfl (Nat.le_of_ble_eq_true rfl) h2 (fun r6 M5 h4 => ?_)
    refine zt_imul d_M_text_95 rfl ?_
    refine zt_iadd d_M_text_96 rfl ?_
    refine zt_istore_n d_M_text_97 rfl rfl (by decide) rfl ?_
    refine zt_iinc (v := (x4 + 1)) 4 d_M_text_98 rfl rfl rfl (by decide) rfl ?_
    refine zt_goto d_M_text_101 (tgt := 5) (by decide) ?_
    exact zt_sub [2, 3, 4, 1, 0] rfl h4
  · have h3 := h.2 c1
    refine zt_aload_n 0 d_M_text_48 rfl rfl rfl ?_
    refine zt_getR (b := 11) d_M_text_49 rfl fl_M_40 rfl rfl ?_
    refine zt_iconst (v := 5) d_M_text_52 rfl (by decide) ?_
    refine zt_iload 4 d_M_text_53 rfl rfl ?_
    refine zt_imul d_M_text_55 rfl ?_
    refine zt_iload 5 d_M_text_56 rfl rfl ?_
    refine zt_iadd d_M_text_58 rfl ?_
    refine zt_iload 6 d_M_text_59 rfl rfl ?_
    refine zt_iadd d_M_text_61 rfl ?_
    obtain ⟨g7, h8⟩ := h3
    refine zt_iald d_M_text_62 rfl rfl g7 ?_
    refine zt_aload_n 0 d_M_text_63 rfl rfl rfl ?_
    refine zt_getR (b := 11) d_M_text_64 rfl fl_M_40 rfl rfl ?_
    refine zt_iload_n 1 d_M_text_67 rfl rfl rfl ?_
    refine zt_iconst (v := 0) d_M_text_68 rfl (by decide) ?_
    refine zt_callSI (as := [.int x1, .int 0]) d_M_text_69 rfl ms_M_at ⟨Nat.le_of_ble_eq_true rfl, Nat.le_of_ble_eq_true rfl⟩ wd_829 rfl rfl (Nat.le_of_ble_eq_true rfl) h8 (fun r11 M10 h9 => ?_)
    refine zt_iload 6 d_M_text_72 rfl rfl ?_
    refine zt_iadd d_M_text_74 rfl ?_
    obtain ⟨g12, h13⟩ := h9
    refine zt_iald d_M_text_75 rfl rfl g12 ?_
    refine zt_icmp_eq d_M_text_76 rfl (tgt := 82) (by decide) ⟨fun c14 => ?_, fun c14 => ?_⟩
    · have h15 := h13.1 c14
      refine zt_iinc (v := (x6 + 1)) 6 d_M_text_82 rfl rfl rfl (by decide) rfl ?_
      refine zt_goto d_M_text_85 (tgt := 42) (by decide) ?_
      exact zt_sub [1, 2, 3, 4, 5, 6, 0] rfl h15
    · have h16 := h13.2 c14
      refine zt_bipush (v := -6) d_M_text_79 rfl (by decide) ?_
      exact zt_iret rfl d_M_text_81 ⟨_, rfl, h16⟩
theorem e_M_end {Q : Int32 → Mem → Prop} {M : Mem}  (h : wp zY m_M_end (QI Q) 4 [(0, .ref 0), (1, .int 0), (2, .int 0)] [] M) : CallI zY m_M_end [.ref 0] M Q := by
  refine call_of (by decide) (Nat.le_of_ble_eq_true rfl) ?_
  show wp zY m_M_end (QI Q) 0 [(0, .ref 0)] [] M
  refine zt_iconst (v := 0) d_M_end_0 rfl (by decide) ?_
  refine zt_istore_n d_M_end_1 rfl rfl (by decide) rfl ?_
  refine zt_iconst (v := 0) d_M_end_2 rfl (by decide) ?_
  refine zt_istore_n d_M_end_3 rfl rfl (by decide) rfl ?_
  exact zt_sub [2, 1, 0] rfl h
theorem b_M_end_4 {Q : Int32 → Mem → Prop} {M : Mem} {x1 : Int32} {x2 : Int32} (h : ((M.1 0 17) ≤ x2 → (Q x1 M)) ∧ (¬ (M.1 0 17) ≤ x2 → (vp_in x2 4 ∧ (CallI zY m_M_power [.int x2] M (fun r8 M7 => wp zY m_M_end (QI Q) 4 [(0, .ref 0), (1, .int (x1 + ((M.1 12 x2.toNatClampNeg) * r8))), (2, .int (x2 + 1))] [] M7))))) : wp zY m_M_end (QI Q) 4 [(0, .ref 0), (1, .int x1), (2, .int x2)] [] M := by
  refine zt_iload_n 2 d_M_end_4 rfl rfl rfl ?_
  refine zt_aload_n 0 d_M_end_5 rfl rfl rfl ?_
  refine zt_getI d_M_end_6 rfl fl_M_124 rfl ?_
  refine zt_icmp_ge d_M_end_9 rfl (tgt := 32) (by decide) ⟨fun c1 => ?_, fun c1 => ?_⟩
  · have h2 := h.1 c1
    refine zt_iload_n 1 d_M_end_32 rfl rfl rfl ?_
    exact zt_iret rfl d_M_end_33 ⟨_, rfl, h2⟩
  · have h3 := h.2 c1
    refine zt_iload_n 1 d_M_end_12 rfl rfl rfl ?_
    refine zt_aload_n 0 d_M_end_13 rfl rfl rfl ?_
    refine zt_getR (b := 12) d_M_end_14 rfl fl_M_43 rfl rfl ?_
    refine zt_iload_n 2 d_M_end_17 rfl rfl rfl ?_
    obtain ⟨g4, h5⟩ := h3
    refine zt_iald d_M_end_18 rfl rfl g4 ?_
    refine zt_iload_n 2 d_M_end_19 rfl rfl rfl ?_
    refine zt_callSI (as := [.int x2]) d_M_end_20 rfl ms_M_power ⟨Nat.le_of_ble_eq_true rfl, Nat.le_of_ble_eq_true rfl⟩ wd_822 rfl rfl (Nat.le_of_ble_eq_true rfl) h5 (fun r8 M7 h6 => ?_)
    refine zt_imul d_M_end_23 rfl ?_
    refine zt_iadd d_M_end_24 rfl ?_
    refine zt_istore_n d_M_end_25 rfl rfl (by decide) rfl ?_
    refine zt_iinc (v := (x2 + 1)) 2 d_M_end_26 rfl rfl rfl (by decide) rfl ?_
    refine zt_goto d_M_end_29 (tgt := 4) (by decide) ?_
    exact zt_sub [2, 1, 0] rfl h6
theorem e_M_rows {Q : Int32 → Mem → Prop} {M : Mem}  (h : ((M.1 0 17) = 4 → (Q 1296 M)) ∧ (¬ (M.1 0 17) = 4 → (CallI zY m_M_power [.int (M.1 0 17)] M (fun r6 M5 => Q r6 M5)))) : CallI zY m_M_rows [.ref 0] M Q := by
  refine call_of (by decide) (Nat.le_of_ble_eq_true rfl) ?_
  show wp zY m_M_rows (QI Q) 0 [(0, .ref 0)] [] M
  refine zt_aload_n 0 d_M_rows_0 rfl rfl rfl ?_
  refine zt_getI d_M_rows_1 rfl fl_M_124 rfl ?_
  refine zt_iconst (v := 4) d_M_rows_4 rfl (by decide) ?_
  refine zt_icmp_ne d_M_rows_5 rfl (tgt := 14) (by decide) ⟨fun c1 => ?_, fun c1 => ?_⟩
  · have h2 := h.1 c1
    refine zt_sipush (v := 1296) d_M_rows_8 rfl (by decide) ?_
    refine zt_goto d_M_rows_11 (tgt := 21) (by decide) ?_
    exact zt_iret rfl d_M_rows_21 ⟨_, rfl, h2⟩
  · have h3 := h.2 c1
    refine zt_aload_n 0 d_M_rows_14 rfl rfl rfl ?_
    refine zt_getI d_M_rows_15 rfl fl_M_124 rfl ?_
    refine zt_callSI (as := [.int (M.1 0 17)]) d_M_rows_18 rfl ms_M_power ⟨Nat.le_of_ble_eq_true rfl, Nat.le_of_ble_eq_true rfl⟩ wd_822 rfl rfl (Nat.le_of_ble_eq_true rfl) h3 (fun r6 M5 h4 => ?_)
    exact zt_iret rfl d_M_rows_21 ⟨_, rfl, h4⟩
theorem e_M_count {Q : Int64 → Mem → Prop} {M : Mem}  (h : CallI zY m_M_rows [.ref 0] M (fun r3 M2 => wp zY m_M_count (QL Q) 7 [(0, .ref 0), (1, .int r3), (2, .int 0)] [] M2)) : CallL zY m_M_count [.ref 0] M Q := by
  refine call_of (by decide) (Nat.le_of_ble_eq_true rfl) ?_
  show wp zY m_M_count (QL Q) 0 [(0, .ref 0)] [] M
  refine zt_aload_n 0 d_M_count_0 rfl rfl rfl ?_
  refine zt_callVI (as := []) d_M_count_1 rfl mi_M_rows ⟨Nat.le_of_ble_eq_true rfl, Nat.le_of_ble_eq_true rfl⟩ wd_818 rfl rfl (Nat.le_of_ble_eq_true rfl) rfl h (fun r3 M2 h1 => ?_)
  refine zt_istore_n d_M_count_4 rfl rfl (by decide) rfl ?_
  refine zt_iconst (v := 0) d_M_count_5 rfl (by decide) ?_
  refine zt_istore_n d_M_count_6 rfl rfl (by decide) rfl ?_
  exact zt_sub [2, 1, 0] rfl h1
theorem b_M_count_7 {Q : Int64 → Mem → Prop} {M : Mem} {x1 : Int32} {x2 : Int32} (h : (x1 ≤ x2 → (wp zY m_M_count (QL Q) 35 [(0, .ref 0), (1, .int x1), (2, .int 0)] [] M)) ∧ (¬ x1 ≤ x2 → ((x2 = 0 → (vp_in x2 1296 ∧ (∀ N9, N9 = uL M 14 x2.toNatClampNeg 1 → (wp zY m_M_count (QL Q) 7 [(0, .ref 0), (1, .int x1), (2, .int (x2 + 1))] [] N9)))) ∧ (¬ x2 = 0 → (vp_in x2 1296 ∧ (∀ N12, N12 = uL M 14 x2.toNatClampNeg 0 → (wp zY m_M_count (QL Q) 7 [(0, .ref 0), (1, .int x1), (2, .int (x2 + 1))] [] N12))))))) : wp zY m_M_count (QL Q) 7 [(0, .ref 0), (1, .int x1), (2, .int x2)] [] M := by
  refine zt_iload_n 2 d_M_count_7 rfl rfl rfl ?_
  refine zt_iload_n 1 d_M_count_8 rfl rfl rfl ?_
  refine zt_icmp_ge d_M_count_9 rfl (tgt := 33) (by decide) ⟨fun c1 => ?_, fun c1 => ?_⟩
  · have h2 := h.1 c1
    refine zt_iconst (v := 0) d_M_count_33 rfl (by decide) ?_
    refine zt_istore_n d_M_count_34 rfl rfl (by decide) rfl ?_
    exact zt_sub [1, 2, 0] rfl h2
  · have h3 := h.2 c1
    refine zt_aload_n 0 d_M_count_12 rfl rfl rfl ?_
    refine zt_getR (b := 14) d_M_count_13 rfl fl_M_49 rfl rfl ?_
    refine zt_iload_n 2 d_M_count_16 rfl rfl rfl ?_
    refine zt_iload_n 2 d_M_count_17 rfl rfl rfl ?_
    refine zt_if_ne d_M_count_18 rfl (tgt := 25) (by decide) ⟨fun c4 => ?_, fun c4 => ?_⟩
    · have h5 := h3.1 c4
      refine zt_lconst (v := 1) d_M_count_21 rfl (by decide) ?_
      refine zt_goto d_M_count_22 (tgt := 26) (by decide) ?_
      obtain ⟨g7, h8⟩ := h5
      refine zt_last d_M_count_26 rfl rfl g7 ?_
      have h8 := h8 _ rfl
      refine zt_iinc (v := (x2 + 1)) 2 d_M_count_27 rfl rfl rfl (by decide) rfl ?_
      refine zt_goto d_M_count_30 (tgt := 7) (by decide) ?_
      exact zt_sub [1, 2, 0] rfl h8
    · have h6 := h3.2 c4
      refine zt_lconst (v := 0) d_M_count_25 rfl (by decide) ?_
      obtain ⟨g10, h11⟩ := h6
      refine zt_last d_M_count_26 rfl rfl g10 ?_
      have h11 := h11 _ rfl
      refine zt_iinc (v := (x2 + 1)) 2 d_M_count_27 rfl rfl rfl (by decide) rfl ?_
      refine zt_goto d_M_count_30 (tgt := 7) (by decide) ?_
      exact zt_sub [1, 2, 0] rfl h11
theorem b_M_count_35 {Q : Int64 → Mem → Prop} {M : Mem} {x1 : Int32} {x2 : Int32} (h : (5 < x2 → (CallI zY m_M_end [.ref 0] M (fun r6 M5 => vp_in r6 1296 ∧ (Q (M5.2 14 r6.toNatClampNeg) M5)))) ∧ (¬ 5 < x2 → (wp zY m_M_count (QL Q) 42 [(0, .ref 0), (1, .int x1), (2, .int x2), (3, .int x2)] [] M))) : wp zY m_M_count (QL Q) 35 [(0, .ref 0), (1, .int x1), (2, .int x2)] [] M := by
  refine zt_iload_n 2 d_M_count_35 rfl rfl rfl ?_
  refine zt_iconst (v := 5) d_M_count_36 rfl (by decide) ?_
  refine zt_icmp_gt d_M_count_37 rfl (tgt := 170) (by decide) ⟨fun c1 => ?_, fun c1 => ?_⟩
  · have h2 := h.1 c1
    refine zt_aload_n 0 d_M_count_170 rfl rfl rfl ?_
    refine zt_getR (b := 14) d_M_count_171 rfl fl_M_49 rfl rfl ?_
    refine zt_aload_n 0 d_M_count_174 rfl rfl rfl ?_
    refine zt_callVI (as := []) d_M_count_175 rfl mi_M_end ⟨Nat.le_of_ble_eq_true rfl, Nat.le_of_ble_eq_true rfl⟩ wd_836 rfl rfl (Nat.le_of_ble_eq_true rfl) rfl h2 (fun r6 M5 h4 => ?_)
    obtain ⟨g7, h8⟩ := h4
    refine zt_lald d_M_count_178 rfl rfl g7 ?_
    exact zt_lret rfl d_M_count_179 ⟨_, rfl, h8⟩
  · have h3 := h.2 c1
    refine zt_iload_n 2 d_M_count_40 rfl rfl rfl ?_
    refine zt_istore_n d_M_count_41 rfl rfl (by decide) rfl ?_
    exact zt_sub [1, 2, 3, 0] rfl h3
theorem b_M_count_42 {Q : Int64 → Mem → Prop} {M : Mem} {x1 : Int32} {x2 : Int32} {x3 : Int32} (h : (x1 ≤ x3 → (wp zY m_M_count (QL Q) 35 [(0, .ref 0), (1, .int x1), (2, .int (x2 + 1))] [] M)) ∧ (¬ x1 ≤ x3 → (vp_in x3 1296 ∧ (((lg_cmp (M.2 14 x3.toNatClampNeg) 0) ≤ 0 → (wp zY m_M_count (QL Q) 42 [(0, .ref 0), (1, .int x1), (2, .int x2), (3, .int (x3 + 6))] [] M)) ∧ (¬ (lg_cmp (M.2 14 x3.toNatClampNeg) 0) ≤ 0 → (wp zY m_M_count (QL Q) 61 [(0, .ref 0), (1, .int x1), (2, .int x2), (3, .int x3), (4, .int 0)] [] M)))))) : wp zY m_M_count (QL Q) 42 [(0, .ref 0), (1, .int x1), (2, .int x2), (3, .int x3)] [] M := by
  refine zt_iload_n 3 d_M_count_42 rfl rfl rfl ?_
  refine zt_iload_n 1 d_M_count_43 rfl rfl rfl ?_
  refine zt_icmp_ge d_M_count_44 rfl (tgt := 164) (by decide) ⟨fun c1 => ?_, fun c1 => ?_⟩
  · have h2 := h.1 c1
    refine zt_iinc (v := (x2 + 1)) 2 d_M_count_164 rfl rfl rfl (by decide) rfl ?_
    refine zt_goto d_M_count_167 (tgt := 35) (by decide) ?_
    exact zt_sub [1, 2, 0] rfl h2
  · have h3 := h.2 c1
    refine zt_aload_n 0 d_M_count_47 rfl rfl rfl ?_
    refine zt_getR (b := 14) d_M_count_48 rfl fl_M_49 rfl rfl ?_
    refine zt_iload_n 3 d_M_count_51 rfl rfl rfl ?_
    obtain ⟨g4, h5⟩ := h3
    refine zt_lald d_M_count_52 rfl rfl g4 ?_
    refine zt_lconst (v := 0) d_M_count_53 rfl (by decide) ?_
    refine zt_lcmp d_M_count_54 rfl ?_
    refine zt_if_le d_M_count_55 rfl (tgt := 158) (by decide) ⟨fun c6 => ?_, fun c6 => ?_⟩
    · have h7 := h5.1 c6
      refine zt_iinc (v := (x3 + 6)) 3 d_M_count_158 rfl rfl rfl (by decide) rfl ?_
      refine zt_goto d_M_count_161 (tgt := 42) (by decide) ?_
      exact zt_sub [1, 2, 3, 0] rfl h7
    · have h8 := h5.2 c6
      refine zt_iconst (v := 0) d_M_count_58 rfl (by decide) ?_
      refine zt_istore d_M_count_59 rfl (by decide) rfl ?_
      exact zt_sub [1, 2, 3, 4, 0] rfl h8
theorem b_M_count_61 {Q : Int64 → Mem → Prop} {M : Mem} {x1 : Int32} {x2 : Int32} {x3 : Int32} {x4 : Int32} (h : (3844 ≤ x4 → (wp zY m_M_count (QL Q) 116 [(0, .ref 0), (1, .int x1), (2, .int x2), (3, .int x3), (4, .int 1)] [] M)) ∧ (¬ 3844 ≤ x4 → (CallI zY m_M_cut [.ref 0, .int x3, .int (x4 / 62), .int (x4 - x4 / 62 * 62)] M (fun r6 M5 => (r6 < 0 → (wp zY m_M_count (QL Q) 61 [(0, .ref 0), (1, .int x1), (2, .int x2), (3, .int x3), (4, .int (x4 + 1))] [] M5)) ∧ (¬ r6 < 0 → (vp_in r6 1296 ∧ (vp_in x3 1296 ∧ (vp_in r6 1296 ∧ (∀ N16, N16 = uL M5 14 r6.toNatClampNeg ((M5.2 14 r6.toNatClampNeg) + (M5.2 14 x3.toNatClampNeg)) → (wp zY m_M_count (QL Q) 61 [(0, .ref 0), (1, .int x1), (2, .int x2), (3, .int x3), (4, .int (x4 + 1))] [] N16)))))))))) : wp zY m_M_count (QL Q) 61 [(0, .ref 0), (1, .int x1), (2, .int x2), (3, .int x3), (4, .int x4)] [] M := by
  refine zt_iload 4 d_M_count_61 rfl rfl ?_
  refine zt_sipush (v := 3844) d_M_count_63 rfl (by decide) ?_
  refine zt_icmp_ge d_M_count_66 rfl (tgt := 113) (by decide) ⟨fun c1 => ?_, fun c1 => ?_⟩
  · have h2 := h.1 c1
    refine zt_iconst (v := 1) d_M_count_113 rfl (by decide) ?_
    refine zt_istore d_M_count_114 rfl (by decide) rfl ?_
    exact zt_sub [1, 2, 3, 4, 0] rfl h2
  · have h3 := h.2 c1
    refine zt_aload_n 0 d_M_count_69 rfl rfl rfl ?_
    refine zt_iload_n 3 d_M_count_70 rfl rfl rfl ?_
    refine zt_iload 4 d_M_count_71 rfl rfl ?_
    refine zt_bipush (v := 62) d_M_count_73 rfl (by decide) ?_
    refine zt_idiv d_M_count_75 rfl (by decide) ?_
    refine zt_iload 4 d_M_count_76 rfl rfl ?_
    refine zt_bipush (v := 62) d_M_count_78 rfl (by decide) ?_
    refine zt_irem d_M_count_80 rfl (by decide) ?_
    refine zt_callVI (as := [.int x3, .int (x4 / 62), .int (x4 - x4 / 62 * 62)]) d_M_count_81 rfl mi_M_cut ⟨Nat.le_of_ble_eq_true rfl, Nat.le_of_ble_eq_true rfl⟩ wd_825 rfl rfl (Nat.le_of_ble_eq_true rfl) rfl h3 (fun r6 M5 h4 => ?_)
    refine zt_istore d_M_count_84 rfl (by decide) rfl ?_
    refine zt_iload 0 d_M_count_86 rfl rfl ?_
    refine zt_if_lt d_M_count_88 rfl (tgt := 107) (by decide) ⟨fun c7 => ?_, fun c7 => ?_⟩
    · have h8 := h4.1 c7
      refine zt_iinc (v := (x4 + 1)) 5 d_M_count_107 rfl rfl rfl (by decide) rfl ?_
      refine zt_goto d_M_count_110 (tgt := 61) (by decide) ?_
      exact zt_sub [2, 3, 4, 5, 0] rfl h8
    · have h9 := h4.2 c7
      refine zt_aload_n 1 d_M_count_91 rfl rfl rfl ?_
      refine zt_getR (b := 14) d_M_count_92 rfl fl_M_49 rfl rfl ?_
      refine zt_iload 0 d_M_count_95 rfl rfl ?_
      refine zt_dup2 d_M_count_97 rfl rfl rfl ?_
      obtain ⟨g10, h11⟩ := h9
      refine zt_lald d_M_count_98 rfl rfl g10 ?_
      refine zt_aload_n 1 d_M_count_99 rfl rfl rfl ?_
      refine zt_getR (b := 14) d_M_count_100 rfl fl_M_49 rfl rfl ?_
      refine zt_iload_n 4 d_M_count_103 rfl rfl rfl ?_
      obtain ⟨g12, h13⟩ := h11
      refine zt_lald d_M_count_104 rfl rfl g12 ?_
      refine zt_ladd d_M_count_105 rfl ?_
      obtain ⟨g14, h15⟩ := h13
      refine zt_last d_M_count_106 rfl rfl g14 ?_
      have h15 := h15 _ rfl
      refine zt_iinc (v := (x4 + 1)) 5 d_M_count_107 rfl rfl rfl (by decide) rfl ?_
      refine zt_goto d_M_count_110 (tgt := 61) (by decide) ?_
      exact zt_sub [2, 3, 4, 5, 0] rfl h15
theorem b_M_count_116 {Q : Int64 → Mem → Prop} {M : Mem} {x1 : Int32} {x2 : Int32} {x3 : Int32} {x4 : Int32} (h : (5 < x4 → (wp zY m_M_count (QL Q) 42 [(0, .ref 0), (1, .int x1), (2, .int x2), (3, .int (x3 + 6))] [] M)) ∧ (¬ 5 < x4 → (CallI zY m_M_text [.ref 0, .int x3, .int x4] M (fun r6 M5 => (r6 < 0 → (wp zY m_M_count (QL Q) 116 [(0, .ref 0), (1, .int x1), (2, .int x2), (3, .int x3), (4, .int (x4 + 1))] [] M5)) ∧ (¬ r6 < 0 → (vp_in r6 1296 ∧ (vp_in x3 1296 ∧ (vp_in r6 1296 ∧ (∀ N16, N16 = uL M5 14 r6.toNatClampNeg ((M5.2 14 r6.toNatClampNeg) + (M5.2 14 x3.toNatClampNeg)) → (wp zY m_M_count (QL Q) 116 [(0, .ref 0), (1, .int x1), (2, .int x2), (3, .int x3), (4, .int (x4 + 1))] [] N16)))))))))) : wp zY m_M_count (QL Q) 116 [(0, .ref 0), (1, .int x1), (2, .int x2), (3, .int x3), (4, .int x4)] [] M := by
  refine zt_iload 4 d_M_count_116 rfl rfl ?_
  refine zt_iconst (v := 5) d_M_count_118 rfl (by decide) ?_
  refine zt_icmp_gt d_M_count_119 rfl (tgt := 158) (by decide) ⟨fun c1 => ?_, fun c1 => ?_⟩
  · have h2 := h.1 c1
    refine zt_iinc (v := (x3 + 6)) 3 d_M_count_158 rfl rfl rfl (by decide) rfl ?_
    refine zt_goto d_M_count_161 (tgt := 42) (by decide) ?_
    exact zt_sub [1, 2, 3, 0] rfl h2
  · have h3 := h.2 c1
    refine zt_aload_n 0 d_M_count_122 rfl rfl rfl ?_
    refine zt_iload_n 3 d_M_count_123 rfl rfl rfl ?_
    refine zt_iload 4 d_M_count_124 rfl rfl ?_
    refine zt_callVI (as := [.int x3, .int x4]) d_M_count_126 rfl mi_M_text ⟨Nat.le_of_ble_eq_true rfl, Nat.le_of_ble_eq_true rfl⟩ wd_832 rfl rfl (Nat.le_of_ble_eq_true rfl) rfl h3 (fun r6 M5 h4 => ?_)
    refine zt_istore d_M_count_129 rfl (by decide) rfl ?_
    refine zt_iload 0 d_M_count_131 rfl rfl ?_
    refine zt_if_lt d_M_count_133 rfl (tgt := 152) (by decide) ⟨fun c7 => ?_, fun c7 => ?_⟩
    · have h8 := h4.1 c7
      refine zt_iinc (v := (x4 + 1)) 5 d_M_count_152 rfl rfl rfl (by decide) rfl ?_
      refine zt_goto d_M_count_155 (tgt := 116) (by decide) ?_
      exact zt_sub [2, 3, 4, 5, 0] rfl h8
    · have h9 := h4.2 c7
      refine zt_aload_n 1 d_M_count_136 rfl rfl rfl ?_
      refine zt_getR (b := 14) d_M_count_137 rfl fl_M_49 rfl rfl ?_
      refine zt_iload 0 d_M_count_140 rfl rfl ?_
      refine zt_dup2 d_M_count_142 rfl rfl rfl ?_
      obtain ⟨g10, h11⟩ := h9
      refine zt_lald d_M_count_143 rfl rfl g10 ?_
      refine zt_aload_n 1 d_M_count_144 rfl rfl rfl ?_
      refine zt_getR (b := 14) d_M_count_145 rfl fl_M_49 rfl rfl ?_
      refine zt_iload_n 4 d_M_count_148 rfl rfl rfl ?_
      obtain ⟨g12, h13⟩ := h11
      refine zt_lald d_M_count_149 rfl rfl g12 ?_
      refine zt_ladd d_M_count_150 rfl ?_
      obtain ⟨g14, h15⟩ := h13
      refine zt_last d_M_count_151 rfl rfl g14 ?_
      have h15 := h15 _ rfl
      refine zt_iinc (v := (x4 + 1)) 5 d_M_count_152 rfl rfl rfl (by decide) rfl ?_
      refine zt_goto d_M_count_155 (tgt := 116) (by decide) ?_
      exact zt_sub [2, 3, 4, 5, 0] rfl h15
theorem e_M_costOfCut {Q : Int32 → Mem → Prop} {M : Mem} {x1 : Int32} {x2 : Int32} (h : vp_in x1 62 ∧ (CallI zY m_M_costOfMark [.int (M.1 8 x1.toNatClampNeg)] M (fun r5 M4 => vp_in x2 62 ∧ (CallI zY m_M_costOfMark [.int (M4.1 8 x2.toNatClampNeg)] M4 (fun r10 M9 => Q ((1 + r5) + r10) M9))))) : CallI zY m_M_costOfCut [.ref 0, .int x1, .int x2] M Q := by
  refine call_of (by decide) (Nat.le_of_ble_eq_true rfl) ?_
  show wp zY m_M_costOfCut (QI Q) 0 [(0, .ref 0), (1, .int x1), (2, .int x2)] [] M
  refine zt_iconst (v := 1) d_M_costOfCut_0 rfl (by decide) ?_
  refine zt_aload_n 0 d_M_costOfCut_1 rfl rfl rfl ?_
  refine zt_getR (b := 8) d_M_costOfCut_2 rfl fl_M_31 rfl rfl ?_
  refine zt_iload_n 1 d_M_costOfCut_5 rfl rfl rfl ?_
  obtain ⟨g1, h2⟩ := h
  refine zt_iald d_M_costOfCut_6 rfl rfl g1 ?_
  refine zt_callSI (as := [.int (M.1 8 x1.toNatClampNeg)]) d_M_costOfCut_7 rfl ms_M_costOfMark ⟨Nat.le_of_ble_eq_true rfl, Nat.le_of_ble_eq_true rfl⟩ wd_853 rfl rfl (Nat.le_of_ble_eq_true rfl) h2 (fun r5 M4 h3 => ?_)
  refine zt_iadd d_M_costOfCut_10 rfl ?_
  refine zt_aload_n 0 d_M_costOfCut_11 rfl rfl rfl ?_
  refine zt_getR (b := 8) d_M_costOfCut_12 rfl fl_M_31 rfl rfl ?_
  refine zt_iload_n 2 d_M_costOfCut_15 rfl rfl rfl ?_
  obtain ⟨g6, h7⟩ := h3
  refine zt_iald d_M_costOfCut_16 rfl rfl g6 ?_
  refine zt_callSI (as := [.int (M4.1 8 x2.toNatClampNeg)]) d_M_costOfCut_17 rfl ms_M_costOfMark ⟨Nat.le_of_ble_eq_true rfl, Nat.le_of_ble_eq_true rfl⟩ wd_853 rfl rfl (Nat.le_of_ble_eq_true rfl) h7 (fun r10 M9 h8 => ?_)
  refine zt_iadd d_M_costOfCut_20 rfl ?_
  exact zt_iret rfl d_M_costOfCut_21 ⟨_, rfl, h8⟩
theorem e_M_costOfPiece {Q : Int32 → Mem → Prop} {M : Mem} {x1 : Int32} (h : vp_in x1 5 ∧ (((M.1 16 x1.toNatClampNeg) = 0 → (vp_in x1 5 ∧ (CallI zY m_M_costOfMark [.int (M.1 17 x1.toNatClampNeg)] M (fun r10 M9 => vp_in x1 5 ∧ (CallI zY m_M_costOfMark [.int (M9.1 18 x1.toNatClampNeg)] M9 (fun r15 M14 => Q ((1 + r10) + r15) M14)))))) ∧ (¬ (M.1 16 x1.toNatClampNeg) = 0 → (vp_in x1 5 ∧ (Q ((2 * (M.1 17 x1.toNatClampNeg)) + 2) M))))) : CallI zY m_M_costOfPiece [.ref 0, .int x1] M Q := by
  refine call_of (by decide) (Nat.le_of_ble_eq_true rfl) ?_
  show wp zY m_M_costOfPiece (QI Q) 0 [(0, .ref 0), (1, .int x1)] [] M
  refine zt_aload_n 0 d_M_costOfPiece_0 rfl rfl rfl ?_
  refine zt_getR (b := 16) d_M_costOfPiece_1 rfl fl_M_56 rfl rfl ?_
  refine zt_iload_n 1 d_M_costOfPiece_4 rfl rfl rfl ?_
  obtain ⟨g1, h2⟩ := h
  refine zt_iald d_M_costOfPiece_5 rfl rfl g1 ?_
  refine zt_if_ne d_M_costOfPiece_6 rfl (tgt := 33) (by decide) ⟨fun c3 => ?_, fun c3 => ?_⟩
  · have h4 := h2.1 c3
    refine zt_iconst (v := 1) d_M_costOfPiece_9 rfl (by decide) ?_
    refine zt_aload_n 0 d_M_costOfPiece_10 rfl rfl rfl ?_
    refine zt_getR (b := 17) d_M_costOfPiece_11 rfl fl_M_59 rfl rfl ?_
    refine zt_iload_n 1 d_M_costOfPiece_14 rfl rfl rfl ?_
    obtain ⟨g6, h7⟩ := h4
    refine zt_iald d_M_costOfPiece_15 rfl rfl g6 ?_
    refine zt_callSI (as := [.int (M.1 17 x1.toNatClampNeg)]) d_M_costOfPiece_16 rfl ms_M_costOfMark ⟨Nat.le_of_ble_eq_true rfl, Nat.le_of_ble_eq_true rfl⟩ wd_853 rfl rfl (Nat.le_of_ble_eq_true rfl) h7 (fun r10 M9 h8 => ?_)
    refine zt_iadd d_M_costOfPiece_19 rfl ?_
    refine zt_aload_n 0 d_M_costOfPiece_20 rfl rfl rfl ?_
    refine zt_getR (b := 18) d_M_costOfPiece_21 rfl fl_M_62 rfl rfl ?_
    refine zt_iload_n 1 d_M_costOfPiece_24 rfl rfl rfl ?_
    obtain ⟨g11, h12⟩ := h8
    refine zt_iald d_M_costOfPiece_25 rfl rfl g11 ?_
    refine zt_callSI (as := [.int (M9.1 18 x1.toNatClampNeg)]) d_M_costOfPiece_26 rfl ms_M_costOfMark ⟨Nat.le_of_ble_eq_true rfl, Nat.le_of_ble_eq_true rfl⟩ wd_853 rfl rfl (Nat.le_of_ble_eq_true rfl) h12 (fun r15 M14 h13 => ?_)
    refine zt_iadd d_M_costOfPiece_29 rfl ?_
    refine zt_goto d_M_costOfPiece_30 (tgt := 43) (by decide) ?_
    exact zt_iret rfl d_M_costOfPiece_43 ⟨_, rfl, h13⟩
  · have h5 := h2.2 c3
    refine zt_iconst (v := 2) d_M_costOfPiece_33 rfl (by decide) ?_
    refine zt_aload_n 0 d_M_costOfPiece_34 rfl rfl rfl ?_
    refine zt_getR (b := 17) d_M_costOfPiece_35 rfl fl_M_59 rfl rfl ?_
    refine zt_iload_n 1 d_M_costOfPiece_38 rfl rfl rfl ?_
    obtain ⟨g16, h17⟩ := h5
    refine zt_iald d_M_costOfPiece_39 rfl rfl g16 ?_
    refine zt_imul d_M_costOfPiece_40 rfl ?_
    refine zt_iconst (v := 2) d_M_costOfPiece_41 rfl (by decide) ?_
    refine zt_iadd d_M_costOfPiece_42 rfl ?_
    exact zt_iret rfl d_M_costOfPiece_43 ⟨_, rfl, h17⟩
theorem e_M_layBest {Q : Int32 → Mem → Prop} {M : Mem}  (h : CallV zY m_M_layExamples [.ref 0] M (fun M2 => CallL zY m_M_count [.ref 0] M2 (fun r6 M5 => ((lg_cmp r6 0) = 0 → (Q 0 M5)) ∧ (¬ (lg_cmp r6 0) = 0 → (CallI zY m_M_rows [.ref 0] M5 (fun r12 M11 => CallI zY m_M_end [.ref 0] M11 (fun r15 M14 => wp zY m_M_layBest (QI Q) 27 [(0, .ref 0), (1, .int r12), (2, .int r15), (3, .int 5)] [] M14))))))) : CallI zY m_M_layBest [.ref 0] M Q := by
  refine call_of (by decide) (Nat.le_of_ble_eq_true rfl) ?_
  show wp zY m_M_layBest (QI Q) 0 [(0, .ref 0)] [] M
  refine zt_aload_n 0 d_M_layBest_0 rfl rfl rfl ?_
  refine zt_callVV (as := []) d_M_layBest_1 rfl mi_M_layExamples ⟨Nat.le_of_ble_eq_true rfl, Nat.le_of_ble_eq_true rfl⟩ wd_806 rfl rfl (Nat.le_of_ble_eq_true rfl) rfl h (fun M2 h1 => ?_)
  refine zt_aload_n 0 d_M_layBest_4 rfl rfl rfl ?_
  refine zt_callVL (as := []) d_M_layBest_5 rfl mi_M_count ⟨Nat.le_of_ble_eq_true rfl, Nat.le_of_ble_eq_true rfl⟩ wd_814 rfl rfl (Nat.le_of_ble_eq_true rfl) rfl h1 (fun r6 M5 h4 => ?_)
  refine zt_lconst (v := 0) d_M_layBest_8 rfl (by decide) ?_
  refine zt_lcmp d_M_layBest_9 rfl ?_
  refine zt_if_ne d_M_layBest_10 rfl (tgt := 15) (by decide) ⟨fun c7 => ?_, fun c7 => ?_⟩
  · have h8 := h4.1 c7
    refine zt_iconst (v := 0) d_M_layBest_13 rfl (by decide) ?_
    exact zt_zret rfl d_M_layBest_14 rfl ⟨_, rfl, h8⟩
  · have h9 := h4.2 c7
    refine zt_aload_n 0 d_M_layBest_15 rfl rfl rfl ?_
    refine zt_callVI (as := []) d_M_layBest_16 rfl mi_M_rows ⟨Nat.le_of_ble_eq_true rfl, Nat.le_of_ble_eq_true rfl⟩ wd_818 rfl rfl (Nat.le_of_ble_eq_true rfl) rfl h9 (fun r12 M11 h10 => ?_)
    refine zt_istore_n d_M_layBest_19 rfl rfl (by decide) rfl ?_
    refine zt_aload_n 1 d_M_layBest_20 rfl rfl rfl ?_
    refine zt_callVI (as := []) d_M_layBest_21 rfl mi_M_end ⟨Nat.le_of_ble_eq_true rfl, Nat.le_of_ble_eq_true rfl⟩ wd_836 rfl rfl (Nat.le_of_ble_eq_true rfl) rfl h10 (fun r15 M14 h13 => ?_)
    refine zt_istore_n d_M_layBest_24 rfl rfl (by decide) rfl ?_
    refine zt_iconst (v := 5) d_M_layBest_25 rfl (by decide) ?_
    refine zt_istore_n d_M_layBest_26 rfl rfl (by decide) rfl ?_
    exact zt_sub [3, 2, 1, 0] rfl h13
theorem b_M_layBest_27 {Q : Int32 → Mem → Prop} {M : Mem} {x1 : Int32} {x2 : Int32} {x3 : Int32} (h : (x3 < 0 → (vp_in 0 1296 ∧ (∀ N6, N6 = uI M 0 24 (M.1 15 (0 : Int32).toNatClampNeg) → (∀ N8, N8 = uI N6 0 23 0 → (wp zY m_M_layBest (QI Q) 288 [(0, .ref 0), (2, .int x2), (3, .int 0)] [] N8))))) ∧ (¬ x3 < 0 → (wp zY m_M_layBest (QI Q) 34 [(0, .ref 0), (1, .int x1), (2, .int x2), (3, .int x3), (4, .int x3)] [] M))) : wp zY m_M_layBest (QI Q) 27 [(0, .ref 0), (1, .int x1), (2, .int x2), (3, .int x3)] [] M := by
  refine zt_iload_n 3 d_M_layBest_27 rfl rfl rfl ?_
  refine zt_if_lt d_M_layBest_28 rfl (tgt := 271) (by decide) ⟨fun c1 => ?_, fun c1 => ?_⟩
  · have h2 := h.1 c1
    refine zt_aload_n 0 d_M_layBest_271 rfl rfl rfl ?_
    refine zt_aload_n 0 d_M_layBest_272 rfl rfl rfl ?_
    refine zt_getR (b := 15) d_M_layBest_273 rfl fl_M_53 rfl rfl ?_
    refine zt_iconst (v := 0) d_M_layBest_276 rfl (by decide) ?_
    obtain ⟨g4, h5⟩ := h2
    refine zt_iald d_M_layBest_277 rfl rfl g4 ?_
    refine zt_putI d_M_layBest_278 rfl fl_M_161 rfl ?_
    have h7 := h5 _ rfl
    refine zt_aload_n 0 d_M_layBest_281 rfl rfl rfl ?_
    refine zt_iconst (v := 0) d_M_layBest_282 rfl (by decide) ?_
    refine zt_putI d_M_layBest_283 rfl fl_M_164 rfl ?_
    have h9 := h7 _ rfl
    refine zt_iconst (v := 0) d_M_layBest_286 rfl (by decide) ?_
    refine zt_istore_n d_M_layBest_287 rfl rfl (by decide) rfl ?_
    exact zt_sub [1, 3, 0] rfl h9
  · have h3 := h.2 c1
    refine zt_iload_n 3 d_M_layBest_31 rfl rfl rfl ?_
    refine zt_istore d_M_layBest_32 rfl (by decide) rfl ?_
    exact zt_sub [1, 2, 3, 4, 0] rfl h3
theorem b_M_layBest_34 {Q : Int32 → Mem → Prop} {M : Mem} {x1 : Int32} {x2 : Int32} {x3 : Int32} {x4 : Int32} (h : (x1 ≤ x4 → (wp zY m_M_layBest (QI Q) 27 [(0, .ref 0), (1, .int x1), (2, .int x2), (3, .int (x3 + (-1)))] [] M)) ∧ (¬ x1 ≤ x4 → ((x4 = x2 → (vp_in x4 1296 ∧ (∀ N9, N9 = uI M 15 x4.toNatClampNeg 0 → (wp zY m_M_layBest (QI Q) 62 [(0, .ref 0), (1, .int x1), (2, .int x2), (3, .int x3), (4, .int x4), (5, .int 0)] [] N9)))) ∧ (¬ x4 = x2 → (vp_in x4 1296 ∧ (∀ N12, N12 = uI M 15 x4.toNatClampNeg 1000000 → (wp zY m_M_layBest (QI Q) 62 [(0, .ref 0), (1, .int x1), (2, .int x2), (3, .int x3), (4, .int x4), (5, .int 0)] [] N12))))))) : wp zY m_M_layBest (QI Q) 34 [(0, .ref 0), (1, .int x1), (2, .int x2), (3, .int x3), (4, .int x4)] [] M := by
  refine zt_iload 4 d_M_layBest_34 rfl rfl ?_
  refine zt_iload_n 1 d_M_layBest_36 rfl rfl rfl ?_
  refine zt_icmp_ge d_M_layBest_37 rfl (tgt := 265) (by decide) ⟨fun c1 => ?_, fun c1 => ?_⟩
  · have h2 := h.1 c1
    refine zt_iinc (v := (x3 + (-1))) 3 d_M_layBest_265 rfl rfl rfl (by decide) rfl ?_
    refine zt_goto d_M_layBest_268 (tgt := 27) (by decide) ?_
    exact zt_sub [1, 2, 3, 0] rfl h2
  · have h3 := h.2 c1
    refine zt_aload_n 0 d_M_layBest_40 rfl rfl rfl ?_
    refine zt_getR (b := 15) d_M_layBest_41 rfl fl_M_53 rfl rfl ?_
    refine zt_iload 4 d_M_layBest_44 rfl rfl ?_
    refine zt_iload 4 d_M_layBest_46 rfl rfl ?_
    refine zt_iload_n 2 d_M_layBest_48 rfl rfl rfl ?_
    refine zt_icmp_ne d_M_layBest_49 rfl (tgt := 56) (by decide) ⟨fun c4 => ?_, fun c4 => ?_⟩
    · have h5 := h3.1 c4
      refine zt_iconst (v := 0) d_M_layBest_52 rfl (by decide) ?_
      refine zt_goto d_M_layBest_53 (tgt := 58) (by decide) ?_
      obtain ⟨g7, h8⟩ := h5
      refine zt_iast d_M_layBest_58 rfl rfl g7 ?_
      have h8 := h8 _ rfl
      refine zt_iconst (v := 0) d_M_layBest_59 rfl (by decide) ?_
      refine zt_istore d_M_layBest_60 rfl (by decide) rfl ?_
      exact zt_sub [1, 2, 3, 4, 5, 0] rfl h8
    · have h6 := h3.2 c4
      refine zt_ldc (v := 1000000) d_M_layBest_56 rfl wd_848 ?_
      obtain ⟨g10, h11⟩ := h6
      refine zt_iast d_M_layBest_58 rfl rfl g10 ?_
      have h11 := h11 _ rfl
      refine zt_iconst (v := 0) d_M_layBest_59 rfl (by decide) ?_
      refine zt_istore d_M_layBest_60 rfl (by decide) rfl ?_
      exact zt_sub [1, 2, 3, 4, 5, 0] rfl h11
theorem b_M_layBest_62 {Q : Int32 → Mem → Prop} {M : Mem} {x1 : Int32} {x2 : Int32} {x3 : Int32} {x4 : Int32} {x5 : Int32} (h : (3844 ≤ x5 → (wp zY m_M_layBest (QI Q) 175 [(0, .ref 0), (1, .int x1), (2, .int x2), (3, .int x3), (4, .int x4), (5, .int 1)] [] M)) ∧ (¬ 3844 ≤ x5 → (vp_in x4 1296 ∧ (((lg_cmp (M.2 14 x4.toNatClampNeg) 0) ≤ 0 → (wp zY m_M_layBest (QI Q) 175 [(0, .ref 0), (1, .int x1), (2, .int x2), (3, .int x3), (4, .int x4), (5, .int 1)] [] M)) ∧ (¬ (lg_cmp (M.2 14 x4.toNatClampNeg) 0) ≤ 0 → (CallI zY m_M_cut [.ref 0, .int x4, .int (x5 / 62), .int (x5 - x5 / 62 * 62)] M (fun r11 M10 => (r11 < 0 → (wp zY m_M_layBest (QI Q) 62 [(0, .ref 0), (1, .int x1), (2, .int x2), (3, .int x3), (4, .int x4), (5, .int (x5 + 1))] [] M10)) ∧ (¬ r11 < 0 → (vp_in r11 1296 ∧ (CallI zY m_M_costOfCut [.ref 0, .int (x5 / 62), .int (x5 - x5 / 62 * 62)] M10 (fun r19 M18 => vp_in x4 1296 ∧ (((M18.1 15 x4.toNatClampNeg) ≤ ((M10.1 15 r11.toNatClampNeg) + r19) → (wp zY m_M_layBest (QI Q) 62 [(0, .ref 0), (1, .int x1), (2, .int x2), (3, .int x3), (4, .int x4), (5, .int (x5 + 1))] [] M18)) ∧ (¬ (M18.1 15 x4.toNatClampNeg) ≤ ((M10.1 15 r11.toNatClampNeg) + r19) → (vp_in r11 1296 ∧ (CallI zY m_M_costOfCut [.ref 0, .int (x5 / 62), .int (x5 - x5 / 62 * 62)] M18 (fun r29 M28 => vp_in x4 1296 ∧ (∀ N32, N32 = uI M28 15 x4.toNatClampNeg ((M18.1 15 r11.toNatClampNeg) + r29) → (wp zY m_M_layBest (QI Q) 62 [(0, .ref 0), (1, .int x1), (2, .int x2), (3, .int x3), (4, .int x4), (5, .int (x5 + 1))] [] N32)))))))))))))))))) : wp zY m_M_layBest (QI Q) 62 [(0, .ref 0), (1, .int x1), (2, .int x2), (3, .int x3), (4, .int x4), (5, .int x5)] [] M := by
  refine zt_iload 5 d_M_layBest_62 rfl rfl ?_
  refine zt_sipush (v := 3844) d_M_layBest_64 rfl (by decide) ?_
  refine zt_icmp_ge d_M_layBest_67 rfl (tgt := 172) (by decide) ⟨fun c1 => ?_, fun c1 => ?_⟩
  · have h2 := h.1 c1
    refine zt_iconst (v := 1) d_M_layBest_172 rfl (by decide) ?_
    refine zt_istore d_M_layBest_173 rfl (by decide) rfl ?_
    exact zt_sub [1, 2, 3, 4, 5, 0] rfl h2
  · have h3 := h.2 c1
    refine zt_aload_n 0 d_M_layBest_70 rfl rfl rfl ?_
    refine zt_getR (b := 14) d_M_layBest_71 rfl fl_M_49 rfl rfl ?_
    refine zt_iload 4 d_M_layBest_74 rfl rfl ?_
    obtain ⟨g4, h5⟩ := h3
    refine zt_lald d_M_layBest_76 rfl rfl g4 ?_
    refine zt_lconst (v := 0) d_M_layBest_77 rfl (by decide) ?_
    refine zt_lcmp d_M_layBest_78 rfl ?_
    refine zt_if_le d_M_layBest_79 rfl (tgt := 172) (by decide) ⟨fun c6 => ?_, fun c6 => ?_⟩
    · have h7 := h5.1 c6
      refine zt_iconst (v := 1) d_M_layBest_172 rfl (by decide) ?_
      refine zt_istore d_M_layBest_173 rfl (by decide) rfl ?_
      exact zt_sub [1, 2, 3, 4, 5, 0] rfl h7
    · have h8 := h5.2 c6
      refine zt_aload_n 0 d_M_layBest_82 rfl rfl rfl ?_
      refine zt_iload 4 d_M_layBest_83 rfl rfl ?_
      refine zt_iload 5 d_M_layBest_85 rfl rfl ?_
      refine zt_bipush (v := 62) d_M_layBest_87 rfl (by decide) ?_
      refine zt_idiv d_M_layBest_89 rfl (by decide) ?_
      refine zt_iload 5 d_M_layBest_90 rfl rfl ?_
      refine zt_bipush (v := 62) d_M_layBest_92 rfl (by decide) ?_
      refine zt_irem d_M_layBest_94 rfl (by decide) ?_
      refine zt_callVI (as := [.int x4, .int (x5 / 62), .int (x5 - x5 / 62 * 62)]) d_M_layBest_95 rfl mi_M_cut ⟨Nat.le_of_ble_eq_true rfl, Nat.le_of_ble_eq_true rfl⟩ wd_825 rfl rfl (Nat.le_of_ble_eq_true rfl) rfl h8 (fun r11 M10 h9 => ?_)
      refine zt_istore d_M_layBest_98 rfl (by decide) rfl ?_
      refine zt_iload 0 d_M_layBest_100 rfl rfl ?_
      refine zt_if_lt d_M_layBest_102 rfl (tgt := 166) (by decide) ⟨fun c12 => ?_, fun c12 => ?_⟩
      · have h13 := h9.1 c12
        refine zt_iinc (v := (x5 + 1)) 6 d_M_layBest_166 rfl rfl rfl (by decide) rfl ?_
        refine zt_goto d_M_layBest_169 (tgt := 62) (by decide) ?_
        exact zt_sub [2, 3, 4, 5, 6, 0] rfl h13
      · have h14 := h9.2 c12
        refine zt_aload_n 1 d_M_layBest_105 rfl rfl rfl ?_
        refine zt_getR (b := 15) d_M_layBest_106 rfl fl_M_53 rfl rfl ?_
        refine zt_iload 0 d_M_layBest_109 rfl rfl ?_
        obtain ⟨g15, h16⟩ := h14
        refine zt_iald d_M_layBest_111 rfl rfl g15 ?_
        refine zt_aload_n 1 d_M_layBest_112 rfl rfl rfl ?_
        refine zt_iload 6 d_M_layBest_113 rfl rfl ?_
        refine zt_bipush (v := 62) d_M_layBest_115 rfl (by decide) ?_
        refine zt_idiv d_M_layBest_117 rfl (by decide) ?_
        refine zt_iload 6 d_M_layBest_118 rfl rfl ?_
        refine zt_bipush (v := 62) d_M_layBest_120 rfl (by decide) ?_
        refine zt_irem d_M_layBest_122 rfl (by decide) ?_
        refine zt_callVI (as := [.int (x5 / 62), .int (x5 - x5 / 62 * 62)]) d_M_layBest_123 rfl mi_M_costOfCut ⟨Nat.le_of_ble_eq_true rfl, Nat.le_of_ble_eq_true rfl⟩ wd_849 rfl rfl (Nat.le_of_ble_eq_true rfl) rfl h16 (fun r19 M18 h17 => ?_)
        refine zt_iadd d_M_layBest_126 rfl ?_
        refine zt_aload_n 1 d_M_layBest_127 rfl rfl rfl ?_
        refine zt_getR (b := 15) d_M_layBest_128 rfl fl_M_53 rfl rfl ?_
        refine zt_iload 5 d_M_layBest_131 rfl rfl ?_
        obtain ⟨g20, h21⟩ := h17
        refine zt_iald d_M_layBest_133 rfl rfl g20 ?_
        refine zt_icmp_ge d_M_layBest_134 rfl (tgt := 166) (by decide) ⟨fun c22 => ?_, fun c22 => ?_⟩
        · have h23 := h21.1 c22
          refine zt_iinc (v := (x5 + 1)) 6 d_M_layBest_166 rfl rfl rfl (by decide) rfl ?_
          refine zt_goto d_M_layBest_169 (tgt := 62) (by decide) ?_
          exact zt_sub [2, 3, 4, 5, 6, 0] rfl h23
        · have h24 := h21.2 c22
          refine zt_aload_n 1 d_M_layBest_137 rfl rfl rfl ?_
          refine zt_getR (b := 15) d_M_layBest_138 rfl fl_M_53 rfl rfl ?_
          refine zt_iload 5 d_M_layBest_141 rfl rfl ?_
          refine zt_aload_n 1 d_M_layBest_143 rfl rfl rfl ?_
          refine zt_getR (b := 15) d_M_layBest_144 rfl fl_M_53 rfl rfl ?_
          refine zt_iload 0 d_M_layBest_147 rfl rfl ?_
          obtain ⟨g25, h26⟩ := h24
          refine zt_iald d_M_layBest_149 rfl rfl g25 ?_
          refine zt_aload_n 1 d_M_layBest_150 rfl rfl rfl ?_
          refine zt_iload 6 d_M_layBest_151 rfl rfl ?_
          refine zt_bipush (v := 62) d_M_layBest_153 rfl (by decide) ?_
          refine zt_idiv d_M_layBest_155 rfl (by decide) ?_
          refine zt_iload 6 d_M_layBest_156 rfl rfl ?_
          refine zt_bipush (v := 62) d_M_layBest_158 rfl (by decide) ?_
          refine zt_irem d_M_layBest_160 rfl (by decide) ?_
          refine zt_callVI (as := [.int (x5 / 62), .int (x5 - x5 / 62 * 62)]) d_M_layBest_161 rfl mi_M_costOfCut ⟨Nat.le_of_ble_eq_true rfl, Nat.le_of_ble_eq_true rfl⟩ wd_849 rfl rfl (Nat.le_of_ble_eq_true rfl) rfl h26 (fun r29 M28 h27 => ?_)
          refine zt_iadd d_M_layBest_164 rfl ?_
          obtain ⟨g30, h31⟩ := h27
          refine zt_iast d_M_layBest_165 rfl rfl g30 ?_
          have h31 := h31 _ rfl
          refine zt_iinc (v := (x5 + 1)) 6 d_M_layBest_166 rfl rfl rfl (by decide) rfl ?_
          refine zt_goto d_M_layBest_169 (tgt := 62) (by decide) ?_
          exact zt_sub [2, 3, 4, 5, 6, 0] rfl h31
theorem b_M_layBest_175 {Q : Int32 → Mem → Prop} {M : Mem} {x1 : Int32} {x2 : Int32} {x3 : Int32} {x4 : Int32} {x5 : Int32} (h : (5 < x5 → (wp zY m_M_layBest (QI Q) 34 [(0, .ref 0), (1, .int x1), (2, .int x2), (3, .int x3), (4, .int (x4 + 6))] [] M)) ∧ (¬ 5 < x5 → (vp_in x4 1296 ∧ (((lg_cmp (M.2 14 x4.toNatClampNeg) 0) ≤ 0 → (wp zY m_M_layBest (QI Q) 34 [(0, .ref 0), (1, .int x1), (2, .int x2), (3, .int x3), (4, .int (x4 + 6))] [] M)) ∧ (¬ (lg_cmp (M.2 14 x4.toNatClampNeg) 0) ≤ 0 → (CallI zY m_M_text [.ref 0, .int x4, .int x5] M (fun r11 M10 => (r11 < 0 → (wp zY m_M_layBest (QI Q) 175 [(0, .ref 0), (1, .int x1), (2, .int x2), (3, .int x3), (4, .int x4), (5, .int (x5 + 1))] [] M10)) ∧ (¬ r11 < 0 → (vp_in r11 1296 ∧ (vp_in x4 1296 ∧ (((M10.1 15 x4.toNatClampNeg) ≤ (((M10.1 15 r11.toNatClampNeg) + (2 * x5)) + 2) → (wp zY m_M_layBest (QI Q) 175 [(0, .ref 0), (1, .int x1), (2, .int x2), (3, .int x3), (4, .int x4), (5, .int (x5 + 1))] [] M10)) ∧ (¬ (M10.1 15 x4.toNatClampNeg) ≤ (((M10.1 15 r11.toNatClampNeg) + (2 * x5)) + 2) → (vp_in r11 1296 ∧ (vp_in x4 1296 ∧ (∀ N26, N26 = uI M10 15 x4.toNatClampNeg (((M10.1 15 r11.toNatClampNeg) + (2 * x5)) + 2) → (wp zY m_M_layBest (QI Q) 175 [(0, .ref 0), (1, .int x1), (2, .int x2), (3, .int x3), (4, .int x4), (5, .int (x5 + 1))] [] N26)))))))))))))))) : wp zY m_M_layBest (QI Q) 175 [(0, .ref 0), (1, .int x1), (2, .int x2), (3, .int x3), (4, .int x4), (5, .int x5)] [] M := by
  refine zt_iload 5 d_M_layBest_175 rfl rfl ?_
  refine zt_iconst (v := 5) d_M_layBest_177 rfl (by decide) ?_
  refine zt_icmp_gt d_M_layBest_178 rfl (tgt := 259) (by decide) ⟨fun c1 => ?_, fun c1 => ?_⟩
  · have h2 := h.1 c1
    refine zt_iinc (v := (x4 + 6)) 4 d_M_layBest_259 rfl rfl rfl (by decide) rfl ?_
    refine zt_goto d_M_layBest_262 (tgt := 34) (by decide) ?_
    exact zt_sub [1, 2, 3, 4, 0] rfl h2
  · have h3 := h.2 c1
    refine zt_aload_n 0 d_M_layBest_181 rfl rfl rfl ?_
    refine zt_getR (b := 14) d_M_layBest_182 rfl fl_M_49 rfl rfl ?_
    refine zt_iload 4 d_M_layBest_185 rfl rfl ?_
    obtain ⟨g4, h5⟩ := h3
    refine zt_lald d_M_layBest_187 rfl rfl g4 ?_
    refine zt_lconst (v := 0) d_M_layBest_188 rfl (by decide) ?_
    refine zt_lcmp d_M_layBest_189 rfl ?_
    refine zt_if_le d_M_layBest_190 rfl (tgt := 259) (by decide) ⟨fun c6 => ?_, fun c6 => ?_⟩
    · have h7 := h5.1 c6
      refine zt_iinc (v := (x4 + 6)) 4 d_M_layBest_259 rfl rfl rfl (by decide) rfl ?_
      refine zt_goto d_M_layBest_262 (tgt := 34) (by decide) ?_
      exact zt_sub [1, 2, 3, 4, 0] rfl h7
    · have h8 := h5.2 c6
      refine zt_aload_n 0 d_M_layBest_193 rfl rfl rfl ?_
      refine zt_iload 4 d_M_layBest_194 rfl rfl ?_
      refine zt_iload 5 d_M_layBest_196 rfl rfl ?_
      refine zt_callVI (as := [.int x4, .int x5]) d_M_layBest_198 rfl mi_M_text ⟨Nat.le_of_ble_eq_true rfl, Nat.le_of_ble_eq_true rfl⟩ wd_832 rfl rfl (Nat.le_of_ble_eq_true rfl) rfl h8 (fun r11 M10 h9 => ?_)
      refine zt_istore d_M_layBest_201 rfl (by decide) rfl ?_
      refine zt_iload 0 d_M_layBest_203 rfl rfl ?_
      refine zt_if_lt d_M_layBest_205 rfl (tgt := 253) (by decide) ⟨fun c12 => ?_, fun c12 => ?_⟩
      · have h13 := h9.1 c12
        refine zt_iinc (v := (x5 + 1)) 6 d_M_layBest_253 rfl rfl rfl (by decide) rfl ?_
        refine zt_goto d_M_layBest_256 (tgt := 175) (by decide) ?_
        exact zt_sub [2, 3, 4, 5, 6, 0] rfl h13
      · have h14 := h9.2 c12
        refine zt_aload_n 1 d_M_layBest_208 rfl rfl rfl ?_
        refine zt_getR (b := 15) d_M_layBest_209 rfl fl_M_53 rfl rfl ?_
        refine zt_iload 0 d_M_layBest_212 rfl rfl ?_
        obtain ⟨g15, h16⟩ := h14
        refine zt_iald d_M_layBest_214 rfl rfl g15 ?_
        refine zt_iconst (v := 2) d_M_layBest_215 rfl (by decide) ?_
        refine zt_iload 6 d_M_layBest_216 rfl rfl ?_
        refine zt_imul d_M_layBest_218 rfl ?_
        refine zt_iadd d_M_layBest_219 rfl ?_
        refine zt_iconst (v := 2) d_M_layBest_220 rfl (by decide) ?_
        refine zt_iadd d_M_layBest_221 rfl ?_
        refine zt_aload_n 1 d_M_layBest_222 rfl rfl rfl ?_
        refine zt_getR (b := 15) d_M_layBest_223 rfl fl_M_53 rfl rfl ?_
        refine zt_iload 5 d_M_layBest_226 rfl rfl ?_
        obtain ⟨g17, h18⟩ := h16
        refine zt_iald d_M_layBest_228 rfl rfl g17 ?_
        refine zt_icmp_ge d_M_layBest_229 rfl (tgt := 253) (by decide) ⟨fun c19 => ?_, fun c19 => ?_⟩
        · have h20 := h18.1 c19
          refine zt_iinc (v := (x5 + 1)) 6 d_M_layBest_253 rfl rfl rfl (by decide) rfl ?_
          refine zt_goto d_M_layBest_256 (tgt := 175) (by decide) ?_
          exact zt_sub [2, 3, 4, 5, 6, 0] rfl h20
        · have h21 := h18.2 c19
          refine zt_aload_n 1 d_M_layBest_232 rfl rfl rfl ?_
          refine zt_getR (b := 15) d_M_layBest_233 rfl fl_M_53 rfl rfl ?_
          refine zt_iload 5 d_M_layBest_236 rfl rfl ?_
          refine zt_aload_n 1 d_M_layBest_238 rfl rfl rfl ?_
          refine zt_getR (b := 15) d_M_layBest_239 rfl fl_M_53 rfl rfl ?_
          refine zt_iload 0 d_M_layBest_242 rfl rfl ?_
          obtain ⟨g22, h23⟩ := h21
          refine zt_iald d_M_layBest_244 rfl rfl g22 ?_
          refine zt_iconst (v := 2) d_M_layBest_245 rfl (by decide) ?_
          refine zt_iload 6 d_M_layBest_246 rfl rfl ?_
          refine zt_imul d_M_layBest_248 rfl ?_
          refine zt_iadd d_M_layBest_249 rfl ?_
          refine zt_iconst (v := 2) d_M_layBest_250 rfl (by decide) ?_
          refine zt_iadd d_M_layBest_251 rfl ?_
          obtain ⟨g24, h25⟩ := h23
          refine zt_iast d_M_layBest_252 rfl rfl g24 ?_
          have h25 := h25 _ rfl
          refine zt_iinc (v := (x5 + 1)) 6 d_M_layBest_253 rfl rfl rfl (by decide) rfl ?_
          refine zt_goto d_M_layBest_256 (tgt := 175) (by decide) ?_
          exact zt_sub [2, 3, 4, 5, 6, 0] rfl h25
theorem b_M_layBest_288 {Q : Int32 → Mem → Prop} {M : Mem} {x2 : Int32} {x3 : Int32} (h : (x3 = x2 → (Q 1 M)) ∧ (¬ x3 = x2 → (CallI zY m_M_goOn [.ref 0, .int x3] M (fun r6 M5 => wp zY m_M_layBest (QI Q) 288 [(0, .ref 0), (2, .int x2), (3, .int r6)] [] M5)))) : wp zY m_M_layBest (QI Q) 288 [(0, .ref 0), (2, .int x2), (3, .int x3)] [] M := by
  refine zt_iload_n 2 d_M_layBest_288 rfl rfl rfl ?_
  refine zt_iload_n 1 d_M_layBest_289 rfl rfl rfl ?_
  refine zt_icmp_eq d_M_layBest_290 rfl (tgt := 302) (by decide) ⟨fun c1 => ?_, fun c1 => ?_⟩
  · have h2 := h.1 c1
    refine zt_iconst (v := 1) d_M_layBest_302 rfl (by decide) ?_
    exact zt_zret rfl d_M_layBest_303 rfl ⟨_, rfl, h2⟩
  · have h3 := h.2 c1
    refine zt_aload_n 0 d_M_layBest_293 rfl rfl rfl ?_
    refine zt_iload_n 2 d_M_layBest_294 rfl rfl rfl ?_
    refine zt_callVI (as := [.int x3]) d_M_layBest_295 rfl mi_M_goOn ⟨Nat.le_of_ble_eq_true rfl, Nat.le_of_ble_eq_true rfl⟩ wd_856 rfl rfl (Nat.le_of_ble_eq_true rfl) rfl h3 (fun r6 M5 h4 => ?_)
    refine zt_istore_n d_M_layBest_298 rfl rfl (by decide) rfl ?_
    refine zt_goto d_M_layBest_299 (tgt := 288) (by decide) ?_
    exact zt_sub [1, 2, 0] rfl h4
theorem e_M_goOn {Q : Int32 → Mem → Prop} {M : Mem} {x1 : Int32} (h : wp zY m_M_goOn (QI Q) 2 [(0, .ref 0), (1, .int x1), (2, .int 0)] [] M) : CallI zY m_M_goOn [.ref 0, .int x1] M Q := by
  refine call_of (by decide) (Nat.le_of_ble_eq_true rfl) ?_
  show wp zY m_M_goOn (QI Q) 0 [(0, .ref 0), (1, .int x1)] [] M
  refine zt_iconst (v := 0) d_M_goOn_0 rfl (by decide) ?_
  refine zt_istore_n d_M_goOn_1 rfl rfl (by decide) rfl ?_
  exact zt_sub [1, 2, 0] rfl h
theorem b_M_goOn_2 {Q : Int32 → Mem → Prop} {M : Mem} {x1 : Int32} {x2 : Int32} (h : (3844 ≤ x2 → (wp zY m_M_goOn (QI Q) 121 [(0, .ref 0), (1, .int x1), (2, .int 1)] [] M)) ∧ (¬ 3844 ≤ x2 → (CallI zY m_M_cut [.ref 0, .int x1, .int (x2 / 62), .int (x2 - x2 / 62 * 62)] M (fun r6 M5 => (r6 < 0 → (wp zY m_M_goOn (QI Q) 2 [(0, .ref 0), (1, .int x1), (2, .int (x2 + 1))] [] M5)) ∧ (¬ r6 < 0 → (vp_in r6 1296 ∧ (CallI zY m_M_costOfCut [.ref 0, .int (x2 / 62), .int (x2 - x2 / 62 * 62)] M5 (fun r14 M13 => vp_in x1 1296 ∧ ((((M5.1 15 r6.toNatClampNeg) + r14) = (M13.1 15 x1.toNatClampNeg) → (vp_in (M13.1 0 23) 5 ∧ (∀ N22, N22 = uI M13 16 (M13.1 0 23).toNatClampNeg 0 → (vp_in (x2 / 62) 62 ∧ (vp_in (N22.1 0 23) 5 ∧ (∀ N27, N27 = uI N22 17 (N22.1 0 23).toNatClampNeg (N22.1 8 (x2 / 62).toNatClampNeg) → (vp_in (x2 - x2 / 62 * 62) 62 ∧ (vp_in (N27.1 0 23) 5 ∧ (∀ N32, N32 = uI N27 18 (N27.1 0 23).toNatClampNeg (N27.1 8 (x2 - x2 / 62 * 62).toNatClampNeg) → (∀ N33, N33 = uI N32 0 23 ((N32.1 0 23) + 1) → (Q r6 N33))))))))))) ∧ (¬ ((M5.1 15 r6.toNatClampNeg) + r14) = (M13.1 15 x1.toNatClampNeg) → (wp zY m_M_goOn (QI Q) 2 [(0, .ref 0), (1, .int x1), (2, .int (x2 + 1))] [] M13))))))))))) : wp zY m_M_goOn (QI Q) 2 [(0, .ref 0), (1, .int x1), (2, .int x2)] [] M := by
  refine zt_iload_n 2 d_M_goOn_2 rfl rfl rfl ?_
  refine zt_sipush (v := 3844) d_M_goOn_3 rfl (by decide) ?_
  refine zt_icmp_ge d_M_goOn_6 rfl (tgt := 119) (by decide) ⟨fun c1 => ?_, fun c1 => ?_⟩
  · have h2 := h.1 c1
    refine zt_iconst (v := 1) d_M_goOn_119 rfl (by decide) ?_
    refine zt_istore_n d_M_goOn_120 rfl rfl (by decide) rfl ?_
    exact zt_sub [1, 2, 0] rfl h2
  · have h3 := h.2 c1
    refine zt_aload_n 0 d_M_goOn_9 rfl rfl rfl ?_
    refine zt_iload_n 1 d_M_goOn_10 rfl rfl rfl ?_
    refine zt_iload_n 2 d_M_goOn_11 rfl rfl rfl ?_
    refine zt_bipush (v := 62) d_M_goOn_12 rfl (by decide) ?_
    refine zt_idiv d_M_goOn_14 rfl (by decide) ?_
    refine zt_iload_n 2 d_M_goOn_15 rfl rfl rfl ?_
    refine zt_bipush (v := 62) d_M_goOn_16 rfl (by decide) ?_
    refine zt_irem d_M_goOn_18 rfl (by decide) ?_
    refine zt_callVI (as := [.int x1, .int (x2 / 62), .int (x2 - x2 / 62 * 62)]) d_M_goOn_19 rfl mi_M_cut ⟨Nat.le_of_ble_eq_true rfl, Nat.le_of_ble_eq_true rfl⟩ wd_825 rfl rfl (Nat.le_of_ble_eq_true rfl) rfl h3 (fun r6 M5 h4 => ?_)
    refine zt_istore_n d_M_goOn_22 rfl rfl (by decide) rfl ?_
    refine zt_iload_n 0 d_M_goOn_23 rfl rfl rfl ?_
    refine zt_if_lt d_M_goOn_24 rfl (tgt := 113) (by decide) ⟨fun c7 => ?_, fun c7 => ?_⟩
    · have h8 := h4.1 c7
      refine zt_iinc (v := (x2 + 1)) 3 d_M_goOn_113 rfl rfl rfl (by decide) rfl ?_
      refine zt_goto d_M_goOn_116 (tgt := 2) (by decide) ?_
      exact zt_sub [2, 3, 0] rfl h8
    · have h9 := h4.2 c7
      refine zt_aload_n 1 d_M_goOn_27 rfl rfl rfl ?_
      refine zt_getR (b := 15) d_M_goOn_28 rfl fl_M_53 rfl rfl ?_
      refine zt_iload_n 0 d_M_goOn_31 rfl rfl rfl ?_
      obtain ⟨g10, h11⟩ := h9
      refine zt_iald d_M_goOn_32 rfl rfl g10 ?_
      refine zt_aload_n 1 d_M_goOn_33 rfl rfl rfl ?_
      refine zt_iload_n 3 d_M_goOn_34 rfl rfl rfl ?_
      refine zt_bipush (v := 62) d_M_goOn_35 rfl (by decide) ?_
      refine zt_idiv d_M_goOn_37 rfl (by decide) ?_
      refine zt_iload_n 3 d_M_goOn_38 rfl rfl rfl ?_
      refine zt_bipush (v := 62) d_M_goOn_39 rfl (by decide) ?_
      refine zt_irem d_M_goOn_41 rfl (by decide) ?_
      refine zt_callVI (as := [.int (x2 / 62), .int (x2 - x2 / 62 * 62)]) d_M_goOn_42 rfl mi_M_costOfCut ⟨Nat.le_of_ble_eq_true rfl, Nat.le_of_ble_eq_true rfl⟩ wd_849 rfl rfl (Nat.le_of_ble_eq_true rfl) rfl h11 (fun r14 M13 h12 => ?_)
      refine zt_iadd d_M_goOn_45 rfl ?_
      refine zt_aload_n 1 d_M_goOn_46 rfl rfl rfl ?_
      refine zt_getR (b := 15) d_M_goOn_47 rfl fl_M_53 rfl rfl ?_
      refine zt_iload_n 2 d_M_goOn_50 rfl rfl rfl ?_
      obtain ⟨g15, h16⟩ := h12
      refine zt_iald d_M_goOn_51 rfl rfl g15 ?_
      refine zt_icmp_ne d_M_goOn_52 rfl (tgt := 113) (by decide) ⟨fun c17 => ?_, fun c17 => ?_⟩
      · have h18 := h16.1 c17
        refine zt_aload_n 1 d_M_goOn_55 rfl rfl rfl ?_
        refine zt_getR (b := 16) d_M_goOn_56 rfl fl_M_56 rfl rfl ?_
        refine zt_aload_n 1 d_M_goOn_59 rfl rfl rfl ?_
        refine zt_getI d_M_goOn_60 rfl fl_M_164 rfl ?_
        refine zt_iconst (v := 0) d_M_goOn_63 rfl (by decide) ?_
        obtain ⟨g20, h21⟩ := h18
        refine zt_iast d_M_goOn_64 rfl rfl g20 ?_
        have h21 := h21 _ rfl
        refine zt_aload_n 1 d_M_goOn_65 rfl rfl rfl ?_
        refine zt_getR (b := 17) d_M_goOn_66 rfl fl_M_59 rfl rfl ?_
        refine zt_aload_n 1 d_M_goOn_69 rfl rfl rfl ?_
        refine zt_getI d_M_goOn_70 rfl fl_M_164 rfl ?_
        refine zt_aload_n 1 d_M_goOn_73 rfl rfl rfl ?_
        refine zt_getR (b := 8) d_M_goOn_74 rfl fl_M_31 rfl rfl ?_
        refine zt_iload_n 3 d_M_goOn_77 rfl rfl rfl ?_
        refine zt_bipush (v := 62) d_M_goOn_78 rfl (by decide) ?_
        refine zt_idiv d_M_goOn_80 rfl (by decide) ?_
        obtain ⟨g23, h24⟩ := h21
        refine zt_iald d_M_goOn_81 rfl rfl g23 ?_
        obtain ⟨g25, h26⟩ := h24
        refine zt_iast d_M_goOn_82 rfl rfl g25 ?_
        have h26 := h26 _ rfl
        refine zt_aload_n 1 d_M_goOn_83 rfl rfl rfl ?_
        refine zt_getR (b := 18) d_M_goOn_84 rfl fl_M_62 rfl rfl ?_
        refine zt_aload_n 1 d_M_goOn_87 rfl rfl rfl ?_
        refine zt_getI d_M_goOn_88 rfl fl_M_164 rfl ?_
        refine zt_aload_n 1 d_M_goOn_91 rfl rfl rfl ?_
        refine zt_getR (b := 8) d_M_goOn_92 rfl fl_M_31 rfl rfl ?_
        refine zt_iload_n 3 d_M_goOn_95 rfl rfl rfl ?_
        refine zt_bipush (v := 62) d_M_goOn_96 rfl (by decide) ?_
        refine zt_irem d_M_goOn_98 rfl (by decide) ?_
        obtain ⟨g28, h29⟩ := h26
        refine zt_iald d_M_goOn_99 rfl rfl g28 ?_
        obtain ⟨g30, h31⟩ := h29
        refine zt_iast d_M_goOn_100 rfl rfl g30 ?_
        have h31 := h31 _ rfl
        refine zt_aload_n 1 d_M_goOn_101 rfl rfl rfl ?_
        refine zt_dup d_M_goOn_102 rfl rfl ?_
        refine zt_getI d_M_goOn_103 rfl fl_M_164 rfl ?_
        refine zt_iconst (v := 1) d_M_goOn_106 rfl (by decide) ?_
        refine zt_iadd d_M_goOn_107 rfl ?_
        refine zt_putI d_M_goOn_108 rfl fl_M_164 rfl ?_
        have h34 := h31 _ rfl
        refine zt_iload_n 0 d_M_goOn_111 rfl rfl rfl ?_
        exact zt_iret rfl d_M_goOn_112 ⟨_, rfl, h34⟩
      · have h19 := h16.2 c17
        refine zt_iinc (v := (x2 + 1)) 3 d_M_goOn_113 rfl rfl rfl (by decide) rfl ?_
        refine zt_goto d_M_goOn_116 (tgt := 2) (by decide) ?_
        exact zt_sub [2, 3, 0] rfl h19
theorem b_M_goOn_121 {Q : Int32 → Mem → Prop} {M : Mem} {x1 : Int32} {x2 : Int32} (h : (5 < x2 → (Q x1 M)) ∧ (¬ 5 < x2 → (CallI zY m_M_text [.ref 0, .int x1, .int x2] M (fun r6 M5 => (r6 < 0 → (wp zY m_M_goOn (QI Q) 121 [(0, .ref 0), (1, .int x1), (2, .int (x2 + 1))] [] M5)) ∧ (¬ r6 < 0 → (vp_in r6 1296 ∧ (vp_in x1 1296 ∧ (((((M5.1 15 r6.toNatClampNeg) + (2 * x2)) + 2) = (M5.1 15 x1.toNatClampNeg) → (vp_in (M5.1 0 23) 5 ∧ (∀ N19, N19 = uI M5 16 (M5.1 0 23).toNatClampNeg 1 → (vp_in (N19.1 0 23) 5 ∧ (∀ N22, N22 = uI N19 17 (N19.1 0 23).toNatClampNeg x2 → (CallI zY m_M_at [.int x1, .int 0] N22 (fun r25 M24 => vp_in (N22.1 0 23) 5 ∧ (∀ N28, N28 = uI M24 18 (N22.1 0 23).toNatClampNeg r25 → (∀ N29, N29 = uI N28 0 23 ((N28.1 0 23) + 1) → (Q r6 N29)))))))))) ∧ (¬ (((M5.1 15 r6.toNatClampNeg) + (2 * x2)) + 2) = (M5.1 15 x1.toNatClampNeg) → (wp zY m_M_goOn (QI Q) 121 [(0, .ref 0), (1, .int x1), (2, .int (x2 + 1))] [] M5)))))))))) : wp zY m_M_goOn (QI Q) 121 [(0, .ref 0), (1, .int x1), (2, .int x2)] [] M := by
  refine zt_iload_n 2 d_M_goOn_121 rfl rfl rfl ?_
  refine zt_iconst (v := 5) d_M_goOn_122 rfl (by decide) ?_
  refine zt_icmp_gt d_M_goOn_123 rfl (tgt := 210) (by decide) ⟨fun c1 => ?_, fun c1 => ?_⟩
  · have h2 := h.1 c1
    refine zt_iload_n 1 d_M_goOn_210 rfl rfl rfl ?_
    exact zt_iret rfl d_M_goOn_211 ⟨_, rfl, h2⟩
  · have h3 := h.2 c1
    refine zt_aload_n 0 d_M_goOn_126 rfl rfl rfl ?_
    refine zt_iload_n 1 d_M_goOn_127 rfl rfl rfl ?_
    refine zt_iload_n 2 d_M_goOn_128 rfl rfl rfl ?_
    refine zt_callVI (as := [.int x1, .int x2]) d_M_goOn_129 rfl mi_M_text ⟨Nat.le_of_ble_eq_true rfl, Nat.le_of_ble_eq_true rfl⟩ wd_832 rfl rfl (Nat.le_of_ble_eq_true rfl) rfl h3 (fun r6 M5 h4 => ?_)
    refine zt_istore_n d_M_goOn_132 rfl rfl (by decide) rfl ?_
    refine zt_iload_n 0 d_M_goOn_133 rfl rfl rfl ?_
    refine zt_if_lt d_M_goOn_134 rfl (tgt := 204) (by decide) ⟨fun c7 => ?_, fun c7 => ?_⟩
    · have h8 := h4.1 c7
      refine zt_iinc (v := (x2 + 1)) 3 d_M_goOn_204 rfl rfl rfl (by decide) rfl ?_
      refine zt_goto d_M_goOn_207 (tgt := 121) (by decide) ?_
      exact zt_sub [2, 3, 0] rfl h8
    · have h9 := h4.2 c7
      refine zt_aload_n 1 d_M_goOn_137 rfl rfl rfl ?_
      refine zt_getR (b := 15) d_M_goOn_138 rfl fl_M_53 rfl rfl ?_
      refine zt_iload_n 0 d_M_goOn_141 rfl rfl rfl ?_
      obtain ⟨g10, h11⟩ := h9
      refine zt_iald d_M_goOn_142 rfl rfl g10 ?_
      refine zt_iconst (v := 2) d_M_goOn_143 rfl (by decide) ?_
      refine zt_iload_n 3 d_M_goOn_144 rfl rfl rfl ?_
      refine zt_imul d_M_goOn_145 rfl ?_
      refine zt_iadd d_M_goOn_146 rfl ?_
      refine zt_iconst (v := 2) d_M_goOn_147 rfl (by decide) ?_
      refine zt_iadd d_M_goOn_148 rfl ?_
      refine zt_aload_n 1 d_M_goOn_149 rfl rfl rfl ?_
      refine zt_getR (b := 15) d_M_goOn_150 rfl fl_M_53 rfl rfl ?_
      refine zt_iload_n 2 d_M_goOn_153 rfl rfl rfl ?_
      obtain ⟨g12, h13⟩ := h11
      refine zt_iald d_M_goOn_154 rfl rfl g12 ?_
      refine zt_icmp_ne d_M_goOn_155 rfl (tgt := 204) (by decide) ⟨fun c14 => ?_, fun c14 => ?_⟩
      · have h15 := h13.1 c14
        refine zt_aload_n 1 d_M_goOn_158 rfl rfl rfl ?_
        refine zt_getR (b := 16) d_M_goOn_159 rfl fl_M_56 rfl rfl ?_
        refine zt_aload_n 1 d_M_goOn_162 rfl rfl rfl ?_
        refine zt_getI d_M_goOn_163 rfl fl_M_164 rfl ?_
        refine zt_iconst (v := 1) d_M_goOn_166 rfl (by decide) ?_
        obtain ⟨g17, h18⟩ := h15
        refine zt_iast d_M_goOn_167 rfl rfl g17 ?_
        have h18 := h18 _ rfl
        refine zt_aload_n 1 d_M_goOn_168 rfl rfl rfl ?_
        refine zt_getR (b := 17) d_M_goOn_169 rfl fl_M_59 rfl rfl ?_
        refine zt_aload_n 1 d_M_goOn_172 rfl rfl rfl ?_
        refine zt_getI d_M_goOn_173 rfl fl_M_164 rfl ?_
        refine zt_iload_n 3 d_M_goOn_176 rfl rfl rfl ?_
        obtain ⟨g20, h21⟩ := h18
        refine zt_iast d_M_goOn_177 rfl rfl g20 ?_
        have h21 := h21 _ rfl
        refine zt_aload_n 1 d_M_goOn_178 rfl rfl rfl ?_
        refine zt_getR (b := 18) d_M_goOn_179 rfl fl_M_62 rfl rfl ?_
        refine zt_aload_n 1 d_M_goOn_182 rfl rfl rfl ?_
        refine zt_getI d_M_goOn_183 rfl fl_M_164 rfl ?_
        refine zt_iload_n 2 d_M_goOn_186 rfl rfl rfl ?_
        refine zt_iconst (v := 0) d_M_goOn_187 rfl (by decide) ?_
        refine zt_callSI (as := [.int x1, .int 0]) d_M_goOn_188 rfl ms_M_at ⟨Nat.le_of_ble_eq_true rfl, Nat.le_of_ble_eq_true rfl⟩ wd_829 rfl rfl (Nat.le_of_ble_eq_true rfl) h21 (fun r25 M24 h23 => ?_)
        obtain ⟨g26, h27⟩ := h23
        refine zt_iast d_M_goOn_191 rfl rfl g26 ?_
        have h27 := h27 _ rfl
        refine zt_aload_n 1 d_M_goOn_192 rfl rfl rfl ?_
        refine zt_dup d_M_goOn_193 rfl rfl ?_
        refine zt_getI d_M_goOn_194 rfl fl_M_164 rfl ?_
        refine zt_iconst (v := 1) d_M_goOn_197 rfl (by decide) ?_
        refine zt_iadd d_M_goOn_198 rfl ?_
        refine zt_putI d_M_goOn_199 rfl fl_M_164 rfl ?_
        have h30 := h27 _ rfl
        refine zt_iload_n 0 d_M_goOn_202 rfl rfl rfl ?_
        exact zt_iret rfl d_M_goOn_203 ⟨_, rfl, h30⟩
      · have h16 := h13.2 c14
        refine zt_iinc (v := (x2 + 1)) 3 d_M_goOn_204 rfl rfl rfl (by decide) rfl ?_
        refine zt_goto d_M_goOn_207 (tgt := 121) (by decide) ?_
        exact zt_sub [2, 3, 0] rfl h16
theorem e_M_plans {Q : Int64 → Mem → Prop} {M : Mem}  (h : ((M.1 0 4) = 0 → (Q (-3) M)) ∧ (¬ (M.1 0 4) = 0 → (CallV zY m_M_layExamples [.ref 0] M (fun M5 => CallL zY m_M_count [.ref 0] M5 (fun r9 M8 => Q r9 M8))))) : CallL zY m_M_plans [.ref 0] M Q := by
  refine call_of (by decide) (Nat.le_of_ble_eq_true rfl) ?_
  show wp zY m_M_plans (QL Q) 0 [(0, .ref 0)] [] M
  refine zt_aload_n 0 d_M_plans_0 rfl rfl rfl ?_
  refine zt_getI d_M_plans_1 rfl fl_M_98 rfl ?_
  refine zt_if_ne d_M_plans_4 rfl (tgt := 11) (by decide) ⟨fun c1 => ?_, fun c1 => ?_⟩
  · have h2 := h.1 c1
    refine zt_ldc2_w (v := -3) d_M_plans_7 rfl wd_805 ?_
    exact zt_lret rfl d_M_plans_10 ⟨_, rfl, h2⟩
  · have h3 := h.2 c1
    refine zt_aload_n 0 d_M_plans_11 rfl rfl rfl ?_
    refine zt_callVV (as := []) d_M_plans_12 rfl mi_M_layExamples ⟨Nat.le_of_ble_eq_true rfl, Nat.le_of_ble_eq_true rfl⟩ wd_806 rfl rfl (Nat.le_of_ble_eq_true rfl) rfl h3 (fun M5 h4 => ?_)
    refine zt_aload_n 0 d_M_plans_15 rfl rfl rfl ?_
    refine zt_callVL (as := []) d_M_plans_16 rfl mi_M_count ⟨Nat.le_of_ble_eq_true rfl, Nat.le_of_ble_eq_true rfl⟩ wd_814 rfl rfl (Nat.le_of_ble_eq_true rfl) rfl h4 (fun r9 M8 h7 => ?_)
    exact zt_lret rfl d_M_plans_19 ⟨_, rfl, h7⟩
theorem e_M_cost {Q : Int32 → Mem → Prop} {M : Mem} {x1 : Int32} (h : ((-2) ≤ x1 → (((M.1 0 4) = 0 → (Q (-3) M)) ∧ (¬ (M.1 0 4) = 0 → (CallI zY m_M_layBest [.ref 0] M (fun r9 M8 => (r9 = 0 → (Q (-6) M8)) ∧ (¬ r9 = 0 → ((x1 = (-1) → (Q (M8.1 0 24) M8)) ∧ (¬ x1 = (-1) → ((x1 = (-2) → (Q (M8.1 0 23) M8)) ∧ (¬ x1 = (-2) → (((M8.1 0 23) ≤ x1 → (Q (-6) M8)) ∧ (¬ (M8.1 0 23) ≤ x1 → (CallI zY m_M_costOfPiece [.ref 0, .int x1] M8 (fun r24 M23 => Q r24 M23)))))))))))))) ∧ (¬ (-2) ≤ x1 → (Q (-2) M))) : CallI zY m_M_cost [.ref 0, .int x1] M Q := by
  refine call_of (by decide) (Nat.le_of_ble_eq_true rfl) ?_
  show wp zY m_M_cost (QI Q) 0 [(0, .ref 0), (1, .int x1)] [] M
  refine zt_iload_n 1 d_M_cost_0 rfl rfl rfl ?_
  refine zt_bipush (v := -2) d_M_cost_1 rfl (by decide) ?_
  refine zt_icmp_ge d_M_cost_3 rfl (tgt := 9) (by decide) ⟨fun c1 => ?_, fun c1 => ?_⟩
  · have h2 := h.1 c1
    refine zt_aload_n 0 d_M_cost_9 rfl rfl rfl ?_
    refine zt_getI d_M_cost_10 rfl fl_M_98 rfl ?_
    refine zt_if_ne d_M_cost_13 rfl (tgt := 19) (by decide) ⟨fun c4 => ?_, fun c4 => ?_⟩
    · have h5 := h2.1 c4
      refine zt_bipush (v := -3) d_M_cost_16 rfl (by decide) ?_
      exact zt_iret rfl d_M_cost_18 ⟨_, rfl, h5⟩
    · have h6 := h2.2 c4
      refine zt_aload_n 0 d_M_cost_19 rfl rfl rfl ?_
      refine zt_callVI (as := []) d_M_cost_20 rfl mi_M_layBest ⟨Nat.le_of_ble_eq_true rfl, Nat.le_of_ble_eq_true rfl⟩ wd_844 rfl rfl (Nat.le_of_ble_eq_true rfl) rfl h6 (fun r9 M8 h7 => ?_)
      refine zt_if_ne d_M_cost_23 rfl (tgt := 29) (by decide) ⟨fun c10 => ?_, fun c10 => ?_⟩
      · have h11 := h7.1 c10
        refine zt_bipush (v := -6) d_M_cost_26 rfl (by decide) ?_
        exact zt_iret rfl d_M_cost_28 ⟨_, rfl, h11⟩
      · have h12 := h7.2 c10
        refine zt_iload_n 1 d_M_cost_29 rfl rfl rfl ?_
        refine zt_iconst (v := -1) d_M_cost_30 rfl (by decide) ?_
        refine zt_icmp_ne d_M_cost_31 rfl (tgt := 41) (by decide) ⟨fun c13 => ?_, fun c13 => ?_⟩
        · have h14 := h12.1 c13
          refine zt_aload_n 0 d_M_cost_34 rfl rfl rfl ?_
          refine zt_getI d_M_cost_35 rfl fl_M_161 rfl ?_
          refine zt_goto d_M_cost_38 (tgt := 72) (by decide) ?_
          exact zt_iret rfl d_M_cost_72 ⟨_, rfl, h14⟩
        · have h15 := h12.2 c13
          refine zt_iload_n 1 d_M_cost_41 rfl rfl rfl ?_
          refine zt_bipush (v := -2) d_M_cost_42 rfl (by decide) ?_
          refine zt_icmp_ne d_M_cost_44 rfl (tgt := 54) (by decide) ⟨fun c16 => ?_, fun c16 => ?_⟩
          · have h17 := h15.1 c16
            refine zt_aload_n 0 d_M_cost_47 rfl rfl rfl ?_
            refine zt_getI d_M_cost_48 rfl fl_M_164 rfl ?_
            refine zt_goto d_M_cost_51 (tgt := 72) (by decide) ?_
            exact zt_iret rfl d_M_cost_72 ⟨_, rfl, h17⟩
          · have h18 := h15.2 c16
            refine zt_iload_n 1 d_M_cost_54 rfl rfl rfl ?_
            refine zt_aload_n 0 d_M_cost_55 rfl rfl rfl ?_
            refine zt_getI d_M_cost_56 rfl fl_M_164 rfl ?_
            refine zt_icmp_ge d_M_cost_59 rfl (tgt := 70) (by decide) ⟨fun c19 => ?_, fun c19 => ?_⟩
            · have h20 := h18.1 c19
              refine zt_bipush (v := -6) d_M_cost_70 rfl (by decide) ?_
              exact zt_iret rfl d_M_cost_72 ⟨_, rfl, h20⟩
            · have h21 := h18.2 c19
              refine zt_aload_n 0 d_M_cost_62 rfl rfl rfl ?_
              refine zt_iload_n 1 d_M_cost_63 rfl rfl rfl ?_
              refine zt_callVI (as := [.int x1]) d_M_cost_64 rfl mi_M_costOfPiece ⟨Nat.le_of_ble_eq_true rfl, Nat.le_of_ble_eq_true rfl⟩ wd_860 rfl rfl (Nat.le_of_ble_eq_true rfl) rfl h21 (fun r24 M23 h22 => ?_)
              refine zt_goto d_M_cost_67 (tgt := 72) (by decide) ?_
              exact zt_iret rfl d_M_cost_72 ⟨_, rfl, h22⟩
  · have h3 := h.2 c1
    refine zt_bipush (v := -2) d_M_cost_6 rfl (by decide) ?_
    exact zt_iret rfl d_M_cost_8 ⟨_, rfl, h3⟩
theorem e_M_piece {Q : Int32 → Mem → Prop} {M : Mem} {x1 : Int32} {x2 : Int32} (h : ((M.1 0 4) = 0 → (Q (-3) M)) ∧ (¬ (M.1 0 4) = 0 → (CallI zY m_M_layBest [.ref 0] M (fun r6 M5 => (r6 = 0 → (Q (-1) M5)) ∧ (¬ r6 = 0 → (CallI zY m_M_in [.int x1, .int 0, .int ((M5.1 0 23) - 1)] M5 (fun r12 M11 => (r12 = 0 → (Q (-1) M11)) ∧ (¬ r12 = 0 → (((x2.toInt < 0 ∨ 2 < x2.toInt) → (Q (-2) M11)) ∧ (x2.toInt = 0 → (vp_in x1 5 ∧ (Q (M11.1 16 x1.toNatClampNeg) M11))) ∧ (x2.toInt = 1 → (vp_in x1 5 ∧ (Q (M11.1 17 x1.toNatClampNeg) M11))) ∧ (x2.toInt = 2 → (vp_in x1 5 ∧ (((M11.1 16 x1.toNatClampNeg) = 0 → (vp_in x1 5 ∧ (Q (M11.1 18 x1.toNatClampNeg) M11))) ∧ (¬ (M11.1 16 x1.toNatClampNeg) = 0 → (vp_in x1 5 ∧ (vp_in (M11.1 18 x1.toNatClampNeg) 15 ∧ (Q (M11.1 3 (M11.1 18 x1.toNatClampNeg).toNatClampNeg) M11)))))))))))))))) : CallI zY m_M_piece [.ref 0, .int x1, .int x2] M Q := by
  refine call_of (by decide) (Nat.le_of_ble_eq_true rfl) ?_
  show wp zY m_M_piece (QI Q) 0 [(0, .ref 0), (1, .int x1), (2, .int x2)] [] M
  refine zt_aload_n 0 d_M_piece_0 rfl rfl rfl ?_
  refine zt_getI d_M_piece_1 rfl fl_M_98 rfl ?_
  refine zt_if_ne d_M_piece_4 rfl (tgt := 10) (by decide) ⟨fun c1 => ?_, fun c1 => ?_⟩
  · have h2 := h.1 c1
    refine zt_bipush (v := -3) d_M_piece_7 rfl (by decide) ?_
    exact zt_iret rfl d_M_piece_9 ⟨_, rfl, h2⟩
  · have h3 := h.2 c1
    refine zt_aload_n 0 d_M_piece_10 rfl rfl rfl ?_
    refine zt_callVI (as := []) d_M_piece_11 rfl mi_M_layBest ⟨Nat.le_of_ble_eq_true rfl, Nat.le_of_ble_eq_true rfl⟩ wd_844 rfl rfl (Nat.le_of_ble_eq_true rfl) rfl h3 (fun r6 M5 h4 => ?_)
    refine zt_if_eq d_M_piece_14 rfl (tgt := 31) (by decide) ⟨fun c7 => ?_, fun c7 => ?_⟩
    · have h8 := h4.1 c7
      refine zt_iconst (v := -1) d_M_piece_31 rfl (by decide) ?_
      exact zt_iret rfl d_M_piece_32 ⟨_, rfl, h8⟩
    · have h9 := h4.2 c7
      refine zt_iload_n 1 d_M_piece_17 rfl rfl rfl ?_
      refine zt_iconst (v := 0) d_M_piece_18 rfl (by decide) ?_
      refine zt_aload_n 0 d_M_piece_19 rfl rfl rfl ?_
      refine zt_getI d_M_piece_20 rfl fl_M_164 rfl ?_
      refine zt_iconst (v := 1) d_M_piece_23 rfl (by decide) ?_
      refine zt_isub d_M_piece_24 rfl ?_
      refine zt_callSI (as := [.int x1, .int 0, .int ((M5.1 0 23) - 1)]) d_M_piece_25 rfl ms_M_in ⟨Nat.le_of_ble_eq_true rfl, Nat.le_of_ble_eq_true rfl⟩ wd_654 rfl rfl (Nat.le_of_ble_eq_true rfl) h9 (fun r12 M11 h10 => ?_)
      refine zt_if_ne d_M_piece_28 rfl (tgt := 33) (by decide) ⟨fun c13 => ?_, fun c13 => ?_⟩
      · have h14 := h10.1 c13
        refine zt_iconst (v := -1) d_M_piece_31 rfl (by decide) ?_
        exact zt_iret rfl d_M_piece_32 ⟨_, rfl, h14⟩
      · have h15 := h10.2 c13
        refine zt_iload_n 2 d_M_piece_33 rfl rfl rfl ?_
        by_cases c16 : x2.toInt < 0 ∨ 2 < x2.toInt
        · refine zt_tabOut d_M_piece_34 c16 (tgt := 104) (by decide) ?_
          have h17 := h15.1 c16
          refine zt_bipush (v := -2) d_M_piece_104 rfl (by decide) ?_
          exact zt_iret rfl d_M_piece_106 ⟨_, rfl, h17⟩
        · have e18 : x2.toInt = 0 ∨ x2.toInt = 1 ∨ x2.toInt = 2 := by omega
          rcases e18 with e18 | e18 | e18
          · refine zt_tabIn (off := 26) d_M_piece_34 (by omega) (by omega) (by rw [e18]; rfl) (tgt := 60) (by decide) ?_
            have h19 := h15.2.1 e18
            refine zt_aload_n 0 d_M_piece_60 rfl rfl rfl ?_
            refine zt_getR (b := 16) d_M_piece_61 rfl fl_M_56 rfl rfl ?_
            refine zt_iload_n 1 d_M_piece_64 rfl rfl rfl ?_
            obtain ⟨g20, h21⟩ := h19
            refine zt_iald d_M_piece_65 rfl rfl g20 ?_
            exact zt_iret rfl d_M_piece_66 ⟨_, rfl, h21⟩
          · refine zt_tabIn (off := 33) d_M_piece_34 (by omega) (by omega) (by rw [e18]; rfl) (tgt := 67) (by decide) ?_
            have h22 := h15.2.2.1 e18
            refine zt_aload_n 0 d_M_piece_67 rfl rfl rfl ?_
            refine zt_getR (b := 17) d_M_piece_68 rfl fl_M_59 rfl rfl ?_
            refine zt_iload_n 1 d_M_piece_71 rfl rfl rfl ?_
            obtain ⟨g23, h24⟩ := h22
            refine zt_iald d_M_piece_72 rfl rfl g23 ?_
            exact zt_iret rfl d_M_piece_73 ⟨_, rfl, h24⟩
          · refine zt_tabIn (off := 40) d_M_piece_34 (by omega) (by omega) (by rw [e18]; rfl) (tgt := 74) (by decide) ?_
            have h25 := h15.2.2.2 e18
            refine zt_aload_n 0 d_M_piece_74 rfl rfl rfl ?_
            refine zt_getR (b := 16) d_M_piece_75 rfl fl_M_56 rfl rfl ?_
            refine zt_iload_n 1 d_M_piece_78 rfl rfl rfl ?_
            obtain ⟨g26, h27⟩ := h25
            refine zt_iald d_M_piece_79 rfl rfl g26 ?_
            refine zt_if_ne d_M_piece_80 rfl (tgt := 92) (by decide) ⟨fun c28 => ?_, fun c28 => ?_⟩
            · have h29 := h27.1 c28
              refine zt_aload_n 0 d_M_piece_83 rfl rfl rfl ?_
              refine zt_getR (b := 18) d_M_piece_84 rfl fl_M_62 rfl rfl ?_
              refine zt_iload_n 1 d_M_piece_87 rfl rfl rfl ?_
              obtain ⟨g31, h32⟩ := h29
              refine zt_iald d_M_piece_88 rfl rfl g31 ?_
              refine zt_goto d_M_piece_89 (tgt := 103) (by decide) ?_
              exact zt_iret rfl d_M_piece_103 ⟨_, rfl, h32⟩
            · have h30 := h27.2 c28
              refine zt_aload_n 0 d_M_piece_92 rfl rfl rfl ?_
              refine zt_getR (b := 3) d_M_piece_93 rfl fl_M_16 rfl rfl ?_
              refine zt_aload_n 0 d_M_piece_96 rfl rfl rfl ?_
              refine zt_getR (b := 18) d_M_piece_97 rfl fl_M_62 rfl rfl ?_
              refine zt_iload_n 1 d_M_piece_100 rfl rfl rfl ?_
              obtain ⟨g33, h34⟩ := h30
              refine zt_iald d_M_piece_101 rfl rfl g33 ?_
              obtain ⟨g35, h36⟩ := h34
              refine zt_iald d_M_piece_102 rfl rfl g35 ?_
              exact zt_iret rfl d_M_piece_103 ⟨_, rfl, h36⟩
theorem e_M_make {Q : Int32 → Mem → Prop} {M : Mem}  (h : wp zY m_M_make (QI Q) 4 [(0, .ref 0), (1, .int 0), (2, .int 0)] [] M) : CallI zY m_M_make [.ref 0] M Q := by
  refine call_of (by decide) (Nat.le_of_ble_eq_true rfl) ?_
  show wp zY m_M_make (QI Q) 0 [(0, .ref 0)] [] M
  refine zt_iconst (v := 0) d_M_make_0 rfl (by decide) ?_
  refine zt_istore_n d_M_make_1 rfl rfl (by decide) rfl ?_
  refine zt_iconst (v := 0) d_M_make_2 rfl (by decide) ?_
  refine zt_istore_n d_M_make_3 rfl rfl (by decide) rfl ?_
  exact zt_sub [2, 1, 0] rfl h
theorem b_M_make_4 {Q : Int32 → Mem → Prop} {M : Mem} {x1 : Int32} {x2 : Int32} (h : ((M.1 0 23) ≤ x2 → (Q x1 M)) ∧ (¬ (M.1 0 23) ≤ x2 → (vp_in x2 5 ∧ (((M.1 16 x2.toNatClampNeg) = 1 → (wp zY m_M_make (QI Q) 24 [(0, .ref 0), (1, .int x1), (2, .int x2), (3, .int 0)] [] M)) ∧ (¬ (M.1 16 x2.toNatClampNeg) = 1 → (vp_in x2 5 ∧ (CallI zY m_M_placeOf [.ref 0, .int (M.1 17 x2.toNatClampNeg)] M (fun r13 M12 => vp_in x2 5 ∧ (CallI zY m_M_placeOf [.ref 0, .int (M12.1 18 x2.toNatClampNeg)] M12 (fun r18 M17 => (r13 < 0 → (Q 0 M17)) ∧ (¬ r13 < 0 → ((r13 < r18 → (wp zY m_M_make (QI Q) 103 [(0, .ref 0), (1, .int x1), (2, .int x2), (4, .int r18), (5, .int r13)] [] M17)) ∧ (¬ r13 < r18 → (Q 0 M17)))))))))))))) : wp zY m_M_make (QI Q) 4 [(0, .ref 0), (1, .int x1), (2, .int x2)] [] M := by
  refine zt_iload_n 2 d_M_make_4 rfl rfl rfl ?_
  refine zt_aload_n 0 d_M_make_5 rfl rfl rfl ?_
  refine zt_getI d_M_make_6 rfl fl_M_164 rfl ?_
  refine zt_icmp_ge d_M_make_9 rfl (tgt := 138) (by decide) ⟨fun c1 => ?_, fun c1 => ?_⟩
  · have h2 := h.1 c1
    refine zt_iload_n 1 d_M_make_138 rfl rfl rfl ?_
    exact zt_iret rfl d_M_make_139 ⟨_, rfl, h2⟩
  · have h3 := h.2 c1
    refine zt_aload_n 0 d_M_make_12 rfl rfl rfl ?_
    refine zt_getR (b := 16) d_M_make_13 rfl fl_M_56 rfl rfl ?_
    refine zt_iload_n 2 d_M_make_16 rfl rfl rfl ?_
    obtain ⟨g4, h5⟩ := h3
    refine zt_iald d_M_make_17 rfl rfl g4 ?_
    refine zt_iconst (v := 1) d_M_make_18 rfl (by decide) ?_
    refine zt_icmp_ne d_M_make_19 rfl (tgt := 65) (by decide) ⟨fun c6 => ?_, fun c6 => ?_⟩
    · have h7 := h5.1 c6
      refine zt_iconst (v := 0) d_M_make_22 rfl (by decide) ?_
      refine zt_istore_n d_M_make_23 rfl rfl (by decide) rfl ?_
      exact zt_sub [1, 2, 3, 0] rfl h7
    · have h8 := h5.2 c6
      refine zt_aload_n 0 d_M_make_65 rfl rfl rfl ?_
      refine zt_aload_n 0 d_M_make_66 rfl rfl rfl ?_
      refine zt_getR (b := 17) d_M_make_67 rfl fl_M_59 rfl rfl ?_
      refine zt_iload_n 2 d_M_make_70 rfl rfl rfl ?_
      obtain ⟨g9, h10⟩ := h8
      refine zt_iald d_M_make_71 rfl rfl g9 ?_
      refine zt_callVI (as := [.int (M.1 17 x2.toNatClampNeg)]) d_M_make_72 rfl mi_M_placeOf ⟨Nat.le_of_ble_eq_true rfl, Nat.le_of_ble_eq_true rfl⟩ wd_793 rfl rfl (Nat.le_of_ble_eq_true rfl) rfl h10 (fun r13 M12 h11 => ?_)
      refine zt_istore_n d_M_make_75 rfl rfl (by decide) rfl ?_
      refine zt_aload_n 1 d_M_make_76 rfl rfl rfl ?_
      refine zt_aload_n 1 d_M_make_77 rfl rfl rfl ?_
      refine zt_getR (b := 18) d_M_make_78 rfl fl_M_62 rfl rfl ?_
      refine zt_iload_n 3 d_M_make_81 rfl rfl rfl ?_
      obtain ⟨g14, h15⟩ := h11
      refine zt_iald d_M_make_82 rfl rfl g14 ?_
      refine zt_callVI (as := [.int (M12.1 18 x2.toNatClampNeg)]) d_M_make_83 rfl mi_M_placeOf ⟨Nat.le_of_ble_eq_true rfl, Nat.le_of_ble_eq_true rfl⟩ wd_793 rfl rfl (Nat.le_of_ble_eq_true rfl) rfl h15 (fun r18 M17 h16 => ?_)
      refine zt_istore d_M_make_86 rfl (by decide) rfl ?_
      refine zt_iload_n 1 d_M_make_88 rfl rfl rfl ?_
      refine zt_if_lt d_M_make_89 rfl (tgt := 98) (by decide) ⟨fun c19 => ?_, fun c19 => ?_⟩
      · have h20 := h16.1 c19
        refine zt_iconst (v := 0) d_M_make_98 rfl (by decide) ?_
        exact zt_iret rfl d_M_make_99 ⟨_, rfl, h20⟩
      · have h21 := h16.2 c19
        refine zt_iload_n 1 d_M_make_92 rfl rfl rfl ?_
        refine zt_iload 0 d_M_make_93 rfl rfl ?_
        refine zt_icmp_lt d_M_make_95 rfl (tgt := 100) (by decide) ⟨fun c22 => ?_, fun c22 => ?_⟩
        · have h23 := h21.1 c22
          refine zt_iload_n 1 d_M_make_100 rfl rfl rfl ?_
          refine zt_istore d_M_make_101 rfl (by decide) rfl ?_
          exact zt_sub [3, 4, 5, 1, 0] rfl h23
        · have h24 := h21.2 c22
          refine zt_iconst (v := 0) d_M_make_98 rfl (by decide) ?_
          exact zt_iret rfl d_M_make_99 ⟨_, rfl, h24⟩
theorem b_M_make_24 {Q : Int32 → Mem → Prop} {M : Mem} {x1 : Int32} {x2 : Int32} {x3 : Int32} (h : vp_in x2 5 ∧ (((M.1 17 x2.toNatClampNeg) ≤ x3 → (wp zY m_M_make (QI Q) 4 [(0, .ref 0), (1, .int x1), (2, .int (x2 + 1))] [] M)) ∧ (¬ (M.1 17 x2.toNatClampNeg) ≤ x3 → (vp_in x2 5 ∧ (vp_in ((M.1 18 x2.toNatClampNeg) + x3) 15 ∧ (vp_in x1 60 ∧ (∀ N12, N12 = uI M 19 x1.toNatClampNeg (M.1 3 ((M.1 18 x2.toNatClampNeg) + x3).toNatClampNeg) → (wp zY m_M_make (QI Q) 24 [(0, .ref 0), (1, .int (x1 + 1)), (2, .int x2), (3, .int (x3 + 1))] [] N12)))))))) : wp zY m_M_make (QI Q) 24 [(0, .ref 0), (1, .int x1), (2, .int x2), (3, .int x3)] [] M := by
  refine zt_iload_n 3 d_M_make_24 rfl rfl rfl ?_
  refine zt_aload_n 0 d_M_make_25 rfl rfl rfl ?_
  refine zt_getR (b := 17) d_M_make_26 rfl fl_M_59 rfl rfl ?_
  refine zt_iload_n 2 d_M_make_29 rfl rfl rfl ?_
  obtain ⟨g1, h2⟩ := h
  refine zt_iald d_M_make_30 rfl rfl g1 ?_
  refine zt_icmp_ge d_M_make_31 rfl (tgt := 62) (by decide) ⟨fun c3 => ?_, fun c3 => ?_⟩
  · have h4 := h2.1 c3
    refine zt_goto d_M_make_62 (tgt := 132) (by decide) ?_
    refine zt_iinc (v := (x2 + 1)) 2 d_M_make_132 rfl rfl rfl (by decide) rfl ?_
    refine zt_goto d_M_make_135 (tgt := 4) (by decide) ?_
    exact zt_sub [1, 2, 0] rfl h4
  · have h5 := h2.2 c3
    refine zt_aload_n 0 d_M_make_34 rfl rfl rfl ?_
    refine zt_getR (b := 19) d_M_make_35 rfl fl_M_65 rfl rfl ?_
    refine zt_iload_n 1 d_M_make_38 rfl rfl rfl ?_
    refine zt_aload_n 0 d_M_make_39 rfl rfl rfl ?_
    refine zt_getR (b := 3) d_M_make_40 rfl fl_M_16 rfl rfl ?_
    refine zt_aload_n 0 d_M_make_43 rfl rfl rfl ?_
    refine zt_getR (b := 18) d_M_make_44 rfl fl_M_62 rfl rfl ?_
    refine zt_iload_n 2 d_M_make_47 rfl rfl rfl ?_
    obtain ⟨g6, h7⟩ := h5
    refine zt_iald d_M_make_48 rfl rfl g6 ?_
    refine zt_iload_n 3 d_M_make_49 rfl rfl rfl ?_
    refine zt_iadd d_M_make_50 rfl ?_
    obtain ⟨g8, h9⟩ := h7
    refine zt_iald d_M_make_51 rfl rfl g8 ?_
    obtain ⟨g10, h11⟩ := h9
    refine zt_iast d_M_make_52 rfl rfl g10 ?_
    have h11 := h11 _ rfl
    refine zt_iinc (v := (x1 + 1)) 1 d_M_make_53 rfl rfl rfl (by decide) rfl ?_
    refine zt_iinc (v := (x3 + 1)) 3 d_M_make_56 rfl rfl rfl (by decide) rfl ?_
    refine zt_goto d_M_make_59 (tgt := 24) (by decide) ?_
    exact zt_sub [2, 1, 3, 0] rfl h11
theorem b_M_make_103 {Q : Int32 → Mem → Prop} {M : Mem} {x1 : Int32} {x2 : Int32} {x4 : Int32} {x5 : Int32} (h : (x4 ≤ x5 → (wp zY m_M_make (QI Q) 4 [(0, .ref 0), (1, .int x1), (2, .int (x2 + 1))] [] M)) ∧ (¬ x4 ≤ x5 → (vp_in x5 12 ∧ (vp_in x1 60 ∧ (∀ N8, N8 = uI M 19 x1.toNatClampNeg (M.1 9 x5.toNatClampNeg) → (wp zY m_M_make (QI Q) 103 [(0, .ref 0), (1, .int (x1 + 1)), (2, .int x2), (4, .int x4), (5, .int (x5 + 1))] [] N8)))))) : wp zY m_M_make (QI Q) 103 [(0, .ref 0), (1, .int x1), (2, .int x2), (4, .int x4), (5, .int x5)] [] M := by
  refine zt_iload 4 d_M_make_103 rfl rfl ?_
  refine zt_iload 3 d_M_make_105 rfl rfl ?_
  refine zt_icmp_ge d_M_make_107 rfl (tgt := 132) (by decide) ⟨fun c1 => ?_, fun c1 => ?_⟩
  · have h2 := h.1 c1
    refine zt_iinc (v := (x2 + 1)) 2 d_M_make_132 rfl rfl rfl (by decide) rfl ?_
    refine zt_goto d_M_make_135 (tgt := 4) (by decide) ?_
    exact zt_sub [1, 2, 0] rfl h2
  · have h3 := h.2 c1
    refine zt_aload_n 0 d_M_make_110 rfl rfl rfl ?_
    refine zt_getR (b := 19) d_M_make_111 rfl fl_M_65 rfl rfl ?_
    refine zt_iload_n 1 d_M_make_114 rfl rfl rfl ?_
    refine zt_aload_n 0 d_M_make_115 rfl rfl rfl ?_
    refine zt_getR (b := 9) d_M_make_116 rfl fl_M_34 rfl rfl ?_
    refine zt_iload 4 d_M_make_119 rfl rfl ?_
    obtain ⟨g4, h5⟩ := h3
    refine zt_iald d_M_make_121 rfl rfl g4 ?_
    obtain ⟨g6, h7⟩ := h5
    refine zt_iast d_M_make_122 rfl rfl g6 ?_
    have h7 := h7 _ rfl
    refine zt_iinc (v := (x1 + 1)) 1 d_M_make_123 rfl rfl rfl (by decide) rfl ?_
    refine zt_iinc (v := (x5 + 1)) 4 d_M_make_126 rfl rfl rfl (by decide) rfl ?_
    refine zt_goto d_M_make_129 (tgt := 103) (by decide) ?_
    exact zt_sub [2, 1, 3, 4, 0] rfl h7
theorem e_M_makes {Q : Int32 → Mem → Prop} {M : Mem} {x1 : Int32} (h : CallI zY m_M_lineFault [.ref 0] M (fun r3 M2 => (r3 < 0 → (((M2.1 0 4) = 0 → (Q (-3) M2)) ∧ (¬ (M2.1 0 4) = 0 → (CallI zY m_M_layBest [.ref 0] M2 (fun r12 M11 => (r12 = 0 → (Q (-6) M11)) ∧ (¬ r12 = 0 → (CallV zY m_M_lookAtPad [.ref 0] M11 (fun M17 => CallI zY m_M_make [.ref 0] M17 (fun r21 M20 => (x1 = (-1) → (Q r21 M20)) ∧ (¬ x1 = (-1) → (CallI zY m_M_in [.int x1, .int 0, .int (r21 - 1)] M20 (fun r27 M26 => (r27 = 0 → (Q (-6) M26)) ∧ (¬ r27 = 0 → (vp_in x1 60 ∧ (Q (M26.1 19 x1.toNatClampNeg) M26))))))))))))))) ∧ (¬ r3 < 0 → (Q (-5) M2)))) : CallI zY m_M_makes [.ref 0, .int x1] M Q := by
  refine call_of (by decide) (Nat.le_of_ble_eq_true rfl) ?_
  show wp zY m_M_makes (QI Q) 0 [(0, .ref 0), (1, .int x1)] [] M
  refine zt_aload_n 0 d_M_makes_0 rfl rfl rfl ?_
  refine zt_callVI (as := []) d_M_makes_1 rfl mi_M_lineFault ⟨Nat.le_of_ble_eq_true rfl, Nat.le_of_ble_eq_true rfl⟩ wd_761 rfl rfl (Nat.le_of_ble_eq_true rfl) rfl h (fun r3 M2 h1 => ?_)
  refine zt_if_lt d_M_makes_4 rfl (tgt := 10) (by decide) ⟨fun c4 => ?_, fun c4 => ?_⟩
  · have h5 := h1.1 c4
    refine zt_aload_n 0 d_M_makes_10 rfl rfl rfl ?_
    refine zt_getI d_M_makes_11 rfl fl_M_98 rfl ?_
    refine zt_if_ne d_M_makes_14 rfl (tgt := 20) (by decide) ⟨fun c7 => ?_, fun c7 => ?_⟩
    · have h8 := h5.1 c7
      refine zt_bipush (v := -3) d_M_makes_17 rfl (by decide) ?_
      exact zt_iret rfl d_M_makes_19 ⟨_, rfl, h8⟩
    · have h9 := h5.2 c7
      refine zt_aload_n 0 d_M_makes_20 rfl rfl rfl ?_
      refine zt_callVI (as := []) d_M_makes_21 rfl mi_M_layBest ⟨Nat.le_of_ble_eq_true rfl, Nat.le_of_ble_eq_true rfl⟩ wd_844 rfl rfl (Nat.le_of_ble_eq_true rfl) rfl h9 (fun r12 M11 h10 => ?_)
      refine zt_if_ne d_M_makes_24 rfl (tgt := 30) (by decide) ⟨fun c13 => ?_, fun c13 => ?_⟩
      · have h14 := h10.1 c13
        refine zt_bipush (v := -6) d_M_makes_27 rfl (by decide) ?_
        exact zt_iret rfl d_M_makes_29 ⟨_, rfl, h14⟩
      · have h15 := h10.2 c13
        refine zt_aload_n 0 d_M_makes_30 rfl rfl rfl ?_
        refine zt_callVV (as := []) d_M_makes_31 rfl mi_M_lookAtPad ⟨Nat.le_of_ble_eq_true rfl, Nat.le_of_ble_eq_true rfl⟩ wd_789 rfl rfl (Nat.le_of_ble_eq_true rfl) rfl h15 (fun M17 h16 => ?_)
        refine zt_aload_n 0 d_M_makes_34 rfl rfl rfl ?_
        refine zt_callVI (as := []) d_M_makes_35 rfl mi_M_make ⟨Nat.le_of_ble_eq_true rfl, Nat.le_of_ble_eq_true rfl⟩ wd_872 rfl rfl (Nat.le_of_ble_eq_true rfl) rfl h16 (fun r21 M20 h19 => ?_)
        refine zt_istore_n d_M_makes_38 rfl rfl (by decide) rfl ?_
        refine zt_iload_n 2 d_M_makes_39 rfl rfl rfl ?_
        refine zt_iconst (v := -1) d_M_makes_40 rfl (by decide) ?_
        refine zt_icmp_ne d_M_makes_41 rfl (tgt := 48) (by decide) ⟨fun c22 => ?_, fun c22 => ?_⟩
        · have h23 := h19.1 c22
          refine zt_iload_n 0 d_M_makes_44 rfl rfl rfl ?_
          refine zt_goto d_M_makes_45 (tgt := 70) (by decide) ?_
          exact zt_iret rfl d_M_makes_70 ⟨_, rfl, h23⟩
        · have h24 := h19.2 c22
          refine zt_iload_n 2 d_M_makes_48 rfl rfl rfl ?_
          refine zt_iconst (v := 0) d_M_makes_49 rfl (by decide) ?_
          refine zt_iload_n 0 d_M_makes_50 rfl rfl rfl ?_
          refine zt_iconst (v := 1) d_M_makes_51 rfl (by decide) ?_
          refine zt_isub d_M_makes_52 rfl ?_
          refine zt_callSI (as := [.int x1, .int 0, .int (r21 - 1)]) d_M_makes_53 rfl ms_M_in ⟨Nat.le_of_ble_eq_true rfl, Nat.le_of_ble_eq_true rfl⟩ wd_654 rfl rfl (Nat.le_of_ble_eq_true rfl) h24 (fun r27 M26 h25 => ?_)
          refine zt_if_eq d_M_makes_56 rfl (tgt := 68) (by decide) ⟨fun c28 => ?_, fun c28 => ?_⟩
          · have h29 := h25.1 c28
            refine zt_bipush (v := -6) d_M_makes_68 rfl (by decide) ?_
            exact zt_iret rfl d_M_makes_70 ⟨_, rfl, h29⟩
          · have h30 := h25.2 c28
            refine zt_aload_n 1 d_M_makes_59 rfl rfl rfl ?_
            refine zt_getR (b := 19) d_M_makes_60 rfl fl_M_65 rfl rfl ?_
            refine zt_iload_n 2 d_M_makes_63 rfl rfl rfl ?_
            obtain ⟨g31, h32⟩ := h30
            refine zt_iald d_M_makes_64 rfl rfl g31 ?_
            refine zt_goto d_M_makes_65 (tgt := 70) (by decide) ?_
            exact zt_iret rfl d_M_makes_70 ⟨_, rfl, h32⟩
  · have h6 := h1.2 c4
    refine zt_bipush (v := -5) d_M_makes_7 rfl (by decide) ?_
    exact zt_iret rfl d_M_makes_9 ⟨_, rfl, h6⟩
theorem e_M_accept {Q : Int32 → Mem → Prop} {M : Mem} {x1 : Int32} (h : CallI zY m_M_in [.int x1, .int 0, .int ((M.1 0 7) - 1)] M (fun r3 M2 => (r3 = 0 → (Q (-1) M2)) ∧ (¬ r3 = 0 → (((M2.1 0 4) = 0 → (Q (-3) M2)) ∧ (¬ (M2.1 0 4) = 0 → (CallI zY m_M_layBest [.ref 0] M2 (fun r12 M11 => (r12 = 0 → (Q (-5) M11)) ∧ (¬ r12 = 0 → (CallV zY m_M_lookAtPool [.ref 0, .int x1] M11 (fun M17 => CallI zY m_M_make [.ref 0] M17 (fun r21 M20 => CallI zY m_M_in [.int r21, .int 1, .int 5] M20 (fun r24 M23 => (r24 = 0 → (Q (-5) M23)) ∧ (¬ r24 = 0 → (((M23.1 0 4) = 3 → (Q (-4) M23)) ∧ (¬ (M23.1 0 4) = 3 → (wp zY m_M_accept (QI Q) 71 [(0, .ref 0), (1, .int x1), (2, .int r21), (3, .int 0)] [] M23)))))))))))))))) : CallI zY m_M_accept [.ref 0, .int x1] M Q := by
  refine call_of (by decide) (Nat.le_of_ble_eq_true rfl) ?_
  show wp zY m_M_accept (QI Q) 0 [(0, .ref 0), (1, .int x1)] [] M
  refine zt_iload_n 1 d_M_accept_0 rfl rfl rfl ?_
  refine zt_iconst (v := 0) d_M_accept_1 rfl (by decide) ?_
  refine zt_aload_n 0 d_M_accept_2 rfl rfl rfl ?_
  refine zt_getI d_M_accept_3 rfl fl_M_101 rfl ?_
  refine zt_iconst (v := 1) d_M_accept_6 rfl (by decide) ?_
  refine zt_isub d_M_accept_7 rfl ?_
  refine zt_callSI (as := [.int x1, .int 0, .int ((M.1 0 7) - 1)]) d_M_accept_8 rfl ms_M_in ⟨Nat.le_of_ble_eq_true rfl, Nat.le_of_ble_eq_true rfl⟩ wd_654 rfl rfl (Nat.le_of_ble_eq_true rfl) h (fun r3 M2 h1 => ?_)
  refine zt_if_ne d_M_accept_11 rfl (tgt := 16) (by decide) ⟨fun c4 => ?_, fun c4 => ?_⟩
  · have h5 := h1.1 c4
    refine zt_iconst (v := -1) d_M_accept_14 rfl (by decide) ?_
    exact zt_iret rfl d_M_accept_15 ⟨_, rfl, h5⟩
  · have h6 := h1.2 c4
    refine zt_aload_n 0 d_M_accept_16 rfl rfl rfl ?_
    refine zt_getI d_M_accept_17 rfl fl_M_98 rfl ?_
    refine zt_if_ne d_M_accept_20 rfl (tgt := 26) (by decide) ⟨fun c7 => ?_, fun c7 => ?_⟩
    · have h8 := h6.1 c7
      refine zt_bipush (v := -3) d_M_accept_23 rfl (by decide) ?_
      exact zt_iret rfl d_M_accept_25 ⟨_, rfl, h8⟩
    · have h9 := h6.2 c7
      refine zt_aload_n 0 d_M_accept_26 rfl rfl rfl ?_
      refine zt_callVI (as := []) d_M_accept_27 rfl mi_M_layBest ⟨Nat.le_of_ble_eq_true rfl, Nat.le_of_ble_eq_true rfl⟩ wd_844 rfl rfl (Nat.le_of_ble_eq_true rfl) rfl h9 (fun r12 M11 h10 => ?_)
      refine zt_if_ne d_M_accept_30 rfl (tgt := 36) (by decide) ⟨fun c13 => ?_, fun c13 => ?_⟩
      · have h14 := h10.1 c13
        refine zt_bipush (v := -5) d_M_accept_33 rfl (by decide) ?_
        exact zt_iret rfl d_M_accept_35 ⟨_, rfl, h14⟩
      · have h15 := h10.2 c13
        refine zt_aload_n 0 d_M_accept_36 rfl rfl rfl ?_
        refine zt_iload_n 1 d_M_accept_37 rfl rfl rfl ?_
        refine zt_callVV (as := [.int x1]) d_M_accept_38 rfl mi_M_lookAtPool ⟨Nat.le_of_ble_eq_true rfl, Nat.le_of_ble_eq_true rfl⟩ wd_880 rfl rfl (Nat.le_of_ble_eq_true rfl) rfl h15 (fun M17 h16 => ?_)
        refine zt_aload_n 0 d_M_accept_41 rfl rfl rfl ?_
        refine zt_callVI (as := []) d_M_accept_42 rfl mi_M_make ⟨Nat.le_of_ble_eq_true rfl, Nat.le_of_ble_eq_true rfl⟩ wd_872 rfl rfl (Nat.le_of_ble_eq_true rfl) rfl h16 (fun r21 M20 h19 => ?_)
        refine zt_istore_n d_M_accept_45 rfl rfl (by decide) rfl ?_
        refine zt_iload_n 0 d_M_accept_46 rfl rfl rfl ?_
        refine zt_iconst (v := 1) d_M_accept_47 rfl (by decide) ?_
        refine zt_iconst (v := 5) d_M_accept_48 rfl (by decide) ?_
        refine zt_callSI (as := [.int r21, .int 1, .int 5]) d_M_accept_49 rfl ms_M_in ⟨Nat.le_of_ble_eq_true rfl, Nat.le_of_ble_eq_true rfl⟩ wd_654 rfl rfl (Nat.le_of_ble_eq_true rfl) h19 (fun r24 M23 h22 => ?_)
        refine zt_if_ne d_M_accept_52 rfl (tgt := 58) (by decide) ⟨fun c25 => ?_, fun c25 => ?_⟩
        · have h26 := h22.1 c25
          refine zt_bipush (v := -5) d_M_accept_55 rfl (by decide) ?_
          exact zt_iret rfl d_M_accept_57 ⟨_, rfl, h26⟩
        · have h27 := h22.2 c25
          refine zt_aload_n 1 d_M_accept_58 rfl rfl rfl ?_
          refine zt_getI d_M_accept_59 rfl fl_M_98 rfl ?_
          refine zt_iconst (v := 3) d_M_accept_62 rfl (by decide) ?_
          refine zt_icmp_ne d_M_accept_63 rfl (tgt := 69) (by decide) ⟨fun c28 => ?_, fun c28 => ?_⟩
          · have h29 := h27.1 c28
            refine zt_bipush (v := -4) d_M_accept_66 rfl (by decide) ?_
            exact zt_iret rfl d_M_accept_68 ⟨_, rfl, h29⟩
          · have h30 := h27.2 c28
            refine zt_iconst (v := 0) d_M_accept_69 rfl (by decide) ?_
            refine zt_istore_n d_M_accept_70 rfl rfl (by decide) rfl ?_
            exact zt_sub [2, 3, 1, 0] rfl h30
theorem b_M_accept_71 {Q : Int32 → Mem → Prop} {M : Mem} {x1 : Int32} {x2 : Int32} {x3 : Int32} (h : ((M.1 0 12) ≤ x3 → (wp zY m_M_accept (QI Q) 107 [(0, .ref 0), (1, .int x1), (2, .int x2), (3, .int 0)] [] M)) ∧ (¬ (M.1 0 12) ≤ x3 → (vp_in x3 12 ∧ (vp_in ((12 * (M.1 0 4)) + x3) 36 ∧ (∀ N8, N8 = uI M 1 ((12 * (M.1 0 4)) + x3).toNatClampNeg (M.1 9 x3.toNatClampNeg) → (wp zY m_M_accept (QI Q) 71 [(0, .ref 0), (1, .int x1), (2, .int x2), (3, .int (x3 + 1))] [] N8)))))) : wp zY m_M_accept (QI Q) 71 [(0, .ref 0), (1, .int x1), (2, .int x2), (3, .int x3)] [] M := by
  refine zt_iload_n 3 d_M_accept_71 rfl rfl rfl ?_
  refine zt_aload_n 0 d_M_accept_72 rfl rfl rfl ?_
  refine zt_getI d_M_accept_73 rfl fl_M_108 rfl ?_
  refine zt_icmp_ge d_M_accept_76 rfl (tgt := 105) (by decide) ⟨fun c1 => ?_, fun c1 => ?_⟩
  · have h2 := h.1 c1
    refine zt_iconst (v := 0) d_M_accept_105 rfl (by decide) ?_
    refine zt_istore_n d_M_accept_106 rfl rfl (by decide) rfl ?_
    exact zt_sub [1, 2, 3, 0] rfl h2
  · have h3 := h.2 c1
    refine zt_aload_n 0 d_M_accept_79 rfl rfl rfl ?_
    refine zt_getR (b := 1) d_M_accept_80 rfl fl_M_7 rfl rfl ?_
    refine zt_bipush (v := 12) d_M_accept_83 rfl (by decide) ?_
    refine zt_aload_n 0 d_M_accept_85 rfl rfl rfl ?_
    refine zt_getI d_M_accept_86 rfl fl_M_98 rfl ?_
    refine zt_imul d_M_accept_89 rfl ?_
    refine zt_iload_n 3 d_M_accept_90 rfl rfl rfl ?_
    refine zt_iadd d_M_accept_91 rfl ?_
    refine zt_aload_n 0 d_M_accept_92 rfl rfl rfl ?_
    refine zt_getR (b := 9) d_M_accept_93 rfl fl_M_34 rfl rfl ?_
    refine zt_iload_n 3 d_M_accept_96 rfl rfl rfl ?_
    obtain ⟨g4, h5⟩ := h3
    refine zt_iald d_M_accept_97 rfl rfl g4 ?_
    obtain ⟨g6, h7⟩ := h5
    refine zt_iast d_M_accept_98 rfl rfl g6 ?_
    have h7 := h7 _ rfl
    refine zt_iinc (v := (x3 + 1)) 3 d_M_accept_99 rfl rfl rfl (by decide) rfl ?_
    refine zt_goto d_M_accept_102 (tgt := 71) (by decide) ?_
    exact zt_sub [1, 2, 3, 0] rfl h7
theorem b_M_accept_107 {Q : Int32 → Mem → Prop} {M : Mem} {x1 : Int32} {x2 : Int32} {x3 : Int32} (h : (x2 ≤ x3 → (vp_in (M.1 0 4) 3 ∧ (∀ N6, N6 = uI M 2 (M.1 0 4).toNatClampNeg (M.1 0 12) → (vp_in (N6.1 0 4) 3 ∧ (∀ N9, N9 = uI N6 4 (N6.1 0 4).toNatClampNeg x2 → (∀ N10, N10 = uI N9 0 4 ((N9.1 0 4) + 1) → (CallV zY m_M_goFrom [.ref 0, .int x1] N10 (fun M13 => Q (M13.1 0 4) M13)))))))) ∧ (¬ x2 ≤ x3 → (vp_in x3 60 ∧ (vp_in ((5 * (M.1 0 4)) + x3) 15 ∧ (∀ N19, N19 = uI M 3 ((5 * (M.1 0 4)) + x3).toNatClampNeg (M.1 19 x3.toNatClampNeg) → (wp zY m_M_accept (QI Q) 107 [(0, .ref 0), (1, .int x1), (2, .int x2), (3, .int (x3 + 1))] [] N19)))))) : wp zY m_M_accept (QI Q) 107 [(0, .ref 0), (1, .int x1), (2, .int x2), (3, .int x3)] [] M := by
  refine zt_iload_n 3 d_M_accept_107 rfl rfl rfl ?_
  refine zt_iload_n 2 d_M_accept_108 rfl rfl rfl ?_
  refine zt_icmp_ge d_M_accept_109 rfl (tgt := 137) (by decide) ⟨fun c1 => ?_, fun c1 => ?_⟩
  · have h2 := h.1 c1
    refine zt_aload_n 0 d_M_accept_137 rfl rfl rfl ?_
    refine zt_getR (b := 2) d_M_accept_138 rfl fl_M_13 rfl rfl ?_
    refine zt_aload_n 0 d_M_accept_141 rfl rfl rfl ?_
    refine zt_getI d_M_accept_142 rfl fl_M_98 rfl ?_
    refine zt_aload_n 0 d_M_accept_145 rfl rfl rfl ?_
    refine zt_getI d_M_accept_146 rfl fl_M_108 rfl ?_
    obtain ⟨g4, h5⟩ := h2
    refine zt_iast d_M_accept_149 rfl rfl g4 ?_
    have h5 := h5 _ rfl
    refine zt_aload_n 0 d_M_accept_150 rfl rfl rfl ?_
    refine zt_getR (b := 4) d_M_accept_151 rfl fl_M_19 rfl rfl ?_
    refine zt_aload_n 0 d_M_accept_154 rfl rfl rfl ?_
    refine zt_getI d_M_accept_155 rfl fl_M_98 rfl ?_
    refine zt_iload_n 2 d_M_accept_158 rfl rfl rfl ?_
    obtain ⟨g7, h8⟩ := h5
    refine zt_iast d_M_accept_159 rfl rfl g7 ?_
    have h8 := h8 _ rfl
    refine zt_aload_n 0 d_M_accept_160 rfl rfl rfl ?_
    refine zt_dup d_M_accept_161 rfl rfl ?_
    refine zt_getI d_M_accept_162 rfl fl_M_98 rfl ?_
    refine zt_iconst (v := 1) d_M_accept_165 rfl (by decide) ?_
    refine zt_iadd d_M_accept_166 rfl ?_
    refine zt_putI d_M_accept_167 rfl fl_M_98 rfl ?_
    have h11 := h8 _ rfl
    refine zt_aload_n 0 d_M_accept_170 rfl rfl rfl ?_
    refine zt_iload_n 1 d_M_accept_171 rfl rfl rfl ?_
    refine zt_callVV (as := [.int x1]) d_M_accept_172 rfl mi_M_goFrom ⟨Nat.le_of_ble_eq_true rfl, Nat.le_of_ble_eq_true rfl⟩ wd_781 rfl rfl (Nat.le_of_ble_eq_true rfl) rfl h11 (fun M13 h12 => ?_)
    refine zt_aload_n 0 d_M_accept_175 rfl rfl rfl ?_
    refine zt_getI d_M_accept_176 rfl fl_M_98 rfl ?_
    exact zt_iret rfl d_M_accept_179 ⟨_, rfl, h12⟩
  · have h3 := h.2 c1
    refine zt_aload_n 0 d_M_accept_112 rfl rfl rfl ?_
    refine zt_getR (b := 3) d_M_accept_113 rfl fl_M_16 rfl rfl ?_
    refine zt_iconst (v := 5) d_M_accept_116 rfl (by decide) ?_
    refine zt_aload_n 0 d_M_accept_117 rfl rfl rfl ?_
    refine zt_getI d_M_accept_118 rfl fl_M_98 rfl ?_
    refine zt_imul d_M_accept_121 rfl ?_
    refine zt_iload_n 3 d_M_accept_122 rfl rfl rfl ?_
    refine zt_iadd d_M_accept_123 rfl ?_
    refine zt_aload_n 0 d_M_accept_124 rfl rfl rfl ?_
    refine zt_getR (b := 19) d_M_accept_125 rfl fl_M_65 rfl rfl ?_
    refine zt_iload_n 3 d_M_accept_128 rfl rfl rfl ?_
    obtain ⟨g15, h16⟩ := h3
    refine zt_iald d_M_accept_129 rfl rfl g15 ?_
    obtain ⟨g17, h18⟩ := h16
    refine zt_iast d_M_accept_130 rfl rfl g17 ?_
    have h18 := h18 _ rfl
    refine zt_iinc (v := (x3 + 1)) 3 d_M_accept_131 rfl rfl rfl (by decide) rfl ?_
    refine zt_goto d_M_accept_134 (tgt := 107) (by decide) ?_
    exact zt_sub [1, 2, 3, 0] rfl h18
theorem e_M_agreeingOf {Q : Int64 → Mem → Prop} {M : Mem} {x1 : Int32} (h : CallV zY m_M_lookAtPool [.ref 0, .int x1] M (fun M2 => CallI zY m_M_make [.ref 0] M2 (fun r6 M5 => CallI zY m_M_in [.int r6, .int 1, .int 5] M5 (fun r9 M8 => (r9 = 0 → (Q (-5) M8)) ∧ (¬ r9 = 0 → (wp zY m_M_agreeingOf (QL Q) 25 [(0, .ref 0), (2, .int r6), (3, .int 0)] [] M8)))))) : CallL zY m_M_agreeingOf [.ref 0, .int x1] M Q := by
  refine call_of (by decide) (Nat.le_of_ble_eq_true rfl) ?_
  show wp zY m_M_agreeingOf (QL Q) 0 [(0, .ref 0), (1, .int x1)] [] M
  refine zt_aload_n 0 d_M_agreeingOf_0 rfl rfl rfl ?_
  refine zt_iload_n 1 d_M_agreeingOf_1 rfl rfl rfl ?_
  refine zt_callVV (as := [.int x1]) d_M_agreeingOf_2 rfl mi_M_lookAtPool ⟨Nat.le_of_ble_eq_true rfl, Nat.le_of_ble_eq_true rfl⟩ wd_880 rfl rfl (Nat.le_of_ble_eq_true rfl) rfl h (fun M2 h1 => ?_)
  refine zt_aload_n 0 d_M_agreeingOf_5 rfl rfl rfl ?_
  refine zt_callVI (as := []) d_M_agreeingOf_6 rfl mi_M_make ⟨Nat.le_of_ble_eq_true rfl, Nat.le_of_ble_eq_true rfl⟩ wd_872 rfl rfl (Nat.le_of_ble_eq_true rfl) rfl h1 (fun r6 M5 h4 => ?_)
  refine zt_istore_n d_M_agreeingOf_9 rfl rfl (by decide) rfl ?_
  refine zt_iload_n 0 d_M_agreeingOf_10 rfl rfl rfl ?_
  refine zt_iconst (v := 1) d_M_agreeingOf_11 rfl (by decide) ?_
  refine zt_iconst (v := 5) d_M_agreeingOf_12 rfl (by decide) ?_
  refine zt_callSI (as := [.int r6, .int 1, .int 5]) d_M_agreeingOf_13 rfl ms_M_in ⟨Nat.le_of_ble_eq_true rfl, Nat.le_of_ble_eq_true rfl⟩ wd_654 rfl rfl (Nat.le_of_ble_eq_true rfl) h4 (fun r9 M8 h7 => ?_)
  refine zt_if_ne d_M_agreeingOf_16 rfl (tgt := 23) (by decide) ⟨fun c10 => ?_, fun c10 => ?_⟩
  · have h11 := h7.1 c10
    refine zt_ldc2_w (v := -5) d_M_agreeingOf_19 rfl wd_893 ?_
    exact zt_lret rfl d_M_agreeingOf_22 ⟨_, rfl, h11⟩
  · have h12 := h7.2 c10
    refine zt_iconst (v := 0) d_M_agreeingOf_23 rfl (by decide) ?_
    refine zt_istore_n d_M_agreeingOf_24 rfl rfl (by decide) rfl ?_
    exact zt_sub [2, 1, 0] rfl h12
theorem b_M_agreeingOf_25 {Q : Int64 → Mem → Prop} {M : Mem} {x2 : Int32} {x3 : Int32} (h : (x2 ≤ x3 → (vp_in (M.1 0 4) 4 ∧ (∀ N6, N6 = uI M 12 (M.1 0 4).toNatClampNeg x2 → (∀ N7, N7 = uI N6 0 17 (N6.1 0 4) → (CallV zY m_M_addWork [.ref 0] N7 (fun M10 => CallL zY m_M_count [.ref 0] M10 (fun r14 M13 => Q r14 M13))))))) ∧ (¬ x2 ≤ x3 → (vp_in x3 60 ∧ (vp_in ((5 * (M.1 0 4)) + x3) 20 ∧ (∀ N19, N19 = uI M 11 ((5 * (M.1 0 4)) + x3).toNatClampNeg (M.1 19 x3.toNatClampNeg) → (wp zY m_M_agreeingOf (QL Q) 25 [(0, .ref 0), (2, .int x2), (3, .int (x3 + 1))] [] N19)))))) : wp zY m_M_agreeingOf (QL Q) 25 [(0, .ref 0), (2, .int x2), (3, .int x3)] [] M := by
  refine zt_iload_n 2 d_M_agreeingOf_25 rfl rfl rfl ?_
  refine zt_iload_n 1 d_M_agreeingOf_26 rfl rfl rfl ?_
  refine zt_icmp_ge d_M_agreeingOf_27 rfl (tgt := 55) (by decide) ⟨fun c1 => ?_, fun c1 => ?_⟩
  · have h2 := h.1 c1
    refine zt_aload_n 0 d_M_agreeingOf_55 rfl rfl rfl ?_
    refine zt_getR (b := 12) d_M_agreeingOf_56 rfl fl_M_43 rfl rfl ?_
    refine zt_aload_n 0 d_M_agreeingOf_59 rfl rfl rfl ?_
    refine zt_getI d_M_agreeingOf_60 rfl fl_M_98 rfl ?_
    refine zt_iload_n 1 d_M_agreeingOf_63 rfl rfl rfl ?_
    obtain ⟨g4, h5⟩ := h2
    refine zt_iast d_M_agreeingOf_64 rfl rfl g4 ?_
    have h5 := h5 _ rfl
    refine zt_aload_n 0 d_M_agreeingOf_65 rfl rfl rfl ?_
    refine zt_aload_n 0 d_M_agreeingOf_66 rfl rfl rfl ?_
    refine zt_getI d_M_agreeingOf_67 rfl fl_M_98 rfl ?_
    refine zt_putI d_M_agreeingOf_70 rfl fl_M_124 rfl ?_
    have h8 := h5 _ rfl
    refine zt_aload_n 0 d_M_agreeingOf_73 rfl rfl rfl ?_
    refine zt_callVV (as := []) d_M_agreeingOf_74 rfl mi_M_addWork ⟨Nat.le_of_ble_eq_true rfl, Nat.le_of_ble_eq_true rfl⟩ wd_810 rfl rfl (Nat.le_of_ble_eq_true rfl) rfl h8 (fun M10 h9 => ?_)
    refine zt_aload_n 0 d_M_agreeingOf_77 rfl rfl rfl ?_
    refine zt_callVL (as := []) d_M_agreeingOf_78 rfl mi_M_count ⟨Nat.le_of_ble_eq_true rfl, Nat.le_of_ble_eq_true rfl⟩ wd_814 rfl rfl (Nat.le_of_ble_eq_true rfl) rfl h9 (fun r14 M13 h12 => ?_)
    exact zt_lret rfl d_M_agreeingOf_81 ⟨_, rfl, h12⟩
  · have h3 := h.2 c1
    refine zt_aload_n 0 d_M_agreeingOf_30 rfl rfl rfl ?_
    refine zt_getR (b := 11) d_M_agreeingOf_31 rfl fl_M_40 rfl rfl ?_
    refine zt_iconst (v := 5) d_M_agreeingOf_34 rfl (by decide) ?_
    refine zt_aload_n 0 d_M_agreeingOf_35 rfl rfl rfl ?_
    refine zt_getI d_M_agreeingOf_36 rfl fl_M_98 rfl ?_
    refine zt_imul d_M_agreeingOf_39 rfl ?_
    refine zt_iload_n 2 d_M_agreeingOf_40 rfl rfl rfl ?_
    refine zt_iadd d_M_agreeingOf_41 rfl ?_
    refine zt_aload_n 0 d_M_agreeingOf_42 rfl rfl rfl ?_
    refine zt_getR (b := 19) d_M_agreeingOf_43 rfl fl_M_65 rfl rfl ?_
    refine zt_iload_n 2 d_M_agreeingOf_46 rfl rfl rfl ?_
    obtain ⟨g15, h16⟩ := h3
    refine zt_iald d_M_agreeingOf_47 rfl rfl g15 ?_
    obtain ⟨g17, h18⟩ := h16
    refine zt_iast d_M_agreeingOf_48 rfl rfl g17 ?_
    have h18 := h18 _ rfl
    refine zt_iinc (v := (x3 + 1)) 2 d_M_agreeingOf_49 rfl rfl rfl (by decide) rfl ?_
    refine zt_goto d_M_agreeingOf_52 (tgt := 25) (by decide) ?_
    exact zt_sub [1, 2, 0] rfl h18
theorem e_M_agreeing {Q : Int64 → Mem → Prop} {M : Mem} {x1 : Int32} (h : CallI zY m_M_in [.int x1, .int 0, .int ((M.1 0 7) - 1)] M (fun r3 M2 => (r3 = 0 → (Q (-1) M2)) ∧ (¬ r3 = 0 → (((M2.1 0 4) = 0 → (Q (-3) M2)) ∧ (¬ (M2.1 0 4) = 0 → (CallI zY m_M_layBest [.ref 0] M2 (fun r12 M11 => (r12 = 0 → (Q (-5) M11)) ∧ (¬ r12 = 0 → (CallL zY m_M_agreeingOf [.ref 0, .int x1] M11 (fun r18 M17 => Q r18 M17)))))))))) : CallL zY m_M_agreeing [.ref 0, .int x1] M Q := by
  refine call_of (by decide) (Nat.le_of_ble_eq_true rfl) ?_
  show wp zY m_M_agreeing (QL Q) 0 [(0, .ref 0), (1, .int x1)] [] M
  refine zt_iload_n 1 d_M_agreeing_0 rfl rfl rfl ?_
  refine zt_iconst (v := 0) d_M_agreeing_1 rfl (by decide) ?_
  refine zt_aload_n 0 d_M_agreeing_2 rfl rfl rfl ?_
  refine zt_getI d_M_agreeing_3 rfl fl_M_101 rfl ?_
  refine zt_iconst (v := 1) d_M_agreeing_6 rfl (by decide) ?_
  refine zt_isub d_M_agreeing_7 rfl ?_
  refine zt_callSI (as := [.int x1, .int 0, .int ((M.1 0 7) - 1)]) d_M_agreeing_8 rfl ms_M_in ⟨Nat.le_of_ble_eq_true rfl, Nat.le_of_ble_eq_true rfl⟩ wd_654 rfl rfl (Nat.le_of_ble_eq_true rfl) h (fun r3 M2 h1 => ?_)
  refine zt_if_ne d_M_agreeing_11 rfl (tgt := 18) (by decide) ⟨fun c4 => ?_, fun c4 => ?_⟩
  · have h5 := h1.1 c4
    refine zt_ldc2_w (v := -1) d_M_agreeing_14 rfl wd_888 ?_
    exact zt_lret rfl d_M_agreeing_17 ⟨_, rfl, h5⟩
  · have h6 := h1.2 c4
    refine zt_aload_n 0 d_M_agreeing_18 rfl rfl rfl ?_
    refine zt_getI d_M_agreeing_19 rfl fl_M_98 rfl ?_
    refine zt_if_ne d_M_agreeing_22 rfl (tgt := 29) (by decide) ⟨fun c7 => ?_, fun c7 => ?_⟩
    · have h8 := h6.1 c7
      refine zt_ldc2_w (v := -3) d_M_agreeing_25 rfl wd_805 ?_
      exact zt_lret rfl d_M_agreeing_28 ⟨_, rfl, h8⟩
    · have h9 := h6.2 c7
      refine zt_aload_n 0 d_M_agreeing_29 rfl rfl rfl ?_
      refine zt_callVI (as := []) d_M_agreeing_30 rfl mi_M_layBest ⟨Nat.le_of_ble_eq_true rfl, Nat.le_of_ble_eq_true rfl⟩ wd_844 rfl rfl (Nat.le_of_ble_eq_true rfl) rfl h9 (fun r12 M11 h10 => ?_)
      refine zt_if_eq d_M_agreeing_33 rfl (tgt := 44) (by decide) ⟨fun c13 => ?_, fun c13 => ?_⟩
      · have h14 := h10.1 c13
        refine zt_ldc2_w (v := -5) d_M_agreeing_44 rfl wd_893 ?_
        exact zt_lret rfl d_M_agreeing_47 ⟨_, rfl, h14⟩
      · have h15 := h10.2 c13
        refine zt_aload_n 0 d_M_agreeing_36 rfl rfl rfl ?_
        refine zt_iload_n 1 d_M_agreeing_37 rfl rfl rfl ?_
        refine zt_callVL (as := [.int x1]) d_M_agreeing_38 rfl mi_M_agreeingOf ⟨Nat.le_of_ble_eq_true rfl, Nat.le_of_ble_eq_true rfl⟩ wd_889 rfl rfl (Nat.le_of_ble_eq_true rfl) rfl h15 (fun r18 M17 h16 => ?_)
        refine zt_goto d_M_agreeing_41 (tgt := 47) (by decide) ?_
        exact zt_lret rfl d_M_agreeing_47 ⟨_, rfl, h16⟩
theorem e_M_asked {Q : Int32 → Mem → Prop} {M : Mem}  (h : ((M.1 0 4) = 0 → (Q (-3) M)) ∧ (¬ (M.1 0 4) = 0 → (CallI zY m_M_layBest [.ref 0] M (fun r6 M5 => wp zY m_M_asked (QI Q) 24 [(0, .ref 0), (1, .int (-6)), (2, .long 0), (4, .int r6), (5, .int 0)] [] M5)))) : CallI zY m_M_asked [.ref 0] M Q := by
  refine call_of (by decide) (Nat.le_of_ble_eq_true rfl) ?_
  show wp zY m_M_asked (QI Q) 0 [(0, .ref 0)] [] M
  refine zt_aload_n 0 d_M_asked_0 rfl rfl rfl ?_
  refine zt_getI d_M_asked_1 rfl fl_M_98 rfl ?_
  refine zt_if_ne d_M_asked_4 rfl (tgt := 10) (by decide) ⟨fun c1 => ?_, fun c1 => ?_⟩
  · have h2 := h.1 c1
    refine zt_bipush (v := -3) d_M_asked_7 rfl (by decide) ?_
    exact zt_iret rfl d_M_asked_9 ⟨_, rfl, h2⟩
  · have h3 := h.2 c1
    refine zt_bipush (v := -6) d_M_asked_10 rfl (by decide) ?_
    refine zt_istore_n d_M_asked_12 rfl rfl (by decide) rfl ?_
    refine zt_lconst (v := 0) d_M_asked_13 rfl (by decide) ?_
    refine zt_lstore_n d_M_asked_14 rfl rfl (by decide) rfl ?_
    refine zt_aload_n 2 d_M_asked_15 rfl rfl rfl ?_
    refine zt_callVI (as := []) d_M_asked_16 rfl mi_M_layBest ⟨Nat.le_of_ble_eq_true rfl, Nat.le_of_ble_eq_true rfl⟩ wd_844 rfl rfl (Nat.le_of_ble_eq_true rfl) rfl h3 (fun r6 M5 h4 => ?_)
    refine zt_istore d_M_asked_19 rfl (by decide) rfl ?_
    refine zt_iconst (v := 0) d_M_asked_21 rfl (by decide) ?_
    refine zt_istore d_M_asked_22 rfl (by decide) rfl ?_
    exact zt_sub [4, 3, 2, 1, 0] rfl h4
theorem b_M_asked_24 {Q : Int32 → Mem → Prop} {M : Mem} {x1 : Int32} {x2 : Int64} {x4 : Int32} {x5 : Int32} (h : ((M.1 0 7) ≤ x5 → (Q x1 M)) ∧ (¬ (M.1 0 7) ≤ x5 → ((x4 = 0 → (Q x1 M)) ∧ (¬ x4 = 0 → (CallL zY m_M_agreeingOf [.ref 0, .int x5] M (fun r9 M8 => ((lg_cmp r9 0) < 0 → (wp zY m_M_asked (QI Q) 24 [(0, .ref 0), (1, .int x1), (2, .long x2), (4, .int x4), (5, .int (x5 + 1))] [] M8)) ∧ (¬ (lg_cmp r9 0) < 0 → ((x1 < 0 → (wp zY m_M_asked (QI Q) 24 [(0, .ref 0), (1, .int x5), (2, .long r9), (4, .int x4), (5, .int (x5 + 1))] [] M8)) ∧ (¬ x1 < 0 → ((0 ≤ (lg_cmp r9 x2) → (wp zY m_M_asked (QI Q) 24 [(0, .ref 0), (1, .int x1), (2, .long x2), (4, .int x4), (5, .int (x5 + 1))] [] M8)) ∧ (¬ 0 ≤ (lg_cmp r9 x2) → (wp zY m_M_asked (QI Q) 24 [(0, .ref 0), (1, .int x5), (2, .long r9), (4, .int x4), (5, .int (x5 + 1))] [] M8)))))))))))) : wp zY m_M_asked (QI Q) 24 [(0, .ref 0), (1, .int x1), (2, .long x2), (4, .int x4), (5, .int x5)] [] M := by
  refine zt_iload 4 d_M_asked_24 rfl rfl ?_
  refine zt_aload_n 0 d_M_asked_26 rfl rfl rfl ?_
  refine zt_getI d_M_asked_27 rfl fl_M_101 rfl ?_
  refine zt_icmp_ge d_M_asked_30 rfl (tgt := 76) (by decide) ⟨fun c1 => ?_, fun c1 => ?_⟩
  · have h2 := h.1 c1
    refine zt_iload_n 1 d_M_asked_76 rfl rfl rfl ?_
    exact zt_iret rfl d_M_asked_77 ⟨_, rfl, h2⟩
  · have h3 := h.2 c1
    refine zt_iload 3 d_M_asked_33 rfl rfl ?_
    refine zt_if_eq d_M_asked_35 rfl (tgt := 76) (by decide) ⟨fun c4 => ?_, fun c4 => ?_⟩
    · have h5 := h3.1 c4
      refine zt_iload_n 1 d_M_asked_76 rfl rfl rfl ?_
      exact zt_iret rfl d_M_asked_77 ⟨_, rfl, h5⟩
    · have h6 := h3.2 c4
      refine zt_aload_n 0 d_M_asked_38 rfl rfl rfl ?_
      refine zt_iload 4 d_M_asked_39 rfl rfl ?_
      refine zt_callVL (as := [.int x5]) d_M_asked_41 rfl mi_M_agreeingOf ⟨Nat.le_of_ble_eq_true rfl, Nat.le_of_ble_eq_true rfl⟩ wd_889 rfl rfl (Nat.le_of_ble_eq_true rfl) rfl h6 (fun r9 M8 h7 => ?_)
      refine zt_lstore d_M_asked_44 rfl (by decide) rfl ?_
      refine zt_lload 0 d_M_asked_46 rfl rfl ?_
      refine zt_lconst (v := 0) d_M_asked_48 rfl (by decide) ?_
      refine zt_lcmp d_M_asked_49 rfl ?_
      refine zt_if_lt d_M_asked_50 rfl (tgt := 70) (by decide) ⟨fun c10 => ?_, fun c10 => ?_⟩
      · have h11 := h7.1 c10
        refine zt_iinc (v := (x5 + 1)) 5 d_M_asked_70 rfl rfl rfl (by decide) rfl ?_
        refine zt_goto d_M_asked_73 (tgt := 24) (by decide) ?_
        exact zt_sub [2, 3, 4, 5, 0] rfl h11
      · have h12 := h7.2 c10
        refine zt_iload_n 2 d_M_asked_53 rfl rfl rfl ?_
        refine zt_if_lt d_M_asked_54 rfl (tgt := 64) (by decide) ⟨fun c13 => ?_, fun c13 => ?_⟩
        · have h14 := h12.1 c13
          refine zt_iload 5 d_M_asked_64 rfl rfl ?_
          refine zt_istore_n d_M_asked_66 rfl rfl (by decide) rfl ?_
          refine zt_lload 1 d_M_asked_67 rfl rfl ?_
          refine zt_lstore_n d_M_asked_69 rfl rfl (by decide) rfl ?_
          refine zt_iinc (v := (x5 + 1)) 5 d_M_asked_70 rfl rfl rfl (by decide) rfl ?_
          refine zt_goto d_M_asked_73 (tgt := 24) (by decide) ?_
          exact zt_sub [4, 2, 1, 5, 0] rfl h14
        · have h15 := h12.2 c13
          refine zt_lload 0 d_M_asked_57 rfl rfl ?_
          refine zt_lload_n 3 d_M_asked_59 rfl rfl rfl ?_
          refine zt_lcmp d_M_asked_60 rfl ?_
          refine zt_if_ge d_M_asked_61 rfl (tgt := 70) (by decide) ⟨fun c16 => ?_, fun c16 => ?_⟩
          · have h17 := h15.1 c16
            refine zt_iinc (v := (x5 + 1)) 5 d_M_asked_70 rfl rfl rfl (by decide) rfl ?_
            refine zt_goto d_M_asked_73 (tgt := 24) (by decide) ?_
            exact zt_sub [2, 3, 4, 5, 0] rfl h17
          · have h18 := h15.2 c16
            refine zt_iload 5 d_M_asked_64 rfl rfl ?_
            refine zt_istore_n d_M_asked_66 rfl rfl (by decide) rfl ?_
            refine zt_lload 1 d_M_asked_67 rfl rfl ?_
            refine zt_lstore_n d_M_asked_69 rfl rfl (by decide) rfl ?_
            refine zt_iinc (v := (x5 + 1)) 5 d_M_asked_70 rfl rfl rfl (by decide) rfl ?_
            refine zt_goto d_M_asked_73 (tgt := 24) (by decide) ?_
            exact zt_sub [4, 2, 1, 5, 0] rfl h18
theorem e_M_image {Q : Int32 → Mem → Prop} {M : Mem} {x1 : Int32} (h : CallI zY m_M_in [.int x1, .int 0, .int 1] M (fun r3 M2 => (r3 = 0 → (Q (-2) M2)) ∧ (¬ r3 = 0 → (wp zY m_M_image (QI Q) 20 [(0, .ref 0), (1, .int x1), (2, .int (150 * x1)), (3, .int 0)] [] M2)))) : CallI zY m_M_image [.ref 0, .int x1] M Q := by
  refine call_of (by decide) (Nat.le_of_ble_eq_true rfl) ?_
  show wp zY m_M_image (QI Q) 0 [(0, .ref 0), (1, .int x1)] [] M
  refine zt_iload_n 1 d_M_image_0 rfl rfl rfl ?_
  refine zt_iconst (v := 0) d_M_image_1 rfl (by decide) ?_
  refine zt_iconst (v := 1) d_M_image_2 rfl (by decide) ?_
  refine zt_callSI (as := [.int x1, .int 0, .int 1]) d_M_image_3 rfl ms_M_in ⟨Nat.le_of_ble_eq_true rfl, Nat.le_of_ble_eq_true rfl⟩ wd_654 rfl rfl (Nat.le_of_ble_eq_true rfl) h (fun r3 M2 h1 => ?_)
  refine zt_if_ne d_M_image_6 rfl (tgt := 12) (by decide) ⟨fun c4 => ?_, fun c4 => ?_⟩
  · have h5 := h1.1 c4
    refine zt_bipush (v := -2) d_M_image_9 rfl (by decide) ?_
    exact zt_iret rfl d_M_image_11 ⟨_, rfl, h5⟩
  · have h6 := h1.2 c4
    refine zt_sipush (v := 150) d_M_image_12 rfl (by decide) ?_
    refine zt_iload_n 1 d_M_image_15 rfl rfl rfl ?_
    refine zt_imul d_M_image_16 rfl ?_
    refine zt_istore_n d_M_image_17 rfl rfl (by decide) rfl ?_
    refine zt_iconst (v := 0) d_M_image_18 rfl (by decide) ?_
    refine zt_istore_n d_M_image_19 rfl rfl (by decide) rfl ?_
    exact zt_sub [2, 3, 1, 0] rfl h6
theorem b_M_image_20 {Q : Int32 → Mem → Prop} {M : Mem} {x1 : Int32} {x2 : Int32} {x3 : Int32} (h : (72 ≤ x3 → (wp zY m_M_image (QI Q) 48 [(0, .ref 0), (1, .int x1), (2, .int x2), (3, .int 0)] [] M)) ∧ (¬ 72 ≤ x3 → (vp_in x3 72 ∧ (vp_in (x2 + x3) 300 ∧ (∀ N8, N8 = uI M 20 (x2 + x3).toNatClampNeg (M.1 5 x3.toNatClampNeg) → (wp zY m_M_image (QI Q) 20 [(0, .ref 0), (1, .int x1), (2, .int x2), (3, .int (x3 + 1))] [] N8)))))) : wp zY m_M_image (QI Q) 20 [(0, .ref 0), (1, .int x1), (2, .int x2), (3, .int x3)] [] M := by
  refine zt_iload_n 3 d_M_image_20 rfl rfl rfl ?_
  refine zt_bipush (v := 72) d_M_image_21 rfl (by decide) ?_
  refine zt_icmp_ge d_M_image_23 rfl (tgt := 46) (by decide) ⟨fun c1 => ?_, fun c1 => ?_⟩
  · have h2 := h.1 c1
    refine zt_iconst (v := 0) d_M_image_46 rfl (by decide) ?_
    refine zt_istore_n d_M_image_47 rfl rfl (by decide) rfl ?_
    exact zt_sub [1, 2, 3, 0] rfl h2
  · have h3 := h.2 c1
    refine zt_aload_n 0 d_M_image_26 rfl rfl rfl ?_
    refine zt_getR (b := 20) d_M_image_27 rfl fl_M_68 rfl rfl ?_
    refine zt_iload_n 2 d_M_image_30 rfl rfl rfl ?_
    refine zt_iload_n 3 d_M_image_31 rfl rfl rfl ?_
    refine zt_iadd d_M_image_32 rfl ?_
    refine zt_aload_n 0 d_M_image_33 rfl rfl rfl ?_
    refine zt_getR (b := 5) d_M_image_34 rfl fl_M_22 rfl rfl ?_
    refine zt_iload_n 3 d_M_image_37 rfl rfl rfl ?_
    obtain ⟨g4, h5⟩ := h3
    refine zt_iald d_M_image_38 rfl rfl g4 ?_
    obtain ⟨g6, h7⟩ := h5
    refine zt_iast d_M_image_39 rfl rfl g6 ?_
    have h7 := h7 _ rfl
    refine zt_iinc (v := (x3 + 1)) 3 d_M_image_40 rfl rfl rfl (by decide) rfl ?_
    refine zt_goto d_M_image_43 (tgt := 20) (by decide) ?_
    exact zt_sub [1, 2, 3, 0] rfl h7
theorem b_M_image_48 {Q : Int32 → Mem → Prop} {M : Mem} {x1 : Int32} {x2 : Int32} {x3 : Int32} (h : (36 ≤ x3 → (wp zY m_M_image (QI Q) 79 [(0, .ref 0), (1, .int x1), (2, .int x2), (3, .int 0)] [] M)) ∧ (¬ 36 ≤ x3 → (vp_in x3 36 ∧ (vp_in ((x2 + 72) + x3) 300 ∧ (∀ N8, N8 = uI M 20 ((x2 + 72) + x3).toNatClampNeg (M.1 1 x3.toNatClampNeg) → (wp zY m_M_image (QI Q) 48 [(0, .ref 0), (1, .int x1), (2, .int x2), (3, .int (x3 + 1))] [] N8)))))) : wp zY m_M_image (QI Q) 48 [(0, .ref 0), (1, .int x1), (2, .int x2), (3, .int x3)] [] M := by
  refine zt_iload_n 3 d_M_image_48 rfl rfl rfl ?_
  refine zt_bipush (v := 36) d_M_image_49 rfl (by decide) ?_
  refine zt_icmp_ge d_M_image_51 rfl (tgt := 77) (by decide) ⟨fun c1 => ?_, fun c1 => ?_⟩
  · have h2 := h.1 c1
    refine zt_iconst (v := 0) d_M_image_77 rfl (by decide) ?_
    refine zt_istore_n d_M_image_78 rfl rfl (by decide) rfl ?_
    exact zt_sub [1, 2, 3, 0] rfl h2
  · have h3 := h.2 c1
    refine zt_aload_n 0 d_M_image_54 rfl rfl rfl ?_
    refine zt_getR (b := 20) d_M_image_55 rfl fl_M_68 rfl rfl ?_
    refine zt_iload_n 2 d_M_image_58 rfl rfl rfl ?_
    refine zt_bipush (v := 72) d_M_image_59 rfl (by decide) ?_
    refine zt_iadd d_M_image_61 rfl ?_
    refine zt_iload_n 3 d_M_image_62 rfl rfl rfl ?_
    refine zt_iadd d_M_image_63 rfl ?_
    refine zt_aload_n 0 d_M_image_64 rfl rfl rfl ?_
    refine zt_getR (b := 1) d_M_image_65 rfl fl_M_7 rfl rfl ?_
    refine zt_iload_n 3 d_M_image_68 rfl rfl rfl ?_
    obtain ⟨g4, h5⟩ := h3
    refine zt_iald d_M_image_69 rfl rfl g4 ?_
    obtain ⟨g6, h7⟩ := h5
    refine zt_iast d_M_image_70 rfl rfl g6 ?_
    have h7 := h7 _ rfl
    refine zt_iinc (v := (x3 + 1)) 3 d_M_image_71 rfl rfl rfl (by decide) rfl ?_
    refine zt_goto d_M_image_74 (tgt := 48) (by decide) ?_
    exact zt_sub [1, 2, 3, 0] rfl h7
theorem b_M_image_79 {Q : Int32 → Mem → Prop} {M : Mem} {x1 : Int32} {x2 : Int32} {x3 : Int32} (h : (15 ≤ x3 → (wp zY m_M_image (QI Q) 110 [(0, .ref 0), (1, .int x1), (2, .int x2), (3, .int 0)] [] M)) ∧ (¬ 15 ≤ x3 → (vp_in x3 15 ∧ (vp_in ((x2 + 108) + x3) 300 ∧ (∀ N8, N8 = uI M 20 ((x2 + 108) + x3).toNatClampNeg (M.1 3 x3.toNatClampNeg) → (wp zY m_M_image (QI Q) 79 [(0, .ref 0), (1, .int x1), (2, .int x2), (3, .int (x3 + 1))] [] N8)))))) : wp zY m_M_image (QI Q) 79 [(0, .ref 0), (1, .int x1), (2, .int x2), (3, .int x3)] [] M := by
  refine zt_iload_n 3 d_M_image_79 rfl rfl rfl ?_
  refine zt_bipush (v := 15) d_M_image_80 rfl (by decide) ?_
  refine zt_icmp_ge d_M_image_82 rfl (tgt := 108) (by decide) ⟨fun c1 => ?_, fun c1 => ?_⟩
  · have h2 := h.1 c1
    refine zt_iconst (v := 0) d_M_image_108 rfl (by decide) ?_
    refine zt_istore_n d_M_image_109 rfl rfl (by decide) rfl ?_
    exact zt_sub [1, 2, 3, 0] rfl h2
  · have h3 := h.2 c1
    refine zt_aload_n 0 d_M_image_85 rfl rfl rfl ?_
    refine zt_getR (b := 20) d_M_image_86 rfl fl_M_68 rfl rfl ?_
    refine zt_iload_n 2 d_M_image_89 rfl rfl rfl ?_
    refine zt_bipush (v := 108) d_M_image_90 rfl (by decide) ?_
    refine zt_iadd d_M_image_92 rfl ?_
    refine zt_iload_n 3 d_M_image_93 rfl rfl rfl ?_
    refine zt_iadd d_M_image_94 rfl ?_
    refine zt_aload_n 0 d_M_image_95 rfl rfl rfl ?_
    refine zt_getR (b := 3) d_M_image_96 rfl fl_M_16 rfl rfl ?_
    refine zt_iload_n 3 d_M_image_99 rfl rfl rfl ?_
    obtain ⟨g4, h5⟩ := h3
    refine zt_iald d_M_image_100 rfl rfl g4 ?_
    obtain ⟨g6, h7⟩ := h5
    refine zt_iast d_M_image_101 rfl rfl g6 ?_
    have h7 := h7 _ rfl
    refine zt_iinc (v := (x3 + 1)) 3 d_M_image_102 rfl rfl rfl (by decide) rfl ?_
    refine zt_goto d_M_image_105 (tgt := 79) (by decide) ?_
    exact zt_sub [1, 2, 3, 0] rfl h7
theorem b_M_image_110 {Q : Int32 → Mem → Prop} {M : Mem} {x1 : Int32} {x2 : Int32} {x3 : Int32} (h : (6 ≤ x3 → (wp zY m_M_image (QI Q) 141 [(0, .ref 0), (1, .int x1), (2, .int x2), (3, .int 0)] [] M)) ∧ (¬ 6 ≤ x3 → (vp_in x3 6 ∧ (vp_in ((x2 + 124) + x3) 300 ∧ (∀ N8, N8 = uI M 20 ((x2 + 124) + x3).toNatClampNeg (M.1 6 x3.toNatClampNeg) → (wp zY m_M_image (QI Q) 110 [(0, .ref 0), (1, .int x1), (2, .int x2), (3, .int (x3 + 1))] [] N8)))))) : wp zY m_M_image (QI Q) 110 [(0, .ref 0), (1, .int x1), (2, .int x2), (3, .int x3)] [] M := by
  refine zt_iload_n 3 d_M_image_110 rfl rfl rfl ?_
  refine zt_bipush (v := 6) d_M_image_111 rfl (by decide) ?_
  refine zt_icmp_ge d_M_image_113 rfl (tgt := 139) (by decide) ⟨fun c1 => ?_, fun c1 => ?_⟩
  · have h2 := h.1 c1
    refine zt_iconst (v := 0) d_M_image_139 rfl (by decide) ?_
    refine zt_istore_n d_M_image_140 rfl rfl (by decide) rfl ?_
    exact zt_sub [1, 2, 3, 0] rfl h2
  · have h3 := h.2 c1
    refine zt_aload_n 0 d_M_image_116 rfl rfl rfl ?_
    refine zt_getR (b := 20) d_M_image_117 rfl fl_M_68 rfl rfl ?_
    refine zt_iload_n 2 d_M_image_120 rfl rfl rfl ?_
    refine zt_bipush (v := 124) d_M_image_121 rfl (by decide) ?_
    refine zt_iadd d_M_image_123 rfl ?_
    refine zt_iload_n 3 d_M_image_124 rfl rfl rfl ?_
    refine zt_iadd d_M_image_125 rfl ?_
    refine zt_aload_n 0 d_M_image_126 rfl rfl rfl ?_
    refine zt_getR (b := 6) d_M_image_127 rfl fl_M_25 rfl rfl ?_
    refine zt_iload_n 3 d_M_image_130 rfl rfl rfl ?_
    obtain ⟨g4, h5⟩ := h3
    refine zt_iald d_M_image_131 rfl rfl g4 ?_
    obtain ⟨g6, h7⟩ := h5
    refine zt_iast d_M_image_132 rfl rfl g6 ?_
    have h7 := h7 _ rfl
    refine zt_iinc (v := (x3 + 1)) 3 d_M_image_133 rfl rfl rfl (by decide) rfl ?_
    refine zt_goto d_M_image_136 (tgt := 110) (by decide) ?_
    exact zt_sub [1, 2, 3, 0] rfl h7
theorem b_M_image_141 {Q : Int32 → Mem → Prop} {M : Mem} {x1 : Int32} {x2 : Int32} {x3 : Int32} (h : (3 ≤ x3 → (vp_in (x2 + 140) 300 ∧ (∀ N6, N6 = uI M 20 (x2 + 140).toNatClampNeg (M.1 0 4) → (vp_in (x2 + 141) 300 ∧ (∀ N9, N9 = uI N6 20 (x2 + 141).toNatClampNeg (N6.1 0 7) → (vp_in x1 2 ∧ (∀ N12, N12 = uI N9 21 x1.toNatClampNeg (vp_nar .boolean 1) → (Q 1 N12)))))))) ∧ (¬ 3 ≤ x3 → (vp_in x3 3 ∧ (vp_in ((x2 + 132) + x3) 300 ∧ (∀ N17, N17 = uI M 20 ((x2 + 132) + x3).toNatClampNeg (M.1 2 x3.toNatClampNeg) → (vp_in x3 3 ∧ (vp_in ((x2 + 136) + x3) 300 ∧ (∀ N22, N22 = uI N17 20 ((x2 + 136) + x3).toNatClampNeg (N17.1 4 x3.toNatClampNeg) → (wp zY m_M_image (QI Q) 141 [(0, .ref 0), (1, .int x1), (2, .int x2), (3, .int (x3 + 1))] [] N22))))))))) : wp zY m_M_image (QI Q) 141 [(0, .ref 0), (1, .int x1), (2, .int x2), (3, .int x3)] [] M := by
  refine zt_iload_n 3 d_M_image_141 rfl rfl rfl ?_
  refine zt_iconst (v := 3) d_M_image_142 rfl (by decide) ?_
  refine zt_icmp_ge d_M_image_143 rfl (tgt := 188) (by decide) ⟨fun c1 => ?_, fun c1 => ?_⟩
  · have h2 := h.1 c1
    refine zt_aload_n 0 d_M_image_188 rfl rfl rfl ?_
    refine zt_getR (b := 20) d_M_image_189 rfl fl_M_68 rfl rfl ?_
    refine zt_iload_n 2 d_M_image_192 rfl rfl rfl ?_
    refine zt_sipush (v := 140) d_M_image_193 rfl (by decide) ?_
    refine zt_iadd d_M_image_196 rfl ?_
    refine zt_aload_n 0 d_M_image_197 rfl rfl rfl ?_
    refine zt_getI d_M_image_198 rfl fl_M_98 rfl ?_
    obtain ⟨g4, h5⟩ := h2
    refine zt_iast d_M_image_201 rfl rfl g4 ?_
    have h5 := h5 _ rfl
    refine zt_aload_n 0 d_M_image_202 rfl rfl rfl ?_
    refine zt_getR (b := 20) d_M_image_203 rfl fl_M_68 rfl rfl ?_
    refine zt_iload_n 2 d_M_image_206 rfl rfl rfl ?_
    refine zt_sipush (v := 141) d_M_image_207 rfl (by decide) ?_
    refine zt_iadd d_M_image_210 rfl ?_
    refine zt_aload_n 0 d_M_image_211 rfl rfl rfl ?_
    refine zt_getI d_M_image_212 rfl fl_M_101 rfl ?_
    obtain ⟨g7, h8⟩ := h5
    refine zt_iast d_M_image_215 rfl rfl g7 ?_
    have h8 := h8 _ rfl
    refine zt_aload_n 0 d_M_image_216 rfl rfl rfl ?_
    refine zt_getR (b := 21) d_M_image_217 rfl fl_M_71 rfl rfl ?_
    refine zt_iload_n 1 d_M_image_220 rfl rfl rfl ?_
    refine zt_iconst (v := 1) d_M_image_221 rfl (by decide) ?_
    obtain ⟨g10, h11⟩ := h8
    refine zt_zast d_M_image_222 rfl rfl g10 ?_
    have h11 := h11 _ rfl
    refine zt_iconst (v := 1) d_M_image_223 rfl (by decide) ?_
    exact zt_iret rfl d_M_image_224 ⟨_, rfl, h11⟩
  · have h3 := h.2 c1
    refine zt_aload_n 0 d_M_image_146 rfl rfl rfl ?_
    refine zt_getR (b := 20) d_M_image_147 rfl fl_M_68 rfl rfl ?_
    refine zt_iload_n 2 d_M_image_150 rfl rfl rfl ?_
    refine zt_sipush (v := 132) d_M_image_151 rfl (by decide) ?_
    refine zt_iadd d_M_image_154 rfl ?_
    refine zt_iload_n 3 d_M_image_155 rfl rfl rfl ?_
    refine zt_iadd d_M_image_156 rfl ?_
    refine zt_aload_n 0 d_M_image_157 rfl rfl rfl ?_
    refine zt_getR (b := 2) d_M_image_158 rfl fl_M_13 rfl rfl ?_
    refine zt_iload_n 3 d_M_image_161 rfl rfl rfl ?_
    obtain ⟨g13, h14⟩ := h3
    refine zt_iald d_M_image_162 rfl rfl g13 ?_
    obtain ⟨g15, h16⟩ := h14
    refine zt_iast d_M_image_163 rfl rfl g15 ?_
    have h16 := h16 _ rfl
    refine zt_aload_n 0 d_M_image_164 rfl rfl rfl ?_
    refine zt_getR (b := 20) d_M_image_165 rfl fl_M_68 rfl rfl ?_
    refine zt_iload_n 2 d_M_image_168 rfl rfl rfl ?_
    refine zt_sipush (v := 136) d_M_image_169 rfl (by decide) ?_
    refine zt_iadd d_M_image_172 rfl ?_
    refine zt_iload_n 3 d_M_image_173 rfl rfl rfl ?_
    refine zt_iadd d_M_image_174 rfl ?_
    refine zt_aload_n 0 d_M_image_175 rfl rfl rfl ?_
    refine zt_getR (b := 4) d_M_image_176 rfl fl_M_19 rfl rfl ?_
    refine zt_iload_n 3 d_M_image_179 rfl rfl rfl ?_
    obtain ⟨g18, h19⟩ := h16
    refine zt_iald d_M_image_180 rfl rfl g18 ?_
    obtain ⟨g20, h21⟩ := h19
    refine zt_iast d_M_image_181 rfl rfl g20 ?_
    have h21 := h21 _ rfl
    refine zt_iinc (v := (x3 + 1)) 3 d_M_image_182 rfl rfl rfl (by decide) rfl ?_
    refine zt_goto d_M_image_185 (tgt := 141) (by decide) ?_
    exact zt_sub [1, 2, 3, 0] rfl h21
theorem e_M_restore {Q : Int32 → Mem → Prop} {M : Mem} {x1 : Int32} (h : CallI zY m_M_in [.int x1, .int 0, .int 1] M (fun r3 M2 => (r3 = 0 → (Q (-2) M2)) ∧ (¬ r3 = 0 → (vp_in x1 2 ∧ (((M2.1 21 x1.toNatClampNeg) = 0 → (Q (-3) M2)) ∧ (¬ (M2.1 21 x1.toNatClampNeg) = 0 → (wp zY m_M_restore (QI Q) 32 [(0, .ref 0), (2, .int (150 * x1)), (3, .int 0)] [] M2))))))) : CallI zY m_M_restore [.ref 0, .int x1] M Q := by
  refine call_of (by decide) (Nat.le_of_ble_eq_true rfl) ?_
  show wp zY m_M_restore (QI Q) 0 [(0, .ref 0), (1, .int x1)] [] M
  refine zt_iload_n 1 d_M_restore_0 rfl rfl rfl ?_
  refine zt_iconst (v := 0) d_M_restore_1 rfl (by decide) ?_
  refine zt_iconst (v := 1) d_M_restore_2 rfl (by decide) ?_
  refine zt_callSI (as := [.int x1, .int 0, .int 1]) d_M_restore_3 rfl ms_M_in ⟨Nat.le_of_ble_eq_true rfl, Nat.le_of_ble_eq_true rfl⟩ wd_654 rfl rfl (Nat.le_of_ble_eq_true rfl) h (fun r3 M2 h1 => ?_)
  refine zt_if_ne d_M_restore_6 rfl (tgt := 12) (by decide) ⟨fun c4 => ?_, fun c4 => ?_⟩
  · have h5 := h1.1 c4
    refine zt_bipush (v := -2) d_M_restore_9 rfl (by decide) ?_
    exact zt_iret rfl d_M_restore_11 ⟨_, rfl, h5⟩
  · have h6 := h1.2 c4
    refine zt_aload_n 0 d_M_restore_12 rfl rfl rfl ?_
    refine zt_getR (b := 21) d_M_restore_13 rfl fl_M_71 rfl rfl ?_
    refine zt_iload_n 1 d_M_restore_16 rfl rfl rfl ?_
    obtain ⟨g7, h8⟩ := h6
    refine zt_zald d_M_restore_17 rfl rfl g7 ?_
    refine zt_if_ne d_M_restore_18 rfl (tgt := 24) (by decide) ⟨fun c9 => ?_, fun c9 => ?_⟩
    · have h10 := h8.1 c9
      refine zt_bipush (v := -3) d_M_restore_21 rfl (by decide) ?_
      exact zt_iret rfl d_M_restore_23 ⟨_, rfl, h10⟩
    · have h11 := h8.2 c9
      refine zt_sipush (v := 150) d_M_restore_24 rfl (by decide) ?_
      refine zt_iload_n 1 d_M_restore_27 rfl rfl rfl ?_
      refine zt_imul d_M_restore_28 rfl ?_
      refine zt_istore_n d_M_restore_29 rfl rfl (by decide) rfl ?_
      refine zt_iconst (v := 0) d_M_restore_30 rfl (by decide) ?_
      refine zt_istore_n d_M_restore_31 rfl rfl (by decide) rfl ?_
      exact zt_sub [2, 1, 0] rfl h11
theorem b_M_restore_32 {Q : Int32 → Mem → Prop} {M : Mem} {x2 : Int32} {x3 : Int32} (h : (72 ≤ x3 → (wp zY m_M_restore (QI Q) 60 [(0, .ref 0), (2, .int x2), (3, .int 0)] [] M)) ∧ (¬ 72 ≤ x3 → (vp_in (x2 + x3) 300 ∧ (vp_in x3 72 ∧ (∀ N8, N8 = uI M 5 x3.toNatClampNeg (M.1 20 (x2 + x3).toNatClampNeg) → (wp zY m_M_restore (QI Q) 32 [(0, .ref 0), (2, .int x2), (3, .int (x3 + 1))] [] N8)))))) : wp zY m_M_restore (QI Q) 32 [(0, .ref 0), (2, .int x2), (3, .int x3)] [] M := by
  refine zt_iload_n 2 d_M_restore_32 rfl rfl rfl ?_
  refine zt_bipush (v := 72) d_M_restore_33 rfl (by decide) ?_
  refine zt_icmp_ge d_M_restore_35 rfl (tgt := 58) (by decide) ⟨fun c1 => ?_, fun c1 => ?_⟩
  · have h2 := h.1 c1
    refine zt_iconst (v := 0) d_M_restore_58 rfl (by decide) ?_
    refine zt_istore_n d_M_restore_59 rfl rfl (by decide) rfl ?_
    exact zt_sub [1, 2, 0] rfl h2
  · have h3 := h.2 c1
    refine zt_aload_n 0 d_M_restore_38 rfl rfl rfl ?_
    refine zt_getR (b := 5) d_M_restore_39 rfl fl_M_22 rfl rfl ?_
    refine zt_iload_n 2 d_M_restore_42 rfl rfl rfl ?_
    refine zt_aload_n 0 d_M_restore_43 rfl rfl rfl ?_
    refine zt_getR (b := 20) d_M_restore_44 rfl fl_M_68 rfl rfl ?_
    refine zt_iload_n 1 d_M_restore_47 rfl rfl rfl ?_
    refine zt_iload_n 2 d_M_restore_48 rfl rfl rfl ?_
    refine zt_iadd d_M_restore_49 rfl ?_
    obtain ⟨g4, h5⟩ := h3
    refine zt_iald d_M_restore_50 rfl rfl g4 ?_
    obtain ⟨g6, h7⟩ := h5
    refine zt_iast d_M_restore_51 rfl rfl g6 ?_
    have h7 := h7 _ rfl
    refine zt_iinc (v := (x3 + 1)) 2 d_M_restore_52 rfl rfl rfl (by decide) rfl ?_
    refine zt_goto d_M_restore_55 (tgt := 32) (by decide) ?_
    exact zt_sub [1, 2, 0] rfl h7
theorem b_M_restore_60 {Q : Int32 → Mem → Prop} {M : Mem} {x2 : Int32} {x3 : Int32} (h : (36 ≤ x3 → (wp zY m_M_restore (QI Q) 91 [(0, .ref 0), (2, .int x2), (3, .int 0)] [] M)) ∧ (¬ 36 ≤ x3 → (vp_in ((x2 + 72) + x3) 300 ∧ (vp_in x3 36 ∧ (∀ N8, N8 = uI M 1 x3.toNatClampNeg (M.1 20 ((x2 + 72) + x3).toNatClampNeg) → (wp zY m_M_restore (QI Q) 60 [(0, .ref 0), (2, .int x2), (3, .int (x3 + 1))] [] N8)))))) : wp zY m_M_restore (QI Q) 60 [(0, .ref 0), (2, .int x2), (3, .int x3)] [] M := by
  refine zt_iload_n 2 d_M_restore_60 rfl rfl rfl ?_
  refine zt_bipush (v := 36) d_M_restore_61 rfl (by decide) ?_
  refine zt_icmp_ge d_M_restore_63 rfl (tgt := 89) (by decide) ⟨fun c1 => ?_, fun c1 => ?_⟩
  · have h2 := h.1 c1
    refine zt_iconst (v := 0) d_M_restore_89 rfl (by decide) ?_
    refine zt_istore_n d_M_restore_90 rfl rfl (by decide) rfl ?_
    exact zt_sub [1, 2, 0] rfl h2
  · have h3 := h.2 c1
    refine zt_aload_n 0 d_M_restore_66 rfl rfl rfl ?_
    refine zt_getR (b := 1) d_M_restore_67 rfl fl_M_7 rfl rfl ?_
    refine zt_iload_n 2 d_M_restore_70 rfl rfl rfl ?_
    refine zt_aload_n 0 d_M_restore_71 rfl rfl rfl ?_
    refine zt_getR (b := 20) d_M_restore_72 rfl fl_M_68 rfl rfl ?_
    refine zt_iload_n 1 d_M_restore_75 rfl rfl rfl ?_
    refine zt_bipush (v := 72) d_M_restore_76 rfl (by decide) ?_
    refine zt_iadd d_M_restore_78 rfl ?_
    refine zt_iload_n 2 d_M_restore_79 rfl rfl rfl ?_
    refine zt_iadd d_M_restore_80 rfl ?_
    obtain ⟨g4, h5⟩ := h3
    refine zt_iald d_M_restore_81 rfl rfl g4 ?_
    obtain ⟨g6, h7⟩ := h5
    refine zt_iast d_M_restore_82 rfl rfl g6 ?_
    have h7 := h7 _ rfl
    refine zt_iinc (v := (x3 + 1)) 2 d_M_restore_83 rfl rfl rfl (by decide) rfl ?_
    refine zt_goto d_M_restore_86 (tgt := 60) (by decide) ?_
    exact zt_sub [1, 2, 0] rfl h7
theorem b_M_restore_91 {Q : Int32 → Mem → Prop} {M : Mem} {x2 : Int32} {x3 : Int32} (h : (15 ≤ x3 → (wp zY m_M_restore (QI Q) 122 [(0, .ref 0), (2, .int x2), (3, .int 0)] [] M)) ∧ (¬ 15 ≤ x3 → (vp_in ((x2 + 108) + x3) 300 ∧ (vp_in x3 15 ∧ (∀ N8, N8 = uI M 3 x3.toNatClampNeg (M.1 20 ((x2 + 108) + x3).toNatClampNeg) → (wp zY m_M_restore (QI Q) 91 [(0, .ref 0), (2, .int x2), (3, .int (x3 + 1))] [] N8)))))) : wp zY m_M_restore (QI Q) 91 [(0, .ref 0), (2, .int x2), (3, .int x3)] [] M := by
  refine zt_iload_n 2 d_M_restore_91 rfl rfl rfl ?_
  refine zt_bipush (v := 15) d_M_restore_92 rfl (by decide) ?_
  refine zt_icmp_ge d_M_restore_94 rfl (tgt := 120) (by decide) ⟨fun c1 => ?_, fun c1 => ?_⟩
  · have h2 := h.1 c1
    refine zt_iconst (v := 0) d_M_restore_120 rfl (by decide) ?_
    refine zt_istore_n d_M_restore_121 rfl rfl (by decide) rfl ?_
    exact zt_sub [1, 2, 0] rfl h2
  · have h3 := h.2 c1
    refine zt_aload_n 0 d_M_restore_97 rfl rfl rfl ?_
    refine zt_getR (b := 3) d_M_restore_98 rfl fl_M_16 rfl rfl ?_
    refine zt_iload_n 2 d_M_restore_101 rfl rfl rfl ?_
    refine zt_aload_n 0 d_M_restore_102 rfl rfl rfl ?_
    refine zt_getR (b := 20) d_M_restore_103 rfl fl_M_68 rfl rfl ?_
    refine zt_iload_n 1 d_M_restore_106 rfl rfl rfl ?_
    refine zt_bipush (v := 108) d_M_restore_107 rfl (by decide) ?_
    refine zt_iadd d_M_restore_109 rfl ?_
    refine zt_iload_n 2 d_M_restore_110 rfl rfl rfl ?_
    refine zt_iadd d_M_restore_111 rfl ?_
    obtain ⟨g4, h5⟩ := h3
    refine zt_iald d_M_restore_112 rfl rfl g4 ?_
    obtain ⟨g6, h7⟩ := h5
    refine zt_iast d_M_restore_113 rfl rfl g6 ?_
    have h7 := h7 _ rfl
    refine zt_iinc (v := (x3 + 1)) 2 d_M_restore_114 rfl rfl rfl (by decide) rfl ?_
    refine zt_goto d_M_restore_117 (tgt := 91) (by decide) ?_
    exact zt_sub [1, 2, 0] rfl h7
theorem b_M_restore_122 {Q : Int32 → Mem → Prop} {M : Mem} {x2 : Int32} {x3 : Int32} (h : (6 ≤ x3 → (wp zY m_M_restore (QI Q) 153 [(0, .ref 0), (2, .int x2), (3, .int 0)] [] M)) ∧ (¬ 6 ≤ x3 → (vp_in ((x2 + 124) + x3) 300 ∧ (vp_in x3 6 ∧ (∀ N8, N8 = uI M 6 x3.toNatClampNeg (M.1 20 ((x2 + 124) + x3).toNatClampNeg) → (wp zY m_M_restore (QI Q) 122 [(0, .ref 0), (2, .int x2), (3, .int (x3 + 1))] [] N8)))))) : wp zY m_M_restore (QI Q) 122 [(0, .ref 0), (2, .int x2), (3, .int x3)] [] M := by
  refine zt_iload_n 2 d_M_restore_122 rfl rfl rfl ?_
  refine zt_bipush (v := 6) d_M_restore_123 rfl (by decide) ?_
  refine zt_icmp_ge d_M_restore_125 rfl (tgt := 151) (by decide) ⟨fun c1 => ?_, fun c1 => ?_⟩
  · have h2 := h.1 c1
    refine zt_iconst (v := 0) d_M_restore_151 rfl (by decide) ?_
    refine zt_istore_n d_M_restore_152 rfl rfl (by decide) rfl ?_
    exact zt_sub [1, 2, 0] rfl h2
  · have h3 := h.2 c1
    refine zt_aload_n 0 d_M_restore_128 rfl rfl rfl ?_
    refine zt_getR (b := 6) d_M_restore_129 rfl fl_M_25 rfl rfl ?_
    refine zt_iload_n 2 d_M_restore_132 rfl rfl rfl ?_
    refine zt_aload_n 0 d_M_restore_133 rfl rfl rfl ?_
    refine zt_getR (b := 20) d_M_restore_134 rfl fl_M_68 rfl rfl ?_
    refine zt_iload_n 1 d_M_restore_137 rfl rfl rfl ?_
    refine zt_bipush (v := 124) d_M_restore_138 rfl (by decide) ?_
    refine zt_iadd d_M_restore_140 rfl ?_
    refine zt_iload_n 2 d_M_restore_141 rfl rfl rfl ?_
    refine zt_iadd d_M_restore_142 rfl ?_
    obtain ⟨g4, h5⟩ := h3
    refine zt_iald d_M_restore_143 rfl rfl g4 ?_
    obtain ⟨g6, h7⟩ := h5
    refine zt_iast d_M_restore_144 rfl rfl g6 ?_
    have h7 := h7 _ rfl
    refine zt_iinc (v := (x3 + 1)) 2 d_M_restore_145 rfl rfl rfl (by decide) rfl ?_
    refine zt_goto d_M_restore_148 (tgt := 122) (by decide) ?_
    exact zt_sub [1, 2, 0] rfl h7
theorem b_M_restore_153 {Q : Int32 → Mem → Prop} {M : Mem} {x2 : Int32} {x3 : Int32} (h : (3 ≤ x3 → (vp_in (x2 + 140) 300 ∧ (∀ N6, N6 = uI M 0 4 (M.1 20 (x2 + 140).toNatClampNeg) → (vp_in (x2 + 141) 300 ∧ (∀ N10, N10 = uI N6 0 7 (N6.1 20 (x2 + 141).toNatClampNeg) → (Q 1 N10)))))) ∧ (¬ 3 ≤ x3 → (vp_in ((x2 + 132) + x3) 300 ∧ (vp_in x3 3 ∧ (∀ N16, N16 = uI M 2 x3.toNatClampNeg (M.1 20 ((x2 + 132) + x3).toNatClampNeg) → (vp_in ((x2 + 136) + x3) 300 ∧ (vp_in x3 3 ∧ (∀ N21, N21 = uI N16 4 x3.toNatClampNeg (N16.1 20 ((x2 + 136) + x3).toNatClampNeg) → (wp zY m_M_restore (QI Q) 153 [(0, .ref 0), (2, .int x2), (3, .int (x3 + 1))] [] N21))))))))) : wp zY m_M_restore (QI Q) 153 [(0, .ref 0), (2, .int x2), (3, .int x3)] [] M := by
  refine zt_iload_n 2 d_M_restore_153 rfl rfl rfl ?_
  refine zt_iconst (v := 3) d_M_restore_154 rfl (by decide) ?_
  refine zt_icmp_ge d_M_restore_155 rfl (tgt := 200) (by decide) ⟨fun c1 => ?_, fun c1 => ?_⟩
  · have h2 := h.1 c1
    refine zt_aload_n 0 d_M_restore_200 rfl rfl rfl ?_
    refine zt_aload_n 0 d_M_restore_201 rfl rfl rfl ?_
    refine zt_getR (b := 20) d_M_restore_202 rfl fl_M_68 rfl rfl ?_
    refine zt_iload_n 1 d_M_restore_205 rfl rfl rfl ?_
    refine zt_sipush (v := 140) d_M_restore_206 rfl (by decide) ?_
    refine zt_iadd d_M_restore_209 rfl ?_
    obtain ⟨g4, h5⟩ := h2
    refine zt_iald d_M_restore_210 rfl rfl g4 ?_
    refine zt_putI d_M_restore_211 rfl fl_M_98 rfl ?_
    have h7 := h5 _ rfl
    refine zt_aload_n 0 d_M_restore_214 rfl rfl rfl ?_
    refine zt_aload_n 0 d_M_restore_215 rfl rfl rfl ?_
    refine zt_getR (b := 20) d_M_restore_216 rfl fl_M_68 rfl rfl ?_
    refine zt_iload_n 1 d_M_restore_219 rfl rfl rfl ?_
    refine zt_sipush (v := 141) d_M_restore_220 rfl (by decide) ?_
    refine zt_iadd d_M_restore_223 rfl ?_
    obtain ⟨g8, h9⟩ := h7
    refine zt_iald d_M_restore_224 rfl rfl g8 ?_
    refine zt_putI d_M_restore_225 rfl fl_M_101 rfl ?_
    have h11 := h9 _ rfl
    refine zt_iconst (v := 1) d_M_restore_228 rfl (by decide) ?_
    exact zt_iret rfl d_M_restore_229 ⟨_, rfl, h11⟩
  · have h3 := h.2 c1
    refine zt_aload_n 0 d_M_restore_158 rfl rfl rfl ?_
    refine zt_getR (b := 2) d_M_restore_159 rfl fl_M_13 rfl rfl ?_
    refine zt_iload_n 2 d_M_restore_162 rfl rfl rfl ?_
    refine zt_aload_n 0 d_M_restore_163 rfl rfl rfl ?_
    refine zt_getR (b := 20) d_M_restore_164 rfl fl_M_68 rfl rfl ?_
    refine zt_iload_n 1 d_M_restore_167 rfl rfl rfl ?_
    refine zt_sipush (v := 132) d_M_restore_168 rfl (by decide) ?_
    refine zt_iadd d_M_restore_171 rfl ?_
    refine zt_iload_n 2 d_M_restore_172 rfl rfl rfl ?_
    refine zt_iadd d_M_restore_173 rfl ?_
    obtain ⟨g12, h13⟩ := h3
    refine zt_iald d_M_restore_174 rfl rfl g12 ?_
    obtain ⟨g14, h15⟩ := h13
    refine zt_iast d_M_restore_175 rfl rfl g14 ?_
    have h15 := h15 _ rfl
    refine zt_aload_n 0 d_M_restore_176 rfl rfl rfl ?_
    refine zt_getR (b := 4) d_M_restore_177 rfl fl_M_19 rfl rfl ?_
    refine zt_iload_n 2 d_M_restore_180 rfl rfl rfl ?_
    refine zt_aload_n 0 d_M_restore_181 rfl rfl rfl ?_
    refine zt_getR (b := 20) d_M_restore_182 rfl fl_M_68 rfl rfl ?_
    refine zt_iload_n 1 d_M_restore_185 rfl rfl rfl ?_
    refine zt_sipush (v := 136) d_M_restore_186 rfl (by decide) ?_
    refine zt_iadd d_M_restore_189 rfl ?_
    refine zt_iload_n 2 d_M_restore_190 rfl rfl rfl ?_
    refine zt_iadd d_M_restore_191 rfl ?_
    obtain ⟨g17, h18⟩ := h15
    refine zt_iald d_M_restore_192 rfl rfl g17 ?_
    obtain ⟨g19, h20⟩ := h18
    refine zt_iast d_M_restore_193 rfl rfl g19 ?_
    have h20 := h20 _ rfl
    refine zt_iinc (v := (x3 + 1)) 2 d_M_restore_194 rfl rfl rfl (by decide) rfl ?_
    refine zt_goto d_M_restore_197 (tgt := 153) (by decide) ?_
    exact zt_sub [1, 2, 0] rfl h20
theorem e_M_told {Q : Int32 → Mem → Prop} {M : Mem} {x1 : Int32} (h : (x1 < 30 → ((x1 < 20 → ((x1 < 10 → ((x1 = 0 → (Q (M.1 0 8) M)) ∧ (¬ x1 = 0 → ((x1 = 1 → (Q (M.1 0 4) M)) ∧ (¬ x1 = 1 → ((x1 = 2 → (Q (M.1 0 7) M)) ∧ (¬ x1 = 2 → (Q (-2) M)))))))) ∧ (¬ x1 < 10 → (CallI zY m_M_in [.int (x1 - 10), .int 0, .int ((M.1 0 4) - 1)] M (fun r21 M20 => (r21 = 0 → (Q (-2) M20)) ∧ (¬ r21 = 0 → (vp_in (x1 - 10) 3 ∧ (Q (M20.1 2 (x1 - 10).toNatClampNeg) M20)))))))) ∧ (¬ x1 < 20 → (CallI zY m_M_in [.int (x1 - 20), .int 0, .int ((M.1 0 4) - 1)] M (fun r29 M28 => (r29 = 0 → (Q (-2) M28)) ∧ (¬ r29 = 0 → (vp_in (x1 - 20) 3 ∧ (Q (M28.1 4 (x1 - 20).toNatClampNeg) M28)))))))) ∧ (¬ x1 < 30 → (CallI zY m_M_in [.int (x1 - 30), .int 0, .int ((M.1 0 7) - 1)] M (fun r37 M36 => (r37 = 0 → (Q (-2) M36)) ∧ (¬ r37 = 0 → (vp_in (x1 - 30) 6 ∧ (Q (M36.1 6 (x1 - 30).toNatClampNeg) M36))))))) : CallI zY m_M_told [.ref 0, .int x1] M Q := by
  refine call_of (by decide) (Nat.le_of_ble_eq_true rfl) ?_
  show wp zY m_M_told (QI Q) 0 [(0, .ref 0), (1, .int x1)] [] M
  refine zt_iload_n 1 d_M_told_0 rfl rfl rfl ?_
  refine zt_bipush (v := 30) d_M_told_1 rfl (by decide) ?_
  refine zt_icmp_lt d_M_told_3 rfl (tgt := 38) (by decide) ⟨fun c1 => ?_, fun c1 => ?_⟩
  · have h2 := h.1 c1
    refine zt_iload_n 1 d_M_told_38 rfl rfl rfl ?_
    refine zt_bipush (v := 20) d_M_told_39 rfl (by decide) ?_
    refine zt_icmp_lt d_M_told_41 rfl (tgt := 76) (by decide) ⟨fun c4 => ?_, fun c4 => ?_⟩
    · have h5 := h2.1 c4
      refine zt_iload_n 1 d_M_told_76 rfl rfl rfl ?_
      refine zt_bipush (v := 10) d_M_told_77 rfl (by decide) ?_
      refine zt_icmp_lt d_M_told_79 rfl (tgt := 114) (by decide) ⟨fun c7 => ?_, fun c7 => ?_⟩
      · have h8 := h5.1 c7
        refine zt_iload_n 1 d_M_told_114 rfl rfl rfl ?_
        refine zt_if_ne d_M_told_115 rfl (tgt := 125) (by decide) ⟨fun c10 => ?_, fun c10 => ?_⟩
        · have h11 := h8.1 c10
          refine zt_aload_n 0 d_M_told_118 rfl rfl rfl ?_
          refine zt_getI d_M_told_119 rfl fl_M_83 rfl ?_
          refine zt_goto d_M_told_122 (tgt := 151) (by decide) ?_
          exact zt_iret rfl d_M_told_151 ⟨_, rfl, h11⟩
        · have h12 := h8.2 c10
          refine zt_iload_n 1 d_M_told_125 rfl rfl rfl ?_
          refine zt_iconst (v := 1) d_M_told_126 rfl (by decide) ?_
          refine zt_icmp_ne d_M_told_127 rfl (tgt := 137) (by decide) ⟨fun c13 => ?_, fun c13 => ?_⟩
          · have h14 := h12.1 c13
            refine zt_aload_n 0 d_M_told_130 rfl rfl rfl ?_
            refine zt_getI d_M_told_131 rfl fl_M_98 rfl ?_
            refine zt_goto d_M_told_134 (tgt := 151) (by decide) ?_
            exact zt_iret rfl d_M_told_151 ⟨_, rfl, h14⟩
          · have h15 := h12.2 c13
            refine zt_iload_n 1 d_M_told_137 rfl rfl rfl ?_
            refine zt_iconst (v := 2) d_M_told_138 rfl (by decide) ?_
            refine zt_icmp_ne d_M_told_139 rfl (tgt := 149) (by decide) ⟨fun c16 => ?_, fun c16 => ?_⟩
            · have h17 := h15.1 c16
              refine zt_aload_n 0 d_M_told_142 rfl rfl rfl ?_
              refine zt_getI d_M_told_143 rfl fl_M_101 rfl ?_
              refine zt_goto d_M_told_146 (tgt := 151) (by decide) ?_
              exact zt_iret rfl d_M_told_151 ⟨_, rfl, h17⟩
            · have h18 := h15.2 c16
              refine zt_bipush (v := -2) d_M_told_149 rfl (by decide) ?_
              exact zt_iret rfl d_M_told_151 ⟨_, rfl, h18⟩
      · have h9 := h5.2 c7
        refine zt_iload_n 1 d_M_told_82 rfl rfl rfl ?_
        refine zt_bipush (v := 10) d_M_told_83 rfl (by decide) ?_
        refine zt_isub d_M_told_85 rfl ?_
        refine zt_iconst (v := 0) d_M_told_86 rfl (by decide) ?_
        refine zt_aload_n 0 d_M_told_87 rfl rfl rfl ?_
        refine zt_getI d_M_told_88 rfl fl_M_98 rfl ?_
        refine zt_iconst (v := 1) d_M_told_91 rfl (by decide) ?_
        refine zt_isub d_M_told_92 rfl ?_
        refine zt_callSI (as := [.int (x1 - 10), .int 0, .int ((M.1 0 4) - 1)]) d_M_told_93 rfl ms_M_in ⟨Nat.le_of_ble_eq_true rfl, Nat.le_of_ble_eq_true rfl⟩ wd_654 rfl rfl (Nat.le_of_ble_eq_true rfl) h9 (fun r21 M20 h19 => ?_)
        refine zt_if_eq d_M_told_96 rfl (tgt := 111) (by decide) ⟨fun c22 => ?_, fun c22 => ?_⟩
        · have h23 := h19.1 c22
          refine zt_bipush (v := -2) d_M_told_111 rfl (by decide) ?_
          exact zt_iret rfl d_M_told_113 ⟨_, rfl, h23⟩
        · have h24 := h19.2 c22
          refine zt_aload_n 0 d_M_told_99 rfl rfl rfl ?_
          refine zt_getR (b := 2) d_M_told_100 rfl fl_M_13 rfl rfl ?_
          refine zt_iload_n 1 d_M_told_103 rfl rfl rfl ?_
          refine zt_bipush (v := 10) d_M_told_104 rfl (by decide) ?_
          refine zt_isub d_M_told_106 rfl ?_
          obtain ⟨g25, h26⟩ := h24
          refine zt_iald d_M_told_107 rfl rfl g25 ?_
          refine zt_goto d_M_told_108 (tgt := 113) (by decide) ?_
          exact zt_iret rfl d_M_told_113 ⟨_, rfl, h26⟩
    · have h6 := h2.2 c4
      refine zt_iload_n 1 d_M_told_44 rfl rfl rfl ?_
      refine zt_bipush (v := 20) d_M_told_45 rfl (by decide) ?_
      refine zt_isub d_M_told_47 rfl ?_
      refine zt_iconst (v := 0) d_M_told_48 rfl (by decide) ?_
      refine zt_aload_n 0 d_M_told_49 rfl rfl rfl ?_
      refine zt_getI d_M_told_50 rfl fl_M_98 rfl ?_
      refine zt_iconst (v := 1) d_M_told_53 rfl (by decide) ?_
      refine zt_isub d_M_told_54 rfl ?_
      refine zt_callSI (as := [.int (x1 - 20), .int 0, .int ((M.1 0 4) - 1)]) d_M_told_55 rfl ms_M_in ⟨Nat.le_of_ble_eq_true rfl, Nat.le_of_ble_eq_true rfl⟩ wd_654 rfl rfl (Nat.le_of_ble_eq_true rfl) h6 (fun r29 M28 h27 => ?_)
      refine zt_if_eq d_M_told_58 rfl (tgt := 73) (by decide) ⟨fun c30 => ?_, fun c30 => ?_⟩
      · have h31 := h27.1 c30
        refine zt_bipush (v := -2) d_M_told_73 rfl (by decide) ?_
        exact zt_iret rfl d_M_told_75 ⟨_, rfl, h31⟩
      · have h32 := h27.2 c30
        refine zt_aload_n 0 d_M_told_61 rfl rfl rfl ?_
        refine zt_getR (b := 4) d_M_told_62 rfl fl_M_19 rfl rfl ?_
        refine zt_iload_n 1 d_M_told_65 rfl rfl rfl ?_
        refine zt_bipush (v := 20) d_M_told_66 rfl (by decide) ?_
        refine zt_isub d_M_told_68 rfl ?_
        obtain ⟨g33, h34⟩ := h32
        refine zt_iald d_M_told_69 rfl rfl g33 ?_
        refine zt_goto d_M_told_70 (tgt := 75) (by decide) ?_
        exact zt_iret rfl d_M_told_75 ⟨_, rfl, h34⟩
  · have h3 := h.2 c1
    refine zt_iload_n 1 d_M_told_6 rfl rfl rfl ?_
    refine zt_bipush (v := 30) d_M_told_7 rfl (by decide) ?_
    refine zt_isub d_M_told_9 rfl ?_
    refine zt_iconst (v := 0) d_M_told_10 rfl (by decide) ?_
    refine zt_aload_n 0 d_M_told_11 rfl rfl rfl ?_
    refine zt_getI d_M_told_12 rfl fl_M_101 rfl ?_
    refine zt_iconst (v := 1) d_M_told_15 rfl (by decide) ?_
    refine zt_isub d_M_told_16 rfl ?_
    refine zt_callSI (as := [.int (x1 - 30), .int 0, .int ((M.1 0 7) - 1)]) d_M_told_17 rfl ms_M_in ⟨Nat.le_of_ble_eq_true rfl, Nat.le_of_ble_eq_true rfl⟩ wd_654 rfl rfl (Nat.le_of_ble_eq_true rfl) h3 (fun r37 M36 h35 => ?_)
    refine zt_if_eq d_M_told_20 rfl (tgt := 35) (by decide) ⟨fun c38 => ?_, fun c38 => ?_⟩
    · have h39 := h35.1 c38
      refine zt_bipush (v := -2) d_M_told_35 rfl (by decide) ?_
      exact zt_iret rfl d_M_told_37 ⟨_, rfl, h39⟩
    · have h40 := h35.2 c38
      refine zt_aload_n 0 d_M_told_23 rfl rfl rfl ?_
      refine zt_getR (b := 6) d_M_told_24 rfl fl_M_25 rfl rfl ?_
      refine zt_iload_n 1 d_M_told_27 rfl rfl rfl ?_
      refine zt_bipush (v := 30) d_M_told_28 rfl (by decide) ?_
      refine zt_isub d_M_told_30 rfl ?_
      obtain ⟨g41, h42⟩ := h40
      refine zt_iald d_M_told_31 rfl rfl g41 ?_
      refine zt_goto d_M_told_32 (tgt := 37) (by decide) ?_
      exact zt_iret rfl d_M_told_37 ⟨_, rfl, h42⟩
