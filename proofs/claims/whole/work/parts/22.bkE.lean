/-! walks, by program: what must hold from each cut point on -/
theorem e_E_say {Q : Int32 → Mem → Prop} {M : Mem} {x1 : Int32} (h : (x1 < 33 → (Q (-2) M)) ∧ (¬ x1 < 33 → ((x1 ≤ 126 → (CallI zX m_Sg_add [.ref 1, .int x1] M (fun r9 M8 => (r9 = 0 → (Q (-4) M8)) ∧ (¬ r9 = 0 → (CallI zX m_Sg_many [.ref 1] M8 (fun r15 M14 => Q r15 M14)))))) ∧ (¬ x1 ≤ 126 → (Q (-2) M))))) : CallI zX m_E_say [.ref 0, .int x1] M Q := by
  refine call_of (by decide) (Nat.le_of_ble_eq_true rfl) ?_
  show wp zX m_E_say (QI Q) 0 [(0, .ref 0), (1, .int x1)] [] M
  refine zt_iload_n 1 d_E_say_0 rfl rfl rfl ?_
  refine zt_bipush (v := 33) d_E_say_1 rfl (by decide) ?_
  refine zt_icmp_lt d_E_say_3 rfl (tgt := 12) (by decide) ⟨fun c1 => ?_, fun c1 => ?_⟩
  · have h2 := h.1 c1
    refine zt_bipush (v := -2) d_E_say_12 rfl (by decide) ?_
    exact zt_iret rfl d_E_say_14 ⟨_, rfl, h2⟩
  · have h3 := h.2 c1
    refine zt_iload_n 1 d_E_say_6 rfl rfl rfl ?_
    refine zt_bipush (v := 126) d_E_say_7 rfl (by decide) ?_
    refine zt_icmp_le d_E_say_9 rfl (tgt := 15) (by decide) ⟨fun c4 => ?_, fun c4 => ?_⟩
    · have h5 := h3.1 c4
      refine zt_aload_n 0 d_E_say_15 rfl rfl rfl ?_
      refine zt_getR (b := 1) d_E_say_16 rfl fl_E_14 rfl rfl ?_
      refine zt_iload_n 1 d_E_say_19 rfl rfl rfl ?_
      refine zt_callVI (as := [.int x1]) d_E_say_20 rfl mi_Sg_add ⟨Nat.le_of_ble_eq_true rfl, Nat.le_of_ble_eq_true rfl⟩ wd_220 rfl rfl (Nat.le_of_ble_eq_true rfl) T_pad.1 h5 (fun r9 M8 h7 => ?_)
      refine zt_if_eq d_E_say_23 rfl (tgt := 36) (by decide) ⟨fun c10 => ?_, fun c10 => ?_⟩
      · have h11 := h7.1 c10
        refine zt_bipush (v := -4) d_E_say_36 rfl (by decide) ?_
        exact zt_iret rfl d_E_say_38 ⟨_, rfl, h11⟩
      · have h12 := h7.2 c10
        refine zt_aload_n 0 d_E_say_26 rfl rfl rfl ?_
        refine zt_getR (b := 1) d_E_say_27 rfl fl_E_14 rfl rfl ?_
        refine zt_callVI (as := []) d_E_say_30 rfl mi_Sg_many ⟨Nat.le_of_ble_eq_true rfl, Nat.le_of_ble_eq_true rfl⟩ wd_227 rfl rfl (Nat.le_of_ble_eq_true rfl) T_pad.1 h12 (fun r15 M14 h13 => ?_)
        refine zt_goto d_E_say_33 (tgt := 38) (by decide) ?_
        exact zt_iret rfl d_E_say_38 ⟨_, rfl, h13⟩
    · have h6 := h3.2 c4
      refine zt_bipush (v := -2) d_E_say_12 rfl (by decide) ?_
      exact zt_iret rfl d_E_say_14 ⟨_, rfl, h6⟩
theorem e_E_wipe {Q : Int32 → Mem → Prop} {M : Mem}  (h : CallI zX m_Sg_many [.ref 1] M (fun r3 M2 => CallV zX m_Sg_clear [.ref 1] M2 (fun M5 => Q r3 M5))) : CallI zX m_E_wipe [.ref 0] M Q := by
  refine call_of (by decide) (Nat.le_of_ble_eq_true rfl) ?_
  show wp zX m_E_wipe (QI Q) 0 [(0, .ref 0)] [] M
  refine zt_aload_n 0 d_E_wipe_0 rfl rfl rfl ?_
  refine zt_getR (b := 1) d_E_wipe_1 rfl fl_E_14 rfl rfl ?_
  refine zt_callVI (as := []) d_E_wipe_4 rfl mi_Sg_many ⟨Nat.le_of_ble_eq_true rfl, Nat.le_of_ble_eq_true rfl⟩ wd_227 rfl rfl (Nat.le_of_ble_eq_true rfl) T_pad.1 h (fun r3 M2 h1 => ?_)
  refine zt_istore_n d_E_wipe_7 rfl rfl (by decide) rfl ?_
  refine zt_aload_n 1 d_E_wipe_8 rfl rfl rfl ?_
  refine zt_getR (b := 1) d_E_wipe_9 rfl fl_E_14 rfl rfl ?_
  refine zt_callVV (as := []) d_E_wipe_12 rfl mi_Sg_clear ⟨Nat.le_of_ble_eq_true rfl, Nat.le_of_ble_eq_true rfl⟩ wd_235 rfl rfl (Nat.le_of_ble_eq_true rfl) T_pad.1 h1 (fun M5 h4 => ?_)
  refine zt_iload_n 0 d_E_wipe_15 rfl rfl rfl ?_
  exact zt_iret rfl d_E_wipe_16 ⟨_, rfl, h4⟩
theorem e_E_fault {Q : Int32 → Mem → Prop} {M : Mem} {x1 : Int32} (h : (x1 = 0 → (CallI zX m_E_exampleFault [.ref 0] M (fun r6 M5 => Q r6 M5))) ∧ (¬ x1 = 0 → ((x1 = 1 → (CallI zX m_E_lineFault [.ref 0] M (fun r12 M11 => Q r12 M11))) ∧ (¬ x1 = 1 → (Q (-2) M))))) : CallI zX m_E_fault [.ref 0, .int x1] M Q := by
  refine call_of (by decide) (Nat.le_of_ble_eq_true rfl) ?_
  show wp zX m_E_fault (QI Q) 0 [(0, .ref 0), (1, .int x1)] [] M
  refine zt_iload_n 1 d_E_fault_0 rfl rfl rfl ?_
  refine zt_if_ne d_E_fault_1 rfl (tgt := 9) (by decide) ⟨fun c1 => ?_, fun c1 => ?_⟩
  · have h2 := h.1 c1
    refine zt_aload_n 0 d_E_fault_4 rfl rfl rfl ?_
    refine zt_callVI (as := []) d_E_fault_5 rfl mi_E_exampleFault ⟨Nat.le_of_ble_eq_true rfl, Nat.le_of_ble_eq_true rfl⟩ wd_243 rfl rfl (Nat.le_of_ble_eq_true rfl) rfl h2 (fun r6 M5 h4 => ?_)
    exact zt_iret rfl d_E_fault_8 ⟨_, rfl, h4⟩
  · have h3 := h.2 c1
    refine zt_iload_n 1 d_E_fault_9 rfl rfl rfl ?_
    refine zt_iconst (v := 1) d_E_fault_10 rfl (by decide) ?_
    refine zt_icmp_ne d_E_fault_11 rfl (tgt := 21) (by decide) ⟨fun c7 => ?_, fun c7 => ?_⟩
    · have h8 := h3.1 c7
      refine zt_aload_n 0 d_E_fault_14 rfl rfl rfl ?_
      refine zt_callVI (as := []) d_E_fault_15 rfl mi_E_lineFault ⟨Nat.le_of_ble_eq_true rfl, Nat.le_of_ble_eq_true rfl⟩ wd_259 rfl rfl (Nat.le_of_ble_eq_true rfl) rfl h8 (fun r12 M11 h10 => ?_)
      refine zt_goto d_E_fault_18 (tgt := 23) (by decide) ?_
      exact zt_iret rfl d_E_fault_23 ⟨_, rfl, h10⟩
    · have h9 := h3.2 c7
      refine zt_bipush (v := -2) d_E_fault_21 rfl (by decide) ?_
      exact zt_iret rfl d_E_fault_23 ⟨_, rfl, h9⟩
theorem e_E_example {Q : Int32 → Mem → Prop} {M : Mem}  (h : CallI zX m_E_exampleFault [.ref 0] M (fun r3 M2 => (r3 = (-6) → (CallI zX m_Bk_examples [.ref 4] M2 (fun r9 M8 => (r9 < 3 → (CallI zX m_Sg_signsEnd [.ref 1, .int 0, .int 12] M8 (fun r15 M14 => CallV zX m_Bk_addExample [.ref 4, .ref 1, .int r15, .ref 1, .int (r15 + 1)] M14 (fun M17 => CallV zX m_Sg_clear [.ref 1] M17 (fun M20 => CallV zX m_E_examplesChanged [.ref 0] M20 (fun M23 => CallI zX m_Bk_examples [.ref 4] M23 (fun r27 M26 => Q r27 M26))))))) ∧ (¬ r9 < 3 → (Q (-4) M8))))) ∧ (¬ r3 = (-6) → (Q (-5) M2)))) : CallI zX m_E_example [.ref 0] M Q := by
  refine call_of (by decide) (Nat.le_of_ble_eq_true rfl) ?_
  show wp zX m_E_example (QI Q) 0 [(0, .ref 0)] [] M
  refine zt_aload_n 0 d_E_example_0 rfl rfl rfl ?_
  refine zt_callVI (as := []) d_E_example_1 rfl mi_E_exampleFault ⟨Nat.le_of_ble_eq_true rfl, Nat.le_of_ble_eq_true rfl⟩ wd_243 rfl rfl (Nat.le_of_ble_eq_true rfl) rfl h (fun r3 M2 h1 => ?_)
  refine zt_bipush (v := -6) d_E_example_4 rfl (by decide) ?_
  refine zt_icmp_eq d_E_example_6 rfl (tgt := 12) (by decide) ⟨fun c4 => ?_, fun c4 => ?_⟩
  · have h5 := h1.1 c4
    refine zt_aload_n 0 d_E_example_12 rfl rfl rfl ?_
    refine zt_getR (b := 4) d_E_example_13 rfl fl_E_21 rfl rfl ?_
    refine zt_callVI (as := []) d_E_example_16 rfl mi_Bk_examples ⟨Nat.le_of_ble_eq_true rfl, Nat.le_of_ble_eq_true rfl⟩ wd_267 rfl rfl (Nat.le_of_ble_eq_true rfl) T_book.1 h5 (fun r9 M8 h7 => ?_)
    refine zt_iconst (v := 3) d_E_example_19 rfl (by decide) ?_
    refine zt_icmp_lt d_E_example_20 rfl (tgt := 26) (by decide) ⟨fun c10 => ?_, fun c10 => ?_⟩
    · have h11 := h7.1 c10
      refine zt_aload_n 0 d_E_example_26 rfl rfl rfl ?_
      refine zt_getR (b := 1) d_E_example_27 rfl fl_E_14 rfl rfl ?_
      refine zt_iconst (v := 0) d_E_example_30 rfl (by decide) ?_
      refine zt_bipush (v := 12) d_E_example_31 rfl (by decide) ?_
      refine zt_callVI (as := [.int 0, .int 12]) d_E_example_33 rfl mi_Sg_signsEnd ⟨Nat.le_of_ble_eq_true rfl, Nat.le_of_ble_eq_true rfl⟩ wd_247 rfl rfl (Nat.le_of_ble_eq_true rfl) T_pad.1 h11 (fun r15 M14 h13 => ?_)
      refine zt_istore_n d_E_example_36 rfl rfl (by decide) rfl ?_
      refine zt_aload_n 1 d_E_example_37 rfl rfl rfl ?_
      refine zt_getR (b := 4) d_E_example_38 rfl fl_E_21 rfl rfl ?_
      refine zt_aload_n 1 d_E_example_41 rfl rfl rfl ?_
      refine zt_getR (b := 1) d_E_example_42 rfl fl_E_14 rfl rfl ?_
      refine zt_iload_n 0 d_E_example_45 rfl rfl rfl ?_
      refine zt_aload_n 1 d_E_example_46 rfl rfl rfl ?_
      refine zt_getR (b := 1) d_E_example_47 rfl fl_E_14 rfl rfl ?_
      refine zt_iload_n 0 d_E_example_50 rfl rfl rfl ?_
      refine zt_iconst (v := 1) d_E_example_51 rfl (by decide) ?_
      refine zt_iadd d_E_example_52 rfl ?_
      refine zt_callVV (as := [.ref 1, .int r15, .ref 1, .int (r15 + 1)]) d_E_example_53 rfl mi_Bk_addExample ⟨Nat.le_of_ble_eq_true rfl, Nat.le_of_ble_eq_true rfl⟩ wd_271 rfl rfl (Nat.le_of_ble_eq_true rfl) T_book.1 h13 (fun M17 h16 => ?_)
      refine zt_aload_n 1 d_E_example_56 rfl rfl rfl ?_
      refine zt_getR (b := 1) d_E_example_57 rfl fl_E_14 rfl rfl ?_
      refine zt_callVV (as := []) d_E_example_60 rfl mi_Sg_clear ⟨Nat.le_of_ble_eq_true rfl, Nat.le_of_ble_eq_true rfl⟩ wd_235 rfl rfl (Nat.le_of_ble_eq_true rfl) T_pad.1 h16 (fun M20 h19 => ?_)
      refine zt_aload_n 1 d_E_example_63 rfl rfl rfl ?_
      refine zt_callVV (as := []) d_E_example_64 rfl mi_E_examplesChanged ⟨Nat.le_of_ble_eq_true rfl, Nat.le_of_ble_eq_true rfl⟩ wd_283 rfl rfl (Nat.le_of_ble_eq_true rfl) rfl h19 (fun M23 h22 => ?_)
      refine zt_aload_n 1 d_E_example_67 rfl rfl rfl ?_
      refine zt_getR (b := 4) d_E_example_68 rfl fl_E_21 rfl rfl ?_
      refine zt_callVI (as := []) d_E_example_71 rfl mi_Bk_examples ⟨Nat.le_of_ble_eq_true rfl, Nat.le_of_ble_eq_true rfl⟩ wd_267 rfl rfl (Nat.le_of_ble_eq_true rfl) T_book.1 h22 (fun r27 M26 h25 => ?_)
      exact zt_iret rfl d_E_example_74 ⟨_, rfl, h25⟩
    · have h12 := h7.2 c10
      refine zt_bipush (v := -4) d_E_example_23 rfl (by decide) ?_
      exact zt_iret rfl d_E_example_25 ⟨_, rfl, h12⟩
  · have h6 := h1.2 c4
    refine zt_bipush (v := -5) d_E_example_9 rfl (by decide) ?_
    exact zt_iret rfl d_E_example_11 ⟨_, rfl, h6⟩
theorem e_E_forget {Q : Int32 → Mem → Prop} {M : Mem}  (h : CallI zX m_Bk_examples [.ref 4] M (fun r3 M2 => (r3 = 0 → (Q (-5) M2)) ∧ (¬ r3 = 0 → (CallV zX m_Bk_dropExample [.ref 4] M2 (fun M8 => CallV zX m_E_examplesChanged [.ref 0] M8 (fun M11 => CallI zX m_Bk_examples [.ref 4] M11 (fun r15 M14 => Q r15 M14))))))) : CallI zX m_E_forget [.ref 0] M Q := by
  refine call_of (by decide) (Nat.le_of_ble_eq_true rfl) ?_
  show wp zX m_E_forget (QI Q) 0 [(0, .ref 0)] [] M
  refine zt_aload_n 0 d_E_forget_0 rfl rfl rfl ?_
  refine zt_getR (b := 4) d_E_forget_1 rfl fl_E_21 rfl rfl ?_
  refine zt_callVI (as := []) d_E_forget_4 rfl mi_Bk_examples ⟨Nat.le_of_ble_eq_true rfl, Nat.le_of_ble_eq_true rfl⟩ wd_267 rfl rfl (Nat.le_of_ble_eq_true rfl) T_book.1 h (fun r3 M2 h1 => ?_)
  refine zt_if_ne d_E_forget_7 rfl (tgt := 13) (by decide) ⟨fun c4 => ?_, fun c4 => ?_⟩
  · have h5 := h1.1 c4
    refine zt_bipush (v := -5) d_E_forget_10 rfl (by decide) ?_
    exact zt_iret rfl d_E_forget_12 ⟨_, rfl, h5⟩
  · have h6 := h1.2 c4
    refine zt_aload_n 0 d_E_forget_13 rfl rfl rfl ?_
    refine zt_getR (b := 4) d_E_forget_14 rfl fl_E_21 rfl rfl ?_
    refine zt_callVV (as := []) d_E_forget_17 rfl mi_Bk_dropExample ⟨Nat.le_of_ble_eq_true rfl, Nat.le_of_ble_eq_true rfl⟩ wd_291 rfl rfl (Nat.le_of_ble_eq_true rfl) T_book.1 h6 (fun M8 h7 => ?_)
    refine zt_aload_n 0 d_E_forget_20 rfl rfl rfl ?_
    refine zt_callVV (as := []) d_E_forget_21 rfl mi_E_examplesChanged ⟨Nat.le_of_ble_eq_true rfl, Nat.le_of_ble_eq_true rfl⟩ wd_283 rfl rfl (Nat.le_of_ble_eq_true rfl) rfl h7 (fun M11 h10 => ?_)
    refine zt_aload_n 0 d_E_forget_24 rfl rfl rfl ?_
    refine zt_getR (b := 4) d_E_forget_25 rfl fl_E_21 rfl rfl ?_
    refine zt_callVI (as := []) d_E_forget_28 rfl mi_Bk_examples ⟨Nat.le_of_ble_eq_true rfl, Nat.le_of_ble_eq_true rfl⟩ wd_267 rfl rfl (Nat.le_of_ble_eq_true rfl) T_book.1 h10 (fun r15 M14 h13 => ?_)
    exact zt_iret rfl d_E_forget_31 ⟨_, rfl, h13⟩
theorem e_E_pool {Q : Int32 → Mem → Prop} {M : Mem}  (h : CallI zX m_E_lineFault [.ref 0] M (fun r3 M2 => (r3 = (-6) → (CallI zX m_Bk_pooled [.ref 4] M2 (fun r9 M8 => (r9 < 6 → (CallV zX m_Bk_addLine [.ref 4, .ref 1] M8 (fun M14 => CallV zX m_Sg_clear [.ref 1] M14 (fun M17 => CallV zX m_E_poolChanged [.ref 0] M17 (fun M20 => CallI zX m_Bk_pooled [.ref 4] M20 (fun r24 M23 => Q r24 M23)))))) ∧ (¬ r9 < 6 → (Q (-4) M8))))) ∧ (¬ r3 = (-6) → (Q (-5) M2)))) : CallI zX m_E_pool [.ref 0] M Q := by
  refine call_of (by decide) (Nat.le_of_ble_eq_true rfl) ?_
  show wp zX m_E_pool (QI Q) 0 [(0, .ref 0)] [] M
  refine zt_aload_n 0 d_E_pool_0 rfl rfl rfl ?_
  refine zt_callVI (as := []) d_E_pool_1 rfl mi_E_lineFault ⟨Nat.le_of_ble_eq_true rfl, Nat.le_of_ble_eq_true rfl⟩ wd_259 rfl rfl (Nat.le_of_ble_eq_true rfl) rfl h (fun r3 M2 h1 => ?_)
  refine zt_bipush (v := -6) d_E_pool_4 rfl (by decide) ?_
  refine zt_icmp_eq d_E_pool_6 rfl (tgt := 12) (by decide) ⟨fun c4 => ?_, fun c4 => ?_⟩
  · have h5 := h1.1 c4
    refine zt_aload_n 0 d_E_pool_12 rfl rfl rfl ?_
    refine zt_getR (b := 4) d_E_pool_13 rfl fl_E_21 rfl rfl ?_
    refine zt_callVI (as := []) d_E_pool_16 rfl mi_Bk_pooled ⟨Nat.le_of_ble_eq_true rfl, Nat.le_of_ble_eq_true rfl⟩ wd_299 rfl rfl (Nat.le_of_ble_eq_true rfl) T_book.1 h5 (fun r9 M8 h7 => ?_)
    refine zt_bipush (v := 6) d_E_pool_19 rfl (by decide) ?_
    refine zt_icmp_lt d_E_pool_21 rfl (tgt := 27) (by decide) ⟨fun c10 => ?_, fun c10 => ?_⟩
    · have h11 := h7.1 c10
      refine zt_aload_n 0 d_E_pool_27 rfl rfl rfl ?_
      refine zt_getR (b := 4) d_E_pool_28 rfl fl_E_21 rfl rfl ?_
      refine zt_aload_n 0 d_E_pool_31 rfl rfl rfl ?_
      refine zt_getR (b := 1) d_E_pool_32 rfl fl_E_14 rfl rfl ?_
      refine zt_callVV (as := [.ref 1]) d_E_pool_35 rfl mi_Bk_addLine ⟨Nat.le_of_ble_eq_true rfl, Nat.le_of_ble_eq_true rfl⟩ wd_303 rfl rfl (Nat.le_of_ble_eq_true rfl) T_book.1 h11 (fun M14 h13 => ?_)
      refine zt_aload_n 0 d_E_pool_38 rfl rfl rfl ?_
      refine zt_getR (b := 1) d_E_pool_39 rfl fl_E_14 rfl rfl ?_
      refine zt_callVV (as := []) d_E_pool_42 rfl mi_Sg_clear ⟨Nat.le_of_ble_eq_true rfl, Nat.le_of_ble_eq_true rfl⟩ wd_235 rfl rfl (Nat.le_of_ble_eq_true rfl) T_pad.1 h13 (fun M17 h16 => ?_)
      refine zt_aload_n 0 d_E_pool_45 rfl rfl rfl ?_
      refine zt_callVV (as := []) d_E_pool_46 rfl mi_E_poolChanged ⟨Nat.le_of_ble_eq_true rfl, Nat.le_of_ble_eq_true rfl⟩ wd_180 rfl rfl (Nat.le_of_ble_eq_true rfl) rfl h16 (fun M20 h19 => ?_)
      refine zt_aload_n 0 d_E_pool_49 rfl rfl rfl ?_
      refine zt_getR (b := 4) d_E_pool_50 rfl fl_E_21 rfl rfl ?_
      refine zt_callVI (as := []) d_E_pool_53 rfl mi_Bk_pooled ⟨Nat.le_of_ble_eq_true rfl, Nat.le_of_ble_eq_true rfl⟩ wd_299 rfl rfl (Nat.le_of_ble_eq_true rfl) T_book.1 h19 (fun r24 M23 h22 => ?_)
      exact zt_iret rfl d_E_pool_56 ⟨_, rfl, h22⟩
    · have h12 := h7.2 c10
      refine zt_bipush (v := -4) d_E_pool_24 rfl (by decide) ?_
      exact zt_iret rfl d_E_pool_26 ⟨_, rfl, h12⟩
  · have h6 := h1.2 c4
    refine zt_bipush (v := -5) d_E_pool_9 rfl (by decide) ?_
    exact zt_iret rfl d_E_pool_11 ⟨_, rfl, h6⟩
theorem e_E_drain {Q : Int32 → Mem → Prop} {M : Mem} {x1 : Int32} (h : CallI zX m_Bk_knows [.ref 4, .int x1] M (fun r3 M2 => (r3 = 0 → (Q (-1) M2)) ∧ (¬ r3 = 0 → (CallV zX m_Bk_dropLine [.ref 4, .int x1] M2 (fun M8 => CallV zX m_E_poolChanged [.ref 0] M8 (fun M11 => CallI zX m_Bk_pooled [.ref 4] M11 (fun r15 M14 => Q r15 M14))))))) : CallI zX m_E_drain [.ref 0, .int x1] M Q := by
  refine call_of (by decide) (Nat.le_of_ble_eq_true rfl) ?_
  show wp zX m_E_drain (QI Q) 0 [(0, .ref 0), (1, .int x1)] [] M
  refine zt_aload_n 0 d_E_drain_0 rfl rfl rfl ?_
  refine zt_getR (b := 4) d_E_drain_1 rfl fl_E_21 rfl rfl ?_
  refine zt_iload_n 1 d_E_drain_4 rfl rfl rfl ?_
  refine zt_callVI (as := [.int x1]) d_E_drain_5 rfl mi_Bk_knows ⟨Nat.le_of_ble_eq_true rfl, Nat.le_of_ble_eq_true rfl⟩ wd_317 rfl rfl (Nat.le_of_ble_eq_true rfl) T_book.1 h (fun r3 M2 h1 => ?_)
  refine zt_if_ne d_E_drain_8 rfl (tgt := 13) (by decide) ⟨fun c4 => ?_, fun c4 => ?_⟩
  · have h5 := h1.1 c4
    refine zt_iconst (v := -1) d_E_drain_11 rfl (by decide) ?_
    exact zt_iret rfl d_E_drain_12 ⟨_, rfl, h5⟩
  · have h6 := h1.2 c4
    refine zt_aload_n 0 d_E_drain_13 rfl rfl rfl ?_
    refine zt_getR (b := 4) d_E_drain_14 rfl fl_E_21 rfl rfl ?_
    refine zt_iload_n 1 d_E_drain_17 rfl rfl rfl ?_
    refine zt_callVV (as := [.int x1]) d_E_drain_18 rfl mi_Bk_dropLine ⟨Nat.le_of_ble_eq_true rfl, Nat.le_of_ble_eq_true rfl⟩ wd_321 rfl rfl (Nat.le_of_ble_eq_true rfl) T_book.1 h6 (fun M8 h7 => ?_)
    refine zt_aload_n 0 d_E_drain_21 rfl rfl rfl ?_
    refine zt_callVV (as := []) d_E_drain_22 rfl mi_E_poolChanged ⟨Nat.le_of_ble_eq_true rfl, Nat.le_of_ble_eq_true rfl⟩ wd_180 rfl rfl (Nat.le_of_ble_eq_true rfl) rfl h7 (fun M11 h10 => ?_)
    refine zt_aload_n 0 d_E_drain_25 rfl rfl rfl ?_
    refine zt_getR (b := 4) d_E_drain_26 rfl fl_E_21 rfl rfl ?_
    refine zt_callVI (as := []) d_E_drain_29 rfl mi_Bk_pooled ⟨Nat.le_of_ble_eq_true rfl, Nat.le_of_ble_eq_true rfl⟩ wd_299 rfl rfl (Nat.le_of_ble_eq_true rfl) T_book.1 h10 (fun r15 M14 h13 => ?_)
    exact zt_iret rfl d_E_drain_32 ⟨_, rfl, h13⟩
theorem e_E_plans {Q : Int64 → Mem → Prop} {M : Mem}  (h : CallI zX m_Bk_examples [.ref 4] M (fun r3 M2 => (r3 = 0 → (Q (-3) M2)) ∧ (¬ r3 = 0 → (CallV zX m_E_guess [.ref 0] M2 (fun M8 => Q (M8.2 0 9) M8))))) : CallL zX m_E_plans [.ref 0] M Q := by
  refine call_of (by decide) (Nat.le_of_ble_eq_true rfl) ?_
  show wp zX m_E_plans (QL Q) 0 [(0, .ref 0)] [] M
  refine zt_aload_n 0 d_E_plans_0 rfl rfl rfl ?_
  refine zt_getR (b := 4) d_E_plans_1 rfl fl_E_21 rfl rfl ?_
  refine zt_callVI (as := []) d_E_plans_4 rfl mi_Bk_examples ⟨Nat.le_of_ble_eq_true rfl, Nat.le_of_ble_eq_true rfl⟩ wd_267 rfl rfl (Nat.le_of_ble_eq_true rfl) T_book.1 h (fun r3 M2 h1 => ?_)
  refine zt_if_ne d_E_plans_7 rfl (tgt := 14) (by decide) ⟨fun c4 => ?_, fun c4 => ?_⟩
  · have h5 := h1.1 c4
    refine zt_ldc2_w (v := -3) d_E_plans_10 rfl wd_330 ?_
    exact zt_lret rfl d_E_plans_13 ⟨_, rfl, h5⟩
  · have h6 := h1.2 c4
    refine zt_aload_n 0 d_E_plans_14 rfl rfl rfl ?_
    refine zt_callVV (as := []) d_E_plans_15 rfl mi_E_guess ⟨Nat.le_of_ble_eq_true rfl, Nat.le_of_ble_eq_true rfl⟩ wd_331 rfl rfl (Nat.le_of_ble_eq_true rfl) rfl h6 (fun M8 h7 => ?_)
    refine zt_aload_n 0 d_E_plans_18 rfl rfl rfl ?_
    refine zt_getL d_E_plans_19 rfl fl_E_109 rfl ?_
    exact zt_lret rfl d_E_plans_22 ⟨_, rfl, h7⟩
theorem e_E_cost {Q : Int32 → Mem → Prop} {M : Mem} {x1 : Int32} (h : ((-2) ≤ x1 → (CallI zX m_Bk_examples [.ref 4] M (fun r6 M5 => (r6 = 0 → (Q (-3) M5)) ∧ (¬ r6 = 0 → (CallV zX m_E_guess [.ref 0] M5 (fun M11 => CallI zX m_Pl_many [.ref 134] M11 (fun r15 M14 => (r15 = 0 → (Q (-6) M14)) ∧ (¬ r15 = 0 → ((0 ≤ x1 → (CallI zX m_Pl_many [.ref 134] M14 (fun r24 M23 => (r24 ≤ x1 → (Q (-6) M23)) ∧ (¬ r24 ≤ x1 → (CallR zX m_Pl_at [.ref 134, .int x1] M23 (fun r30 M29 => T_Pc zX r30 ∧ (CallI zX m_Pc_price [.ref r30] M29 (fun r34 M33 => Q r34 M33)))))))) ∧ (¬ 0 ≤ x1 → ((x1 = (-1) → (CallI zX m_Pl_price [.ref 134] M14 (fun r40 M39 => Q r40 M39))) ∧ (¬ x1 = (-1) → (CallI zX m_Pl_many [.ref 134] M14 (fun r43 M42 => Q r43 M42)))))))))))))) ∧ (¬ (-2) ≤ x1 → (Q (-2) M))) : CallI zX m_E_cost [.ref 0, .int x1] M Q := by
  refine call_of (by decide) (Nat.le_of_ble_eq_true rfl) ?_
  show wp zX m_E_cost (QI Q) 0 [(0, .ref 0), (1, .int x1)] [] M
  refine zt_iload_n 1 d_E_cost_0 rfl rfl rfl ?_
  refine zt_bipush (v := -2) d_E_cost_1 rfl (by decide) ?_
  refine zt_icmp_ge d_E_cost_3 rfl (tgt := 9) (by decide) ⟨fun c1 => ?_, fun c1 => ?_⟩
  · have h2 := h.1 c1
    refine zt_aload_n 0 d_E_cost_9 rfl rfl rfl ?_
    refine zt_getR (b := 4) d_E_cost_10 rfl fl_E_21 rfl rfl ?_
    refine zt_callVI (as := []) d_E_cost_13 rfl mi_Bk_examples ⟨Nat.le_of_ble_eq_true rfl, Nat.le_of_ble_eq_true rfl⟩ wd_267 rfl rfl (Nat.le_of_ble_eq_true rfl) T_book.1 h2 (fun r6 M5 h4 => ?_)
    refine zt_if_ne d_E_cost_16 rfl (tgt := 22) (by decide) ⟨fun c7 => ?_, fun c7 => ?_⟩
    · have h8 := h4.1 c7
      refine zt_bipush (v := -3) d_E_cost_19 rfl (by decide) ?_
      exact zt_iret rfl d_E_cost_21 ⟨_, rfl, h8⟩
    · have h9 := h4.2 c7
      refine zt_aload_n 0 d_E_cost_22 rfl rfl rfl ?_
      refine zt_callVV (as := []) d_E_cost_23 rfl mi_E_guess ⟨Nat.le_of_ble_eq_true rfl, Nat.le_of_ble_eq_true rfl⟩ wd_331 rfl rfl (Nat.le_of_ble_eq_true rfl) rfl h9 (fun M11 h10 => ?_)
      refine zt_aload_n 0 d_E_cost_26 rfl rfl rfl ?_
      refine zt_getR (b := 134) d_E_cost_27 rfl fl_E_43 rfl rfl ?_
      refine zt_callVI (as := []) d_E_cost_30 rfl mi_Pl_many ⟨Nat.le_of_ble_eq_true rfl, Nat.le_of_ble_eq_true rfl⟩ wd_545 rfl rfl (Nat.le_of_ble_eq_true rfl) rfl h10 (fun r15 M14 h13 => ?_)
      refine zt_if_ne d_E_cost_33 rfl (tgt := 39) (by decide) ⟨fun c16 => ?_, fun c16 => ?_⟩
      · have h17 := h13.1 c16
        refine zt_bipush (v := -6) d_E_cost_36 rfl (by decide) ?_
        exact zt_iret rfl d_E_cost_38 ⟨_, rfl, h17⟩
      · have h18 := h13.2 c16
        refine zt_iload_n 1 d_E_cost_39 rfl rfl rfl ?_
        refine zt_if_ge d_E_cost_40 rfl (tgt := 66) (by decide) ⟨fun c19 => ?_, fun c19 => ?_⟩
        · have h20 := h18.1 c19
          refine zt_iload_n 1 d_E_cost_66 rfl rfl rfl ?_
          refine zt_aload_n 0 d_E_cost_67 rfl rfl rfl ?_
          refine zt_getR (b := 134) d_E_cost_68 rfl fl_E_43 rfl rfl ?_
          refine zt_callVI (as := []) d_E_cost_71 rfl mi_Pl_many ⟨Nat.le_of_ble_eq_true rfl, Nat.le_of_ble_eq_true rfl⟩ wd_545 rfl rfl (Nat.le_of_ble_eq_true rfl) rfl h20 (fun r24 M23 h22 => ?_)
          refine zt_icmp_ge d_E_cost_74 rfl (tgt := 91) (by decide) ⟨fun c25 => ?_, fun c25 => ?_⟩
          · have h26 := h22.1 c25
            refine zt_bipush (v := -6) d_E_cost_91 rfl (by decide) ?_
            exact zt_iret rfl d_E_cost_93 ⟨_, rfl, h26⟩
          · have h27 := h22.2 c25
            refine zt_aload_n 0 d_E_cost_77 rfl rfl rfl ?_
            refine zt_getR (b := 134) d_E_cost_78 rfl fl_E_43 rfl rfl ?_
            refine zt_iload_n 1 d_E_cost_81 rfl rfl rfl ?_
            refine zt_callVR (as := [.int x1]) d_E_cost_82 rfl mi_Pl_at ⟨Nat.le_of_ble_eq_true rfl, Nat.le_of_ble_eq_true rfl⟩ wd_561 rfl rfl (Nat.le_of_ble_eq_true rfl) rfl h27 (fun r30 M29 h28 => ?_)
            obtain ⟨t31, h28⟩ := h28
            refine zt_callVI (as := []) d_E_cost_85 rfl mi_Pc_price ⟨Nat.le_of_ble_eq_true rfl, Nat.le_of_ble_eq_true rfl⟩ wd_562 rfl rfl (Nat.le_of_ble_eq_true rfl) t31.1 h28 (fun r34 M33 h32 => ?_)
            refine zt_goto d_E_cost_88 (tgt := 93) (by decide) ?_
            exact zt_iret rfl d_E_cost_93 ⟨_, rfl, h32⟩
        · have h21 := h18.2 c19
          refine zt_iload_n 1 d_E_cost_43 rfl rfl rfl ?_
          refine zt_iconst (v := -1) d_E_cost_44 rfl (by decide) ?_
          refine zt_icmp_ne d_E_cost_45 rfl (tgt := 58) (by decide) ⟨fun c35 => ?_, fun c35 => ?_⟩
          · have h36 := h21.1 c35
            refine zt_aload_n 0 d_E_cost_48 rfl rfl rfl ?_
            refine zt_getR (b := 134) d_E_cost_49 rfl fl_E_43 rfl rfl ?_
            refine zt_callVI (as := []) d_E_cost_52 rfl mi_Pl_price ⟨Nat.le_of_ble_eq_true rfl, Nat.le_of_ble_eq_true rfl⟩ wd_549 rfl rfl (Nat.le_of_ble_eq_true rfl) rfl h36 (fun r40 M39 h38 => ?_)
            refine zt_goto d_E_cost_55 (tgt := 65) (by decide) ?_
            exact zt_iret rfl d_E_cost_65 ⟨_, rfl, h38⟩
          · have h37 := h21.2 c35
            refine zt_aload_n 0 d_E_cost_58 rfl rfl rfl ?_
            refine zt_getR (b := 134) d_E_cost_59 rfl fl_E_43 rfl rfl ?_
            refine zt_callVI (as := []) d_E_cost_62 rfl mi_Pl_many ⟨Nat.le_of_ble_eq_true rfl, Nat.le_of_ble_eq_true rfl⟩ wd_545 rfl rfl (Nat.le_of_ble_eq_true rfl) rfl h37 (fun r43 M42 h41 => ?_)
            exact zt_iret rfl d_E_cost_65 ⟨_, rfl, h41⟩
  · have h3 := h.2 c1
    refine zt_bipush (v := -2) d_E_cost_6 rfl (by decide) ?_
    exact zt_iret rfl d_E_cost_8 ⟨_, rfl, h3⟩
theorem e_E_piece {Q : Int32 → Mem → Prop} {M : Mem} {x1 : Int32} {x2 : Int32} (h : CallI zX m_Bk_examples [.ref 4] M (fun r3 M2 => (r3 = 0 → (Q (-3) M2)) ∧ (¬ r3 = 0 → (CallV zX m_E_guess [.ref 0] M2 (fun M8 => (x1 < 0 → (Q (-1) M8)) ∧ (¬ x1 < 0 → (CallI zX m_Pl_many [.ref 134] M8 (fun r15 M14 => (x1 < r15 → ((x2 < 0 → (Q (-2) M14)) ∧ (¬ x2 < 0 → ((x2 ≤ 2 → (CallR zX m_Pl_at [.ref 134, .int x1] M14 (fun r27 M26 => T_Pc zX r27 ∧ (CallI zX m_Pc_tells [.ref r27, .int x2] M26 (fun r31 M30 => Q r31 M30))))) ∧ (¬ x2 ≤ 2 → (Q (-2) M14)))))) ∧ (¬ x1 < r15 → (Q (-1) M14)))))))))) : CallI zX m_E_piece [.ref 0, .int x1, .int x2] M Q := by
  refine call_of (by decide) (Nat.le_of_ble_eq_true rfl) ?_
  show wp zX m_E_piece (QI Q) 0 [(0, .ref 0), (1, .int x1), (2, .int x2)] [] M
  refine zt_aload_n 0 d_E_piece_0 rfl rfl rfl ?_
  refine zt_getR (b := 4) d_E_piece_1 rfl fl_E_21 rfl rfl ?_
  refine zt_callVI (as := []) d_E_piece_4 rfl mi_Bk_examples ⟨Nat.le_of_ble_eq_true rfl, Nat.le_of_ble_eq_true rfl⟩ wd_267 rfl rfl (Nat.le_of_ble_eq_true rfl) T_book.1 h (fun r3 M2 h1 => ?_)
  refine zt_if_ne d_E_piece_7 rfl (tgt := 13) (by decide) ⟨fun c4 => ?_, fun c4 => ?_⟩
  · have h5 := h1.1 c4
    refine zt_bipush (v := -3) d_E_piece_10 rfl (by decide) ?_
    exact zt_iret rfl d_E_piece_12 ⟨_, rfl, h5⟩
  · have h6 := h1.2 c4
    refine zt_aload_n 0 d_E_piece_13 rfl rfl rfl ?_
    refine zt_callVV (as := []) d_E_piece_14 rfl mi_E_guess ⟨Nat.le_of_ble_eq_true rfl, Nat.le_of_ble_eq_true rfl⟩ wd_331 rfl rfl (Nat.le_of_ble_eq_true rfl) rfl h6 (fun M8 h7 => ?_)
    refine zt_iload_n 1 d_E_piece_17 rfl rfl rfl ?_
    refine zt_if_lt d_E_piece_18 rfl (tgt := 32) (by decide) ⟨fun c10 => ?_, fun c10 => ?_⟩
    · have h11 := h7.1 c10
      refine zt_iconst (v := -1) d_E_piece_32 rfl (by decide) ?_
      exact zt_iret rfl d_E_piece_33 ⟨_, rfl, h11⟩
    · have h12 := h7.2 c10
      refine zt_iload_n 1 d_E_piece_21 rfl rfl rfl ?_
      refine zt_aload_n 0 d_E_piece_22 rfl rfl rfl ?_
      refine zt_getR (b := 134) d_E_piece_23 rfl fl_E_43 rfl rfl ?_
      refine zt_callVI (as := []) d_E_piece_26 rfl mi_Pl_many ⟨Nat.le_of_ble_eq_true rfl, Nat.le_of_ble_eq_true rfl⟩ wd_545 rfl rfl (Nat.le_of_ble_eq_true rfl) rfl h12 (fun r15 M14 h13 => ?_)
      refine zt_icmp_lt d_E_piece_29 rfl (tgt := 34) (by decide) ⟨fun c16 => ?_, fun c16 => ?_⟩
      · have h17 := h13.1 c16
        refine zt_iload_n 2 d_E_piece_34 rfl rfl rfl ?_
        refine zt_if_lt d_E_piece_35 rfl (tgt := 43) (by decide) ⟨fun c19 => ?_, fun c19 => ?_⟩
        · have h20 := h17.1 c19
          refine zt_bipush (v := -2) d_E_piece_43 rfl (by decide) ?_
          refine zt_goto d_E_piece_45 (tgt := 60) (by decide) ?_
          exact zt_iret rfl d_E_piece_60 ⟨_, rfl, h20⟩
        · have h21 := h17.2 c19
          refine zt_iload_n 2 d_E_piece_38 rfl rfl rfl ?_
          refine zt_iconst (v := 2) d_E_piece_39 rfl (by decide) ?_
          refine zt_icmp_le d_E_piece_40 rfl (tgt := 48) (by decide) ⟨fun c22 => ?_, fun c22 => ?_⟩
          · have h23 := h21.1 c22
            refine zt_aload_n 0 d_E_piece_48 rfl rfl rfl ?_
            refine zt_getR (b := 134) d_E_piece_49 rfl fl_E_43 rfl rfl ?_
            refine zt_iload_n 1 d_E_piece_52 rfl rfl rfl ?_
            refine zt_callVR (as := [.int x1]) d_E_piece_53 rfl mi_Pl_at ⟨Nat.le_of_ble_eq_true rfl, Nat.le_of_ble_eq_true rfl⟩ wd_561 rfl rfl (Nat.le_of_ble_eq_true rfl) rfl h23 (fun r27 M26 h25 => ?_)
            obtain ⟨t28, h25⟩ := h25
            refine zt_iload_n 2 d_E_piece_56 rfl rfl rfl ?_
            refine zt_callVI (as := [.int x2]) d_E_piece_57 rfl mi_Pc_tells ⟨Nat.le_of_ble_eq_true rfl, Nat.le_of_ble_eq_true rfl⟩ wd_567 rfl rfl (Nat.le_of_ble_eq_true rfl) t28.1 h25 (fun r31 M30 h29 => ?_)
            exact zt_iret rfl d_E_piece_60 ⟨_, rfl, h29⟩
          · have h24 := h21.2 c22
            refine zt_bipush (v := -2) d_E_piece_43 rfl (by decide) ?_
            refine zt_goto d_E_piece_45 (tgt := 60) (by decide) ?_
            exact zt_iret rfl d_E_piece_60 ⟨_, rfl, h24⟩
      · have h18 := h13.2 c16
        refine zt_iconst (v := -1) d_E_piece_32 rfl (by decide) ?_
        exact zt_iret rfl d_E_piece_33 ⟨_, rfl, h18⟩
theorem e_E_place {Q : Int32 → Mem → Prop} {M : Mem} {x1 : Int32} (h : CallI zX m_E_lineFault [.ref 0] M (fun r3 M2 => (r3 = (-6) → (CallI zX m_Mk_index [.int x1] M2 (fun r9 M8 => (0 ≤ r9 → (CallI zX m_Mk_placeIn [.ref 1, .int r9] M8 (fun r15 M14 => Q r15 M14))) ∧ (¬ 0 ≤ r9 → (Q (-2) M8))))) ∧ (¬ r3 = (-6) → (Q (-5) M2)))) : CallI zX m_E_place [.ref 0, .int x1] M Q := by
  refine call_of (by decide) (Nat.le_of_ble_eq_true rfl) ?_
  show wp zX m_E_place (QI Q) 0 [(0, .ref 0), (1, .int x1)] [] M
  refine zt_aload_n 0 d_E_place_0 rfl rfl rfl ?_
  refine zt_callVI (as := []) d_E_place_1 rfl mi_E_lineFault ⟨Nat.le_of_ble_eq_true rfl, Nat.le_of_ble_eq_true rfl⟩ wd_259 rfl rfl (Nat.le_of_ble_eq_true rfl) rfl h (fun r3 M2 h1 => ?_)
  refine zt_bipush (v := -6) d_E_place_4 rfl (by decide) ?_
  refine zt_icmp_eq d_E_place_6 rfl (tgt := 12) (by decide) ⟨fun c4 => ?_, fun c4 => ?_⟩
  · have h5 := h1.1 c4
    refine zt_iload_n 1 d_E_place_12 rfl rfl rfl ?_
    refine zt_callSI (as := [.int x1]) d_E_place_13 rfl ms_Mk_index ⟨Nat.le_of_ble_eq_true rfl, Nat.le_of_ble_eq_true rfl⟩ wd_579 rfl rfl (Nat.le_of_ble_eq_true rfl) h5 (fun r9 M8 h7 => ?_)
    refine zt_istore_n d_E_place_16 rfl rfl (by decide) rfl ?_
    refine zt_iload_n 0 d_E_place_17 rfl rfl rfl ?_
    refine zt_if_ge d_E_place_18 rfl (tgt := 26) (by decide) ⟨fun c10 => ?_, fun c10 => ?_⟩
    · have h11 := h7.1 c10
      refine zt_aload_n 1 d_E_place_26 rfl rfl rfl ?_
      refine zt_getR (b := 1) d_E_place_27 rfl fl_E_14 rfl rfl ?_
      refine zt_iload_n 0 d_E_place_30 rfl rfl rfl ?_
      refine zt_callSI (as := [.ref 1, .int r9]) d_E_place_31 rfl ms_Mk_placeIn ⟨Nat.le_of_ble_eq_true rfl, Nat.le_of_ble_eq_true rfl⟩ wd_585 rfl rfl (Nat.le_of_ble_eq_true rfl) h11 (fun r15 M14 h13 => ?_)
      exact zt_iret rfl d_E_place_34 ⟨_, rfl, h13⟩
    · have h12 := h7.2 c10
      refine zt_bipush (v := -2) d_E_place_21 rfl (by decide) ?_
      refine zt_goto d_E_place_23 (tgt := 34) (by decide) ?_
      exact zt_iret rfl d_E_place_34 ⟨_, rfl, h12⟩
  · have h6 := h1.2 c4
    refine zt_bipush (v := -5) d_E_place_9 rfl (by decide) ?_
    exact zt_iret rfl d_E_place_11 ⟨_, rfl, h6⟩
theorem e_E_makes {Q : Int32 → Mem → Prop} {M : Mem} {x1 : Int32} (h : CallI zX m_E_lineFault [.ref 0] M (fun r3 M2 => (r3 = (-6) → (CallI zX m_Bk_examples [.ref 4] M2 (fun r9 M8 => (r9 = 0 → (Q (-3) M8)) ∧ (¬ r9 = 0 → (CallV zX m_E_guess [.ref 0] M8 (fun M14 => CallI zX m_Pl_many [.ref 134] M14 (fun r18 M17 => (r18 = 0 → (Q (-6) M17)) ∧ (¬ r18 = 0 → (CallV zX m_Pl_applyTo [.ref 134, .ref 1, .ref 156] M17 (fun M23 => (x1 = (-1) → (CallI zX m_Sg_many [.ref 156] M23 (fun r30 M29 => Q r30 M29))) ∧ (¬ x1 = (-1) → ((x1 < 0 → (Q (-6) M23)) ∧ (¬ x1 < 0 → (CallI zX m_Sg_many [.ref 156] M23 (fun r36 M35 => (r36 ≤ x1 → (Q (-6) M35)) ∧ (¬ r36 ≤ x1 → (CallI zX m_Sg_at [.ref 156, .int x1] M35 (fun r42 M41 => Q r42 M41)))))))))))))))))) ∧ (¬ r3 = (-6) → (Q (-5) M2)))) : CallI zX m_E_makes [.ref 0, .int x1] M Q := by
  refine call_of (by decide) (Nat.le_of_ble_eq_true rfl) ?_
  show wp zX m_E_makes (QI Q) 0 [(0, .ref 0), (1, .int x1)] [] M
  refine zt_aload_n 0 d_E_makes_0 rfl rfl rfl ?_
  refine zt_callVI (as := []) d_E_makes_1 rfl mi_E_lineFault ⟨Nat.le_of_ble_eq_true rfl, Nat.le_of_ble_eq_true rfl⟩ wd_259 rfl rfl (Nat.le_of_ble_eq_true rfl) rfl h (fun r3 M2 h1 => ?_)
  refine zt_bipush (v := -6) d_E_makes_4 rfl (by decide) ?_
  refine zt_icmp_eq d_E_makes_6 rfl (tgt := 12) (by decide) ⟨fun c4 => ?_, fun c4 => ?_⟩
  · have h5 := h1.1 c4
    refine zt_aload_n 0 d_E_makes_12 rfl rfl rfl ?_
    refine zt_getR (b := 4) d_E_makes_13 rfl fl_E_21 rfl rfl ?_
    refine zt_callVI (as := []) d_E_makes_16 rfl mi_Bk_examples ⟨Nat.le_of_ble_eq_true rfl, Nat.le_of_ble_eq_true rfl⟩ wd_267 rfl rfl (Nat.le_of_ble_eq_true rfl) T_book.1 h5 (fun r9 M8 h7 => ?_)
    refine zt_if_ne d_E_makes_19 rfl (tgt := 25) (by decide) ⟨fun c10 => ?_, fun c10 => ?_⟩
    · have h11 := h7.1 c10
      refine zt_bipush (v := -3) d_E_makes_22 rfl (by decide) ?_
      exact zt_iret rfl d_E_makes_24 ⟨_, rfl, h11⟩
    · have h12 := h7.2 c10
      refine zt_aload_n 0 d_E_makes_25 rfl rfl rfl ?_
      refine zt_callVV (as := []) d_E_makes_26 rfl mi_E_guess ⟨Nat.le_of_ble_eq_true rfl, Nat.le_of_ble_eq_true rfl⟩ wd_331 rfl rfl (Nat.le_of_ble_eq_true rfl) rfl h12 (fun M14 h13 => ?_)
      refine zt_aload_n 0 d_E_makes_29 rfl rfl rfl ?_
      refine zt_getR (b := 134) d_E_makes_30 rfl fl_E_43 rfl rfl ?_
      refine zt_callVI (as := []) d_E_makes_33 rfl mi_Pl_many ⟨Nat.le_of_ble_eq_true rfl, Nat.le_of_ble_eq_true rfl⟩ wd_545 rfl rfl (Nat.le_of_ble_eq_true rfl) rfl h13 (fun r18 M17 h16 => ?_)
      refine zt_if_ne d_E_makes_36 rfl (tgt := 42) (by decide) ⟨fun c19 => ?_, fun c19 => ?_⟩
      · have h20 := h16.1 c19
        refine zt_bipush (v := -6) d_E_makes_39 rfl (by decide) ?_
        exact zt_iret rfl d_E_makes_41 ⟨_, rfl, h20⟩
      · have h21 := h16.2 c19
        refine zt_aload_n 0 d_E_makes_42 rfl rfl rfl ?_
        refine zt_getR (b := 134) d_E_makes_43 rfl fl_E_43 rfl rfl ?_
        refine zt_aload_n 0 d_E_makes_46 rfl rfl rfl ?_
        refine zt_getR (b := 1) d_E_makes_47 rfl fl_E_14 rfl rfl ?_
        refine zt_aload_n 0 d_E_makes_50 rfl rfl rfl ?_
        refine zt_getR (b := 156) d_E_makes_51 rfl fl_E_47 rfl rfl ?_
        refine zt_callVV (as := [.ref 1, .ref 156]) d_E_makes_54 rfl mi_Pl_applyTo ⟨Nat.le_of_ble_eq_true rfl, Nat.le_of_ble_eq_true rfl⟩ wd_590 rfl rfl (Nat.le_of_ble_eq_true rfl) rfl h21 (fun M23 h22 => ?_)
        refine zt_iload_n 1 d_E_makes_57 rfl rfl rfl ?_
        refine zt_iconst (v := -1) d_E_makes_58 rfl (by decide) ?_
        refine zt_icmp_ne d_E_makes_59 rfl (tgt := 70) (by decide) ⟨fun c25 => ?_, fun c25 => ?_⟩
        · have h26 := h22.1 c25
          refine zt_aload_n 0 d_E_makes_62 rfl rfl rfl ?_
          refine zt_getR (b := 156) d_E_makes_63 rfl fl_E_47 rfl rfl ?_
          refine zt_callVI (as := []) d_E_makes_66 rfl mi_Sg_many ⟨Nat.le_of_ble_eq_true rfl, Nat.le_of_ble_eq_true rfl⟩ wd_227 rfl rfl (Nat.le_of_ble_eq_true rfl) T_made.1 h26 (fun r30 M29 h28 => ?_)
          exact zt_iret rfl d_E_makes_69 ⟨_, rfl, h28⟩
        · have h27 := h22.2 c25
          refine zt_iload_n 1 d_E_makes_70 rfl rfl rfl ?_
          refine zt_if_lt d_E_makes_71 rfl (tgt := 96) (by decide) ⟨fun c31 => ?_, fun c31 => ?_⟩
          · have h32 := h27.1 c31
            refine zt_bipush (v := -6) d_E_makes_96 rfl (by decide) ?_
            exact zt_iret rfl d_E_makes_98 ⟨_, rfl, h32⟩
          · have h33 := h27.2 c31
            refine zt_iload_n 1 d_E_makes_74 rfl rfl rfl ?_
            refine zt_aload_n 0 d_E_makes_75 rfl rfl rfl ?_
            refine zt_getR (b := 156) d_E_makes_76 rfl fl_E_47 rfl rfl ?_
            refine zt_callVI (as := []) d_E_makes_79 rfl mi_Sg_many ⟨Nat.le_of_ble_eq_true rfl, Nat.le_of_ble_eq_true rfl⟩ wd_227 rfl rfl (Nat.le_of_ble_eq_true rfl) T_made.1 h33 (fun r36 M35 h34 => ?_)
            refine zt_icmp_ge d_E_makes_82 rfl (tgt := 96) (by decide) ⟨fun c37 => ?_, fun c37 => ?_⟩
            · have h38 := h34.1 c37
              refine zt_bipush (v := -6) d_E_makes_96 rfl (by decide) ?_
              exact zt_iret rfl d_E_makes_98 ⟨_, rfl, h38⟩
            · have h39 := h34.2 c37
              refine zt_aload_n 0 d_E_makes_85 rfl rfl rfl ?_
              refine zt_getR (b := 156) d_E_makes_86 rfl fl_E_47 rfl rfl ?_
              refine zt_iload_n 1 d_E_makes_89 rfl rfl rfl ?_
              refine zt_callVI (as := [.int x1]) d_E_makes_90 rfl mi_Sg_at ⟨Nat.le_of_ble_eq_true rfl, Nat.le_of_ble_eq_true rfl⟩ wd_255 rfl rfl (Nat.le_of_ble_eq_true rfl) T_made.1 h39 (fun r42 M41 h40 => ?_)
              refine zt_goto d_E_makes_93 (tgt := 98) (by decide) ?_
              exact zt_iret rfl d_E_makes_98 ⟨_, rfl, h40⟩
  · have h6 := h1.2 c4
    refine zt_bipush (v := -5) d_E_makes_9 rfl (by decide) ?_
    exact zt_iret rfl d_E_makes_11 ⟨_, rfl, h6⟩
theorem e_E_accept {Q : Int32 → Mem → Prop} {M : Mem} {x1 : Int32} (h : CallI zX m_Bk_knows [.ref 4, .int x1] M (fun r3 M2 => (r3 = 0 → (Q (-1) M2)) ∧ (¬ r3 = 0 → (CallI zX m_Bk_examples [.ref 4] M2 (fun r9 M8 => (r9 = 0 → (Q (-3) M8)) ∧ (¬ r9 = 0 → (CallV zX m_E_guess [.ref 0] M8 (fun M14 => CallI zX m_E_makesResult [.ref 0, .int x1] M14 (fun r18 M17 => (r18 = 0 → (Q (-5) M17)) ∧ (¬ r18 = 0 → (CallI zX m_Bk_examples [.ref 4] M17 (fun r24 M23 => (r24 < 3 → (CallR zX m_Bk_line [.ref 4, .int x1] M23 (fun r30 M29 => ∃ n32, T_Sg zX r30 n32 ∧ (CallI zX m_Sg_many [.ref r30] M29 (fun r35 M34 => CallV zX m_Bk_addExample [.ref 4, .ref r30, .int r35, .ref 156, .int 0] M34 (fun M37 => CallV zX m_Bk_dropLine [.ref 4, .int x1] M37 (fun M40 => CallV zX m_E_examplesChanged [.ref 0] M40 (fun M43 => CallI zX m_Bk_examples [.ref 4] M43 (fun r47 M46 => Q r47 M46))))))))) ∧ (¬ r24 < 3 → (Q (-4) M23)))))))))))))) : CallI zX m_E_accept [.ref 0, .int x1] M Q := by
  refine call_of (by decide) (Nat.le_of_ble_eq_true rfl) ?_
  show wp zX m_E_accept (QI Q) 0 [(0, .ref 0), (1, .int x1)] [] M
  refine zt_aload_n 0 d_E_accept_0 rfl rfl rfl ?_
  refine zt_getR (b := 4) d_E_accept_1 rfl fl_E_21 rfl rfl ?_
  refine zt_iload_n 1 d_E_accept_4 rfl rfl rfl ?_
  refine zt_callVI (as := [.int x1]) d_E_accept_5 rfl mi_Bk_knows ⟨Nat.le_of_ble_eq_true rfl, Nat.le_of_ble_eq_true rfl⟩ wd_317 rfl rfl (Nat.le_of_ble_eq_true rfl) T_book.1 h (fun r3 M2 h1 => ?_)
  refine zt_if_ne d_E_accept_8 rfl (tgt := 13) (by decide) ⟨fun c4 => ?_, fun c4 => ?_⟩
  · have h5 := h1.1 c4
    refine zt_iconst (v := -1) d_E_accept_11 rfl (by decide) ?_
    exact zt_iret rfl d_E_accept_12 ⟨_, rfl, h5⟩
  · have h6 := h1.2 c4
    refine zt_aload_n 0 d_E_accept_13 rfl rfl rfl ?_
    refine zt_getR (b := 4) d_E_accept_14 rfl fl_E_21 rfl rfl ?_
    refine zt_callVI (as := []) d_E_accept_17 rfl mi_Bk_examples ⟨Nat.le_of_ble_eq_true rfl, Nat.le_of_ble_eq_true rfl⟩ wd_267 rfl rfl (Nat.le_of_ble_eq_true rfl) T_book.1 h6 (fun r9 M8 h7 => ?_)
    refine zt_if_ne d_E_accept_20 rfl (tgt := 26) (by decide) ⟨fun c10 => ?_, fun c10 => ?_⟩
    · have h11 := h7.1 c10
      refine zt_bipush (v := -3) d_E_accept_23 rfl (by decide) ?_
      exact zt_iret rfl d_E_accept_25 ⟨_, rfl, h11⟩
    · have h12 := h7.2 c10
      refine zt_aload_n 0 d_E_accept_26 rfl rfl rfl ?_
      refine zt_callVV (as := []) d_E_accept_27 rfl mi_E_guess ⟨Nat.le_of_ble_eq_true rfl, Nat.le_of_ble_eq_true rfl⟩ wd_331 rfl rfl (Nat.le_of_ble_eq_true rfl) rfl h12 (fun M14 h13 => ?_)
      refine zt_aload_n 0 d_E_accept_30 rfl rfl rfl ?_
      refine zt_iload_n 1 d_E_accept_31 rfl rfl rfl ?_
      refine zt_callVI (as := [.int x1]) d_E_accept_32 rfl mi_E_makesResult ⟨Nat.le_of_ble_eq_true rfl, Nat.le_of_ble_eq_true rfl⟩ wd_604 rfl rfl (Nat.le_of_ble_eq_true rfl) rfl h13 (fun r18 M17 h16 => ?_)
      refine zt_if_ne d_E_accept_35 rfl (tgt := 41) (by decide) ⟨fun c19 => ?_, fun c19 => ?_⟩
      · have h20 := h16.1 c19
        refine zt_bipush (v := -5) d_E_accept_38 rfl (by decide) ?_
        exact zt_iret rfl d_E_accept_40 ⟨_, rfl, h20⟩
      · have h21 := h16.2 c19
        refine zt_aload_n 0 d_E_accept_41 rfl rfl rfl ?_
        refine zt_getR (b := 4) d_E_accept_42 rfl fl_E_21 rfl rfl ?_
        refine zt_callVI (as := []) d_E_accept_45 rfl mi_Bk_examples ⟨Nat.le_of_ble_eq_true rfl, Nat.le_of_ble_eq_true rfl⟩ wd_267 rfl rfl (Nat.le_of_ble_eq_true rfl) T_book.1 h21 (fun r24 M23 h22 => ?_)
        refine zt_iconst (v := 3) d_E_accept_48 rfl (by decide) ?_
        refine zt_icmp_lt d_E_accept_49 rfl (tgt := 55) (by decide) ⟨fun c25 => ?_, fun c25 => ?_⟩
        · have h26 := h22.1 c25
          refine zt_aload_n 0 d_E_accept_55 rfl rfl rfl ?_
          refine zt_getR (b := 4) d_E_accept_56 rfl fl_E_21 rfl rfl ?_
          refine zt_iload_n 1 d_E_accept_59 rfl rfl rfl ?_
          refine zt_callVR (as := [.int x1]) d_E_accept_60 rfl mi_Bk_line ⟨Nat.le_of_ble_eq_true rfl, Nat.le_of_ble_eq_true rfl⟩ wd_608 rfl rfl (Nat.le_of_ble_eq_true rfl) T_book.1 h26 (fun r30 M29 h28 => ?_)
          obtain ⟨n32, t31, h28⟩ := h28
          refine zt_astore_n d_E_accept_63 rfl rfl (by decide) rfl ?_
          refine zt_aload_n 1 d_E_accept_64 rfl rfl rfl ?_
          refine zt_getR (b := 4) d_E_accept_65 rfl fl_E_21 rfl rfl ?_
          refine zt_aload_n 0 d_E_accept_68 rfl rfl rfl ?_
          refine zt_aload_n 0 d_E_accept_69 rfl rfl rfl ?_
          refine zt_callVI (as := []) d_E_accept_70 rfl mi_Sg_many ⟨Nat.le_of_ble_eq_true rfl, Nat.le_of_ble_eq_true rfl⟩ wd_227 rfl rfl (Nat.le_of_ble_eq_true rfl) t31.1 h28 (fun r35 M34 h33 => ?_)
          refine zt_aload_n 1 d_E_accept_73 rfl rfl rfl ?_
          refine zt_getR (b := 156) d_E_accept_74 rfl fl_E_47 rfl rfl ?_
          refine zt_iconst (v := 0) d_E_accept_77 rfl (by decide) ?_
          refine zt_callVV (as := [.ref r30, .int r35, .ref 156, .int 0]) d_E_accept_78 rfl mi_Bk_addExample ⟨Nat.le_of_ble_eq_true rfl, Nat.le_of_ble_eq_true rfl⟩ wd_271 rfl rfl (Nat.le_of_ble_eq_true rfl) T_book.1 h33 (fun M37 h36 => ?_)
          refine zt_aload_n 1 d_E_accept_81 rfl rfl rfl ?_
          refine zt_getR (b := 4) d_E_accept_82 rfl fl_E_21 rfl rfl ?_
          refine zt_iload_n 2 d_E_accept_85 rfl rfl rfl ?_
          refine zt_callVV (as := [.int x1]) d_E_accept_86 rfl mi_Bk_dropLine ⟨Nat.le_of_ble_eq_true rfl, Nat.le_of_ble_eq_true rfl⟩ wd_321 rfl rfl (Nat.le_of_ble_eq_true rfl) T_book.1 h36 (fun M40 h39 => ?_)
          refine zt_aload_n 1 d_E_accept_89 rfl rfl rfl ?_
          refine zt_callVV (as := []) d_E_accept_90 rfl mi_E_examplesChanged ⟨Nat.le_of_ble_eq_true rfl, Nat.le_of_ble_eq_true rfl⟩ wd_283 rfl rfl (Nat.le_of_ble_eq_true rfl) rfl h39 (fun M43 h42 => ?_)
          refine zt_aload_n 1 d_E_accept_93 rfl rfl rfl ?_
          refine zt_getR (b := 4) d_E_accept_94 rfl fl_E_21 rfl rfl ?_
          refine zt_callVI (as := []) d_E_accept_97 rfl mi_Bk_examples ⟨Nat.le_of_ble_eq_true rfl, Nat.le_of_ble_eq_true rfl⟩ wd_267 rfl rfl (Nat.le_of_ble_eq_true rfl) T_book.1 h42 (fun r47 M46 h45 => ?_)
          exact zt_iret rfl d_E_accept_100 ⟨_, rfl, h45⟩
        · have h27 := h22.2 c25
          refine zt_bipush (v := -4) d_E_accept_52 rfl (by decide) ?_
          exact zt_iret rfl d_E_accept_54 ⟨_, rfl, h27⟩
theorem e_E_agreeing {Q : Int64 → Mem → Prop} {M : Mem} {x1 : Int32} (h : CallI zX m_Bk_knows [.ref 4, .int x1] M (fun r3 M2 => (r3 = 0 → (Q (-1) M2)) ∧ (¬ r3 = 0 → (CallI zX m_Bk_examples [.ref 4] M2 (fun r9 M8 => (r9 = 0 → (Q (-3) M8)) ∧ (¬ r9 = 0 → (CallV zX m_E_guess [.ref 0] M8 (fun M14 => CallI zX m_E_makesResult [.ref 0, .int x1] M14 (fun r18 M17 => (r18 = 0 → (Q (-5) M17)) ∧ (¬ r18 = 0 → (CallL zX m_E_countAgreeing [.ref 0, .int x1] M17 (fun r24 M23 => Q r24 M23)))))))))))) : CallL zX m_E_agreeing [.ref 0, .int x1] M Q := by
  refine call_of (by decide) (Nat.le_of_ble_eq_true rfl) ?_
  show wp zX m_E_agreeing (QL Q) 0 [(0, .ref 0), (1, .int x1)] [] M
  refine zt_aload_n 0 d_E_agreeing_0 rfl rfl rfl ?_
  refine zt_getR (b := 4) d_E_agreeing_1 rfl fl_E_21 rfl rfl ?_
  refine zt_iload_n 1 d_E_agreeing_4 rfl rfl rfl ?_
  refine zt_callVI (as := [.int x1]) d_E_agreeing_5 rfl mi_Bk_knows ⟨Nat.le_of_ble_eq_true rfl, Nat.le_of_ble_eq_true rfl⟩ wd_317 rfl rfl (Nat.le_of_ble_eq_true rfl) T_book.1 h (fun r3 M2 h1 => ?_)
  refine zt_if_ne d_E_agreeing_8 rfl (tgt := 15) (by decide) ⟨fun c4 => ?_, fun c4 => ?_⟩
  · have h5 := h1.1 c4
    refine zt_ldc2_w (v := -1) d_E_agreeing_11 rfl wd_184 ?_
    exact zt_lret rfl d_E_agreeing_14 ⟨_, rfl, h5⟩
  · have h6 := h1.2 c4
    refine zt_aload_n 0 d_E_agreeing_15 rfl rfl rfl ?_
    refine zt_getR (b := 4) d_E_agreeing_16 rfl fl_E_21 rfl rfl ?_
    refine zt_callVI (as := []) d_E_agreeing_19 rfl mi_Bk_examples ⟨Nat.le_of_ble_eq_true rfl, Nat.le_of_ble_eq_true rfl⟩ wd_267 rfl rfl (Nat.le_of_ble_eq_true rfl) T_book.1 h6 (fun r9 M8 h7 => ?_)
    refine zt_if_ne d_E_agreeing_22 rfl (tgt := 29) (by decide) ⟨fun c10 => ?_, fun c10 => ?_⟩
    · have h11 := h7.1 c10
      refine zt_ldc2_w (v := -3) d_E_agreeing_25 rfl wd_330 ?_
      exact zt_lret rfl d_E_agreeing_28 ⟨_, rfl, h11⟩
    · have h12 := h7.2 c10
      refine zt_aload_n 0 d_E_agreeing_29 rfl rfl rfl ?_
      refine zt_callVV (as := []) d_E_agreeing_30 rfl mi_E_guess ⟨Nat.le_of_ble_eq_true rfl, Nat.le_of_ble_eq_true rfl⟩ wd_331 rfl rfl (Nat.le_of_ble_eq_true rfl) rfl h12 (fun M14 h13 => ?_)
      refine zt_aload_n 0 d_E_agreeing_33 rfl rfl rfl ?_
      refine zt_iload_n 1 d_E_agreeing_34 rfl rfl rfl ?_
      refine zt_callVI (as := [.int x1]) d_E_agreeing_35 rfl mi_E_makesResult ⟨Nat.le_of_ble_eq_true rfl, Nat.le_of_ble_eq_true rfl⟩ wd_604 rfl rfl (Nat.le_of_ble_eq_true rfl) rfl h13 (fun r18 M17 h16 => ?_)
      refine zt_if_eq d_E_agreeing_38 rfl (tgt := 49) (by decide) ⟨fun c19 => ?_, fun c19 => ?_⟩
      · have h20 := h16.1 c19
        refine zt_ldc2_w (v := -5) d_E_agreeing_49 rfl wd_624 ?_
        exact zt_lret rfl d_E_agreeing_52 ⟨_, rfl, h20⟩
      · have h21 := h16.2 c19
        refine zt_aload_n 0 d_E_agreeing_41 rfl rfl rfl ?_
        refine zt_iload_n 1 d_E_agreeing_42 rfl rfl rfl ?_
        refine zt_callVL (as := [.int x1]) d_E_agreeing_43 rfl mi_E_countAgreeing ⟨Nat.le_of_ble_eq_true rfl, Nat.le_of_ble_eq_true rfl⟩ wd_616 rfl rfl (Nat.le_of_ble_eq_true rfl) rfl h21 (fun r24 M23 h22 => ?_)
        refine zt_goto d_E_agreeing_46 (tgt := 52) (by decide) ?_
        exact zt_lret rfl d_E_agreeing_52 ⟨_, rfl, h22⟩
theorem e_E_asked {Q : Int32 → Mem → Prop} {M : Mem}  (h : CallI zX m_Bk_examples [.ref 4] M (fun r3 M2 => (r3 = 0 → (Q (-3) M2)) ∧ (¬ r3 = 0 → (CallV zX m_E_guess [.ref 0] M2 (fun M8 => wp zX m_E_asked (QI Q) 25 [(0, .ref 0), (1, .int (-6)), (2, .long 0), (4, .int 0)] [] M8))))) : CallI zX m_E_asked [.ref 0] M Q := by
  refine call_of (by decide) (Nat.le_of_ble_eq_true rfl) ?_
  show wp zX m_E_asked (QI Q) 0 [(0, .ref 0)] [] M
  refine zt_aload_n 0 d_E_asked_0 rfl rfl rfl ?_
  refine zt_getR (b := 4) d_E_asked_1 rfl fl_E_21 rfl rfl ?_
  refine zt_callVI (as := []) d_E_asked_4 rfl mi_Bk_examples ⟨Nat.le_of_ble_eq_true rfl, Nat.le_of_ble_eq_true rfl⟩ wd_267 rfl rfl (Nat.le_of_ble_eq_true rfl) T_book.1 h (fun r3 M2 h1 => ?_)
  refine zt_if_ne d_E_asked_7 rfl (tgt := 13) (by decide) ⟨fun c4 => ?_, fun c4 => ?_⟩
  · have h5 := h1.1 c4
    refine zt_bipush (v := -3) d_E_asked_10 rfl (by decide) ?_
    exact zt_iret rfl d_E_asked_12 ⟨_, rfl, h5⟩
  · have h6 := h1.2 c4
    refine zt_aload_n 0 d_E_asked_13 rfl rfl rfl ?_
    refine zt_callVV (as := []) d_E_asked_14 rfl mi_E_guess ⟨Nat.le_of_ble_eq_true rfl, Nat.le_of_ble_eq_true rfl⟩ wd_331 rfl rfl (Nat.le_of_ble_eq_true rfl) rfl h6 (fun M8 h7 => ?_)
    refine zt_bipush (v := -6) d_E_asked_17 rfl (by decide) ?_
    refine zt_istore_n d_E_asked_19 rfl rfl (by decide) rfl ?_
    refine zt_lconst (v := 0) d_E_asked_20 rfl (by decide) ?_
    refine zt_lstore_n d_E_asked_21 rfl rfl (by decide) rfl ?_
    refine zt_iconst (v := 0) d_E_asked_22 rfl (by decide) ?_
    refine zt_istore d_E_asked_23 rfl (by decide) rfl ?_
    exact zt_sub [3, 2, 1, 0] rfl h7
theorem b_E_asked_25 {Q : Int32 → Mem → Prop} {M : Mem} {x1 : Int32} {x2 : Int64} {x4 : Int32} (h : CallI zX m_Bk_pooled [.ref 4] M (fun r3 M2 => (r3 ≤ x4 → (Q x1 M2)) ∧ (¬ r3 ≤ x4 → (CallI zX m_E_makesResult [.ref 0, .int x4] M2 (fun r9 M8 => (r9 = 0 → (wp zX m_E_asked (QI Q) 25 [(0, .ref 0), (1, .int x1), (2, .long x2), (4, .int (x4 + 1))] [] M8)) ∧ (¬ r9 = 0 → (CallL zX m_E_countAgreeing [.ref 0, .int x4] M8 (fun r15 M14 => (x1 = (-6) → (wp zX m_E_asked (QI Q) 25 [(0, .ref 0), (1, .int x4), (2, .long r15), (4, .int (x4 + 1))] [] M14)) ∧ (¬ x1 = (-6) → ((0 ≤ (lg_cmp r15 x2) → (wp zX m_E_asked (QI Q) 25 [(0, .ref 0), (1, .int x1), (2, .long x2), (4, .int (x4 + 1))] [] M14)) ∧ (¬ 0 ≤ (lg_cmp r15 x2) → (wp zX m_E_asked (QI Q) 25 [(0, .ref 0), (1, .int x4), (2, .long r15), (4, .int (x4 + 1))] [] M14)))))))))))) : wp zX m_E_asked (QI Q) 25 [(0, .ref 0), (1, .int x1), (2, .long x2), (4, .int x4)] [] M := by
  refine zt_iload 3 d_E_asked_25 rfl rfl ?_
  refine zt_aload_n 0 d_E_asked_27 rfl rfl rfl ?_
  refine zt_getR (b := 4) d_E_asked_28 rfl fl_E_21 rfl rfl ?_
  refine zt_callVI (as := []) d_E_asked_31 rfl mi_Bk_pooled ⟨Nat.le_of_ble_eq_true rfl, Nat.le_of_ble_eq_true rfl⟩ wd_299 rfl rfl (Nat.le_of_ble_eq_true rfl) T_book.1 h (fun r3 M2 h1 => ?_)
  refine zt_icmp_ge d_E_asked_34 rfl (tgt := 79) (by decide) ⟨fun c4 => ?_, fun c4 => ?_⟩
  · have h5 := h1.1 c4
    refine zt_iload_n 1 d_E_asked_79 rfl rfl rfl ?_
    exact zt_iret rfl d_E_asked_80 ⟨_, rfl, h5⟩
  · have h6 := h1.2 c4
    refine zt_aload_n 0 d_E_asked_37 rfl rfl rfl ?_
    refine zt_iload 3 d_E_asked_38 rfl rfl ?_
    refine zt_callVI (as := [.int x4]) d_E_asked_40 rfl mi_E_makesResult ⟨Nat.le_of_ble_eq_true rfl, Nat.le_of_ble_eq_true rfl⟩ wd_604 rfl rfl (Nat.le_of_ble_eq_true rfl) rfl h6 (fun r9 M8 h7 => ?_)
    refine zt_if_eq d_E_asked_43 rfl (tgt := 73) (by decide) ⟨fun c10 => ?_, fun c10 => ?_⟩
    · have h11 := h7.1 c10
      refine zt_iinc (v := (x4 + 1)) 3 d_E_asked_73 rfl rfl rfl (by decide) rfl ?_
      refine zt_goto d_E_asked_76 (tgt := 25) (by decide) ?_
      exact zt_sub [1, 2, 3, 0] rfl h11
    · have h12 := h7.2 c10
      refine zt_aload_n 0 d_E_asked_46 rfl rfl rfl ?_
      refine zt_iload 3 d_E_asked_47 rfl rfl ?_
      refine zt_callVL (as := [.int x4]) d_E_asked_49 rfl mi_E_countAgreeing ⟨Nat.le_of_ble_eq_true rfl, Nat.le_of_ble_eq_true rfl⟩ wd_616 rfl rfl (Nat.le_of_ble_eq_true rfl) rfl h12 (fun r15 M14 h13 => ?_)
      refine zt_lstore d_E_asked_52 rfl (by decide) rfl ?_
      refine zt_iload_n 2 d_E_asked_54 rfl rfl rfl ?_
      refine zt_bipush (v := -6) d_E_asked_55 rfl (by decide) ?_
      refine zt_icmp_eq d_E_asked_57 rfl (tgt := 67) (by decide) ⟨fun c16 => ?_, fun c16 => ?_⟩
      · have h17 := h13.1 c16
        refine zt_iload 4 d_E_asked_67 rfl rfl ?_
        refine zt_istore_n d_E_asked_69 rfl rfl (by decide) rfl ?_
        refine zt_lload 1 d_E_asked_70 rfl rfl ?_
        refine zt_lstore_n d_E_asked_72 rfl rfl (by decide) rfl ?_
        refine zt_iinc (v := (x4 + 1)) 4 d_E_asked_73 rfl rfl rfl (by decide) rfl ?_
        refine zt_goto d_E_asked_76 (tgt := 25) (by decide) ?_
        exact zt_sub [4, 2, 1, 0] rfl h17
      · have h18 := h13.2 c16
        refine zt_lload 0 d_E_asked_60 rfl rfl ?_
        refine zt_lload_n 3 d_E_asked_62 rfl rfl rfl ?_
        refine zt_lcmp d_E_asked_63 rfl ?_
        refine zt_if_ge d_E_asked_64 rfl (tgt := 73) (by decide) ⟨fun c19 => ?_, fun c19 => ?_⟩
        · have h20 := h18.1 c19
          refine zt_iinc (v := (x4 + 1)) 4 d_E_asked_73 rfl rfl rfl (by decide) rfl ?_
          refine zt_goto d_E_asked_76 (tgt := 25) (by decide) ?_
          exact zt_sub [2, 3, 4, 0] rfl h20
        · have h21 := h18.2 c19
          refine zt_iload 4 d_E_asked_67 rfl rfl ?_
          refine zt_istore_n d_E_asked_69 rfl rfl (by decide) rfl ?_
          refine zt_lload 1 d_E_asked_70 rfl rfl ?_
          refine zt_lstore_n d_E_asked_72 rfl rfl (by decide) rfl ?_
          refine zt_iinc (v := (x4 + 1)) 4 d_E_asked_73 rfl rfl rfl (by decide) rfl ?_
          refine zt_goto d_E_asked_76 (tgt := 25) (by decide) ?_
          exact zt_sub [4, 2, 1, 0] rfl h21
theorem e_E_image {Q : Int32 → Mem → Prop} {M : Mem} {x1 : Int32} (h : (x1 < 0 → (Q (-2) M)) ∧ (¬ x1 < 0 → ((x1 < 2 → (vp_in x1 2 ∧ (CallV zX m_Bk_copy [.ref (44 + 116 + 40 * x1.toNatClampNeg), .ref 4] M (fun M10 => vp_in x1 2 ∧ (∀ N14, N14 = uI M10 45 x1.toNatClampNeg (vp_nar .boolean 1) → (Q 1 N14)))))) ∧ (¬ x1 < 2 → (Q (-2) M))))) : CallI zX m_E_image [.ref 0, .int x1] M Q := by
  refine call_of (by decide) (Nat.le_of_ble_eq_true rfl) ?_
  show wp zX m_E_image (QI Q) 0 [(0, .ref 0), (1, .int x1)] [] M
  refine zt_iload_n 1 d_E_image_0 rfl rfl rfl ?_
  refine zt_if_lt d_E_image_1 rfl (tgt := 9) (by decide) ⟨fun c1 => ?_, fun c1 => ?_⟩
  · have h2 := h.1 c1
    refine zt_bipush (v := -2) d_E_image_9 rfl (by decide) ?_
    exact zt_iret rfl d_E_image_11 ⟨_, rfl, h2⟩
  · have h3 := h.2 c1
    refine zt_iload_n 1 d_E_image_4 rfl rfl rfl ?_
    refine zt_iconst (v := 2) d_E_image_5 rfl (by decide) ?_
    refine zt_icmp_lt d_E_image_6 rfl (tgt := 12) (by decide) ⟨fun c4 => ?_, fun c4 => ?_⟩
    · have h5 := h3.1 c4
      refine zt_aload_n 0 d_E_image_12 rfl rfl rfl ?_
      refine zt_getR (b := 44) d_E_image_13 rfl fl_E_25 rfl rfl ?_
      refine zt_iload_n 1 d_E_image_16 rfl rfl rfl ?_
      obtain ⟨g7, h8⟩ := h5
      refine zt_aald (b := 44 + 116 + 40 * x1.toNatClampNeg) d_E_image_17 rfl (fun _ => rfl) rfl (by decide) (by decide) rfl g7 rfl ?_
      refine zt_aload_n 0 d_E_image_18 rfl rfl rfl ?_
      refine zt_getR (b := 4) d_E_image_19 rfl fl_E_21 rfl rfl ?_
      refine zt_callVV (as := [.ref 4]) d_E_image_22 rfl mi_Bk_copy ⟨Nat.le_of_ble_eq_true rfl, Nat.le_of_ble_eq_true rfl⟩ wd_633 rfl rfl (Nat.le_of_ble_eq_true rfl) (T_images _ (vp_lt g7)).1 h8 (fun M10 h9 => ?_)
      refine zt_aload_n 0 d_E_image_25 rfl rfl rfl ?_
      refine zt_getR (b := 45) d_E_image_26 rfl fl_E_29 rfl rfl ?_
      refine zt_iload_n 1 d_E_image_29 rfl rfl rfl ?_
      refine zt_iconst (v := 1) d_E_image_30 rfl (by decide) ?_
      obtain ⟨g12, h13⟩ := h9
      refine zt_zast d_E_image_31 rfl rfl g12 ?_
      have h13 := h13 _ rfl
      refine zt_iconst (v := 1) d_E_image_32 rfl (by decide) ?_
      exact zt_iret rfl d_E_image_33 ⟨_, rfl, h13⟩
    · have h6 := h3.2 c4
      refine zt_bipush (v := -2) d_E_image_9 rfl (by decide) ?_
      exact zt_iret rfl d_E_image_11 ⟨_, rfl, h6⟩
theorem e_E_restore {Q : Int32 → Mem → Prop} {M : Mem} {x1 : Int32} (h : (x1 < 0 → (Q (-2) M)) ∧ (¬ x1 < 0 → ((x1 < 2 → (vp_in x1 2 ∧ (((M.1 45 x1.toNatClampNeg) = 0 → (Q (-3) M)) ∧ (¬ (M.1 45 x1.toNatClampNeg) = 0 → (vp_in x1 2 ∧ (CallV zX m_Bk_copy [.ref 4, .ref (44 + 116 + 40 * x1.toNatClampNeg)] M (fun M15 => CallV zX m_E_examplesChanged [.ref 0] M15 (fun M18 => Q 1 M18)))))))) ∧ (¬ x1 < 2 → (Q (-2) M))))) : CallI zX m_E_restore [.ref 0, .int x1] M Q := by
  refine call_of (by decide) (Nat.le_of_ble_eq_true rfl) ?_
  show wp zX m_E_restore (QI Q) 0 [(0, .ref 0), (1, .int x1)] [] M
  refine zt_iload_n 1 d_E_restore_0 rfl rfl rfl ?_
  refine zt_if_lt d_E_restore_1 rfl (tgt := 9) (by decide) ⟨fun c1 => ?_, fun c1 => ?_⟩
  · have h2 := h.1 c1
    refine zt_bipush (v := -2) d_E_restore_9 rfl (by decide) ?_
    exact zt_iret rfl d_E_restore_11 ⟨_, rfl, h2⟩
  · have h3 := h.2 c1
    refine zt_iload_n 1 d_E_restore_4 rfl rfl rfl ?_
    refine zt_iconst (v := 2) d_E_restore_5 rfl (by decide) ?_
    refine zt_icmp_lt d_E_restore_6 rfl (tgt := 12) (by decide) ⟨fun c4 => ?_, fun c4 => ?_⟩
    · have h5 := h3.1 c4
      refine zt_aload_n 0 d_E_restore_12 rfl rfl rfl ?_
      refine zt_getR (b := 45) d_E_restore_13 rfl fl_E_29 rfl rfl ?_
      refine zt_iload_n 1 d_E_restore_16 rfl rfl rfl ?_
      obtain ⟨g7, h8⟩ := h5
      refine zt_zald d_E_restore_17 rfl rfl g7 ?_
      refine zt_if_ne d_E_restore_18 rfl (tgt := 24) (by decide) ⟨fun c9 => ?_, fun c9 => ?_⟩
      · have h10 := h8.1 c9
        refine zt_bipush (v := -3) d_E_restore_21 rfl (by decide) ?_
        exact zt_iret rfl d_E_restore_23 ⟨_, rfl, h10⟩
      · have h11 := h8.2 c9
        refine zt_aload_n 0 d_E_restore_24 rfl rfl rfl ?_
        refine zt_getR (b := 4) d_E_restore_25 rfl fl_E_21 rfl rfl ?_
        refine zt_aload_n 0 d_E_restore_28 rfl rfl rfl ?_
        refine zt_getR (b := 44) d_E_restore_29 rfl fl_E_25 rfl rfl ?_
        refine zt_iload_n 1 d_E_restore_32 rfl rfl rfl ?_
        obtain ⟨g12, h13⟩ := h11
        refine zt_aald (b := 44 + 116 + 40 * x1.toNatClampNeg) d_E_restore_33 rfl (fun _ => rfl) rfl (by decide) (by decide) rfl g12 rfl ?_
        refine zt_callVV (as := [.ref (44 + 116 + 40 * x1.toNatClampNeg)]) d_E_restore_34 rfl mi_Bk_copy ⟨Nat.le_of_ble_eq_true rfl, Nat.le_of_ble_eq_true rfl⟩ wd_633 rfl rfl (Nat.le_of_ble_eq_true rfl) T_book.1 h13 (fun M15 h14 => ?_)
        refine zt_aload_n 0 d_E_restore_37 rfl rfl rfl ?_
        refine zt_callVV (as := []) d_E_restore_38 rfl mi_E_examplesChanged ⟨Nat.le_of_ble_eq_true rfl, Nat.le_of_ble_eq_true rfl⟩ wd_283 rfl rfl (Nat.le_of_ble_eq_true rfl) rfl h14 (fun M18 h17 => ?_)
        refine zt_iconst (v := 1) d_E_restore_41 rfl (by decide) ?_
        exact zt_iret rfl d_E_restore_42 ⟨_, rfl, h17⟩
    · have h6 := h3.2 c4
      refine zt_bipush (v := -2) d_E_restore_9 rfl (by decide) ?_
      exact zt_iret rfl d_E_restore_11 ⟨_, rfl, h6⟩
theorem e_E_told {Q : Int32 → Mem → Prop} {M : Mem} {x1 : Int32} (h : (x1 = 0 → (CallI zX m_Sg_many [.ref 1] M (fun r6 M5 => Q r6 M5))) ∧ (¬ x1 = 0 → ((x1 = 1 → (CallI zX m_Bk_examples [.ref 4] M (fun r12 M11 => Q r12 M11))) ∧ (¬ x1 = 1 → ((x1 = 2 → (CallI zX m_Bk_pooled [.ref 4] M (fun r18 M17 => Q r18 M17))) ∧ (¬ x1 = 2 → ((x1 < 10 → (wp zX m_E_told (QI Q) 73 [(0, .ref 0), (1, .int x1)] [] M)) ∧ (¬ x1 < 10 → (CallI zX m_Bk_examples [.ref 4] M (fun r24 M23 => ((10 + r24) ≤ x1 → (wp zX m_E_told (QI Q) 73 [(0, .ref 0), (1, .int x1)] [] M23)) ∧ (¬ (10 + r24) ≤ x1 → (CallR zX m_Bk_exampleLine [.ref 4, .int (x1 - 10)] M23 (fun r30 M29 => ∃ n32, T_Sg zX r30 n32 ∧ (CallI zX m_Sg_many [.ref r30] M29 (fun r35 M34 => Q r35 M34))))))))))))))) : CallI zX m_E_told [.ref 0, .int x1] M Q := by
  refine call_of (by decide) (Nat.le_of_ble_eq_true rfl) ?_
  show wp zX m_E_told (QI Q) 0 [(0, .ref 0), (1, .int x1)] [] M
  refine zt_iload_n 1 d_E_told_0 rfl rfl rfl ?_
  refine zt_if_ne d_E_told_1 rfl (tgt := 12) (by decide) ⟨fun c1 => ?_, fun c1 => ?_⟩
  · have h2 := h.1 c1
    refine zt_aload_n 0 d_E_told_4 rfl rfl rfl ?_
    refine zt_getR (b := 1) d_E_told_5 rfl fl_E_14 rfl rfl ?_
    refine zt_callVI (as := []) d_E_told_8 rfl mi_Sg_many ⟨Nat.le_of_ble_eq_true rfl, Nat.le_of_ble_eq_true rfl⟩ wd_227 rfl rfl (Nat.le_of_ble_eq_true rfl) T_pad.1 h2 (fun r6 M5 h4 => ?_)
    exact zt_iret rfl d_E_told_11 ⟨_, rfl, h4⟩
  · have h3 := h.2 c1
    refine zt_iload_n 1 d_E_told_12 rfl rfl rfl ?_
    refine zt_iconst (v := 1) d_E_told_13 rfl (by decide) ?_
    refine zt_icmp_ne d_E_told_14 rfl (tgt := 25) (by decide) ⟨fun c7 => ?_, fun c7 => ?_⟩
    · have h8 := h3.1 c7
      refine zt_aload_n 0 d_E_told_17 rfl rfl rfl ?_
      refine zt_getR (b := 4) d_E_told_18 rfl fl_E_21 rfl rfl ?_
      refine zt_callVI (as := []) d_E_told_21 rfl mi_Bk_examples ⟨Nat.le_of_ble_eq_true rfl, Nat.le_of_ble_eq_true rfl⟩ wd_267 rfl rfl (Nat.le_of_ble_eq_true rfl) T_book.1 h8 (fun r12 M11 h10 => ?_)
      exact zt_iret rfl d_E_told_24 ⟨_, rfl, h10⟩
    · have h9 := h3.2 c7
      refine zt_iload_n 1 d_E_told_25 rfl rfl rfl ?_
      refine zt_iconst (v := 2) d_E_told_26 rfl (by decide) ?_
      refine zt_icmp_ne d_E_told_27 rfl (tgt := 38) (by decide) ⟨fun c13 => ?_, fun c13 => ?_⟩
      · have h14 := h9.1 c13
        refine zt_aload_n 0 d_E_told_30 rfl rfl rfl ?_
        refine zt_getR (b := 4) d_E_told_31 rfl fl_E_21 rfl rfl ?_
        refine zt_callVI (as := []) d_E_told_34 rfl mi_Bk_pooled ⟨Nat.le_of_ble_eq_true rfl, Nat.le_of_ble_eq_true rfl⟩ wd_299 rfl rfl (Nat.le_of_ble_eq_true rfl) T_book.1 h14 (fun r18 M17 h16 => ?_)
        exact zt_iret rfl d_E_told_37 ⟨_, rfl, h16⟩
      · have h15 := h9.2 c13
        refine zt_iload_n 1 d_E_told_38 rfl rfl rfl ?_
        refine zt_bipush (v := 10) d_E_told_39 rfl (by decide) ?_
        refine zt_icmp_lt d_E_told_41 rfl (tgt := 73) (by decide) ⟨fun c19 => ?_, fun c19 => ?_⟩
        · have h20 := h15.1 c19
          exact h20
        · have h21 := h15.2 c19
          refine zt_iload_n 1 d_E_told_44 rfl rfl rfl ?_
          refine zt_bipush (v := 10) d_E_told_45 rfl (by decide) ?_
          refine zt_aload_n 0 d_E_told_47 rfl rfl rfl ?_
          refine zt_getR (b := 4) d_E_told_48 rfl fl_E_21 rfl rfl ?_
          refine zt_callVI (as := []) d_E_told_51 rfl mi_Bk_examples ⟨Nat.le_of_ble_eq_true rfl, Nat.le_of_ble_eq_true rfl⟩ wd_267 rfl rfl (Nat.le_of_ble_eq_true rfl) T_book.1 h21 (fun r24 M23 h22 => ?_)
          refine zt_iadd d_E_told_54 rfl ?_
          refine zt_icmp_ge d_E_told_55 rfl (tgt := 73) (by decide) ⟨fun c25 => ?_, fun c25 => ?_⟩
          · have h26 := h22.1 c25
            exact h26
          · have h27 := h22.2 c25
            refine zt_aload_n 0 d_E_told_58 rfl rfl rfl ?_
            refine zt_getR (b := 4) d_E_told_59 rfl fl_E_21 rfl rfl ?_
            refine zt_iload_n 1 d_E_told_62 rfl rfl rfl ?_
            refine zt_bipush (v := 10) d_E_told_63 rfl (by decide) ?_
            refine zt_isub d_E_told_65 rfl ?_
            refine zt_callVR (as := [.int (x1 - 10)]) d_E_told_66 rfl mi_Bk_exampleLine ⟨Nat.le_of_ble_eq_true rfl, Nat.le_of_ble_eq_true rfl⟩ wd_339 rfl rfl (Nat.le_of_ble_eq_true rfl) T_book.1 h27 (fun r30 M29 h28 => ?_)
            obtain ⟨n32, t31, h28⟩ := h28
            refine zt_callVI (as := []) d_E_told_69 rfl mi_Sg_many ⟨Nat.le_of_ble_eq_true rfl, Nat.le_of_ble_eq_true rfl⟩ wd_227 rfl rfl (Nat.le_of_ble_eq_true rfl) t31.1 h28 (fun r35 M34 h33 => ?_)
            exact zt_iret rfl d_E_told_72 ⟨_, rfl, h33⟩
theorem b_E_told_73 {Q : Int32 → Mem → Prop} {M : Mem} {x1 : Int32} (h : (x1 < 20 → (wp zX m_E_told (QI Q) 108 [(0, .ref 0), (1, .int x1)] [] M)) ∧ (¬ x1 < 20 → (CallI zX m_Bk_examples [.ref 4] M (fun r6 M5 => ((20 + r6) ≤ x1 → (wp zX m_E_told (QI Q) 108 [(0, .ref 0), (1, .int x1)] [] M5)) ∧ (¬ (20 + r6) ≤ x1 → (CallR zX m_Bk_result [.ref 4, .int (x1 - 20)] M5 (fun r12 M11 => ∃ n14, T_Sg zX r12 n14 ∧ (CallI zX m_Sg_many [.ref r12] M11 (fun r17 M16 => Q r17 M16))))))))) : wp zX m_E_told (QI Q) 73 [(0, .ref 0), (1, .int x1)] [] M := by
  refine zt_iload_n 1 d_E_told_73 rfl rfl rfl ?_
  refine zt_bipush (v := 20) d_E_told_74 rfl (by decide) ?_
  refine zt_icmp_lt d_E_told_76 rfl (tgt := 108) (by decide) ⟨fun c1 => ?_, fun c1 => ?_⟩
  · have h2 := h.1 c1
    exact h2
  · have h3 := h.2 c1
    refine zt_iload_n 1 d_E_told_79 rfl rfl rfl ?_
    refine zt_bipush (v := 20) d_E_told_80 rfl (by decide) ?_
    refine zt_aload_n 0 d_E_told_82 rfl rfl rfl ?_
    refine zt_getR (b := 4) d_E_told_83 rfl fl_E_21 rfl rfl ?_
    refine zt_callVI (as := []) d_E_told_86 rfl mi_Bk_examples ⟨Nat.le_of_ble_eq_true rfl, Nat.le_of_ble_eq_true rfl⟩ wd_267 rfl rfl (Nat.le_of_ble_eq_true rfl) T_book.1 h3 (fun r6 M5 h4 => ?_)
    refine zt_iadd d_E_told_89 rfl ?_
    refine zt_icmp_ge d_E_told_90 rfl (tgt := 108) (by decide) ⟨fun c7 => ?_, fun c7 => ?_⟩
    · have h8 := h4.1 c7
      exact h8
    · have h9 := h4.2 c7
      refine zt_aload_n 0 d_E_told_93 rfl rfl rfl ?_
      refine zt_getR (b := 4) d_E_told_94 rfl fl_E_21 rfl rfl ?_
      refine zt_iload_n 1 d_E_told_97 rfl rfl rfl ?_
      refine zt_bipush (v := 20) d_E_told_98 rfl (by decide) ?_
      refine zt_isub d_E_told_100 rfl ?_
      refine zt_callVR (as := [.int (x1 - 20)]) d_E_told_101 rfl mi_Bk_result ⟨Nat.le_of_ble_eq_true rfl, Nat.le_of_ble_eq_true rfl⟩ wd_343 rfl rfl (Nat.le_of_ble_eq_true rfl) T_book.1 h9 (fun r12 M11 h10 => ?_)
      obtain ⟨n14, t13, h10⟩ := h10
      refine zt_callVI (as := []) d_E_told_104 rfl mi_Sg_many ⟨Nat.le_of_ble_eq_true rfl, Nat.le_of_ble_eq_true rfl⟩ wd_227 rfl rfl (Nat.le_of_ble_eq_true rfl) t13.1 h10 (fun r17 M16 h15 => ?_)
      exact zt_iret rfl d_E_told_107 ⟨_, rfl, h15⟩
theorem b_E_told_108 {Q : Int32 → Mem → Prop} {M : Mem} {x1 : Int32} (h : (x1 < 30 → (Q (-2) M)) ∧ (¬ x1 < 30 → (CallI zX m_Bk_knows [.ref 4, .int (x1 - 30)] M (fun r6 M5 => (r6 = 0 → (Q (-2) M5)) ∧ (¬ r6 = 0 → (CallR zX m_Bk_line [.ref 4, .int (x1 - 30)] M5 (fun r12 M11 => ∃ n14, T_Sg zX r12 n14 ∧ (CallI zX m_Sg_many [.ref r12] M11 (fun r17 M16 => Q r17 M16))))))))) : wp zX m_E_told (QI Q) 108 [(0, .ref 0), (1, .int x1)] [] M := by
  refine zt_iload_n 1 d_E_told_108 rfl rfl rfl ?_
  refine zt_bipush (v := 30) d_E_told_109 rfl (by decide) ?_
  refine zt_icmp_lt d_E_told_111 rfl (tgt := 143) (by decide) ⟨fun c1 => ?_, fun c1 => ?_⟩
  · have h2 := h.1 c1
    refine zt_bipush (v := -2) d_E_told_143 rfl (by decide) ?_
    exact zt_iret rfl d_E_told_145 ⟨_, rfl, h2⟩
  · have h3 := h.2 c1
    refine zt_aload_n 0 d_E_told_114 rfl rfl rfl ?_
    refine zt_getR (b := 4) d_E_told_115 rfl fl_E_21 rfl rfl ?_
    refine zt_iload_n 1 d_E_told_118 rfl rfl rfl ?_
    refine zt_bipush (v := 30) d_E_told_119 rfl (by decide) ?_
    refine zt_isub d_E_told_121 rfl ?_
    refine zt_callVI (as := [.int (x1 - 30)]) d_E_told_122 rfl mi_Bk_knows ⟨Nat.le_of_ble_eq_true rfl, Nat.le_of_ble_eq_true rfl⟩ wd_317 rfl rfl (Nat.le_of_ble_eq_true rfl) T_book.1 h3 (fun r6 M5 h4 => ?_)
    refine zt_if_eq d_E_told_125 rfl (tgt := 143) (by decide) ⟨fun c7 => ?_, fun c7 => ?_⟩
    · have h8 := h4.1 c7
      refine zt_bipush (v := -2) d_E_told_143 rfl (by decide) ?_
      exact zt_iret rfl d_E_told_145 ⟨_, rfl, h8⟩
    · have h9 := h4.2 c7
      refine zt_aload_n 0 d_E_told_128 rfl rfl rfl ?_
      refine zt_getR (b := 4) d_E_told_129 rfl fl_E_21 rfl rfl ?_
      refine zt_iload_n 1 d_E_told_132 rfl rfl rfl ?_
      refine zt_bipush (v := 30) d_E_told_133 rfl (by decide) ?_
      refine zt_isub d_E_told_135 rfl ?_
      refine zt_callVR (as := [.int (x1 - 30)]) d_E_told_136 rfl mi_Bk_line ⟨Nat.le_of_ble_eq_true rfl, Nat.le_of_ble_eq_true rfl⟩ wd_608 rfl rfl (Nat.le_of_ble_eq_true rfl) T_book.1 h9 (fun r12 M11 h10 => ?_)
      obtain ⟨n14, t13, h10⟩ := h10
      refine zt_callVI (as := []) d_E_told_139 rfl mi_Sg_many ⟨Nat.le_of_ble_eq_true rfl, Nat.le_of_ble_eq_true rfl⟩ wd_227 rfl rfl (Nat.le_of_ble_eq_true rfl) t13.1 h10 (fun r17 M16 h15 => ?_)
      exact zt_iret rfl d_E_told_142 ⟨_, rfl, h15⟩
theorem e_E_lineFault {Q : Int32 → Mem → Prop} {M : Mem}  (h : CallI zX m_Sg_signsEnd [.ref 1, .int 0, .int 12] M (fun r3 M2 => CallI zX m_Sg_many [.ref 1] M2 (fun r6 M5 => (r3 = r6 → (Q (-6) M5)) ∧ (¬ r3 = r6 → (Q r3 M5))))) : CallI zX m_E_lineFault [.ref 0] M Q := by
  refine call_of (by decide) (Nat.le_of_ble_eq_true rfl) ?_
  show wp zX m_E_lineFault (QI Q) 0 [(0, .ref 0)] [] M
  refine zt_aload_n 0 d_E_lineFault_0 rfl rfl rfl ?_
  refine zt_getR (b := 1) d_E_lineFault_1 rfl fl_E_14 rfl rfl ?_
  refine zt_iconst (v := 0) d_E_lineFault_4 rfl (by decide) ?_
  refine zt_bipush (v := 12) d_E_lineFault_5 rfl (by decide) ?_
  refine zt_callVI (as := [.int 0, .int 12]) d_E_lineFault_7 rfl mi_Sg_signsEnd ⟨Nat.le_of_ble_eq_true rfl, Nat.le_of_ble_eq_true rfl⟩ wd_247 rfl rfl (Nat.le_of_ble_eq_true rfl) T_pad.1 h (fun r3 M2 h1 => ?_)
  refine zt_istore_n d_E_lineFault_10 rfl rfl (by decide) rfl ?_
  refine zt_iload_n 0 d_E_lineFault_11 rfl rfl rfl ?_
  refine zt_aload_n 1 d_E_lineFault_12 rfl rfl rfl ?_
  refine zt_getR (b := 1) d_E_lineFault_13 rfl fl_E_14 rfl rfl ?_
  refine zt_callVI (as := []) d_E_lineFault_16 rfl mi_Sg_many ⟨Nat.le_of_ble_eq_true rfl, Nat.le_of_ble_eq_true rfl⟩ wd_227 rfl rfl (Nat.le_of_ble_eq_true rfl) T_pad.1 h1 (fun r6 M5 h4 => ?_)
  refine zt_icmp_ne d_E_lineFault_19 rfl (tgt := 27) (by decide) ⟨fun c7 => ?_, fun c7 => ?_⟩
  · have h8 := h4.1 c7
    refine zt_bipush (v := -6) d_E_lineFault_22 rfl (by decide) ?_
    refine zt_goto d_E_lineFault_24 (tgt := 28) (by decide) ?_
    exact zt_iret rfl d_E_lineFault_28 ⟨_, rfl, h8⟩
  · have h9 := h4.2 c7
    refine zt_iload_n 0 d_E_lineFault_27 rfl rfl rfl ?_
    exact zt_iret rfl d_E_lineFault_28 ⟨_, rfl, h9⟩
theorem e_E_exampleFault {Q : Int32 → Mem → Prop} {M : Mem}  (h : CallI zX m_Sg_signsEnd [.ref 1, .int 0, .int 12] M (fun r3 M2 => CallI zX m_Sg_at [.ref 1, .int r3] M2 (fun r6 M5 => (r6 = 62 → (CallI zX m_Sg_signsEnd [.ref 1, .int (r3 + 1), .int 5] M5 (fun r12 M11 => CallI zX m_Sg_many [.ref 1] M11 (fun r15 M14 => (r12 = r15 → ((r12 ≤ (r3 + 1) → (Q r12 M14)) ∧ (¬ r12 ≤ (r3 + 1) → (Q (-6) M14)))) ∧ (¬ r12 = r15 → (Q r12 M14)))))) ∧ (¬ r6 = 62 → (Q r3 M5))))) : CallI zX m_E_exampleFault [.ref 0] M Q := by
  refine call_of (by decide) (Nat.le_of_ble_eq_true rfl) ?_
  show wp zX m_E_exampleFault (QI Q) 0 [(0, .ref 0)] [] M
  refine zt_aload_n 0 d_E_exampleFault_0 rfl rfl rfl ?_
  refine zt_getR (b := 1) d_E_exampleFault_1 rfl fl_E_14 rfl rfl ?_
  refine zt_iconst (v := 0) d_E_exampleFault_4 rfl (by decide) ?_
  refine zt_bipush (v := 12) d_E_exampleFault_5 rfl (by decide) ?_
  refine zt_callVI (as := [.int 0, .int 12]) d_E_exampleFault_7 rfl mi_Sg_signsEnd ⟨Nat.le_of_ble_eq_true rfl, Nat.le_of_ble_eq_true rfl⟩ wd_247 rfl rfl (Nat.le_of_ble_eq_true rfl) T_pad.1 h (fun r3 M2 h1 => ?_)
  refine zt_istore_n d_E_exampleFault_10 rfl rfl (by decide) rfl ?_
  refine zt_aload_n 1 d_E_exampleFault_11 rfl rfl rfl ?_
  refine zt_getR (b := 1) d_E_exampleFault_12 rfl fl_E_14 rfl rfl ?_
  refine zt_iload_n 0 d_E_exampleFault_15 rfl rfl rfl ?_
  refine zt_callVI (as := [.int r3]) d_E_exampleFault_16 rfl mi_Sg_at ⟨Nat.le_of_ble_eq_true rfl, Nat.le_of_ble_eq_true rfl⟩ wd_255 rfl rfl (Nat.le_of_ble_eq_true rfl) T_pad.1 h1 (fun r6 M5 h4 => ?_)
  refine zt_bipush (v := 62) d_E_exampleFault_19 rfl (by decide) ?_
  refine zt_icmp_eq d_E_exampleFault_21 rfl (tgt := 26) (by decide) ⟨fun c7 => ?_, fun c7 => ?_⟩
  · have h8 := h4.1 c7
    refine zt_aload_n 1 d_E_exampleFault_26 rfl rfl rfl ?_
    refine zt_getR (b := 1) d_E_exampleFault_27 rfl fl_E_14 rfl rfl ?_
    refine zt_iload_n 0 d_E_exampleFault_30 rfl rfl rfl ?_
    refine zt_iconst (v := 1) d_E_exampleFault_31 rfl (by decide) ?_
    refine zt_iadd d_E_exampleFault_32 rfl ?_
    refine zt_iconst (v := 5) d_E_exampleFault_33 rfl (by decide) ?_
    refine zt_callVI (as := [.int (r3 + 1), .int 5]) d_E_exampleFault_34 rfl mi_Sg_signsEnd ⟨Nat.le_of_ble_eq_true rfl, Nat.le_of_ble_eq_true rfl⟩ wd_247 rfl rfl (Nat.le_of_ble_eq_true rfl) T_pad.1 h8 (fun r12 M11 h10 => ?_)
    refine zt_istore_n d_E_exampleFault_37 rfl rfl (by decide) rfl ?_
    refine zt_iload_n 0 d_E_exampleFault_38 rfl rfl rfl ?_
    refine zt_aload_n 2 d_E_exampleFault_39 rfl rfl rfl ?_
    refine zt_getR (b := 1) d_E_exampleFault_40 rfl fl_E_14 rfl rfl ?_
    refine zt_callVI (as := []) d_E_exampleFault_43 rfl mi_Sg_many ⟨Nat.le_of_ble_eq_true rfl, Nat.le_of_ble_eq_true rfl⟩ wd_227 rfl rfl (Nat.le_of_ble_eq_true rfl) T_pad.1 h10 (fun r15 M14 h13 => ?_)
    refine zt_icmp_ne d_E_exampleFault_46 rfl (tgt := 61) (by decide) ⟨fun c16 => ?_, fun c16 => ?_⟩
    · have h17 := h13.1 c16
      refine zt_iload_n 0 d_E_exampleFault_49 rfl rfl rfl ?_
      refine zt_iload_n 1 d_E_exampleFault_50 rfl rfl rfl ?_
      refine zt_iconst (v := 1) d_E_exampleFault_51 rfl (by decide) ?_
      refine zt_iadd d_E_exampleFault_52 rfl ?_
      refine zt_icmp_le d_E_exampleFault_53 rfl (tgt := 61) (by decide) ⟨fun c19 => ?_, fun c19 => ?_⟩
      · have h20 := h17.1 c19
        refine zt_iload_n 0 d_E_exampleFault_61 rfl rfl rfl ?_
        exact zt_iret rfl d_E_exampleFault_62 ⟨_, rfl, h20⟩
      · have h21 := h17.2 c19
        refine zt_bipush (v := -6) d_E_exampleFault_56 rfl (by decide) ?_
        refine zt_goto d_E_exampleFault_58 (tgt := 62) (by decide) ?_
        exact zt_iret rfl d_E_exampleFault_62 ⟨_, rfl, h21⟩
    · have h18 := h13.2 c16
      refine zt_iload_n 0 d_E_exampleFault_61 rfl rfl rfl ?_
      exact zt_iret rfl d_E_exampleFault_62 ⟨_, rfl, h18⟩
  · have h9 := h4.2 c7
    refine zt_iload_n 0 d_E_exampleFault_24 rfl rfl rfl ?_
    exact zt_iret rfl d_E_exampleFault_25 ⟨_, rfl, h9⟩
theorem e_E_examplesChanged {Q : Mem → Prop} {M : Mem}  (h : ∀ N1, N1 = uI M 0 8 0 → (CallV zX m_E_poolChanged [.ref 0] N1 (fun M4 => Q M4))) : CallV zX m_E_examplesChanged [.ref 0] M Q := by
  refine call_of (by decide) (Nat.le_of_ble_eq_true rfl) ?_
  show wp zX m_E_examplesChanged (QV Q) 0 [(0, .ref 0)] [] M
  refine zt_aload_n 0 d_E_examplesChanged_0 rfl rfl rfl ?_
  refine zt_iconst (v := 0) d_E_examplesChanged_1 rfl (by decide) ?_
  refine zt_putZ d_E_examplesChanged_2 rfl fl_E_168 rfl rfl rfl ?_
  have h2 := h _ rfl
  refine zt_aload_n 0 d_E_examplesChanged_5 rfl rfl rfl ?_
  refine zt_callVV (as := []) d_E_examplesChanged_6 rfl mi_E_poolChanged ⟨Nat.le_of_ble_eq_true rfl, Nat.le_of_ble_eq_true rfl⟩ wd_180 rfl rfl (Nat.le_of_ble_eq_true rfl) rfl h2 (fun M4 h3 => ?_)
  exact zt_vret rfl d_E_examplesChanged_9 ⟨rfl, h3⟩
theorem e_E_poolChanged {Q : Mem → Prop} {M : Mem}  (h : wp zX m_E_poolChanged (QV Q) 2 [(0, .ref 0), (1, .int 0)] [] M) : CallV zX m_E_poolChanged [.ref 0] M Q := by
  refine call_of (by decide) (Nat.le_of_ble_eq_true rfl) ?_
  show wp zX m_E_poolChanged (QV Q) 0 [(0, .ref 0)] [] M
  refine zt_iconst (v := 0) d_E_poolChanged_0 rfl (by decide) ?_
  refine zt_istore_n d_E_poolChanged_1 rfl rfl (by decide) rfl ?_
  exact zt_sub [1, 0] rfl h
theorem b_E_poolChanged_2 {Q : Mem → Prop} {M : Mem} {x1 : Int32} (h : (6 ≤ x1 → (Q M)) ∧ (¬ 6 ≤ x1 → (vp_in x1 6 ∧ (∀ N6, N6 = uL M 159 x1.toNatClampNeg (-1) → (wp zX m_E_poolChanged (QV Q) 2 [(0, .ref 0), (1, .int (x1 + 1))] [] N6))))) : wp zX m_E_poolChanged (QV Q) 2 [(0, .ref 0), (1, .int x1)] [] M := by
  refine zt_iload_n 1 d_E_poolChanged_2 rfl rfl rfl ?_
  refine zt_bipush (v := 6) d_E_poolChanged_3 rfl (by decide) ?_
  refine zt_icmp_ge d_E_poolChanged_5 rfl (tgt := 23) (by decide) ⟨fun c1 => ?_, fun c1 => ?_⟩
  · have h2 := h.1 c1
    exact zt_vret rfl d_E_poolChanged_23 ⟨rfl, h2⟩
  · have h3 := h.2 c1
    refine zt_aload_n 0 d_E_poolChanged_8 rfl rfl rfl ?_
    refine zt_getR (b := 159) d_E_poolChanged_9 rfl fl_E_50 rfl rfl ?_
    refine zt_iload_n 1 d_E_poolChanged_12 rfl rfl rfl ?_
    refine zt_ldc2_w (v := -1) d_E_poolChanged_13 rfl wd_184 ?_
    obtain ⟨g4, h5⟩ := h3
    refine zt_last d_E_poolChanged_16 rfl rfl g4 ?_
    have h5 := h5 _ rfl
    refine zt_iinc (v := (x1 + 1)) 1 d_E_poolChanged_17 rfl rfl rfl (by decide) rfl ?_
    refine zt_goto d_E_poolChanged_20 (tgt := 2) (by decide) ?_
    exact zt_sub [1, 0] rfl h5
theorem e_E_guess {Q : Mem → Prop} {M : Mem}  (h : ((M.1 0 8) = 0 → (CallV zX m_Ft_clear [.ref 46] M (fun M5 => wp zX m_E_guess (QV Q) 17 [(0, .ref 0), (1, .int 0)] [] M5))) ∧ (¬ (M.1 0 8) = 0 → (Q M))) : CallV zX m_E_guess [.ref 0] M Q := by
  refine call_of (by decide) (Nat.le_of_ble_eq_true rfl) ?_
  show wp zX m_E_guess (QV Q) 0 [(0, .ref 0)] [] M
  refine zt_aload_n 0 d_E_guess_0 rfl rfl rfl ?_
  refine zt_getI d_E_guess_1 rfl fl_E_168 rfl ?_
  refine zt_if_eq d_E_guess_4 rfl (tgt := 8) (by decide) ⟨fun c1 => ?_, fun c1 => ?_⟩
  · have h2 := h.1 c1
    refine zt_aload_n 0 d_E_guess_8 rfl rfl rfl ?_
    refine zt_getR (b := 46) d_E_guess_9 rfl fl_E_36 rfl rfl ?_
    refine zt_callVV (as := []) d_E_guess_12 rfl mi_Ft_clear ⟨Nat.le_of_ble_eq_true rfl, Nat.le_of_ble_eq_true rfl⟩ wd_335 rfl rfl (Nat.le_of_ble_eq_true rfl) rfl h2 (fun M5 h4 => ?_)
    refine zt_iconst (v := 0) d_E_guess_15 rfl (by decide) ?_
    refine zt_istore_n d_E_guess_16 rfl rfl (by decide) rfl ?_
    exact zt_sub [1, 0] rfl h4
  · have h3 := h.2 c1
    exact zt_vret rfl d_E_guess_7 ⟨rfl, h3⟩
theorem b_E_guess_17 {Q : Mem → Prop} {M : Mem} {x1 : Int32} (h : CallI zX m_Bk_examples [.ref 4] M (fun r3 M2 => (r3 ≤ x1 → (CallL zX m_Ft_count [.ref 46] M2 (fun r9 M8 => ∀ N10, N10 = uL M8 0 9 r9 → (CallV zX m_Pl_clear [.ref 134] N10 (fun M13 => ((lg_cmp (M13.2 0 9) 0) = 0 → (∀ N18, N18 = uI M13 0 8 1 → (Q N18))) ∧ (¬ (lg_cmp (M13.2 0 9) 0) = 0 → (CallV zX m_Ft_weigh [.ref 46] M13 (fun M21 => CallV zX m_Ft_tell [.ref 46, .ref 134] M21 (fun M24 => ∀ N26, N26 = uI M24 0 8 1 → (Q N26)))))))))) ∧ (¬ r3 ≤ x1 → (CallR zX m_Bk_exampleLine [.ref 4, .int x1] M2 (fun r30 M29 => ∃ n32, T_Sg zX r30 n32 ∧ (CallR zX m_Bk_result [.ref 4, .int x1] M29 (fun r35 M34 => ∃ n37, T_Sg zX r35 n37 ∧ (CallV zX m_Ft_addRow [.ref 46, .ref r30, .ref r35] M34 (fun M39 => wp zX m_E_guess (QV Q) 17 [(0, .ref 0), (1, .int (x1 + 1))] [] M39))))))))) : wp zX m_E_guess (QV Q) 17 [(0, .ref 0), (1, .int x1)] [] M := by
  refine zt_iload_n 1 d_E_guess_17 rfl rfl rfl ?_
  refine zt_aload_n 0 d_E_guess_18 rfl rfl rfl ?_
  refine zt_getR (b := 4) d_E_guess_19 rfl fl_E_21 rfl rfl ?_
  refine zt_callVI (as := []) d_E_guess_22 rfl mi_Bk_examples ⟨Nat.le_of_ble_eq_true rfl, Nat.le_of_ble_eq_true rfl⟩ wd_267 rfl rfl (Nat.le_of_ble_eq_true rfl) T_book.1 h (fun r3 M2 h1 => ?_)
  refine zt_icmp_ge d_E_guess_25 rfl (tgt := 57) (by decide) ⟨fun c4 => ?_, fun c4 => ?_⟩
  · have h5 := h1.1 c4
    refine zt_aload_n 0 d_E_guess_57 rfl rfl rfl ?_
    refine zt_aload_n 0 d_E_guess_58 rfl rfl rfl ?_
    refine zt_getR (b := 46) d_E_guess_59 rfl fl_E_36 rfl rfl ?_
    refine zt_callVL (as := []) d_E_guess_62 rfl mi_Ft_count ⟨Nat.le_of_ble_eq_true rfl, Nat.le_of_ble_eq_true rfl⟩ wd_382 rfl rfl (Nat.le_of_ble_eq_true rfl) rfl h5 (fun r9 M8 h7 => ?_)
    refine zt_putL d_E_guess_65 rfl fl_E_109 rfl ?_
    have h11 := h7 _ rfl
    refine zt_aload_n 0 d_E_guess_68 rfl rfl rfl ?_
    refine zt_getR (b := 134) d_E_guess_69 rfl fl_E_43 rfl rfl ?_
    refine zt_callVV (as := []) d_E_guess_72 rfl mi_Pl_clear ⟨Nat.le_of_ble_eq_true rfl, Nat.le_of_ble_eq_true rfl⟩ wd_494 rfl rfl (Nat.le_of_ble_eq_true rfl) rfl h11 (fun M13 h12 => ?_)
    refine zt_aload_n 0 d_E_guess_75 rfl rfl rfl ?_
    refine zt_getL d_E_guess_76 rfl fl_E_109 rfl ?_
    refine zt_lconst (v := 0) d_E_guess_79 rfl (by decide) ?_
    refine zt_lcmp d_E_guess_80 rfl ?_
    refine zt_if_eq d_E_guess_81 rfl (tgt := 102) (by decide) ⟨fun c15 => ?_, fun c15 => ?_⟩
    · have h16 := h12.1 c15
      refine zt_aload_n 0 d_E_guess_102 rfl rfl rfl ?_
      refine zt_iconst (v := 1) d_E_guess_103 rfl (by decide) ?_
      refine zt_putZ d_E_guess_104 rfl fl_E_168 rfl rfl rfl ?_
      have h19 := h16 _ rfl
      exact zt_vret rfl d_E_guess_107 ⟨rfl, h19⟩
    · have h17 := h12.2 c15
      refine zt_aload_n 0 d_E_guess_84 rfl rfl rfl ?_
      refine zt_getR (b := 46) d_E_guess_85 rfl fl_E_36 rfl rfl ?_
      refine zt_callVV (as := []) d_E_guess_88 rfl mi_Ft_weigh ⟨Nat.le_of_ble_eq_true rfl, Nat.le_of_ble_eq_true rfl⟩ wd_498 rfl rfl (Nat.le_of_ble_eq_true rfl) rfl h17 (fun M21 h20 => ?_)
      refine zt_aload_n 0 d_E_guess_91 rfl rfl rfl ?_
      refine zt_getR (b := 46) d_E_guess_92 rfl fl_E_36 rfl rfl ?_
      refine zt_aload_n 0 d_E_guess_95 rfl rfl rfl ?_
      refine zt_getR (b := 134) d_E_guess_96 rfl fl_E_43 rfl rfl ?_
      refine zt_callVV (as := [.ref 134]) d_E_guess_99 rfl mi_Ft_tell ⟨Nat.le_of_ble_eq_true rfl, Nat.le_of_ble_eq_true rfl⟩ wd_511 rfl rfl (Nat.le_of_ble_eq_true rfl) rfl h20 (fun M24 h23 => ?_)
      refine zt_aload_n 0 d_E_guess_102 rfl rfl rfl ?_
      refine zt_iconst (v := 1) d_E_guess_103 rfl (by decide) ?_
      refine zt_putZ d_E_guess_104 rfl fl_E_168 rfl rfl rfl ?_
      have h27 := h23 _ rfl
      exact zt_vret rfl d_E_guess_107 ⟨rfl, h27⟩
  · have h6 := h1.2 c4
    refine zt_aload_n 0 d_E_guess_28 rfl rfl rfl ?_
    refine zt_getR (b := 46) d_E_guess_29 rfl fl_E_36 rfl rfl ?_
    refine zt_aload_n 0 d_E_guess_32 rfl rfl rfl ?_
    refine zt_getR (b := 4) d_E_guess_33 rfl fl_E_21 rfl rfl ?_
    refine zt_iload_n 1 d_E_guess_36 rfl rfl rfl ?_
    refine zt_callVR (as := [.int x1]) d_E_guess_37 rfl mi_Bk_exampleLine ⟨Nat.le_of_ble_eq_true rfl, Nat.le_of_ble_eq_true rfl⟩ wd_339 rfl rfl (Nat.le_of_ble_eq_true rfl) T_book.1 h6 (fun r30 M29 h28 => ?_)
    obtain ⟨n32, t31, h28⟩ := h28
    refine zt_aload_n 0 d_E_guess_40 rfl rfl rfl ?_
    refine zt_getR (b := 4) d_E_guess_41 rfl fl_E_21 rfl rfl ?_
    refine zt_iload_n 1 d_E_guess_44 rfl rfl rfl ?_
    refine zt_callVR (as := [.int x1]) d_E_guess_45 rfl mi_Bk_result ⟨Nat.le_of_ble_eq_true rfl, Nat.le_of_ble_eq_true rfl⟩ wd_343 rfl rfl (Nat.le_of_ble_eq_true rfl) T_book.1 h28 (fun r35 M34 h33 => ?_)
    obtain ⟨n37, t36, h33⟩ := h33
    refine zt_callVV (as := [.ref r30, .ref r35]) d_E_guess_48 rfl mi_Ft_addRow ⟨Nat.le_of_ble_eq_true rfl, Nat.le_of_ble_eq_true rfl⟩ wd_347 rfl rfl (Nat.le_of_ble_eq_true rfl) rfl h33 (fun M39 h38 => ?_)
    refine zt_iinc (v := (x1 + 1)) 1 d_E_guess_51 rfl rfl rfl (by decide) rfl ?_
    refine zt_goto d_E_guess_54 (tgt := 17) (by decide) ?_
    exact zt_sub [1, 0] rfl h38
theorem e_E_makesResult {Q : Int32 → Mem → Prop} {M : Mem} {x1 : Int32} (h : CallR zX m_Bk_line [.ref 4, .int x1] M (fun r3 M2 => ∃ n5, T_Sg zX r3 n5 ∧ (CallV zX m_Pl_applyTo [.ref 134, .ref r3, .ref 156] M2 (fun M7 => CallI zX m_Sg_many [.ref 156] M7 (fun r11 M10 => (r11 < 1 → (Q 0 M10)) ∧ (¬ r11 < 1 → (CallI zX m_Sg_many [.ref 156] M10 (fun r17 M16 => (5 < r17 → (Q 0 M16)) ∧ (¬ 5 < r17 → (Q 1 M16)))))))))) : CallI zX m_E_makesResult [.ref 0, .int x1] M Q := by
  refine call_of (by decide) (Nat.le_of_ble_eq_true rfl) ?_
  show wp zX m_E_makesResult (QI Q) 0 [(0, .ref 0), (1, .int x1)] [] M
  refine zt_aload_n 0 d_E_makesResult_0 rfl rfl rfl ?_
  refine zt_getR (b := 134) d_E_makesResult_1 rfl fl_E_43 rfl rfl ?_
  refine zt_aload_n 0 d_E_makesResult_4 rfl rfl rfl ?_
  refine zt_getR (b := 4) d_E_makesResult_5 rfl fl_E_21 rfl rfl ?_
  refine zt_iload_n 1 d_E_makesResult_8 rfl rfl rfl ?_
  refine zt_callVR (as := [.int x1]) d_E_makesResult_9 rfl mi_Bk_line ⟨Nat.le_of_ble_eq_true rfl, Nat.le_of_ble_eq_true rfl⟩ wd_608 rfl rfl (Nat.le_of_ble_eq_true rfl) T_book.1 h (fun r3 M2 h1 => ?_)
  obtain ⟨n5, t4, h1⟩ := h1
  refine zt_aload_n 0 d_E_makesResult_12 rfl rfl rfl ?_
  refine zt_getR (b := 156) d_E_makesResult_13 rfl fl_E_47 rfl rfl ?_
  refine zt_callVV (as := [.ref r3, .ref 156]) d_E_makesResult_16 rfl mi_Pl_applyTo ⟨Nat.le_of_ble_eq_true rfl, Nat.le_of_ble_eq_true rfl⟩ wd_590 rfl rfl (Nat.le_of_ble_eq_true rfl) rfl h1 (fun M7 h6 => ?_)
  refine zt_aload_n 0 d_E_makesResult_19 rfl rfl rfl ?_
  refine zt_getR (b := 156) d_E_makesResult_20 rfl fl_E_47 rfl rfl ?_
  refine zt_callVI (as := []) d_E_makesResult_23 rfl mi_Sg_many ⟨Nat.le_of_ble_eq_true rfl, Nat.le_of_ble_eq_true rfl⟩ wd_227 rfl rfl (Nat.le_of_ble_eq_true rfl) T_made.1 h6 (fun r11 M10 h9 => ?_)
  refine zt_iconst (v := 1) d_E_makesResult_26 rfl (by decide) ?_
  refine zt_icmp_lt d_E_makesResult_27 rfl (tgt := 45) (by decide) ⟨fun c12 => ?_, fun c12 => ?_⟩
  · have h13 := h9.1 c12
    refine zt_iconst (v := 0) d_E_makesResult_45 rfl (by decide) ?_
    exact zt_zret rfl d_E_makesResult_46 rfl ⟨_, rfl, h13⟩
  · have h14 := h9.2 c12
    refine zt_aload_n 0 d_E_makesResult_30 rfl rfl rfl ?_
    refine zt_getR (b := 156) d_E_makesResult_31 rfl fl_E_47 rfl rfl ?_
    refine zt_callVI (as := []) d_E_makesResult_34 rfl mi_Sg_many ⟨Nat.le_of_ble_eq_true rfl, Nat.le_of_ble_eq_true rfl⟩ wd_227 rfl rfl (Nat.le_of_ble_eq_true rfl) T_made.1 h14 (fun r17 M16 h15 => ?_)
    refine zt_iconst (v := 5) d_E_makesResult_37 rfl (by decide) ?_
    refine zt_icmp_gt d_E_makesResult_38 rfl (tgt := 45) (by decide) ⟨fun c18 => ?_, fun c18 => ?_⟩
    · have h19 := h15.1 c18
      refine zt_iconst (v := 0) d_E_makesResult_45 rfl (by decide) ?_
      exact zt_zret rfl d_E_makesResult_46 rfl ⟨_, rfl, h19⟩
    · have h20 := h15.2 c18
      refine zt_iconst (v := 1) d_E_makesResult_41 rfl (by decide) ?_
      refine zt_goto d_E_makesResult_42 (tgt := 46) (by decide) ?_
      exact zt_zret rfl d_E_makesResult_46 rfl ⟨_, rfl, h20⟩
theorem e_E_countAgreeing {Q : Int64 → Mem → Prop} {M : Mem} {x1 : Int32} (h : (x1 < 0 → (Q 0 M)) ∧ (¬ x1 < 0 → ((x1 < 6 → (vp_in x1 6 ∧ (((lg_cmp (M.2 159 x1.toNatClampNeg) (-1)) = 0 → (CallR zX m_Bk_line [.ref 4, .int x1] M (fun r14 M13 => ∃ n16, T_Sg zX r14 n16 ∧ (CallV zX m_Ft_addRow [.ref 46, .ref r14, .ref 156] M13 (fun M18 => CallL zX m_Ft_count [.ref 46] M18 (fun r22 M21 => vp_in x1 6 ∧ (∀ N25, N25 = uL M21 159 x1.toNatClampNeg r22 → (CallV zX m_Ft_dropRow [.ref 46] N25 (fun M27 => vp_in x1 6 ∧ (Q (M27.2 159 x1.toNatClampNeg) M27)))))))))) ∧ (¬ (lg_cmp (M.2 159 x1.toNatClampNeg) (-1)) = 0 → (vp_in x1 6 ∧ (Q (M.2 159 x1.toNatClampNeg) M)))))) ∧ (¬ x1 < 6 → (Q 0 M))))) : CallL zX m_E_countAgreeing [.ref 0, .int x1] M Q := by
  refine call_of (by decide) (Nat.le_of_ble_eq_true rfl) ?_
  show wp zX m_E_countAgreeing (QL Q) 0 [(0, .ref 0), (1, .int x1)] [] M
  refine zt_iload_n 1 d_E_countAgreeing_0 rfl rfl rfl ?_
  refine zt_if_lt d_E_countAgreeing_1 rfl (tgt := 10) (by decide) ⟨fun c1 => ?_, fun c1 => ?_⟩
  · have h2 := h.1 c1
    refine zt_lconst (v := 0) d_E_countAgreeing_10 rfl (by decide) ?_
    exact zt_lret rfl d_E_countAgreeing_11 ⟨_, rfl, h2⟩
  · have h3 := h.2 c1
    refine zt_iload_n 1 d_E_countAgreeing_4 rfl rfl rfl ?_
    refine zt_bipush (v := 6) d_E_countAgreeing_5 rfl (by decide) ?_
    refine zt_icmp_lt d_E_countAgreeing_7 rfl (tgt := 12) (by decide) ⟨fun c4 => ?_, fun c4 => ?_⟩
    · have h5 := h3.1 c4
      refine zt_aload_n 0 d_E_countAgreeing_12 rfl rfl rfl ?_
      refine zt_getR (b := 159) d_E_countAgreeing_13 rfl fl_E_50 rfl rfl ?_
      refine zt_iload_n 1 d_E_countAgreeing_16 rfl rfl rfl ?_
      obtain ⟨g7, h8⟩ := h5
      refine zt_lald d_E_countAgreeing_17 rfl rfl g7 ?_
      refine zt_ldc2_w (v := -1) d_E_countAgreeing_18 rfl wd_184 ?_
      refine zt_lcmp d_E_countAgreeing_21 rfl ?_
      refine zt_if_ne d_E_countAgreeing_22 rfl (tgt := 64) (by decide) ⟨fun c9 => ?_, fun c9 => ?_⟩
      · have h10 := h8.1 c9
        refine zt_aload_n 0 d_E_countAgreeing_25 rfl rfl rfl ?_
        refine zt_getR (b := 46) d_E_countAgreeing_26 rfl fl_E_36 rfl rfl ?_
        refine zt_aload_n 0 d_E_countAgreeing_29 rfl rfl rfl ?_
        refine zt_getR (b := 4) d_E_countAgreeing_30 rfl fl_E_21 rfl rfl ?_
        refine zt_iload_n 1 d_E_countAgreeing_33 rfl rfl rfl ?_
        refine zt_callVR (as := [.int x1]) d_E_countAgreeing_34 rfl mi_Bk_line ⟨Nat.le_of_ble_eq_true rfl, Nat.le_of_ble_eq_true rfl⟩ wd_608 rfl rfl (Nat.le_of_ble_eq_true rfl) T_book.1 h10 (fun r14 M13 h12 => ?_)
        obtain ⟨n16, t15, h12⟩ := h12
        refine zt_aload_n 0 d_E_countAgreeing_37 rfl rfl rfl ?_
        refine zt_getR (b := 156) d_E_countAgreeing_38 rfl fl_E_47 rfl rfl ?_
        refine zt_callVV (as := [.ref r14, .ref 156]) d_E_countAgreeing_41 rfl mi_Ft_addRow ⟨Nat.le_of_ble_eq_true rfl, Nat.le_of_ble_eq_true rfl⟩ wd_347 rfl rfl (Nat.le_of_ble_eq_true rfl) rfl h12 (fun M18 h17 => ?_)
        refine zt_aload_n 0 d_E_countAgreeing_44 rfl rfl rfl ?_
        refine zt_getR (b := 159) d_E_countAgreeing_45 rfl fl_E_50 rfl rfl ?_
        refine zt_iload_n 1 d_E_countAgreeing_48 rfl rfl rfl ?_
        refine zt_aload_n 0 d_E_countAgreeing_49 rfl rfl rfl ?_
        refine zt_getR (b := 46) d_E_countAgreeing_50 rfl fl_E_36 rfl rfl ?_
        refine zt_callVL (as := []) d_E_countAgreeing_53 rfl mi_Ft_count ⟨Nat.le_of_ble_eq_true rfl, Nat.le_of_ble_eq_true rfl⟩ wd_382 rfl rfl (Nat.le_of_ble_eq_true rfl) rfl h17 (fun r22 M21 h20 => ?_)
        obtain ⟨g23, h24⟩ := h20
        refine zt_last d_E_countAgreeing_56 rfl rfl g23 ?_
        have h24 := h24 _ rfl
        refine zt_aload_n 0 d_E_countAgreeing_57 rfl rfl rfl ?_
        refine zt_getR (b := 46) d_E_countAgreeing_58 rfl fl_E_36 rfl rfl ?_
        refine zt_callVV (as := []) d_E_countAgreeing_61 rfl mi_Ft_dropRow ⟨Nat.le_of_ble_eq_true rfl, Nat.le_of_ble_eq_true rfl⟩ wd_620 rfl rfl (Nat.le_of_ble_eq_true rfl) rfl h24 (fun M27 h26 => ?_)
        refine zt_aload_n 0 d_E_countAgreeing_64 rfl rfl rfl ?_
        refine zt_getR (b := 159) d_E_countAgreeing_65 rfl fl_E_50 rfl rfl ?_
        refine zt_iload_n 1 d_E_countAgreeing_68 rfl rfl rfl ?_
        obtain ⟨g29, h30⟩ := h26
        refine zt_lald d_E_countAgreeing_69 rfl rfl g29 ?_
        exact zt_lret rfl d_E_countAgreeing_70 ⟨_, rfl, h30⟩
      · have h11 := h8.2 c9
        refine zt_aload_n 0 d_E_countAgreeing_64 rfl rfl rfl ?_
        refine zt_getR (b := 159) d_E_countAgreeing_65 rfl fl_E_50 rfl rfl ?_
        refine zt_iload_n 1 d_E_countAgreeing_68 rfl rfl rfl ?_
        obtain ⟨g31, h32⟩ := h11
        refine zt_lald d_E_countAgreeing_69 rfl rfl g31 ?_
        exact zt_lret rfl d_E_countAgreeing_70 ⟨_, rfl, h32⟩
    · have h6 := h3.2 c4
      refine zt_lconst (v := 0) d_E_countAgreeing_10 rfl (by decide) ?_
      exact zt_lret rfl d_E_countAgreeing_11 ⟨_, rfl, h6⟩
