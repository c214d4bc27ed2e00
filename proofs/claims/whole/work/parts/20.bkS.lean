/-! walks, by program: what must hold from each cut point on -/
theorem e_Bk_examples {Q : Int32 → Mem → Prop} {M : Mem} {a0 : Nat} (t0 : T_Bk zX a0) (h : Q (M.1 a0 3) M) : CallI zX m_Bk_examples [.ref a0] M Q := by
  refine call_of (by decide) (Nat.le_of_ble_eq_true rfl) ?_
  show wp zX m_Bk_examples (QI Q) 0 [(0, .ref a0)] [] M
  refine zt_aload_n 0 d_Bk_examples_0 rfl rfl rfl ?_
  refine zt_getI d_Bk_examples_1 rfl fl_Bk_26 t0.1 ?_
  exact zt_iret rfl d_Bk_examples_4 ⟨_, rfl, h⟩
theorem e_Bk_pooled {Q : Int32 → Mem → Prop} {M : Mem} {a0 : Nat} (t0 : T_Bk zX a0) (h : Q (M.1 a0 4) M) : CallI zX m_Bk_pooled [.ref a0] M Q := by
  refine call_of (by decide) (Nat.le_of_ble_eq_true rfl) ?_
  show wp zX m_Bk_pooled (QI Q) 0 [(0, .ref a0)] [] M
  refine zt_aload_n 0 d_Bk_pooled_0 rfl rfl rfl ?_
  refine zt_getI d_Bk_pooled_1 rfl fl_Bk_30 t0.1 ?_
  exact zt_iret rfl d_Bk_pooled_4 ⟨_, rfl, h⟩
theorem e_Bk_knows {Q : Int32 → Mem → Prop} {M : Mem} {a0 : Nat} (t0 : T_Bk zX a0) {x1 : Int32} (h : (x1 < 0 → (Q 0 M)) ∧ (¬ x1 < 0 → (((M.1 a0 4) ≤ x1 → (Q 0 M)) ∧ (¬ (M.1 a0 4) ≤ x1 → (Q 1 M))))) : CallI zX m_Bk_knows [.ref a0, .int x1] M Q := by
  refine call_of (by decide) (Nat.le_of_ble_eq_true rfl) ?_
  show wp zX m_Bk_knows (QI Q) 0 [(0, .ref a0), (1, .int x1)] [] M
  refine zt_iload_n 1 d_Bk_knows_0 rfl rfl rfl ?_
  refine zt_if_lt d_Bk_knows_1 rfl (tgt := 16) (by decide) ⟨fun c1 => ?_, fun c1 => ?_⟩
  · have h2 := h.1 c1
    refine zt_iconst (v := 0) d_Bk_knows_16 rfl (by decide) ?_
    exact zt_zret rfl d_Bk_knows_17 rfl ⟨_, rfl, h2⟩
  · have h3 := h.2 c1
    refine zt_iload_n 1 d_Bk_knows_4 rfl rfl rfl ?_
    refine zt_aload_n 0 d_Bk_knows_5 rfl rfl rfl ?_
    refine zt_getI d_Bk_knows_6 rfl fl_Bk_30 t0.1 ?_
    refine zt_icmp_ge d_Bk_knows_9 rfl (tgt := 16) (by decide) ⟨fun c4 => ?_, fun c4 => ?_⟩
    · have h5 := h3.1 c4
      refine zt_iconst (v := 0) d_Bk_knows_16 rfl (by decide) ?_
      exact zt_zret rfl d_Bk_knows_17 rfl ⟨_, rfl, h5⟩
    · have h6 := h3.2 c4
      refine zt_iconst (v := 1) d_Bk_knows_12 rfl (by decide) ?_
      refine zt_goto d_Bk_knows_13 (tgt := 17) (by decide) ?_
      exact zt_zret rfl d_Bk_knows_17 rfl ⟨_, rfl, h6⟩
theorem e_Bk_exampleLine {Q : Nat → Mem → Prop} {M : Mem} {a0 : Nat} (t0 : T_Bk zX a0) {x1 : Int32} (h : (x1 < 0 → (vp_in 0 3 ∧ (Q (a0 + 1 + 3 + 6 * (0 : Int32).toNatClampNeg) M))) ∧ (¬ x1 < 0 → ((3 ≤ x1 → (vp_in 0 3 ∧ (Q (a0 + 1 + 3 + 6 * (0 : Int32).toNatClampNeg) M))) ∧ (¬ 3 ≤ x1 → (vp_in x1 3 ∧ (Q (a0 + 1 + 3 + 6 * x1.toNatClampNeg) M)))))) : CallR zX m_Bk_exampleLine [.ref a0, .int x1] M Q := by
  refine call_of (by decide) (Nat.le_of_ble_eq_true rfl) ?_
  show wp zX m_Bk_exampleLine (QR Q) 0 [(0, .ref a0), (1, .int x1)] [] M
  refine zt_aload_n 0 d_Bk_exampleLine_0 rfl rfl rfl ?_
  refine zt_getR (b := a0 + 1) d_Bk_exampleLine_1 rfl fl_Bk_11 rfl t0.1 ?_
  refine zt_iload_n 1 d_Bk_exampleLine_4 rfl rfl rfl ?_
  refine zt_if_lt d_Bk_exampleLine_5 rfl (tgt := 17) (by decide) ⟨fun c1 => ?_, fun c1 => ?_⟩
  · have h2 := h.1 c1
    refine zt_iconst (v := 0) d_Bk_exampleLine_17 rfl (by decide) ?_
    obtain ⟨g4, h5⟩ := h2
    refine zt_aald (b := a0 + 1 + 3 + 6 * (0 : Int32).toNatClampNeg) d_Bk_exampleLine_18 rfl (fun _ => rfl) rfl (by decide) (by decide) t0.2.1 g4 rfl ?_
    exact zt_aret rfl (Or.inl ⟨_, rfl⟩) d_Bk_exampleLine_19 ⟨_, rfl, h5⟩
  · have h3 := h.2 c1
    refine zt_iload_n 1 d_Bk_exampleLine_8 rfl rfl rfl ?_
    refine zt_iconst (v := 3) d_Bk_exampleLine_9 rfl (by decide) ?_
    refine zt_icmp_ge d_Bk_exampleLine_10 rfl (tgt := 17) (by decide) ⟨fun c6 => ?_, fun c6 => ?_⟩
    · have h7 := h3.1 c6
      refine zt_iconst (v := 0) d_Bk_exampleLine_17 rfl (by decide) ?_
      obtain ⟨g9, h10⟩ := h7
      refine zt_aald (b := a0 + 1 + 3 + 6 * (0 : Int32).toNatClampNeg) d_Bk_exampleLine_18 rfl (fun _ => rfl) rfl (by decide) (by decide) t0.2.1 g9 rfl ?_
      exact zt_aret rfl (Or.inl ⟨_, rfl⟩) d_Bk_exampleLine_19 ⟨_, rfl, h10⟩
    · have h8 := h3.2 c6
      refine zt_iload_n 1 d_Bk_exampleLine_13 rfl rfl rfl ?_
      refine zt_goto d_Bk_exampleLine_14 (tgt := 18) (by decide) ?_
      obtain ⟨g11, h12⟩ := h8
      refine zt_aald (b := a0 + 1 + 3 + 6 * x1.toNatClampNeg) d_Bk_exampleLine_18 rfl (fun _ => rfl) rfl (by decide) (by decide) t0.2.1 g11 rfl ?_
      exact zt_aret rfl (Or.inl ⟨_, rfl⟩) d_Bk_exampleLine_19 ⟨_, rfl, h12⟩
theorem e_Bk_result {Q : Nat → Mem → Prop} {M : Mem} {a0 : Nat} (t0 : T_Bk zX a0) {x1 : Int32} (h : (x1 < 0 → (vp_in 0 3 ∧ (Q (a0 + 2 + 5 + 6 * (0 : Int32).toNatClampNeg) M))) ∧ (¬ x1 < 0 → ((3 ≤ x1 → (vp_in 0 3 ∧ (Q (a0 + 2 + 5 + 6 * (0 : Int32).toNatClampNeg) M))) ∧ (¬ 3 ≤ x1 → (vp_in x1 3 ∧ (Q (a0 + 2 + 5 + 6 * x1.toNatClampNeg) M)))))) : CallR zX m_Bk_result [.ref a0, .int x1] M Q := by
  refine call_of (by decide) (Nat.le_of_ble_eq_true rfl) ?_
  show wp zX m_Bk_result (QR Q) 0 [(0, .ref a0), (1, .int x1)] [] M
  refine zt_aload_n 0 d_Bk_result_0 rfl rfl rfl ?_
  refine zt_getR (b := a0 + 2) d_Bk_result_1 rfl fl_Bk_17 rfl t0.1 ?_
  refine zt_iload_n 1 d_Bk_result_4 rfl rfl rfl ?_
  refine zt_if_lt d_Bk_result_5 rfl (tgt := 17) (by decide) ⟨fun c1 => ?_, fun c1 => ?_⟩
  · have h2 := h.1 c1
    refine zt_iconst (v := 0) d_Bk_result_17 rfl (by decide) ?_
    obtain ⟨g4, h5⟩ := h2
    refine zt_aald (b := a0 + 2 + 5 + 6 * (0 : Int32).toNatClampNeg) d_Bk_result_18 rfl (fun _ => rfl) rfl (by decide) (by decide) t0.2.2.1 g4 rfl ?_
    exact zt_aret rfl (Or.inl ⟨_, rfl⟩) d_Bk_result_19 ⟨_, rfl, h5⟩
  · have h3 := h.2 c1
    refine zt_iload_n 1 d_Bk_result_8 rfl rfl rfl ?_
    refine zt_iconst (v := 3) d_Bk_result_9 rfl (by decide) ?_
    refine zt_icmp_ge d_Bk_result_10 rfl (tgt := 17) (by decide) ⟨fun c6 => ?_, fun c6 => ?_⟩
    · have h7 := h3.1 c6
      refine zt_iconst (v := 0) d_Bk_result_17 rfl (by decide) ?_
      obtain ⟨g9, h10⟩ := h7
      refine zt_aald (b := a0 + 2 + 5 + 6 * (0 : Int32).toNatClampNeg) d_Bk_result_18 rfl (fun _ => rfl) rfl (by decide) (by decide) t0.2.2.1 g9 rfl ?_
      exact zt_aret rfl (Or.inl ⟨_, rfl⟩) d_Bk_result_19 ⟨_, rfl, h10⟩
    · have h8 := h3.2 c6
      refine zt_iload_n 1 d_Bk_result_13 rfl rfl rfl ?_
      refine zt_goto d_Bk_result_14 (tgt := 18) (by decide) ?_
      obtain ⟨g11, h12⟩ := h8
      refine zt_aald (b := a0 + 2 + 5 + 6 * x1.toNatClampNeg) d_Bk_result_18 rfl (fun _ => rfl) rfl (by decide) (by decide) t0.2.2.1 g11 rfl ?_
      exact zt_aret rfl (Or.inl ⟨_, rfl⟩) d_Bk_result_19 ⟨_, rfl, h12⟩
theorem e_Bk_line {Q : Nat → Mem → Prop} {M : Mem} {a0 : Nat} (t0 : T_Bk zX a0) {x1 : Int32} (h : (x1 < 0 → (vp_in 0 6 ∧ (Q (a0 + 3 + 19 + 3 * (0 : Int32).toNatClampNeg) M))) ∧ (¬ x1 < 0 → ((6 ≤ x1 → (vp_in 0 6 ∧ (Q (a0 + 3 + 19 + 3 * (0 : Int32).toNatClampNeg) M))) ∧ (¬ 6 ≤ x1 → (vp_in x1 6 ∧ (Q (a0 + 3 + 19 + 3 * x1.toNatClampNeg) M)))))) : CallR zX m_Bk_line [.ref a0, .int x1] M Q := by
  refine call_of (by decide) (Nat.le_of_ble_eq_true rfl) ?_
  show wp zX m_Bk_line (QR Q) 0 [(0, .ref a0), (1, .int x1)] [] M
  refine zt_aload_n 0 d_Bk_line_0 rfl rfl rfl ?_
  refine zt_getR (b := a0 + 3) d_Bk_line_1 rfl fl_Bk_20 rfl t0.1 ?_
  refine zt_iload_n 1 d_Bk_line_4 rfl rfl rfl ?_
  refine zt_if_lt d_Bk_line_5 rfl (tgt := 18) (by decide) ⟨fun c1 => ?_, fun c1 => ?_⟩
  · have h2 := h.1 c1
    refine zt_iconst (v := 0) d_Bk_line_18 rfl (by decide) ?_
    obtain ⟨g4, h5⟩ := h2
    refine zt_aald (b := a0 + 3 + 19 + 3 * (0 : Int32).toNatClampNeg) d_Bk_line_19 rfl (fun _ => rfl) rfl (by decide) (by decide) t0.2.2.2.1 g4 rfl ?_
    exact zt_aret rfl (Or.inl ⟨_, rfl⟩) d_Bk_line_20 ⟨_, rfl, h5⟩
  · have h3 := h.2 c1
    refine zt_iload_n 1 d_Bk_line_8 rfl rfl rfl ?_
    refine zt_bipush (v := 6) d_Bk_line_9 rfl (by decide) ?_
    refine zt_icmp_ge d_Bk_line_11 rfl (tgt := 18) (by decide) ⟨fun c6 => ?_, fun c6 => ?_⟩
    · have h7 := h3.1 c6
      refine zt_iconst (v := 0) d_Bk_line_18 rfl (by decide) ?_
      obtain ⟨g9, h10⟩ := h7
      refine zt_aald (b := a0 + 3 + 19 + 3 * (0 : Int32).toNatClampNeg) d_Bk_line_19 rfl (fun _ => rfl) rfl (by decide) (by decide) t0.2.2.2.1 g9 rfl ?_
      exact zt_aret rfl (Or.inl ⟨_, rfl⟩) d_Bk_line_20 ⟨_, rfl, h10⟩
    · have h8 := h3.2 c6
      refine zt_iload_n 1 d_Bk_line_14 rfl rfl rfl ?_
      refine zt_goto d_Bk_line_15 (tgt := 19) (by decide) ?_
      obtain ⟨g11, h12⟩ := h8
      refine zt_aald (b := a0 + 3 + 19 + 3 * x1.toNatClampNeg) d_Bk_line_19 rfl (fun _ => rfl) rfl (by decide) (by decide) t0.2.2.2.1 g11 rfl ?_
      exact zt_aret rfl (Or.inl ⟨_, rfl⟩) d_Bk_line_20 ⟨_, rfl, h12⟩
theorem e_Bk_addExample {Q : Mem → Prop} {M : Mem} {a0 : Nat} (t0 : T_Bk zX a0) {a1 n1 : Nat} (t1 : T_Sg zX a1 n1) {x2 : Int32} {a3 n3 : Nat} (t3 : T_Sg zX a3 n3) {x4 : Int32} (h : (3 ≤ (M.1 a0 3) → (Q M)) ∧ (¬ 3 ≤ (M.1 a0 3) → (vp_in (M.1 a0 3) 3 ∧ (CallV zX m_Sg_clear [.ref (a0 + 1 + 3 + 6 * (M.1 a0 3).toNatClampNeg)] M (fun M7 => vp_in (M7.1 a0 3) 3 ∧ (CallV zX m_Sg_addFrom [.ref (a0 + 1 + 3 + 6 * (M7.1 a0 3).toNatClampNeg), .ref a1, .int 0, .int x2] M7 (fun M12 => vp_in (M12.1 a0 3) 3 ∧ (CallV zX m_Sg_clear [.ref (a0 + 2 + 5 + 6 * (M12.1 a0 3).toNatClampNeg)] M12 (fun M17 => vp_in (M17.1 a0 3) 3 ∧ (CallI zX m_Sg_many [.ref a3] M17 (fun r23 M22 => CallV zX m_Sg_addFrom [.ref (a0 + 2 + 5 + 6 * (M17.1 a0 3).toNatClampNeg), .ref a3, .int x4, .int r23] M22 (fun M25 => ∀ N27, N27 = uI M25 a0 3 ((M25.1 a0 3) + 1) → (Q N27))))))))))))) : CallV zX m_Bk_addExample [.ref a0, .ref a1, .int x2, .ref a3, .int x4] M Q := by
  refine call_of (by decide) (Nat.le_of_ble_eq_true rfl) ?_
  show wp zX m_Bk_addExample (QV Q) 0 [(0, .ref a0), (1, .ref a1), (2, .int x2), (3, .ref a3), (4, .int x4)] [] M
  refine zt_aload_n 0 d_Bk_addExample_0 rfl rfl rfl ?_
  refine zt_getI d_Bk_addExample_1 rfl fl_Bk_26 t0.1 ?_
  refine zt_iconst (v := 3) d_Bk_addExample_4 rfl (by decide) ?_
  refine zt_icmp_ge d_Bk_addExample_5 rfl (tgt := 76) (by decide) ⟨fun c1 => ?_, fun c1 => ?_⟩
  · have h2 := h.1 c1
    exact zt_vret rfl d_Bk_addExample_76 ⟨rfl, h2⟩
  · have h3 := h.2 c1
    refine zt_aload_n 0 d_Bk_addExample_8 rfl rfl rfl ?_
    refine zt_getR (b := a0 + 1) d_Bk_addExample_9 rfl fl_Bk_11 rfl t0.1 ?_
    refine zt_aload_n 0 d_Bk_addExample_12 rfl rfl rfl ?_
    refine zt_getI d_Bk_addExample_13 rfl fl_Bk_26 t0.1 ?_
    obtain ⟨g4, h5⟩ := h3
    refine zt_aald (b := a0 + 1 + 3 + 6 * (M.1 a0 3).toNatClampNeg) d_Bk_addExample_16 rfl (fun _ => rfl) rfl (by decide) (by decide) t0.2.1 g4 rfl ?_
    refine zt_callVV (as := []) d_Bk_addExample_17 rfl mi_Sg_clear ⟨Nat.le_of_ble_eq_true rfl, Nat.le_of_ble_eq_true rfl⟩ wd_275 rfl rfl (Nat.le_of_ble_eq_true rfl) (t0.2.2.2.2.1 _ (vp_lt g4)).1 h5 (fun M7 h6 => ?_)
    refine zt_aload_n 0 d_Bk_addExample_20 rfl rfl rfl ?_
    refine zt_getR (b := a0 + 1) d_Bk_addExample_21 rfl fl_Bk_11 rfl t0.1 ?_
    refine zt_aload_n 0 d_Bk_addExample_24 rfl rfl rfl ?_
    refine zt_getI d_Bk_addExample_25 rfl fl_Bk_26 t0.1 ?_
    obtain ⟨g9, h10⟩ := h6
    refine zt_aald (b := a0 + 1 + 3 + 6 * (M7.1 a0 3).toNatClampNeg) d_Bk_addExample_28 rfl (fun _ => rfl) rfl (by decide) (by decide) t0.2.1 g9 rfl ?_
    refine zt_aload_n 1 d_Bk_addExample_29 rfl rfl rfl ?_
    refine zt_iconst (v := 0) d_Bk_addExample_30 rfl (by decide) ?_
    refine zt_iload_n 2 d_Bk_addExample_31 rfl rfl rfl ?_
    refine zt_callVV (as := [.ref a1, .int 0, .int x2]) d_Bk_addExample_32 rfl mi_Sg_addFrom ⟨Nat.le_of_ble_eq_true rfl, Nat.le_of_ble_eq_true rfl⟩ wd_276 rfl rfl (Nat.le_of_ble_eq_true rfl) (t0.2.2.2.2.1 _ (vp_lt g9)).1 h10 (fun M12 h11 => ?_)
    refine zt_aload_n 0 d_Bk_addExample_35 rfl rfl rfl ?_
    refine zt_getR (b := a0 + 2) d_Bk_addExample_36 rfl fl_Bk_17 rfl t0.1 ?_
    refine zt_aload_n 0 d_Bk_addExample_39 rfl rfl rfl ?_
    refine zt_getI d_Bk_addExample_40 rfl fl_Bk_26 t0.1 ?_
    obtain ⟨g14, h15⟩ := h11
    refine zt_aald (b := a0 + 2 + 5 + 6 * (M12.1 a0 3).toNatClampNeg) d_Bk_addExample_43 rfl (fun _ => rfl) rfl (by decide) (by decide) t0.2.2.1 g14 rfl ?_
    refine zt_callVV (as := []) d_Bk_addExample_44 rfl mi_Sg_clear ⟨Nat.le_of_ble_eq_true rfl, Nat.le_of_ble_eq_true rfl⟩ wd_275 rfl rfl (Nat.le_of_ble_eq_true rfl) (t0.2.2.2.2.2.1 _ (vp_lt g14)).1 h15 (fun M17 h16 => ?_)
    refine zt_aload_n 0 d_Bk_addExample_47 rfl rfl rfl ?_
    refine zt_getR (b := a0 + 2) d_Bk_addExample_48 rfl fl_Bk_17 rfl t0.1 ?_
    refine zt_aload_n 0 d_Bk_addExample_51 rfl rfl rfl ?_
    refine zt_getI d_Bk_addExample_52 rfl fl_Bk_26 t0.1 ?_
    obtain ⟨g19, h20⟩ := h16
    refine zt_aald (b := a0 + 2 + 5 + 6 * (M17.1 a0 3).toNatClampNeg) d_Bk_addExample_55 rfl (fun _ => rfl) rfl (by decide) (by decide) t0.2.2.1 g19 rfl ?_
    refine zt_aload_n 3 d_Bk_addExample_56 rfl rfl rfl ?_
    refine zt_iload 4 d_Bk_addExample_57 rfl rfl ?_
    refine zt_aload_n 3 d_Bk_addExample_59 rfl rfl rfl ?_
    refine zt_callVI (as := []) d_Bk_addExample_60 rfl mi_Sg_many ⟨Nat.le_of_ble_eq_true rfl, Nat.le_of_ble_eq_true rfl⟩ wd_282 rfl rfl (Nat.le_of_ble_eq_true rfl) t3.1 h20 (fun r23 M22 h21 => ?_)
    refine zt_callVV (as := [.ref a3, .int x4, .int r23]) d_Bk_addExample_63 rfl mi_Sg_addFrom ⟨Nat.le_of_ble_eq_true rfl, Nat.le_of_ble_eq_true rfl⟩ wd_276 rfl rfl (Nat.le_of_ble_eq_true rfl) (t0.2.2.2.2.2.1 _ (vp_lt g19)).1 h21 (fun M25 h24 => ?_)
    refine zt_aload_n 0 d_Bk_addExample_66 rfl rfl rfl ?_
    refine zt_dup d_Bk_addExample_67 rfl rfl ?_
    refine zt_getI d_Bk_addExample_68 rfl fl_Bk_26 t0.1 ?_
    refine zt_iconst (v := 1) d_Bk_addExample_71 rfl (by decide) ?_
    refine zt_iadd d_Bk_addExample_72 rfl ?_
    refine zt_putI d_Bk_addExample_73 rfl fl_Bk_26 t0.1 ?_
    have h28 := h24 _ rfl
    exact zt_vret rfl d_Bk_addExample_76 ⟨rfl, h28⟩
theorem e_Bk_dropExample {Q : Mem → Prop} {M : Mem} {a0 : Nat} (t0 : T_Bk zX a0) (h : ((M.1 a0 3) ≤ 0 → (Q M)) ∧ (¬ (M.1 a0 3) ≤ 0 → (∀ N4, N4 = uI M a0 3 ((M.1 a0 3) - 1) → (Q N4)))) : CallV zX m_Bk_dropExample [.ref a0] M Q := by
  refine call_of (by decide) (Nat.le_of_ble_eq_true rfl) ?_
  show wp zX m_Bk_dropExample (QV Q) 0 [(0, .ref a0)] [] M
  refine zt_aload_n 0 d_Bk_dropExample_0 rfl rfl rfl ?_
  refine zt_getI d_Bk_dropExample_1 rfl fl_Bk_26 t0.1 ?_
  refine zt_if_le d_Bk_dropExample_4 rfl (tgt := 17) (by decide) ⟨fun c1 => ?_, fun c1 => ?_⟩
  · have h2 := h.1 c1
    exact zt_vret rfl d_Bk_dropExample_17 ⟨rfl, h2⟩
  · have h3 := h.2 c1
    refine zt_aload_n 0 d_Bk_dropExample_7 rfl rfl rfl ?_
    refine zt_dup d_Bk_dropExample_8 rfl rfl ?_
    refine zt_getI d_Bk_dropExample_9 rfl fl_Bk_26 t0.1 ?_
    refine zt_iconst (v := 1) d_Bk_dropExample_12 rfl (by decide) ?_
    refine zt_isub d_Bk_dropExample_13 rfl ?_
    refine zt_putI d_Bk_dropExample_14 rfl fl_Bk_26 t0.1 ?_
    have h5 := h3 _ rfl
    exact zt_vret rfl d_Bk_dropExample_17 ⟨rfl, h5⟩
theorem e_Bk_addLine {Q : Mem → Prop} {M : Mem} {a0 : Nat} (t0 : T_Bk zX a0) {a1 n1 : Nat} (t1 : T_Sg zX a1 n1) (h : (6 ≤ (M.1 a0 4) → (Q M)) ∧ (¬ 6 ≤ (M.1 a0 4) → (vp_in (M.1 a0 4) 6 ∧ (CallV zX m_Sg_copy [.ref (a0 + 3 + 19 + 3 * (M.1 a0 4).toNatClampNeg), .ref a1] M (fun M7 => ∀ N9, N9 = uI M7 a0 4 ((M7.1 a0 4) + 1) → (Q N9)))))) : CallV zX m_Bk_addLine [.ref a0, .ref a1] M Q := by
  refine call_of (by decide) (Nat.le_of_ble_eq_true rfl) ?_
  show wp zX m_Bk_addLine (QV Q) 0 [(0, .ref a0), (1, .ref a1)] [] M
  refine zt_aload_n 0 d_Bk_addLine_0 rfl rfl rfl ?_
  refine zt_getI d_Bk_addLine_1 rfl fl_Bk_30 t0.1 ?_
  refine zt_bipush (v := 6) d_Bk_addLine_4 rfl (by decide) ?_
  refine zt_icmp_ge d_Bk_addLine_6 rfl (tgt := 32) (by decide) ⟨fun c1 => ?_, fun c1 => ?_⟩
  · have h2 := h.1 c1
    exact zt_vret rfl d_Bk_addLine_32 ⟨rfl, h2⟩
  · have h3 := h.2 c1
    refine zt_aload_n 0 d_Bk_addLine_9 rfl rfl rfl ?_
    refine zt_getR (b := a0 + 3) d_Bk_addLine_10 rfl fl_Bk_20 rfl t0.1 ?_
    refine zt_aload_n 0 d_Bk_addLine_13 rfl rfl rfl ?_
    refine zt_getI d_Bk_addLine_14 rfl fl_Bk_30 t0.1 ?_
    obtain ⟨g4, h5⟩ := h3
    refine zt_aald (b := a0 + 3 + 19 + 3 * (M.1 a0 4).toNatClampNeg) d_Bk_addLine_17 rfl (fun _ => rfl) rfl (by decide) (by decide) t0.2.2.2.1 g4 rfl ?_
    refine zt_aload_n 1 d_Bk_addLine_18 rfl rfl rfl ?_
    refine zt_callVV (as := [.ref a1]) d_Bk_addLine_19 rfl mi_Sg_copy ⟨Nat.le_of_ble_eq_true rfl, Nat.le_of_ble_eq_true rfl⟩ wd_307 rfl rfl (Nat.le_of_ble_eq_true rfl) (t0.2.2.2.2.2.2 _ (vp_lt g4)).1 h5 (fun M7 h6 => ?_)
    refine zt_aload_n 0 d_Bk_addLine_22 rfl rfl rfl ?_
    refine zt_dup d_Bk_addLine_23 rfl rfl ?_
    refine zt_getI d_Bk_addLine_24 rfl fl_Bk_30 t0.1 ?_
    refine zt_iconst (v := 1) d_Bk_addLine_27 rfl (by decide) ?_
    refine zt_iadd d_Bk_addLine_28 rfl ?_
    refine zt_putI d_Bk_addLine_29 rfl fl_Bk_30 t0.1 ?_
    have h10 := h6 _ rfl
    exact zt_vret rfl d_Bk_addLine_32 ⟨rfl, h10⟩
theorem e_Bk_dropLine {Q : Mem → Prop} {M : Mem} {a0 : Nat} (t0 : T_Bk zX a0) {x1 : Int32} (h : CallI zX m_Bk_knows [.ref a0, .int x1] M (fun r3 M2 => (r3 = 0 → (Q M2)) ∧ (¬ r3 = 0 → (wp zX m_Bk_dropLine (QV Q) 10 [(0, .ref a0), (2, .int x1)] [] M2)))) : CallV zX m_Bk_dropLine [.ref a0, .int x1] M Q := by
  refine call_of (by decide) (Nat.le_of_ble_eq_true rfl) ?_
  show wp zX m_Bk_dropLine (QV Q) 0 [(0, .ref a0), (1, .int x1)] [] M
  refine zt_aload_n 0 d_Bk_dropLine_0 rfl rfl rfl ?_
  refine zt_iload_n 1 d_Bk_dropLine_1 rfl rfl rfl ?_
  refine zt_callVI (as := [.int x1]) d_Bk_dropLine_2 rfl mi_Bk_knows ⟨Nat.le_of_ble_eq_true rfl, Nat.le_of_ble_eq_true rfl⟩ wd_325 rfl rfl (Nat.le_of_ble_eq_true rfl) t0.1 h (fun r3 M2 h1 => ?_)
  refine zt_if_eq d_Bk_dropLine_5 rfl (tgt := 53) (by decide) ⟨fun c4 => ?_, fun c4 => ?_⟩
  · have h5 := h1.1 c4
    exact zt_vret rfl d_Bk_dropLine_53 ⟨rfl, h5⟩
  · have h6 := h1.2 c4
    refine zt_iload_n 1 d_Bk_dropLine_8 rfl rfl rfl ?_
    refine zt_istore_n d_Bk_dropLine_9 rfl rfl (by decide) rfl ?_
    exact zt_sub [1, 0] rfl h6
theorem b_Bk_dropLine_10 {Q : Mem → Prop} {M : Mem} {a0 : Nat} (t0 : T_Bk zX a0) {x2 : Int32} (h : ((M.1 a0 4) ≤ (x2 + 1) → (∀ N4, N4 = uI M a0 4 ((M.1 a0 4) - 1) → (Q N4))) ∧ (¬ (M.1 a0 4) ≤ (x2 + 1) → (vp_in x2 6 ∧ (vp_in (x2 + 1) 6 ∧ (CallV zX m_Sg_copy [.ref (a0 + 3 + 19 + 3 * x2.toNatClampNeg), .ref (a0 + 3 + 19 + 3 * (x2 + 1).toNatClampNeg)] M (fun M11 => wp zX m_Bk_dropLine (QV Q) 10 [(0, .ref a0), (2, .int (x2 + 1))] [] M11)))))) : wp zX m_Bk_dropLine (QV Q) 10 [(0, .ref a0), (2, .int x2)] [] M := by
  refine zt_iload_n 1 d_Bk_dropLine_10 rfl rfl rfl ?_
  refine zt_iconst (v := 1) d_Bk_dropLine_11 rfl (by decide) ?_
  refine zt_iadd d_Bk_dropLine_12 rfl ?_
  refine zt_aload_n 0 d_Bk_dropLine_13 rfl rfl rfl ?_
  refine zt_getI d_Bk_dropLine_14 rfl fl_Bk_30 t0.1 ?_
  refine zt_icmp_ge d_Bk_dropLine_17 rfl (tgt := 43) (by decide) ⟨fun c1 => ?_, fun c1 => ?_⟩
  · have h2 := h.1 c1
    refine zt_aload_n 0 d_Bk_dropLine_43 rfl rfl rfl ?_
    refine zt_dup d_Bk_dropLine_44 rfl rfl ?_
    refine zt_getI d_Bk_dropLine_45 rfl fl_Bk_30 t0.1 ?_
    refine zt_iconst (v := 1) d_Bk_dropLine_48 rfl (by decide) ?_
    refine zt_isub d_Bk_dropLine_49 rfl ?_
    refine zt_putI d_Bk_dropLine_50 rfl fl_Bk_30 t0.1 ?_
    have h5 := h2 _ rfl
    exact zt_vret rfl d_Bk_dropLine_53 ⟨rfl, h5⟩
  · have h3 := h.2 c1
    refine zt_aload_n 0 d_Bk_dropLine_20 rfl rfl rfl ?_
    refine zt_getR (b := a0 + 3) d_Bk_dropLine_21 rfl fl_Bk_20 rfl t0.1 ?_
    refine zt_iload_n 1 d_Bk_dropLine_24 rfl rfl rfl ?_
    obtain ⟨g6, h7⟩ := h3
    refine zt_aald (b := a0 + 3 + 19 + 3 * x2.toNatClampNeg) d_Bk_dropLine_25 rfl (fun _ => rfl) rfl (by decide) (by decide) t0.2.2.2.1 g6 rfl ?_
    refine zt_aload_n 0 d_Bk_dropLine_26 rfl rfl rfl ?_
    refine zt_getR (b := a0 + 3) d_Bk_dropLine_27 rfl fl_Bk_20 rfl t0.1 ?_
    refine zt_iload_n 1 d_Bk_dropLine_30 rfl rfl rfl ?_
    refine zt_iconst (v := 1) d_Bk_dropLine_31 rfl (by decide) ?_
    refine zt_iadd d_Bk_dropLine_32 rfl ?_
    obtain ⟨g8, h9⟩ := h7
    refine zt_aald (b := a0 + 3 + 19 + 3 * (x2 + 1).toNatClampNeg) d_Bk_dropLine_33 rfl (fun _ => rfl) rfl (by decide) (by decide) t0.2.2.2.1 g8 rfl ?_
    refine zt_callVV (as := [.ref (a0 + 3 + 19 + 3 * (x2 + 1).toNatClampNeg)]) d_Bk_dropLine_34 rfl mi_Sg_copy ⟨Nat.le_of_ble_eq_true rfl, Nat.le_of_ble_eq_true rfl⟩ wd_307 rfl rfl (Nat.le_of_ble_eq_true rfl) (t0.2.2.2.2.2.2 _ (vp_lt g6)).1 h9 (fun M11 h10 => ?_)
    refine zt_iinc (v := (x2 + 1)) 1 d_Bk_dropLine_37 rfl rfl rfl (by decide) rfl ?_
    refine zt_goto d_Bk_dropLine_40 (tgt := 10) (by decide) ?_
    exact zt_sub [1, 0] rfl h10
theorem e_Bk_copy {Q : Mem → Prop} {M : Mem} {a0 : Nat} (t0 : T_Bk zX a0) {a1 : Nat} (t1 : T_Bk zX a1) (h : ∀ N1, N1 = uI M a0 3 (M.1 a1 3) → (∀ N3, N3 = uI N1 a0 4 (N1.1 a1 4) → (wp zX m_Bk_copy (QV Q) 18 [(0, .ref a0), (1, .ref a1), (2, .int 0)] [] N3))) : CallV zX m_Bk_copy [.ref a0, .ref a1] M Q := by
  refine call_of (by decide) (Nat.le_of_ble_eq_true rfl) ?_
  show wp zX m_Bk_copy (QV Q) 0 [(0, .ref a0), (1, .ref a1)] [] M
  refine zt_aload_n 0 d_Bk_copy_0 rfl rfl rfl ?_
  refine zt_aload_n 1 d_Bk_copy_1 rfl rfl rfl ?_
  refine zt_getI d_Bk_copy_2 rfl fl_Bk_26 t1.1 ?_
  refine zt_putI d_Bk_copy_5 rfl fl_Bk_26 t0.1 ?_
  have h2 := h _ rfl
  refine zt_aload_n 0 d_Bk_copy_8 rfl rfl rfl ?_
  refine zt_aload_n 1 d_Bk_copy_9 rfl rfl rfl ?_
  refine zt_getI d_Bk_copy_10 rfl fl_Bk_30 t1.1 ?_
  refine zt_putI d_Bk_copy_13 rfl fl_Bk_30 t0.1 ?_
  have h4 := h2 _ rfl
  refine zt_iconst (v := 0) d_Bk_copy_16 rfl (by decide) ?_
  refine zt_istore_n d_Bk_copy_17 rfl rfl (by decide) rfl ?_
  exact zt_sub [1, 2, 0] rfl h4
theorem b_Bk_copy_18 {Q : Mem → Prop} {M : Mem} {a0 : Nat} (t0 : T_Bk zX a0) {a1 : Nat} (t1 : T_Bk zX a1) {x2 : Int32} (h : (3 ≤ x2 → (wp zX m_Bk_copy (QV Q) 61 [(0, .ref a0), (1, .ref a1), (2, .int 0)] [] M)) ∧ (¬ 3 ≤ x2 → (vp_in x2 3 ∧ (vp_in x2 3 ∧ (CallV zX m_Sg_copy [.ref (a0 + 1 + 3 + 6 * x2.toNatClampNeg), .ref (a1 + 1 + 3 + 6 * x2.toNatClampNeg)] M (fun M9 => vp_in x2 3 ∧ (vp_in x2 3 ∧ (CallV zX m_Sg_copy [.ref (a0 + 2 + 5 + 6 * x2.toNatClampNeg), .ref (a1 + 2 + 5 + 6 * x2.toNatClampNeg)] M9 (fun M16 => wp zX m_Bk_copy (QV Q) 18 [(0, .ref a0), (1, .ref a1), (2, .int (x2 + 1))] [] M16))))))))) : wp zX m_Bk_copy (QV Q) 18 [(0, .ref a0), (1, .ref a1), (2, .int x2)] [] M := by
  refine zt_iload_n 2 d_Bk_copy_18 rfl rfl rfl ?_
  refine zt_iconst (v := 3) d_Bk_copy_19 rfl (by decide) ?_
  refine zt_icmp_ge d_Bk_copy_20 rfl (tgt := 59) (by decide) ⟨fun c1 => ?_, fun c1 => ?_⟩
  · have h2 := h.1 c1
    refine zt_iconst (v := 0) d_Bk_copy_59 rfl (by decide) ?_
    refine zt_istore_n d_Bk_copy_60 rfl rfl (by decide) rfl ?_
    exact zt_sub [1, 2, 0] rfl h2
  · have h3 := h.2 c1
    refine zt_aload_n 0 d_Bk_copy_23 rfl rfl rfl ?_
    refine zt_getR (b := a0 + 1) d_Bk_copy_24 rfl fl_Bk_11 rfl t0.1 ?_
    refine zt_iload_n 2 d_Bk_copy_27 rfl rfl rfl ?_
    obtain ⟨g4, h5⟩ := h3
    refine zt_aald (b := a0 + 1 + 3 + 6 * x2.toNatClampNeg) d_Bk_copy_28 rfl (fun _ => rfl) rfl (by decide) (by decide) t0.2.1 g4 rfl ?_
    refine zt_aload_n 1 d_Bk_copy_29 rfl rfl rfl ?_
    refine zt_getR (b := a1 + 1) d_Bk_copy_30 rfl fl_Bk_11 rfl t1.1 ?_
    refine zt_iload_n 2 d_Bk_copy_33 rfl rfl rfl ?_
    obtain ⟨g6, h7⟩ := h5
    refine zt_aald (b := a1 + 1 + 3 + 6 * x2.toNatClampNeg) d_Bk_copy_34 rfl (fun _ => rfl) rfl (by decide) (by decide) t1.2.1 g6 rfl ?_
    refine zt_callVV (as := [.ref (a1 + 1 + 3 + 6 * x2.toNatClampNeg)]) d_Bk_copy_35 rfl mi_Sg_copy ⟨Nat.le_of_ble_eq_true rfl, Nat.le_of_ble_eq_true rfl⟩ wd_307 rfl rfl (Nat.le_of_ble_eq_true rfl) (t0.2.2.2.2.1 _ (vp_lt g4)).1 h7 (fun M9 h8 => ?_)
    refine zt_aload_n 0 d_Bk_copy_38 rfl rfl rfl ?_
    refine zt_getR (b := a0 + 2) d_Bk_copy_39 rfl fl_Bk_17 rfl t0.1 ?_
    refine zt_iload_n 2 d_Bk_copy_42 rfl rfl rfl ?_
    obtain ⟨g11, h12⟩ := h8
    refine zt_aald (b := a0 + 2 + 5 + 6 * x2.toNatClampNeg) d_Bk_copy_43 rfl (fun _ => rfl) rfl (by decide) (by decide) t0.2.2.1 g11 rfl ?_
    refine zt_aload_n 1 d_Bk_copy_44 rfl rfl rfl ?_
    refine zt_getR (b := a1 + 2) d_Bk_copy_45 rfl fl_Bk_17 rfl t1.1 ?_
    refine zt_iload_n 2 d_Bk_copy_48 rfl rfl rfl ?_
    obtain ⟨g13, h14⟩ := h12
    refine zt_aald (b := a1 + 2 + 5 + 6 * x2.toNatClampNeg) d_Bk_copy_49 rfl (fun _ => rfl) rfl (by decide) (by decide) t1.2.2.1 g13 rfl ?_
    refine zt_callVV (as := [.ref (a1 + 2 + 5 + 6 * x2.toNatClampNeg)]) d_Bk_copy_50 rfl mi_Sg_copy ⟨Nat.le_of_ble_eq_true rfl, Nat.le_of_ble_eq_true rfl⟩ wd_307 rfl rfl (Nat.le_of_ble_eq_true rfl) (t0.2.2.2.2.2.1 _ (vp_lt g11)).1 h14 (fun M16 h15 => ?_)
    refine zt_iinc (v := (x2 + 1)) 2 d_Bk_copy_53 rfl rfl rfl (by decide) rfl ?_
    refine zt_goto d_Bk_copy_56 (tgt := 18) (by decide) ?_
    exact zt_sub [1, 2, 0] rfl h15
theorem b_Bk_copy_61 {Q : Mem → Prop} {M : Mem} {a0 : Nat} (t0 : T_Bk zX a0) {a1 : Nat} (t1 : T_Bk zX a1) {x2 : Int32} (h : (6 ≤ x2 → (Q M)) ∧ (¬ 6 ≤ x2 → (vp_in x2 6 ∧ (vp_in x2 6 ∧ (CallV zX m_Sg_copy [.ref (a0 + 3 + 19 + 3 * x2.toNatClampNeg), .ref (a1 + 3 + 19 + 3 * x2.toNatClampNeg)] M (fun M9 => wp zX m_Bk_copy (QV Q) 61 [(0, .ref a0), (1, .ref a1), (2, .int (x2 + 1))] [] M9)))))) : wp zX m_Bk_copy (QV Q) 61 [(0, .ref a0), (1, .ref a1), (2, .int x2)] [] M := by
  refine zt_iload_n 2 d_Bk_copy_61 rfl rfl rfl ?_
  refine zt_bipush (v := 6) d_Bk_copy_62 rfl (by decide) ?_
  refine zt_icmp_ge d_Bk_copy_64 rfl (tgt := 88) (by decide) ⟨fun c1 => ?_, fun c1 => ?_⟩
  · have h2 := h.1 c1
    exact zt_vret rfl d_Bk_copy_88 ⟨rfl, h2⟩
  · have h3 := h.2 c1
    refine zt_aload_n 0 d_Bk_copy_67 rfl rfl rfl ?_
    refine zt_getR (b := a0 + 3) d_Bk_copy_68 rfl fl_Bk_20 rfl t0.1 ?_
    refine zt_iload_n 2 d_Bk_copy_71 rfl rfl rfl ?_
    obtain ⟨g4, h5⟩ := h3
    refine zt_aald (b := a0 + 3 + 19 + 3 * x2.toNatClampNeg) d_Bk_copy_72 rfl (fun _ => rfl) rfl (by decide) (by decide) t0.2.2.2.1 g4 rfl ?_
    refine zt_aload_n 1 d_Bk_copy_73 rfl rfl rfl ?_
    refine zt_getR (b := a1 + 3) d_Bk_copy_74 rfl fl_Bk_20 rfl t1.1 ?_
    refine zt_iload_n 2 d_Bk_copy_77 rfl rfl rfl ?_
    obtain ⟨g6, h7⟩ := h5
    refine zt_aald (b := a1 + 3 + 19 + 3 * x2.toNatClampNeg) d_Bk_copy_78 rfl (fun _ => rfl) rfl (by decide) (by decide) t1.2.2.2.1 g6 rfl ?_
    refine zt_callVV (as := [.ref (a1 + 3 + 19 + 3 * x2.toNatClampNeg)]) d_Bk_copy_79 rfl mi_Sg_copy ⟨Nat.le_of_ble_eq_true rfl, Nat.le_of_ble_eq_true rfl⟩ wd_307 rfl rfl (Nat.le_of_ble_eq_true rfl) (t0.2.2.2.2.2.2 _ (vp_lt g4)).1 h7 (fun M9 h8 => ?_)
    refine zt_iinc (v := (x2 + 1)) 2 d_Bk_copy_82 rfl rfl rfl (by decide) rfl ?_
    refine zt_goto d_Bk_copy_85 (tgt := 61) (by decide) ?_
    exact zt_sub [1, 2, 0] rfl h8
theorem e_Mk_index {Q : Int32 → Mem → Prop} {M : Mem} {x0 : Int32} (h : (x0 < 200 → ((x0 < 100 → ((x0 < 20 → ((x0 < 0 → (Q (-6) M)) ∧ (¬ x0 < 0 → ((13 ≤ x0 → (Q (-6) M)) ∧ (¬ 13 ≤ x0 → (Q x0 M)))))) ∧ (¬ x0 < 20 → ((13 ≤ (x0 - 20) → (Q (-6) M)) ∧ (¬ 13 ≤ (x0 - 20) → (Q ((13 + x0) - 20) M)))))) ∧ (¬ x0 < 100 → (CallI zX m_Mk_runIndex [.int 26, .int (x0 - 100)] M (fun r21 M20 => Q r21 M20))))) ∧ (¬ x0 < 200 → (CallI zX m_Mk_runIndex [.int 44, .int (x0 - 200)] M (fun r24 M23 => Q r24 M23)))) : CallI zX m_Mk_index [.int x0] M Q := by
  refine call_of (by decide) (Nat.le_of_ble_eq_true rfl) ?_
  show wp zX m_Mk_index (QI Q) 0 [(0, .int x0)] [] M
  refine zt_iload_n 0 d_Mk_index_0 rfl rfl rfl ?_
  refine zt_sipush (v := 200) d_Mk_index_1 rfl (by decide) ?_
  refine zt_icmp_lt d_Mk_index_4 rfl (tgt := 18) (by decide) ⟨fun c1 => ?_, fun c1 => ?_⟩
  · have h2 := h.1 c1
    refine zt_iload_n 0 d_Mk_index_18 rfl rfl rfl ?_
    refine zt_bipush (v := 100) d_Mk_index_19 rfl (by decide) ?_
    refine zt_icmp_lt d_Mk_index_21 rfl (tgt := 34) (by decide) ⟨fun c4 => ?_, fun c4 => ?_⟩
    · have h5 := h2.1 c4
      refine zt_iload_n 0 d_Mk_index_34 rfl rfl rfl ?_
      refine zt_bipush (v := 20) d_Mk_index_35 rfl (by decide) ?_
      refine zt_icmp_lt d_Mk_index_37 rfl (tgt := 62) (by decide) ⟨fun c7 => ?_, fun c7 => ?_⟩
      · have h8 := h5.1 c7
        refine zt_iload_n 0 d_Mk_index_62 rfl rfl rfl ?_
        refine zt_if_lt d_Mk_index_63 rfl (tgt := 76) (by decide) ⟨fun c10 => ?_, fun c10 => ?_⟩
        · have h11 := h8.1 c10
          refine zt_bipush (v := -6) d_Mk_index_76 rfl (by decide) ?_
          exact zt_iret rfl d_Mk_index_78 ⟨_, rfl, h11⟩
        · have h12 := h8.2 c10
          refine zt_iload_n 0 d_Mk_index_66 rfl rfl rfl ?_
          refine zt_bipush (v := 13) d_Mk_index_67 rfl (by decide) ?_
          refine zt_icmp_ge d_Mk_index_69 rfl (tgt := 76) (by decide) ⟨fun c13 => ?_, fun c13 => ?_⟩
          · have h14 := h12.1 c13
            refine zt_bipush (v := -6) d_Mk_index_76 rfl (by decide) ?_
            exact zt_iret rfl d_Mk_index_78 ⟨_, rfl, h14⟩
          · have h15 := h12.2 c13
            refine zt_iload_n 0 d_Mk_index_72 rfl rfl rfl ?_
            refine zt_goto d_Mk_index_73 (tgt := 78) (by decide) ?_
            exact zt_iret rfl d_Mk_index_78 ⟨_, rfl, h15⟩
      · have h9 := h5.2 c7
        refine zt_iload_n 0 d_Mk_index_40 rfl rfl rfl ?_
        refine zt_bipush (v := 20) d_Mk_index_41 rfl (by decide) ?_
        refine zt_isub d_Mk_index_43 rfl ?_
        refine zt_bipush (v := 13) d_Mk_index_44 rfl (by decide) ?_
        refine zt_icmp_ge d_Mk_index_46 rfl (tgt := 59) (by decide) ⟨fun c16 => ?_, fun c16 => ?_⟩
        · have h17 := h9.1 c16
          refine zt_bipush (v := -6) d_Mk_index_59 rfl (by decide) ?_
          exact zt_iret rfl d_Mk_index_61 ⟨_, rfl, h17⟩
        · have h18 := h9.2 c16
          refine zt_bipush (v := 13) d_Mk_index_49 rfl (by decide) ?_
          refine zt_iload_n 0 d_Mk_index_51 rfl rfl rfl ?_
          refine zt_iadd d_Mk_index_52 rfl ?_
          refine zt_bipush (v := 20) d_Mk_index_53 rfl (by decide) ?_
          refine zt_isub d_Mk_index_55 rfl ?_
          refine zt_goto d_Mk_index_56 (tgt := 61) (by decide) ?_
          exact zt_iret rfl d_Mk_index_61 ⟨_, rfl, h18⟩
    · have h6 := h2.2 c4
      refine zt_bipush (v := 26) d_Mk_index_24 rfl (by decide) ?_
      refine zt_iload_n 0 d_Mk_index_26 rfl rfl rfl ?_
      refine zt_bipush (v := 100) d_Mk_index_27 rfl (by decide) ?_
      refine zt_isub d_Mk_index_29 rfl ?_
      refine zt_callSI (as := [.int 26, .int (x0 - 100)]) d_Mk_index_30 rfl ms_Mk_runIndex ⟨Nat.le_of_ble_eq_true rfl, Nat.le_of_ble_eq_true rfl⟩ wd_582 rfl rfl (Nat.le_of_ble_eq_true rfl) h6 (fun r21 M20 h19 => ?_)
      exact zt_iret rfl d_Mk_index_33 ⟨_, rfl, h19⟩
  · have h3 := h.2 c1
    refine zt_bipush (v := 44) d_Mk_index_7 rfl (by decide) ?_
    refine zt_iload_n 0 d_Mk_index_9 rfl rfl rfl ?_
    refine zt_sipush (v := 200) d_Mk_index_10 rfl (by decide) ?_
    refine zt_isub d_Mk_index_13 rfl ?_
    refine zt_callSI (as := [.int 44, .int (x0 - 200)]) d_Mk_index_14 rfl ms_Mk_runIndex ⟨Nat.le_of_ble_eq_true rfl, Nat.le_of_ble_eq_true rfl⟩ wd_582 rfl rfl (Nat.le_of_ble_eq_true rfl) h3 (fun r24 M23 h22 => ?_)
    exact zt_iret rfl d_Mk_index_17 ⟨_, rfl, h22⟩
theorem e_Mk_runIndex {Q : Int32 → Mem → Prop} {M : Mem} {x0 : Int32} {x1 : Int32} (h : (3 ≤ (x1 / 20) → (Q (-6) M)) ∧ (¬ 3 ≤ (x1 / 20) → ((3 < ((x1 - x1 / 20 * 20) - 3) → (Q (-6) M)) ∧ (¬ 3 < ((x1 - x1 / 20 * 20) - 3) → ((((x1 - x1 / 20 * 20) - 3) = 0 → (Q (-6) M)) ∧ (¬ ((x1 - x1 / 20 * 20) - 3) = 0 → ((0 ≤ ((x1 - x1 / 20 * 20) - 3) → (Q ((x0 + ((x1 / 20) * 6)) + (((x1 - x1 / 20 * 20) - 3) + 2)) M)) ∧ (¬ 0 ≤ ((x1 - x1 / 20 * 20) - 3) → (Q ((x0 + ((x1 / 20) * 6)) + (((x1 - x1 / 20 * 20) - 3) + 3)) M))))))))) : CallI zX m_Mk_runIndex [.int x0, .int x1] M Q := by
  refine call_of (by decide) (Nat.le_of_ble_eq_true rfl) ?_
  show wp zX m_Mk_runIndex (QI Q) 0 [(0, .int x0), (1, .int x1)] [] M
  refine zt_iload_n 1 d_Mk_runIndex_0 rfl rfl rfl ?_
  refine zt_bipush (v := 20) d_Mk_runIndex_1 rfl (by decide) ?_
  refine zt_idiv d_Mk_runIndex_3 rfl (by decide) ?_
  refine zt_istore_n d_Mk_runIndex_4 rfl rfl (by decide) rfl ?_
  refine zt_iload_n 2 d_Mk_runIndex_5 rfl rfl rfl ?_
  refine zt_bipush (v := 20) d_Mk_runIndex_6 rfl (by decide) ?_
  refine zt_irem d_Mk_runIndex_8 rfl (by decide) ?_
  refine zt_iconst (v := 3) d_Mk_runIndex_9 rfl (by decide) ?_
  refine zt_isub d_Mk_runIndex_10 rfl ?_
  refine zt_istore_n d_Mk_runIndex_11 rfl rfl (by decide) rfl ?_
  refine zt_iload_n 1 d_Mk_runIndex_12 rfl rfl rfl ?_
  refine zt_iconst (v := 3) d_Mk_runIndex_13 rfl (by decide) ?_
  refine zt_icmp_ge d_Mk_runIndex_14 rfl (tgt := 26) (by decide) ⟨fun c1 => ?_, fun c1 => ?_⟩
  · have h2 := h.1 c1
    refine zt_bipush (v := -6) d_Mk_runIndex_26 rfl (by decide) ?_
    exact zt_iret rfl d_Mk_runIndex_28 ⟨_, rfl, h2⟩
  · have h3 := h.2 c1
    refine zt_iload_n 0 d_Mk_runIndex_17 rfl rfl rfl ?_
    refine zt_iconst (v := 3) d_Mk_runIndex_18 rfl (by decide) ?_
    refine zt_icmp_gt d_Mk_runIndex_19 rfl (tgt := 26) (by decide) ⟨fun c4 => ?_, fun c4 => ?_⟩
    · have h5 := h3.1 c4
      refine zt_bipush (v := -6) d_Mk_runIndex_26 rfl (by decide) ?_
      exact zt_iret rfl d_Mk_runIndex_28 ⟨_, rfl, h5⟩
    · have h6 := h3.2 c4
      refine zt_iload_n 0 d_Mk_runIndex_22 rfl rfl rfl ?_
      refine zt_if_ne d_Mk_runIndex_23 rfl (tgt := 29) (by decide) ⟨fun c7 => ?_, fun c7 => ?_⟩
      · have h8 := h6.1 c7
        refine zt_bipush (v := -6) d_Mk_runIndex_26 rfl (by decide) ?_
        exact zt_iret rfl d_Mk_runIndex_28 ⟨_, rfl, h8⟩
      · have h9 := h6.2 c7
        refine zt_iload_n 2 d_Mk_runIndex_29 rfl rfl rfl ?_
        refine zt_iload_n 1 d_Mk_runIndex_30 rfl rfl rfl ?_
        refine zt_bipush (v := 6) d_Mk_runIndex_31 rfl (by decide) ?_
        refine zt_imul d_Mk_runIndex_33 rfl ?_
        refine zt_iadd d_Mk_runIndex_34 rfl ?_
        refine zt_iload_n 0 d_Mk_runIndex_35 rfl rfl rfl ?_
        refine zt_if_ge d_Mk_runIndex_36 rfl (tgt := 45) (by decide) ⟨fun c10 => ?_, fun c10 => ?_⟩
        · have h11 := h9.1 c10
          refine zt_iload_n 0 d_Mk_runIndex_45 rfl rfl rfl ?_
          refine zt_iconst (v := 2) d_Mk_runIndex_46 rfl (by decide) ?_
          refine zt_iadd d_Mk_runIndex_47 rfl ?_
          refine zt_iadd d_Mk_runIndex_48 rfl ?_
          exact zt_iret rfl d_Mk_runIndex_49 ⟨_, rfl, h11⟩
        · have h12 := h9.2 c10
          refine zt_iload_n 0 d_Mk_runIndex_39 rfl rfl rfl ?_
          refine zt_iconst (v := 3) d_Mk_runIndex_40 rfl (by decide) ?_
          refine zt_iadd d_Mk_runIndex_41 rfl ?_
          refine zt_goto d_Mk_runIndex_42 (tgt := 48) (by decide) ?_
          refine zt_iadd d_Mk_runIndex_48 rfl ?_
          exact zt_iret rfl d_Mk_runIndex_49 ⟨_, rfl, h12⟩
theorem e_Mk_code {Q : Int32 → Mem → Prop} {M : Mem} {x0 : Int32} (h : (13 ≤ x0 → ((26 ≤ x0 → ((44 ≤ x0 → (CallI zX m_Mk_kind [.int x0] M (fun r12 M11 => CallI zX m_Mk_turn [.int x0] M11 (fun r15 M14 => Q (((200 + (20 * r12)) + r15) + 3) M14)))) ∧ (¬ 44 ≤ x0 → (CallI zX m_Mk_kind [.int x0] M (fun r18 M17 => CallI zX m_Mk_turn [.int x0] M17 (fun r21 M20 => Q (((100 + (20 * r18)) + r21) + 3) M20)))))) ∧ (¬ 26 ≤ x0 → (Q ((20 + x0) - 13) M)))) ∧ (¬ 13 ≤ x0 → (Q x0 M))) : CallI zX m_Mk_code [.int x0] M Q := by
  refine call_of (by decide) (Nat.le_of_ble_eq_true rfl) ?_
  show wp zX m_Mk_code (QI Q) 0 [(0, .int x0)] [] M
  refine zt_iload_n 0 d_Mk_code_0 rfl rfl rfl ?_
  refine zt_bipush (v := 13) d_Mk_code_1 rfl (by decide) ?_
  refine zt_icmp_ge d_Mk_code_3 rfl (tgt := 8) (by decide) ⟨fun c1 => ?_, fun c1 => ?_⟩
  · have h2 := h.1 c1
    refine zt_iload_n 0 d_Mk_code_8 rfl rfl rfl ?_
    refine zt_bipush (v := 26) d_Mk_code_9 rfl (by decide) ?_
    refine zt_icmp_ge d_Mk_code_11 rfl (tgt := 22) (by decide) ⟨fun c4 => ?_, fun c4 => ?_⟩
    · have h5 := h2.1 c4
      refine zt_iload_n 0 d_Mk_code_22 rfl rfl rfl ?_
      refine zt_bipush (v := 44) d_Mk_code_23 rfl (by decide) ?_
      refine zt_icmp_ge d_Mk_code_25 rfl (tgt := 33) (by decide) ⟨fun c7 => ?_, fun c7 => ?_⟩
      · have h8 := h5.1 c7
        refine zt_sipush (v := 200) d_Mk_code_33 rfl (by decide) ?_
        refine zt_istore_n d_Mk_code_36 rfl rfl (by decide) rfl ?_
        refine zt_iload_n 0 d_Mk_code_37 rfl rfl rfl ?_
        refine zt_bipush (v := 20) d_Mk_code_38 rfl (by decide) ?_
        refine zt_iload_n 1 d_Mk_code_40 rfl rfl rfl ?_
        refine zt_callSI (as := [.int x0]) d_Mk_code_41 rfl ms_Mk_kind ⟨Nat.le_of_ble_eq_true rfl, Nat.le_of_ble_eq_true rfl⟩ wd_360 rfl rfl (Nat.le_of_ble_eq_true rfl) h8 (fun r12 M11 h10 => ?_)
        refine zt_imul d_Mk_code_44 rfl ?_
        refine zt_iadd d_Mk_code_45 rfl ?_
        refine zt_iload_n 1 d_Mk_code_46 rfl rfl rfl ?_
        refine zt_callSI (as := [.int x0]) d_Mk_code_47 rfl ms_Mk_turn ⟨Nat.le_of_ble_eq_true rfl, Nat.le_of_ble_eq_true rfl⟩ wd_363 rfl rfl (Nat.le_of_ble_eq_true rfl) h10 (fun r15 M14 h13 => ?_)
        refine zt_iadd d_Mk_code_50 rfl ?_
        refine zt_iconst (v := 3) d_Mk_code_51 rfl (by decide) ?_
        refine zt_iadd d_Mk_code_52 rfl ?_
        exact zt_iret rfl d_Mk_code_53 ⟨_, rfl, h13⟩
      · have h9 := h5.2 c7
        refine zt_bipush (v := 100) d_Mk_code_28 rfl (by decide) ?_
        refine zt_goto d_Mk_code_30 (tgt := 36) (by decide) ?_
        refine zt_istore_n d_Mk_code_36 rfl rfl (by decide) rfl ?_
        refine zt_iload_n 0 d_Mk_code_37 rfl rfl rfl ?_
        refine zt_bipush (v := 20) d_Mk_code_38 rfl (by decide) ?_
        refine zt_iload_n 1 d_Mk_code_40 rfl rfl rfl ?_
        refine zt_callSI (as := [.int x0]) d_Mk_code_41 rfl ms_Mk_kind ⟨Nat.le_of_ble_eq_true rfl, Nat.le_of_ble_eq_true rfl⟩ wd_360 rfl rfl (Nat.le_of_ble_eq_true rfl) h9 (fun r18 M17 h16 => ?_)
        refine zt_imul d_Mk_code_44 rfl ?_
        refine zt_iadd d_Mk_code_45 rfl ?_
        refine zt_iload_n 1 d_Mk_code_46 rfl rfl rfl ?_
        refine zt_callSI (as := [.int x0]) d_Mk_code_47 rfl ms_Mk_turn ⟨Nat.le_of_ble_eq_true rfl, Nat.le_of_ble_eq_true rfl⟩ wd_363 rfl rfl (Nat.le_of_ble_eq_true rfl) h16 (fun r21 M20 h19 => ?_)
        refine zt_iadd d_Mk_code_50 rfl ?_
        refine zt_iconst (v := 3) d_Mk_code_51 rfl (by decide) ?_
        refine zt_iadd d_Mk_code_52 rfl ?_
        exact zt_iret rfl d_Mk_code_53 ⟨_, rfl, h19⟩
    · have h6 := h2.2 c4
      refine zt_bipush (v := 20) d_Mk_code_14 rfl (by decide) ?_
      refine zt_iload_n 0 d_Mk_code_16 rfl rfl rfl ?_
      refine zt_iadd d_Mk_code_17 rfl ?_
      refine zt_bipush (v := 13) d_Mk_code_18 rfl (by decide) ?_
      refine zt_isub d_Mk_code_20 rfl ?_
      exact zt_iret rfl d_Mk_code_21 ⟨_, rfl, h6⟩
  · have h3 := h.2 c1
    refine zt_iload_n 0 d_Mk_code_6 rfl rfl rfl ?_
    exact zt_iret rfl d_Mk_code_7 ⟨_, rfl, h3⟩
theorem e_Mk_price {Q : Int32 → Mem → Prop} {M : Mem} {x0 : Int32} (h : (26 ≤ x0 → (CallI zX m_Mk_turn [.int x0] M (fun r6 M5 => ((if 0 ≤ r6 then r6 else 0 - r6) = 1 → (Q 1 M5)) ∧ (¬ (if 0 ≤ r6 then r6 else 0 - r6) = 1 → (Q 2 M5))))) ∧ (¬ 26 ≤ x0 → (Q 3 M))) : CallI zX m_Mk_price [.int x0] M Q := by
  refine call_of (by decide) (Nat.le_of_ble_eq_true rfl) ?_
  show wp zX m_Mk_price (QI Q) 0 [(0, .int x0)] [] M
  refine zt_iload_n 0 d_Mk_price_0 rfl rfl rfl ?_
  refine zt_bipush (v := 26) d_Mk_price_1 rfl (by decide) ?_
  refine zt_icmp_ge d_Mk_price_3 rfl (tgt := 8) (by decide) ⟨fun c1 => ?_, fun c1 => ?_⟩
  · have h2 := h.1 c1
    refine zt_iload_n 0 d_Mk_price_8 rfl rfl rfl ?_
    refine zt_callSI (as := [.int x0]) d_Mk_price_9 rfl ms_Mk_turn ⟨Nat.le_of_ble_eq_true rfl, Nat.le_of_ble_eq_true rfl⟩ wd_363 rfl rfl (Nat.le_of_ble_eq_true rfl) h2 (fun r6 M5 h4 => ?_)
    refine zt_mabs d_Mk_price_12 rfl ma_Mk_price_22 (Nat.le_of_ble_eq_true rfl) ?_
    refine zt_iconst (v := 1) d_Mk_price_15 rfl (by decide) ?_
    refine zt_icmp_ne d_Mk_price_16 rfl (tgt := 23) (by decide) ⟨fun c7 => ?_, fun c7 => ?_⟩
    · have h8 := h4.1 c7
      refine zt_iconst (v := 1) d_Mk_price_19 rfl (by decide) ?_
      refine zt_goto d_Mk_price_20 (tgt := 24) (by decide) ?_
      exact zt_iret rfl d_Mk_price_24 ⟨_, rfl, h8⟩
    · have h9 := h4.2 c7
      refine zt_iconst (v := 2) d_Mk_price_23 rfl (by decide) ?_
      exact zt_iret rfl d_Mk_price_24 ⟨_, rfl, h9⟩
  · have h3 := h.2 c1
    refine zt_iconst (v := 3) d_Mk_price_6 rfl (by decide) ?_
    exact zt_iret rfl d_Mk_price_7 ⟨_, rfl, h3⟩
theorem e_Mk_placeIn {Q : Int32 → Mem → Prop} {M : Mem} {a0 n0 : Nat} (t0 : T_Sg zX a0 n0) {x1 : Int32} (h : (13 ≤ x1 → ((26 ≤ x1 → (CallI zX m_Mk_kind [.int x1] M (fun r9 M8 => CallI zX m_Mk_turn [.int x1] M8 (fun r12 M11 => CallI zX m_Mk_runBegin [.ref a0, .int r9, .int r12] M11 (fun r15 M14 => (r15 = (-6) → (Q r15 M14)) ∧ (¬ r15 = (-6) → ((44 ≤ x1 → (CallI zX m_Mk_runEnd [.ref a0, .int r15] M14 (fun r24 M23 => Q r24 M23))) ∧ (¬ 44 ≤ x1 → (Q r15 M14))))))))) ∧ (¬ 26 ≤ x1 → (CallI zX m_Sg_many [.ref a0] M (fun r27 M26 => (r27 < (x1 - 13) → (Q (-6) M26)) ∧ (¬ r27 < (x1 - 13) → (CallI zX m_Sg_many [.ref a0] M26 (fun r33 M32 => Q (r33 - (x1 - 13)) M32)))))))) ∧ (¬ 13 ≤ x1 → (CallI zX m_Sg_many [.ref a0] M (fun r36 M35 => (r36 < x1 → (Q (-6) M35)) ∧ (¬ r36 < x1 → (Q x1 M35)))))) : CallI zX m_Mk_placeIn [.ref a0, .int x1] M Q := by
  refine call_of (by decide) (Nat.le_of_ble_eq_true rfl) ?_
  show wp zX m_Mk_placeIn (QI Q) 0 [(0, .ref a0), (1, .int x1)] [] M
  refine zt_iload_n 1 d_Mk_placeIn_0 rfl rfl rfl ?_
  refine zt_bipush (v := 13) d_Mk_placeIn_1 rfl (by decide) ?_
  refine zt_icmp_ge d_Mk_placeIn_3 rfl (tgt := 21) (by decide) ⟨fun c1 => ?_, fun c1 => ?_⟩
  · have h2 := h.1 c1
    refine zt_iload_n 1 d_Mk_placeIn_21 rfl rfl rfl ?_
    refine zt_bipush (v := 26) d_Mk_placeIn_22 rfl (by decide) ?_
    refine zt_icmp_ge d_Mk_placeIn_24 rfl (tgt := 52) (by decide) ⟨fun c4 => ?_, fun c4 => ?_⟩
    · have h5 := h2.1 c4
      refine zt_aload_n 0 d_Mk_placeIn_52 rfl rfl rfl ?_
      refine zt_iload_n 1 d_Mk_placeIn_53 rfl rfl rfl ?_
      refine zt_callSI (as := [.int x1]) d_Mk_placeIn_54 rfl ms_Mk_kind ⟨Nat.le_of_ble_eq_true rfl, Nat.le_of_ble_eq_true rfl⟩ wd_360 rfl rfl (Nat.le_of_ble_eq_true rfl) h5 (fun r9 M8 h7 => ?_)
      refine zt_iload_n 1 d_Mk_placeIn_57 rfl rfl rfl ?_
      refine zt_callSI (as := [.int x1]) d_Mk_placeIn_58 rfl ms_Mk_turn ⟨Nat.le_of_ble_eq_true rfl, Nat.le_of_ble_eq_true rfl⟩ wd_363 rfl rfl (Nat.le_of_ble_eq_true rfl) h7 (fun r12 M11 h10 => ?_)
      refine zt_callSI (as := [.ref a0, .int r9, .int r12]) d_Mk_placeIn_61 rfl ms_Mk_runBegin ⟨Nat.le_of_ble_eq_true rfl, Nat.le_of_ble_eq_true rfl⟩ wd_366 rfl rfl (Nat.le_of_ble_eq_true rfl) h10 (fun r15 M14 h13 => ?_)
      refine zt_istore_n d_Mk_placeIn_64 rfl rfl (by decide) rfl ?_
      refine zt_iload_n 0 d_Mk_placeIn_65 rfl rfl rfl ?_
      refine zt_bipush (v := -6) d_Mk_placeIn_66 rfl (by decide) ?_
      refine zt_icmp_eq d_Mk_placeIn_68 rfl (tgt := 77) (by decide) ⟨fun c16 => ?_, fun c16 => ?_⟩
      · have h17 := h13.1 c16
        refine zt_iload_n 0 d_Mk_placeIn_77 rfl rfl rfl ?_
        refine zt_goto d_Mk_placeIn_78 (tgt := 86) (by decide) ?_
        exact zt_iret rfl d_Mk_placeIn_86 ⟨_, rfl, h17⟩
      · have h18 := h13.2 c16
        refine zt_iload_n 2 d_Mk_placeIn_71 rfl rfl rfl ?_
        refine zt_bipush (v := 44) d_Mk_placeIn_72 rfl (by decide) ?_
        refine zt_icmp_ge d_Mk_placeIn_74 rfl (tgt := 81) (by decide) ⟨fun c19 => ?_, fun c19 => ?_⟩
        · have h20 := h18.1 c19
          refine zt_aload_n 1 d_Mk_placeIn_81 rfl rfl rfl ?_
          refine zt_iload_n 0 d_Mk_placeIn_82 rfl rfl rfl ?_
          refine zt_callSI (as := [.ref a0, .int r15]) d_Mk_placeIn_83 rfl ms_Mk_runEnd ⟨Nat.le_of_ble_eq_true rfl, Nat.le_of_ble_eq_true rfl⟩ wd_373 rfl rfl (Nat.le_of_ble_eq_true rfl) h20 (fun r24 M23 h22 => ?_)
          exact zt_iret rfl d_Mk_placeIn_86 ⟨_, rfl, h22⟩
        · have h21 := h18.2 c19
          refine zt_iload_n 0 d_Mk_placeIn_77 rfl rfl rfl ?_
          refine zt_goto d_Mk_placeIn_78 (tgt := 86) (by decide) ?_
          exact zt_iret rfl d_Mk_placeIn_86 ⟨_, rfl, h21⟩
    · have h6 := h2.2 c4
      refine zt_iload_n 1 d_Mk_placeIn_27 rfl rfl rfl ?_
      refine zt_bipush (v := 13) d_Mk_placeIn_28 rfl (by decide) ?_
      refine zt_isub d_Mk_placeIn_30 rfl ?_
      refine zt_istore_n d_Mk_placeIn_31 rfl rfl (by decide) rfl ?_
      refine zt_iload_n 0 d_Mk_placeIn_32 rfl rfl rfl ?_
      refine zt_aload_n 1 d_Mk_placeIn_33 rfl rfl rfl ?_
      refine zt_callVI (as := []) d_Mk_placeIn_34 rfl mi_Sg_many ⟨Nat.le_of_ble_eq_true rfl, Nat.le_of_ble_eq_true rfl⟩ wd_359 rfl rfl (Nat.le_of_ble_eq_true rfl) t0.1 h6 (fun r27 M26 h25 => ?_)
      refine zt_icmp_gt d_Mk_placeIn_37 rfl (tgt := 49) (by decide) ⟨fun c28 => ?_, fun c28 => ?_⟩
      · have h29 := h25.1 c28
        refine zt_bipush (v := -6) d_Mk_placeIn_49 rfl (by decide) ?_
        exact zt_iret rfl d_Mk_placeIn_51 ⟨_, rfl, h29⟩
      · have h30 := h25.2 c28
        refine zt_aload_n 1 d_Mk_placeIn_40 rfl rfl rfl ?_
        refine zt_callVI (as := []) d_Mk_placeIn_41 rfl mi_Sg_many ⟨Nat.le_of_ble_eq_true rfl, Nat.le_of_ble_eq_true rfl⟩ wd_359 rfl rfl (Nat.le_of_ble_eq_true rfl) t0.1 h30 (fun r33 M32 h31 => ?_)
        refine zt_iload_n 0 d_Mk_placeIn_44 rfl rfl rfl ?_
        refine zt_isub d_Mk_placeIn_45 rfl ?_
        refine zt_goto d_Mk_placeIn_46 (tgt := 51) (by decide) ?_
        exact zt_iret rfl d_Mk_placeIn_51 ⟨_, rfl, h31⟩
  · have h3 := h.2 c1
    refine zt_iload_n 1 d_Mk_placeIn_6 rfl rfl rfl ?_
    refine zt_aload_n 0 d_Mk_placeIn_7 rfl rfl rfl ?_
    refine zt_callVI (as := []) d_Mk_placeIn_8 rfl mi_Sg_many ⟨Nat.le_of_ble_eq_true rfl, Nat.le_of_ble_eq_true rfl⟩ wd_359 rfl rfl (Nat.le_of_ble_eq_true rfl) t0.1 h3 (fun r36 M35 h34 => ?_)
    refine zt_icmp_gt d_Mk_placeIn_11 rfl (tgt := 18) (by decide) ⟨fun c37 => ?_, fun c37 => ?_⟩
    · have h38 := h34.1 c37
      refine zt_bipush (v := -6) d_Mk_placeIn_18 rfl (by decide) ?_
      exact zt_iret rfl d_Mk_placeIn_20 ⟨_, rfl, h38⟩
    · have h39 := h34.2 c37
      refine zt_iload_n 1 d_Mk_placeIn_14 rfl rfl rfl ?_
      refine zt_goto d_Mk_placeIn_15 (tgt := 20) (by decide) ?_
      exact zt_iret rfl d_Mk_placeIn_20 ⟨_, rfl, h39⟩
theorem e_Mk_kind {Q : Int32 → Mem → Prop} {M : Mem} {x0 : Int32} (h : Q (((x0 - 26) - (x0 - 26) / 18 * 18) / 6) M) : CallI zX m_Mk_kind [.int x0] M Q := by
  refine call_of (by decide) (Nat.le_of_ble_eq_true rfl) ?_
  show wp zX m_Mk_kind (QI Q) 0 [(0, .int x0)] [] M
  refine zt_iload_n 0 d_Mk_kind_0 rfl rfl rfl ?_
  refine zt_bipush (v := 26) d_Mk_kind_1 rfl (by decide) ?_
  refine zt_isub d_Mk_kind_3 rfl ?_
  refine zt_bipush (v := 18) d_Mk_kind_4 rfl (by decide) ?_
  refine zt_irem d_Mk_kind_6 rfl (by decide) ?_
  refine zt_bipush (v := 6) d_Mk_kind_7 rfl (by decide) ?_
  refine zt_idiv d_Mk_kind_9 rfl (by decide) ?_
  exact zt_iret rfl d_Mk_kind_10 ⟨_, rfl, h⟩
theorem e_Mk_turn {Q : Int32 → Mem → Prop} {M : Mem} {x0 : Int32} (h : (3 ≤ ((x0 - 26) - (x0 - 26) / 6 * 6) → (Q (((x0 - 26) - (x0 - 26) / 6 * 6) - 2) M)) ∧ (¬ 3 ≤ ((x0 - 26) - (x0 - 26) / 6 * 6) → (Q (((x0 - 26) - (x0 - 26) / 6 * 6) - 3) M))) : CallI zX m_Mk_turn [.int x0] M Q := by
  refine call_of (by decide) (Nat.le_of_ble_eq_true rfl) ?_
  show wp zX m_Mk_turn (QI Q) 0 [(0, .int x0)] [] M
  refine zt_iload_n 0 d_Mk_turn_0 rfl rfl rfl ?_
  refine zt_bipush (v := 26) d_Mk_turn_1 rfl (by decide) ?_
  refine zt_isub d_Mk_turn_3 rfl ?_
  refine zt_bipush (v := 6) d_Mk_turn_4 rfl (by decide) ?_
  refine zt_irem d_Mk_turn_6 rfl (by decide) ?_
  refine zt_istore_n d_Mk_turn_7 rfl rfl (by decide) rfl ?_
  refine zt_iload_n 0 d_Mk_turn_8 rfl rfl rfl ?_
  refine zt_iconst (v := 3) d_Mk_turn_9 rfl (by decide) ?_
  refine zt_icmp_ge d_Mk_turn_10 rfl (tgt := 19) (by decide) ⟨fun c1 => ?_, fun c1 => ?_⟩
  · have h2 := h.1 c1
    refine zt_iload_n 0 d_Mk_turn_19 rfl rfl rfl ?_
    refine zt_iconst (v := 2) d_Mk_turn_20 rfl (by decide) ?_
    refine zt_isub d_Mk_turn_21 rfl ?_
    exact zt_iret rfl d_Mk_turn_22 ⟨_, rfl, h2⟩
  · have h3 := h.2 c1
    refine zt_iload_n 0 d_Mk_turn_13 rfl rfl rfl ?_
    refine zt_iconst (v := 3) d_Mk_turn_14 rfl (by decide) ?_
    refine zt_isub d_Mk_turn_15 rfl ?_
    refine zt_goto d_Mk_turn_16 (tgt := 22) (by decide) ?_
    exact zt_iret rfl d_Mk_turn_22 ⟨_, rfl, h3⟩
theorem e_Mk_runBegin {Q : Int32 → Mem → Prop} {M : Mem} {a0 n0 : Nat} (t0 : T_Sg zX a0 n0) {x1 : Int32} {x2 : Int32} (h : wp zX m_Mk_runBegin (QI Q) 8 [(0, .ref a0), (1, .int x1), (2, .int x2), (3, .int (if 0 ≤ x2 then x2 else 0 - x2)), (4, .int 0)] [] M) : CallI zX m_Mk_runBegin [.ref a0, .int x1, .int x2] M Q := by
  refine call_of (by decide) (Nat.le_of_ble_eq_true rfl) ?_
  show wp zX m_Mk_runBegin (QI Q) 0 [(0, .ref a0), (1, .int x1), (2, .int x2)] [] M
  refine zt_iload_n 2 d_Mk_runBegin_0 rfl rfl rfl ?_
  refine zt_mabs d_Mk_runBegin_1 rfl ma_Mk_runBegin_22 (Nat.le_of_ble_eq_true rfl) ?_
  refine zt_istore_n d_Mk_runBegin_4 rfl rfl (by decide) rfl ?_
  refine zt_iconst (v := 0) d_Mk_runBegin_5 rfl (by decide) ?_
  refine zt_istore d_Mk_runBegin_6 rfl (by decide) rfl ?_
  exact zt_sub [2, 3, 4, 1, 0] rfl h
theorem b_Mk_runBegin_8 {Q : Int32 → Mem → Prop} {M : Mem} {a0 n0 : Nat} (t0 : T_Sg zX a0 n0) {x1 : Int32} {x2 : Int32} {x3 : Int32} {x4 : Int32} (h : CallI zX m_Sg_many [.ref a0] M (fun r3 M2 => (r3 ≤ x4 → (Q (-6) M2)) ∧ (¬ r3 ≤ x4 → ((x2 ≤ 0 → (CallI zX m_Sg_many [.ref a0] M2 (fun r12 M11 => wp zX m_Mk_runBegin (QI Q) 35 [(0, .ref a0), (1, .int x1), (2, .int x2), (3, .int x3), (4, .int x4)] [.int ((r12 - 1) - x4)] M11))) ∧ (¬ x2 ≤ 0 → (wp zX m_Mk_runBegin (QI Q) 35 [(0, .ref a0), (1, .int x1), (2, .int x2), (3, .int x3), (4, .int x4)] [.int x4] M2)))))) : wp zX m_Mk_runBegin (QI Q) 8 [(0, .ref a0), (1, .int x1), (2, .int x2), (3, .int x3), (4, .int x4)] [] M := by
  refine zt_iload 4 d_Mk_runBegin_8 rfl rfl ?_
  refine zt_aload_n 0 d_Mk_runBegin_10 rfl rfl rfl ?_
  refine zt_callVI (as := []) d_Mk_runBegin_11 rfl mi_Sg_many ⟨Nat.le_of_ble_eq_true rfl, Nat.le_of_ble_eq_true rfl⟩ wd_359 rfl rfl (Nat.le_of_ble_eq_true rfl) t0.1 h (fun r3 M2 h1 => ?_)
  refine zt_icmp_ge d_Mk_runBegin_14 rfl (tgt := 75) (by decide) ⟨fun c4 => ?_, fun c4 => ?_⟩
  · have h5 := h1.1 c4
    refine zt_bipush (v := -6) d_Mk_runBegin_75 rfl (by decide) ?_
    exact zt_iret rfl d_Mk_runBegin_77 ⟨_, rfl, h5⟩
  · have h6 := h1.2 c4
    refine zt_iload_n 2 d_Mk_runBegin_17 rfl rfl rfl ?_
    refine zt_if_le d_Mk_runBegin_18 rfl (tgt := 26) (by decide) ⟨fun c7 => ?_, fun c7 => ?_⟩
    · have h8 := h6.1 c7
      refine zt_aload_n 0 d_Mk_runBegin_26 rfl rfl rfl ?_
      refine zt_callVI (as := []) d_Mk_runBegin_27 rfl mi_Sg_many ⟨Nat.le_of_ble_eq_true rfl, Nat.le_of_ble_eq_true rfl⟩ wd_359 rfl rfl (Nat.le_of_ble_eq_true rfl) t0.1 h8 (fun r12 M11 h10 => ?_)
      refine zt_iconst (v := 1) d_Mk_runBegin_30 rfl (by decide) ?_
      refine zt_isub d_Mk_runBegin_31 rfl ?_
      refine zt_iload 4 d_Mk_runBegin_32 rfl rfl ?_
      refine zt_isub d_Mk_runBegin_34 rfl ?_
      exact h10
    · have h9 := h6.2 c7
      refine zt_iload 4 d_Mk_runBegin_21 rfl rfl ?_
      refine zt_goto d_Mk_runBegin_23 (tgt := 35) (by decide) ?_
      exact h9
theorem b_Mk_runBegin_35 {Q : Int32 → Mem → Prop} {M : Mem} {a0 n0 : Nat} (t0 : T_Sg zX a0 n0) {x1 : Int32} {x2 : Int32} {x3 : Int32} {x4 : Int32} {xs0 : Int32} (h : CallI zX m_Sg_kindAt [.ref a0, .int xs0] M (fun r3 M2 => (r3 = x1 → (CallI zX m_Sg_kindAt [.ref a0, .int (xs0 - 1)] M2 (fun r9 M8 => (r9 = x1 → (wp zX m_Mk_runBegin (QI Q) 8 [(0, .ref a0), (1, .int x1), (2, .int x2), (3, .int x3), (4, .int (x4 + 1))] [] M8)) ∧ (¬ r9 = x1 → (((x3 + (-1)) = 0 → (Q xs0 M8)) ∧ (¬ (x3 + (-1)) = 0 → (wp zX m_Mk_runBegin (QI Q) 8 [(0, .ref a0), (1, .int x1), (2, .int x2), (3, .int (x3 + (-1))), (4, .int (x4 + 1))] [] M8))))))) ∧ (¬ r3 = x1 → (wp zX m_Mk_runBegin (QI Q) 8 [(0, .ref a0), (1, .int x1), (2, .int x2), (3, .int x3), (4, .int (x4 + 1))] [] M2)))) : wp zX m_Mk_runBegin (QI Q) 35 [(0, .ref a0), (1, .int x1), (2, .int x2), (3, .int x3), (4, .int x4)] [.int xs0] M := by
  refine zt_istore d_Mk_runBegin_35 rfl (by decide) rfl ?_
  refine zt_aload_n 1 d_Mk_runBegin_37 rfl rfl rfl ?_
  refine zt_iload 0 d_Mk_runBegin_38 rfl rfl ?_
  refine zt_callVI (as := [.int xs0]) d_Mk_runBegin_40 rfl mi_Sg_kindAt ⟨Nat.le_of_ble_eq_true rfl, Nat.le_of_ble_eq_true rfl⟩ wd_372 rfl rfl (Nat.le_of_ble_eq_true rfl) t0.1 h (fun r3 M2 h1 => ?_)
  refine zt_iload_n 2 d_Mk_runBegin_43 rfl rfl rfl ?_
  refine zt_icmp_ne d_Mk_runBegin_44 rfl (tgt := 69) (by decide) ⟨fun c4 => ?_, fun c4 => ?_⟩
  · have h5 := h1.1 c4
    refine zt_aload_n 1 d_Mk_runBegin_47 rfl rfl rfl ?_
    refine zt_iload 0 d_Mk_runBegin_48 rfl rfl ?_
    refine zt_iconst (v := 1) d_Mk_runBegin_50 rfl (by decide) ?_
    refine zt_isub d_Mk_runBegin_51 rfl ?_
    refine zt_callVI (as := [.int (xs0 - 1)]) d_Mk_runBegin_52 rfl mi_Sg_kindAt ⟨Nat.le_of_ble_eq_true rfl, Nat.le_of_ble_eq_true rfl⟩ wd_372 rfl rfl (Nat.le_of_ble_eq_true rfl) t0.1 h5 (fun r9 M8 h7 => ?_)
    refine zt_iload_n 2 d_Mk_runBegin_55 rfl rfl rfl ?_
    refine zt_icmp_eq d_Mk_runBegin_56 rfl (tgt := 69) (by decide) ⟨fun c10 => ?_, fun c10 => ?_⟩
    · have h11 := h7.1 c10
      refine zt_iinc (v := (x4 + 1)) 5 d_Mk_runBegin_69 rfl rfl rfl (by decide) rfl ?_
      refine zt_goto d_Mk_runBegin_72 (tgt := 8) (by decide) ?_
      exact zt_sub [2, 3, 4, 5, 0] rfl h11
    · have h12 := h7.2 c10
      refine zt_iinc (v := (x3 + (-1))) 4 d_Mk_runBegin_59 rfl rfl rfl (by decide) rfl ?_
      refine zt_iload_n 0 d_Mk_runBegin_62 rfl rfl rfl ?_
      refine zt_if_ne d_Mk_runBegin_63 rfl (tgt := 69) (by decide) ⟨fun c13 => ?_, fun c13 => ?_⟩
      · have h14 := h12.1 c13
        refine zt_iload 1 d_Mk_runBegin_66 rfl rfl ?_
        exact zt_iret rfl d_Mk_runBegin_68 ⟨_, rfl, h14⟩
      · have h15 := h12.2 c13
        refine zt_iinc (v := (x4 + 1)) 5 d_Mk_runBegin_69 rfl rfl rfl (by decide) rfl ?_
        refine zt_goto d_Mk_runBegin_72 (tgt := 8) (by decide) ?_
        exact zt_sub [3, 4, 5, 1, 0] rfl h15
  · have h6 := h1.2 c4
    refine zt_iinc (v := (x4 + 1)) 5 d_Mk_runBegin_69 rfl rfl rfl (by decide) rfl ?_
    refine zt_goto d_Mk_runBegin_72 (tgt := 8) (by decide) ?_
    exact zt_sub [2, 3, 4, 5, 0] rfl h6
theorem e_Mk_runEnd {Q : Int32 → Mem → Prop} {M : Mem} {a0 n0 : Nat} (t0 : T_Sg zX a0 n0) {x1 : Int32} (h : wp zX m_Mk_runEnd (QI Q) 4 [(0, .ref a0), (1, .int x1), (2, .int (x1 + 1))] [] M) : CallI zX m_Mk_runEnd [.ref a0, .int x1] M Q := by
  refine call_of (by decide) (Nat.le_of_ble_eq_true rfl) ?_
  show wp zX m_Mk_runEnd (QI Q) 0 [(0, .ref a0), (1, .int x1)] [] M
  refine zt_iload_n 1 d_Mk_runEnd_0 rfl rfl rfl ?_
  refine zt_iconst (v := 1) d_Mk_runEnd_1 rfl (by decide) ?_
  refine zt_iadd d_Mk_runEnd_2 rfl ?_
  refine zt_istore_n d_Mk_runEnd_3 rfl rfl (by decide) rfl ?_
  exact zt_sub [1, 2, 0] rfl h
theorem b_Mk_runEnd_4 {Q : Int32 → Mem → Prop} {M : Mem} {a0 n0 : Nat} (t0 : T_Sg zX a0 n0) {x1 : Int32} {x2 : Int32} (h : CallI zX m_Sg_many [.ref a0] M (fun r3 M2 => (r3 ≤ x2 → (Q x2 M2)) ∧ (¬ r3 ≤ x2 → (CallI zX m_Sg_kindAt [.ref a0, .int x2] M2 (fun r9 M8 => CallI zX m_Sg_kindAt [.ref a0, .int x1] M8 (fun r12 M11 => (r9 = r12 → (wp zX m_Mk_runEnd (QI Q) 4 [(0, .ref a0), (1, .int x1), (2, .int (x2 + 1))] [] M11)) ∧ (¬ r9 = r12 → (Q x2 M11)))))))) : wp zX m_Mk_runEnd (QI Q) 4 [(0, .ref a0), (1, .int x1), (2, .int x2)] [] M := by
  refine zt_iload_n 2 d_Mk_runEnd_4 rfl rfl rfl ?_
  refine zt_aload_n 0 d_Mk_runEnd_5 rfl rfl rfl ?_
  refine zt_callVI (as := []) d_Mk_runEnd_6 rfl mi_Sg_many ⟨Nat.le_of_ble_eq_true rfl, Nat.le_of_ble_eq_true rfl⟩ wd_359 rfl rfl (Nat.le_of_ble_eq_true rfl) t0.1 h (fun r3 M2 h1 => ?_)
  refine zt_icmp_ge d_Mk_runEnd_9 rfl (tgt := 31) (by decide) ⟨fun c4 => ?_, fun c4 => ?_⟩
  · have h5 := h1.1 c4
    refine zt_iload_n 2 d_Mk_runEnd_31 rfl rfl rfl ?_
    exact zt_iret rfl d_Mk_runEnd_32 ⟨_, rfl, h5⟩
  · have h6 := h1.2 c4
    refine zt_aload_n 0 d_Mk_runEnd_12 rfl rfl rfl ?_
    refine zt_iload_n 2 d_Mk_runEnd_13 rfl rfl rfl ?_
    refine zt_callVI (as := [.int x2]) d_Mk_runEnd_14 rfl mi_Sg_kindAt ⟨Nat.le_of_ble_eq_true rfl, Nat.le_of_ble_eq_true rfl⟩ wd_372 rfl rfl (Nat.le_of_ble_eq_true rfl) t0.1 h6 (fun r9 M8 h7 => ?_)
    refine zt_aload_n 0 d_Mk_runEnd_17 rfl rfl rfl ?_
    refine zt_iload_n 1 d_Mk_runEnd_18 rfl rfl rfl ?_
    refine zt_callVI (as := [.int x1]) d_Mk_runEnd_19 rfl mi_Sg_kindAt ⟨Nat.le_of_ble_eq_true rfl, Nat.le_of_ble_eq_true rfl⟩ wd_372 rfl rfl (Nat.le_of_ble_eq_true rfl) t0.1 h7 (fun r12 M11 h10 => ?_)
    refine zt_icmp_ne d_Mk_runEnd_22 rfl (tgt := 31) (by decide) ⟨fun c13 => ?_, fun c13 => ?_⟩
    · have h14 := h10.1 c13
      refine zt_iinc (v := (x2 + 1)) 2 d_Mk_runEnd_25 rfl rfl rfl (by decide) rfl ?_
      refine zt_goto d_Mk_runEnd_28 (tgt := 4) (by decide) ?_
      exact zt_sub [1, 2, 0] rfl h14
    · have h15 := h10.2 c13
      refine zt_iload_n 2 d_Mk_runEnd_31 rfl rfl rfl ?_
      exact zt_iret rfl d_Mk_runEnd_32 ⟨_, rfl, h15⟩
theorem e_Mv_many {Q : Int32 → Mem → Prop} {M : Mem}  (h : Q (M.1 52 3) M) : CallI zX m_Mv_many [.ref 52] M Q := by
  refine call_of (by decide) (Nat.le_of_ble_eq_true rfl) ?_
  show wp zX m_Mv_many (QI Q) 0 [(0, .ref 52)] [] M
  refine zt_aload_n 0 d_Mv_many_0 rfl rfl rfl ?_
  refine zt_getI d_Mv_many_1 rfl fl_Mv_23 rfl ?_
  exact zt_iret rfl d_Mv_many_4 ⟨_, rfl, h⟩
theorem e_Mv_clear {Q : Mem → Prop} {M : Mem}  (h : ∀ N1, N1 = uI M 52 3 0 → (Q N1)) : CallV zX m_Mv_clear [.ref 52] M Q := by
  refine call_of (by decide) (Nat.le_of_ble_eq_true rfl) ?_
  show wp zX m_Mv_clear (QV Q) 0 [(0, .ref 52)] [] M
  refine zt_aload_n 0 d_Mv_clear_0 rfl rfl rfl ?_
  refine zt_iconst (v := 0) d_Mv_clear_1 rfl (by decide) ?_
  refine zt_putI d_Mv_clear_2 rfl fl_Mv_23 rfl ?_
  have h2 := h _ rfl
  exact zt_vret rfl d_Mv_clear_5 ⟨rfl, h2⟩
theorem e_Mv_add {Q : Mem → Prop} {M : Mem} {x1 : Int32} {x2 : Int32} {x3 : Int32} (h : (3849 ≤ (M.1 52 3) → (Q M)) ∧ (¬ 3849 ≤ (M.1 52 3) → (vp_in (M.1 52 3) 3849 ∧ (∀ N6, N6 = uI M 53 (M.1 52 3).toNatClampNeg x1 → (vp_in (N6.1 52 3) 3849 ∧ (∀ N9, N9 = uI N6 54 (N6.1 52 3).toNatClampNeg x2 → (vp_in (N9.1 52 3) 3849 ∧ (∀ N12, N12 = uI N9 55 (N9.1 52 3).toNatClampNeg x3 → (∀ N13, N13 = uI N12 52 3 ((N12.1 52 3) + 1) → (Q N13)))))))))) : CallV zX m_Mv_add [.ref 52, .int x1, .int x2, .int x3] M Q := by
  refine call_of (by decide) (Nat.le_of_ble_eq_true rfl) ?_
  show wp zX m_Mv_add (QV Q) 0 [(0, .ref 52), (1, .int x1), (2, .int x2), (3, .int x3)] [] M
  refine zt_aload_n 0 d_Mv_add_0 rfl rfl rfl ?_
  refine zt_getI d_Mv_add_1 rfl fl_Mv_23 rfl ?_
  refine zt_sipush (v := 3849) d_Mv_add_4 rfl (by decide) ?_
  refine zt_icmp_ge d_Mv_add_7 rfl (tgt := 50) (by decide) ⟨fun c1 => ?_, fun c1 => ?_⟩
  · have h2 := h.1 c1
    exact zt_vret rfl d_Mv_add_50 ⟨rfl, h2⟩
  · have h3 := h.2 c1
    refine zt_aload_n 0 d_Mv_add_10 rfl rfl rfl ?_
    refine zt_getR (b := 53) d_Mv_add_11 rfl fl_Mv_13 rfl rfl ?_
    refine zt_aload_n 0 d_Mv_add_14 rfl rfl rfl ?_
    refine zt_getI d_Mv_add_15 rfl fl_Mv_23 rfl ?_
    refine zt_iload_n 1 d_Mv_add_18 rfl rfl rfl ?_
    obtain ⟨g4, h5⟩ := h3
    refine zt_iast d_Mv_add_19 rfl rfl g4 ?_
    have h5 := h5 _ rfl
    refine zt_aload_n 0 d_Mv_add_20 rfl rfl rfl ?_
    refine zt_getR (b := 54) d_Mv_add_21 rfl fl_Mv_17 rfl rfl ?_
    refine zt_aload_n 0 d_Mv_add_24 rfl rfl rfl ?_
    refine zt_getI d_Mv_add_25 rfl fl_Mv_23 rfl ?_
    refine zt_iload_n 2 d_Mv_add_28 rfl rfl rfl ?_
    obtain ⟨g7, h8⟩ := h5
    refine zt_iast d_Mv_add_29 rfl rfl g7 ?_
    have h8 := h8 _ rfl
    refine zt_aload_n 0 d_Mv_add_30 rfl rfl rfl ?_
    refine zt_getR (b := 55) d_Mv_add_31 rfl fl_Mv_20 rfl rfl ?_
    refine zt_aload_n 0 d_Mv_add_34 rfl rfl rfl ?_
    refine zt_getI d_Mv_add_35 rfl fl_Mv_23 rfl ?_
    refine zt_iload_n 3 d_Mv_add_38 rfl rfl rfl ?_
    obtain ⟨g10, h11⟩ := h8
    refine zt_iast d_Mv_add_39 rfl rfl g10 ?_
    have h11 := h11 _ rfl
    refine zt_aload_n 0 d_Mv_add_40 rfl rfl rfl ?_
    refine zt_dup d_Mv_add_41 rfl rfl ?_
    refine zt_getI d_Mv_add_42 rfl fl_Mv_23 rfl ?_
    refine zt_iconst (v := 1) d_Mv_add_45 rfl (by decide) ?_
    refine zt_iadd d_Mv_add_46 rfl ?_
    refine zt_putI d_Mv_add_47 rfl fl_Mv_23 rfl ?_
    have h14 := h11 _ rfl
    exact zt_vret rfl d_Mv_add_50 ⟨rfl, h14⟩
theorem e_Mv_target {Q : Int32 → Mem → Prop} {M : Mem} {x1 : Int32} (h : (x1 < 0 → (Q 0 M)) ∧ (¬ x1 < 0 → ((3849 ≤ x1 → (Q 0 M)) ∧ (¬ 3849 ≤ x1 → (vp_in x1 3849 ∧ (Q (M.1 53 x1.toNatClampNeg) M)))))) : CallI zX m_Mv_target [.ref 52, .int x1] M Q := by
  refine call_of (by decide) (Nat.le_of_ble_eq_true rfl) ?_
  show wp zX m_Mv_target (QI Q) 0 [(0, .ref 52), (1, .int x1)] [] M
  refine zt_iload_n 1 d_Mv_target_0 rfl rfl rfl ?_
  refine zt_if_lt d_Mv_target_1 rfl (tgt := 20) (by decide) ⟨fun c1 => ?_, fun c1 => ?_⟩
  · have h2 := h.1 c1
    refine zt_iconst (v := 0) d_Mv_target_20 rfl (by decide) ?_
    exact zt_iret rfl d_Mv_target_21 ⟨_, rfl, h2⟩
  · have h3 := h.2 c1
    refine zt_iload_n 1 d_Mv_target_4 rfl rfl rfl ?_
    refine zt_sipush (v := 3849) d_Mv_target_5 rfl (by decide) ?_
    refine zt_icmp_ge d_Mv_target_8 rfl (tgt := 20) (by decide) ⟨fun c4 => ?_, fun c4 => ?_⟩
    · have h5 := h3.1 c4
      refine zt_iconst (v := 0) d_Mv_target_20 rfl (by decide) ?_
      exact zt_iret rfl d_Mv_target_21 ⟨_, rfl, h5⟩
    · have h6 := h3.2 c4
      refine zt_aload_n 0 d_Mv_target_11 rfl rfl rfl ?_
      refine zt_getR (b := 53) d_Mv_target_12 rfl fl_Mv_13 rfl rfl ?_
      refine zt_iload_n 1 d_Mv_target_15 rfl rfl rfl ?_
      obtain ⟨g7, h8⟩ := h6
      refine zt_iald d_Mv_target_16 rfl rfl g7 ?_
      refine zt_goto d_Mv_target_17 (tgt := 21) (by decide) ?_
      exact zt_iret rfl d_Mv_target_21 ⟨_, rfl, h8⟩
theorem e_Mv_pieces {Q : Int32 → Mem → Prop} {M : Mem} {x1 : Int32} (h : (x1 < 0 → (Q 0 M)) ∧ (¬ x1 < 0 → ((3849 ≤ x1 → (Q 0 M)) ∧ (¬ 3849 ≤ x1 → (vp_in x1 3849 ∧ (Q (M.1 54 x1.toNatClampNeg) M)))))) : CallI zX m_Mv_pieces [.ref 52, .int x1] M Q := by
  refine call_of (by decide) (Nat.le_of_ble_eq_true rfl) ?_
  show wp zX m_Mv_pieces (QI Q) 0 [(0, .ref 52), (1, .int x1)] [] M
  refine zt_iload_n 1 d_Mv_pieces_0 rfl rfl rfl ?_
  refine zt_if_lt d_Mv_pieces_1 rfl (tgt := 20) (by decide) ⟨fun c1 => ?_, fun c1 => ?_⟩
  · have h2 := h.1 c1
    refine zt_iconst (v := 0) d_Mv_pieces_20 rfl (by decide) ?_
    exact zt_iret rfl d_Mv_pieces_21 ⟨_, rfl, h2⟩
  · have h3 := h.2 c1
    refine zt_iload_n 1 d_Mv_pieces_4 rfl rfl rfl ?_
    refine zt_sipush (v := 3849) d_Mv_pieces_5 rfl (by decide) ?_
    refine zt_icmp_ge d_Mv_pieces_8 rfl (tgt := 20) (by decide) ⟨fun c4 => ?_, fun c4 => ?_⟩
    · have h5 := h3.1 c4
      refine zt_iconst (v := 0) d_Mv_pieces_20 rfl (by decide) ?_
      exact zt_iret rfl d_Mv_pieces_21 ⟨_, rfl, h5⟩
    · have h6 := h3.2 c4
      refine zt_aload_n 0 d_Mv_pieces_11 rfl rfl rfl ?_
      refine zt_getR (b := 54) d_Mv_pieces_12 rfl fl_Mv_17 rfl rfl ?_
      refine zt_iload_n 1 d_Mv_pieces_15 rfl rfl rfl ?_
      obtain ⟨g7, h8⟩ := h6
      refine zt_iald d_Mv_pieces_16 rfl rfl g7 ?_
      refine zt_goto d_Mv_pieces_17 (tgt := 21) (by decide) ?_
      exact zt_iret rfl d_Mv_pieces_21 ⟨_, rfl, h8⟩
theorem e_Mv_price {Q : Int32 → Mem → Prop} {M : Mem} {x1 : Int32} (h : (x1 < 0 → (Q 0 M)) ∧ (¬ x1 < 0 → ((3849 ≤ x1 → (Q 0 M)) ∧ (¬ 3849 ≤ x1 → (vp_in x1 3849 ∧ (Q (M.1 55 x1.toNatClampNeg) M)))))) : CallI zX m_Mv_price [.ref 52, .int x1] M Q := by
  refine call_of (by decide) (Nat.le_of_ble_eq_true rfl) ?_
  show wp zX m_Mv_price (QI Q) 0 [(0, .ref 52), (1, .int x1)] [] M
  refine zt_iload_n 1 d_Mv_price_0 rfl rfl rfl ?_
  refine zt_if_lt d_Mv_price_1 rfl (tgt := 20) (by decide) ⟨fun c1 => ?_, fun c1 => ?_⟩
  · have h2 := h.1 c1
    refine zt_iconst (v := 0) d_Mv_price_20 rfl (by decide) ?_
    exact zt_iret rfl d_Mv_price_21 ⟨_, rfl, h2⟩
  · have h3 := h.2 c1
    refine zt_iload_n 1 d_Mv_price_4 rfl rfl rfl ?_
    refine zt_sipush (v := 3849) d_Mv_price_5 rfl (by decide) ?_
    refine zt_icmp_ge d_Mv_price_8 rfl (tgt := 20) (by decide) ⟨fun c4 => ?_, fun c4 => ?_⟩
    · have h5 := h3.1 c4
      refine zt_iconst (v := 0) d_Mv_price_20 rfl (by decide) ?_
      exact zt_iret rfl d_Mv_price_21 ⟨_, rfl, h5⟩
    · have h6 := h3.2 c4
      refine zt_aload_n 0 d_Mv_price_11 rfl rfl rfl ?_
      refine zt_getR (b := 55) d_Mv_price_12 rfl fl_Mv_20 rfl rfl ?_
      refine zt_iload_n 1 d_Mv_price_15 rfl rfl rfl ?_
      obtain ⟨g7, h8⟩ := h6
      refine zt_iald d_Mv_price_16 rfl rfl g7 ?_
      refine zt_goto d_Mv_price_17 (tgt := 21) (by decide) ?_
      exact zt_iret rfl d_Mv_price_21 ⟨_, rfl, h8⟩
theorem e_Pc_becomeCut {Q : Mem → Prop} {M : Mem} {a0 : Nat} (t0 : T_Pc zX a0) {x1 : Int32} {x2 : Int32} (h : ∀ N1, N1 = uI M a0 1 0 → (∀ N3, N3 = uI N1 a0 2 x1 → (∀ N5, N5 = uI N3 a0 3 x2 → (Q N5)))) : CallV zX m_Pc_becomeCut [.ref a0, .int x1, .int x2] M Q := by
  refine call_of (by decide) (Nat.le_of_ble_eq_true rfl) ?_
  show wp zX m_Pc_becomeCut (QV Q) 0 [(0, .ref a0), (1, .int x1), (2, .int x2)] [] M
  refine zt_aload_n 0 d_Pc_becomeCut_0 rfl rfl rfl ?_
  refine zt_iconst (v := 0) d_Pc_becomeCut_1 rfl (by decide) ?_
  refine zt_putZ d_Pc_becomeCut_2 rfl fl_Pc_20 rfl rfl t0.1 ?_
  have h2 := h _ rfl
  refine zt_aload_n 0 d_Pc_becomeCut_5 rfl rfl rfl ?_
  refine zt_iload_n 1 d_Pc_becomeCut_6 rfl rfl rfl ?_
  refine zt_putI d_Pc_becomeCut_7 rfl fl_Pc_24 t0.1 ?_
  have h4 := h2 _ rfl
  refine zt_aload_n 0 d_Pc_becomeCut_10 rfl rfl rfl ?_
  refine zt_iload_n 2 d_Pc_becomeCut_11 rfl rfl rfl ?_
  refine zt_putI d_Pc_becomeCut_12 rfl fl_Pc_28 t0.1 ?_
  have h6 := h4 _ rfl
  exact zt_vret rfl d_Pc_becomeCut_15 ⟨rfl, h6⟩
theorem e_Pc_becomeText {Q : Mem → Prop} {M : Mem} {a0 : Nat} (t0 : T_Pc zX a0) {a1 n1 : Nat} (t1 : T_Sg zX a1 n1) {x2 : Int32} {x3 : Int32} (h : ∀ N1, N1 = uI M a0 1 1 → (CallV zX m_Sg_clear [.ref (a0 + 1)] N1 (fun M4 => CallV zX m_Sg_addFrom [.ref (a0 + 1), .ref a1, .int x2, .int x3] M4 (fun M7 => Q M7)))) : CallV zX m_Pc_becomeText [.ref a0, .ref a1, .int x2, .int x3] M Q := by
  refine call_of (by decide) (Nat.le_of_ble_eq_true rfl) ?_
  show wp zX m_Pc_becomeText (QV Q) 0 [(0, .ref a0), (1, .ref a1), (2, .int x2), (3, .int x3)] [] M
  refine zt_aload_n 0 d_Pc_becomeText_0 rfl rfl rfl ?_
  refine zt_iconst (v := 1) d_Pc_becomeText_1 rfl (by decide) ?_
  refine zt_putZ d_Pc_becomeText_2 rfl fl_Pc_20 rfl rfl t0.1 ?_
  have h2 := h _ rfl
  refine zt_aload_n 0 d_Pc_becomeText_5 rfl rfl rfl ?_
  refine zt_getR (b := a0 + 1) d_Pc_becomeText_6 rfl fl_Pc_14 rfl t0.1 ?_
  refine zt_callVV (as := []) d_Pc_becomeText_9 rfl mi_Sg_clear ⟨Nat.le_of_ble_eq_true rfl, Nat.le_of_ble_eq_true rfl⟩ wd_539 rfl rfl (Nat.le_of_ble_eq_true rfl) t0.2.1 h2 (fun M4 h3 => ?_)
  refine zt_aload_n 0 d_Pc_becomeText_12 rfl rfl rfl ?_
  refine zt_getR (b := a0 + 1) d_Pc_becomeText_13 rfl fl_Pc_14 rfl t0.1 ?_
  refine zt_aload_n 1 d_Pc_becomeText_16 rfl rfl rfl ?_
  refine zt_iload_n 2 d_Pc_becomeText_17 rfl rfl rfl ?_
  refine zt_iload_n 3 d_Pc_becomeText_18 rfl rfl rfl ?_
  refine zt_callVV (as := [.ref a1, .int x2, .int x3]) d_Pc_becomeText_19 rfl mi_Sg_addFrom ⟨Nat.le_of_ble_eq_true rfl, Nat.le_of_ble_eq_true rfl⟩ wd_540 rfl rfl (Nat.le_of_ble_eq_true rfl) t0.2.1 h3 (fun M7 h6 => ?_)
  exact zt_vret rfl d_Pc_becomeText_22 ⟨rfl, h6⟩
theorem e_Pc_price {Q : Int32 → Mem → Prop} {M : Mem} {a0 : Nat} (t0 : T_Pc zX a0) (h : ((M.1 a0 1) = 0 → (CallI zX m_Mk_price [.int (M.1 a0 2)] M (fun r6 M5 => CallI zX m_Mk_price [.int (M5.1 a0 3)] M5 (fun r9 M8 => CallI zX m_Pc_cutPrice [.int r6, .int r9] M8 (fun r12 M11 => Q r12 M11))))) ∧ (¬ (M.1 a0 1) = 0 → (CallI zX m_Sg_many [.ref (a0 + 1)] M (fun r15 M14 => CallI zX m_Pc_textPrice [.int r15] M14 (fun r18 M17 => Q r18 M17))))) : CallI zX m_Pc_price [.ref a0] M Q := by
  refine call_of (by decide) (Nat.le_of_ble_eq_true rfl) ?_
  show wp zX m_Pc_price (QI Q) 0 [(0, .ref a0)] [] M
  refine zt_aload_n 0 d_Pc_price_0 rfl rfl rfl ?_
  refine zt_getI d_Pc_price_1 rfl fl_Pc_20 t0.1 ?_
  refine zt_if_eq d_Pc_price_4 rfl (tgt := 20) (by decide) ⟨fun c1 => ?_, fun c1 => ?_⟩
  · have h2 := h.1 c1
    refine zt_aload_n 0 d_Pc_price_20 rfl rfl rfl ?_
    refine zt_getI d_Pc_price_21 rfl fl_Pc_24 t0.1 ?_
    refine zt_callSI (as := [.int (M.1 a0 2)]) d_Pc_price_24 rfl ms_Mk_price ⟨Nat.le_of_ble_eq_true rfl, Nat.le_of_ble_eq_true rfl⟩ wd_559 rfl rfl (Nat.le_of_ble_eq_true rfl) h2 (fun r6 M5 h4 => ?_)
    refine zt_aload_n 0 d_Pc_price_27 rfl rfl rfl ?_
    refine zt_getI d_Pc_price_28 rfl fl_Pc_28 t0.1 ?_
    refine zt_callSI (as := [.int (M5.1 a0 3)]) d_Pc_price_31 rfl ms_Mk_price ⟨Nat.le_of_ble_eq_true rfl, Nat.le_of_ble_eq_true rfl⟩ wd_559 rfl rfl (Nat.le_of_ble_eq_true rfl) h4 (fun r9 M8 h7 => ?_)
    refine zt_callSI (as := [.int r6, .int r9]) d_Pc_price_34 rfl ms_Pc_cutPrice ⟨Nat.le_of_ble_eq_true rfl, Nat.le_of_ble_eq_true rfl⟩ wd_560 rfl rfl (Nat.le_of_ble_eq_true rfl) h7 (fun r12 M11 h10 => ?_)
    exact zt_iret rfl d_Pc_price_37 ⟨_, rfl, h10⟩
  · have h3 := h.2 c1
    refine zt_aload_n 0 d_Pc_price_7 rfl rfl rfl ?_
    refine zt_getR (b := a0 + 1) d_Pc_price_8 rfl fl_Pc_14 rfl t0.1 ?_
    refine zt_callVI (as := []) d_Pc_price_11 rfl mi_Sg_many ⟨Nat.le_of_ble_eq_true rfl, Nat.le_of_ble_eq_true rfl⟩ wd_557 rfl rfl (Nat.le_of_ble_eq_true rfl) t0.2.1 h3 (fun r15 M14 h13 => ?_)
    refine zt_callSI (as := [.int r15]) d_Pc_price_14 rfl ms_Pc_textPrice ⟨Nat.le_of_ble_eq_true rfl, Nat.le_of_ble_eq_true rfl⟩ wd_558 rfl rfl (Nat.le_of_ble_eq_true rfl) h13 (fun r18 M17 h16 => ?_)
    refine zt_goto d_Pc_price_17 (tgt := 37) (by decide) ?_
    exact zt_iret rfl d_Pc_price_37 ⟨_, rfl, h16⟩
theorem e_Pc_textPrice {Q : Int32 → Mem → Prop} {M : Mem} {x0 : Int32} (h : Q ((2 * x0) + 2) M) : CallI zX m_Pc_textPrice [.int x0] M Q := by
  refine call_of (by decide) (Nat.le_of_ble_eq_true rfl) ?_
  show wp zX m_Pc_textPrice (QI Q) 0 [(0, .int x0)] [] M
  refine zt_iconst (v := 2) d_Pc_textPrice_0 rfl (by decide) ?_
  refine zt_iload_n 0 d_Pc_textPrice_1 rfl rfl rfl ?_
  refine zt_imul d_Pc_textPrice_2 rfl ?_
  refine zt_iconst (v := 2) d_Pc_textPrice_3 rfl (by decide) ?_
  refine zt_iadd d_Pc_textPrice_4 rfl ?_
  exact zt_iret rfl d_Pc_textPrice_5 ⟨_, rfl, h⟩
theorem e_Pc_cutPrice {Q : Int32 → Mem → Prop} {M : Mem} {x0 : Int32} {x1 : Int32} (h : Q ((x0 + x1) + 1) M) : CallI zX m_Pc_cutPrice [.int x0, .int x1] M Q := by
  refine call_of (by decide) (Nat.le_of_ble_eq_true rfl) ?_
  show wp zX m_Pc_cutPrice (QI Q) 0 [(0, .int x0), (1, .int x1)] [] M
  refine zt_iload_n 0 d_Pc_cutPrice_0 rfl rfl rfl ?_
  refine zt_iload_n 1 d_Pc_cutPrice_1 rfl rfl rfl ?_
  refine zt_iadd d_Pc_cutPrice_2 rfl ?_
  refine zt_iconst (v := 1) d_Pc_cutPrice_3 rfl (by decide) ?_
  refine zt_iadd d_Pc_cutPrice_4 rfl ?_
  exact zt_iret rfl d_Pc_cutPrice_5 ⟨_, rfl, h⟩
theorem e_Pc_tells {Q : Int32 → Mem → Prop} {M : Mem} {a0 : Nat} (t0 : T_Pc zX a0) {x1 : Int32} (h : (x1 = 0 → (((M.1 a0 1) = 0 → (Q 0 M)) ∧ (¬ (M.1 a0 1) = 0 → (Q 1 M)))) ∧ (¬ x1 = 0 → (((M.1 a0 1) = 0 → ((x1 = 1 → (CallI zX m_Mk_code [.int (M.1 a0 2)] M (fun r15 M14 => Q r15 M14))) ∧ (¬ x1 = 1 → (CallI zX m_Mk_code [.int (M.1 a0 3)] M (fun r18 M17 => Q r18 M17))))) ∧ (¬ (M.1 a0 1) = 0 → ((x1 = 1 → (CallI zX m_Sg_many [.ref (a0 + 1)] M (fun r24 M23 => Q r24 M23))) ∧ (¬ x1 = 1 → (CallI zX m_Sg_at [.ref (a0 + 1), .int 0] M (fun r27 M26 => Q r27 M26)))))))) : CallI zX m_Pc_tells [.ref a0, .int x1] M Q := by
  refine call_of (by decide) (Nat.le_of_ble_eq_true rfl) ?_
  show wp zX m_Pc_tells (QI Q) 0 [(0, .ref a0), (1, .int x1)] [] M
  refine zt_iload_n 1 d_Pc_tells_0 rfl rfl rfl ?_
  refine zt_if_ne d_Pc_tells_1 rfl (tgt := 17) (by decide) ⟨fun c1 => ?_, fun c1 => ?_⟩
  · have h2 := h.1 c1
    refine zt_aload_n 0 d_Pc_tells_4 rfl rfl rfl ?_
    refine zt_getI d_Pc_tells_5 rfl fl_Pc_20 t0.1 ?_
    refine zt_if_eq d_Pc_tells_8 rfl (tgt := 15) (by decide) ⟨fun c4 => ?_, fun c4 => ?_⟩
    · have h5 := h2.1 c4
      refine zt_iconst (v := 0) d_Pc_tells_15 rfl (by decide) ?_
      exact zt_iret rfl d_Pc_tells_16 ⟨_, rfl, h5⟩
    · have h6 := h2.2 c4
      refine zt_iconst (v := 1) d_Pc_tells_11 rfl (by decide) ?_
      refine zt_goto d_Pc_tells_12 (tgt := 16) (by decide) ?_
      exact zt_iret rfl d_Pc_tells_16 ⟨_, rfl, h6⟩
  · have h3 := h.2 c1
    refine zt_aload_n 0 d_Pc_tells_17 rfl rfl rfl ?_
    refine zt_getI d_Pc_tells_18 rfl fl_Pc_20 t0.1 ?_
    refine zt_if_eq d_Pc_tells_21 rfl (tgt := 48) (by decide) ⟨fun c7 => ?_, fun c7 => ?_⟩
    · have h8 := h3.1 c7
      refine zt_iload_n 1 d_Pc_tells_48 rfl rfl rfl ?_
      refine zt_iconst (v := 1) d_Pc_tells_49 rfl (by decide) ?_
      refine zt_icmp_ne d_Pc_tells_50 rfl (tgt := 60) (by decide) ⟨fun c10 => ?_, fun c10 => ?_⟩
      · have h11 := h8.1 c10
        refine zt_aload_n 0 d_Pc_tells_53 rfl rfl rfl ?_
        refine zt_getI d_Pc_tells_54 rfl fl_Pc_24 t0.1 ?_
        refine zt_goto d_Pc_tells_57 (tgt := 64) (by decide) ?_
        refine zt_callSI (as := [.int (M.1 a0 2)]) d_Pc_tells_64 rfl ms_Mk_code ⟨Nat.le_of_ble_eq_true rfl, Nat.le_of_ble_eq_true rfl⟩ wd_572 rfl rfl (Nat.le_of_ble_eq_true rfl) h11 (fun r15 M14 h13 => ?_)
        exact zt_iret rfl d_Pc_tells_67 ⟨_, rfl, h13⟩
      · have h12 := h8.2 c10
        refine zt_aload_n 0 d_Pc_tells_60 rfl rfl rfl ?_
        refine zt_getI d_Pc_tells_61 rfl fl_Pc_28 t0.1 ?_
        refine zt_callSI (as := [.int (M.1 a0 3)]) d_Pc_tells_64 rfl ms_Mk_code ⟨Nat.le_of_ble_eq_true rfl, Nat.le_of_ble_eq_true rfl⟩ wd_572 rfl rfl (Nat.le_of_ble_eq_true rfl) h12 (fun r18 M17 h16 => ?_)
        exact zt_iret rfl d_Pc_tells_67 ⟨_, rfl, h16⟩
    · have h9 := h3.2 c7
      refine zt_iload_n 1 d_Pc_tells_24 rfl rfl rfl ?_
      refine zt_iconst (v := 1) d_Pc_tells_25 rfl (by decide) ?_
      refine zt_icmp_ne d_Pc_tells_26 rfl (tgt := 39) (by decide) ⟨fun c19 => ?_, fun c19 => ?_⟩
      · have h20 := h9.1 c19
        refine zt_aload_n 0 d_Pc_tells_29 rfl rfl rfl ?_
        refine zt_getR (b := a0 + 1) d_Pc_tells_30 rfl fl_Pc_14 rfl t0.1 ?_
        refine zt_callVI (as := []) d_Pc_tells_33 rfl mi_Sg_many ⟨Nat.le_of_ble_eq_true rfl, Nat.le_of_ble_eq_true rfl⟩ wd_557 rfl rfl (Nat.le_of_ble_eq_true rfl) t0.2.1 h20 (fun r24 M23 h22 => ?_)
        refine zt_goto d_Pc_tells_36 (tgt := 47) (by decide) ?_
        exact zt_iret rfl d_Pc_tells_47 ⟨_, rfl, h22⟩
      · have h21 := h9.2 c19
        refine zt_aload_n 0 d_Pc_tells_39 rfl rfl rfl ?_
        refine zt_getR (b := a0 + 1) d_Pc_tells_40 rfl fl_Pc_14 rfl t0.1 ?_
        refine zt_iconst (v := 0) d_Pc_tells_43 rfl (by decide) ?_
        refine zt_callVI (as := [.int 0]) d_Pc_tells_44 rfl mi_Sg_at ⟨Nat.le_of_ble_eq_true rfl, Nat.le_of_ble_eq_true rfl⟩ wd_571 rfl rfl (Nat.le_of_ble_eq_true rfl) t0.2.1 h21 (fun r27 M26 h25 => ?_)
        exact zt_iret rfl d_Pc_tells_47 ⟨_, rfl, h25⟩
theorem e_Pc_addTo {Q : Int32 → Mem → Prop} {M : Mem} {a0 : Nat} (t0 : T_Pc zX a0) {a1 n1 : Nat} (t1 : T_Sg zX a1 n1) {a2 n2 : Nat} (t2 : T_Sg zX a2 n2) (h : ((M.1 a0 1) = 0 → (CallI zX m_Mk_placeIn [.ref a2, .int (M.1 a0 2)] M (fun r6 M5 => CallI zX m_Mk_placeIn [.ref a2, .int (M5.1 a0 3)] M5 (fun r9 M8 => (r6 = (-6) → (Q 0 M8)) ∧ (¬ r6 = (-6) → ((r9 = (-6) → (Q 0 M8)) ∧ (¬ r9 = (-6) → ((r6 < r9 → (CallV zX m_Sg_addFrom [.ref a1, .ref a2, .int r6, .int r9] M8 (fun M20 => Q 1 M20))) ∧ (¬ r6 < r9 → (Q 0 M8)))))))))) ∧ (¬ (M.1 a0 1) = 0 → (CallI zX m_Sg_many [.ref (a0 + 1)] M (fun r24 M23 => CallV zX m_Sg_addFrom [.ref a1, .ref (a0 + 1), .int 0, .int r24] M23 (fun M26 => Q 1 M26))))) : CallI zX m_Pc_addTo [.ref a0, .ref a1, .ref a2] M Q := by
  refine call_of (by decide) (Nat.le_of_ble_eq_true rfl) ?_
  show wp zX m_Pc_addTo (QI Q) 0 [(0, .ref a0), (1, .ref a1), (2, .ref a2)] [] M
  refine zt_aload_n 0 d_Pc_addTo_0 rfl rfl rfl ?_
  refine zt_getI d_Pc_addTo_1 rfl fl_Pc_20 t0.1 ?_
  refine zt_if_eq d_Pc_addTo_4 rfl (tgt := 25) (by decide) ⟨fun c1 => ?_, fun c1 => ?_⟩
  · have h2 := h.1 c1
    refine zt_aload_n 2 d_Pc_addTo_25 rfl rfl rfl ?_
    refine zt_aload_n 0 d_Pc_addTo_26 rfl rfl rfl ?_
    refine zt_getI d_Pc_addTo_27 rfl fl_Pc_24 t0.1 ?_
    refine zt_callSI (as := [.ref a2, .int (M.1 a0 2)]) d_Pc_addTo_30 rfl ms_Mk_placeIn ⟨Nat.le_of_ble_eq_true rfl, Nat.le_of_ble_eq_true rfl⟩ wd_599 rfl rfl (Nat.le_of_ble_eq_true rfl) h2 (fun r6 M5 h4 => ?_)
    refine zt_istore_n d_Pc_addTo_33 rfl rfl (by decide) rfl ?_
    refine zt_aload_n 3 d_Pc_addTo_34 rfl rfl rfl ?_
    refine zt_aload_n 1 d_Pc_addTo_35 rfl rfl rfl ?_
    refine zt_getI d_Pc_addTo_36 rfl fl_Pc_28 t0.1 ?_
    refine zt_callSI (as := [.ref a2, .int (M5.1 a0 3)]) d_Pc_addTo_39 rfl ms_Mk_placeIn ⟨Nat.le_of_ble_eq_true rfl, Nat.le_of_ble_eq_true rfl⟩ wd_599 rfl rfl (Nat.le_of_ble_eq_true rfl) h4 (fun r9 M8 h7 => ?_)
    refine zt_istore d_Pc_addTo_42 rfl (by decide) rfl ?_
    refine zt_iload_n 1 d_Pc_addTo_44 rfl rfl rfl ?_
    refine zt_bipush (v := -6) d_Pc_addTo_45 rfl (by decide) ?_
    refine zt_icmp_eq d_Pc_addTo_47 rfl (tgt := 63) (by decide) ⟨fun c10 => ?_, fun c10 => ?_⟩
    · have h11 := h7.1 c10
      refine zt_iconst (v := 0) d_Pc_addTo_63 rfl (by decide) ?_
      exact zt_zret rfl d_Pc_addTo_64 rfl ⟨_, rfl, h11⟩
    · have h12 := h7.2 c10
      refine zt_iload 0 d_Pc_addTo_50 rfl rfl ?_
      refine zt_bipush (v := -6) d_Pc_addTo_52 rfl (by decide) ?_
      refine zt_icmp_eq d_Pc_addTo_54 rfl (tgt := 63) (by decide) ⟨fun c13 => ?_, fun c13 => ?_⟩
      · have h14 := h12.1 c13
        refine zt_iconst (v := 0) d_Pc_addTo_63 rfl (by decide) ?_
        exact zt_zret rfl d_Pc_addTo_64 rfl ⟨_, rfl, h14⟩
      · have h15 := h12.2 c13
        refine zt_iload_n 1 d_Pc_addTo_57 rfl rfl rfl ?_
        refine zt_iload 0 d_Pc_addTo_58 rfl rfl ?_
        refine zt_icmp_lt d_Pc_addTo_60 rfl (tgt := 65) (by decide) ⟨fun c16 => ?_, fun c16 => ?_⟩
        · have h17 := h15.1 c16
          refine zt_aload_n 3 d_Pc_addTo_65 rfl rfl rfl ?_
          refine zt_aload_n 4 d_Pc_addTo_66 rfl rfl rfl ?_
          refine zt_iload_n 1 d_Pc_addTo_67 rfl rfl rfl ?_
          refine zt_iload 0 d_Pc_addTo_68 rfl rfl ?_
          refine zt_callVV (as := [.ref a2, .int r6, .int r9]) d_Pc_addTo_70 rfl mi_Sg_addFrom ⟨Nat.le_of_ble_eq_true rfl, Nat.le_of_ble_eq_true rfl⟩ wd_540 rfl rfl (Nat.le_of_ble_eq_true rfl) t1.1 h17 (fun M20 h19 => ?_)
          refine zt_iconst (v := 1) d_Pc_addTo_73 rfl (by decide) ?_
          exact zt_zret rfl d_Pc_addTo_74 rfl ⟨_, rfl, h19⟩
        · have h18 := h15.2 c16
          refine zt_iconst (v := 0) d_Pc_addTo_63 rfl (by decide) ?_
          exact zt_zret rfl d_Pc_addTo_64 rfl ⟨_, rfl, h18⟩
  · have h3 := h.2 c1
    refine zt_aload_n 1 d_Pc_addTo_7 rfl rfl rfl ?_
    refine zt_aload_n 0 d_Pc_addTo_8 rfl rfl rfl ?_
    refine zt_getR (b := a0 + 1) d_Pc_addTo_9 rfl fl_Pc_14 rfl t0.1 ?_
    refine zt_iconst (v := 0) d_Pc_addTo_12 rfl (by decide) ?_
    refine zt_aload_n 0 d_Pc_addTo_13 rfl rfl rfl ?_
    refine zt_getR (b := a0 + 1) d_Pc_addTo_14 rfl fl_Pc_14 rfl t0.1 ?_
    refine zt_callVI (as := []) d_Pc_addTo_17 rfl mi_Sg_many ⟨Nat.le_of_ble_eq_true rfl, Nat.le_of_ble_eq_true rfl⟩ wd_557 rfl rfl (Nat.le_of_ble_eq_true rfl) t0.2.1 h3 (fun r24 M23 h22 => ?_)
    refine zt_callVV (as := [.ref (a0 + 1), .int 0, .int r24]) d_Pc_addTo_20 rfl mi_Sg_addFrom ⟨Nat.le_of_ble_eq_true rfl, Nat.le_of_ble_eq_true rfl⟩ wd_540 rfl rfl (Nat.le_of_ble_eq_true rfl) t1.1 h22 (fun M26 h25 => ?_)
    refine zt_iconst (v := 1) d_Pc_addTo_23 rfl (by decide) ?_
    exact zt_zret rfl d_Pc_addTo_24 rfl ⟨_, rfl, h25⟩
theorem e_Pl_many {Q : Int32 → Mem → Prop} {M : Mem}  (h : Q (M.1 134 1) M) : CallI zX m_Pl_many [.ref 134] M Q := by
  refine call_of (by decide) (Nat.le_of_ble_eq_true rfl) ?_
  show wp zX m_Pl_many (QI Q) 0 [(0, .ref 134)] [] M
  refine zt_aload_n 0 d_Pl_many_0 rfl rfl rfl ?_
  refine zt_getI d_Pl_many_1 rfl fl_Pl_18 rfl ?_
  exact zt_iret rfl d_Pl_many_4 ⟨_, rfl, h⟩
theorem e_Pl_clear {Q : Mem → Prop} {M : Mem}  (h : ∀ N1, N1 = uI M 134 1 0 → (Q N1)) : CallV zX m_Pl_clear [.ref 134] M Q := by
  refine call_of (by decide) (Nat.le_of_ble_eq_true rfl) ?_
  show wp zX m_Pl_clear (QV Q) 0 [(0, .ref 134)] [] M
  refine zt_aload_n 0 d_Pl_clear_0 rfl rfl rfl ?_
  refine zt_iconst (v := 0) d_Pl_clear_1 rfl (by decide) ?_
  refine zt_putI d_Pl_clear_2 rfl fl_Pl_18 rfl ?_
  have h2 := h _ rfl
  exact zt_vret rfl d_Pl_clear_5 ⟨rfl, h2⟩
theorem e_Pl_at {Q : Nat → Mem → Prop} {M : Mem} {x1 : Int32} (h : (x1 < 0 → (vp_in 0 5 ∧ (Q (135 + 1 + 4 * (0 : Int32).toNatClampNeg) M))) ∧ (¬ x1 < 0 → ((5 ≤ x1 → (vp_in 0 5 ∧ (Q (135 + 1 + 4 * (0 : Int32).toNatClampNeg) M))) ∧ (¬ 5 ≤ x1 → (vp_in x1 5 ∧ (Q (135 + 1 + 4 * x1.toNatClampNeg) M)))))) : CallR zX m_Pl_at [.ref 134, .int x1] M Q := by
  refine call_of (by decide) (Nat.le_of_ble_eq_true rfl) ?_
  show wp zX m_Pl_at (QR Q) 0 [(0, .ref 134), (1, .int x1)] [] M
  refine zt_aload_n 0 d_Pl_at_0 rfl rfl rfl ?_
  refine zt_getR (b := 135) d_Pl_at_1 rfl fl_Pl_11 rfl rfl ?_
  refine zt_iload_n 1 d_Pl_at_4 rfl rfl rfl ?_
  refine zt_if_lt d_Pl_at_5 rfl (tgt := 17) (by decide) ⟨fun c1 => ?_, fun c1 => ?_⟩
  · have h2 := h.1 c1
    refine zt_iconst (v := 0) d_Pl_at_17 rfl (by decide) ?_
    obtain ⟨g4, h5⟩ := h2
    refine zt_aald (b := 135 + 1 + 4 * (0 : Int32).toNatClampNeg) d_Pl_at_18 rfl (fun _ => rfl) rfl (by decide) (by decide) rfl g4 rfl ?_
    exact zt_aret rfl (Or.inl ⟨_, rfl⟩) d_Pl_at_19 ⟨_, rfl, h5⟩
  · have h3 := h.2 c1
    refine zt_iload_n 1 d_Pl_at_8 rfl rfl rfl ?_
    refine zt_iconst (v := 5) d_Pl_at_9 rfl (by decide) ?_
    refine zt_icmp_ge d_Pl_at_10 rfl (tgt := 17) (by decide) ⟨fun c6 => ?_, fun c6 => ?_⟩
    · have h7 := h3.1 c6
      refine zt_iconst (v := 0) d_Pl_at_17 rfl (by decide) ?_
      obtain ⟨g9, h10⟩ := h7
      refine zt_aald (b := 135 + 1 + 4 * (0 : Int32).toNatClampNeg) d_Pl_at_18 rfl (fun _ => rfl) rfl (by decide) (by decide) rfl g9 rfl ?_
      exact zt_aret rfl (Or.inl ⟨_, rfl⟩) d_Pl_at_19 ⟨_, rfl, h10⟩
    · have h8 := h3.2 c6
      refine zt_iload_n 1 d_Pl_at_13 rfl rfl rfl ?_
      refine zt_goto d_Pl_at_14 (tgt := 18) (by decide) ?_
      obtain ⟨g11, h12⟩ := h8
      refine zt_aald (b := 135 + 1 + 4 * x1.toNatClampNeg) d_Pl_at_18 rfl (fun _ => rfl) rfl (by decide) (by decide) rfl g11 rfl ?_
      exact zt_aret rfl (Or.inl ⟨_, rfl⟩) d_Pl_at_19 ⟨_, rfl, h12⟩
theorem e_Pl_next {Q : Nat → Mem → Prop} {M : Mem}  (h : CallR zX m_Pl_at [.ref 134, .int (M.1 134 1)] M (fun r3 M2 => T_Pc zX r3 ∧ ((5 ≤ (M2.1 134 1) → (Q r3 M2)) ∧ (¬ 5 ≤ (M2.1 134 1) → (∀ N8, N8 = uI M2 134 1 ((M2.1 134 1) + 1) → (Q r3 N8)))))) : CallR zX m_Pl_next [.ref 134] M Q := by
  refine call_of (by decide) (Nat.le_of_ble_eq_true rfl) ?_
  show wp zX m_Pl_next (QR Q) 0 [(0, .ref 134)] [] M
  refine zt_aload_n 0 d_Pl_next_0 rfl rfl rfl ?_
  refine zt_aload_n 0 d_Pl_next_1 rfl rfl rfl ?_
  refine zt_getI d_Pl_next_2 rfl fl_Pl_18 rfl ?_
  refine zt_callVR (as := [.int (M.1 134 1)]) d_Pl_next_5 rfl mi_Pl_at ⟨Nat.le_of_ble_eq_true rfl, Nat.le_of_ble_eq_true rfl⟩ wd_523 rfl rfl (Nat.le_of_ble_eq_true rfl) rfl h (fun r3 M2 h1 => ?_)
  obtain ⟨t4, h1⟩ := h1
  refine zt_astore_n d_Pl_next_8 rfl rfl (by decide) rfl ?_
  refine zt_aload_n 1 d_Pl_next_9 rfl rfl rfl ?_
  refine zt_getI d_Pl_next_10 rfl fl_Pl_18 rfl ?_
  refine zt_iconst (v := 5) d_Pl_next_13 rfl (by decide) ?_
  refine zt_icmp_ge d_Pl_next_14 rfl (tgt := 27) (by decide) ⟨fun c5 => ?_, fun c5 => ?_⟩
  · have h6 := h1.1 c5
    refine zt_aload_n 0 d_Pl_next_27 rfl rfl rfl ?_
    exact zt_aret rfl (Or.inl ⟨_, rfl⟩) d_Pl_next_28 ⟨_, rfl, h6⟩
  · have h7 := h1.2 c5
    refine zt_aload_n 1 d_Pl_next_17 rfl rfl rfl ?_
    refine zt_dup d_Pl_next_18 rfl rfl ?_
    refine zt_getI d_Pl_next_19 rfl fl_Pl_18 rfl ?_
    refine zt_iconst (v := 1) d_Pl_next_22 rfl (by decide) ?_
    refine zt_iadd d_Pl_next_23 rfl ?_
    refine zt_putI d_Pl_next_24 rfl fl_Pl_18 rfl ?_
    have h9 := h7 _ rfl
    refine zt_aload_n 0 d_Pl_next_27 rfl rfl rfl ?_
    exact zt_aret rfl (Or.inl ⟨_, rfl⟩) d_Pl_next_28 ⟨_, rfl, h9⟩
theorem e_Pl_price {Q : Int32 → Mem → Prop} {M : Mem}  (h : wp zX m_Pl_price (QI Q) 4 [(0, .ref 134), (1, .int 0), (2, .int 0)] [] M) : CallI zX m_Pl_price [.ref 134] M Q := by
  refine call_of (by decide) (Nat.le_of_ble_eq_true rfl) ?_
  show wp zX m_Pl_price (QI Q) 0 [(0, .ref 134)] [] M
  refine zt_iconst (v := 0) d_Pl_price_0 rfl (by decide) ?_
  refine zt_istore_n d_Pl_price_1 rfl rfl (by decide) rfl ?_
  refine zt_iconst (v := 0) d_Pl_price_2 rfl (by decide) ?_
  refine zt_istore_n d_Pl_price_3 rfl rfl (by decide) rfl ?_
  exact zt_sub [2, 1, 0] rfl h
theorem b_Pl_price_4 {Q : Int32 → Mem → Prop} {M : Mem} {x1 : Int32} {x2 : Int32} (h : ((M.1 134 1) ≤ x2 → (Q x1 M)) ∧ (¬ (M.1 134 1) ≤ x2 → (CallR zX m_Pl_at [.ref 134, .int x2] M (fun r6 M5 => T_Pc zX r6 ∧ (CallI zX m_Pc_price [.ref r6] M5 (fun r10 M9 => wp zX m_Pl_price (QI Q) 4 [(0, .ref 134), (1, .int (x1 + r10)), (2, .int (x2 + 1))] [] M9)))))) : wp zX m_Pl_price (QI Q) 4 [(0, .ref 134), (1, .int x1), (2, .int x2)] [] M := by
  refine zt_iload_n 2 d_Pl_price_4 rfl rfl rfl ?_
  refine zt_aload_n 0 d_Pl_price_5 rfl rfl rfl ?_
  refine zt_getI d_Pl_price_6 rfl fl_Pl_18 rfl ?_
  refine zt_icmp_ge d_Pl_price_9 rfl (tgt := 29) (by decide) ⟨fun c1 => ?_, fun c1 => ?_⟩
  · have h2 := h.1 c1
    refine zt_iload_n 1 d_Pl_price_29 rfl rfl rfl ?_
    exact zt_iret rfl d_Pl_price_30 ⟨_, rfl, h2⟩
  · have h3 := h.2 c1
    refine zt_iload_n 1 d_Pl_price_12 rfl rfl rfl ?_
    refine zt_aload_n 0 d_Pl_price_13 rfl rfl rfl ?_
    refine zt_iload_n 2 d_Pl_price_14 rfl rfl rfl ?_
    refine zt_callVR (as := [.int x2]) d_Pl_price_15 rfl mi_Pl_at ⟨Nat.le_of_ble_eq_true rfl, Nat.le_of_ble_eq_true rfl⟩ wd_523 rfl rfl (Nat.le_of_ble_eq_true rfl) rfl h3 (fun r6 M5 h4 => ?_)
    obtain ⟨t7, h4⟩ := h4
    refine zt_callVI (as := []) d_Pl_price_18 rfl mi_Pc_price ⟨Nat.le_of_ble_eq_true rfl, Nat.le_of_ble_eq_true rfl⟩ wd_553 rfl rfl (Nat.le_of_ble_eq_true rfl) t7.1 h4 (fun r10 M9 h8 => ?_)
    refine zt_iadd d_Pl_price_21 rfl ?_
    refine zt_istore_n d_Pl_price_22 rfl rfl (by decide) rfl ?_
    refine zt_iinc (v := (x2 + 1)) 2 d_Pl_price_23 rfl rfl rfl (by decide) rfl ?_
    refine zt_goto d_Pl_price_26 (tgt := 4) (by decide) ?_
    exact zt_sub [2, 1, 0] rfl h8
theorem e_Pl_applyTo {Q : Mem → Prop} {M : Mem} {a1 n1 : Nat} (t1 : T_Sg zX a1 n1) {a2 n2 : Nat} (t2 : T_Sg zX a2 n2) (h : CallV zX m_Sg_clear [.ref a2] M (fun M2 => wp zX m_Pl_applyTo (QV Q) 6 [(0, .ref 134), (1, .ref a1), (2, .ref a2), (3, .int 0)] [] M2)) : CallV zX m_Pl_applyTo [.ref 134, .ref a1, .ref a2] M Q := by
  refine call_of (by decide) (Nat.le_of_ble_eq_true rfl) ?_
  show wp zX m_Pl_applyTo (QV Q) 0 [(0, .ref 134), (1, .ref a1), (2, .ref a2)] [] M
  refine zt_aload_n 2 d_Pl_applyTo_0 rfl rfl rfl ?_
  refine zt_callVV (as := []) d_Pl_applyTo_1 rfl mi_Sg_clear ⟨Nat.le_of_ble_eq_true rfl, Nat.le_of_ble_eq_true rfl⟩ wd_594 rfl rfl (Nat.le_of_ble_eq_true rfl) t2.1 h (fun M2 h1 => ?_)
  refine zt_iconst (v := 0) d_Pl_applyTo_4 rfl (by decide) ?_
  refine zt_istore_n d_Pl_applyTo_5 rfl rfl (by decide) rfl ?_
  exact zt_sub [1, 2, 3, 0] rfl h1
theorem b_Pl_applyTo_6 {Q : Mem → Prop} {M : Mem} {a1 n1 : Nat} (t1 : T_Sg zX a1 n1) {a2 n2 : Nat} (t2 : T_Sg zX a2 n2) {x3 : Int32} (h : ((M.1 134 1) ≤ x3 → (Q M)) ∧ (¬ (M.1 134 1) ≤ x3 → (CallR zX m_Pl_at [.ref 134, .int x3] M (fun r6 M5 => T_Pc zX r6 ∧ (CallI zX m_Pc_addTo [.ref r6, .ref a2, .ref a1] M5 (fun r10 M9 => (r10 = 0 → (CallV zX m_Sg_clear [.ref a2] M9 (fun M15 => Q M15))) ∧ (¬ r10 = 0 → (wp zX m_Pl_applyTo (QV Q) 6 [(0, .ref 134), (1, .ref a1), (2, .ref a2), (3, .int (x3 + 1))] [] M9)))))))) : wp zX m_Pl_applyTo (QV Q) 6 [(0, .ref 134), (1, .ref a1), (2, .ref a2), (3, .int x3)] [] M := by
  refine zt_iload_n 3 d_Pl_applyTo_6 rfl rfl rfl ?_
  refine zt_aload_n 0 d_Pl_applyTo_7 rfl rfl rfl ?_
  refine zt_getI d_Pl_applyTo_8 rfl fl_Pl_18 rfl ?_
  refine zt_icmp_ge d_Pl_applyTo_11 rfl (tgt := 38) (by decide) ⟨fun c1 => ?_, fun c1 => ?_⟩
  · have h2 := h.1 c1
    exact zt_vret rfl d_Pl_applyTo_38 ⟨rfl, h2⟩
  · have h3 := h.2 c1
    refine zt_aload_n 0 d_Pl_applyTo_14 rfl rfl rfl ?_
    refine zt_iload_n 3 d_Pl_applyTo_15 rfl rfl rfl ?_
    refine zt_callVR (as := [.int x3]) d_Pl_applyTo_16 rfl mi_Pl_at ⟨Nat.le_of_ble_eq_true rfl, Nat.le_of_ble_eq_true rfl⟩ wd_523 rfl rfl (Nat.le_of_ble_eq_true rfl) rfl h3 (fun r6 M5 h4 => ?_)
    obtain ⟨t7, h4⟩ := h4
    refine zt_aload_n 2 d_Pl_applyTo_19 rfl rfl rfl ?_
    refine zt_aload_n 1 d_Pl_applyTo_20 rfl rfl rfl ?_
    refine zt_callVI (as := [.ref a2, .ref a1]) d_Pl_applyTo_21 rfl mi_Pc_addTo ⟨Nat.le_of_ble_eq_true rfl, Nat.le_of_ble_eq_true rfl⟩ wd_595 rfl rfl (Nat.le_of_ble_eq_true rfl) t7.1 h4 (fun r10 M9 h8 => ?_)
    refine zt_if_ne d_Pl_applyTo_24 rfl (tgt := 32) (by decide) ⟨fun c11 => ?_, fun c11 => ?_⟩
    · have h12 := h8.1 c11
      refine zt_aload_n 2 d_Pl_applyTo_27 rfl rfl rfl ?_
      refine zt_callVV (as := []) d_Pl_applyTo_28 rfl mi_Sg_clear ⟨Nat.le_of_ble_eq_true rfl, Nat.le_of_ble_eq_true rfl⟩ wd_594 rfl rfl (Nat.le_of_ble_eq_true rfl) t2.1 h12 (fun M15 h14 => ?_)
      exact zt_vret rfl d_Pl_applyTo_31 ⟨rfl, h14⟩
    · have h13 := h8.2 c11
      refine zt_iinc (v := (x3 + 1)) 3 d_Pl_applyTo_32 rfl rfl rfl (by decide) rfl ?_
      refine zt_goto d_Pl_applyTo_35 (tgt := 6) (by decide) ?_
      exact zt_sub [1, 2, 3, 0] rfl h13
theorem e_Rw_become {Q : Mem → Prop} {M : Mem} {a0 : Nat} (t0 : T_Rw zX a0) {a1 n1 : Nat} (t1 : T_Sg zX a1 n1) {a2 n2 : Nat} (t2 : T_Sg zX a2 n2) (h : CallV zX m_Sg_copy [.ref (a0 + 1), .ref a2] M (fun M2 => wp zX m_Rw_become (QV Q) 10 [(0, .ref a0), (1, .ref a1), (3, .int 0)] [] M2)) : CallV zX m_Rw_become [.ref a0, .ref a1, .ref a2] M Q := by
  refine call_of (by decide) (Nat.le_of_ble_eq_true rfl) ?_
  show wp zX m_Rw_become (QV Q) 0 [(0, .ref a0), (1, .ref a1), (2, .ref a2)] [] M
  refine zt_aload_n 0 d_Rw_become_0 rfl rfl rfl ?_
  refine zt_getR (b := a0 + 1) d_Rw_become_1 rfl fl_Rw_14 rfl t0.1 ?_
  refine zt_aload_n 2 d_Rw_become_4 rfl rfl rfl ?_
  refine zt_callVV (as := [.ref a2]) d_Rw_become_5 rfl mi_Sg_copy ⟨Nat.le_of_ble_eq_true rfl, Nat.le_of_ble_eq_true rfl⟩ wd_355 rfl rfl (Nat.le_of_ble_eq_true rfl) t0.2.1.1 h (fun M2 h1 => ?_)
  refine zt_iconst (v := 0) d_Rw_become_8 rfl (by decide) ?_
  refine zt_istore_n d_Rw_become_9 rfl rfl (by decide) rfl ?_
  exact zt_sub [1, 2, 0] rfl h1
theorem b_Rw_become_10 {Q : Mem → Prop} {M : Mem} {a0 : Nat} (t0 : T_Rw zX a0) {a1 n1 : Nat} (t1 : T_Sg zX a1 n1) {x3 : Int32} (h : (62 ≤ x3 → (wp zX m_Rw_become (QV Q) 36 [(0, .ref a0), (1, .ref a1), (3, .int 12)] [] M)) ∧ (¬ 62 ≤ x3 → (CallI zX m_Mk_placeIn [.ref a1, .int x3] M (fun r6 M5 => vp_in x3 62 ∧ (∀ N9, N9 = uI M5 (a0 + 4) x3.toNatClampNeg r6 → (wp zX m_Rw_become (QV Q) 10 [(0, .ref a0), (1, .ref a1), (3, .int (x3 + 1))] [] N9)))))) : wp zX m_Rw_become (QV Q) 10 [(0, .ref a0), (1, .ref a1), (3, .int x3)] [] M := by
  refine zt_iload_n 2 d_Rw_become_10 rfl rfl rfl ?_
  refine zt_bipush (v := 62) d_Rw_become_11 rfl (by decide) ?_
  refine zt_icmp_ge d_Rw_become_13 rfl (tgt := 33) (by decide) ⟨fun c1 => ?_, fun c1 => ?_⟩
  · have h2 := h.1 c1
    refine zt_bipush (v := 12) d_Rw_become_33 rfl (by decide) ?_
    refine zt_istore_n d_Rw_become_35 rfl rfl (by decide) rfl ?_
    exact zt_sub [1, 2, 0] rfl h2
  · have h3 := h.2 c1
    refine zt_aload_n 0 d_Rw_become_16 rfl rfl rfl ?_
    refine zt_getR (b := a0 + 4) d_Rw_become_17 rfl fl_Rw_22 rfl t0.1 ?_
    refine zt_iload_n 2 d_Rw_become_20 rfl rfl rfl ?_
    refine zt_aload_n 1 d_Rw_become_21 rfl rfl rfl ?_
    refine zt_iload_n 2 d_Rw_become_22 rfl rfl rfl ?_
    refine zt_callSI (as := [.ref a1, .int x3]) d_Rw_become_23 rfl ms_Mk_placeIn ⟨Nat.le_of_ble_eq_true rfl, Nat.le_of_ble_eq_true rfl⟩ wd_356 rfl rfl (Nat.le_of_ble_eq_true rfl) h3 (fun r6 M5 h4 => ?_)
    obtain ⟨g7, h8⟩ := h4
    refine zt_iast d_Rw_become_26 rfl t0.2.2.1 g7 ?_
    have h8 := h8 _ rfl
    refine zt_iinc (v := (x3 + 1)) 2 d_Rw_become_27 rfl rfl rfl (by decide) rfl ?_
    refine zt_goto d_Rw_become_30 (tgt := 10) (by decide) ?_
    exact zt_sub [1, 2, 0] rfl h8
theorem b_Rw_become_36 {Q : Mem → Prop} {M : Mem} {a0 : Nat} (t0 : T_Rw zX a0) {a1 n1 : Nat} (t1 : T_Sg zX a1 n1) {x3 : Int32} (h : (x3 < 0 → (Q M)) ∧ (¬ x3 < 0 → (wp zX m_Rw_become (QV Q) 43 [(0, .ref a0), (1, .ref a1), (3, .int x3), (4, .int 5)] [] M))) : wp zX m_Rw_become (QV Q) 36 [(0, .ref a0), (1, .ref a1), (3, .int x3)] [] M := by
  refine zt_iload_n 2 d_Rw_become_36 rfl rfl rfl ?_
  refine zt_if_lt d_Rw_become_37 rfl (tgt := 77) (by decide) ⟨fun c1 => ?_, fun c1 => ?_⟩
  · have h2 := h.1 c1
    exact zt_vret rfl d_Rw_become_77 ⟨rfl, h2⟩
  · have h3 := h.2 c1
    refine zt_iconst (v := 5) d_Rw_become_40 rfl (by decide) ?_
    refine zt_istore d_Rw_become_41 rfl (by decide) rfl ?_
    exact zt_sub [1, 2, 3, 0] rfl h3
theorem b_Rw_become_43 {Q : Mem → Prop} {M : Mem} {a0 : Nat} (t0 : T_Rw zX a0) {a1 n1 : Nat} (t1 : T_Sg zX a1 n1) {x3 : Int32} {x4 : Int32} (h : (x4 < 0 → (wp zX m_Rw_become (QV Q) 36 [(0, .ref a0), (1, .ref a1), (3, .int (x3 + (-1)))] [] M)) ∧ (¬ x4 < 0 → (vp_in x3 13 ∧ (CallI zX m_Rw_countAlike [.ref a0, .ref a1, .int x3, .int x4] M (fun r8 M7 => vp_in x4 6 ∧ (∀ N11, N11 = uI M7 (a0 + 5 + 1 + 1 * x3.toNatClampNeg) x4.toNatClampNeg r8 → (wp zX m_Rw_become (QV Q) 43 [(0, .ref a0), (1, .ref a1), (3, .int x3), (4, .int (x4 + (-1)))] [] N11))))))) : wp zX m_Rw_become (QV Q) 43 [(0, .ref a0), (1, .ref a1), (3, .int x3), (4, .int x4)] [] M := by
  refine zt_iload 3 d_Rw_become_43 rfl rfl ?_
  refine zt_if_lt d_Rw_become_45 rfl (tgt := 71) (by decide) ⟨fun c1 => ?_, fun c1 => ?_⟩
  · have h2 := h.1 c1
    refine zt_iinc (v := (x3 + (-1))) 2 d_Rw_become_71 rfl rfl rfl (by decide) rfl ?_
    refine zt_goto d_Rw_become_74 (tgt := 36) (by decide) ?_
    exact zt_sub [1, 2, 0] rfl h2
  · have h3 := h.2 c1
    refine zt_aload_n 0 d_Rw_become_48 rfl rfl rfl ?_
    refine zt_getR (b := a0 + 5) d_Rw_become_49 rfl fl_Rw_28 rfl t0.1 ?_
    refine zt_iload_n 2 d_Rw_become_52 rfl rfl rfl ?_
    obtain ⟨g4, h5⟩ := h3
    refine zt_aald (b := a0 + 5 + 1 + 1 * x3.toNatClampNeg) d_Rw_become_53 rfl (fun _ => rfl) rfl (by decide) (by decide) t0.2.2.2.1 g4 rfl ?_
    refine zt_iload 3 d_Rw_become_54 rfl rfl ?_
    refine zt_aload_n 0 d_Rw_become_56 rfl rfl rfl ?_
    refine zt_aload_n 1 d_Rw_become_57 rfl rfl rfl ?_
    refine zt_iload_n 2 d_Rw_become_58 rfl rfl rfl ?_
    refine zt_iload 3 d_Rw_become_59 rfl rfl ?_
    refine zt_callVI (as := [.ref a1, .int x3, .int x4]) d_Rw_become_61 rfl mi_Rw_countAlike ⟨Nat.le_of_ble_eq_true rfl, Nat.le_of_ble_eq_true rfl⟩ wd_376 rfl rfl (Nat.le_of_ble_eq_true rfl) t0.1 h5 (fun r8 M7 h6 => ?_)
    obtain ⟨g9, h10⟩ := h6
    refine zt_iast d_Rw_become_64 rfl (t0.2.2.2.2 _ (vp_lt g4)) g9 ?_
    have h10 := h10 _ rfl
    refine zt_iinc (v := (x4 + (-1))) 3 d_Rw_become_65 rfl rfl rfl (by decide) rfl ?_
    refine zt_goto d_Rw_become_68 (tgt := 43) (by decide) ?_
    exact zt_sub [1, 2, 3, 0] rfl h10
theorem e_Rw_countAlike {Q : Int32 → Mem → Prop} {M : Mem} {a0 : Nat} (t0 : T_Rw zX a0) {a1 n1 : Nat} (t1 : T_Sg zX a1 n1) {x2 : Int32} {x3 : Int32} (h : (12 ≤ x2 → (Q 0 M)) ∧ (¬ 12 ≤ x2 → ((x3 < 5 → (CallI zX m_Sg_many [.ref a1] M (fun r9 M8 => (r9 ≤ x2 → (Q 0 M8)) ∧ (¬ r9 ≤ x2 → (CallI zX m_Sg_many [.ref (a0 + 1)] M8 (fun r15 M14 => (r15 ≤ x3 → (Q 0 M14)) ∧ (¬ r15 ≤ x3 → (CallI zX m_Sg_at [.ref a1, .int x2] M14 (fun r21 M20 => CallI zX m_Sg_at [.ref (a0 + 1), .int x3] M20 (fun r24 M23 => (r21 = r24 → (vp_in (x2 + 1) 13 ∧ (vp_in (x3 + 1) 6 ∧ (Q ((M23.1 (a0 + 5 + 1 + 1 * (x2 + 1).toNatClampNeg) (x3 + 1).toNatClampNeg) + 1) M23)))) ∧ (¬ r21 = r24 → (Q 0 M23)))))))))))) ∧ (¬ x3 < 5 → (Q 0 M))))) : CallI zX m_Rw_countAlike [.ref a0, .ref a1, .int x2, .int x3] M Q := by
  refine call_of (by decide) (Nat.le_of_ble_eq_true rfl) ?_
  show wp zX m_Rw_countAlike (QI Q) 0 [(0, .ref a0), (1, .ref a1), (2, .int x2), (3, .int x3)] [] M
  refine zt_iload_n 2 d_Rw_countAlike_0 rfl rfl rfl ?_
  refine zt_bipush (v := 12) d_Rw_countAlike_1 rfl (by decide) ?_
  refine zt_icmp_ge d_Rw_countAlike_3 rfl (tgt := 11) (by decide) ⟨fun c1 => ?_, fun c1 => ?_⟩
  · have h2 := h.1 c1
    refine zt_iconst (v := 0) d_Rw_countAlike_11 rfl (by decide) ?_
    exact zt_iret rfl d_Rw_countAlike_12 ⟨_, rfl, h2⟩
  · have h3 := h.2 c1
    refine zt_iload_n 3 d_Rw_countAlike_6 rfl rfl rfl ?_
    refine zt_iconst (v := 5) d_Rw_countAlike_7 rfl (by decide) ?_
    refine zt_icmp_lt d_Rw_countAlike_8 rfl (tgt := 13) (by decide) ⟨fun c4 => ?_, fun c4 => ?_⟩
    · have h5 := h3.1 c4
      refine zt_iload_n 2 d_Rw_countAlike_13 rfl rfl rfl ?_
      refine zt_aload_n 1 d_Rw_countAlike_14 rfl rfl rfl ?_
      refine zt_callVI (as := []) d_Rw_countAlike_15 rfl mi_Sg_many ⟨Nat.le_of_ble_eq_true rfl, Nat.le_of_ble_eq_true rfl⟩ wd_380 rfl rfl (Nat.le_of_ble_eq_true rfl) t1.1 h5 (fun r9 M8 h7 => ?_)
      refine zt_icmp_ge d_Rw_countAlike_18 rfl (tgt := 48) (by decide) ⟨fun c10 => ?_, fun c10 => ?_⟩
      · have h11 := h7.1 c10
        refine zt_iconst (v := 0) d_Rw_countAlike_48 rfl (by decide) ?_
        exact zt_iret rfl d_Rw_countAlike_49 ⟨_, rfl, h11⟩
      · have h12 := h7.2 c10
        refine zt_iload_n 3 d_Rw_countAlike_21 rfl rfl rfl ?_
        refine zt_aload_n 0 d_Rw_countAlike_22 rfl rfl rfl ?_
        refine zt_getR (b := a0 + 1) d_Rw_countAlike_23 rfl fl_Rw_14 rfl t0.1 ?_
        refine zt_callVI (as := []) d_Rw_countAlike_26 rfl mi_Sg_many ⟨Nat.le_of_ble_eq_true rfl, Nat.le_of_ble_eq_true rfl⟩ wd_380 rfl rfl (Nat.le_of_ble_eq_true rfl) t0.2.1.1 h12 (fun r15 M14 h13 => ?_)
        refine zt_icmp_ge d_Rw_countAlike_29 rfl (tgt := 48) (by decide) ⟨fun c16 => ?_, fun c16 => ?_⟩
        · have h17 := h13.1 c16
          refine zt_iconst (v := 0) d_Rw_countAlike_48 rfl (by decide) ?_
          exact zt_iret rfl d_Rw_countAlike_49 ⟨_, rfl, h17⟩
        · have h18 := h13.2 c16
          refine zt_aload_n 1 d_Rw_countAlike_32 rfl rfl rfl ?_
          refine zt_iload_n 2 d_Rw_countAlike_33 rfl rfl rfl ?_
          refine zt_callVI (as := [.int x2]) d_Rw_countAlike_34 rfl mi_Sg_at ⟨Nat.le_of_ble_eq_true rfl, Nat.le_of_ble_eq_true rfl⟩ wd_381 rfl rfl (Nat.le_of_ble_eq_true rfl) t1.1 h18 (fun r21 M20 h19 => ?_)
          refine zt_aload_n 0 d_Rw_countAlike_37 rfl rfl rfl ?_
          refine zt_getR (b := a0 + 1) d_Rw_countAlike_38 rfl fl_Rw_14 rfl t0.1 ?_
          refine zt_iload_n 3 d_Rw_countAlike_41 rfl rfl rfl ?_
          refine zt_callVI (as := [.int x3]) d_Rw_countAlike_42 rfl mi_Sg_at ⟨Nat.le_of_ble_eq_true rfl, Nat.le_of_ble_eq_true rfl⟩ wd_381 rfl rfl (Nat.le_of_ble_eq_true rfl) t0.2.1.1 h19 (fun r24 M23 h22 => ?_)
          refine zt_icmp_eq d_Rw_countAlike_45 rfl (tgt := 50) (by decide) ⟨fun c25 => ?_, fun c25 => ?_⟩
          · have h26 := h22.1 c25
            refine zt_aload_n 0 d_Rw_countAlike_50 rfl rfl rfl ?_
            refine zt_getR (b := a0 + 5) d_Rw_countAlike_51 rfl fl_Rw_28 rfl t0.1 ?_
            refine zt_iload_n 2 d_Rw_countAlike_54 rfl rfl rfl ?_
            refine zt_iconst (v := 1) d_Rw_countAlike_55 rfl (by decide) ?_
            refine zt_iadd d_Rw_countAlike_56 rfl ?_
            obtain ⟨g28, h29⟩ := h26
            refine zt_aald (b := a0 + 5 + 1 + 1 * (x2 + 1).toNatClampNeg) d_Rw_countAlike_57 rfl (fun _ => rfl) rfl (by decide) (by decide) t0.2.2.2.1 g28 rfl ?_
            refine zt_iload_n 3 d_Rw_countAlike_58 rfl rfl rfl ?_
            refine zt_iconst (v := 1) d_Rw_countAlike_59 rfl (by decide) ?_
            refine zt_iadd d_Rw_countAlike_60 rfl ?_
            obtain ⟨g30, h31⟩ := h29
            refine zt_iald d_Rw_countAlike_61 rfl (t0.2.2.2.2 _ (vp_lt g28)) g30 ?_
            refine zt_iconst (v := 1) d_Rw_countAlike_62 rfl (by decide) ?_
            refine zt_iadd d_Rw_countAlike_63 rfl ?_
            exact zt_iret rfl d_Rw_countAlike_64 ⟨_, rfl, h31⟩
          · have h27 := h22.2 c25
            refine zt_iconst (v := 0) d_Rw_countAlike_48 rfl (by decide) ?_
            exact zt_iret rfl d_Rw_countAlike_49 ⟨_, rfl, h27⟩
    · have h6 := h3.2 c4
      refine zt_iconst (v := 0) d_Rw_countAlike_11 rfl (by decide) ?_
      exact zt_iret rfl d_Rw_countAlike_12 ⟨_, rfl, h6⟩
theorem e_Rw_result {Q : Nat → Mem → Prop} {M : Mem} {a0 : Nat} (t0 : T_Rw zX a0) (h : Q (a0 + 1) M) : CallR zX m_Rw_result [.ref a0] M Q := by
  refine call_of (by decide) (Nat.le_of_ble_eq_true rfl) ?_
  show wp zX m_Rw_result (QR Q) 0 [(0, .ref a0)] [] M
  refine zt_aload_n 0 d_Rw_result_0 rfl rfl rfl ?_
  refine zt_getR (b := a0 + 1) d_Rw_result_1 rfl fl_Rw_14 rfl t0.1 ?_
  exact zt_aret rfl (Or.inl ⟨_, rfl⟩) d_Rw_result_4 ⟨_, rfl, h⟩
theorem e_Rw_placeOf {Q : Int32 → Mem → Prop} {M : Mem} {a0 : Nat} (t0 : T_Rw zX a0) {x1 : Int32} (h : (x1 < 0 → (Q (-6) M)) ∧ (¬ x1 < 0 → ((62 ≤ x1 → (Q (-6) M)) ∧ (¬ 62 ≤ x1 → (vp_in x1 62 ∧ (Q (M.1 (a0 + 4) x1.toNatClampNeg) M)))))) : CallI zX m_Rw_placeOf [.ref a0, .int x1] M Q := by
  refine call_of (by decide) (Nat.le_of_ble_eq_true rfl) ?_
  show wp zX m_Rw_placeOf (QI Q) 0 [(0, .ref a0), (1, .int x1)] [] M
  refine zt_iload_n 1 d_Rw_placeOf_0 rfl rfl rfl ?_
  refine zt_if_lt d_Rw_placeOf_1 rfl (tgt := 19) (by decide) ⟨fun c1 => ?_, fun c1 => ?_⟩
  · have h2 := h.1 c1
    refine zt_bipush (v := -6) d_Rw_placeOf_19 rfl (by decide) ?_
    exact zt_iret rfl d_Rw_placeOf_21 ⟨_, rfl, h2⟩
  · have h3 := h.2 c1
    refine zt_iload_n 1 d_Rw_placeOf_4 rfl rfl rfl ?_
    refine zt_bipush (v := 62) d_Rw_placeOf_5 rfl (by decide) ?_
    refine zt_icmp_ge d_Rw_placeOf_7 rfl (tgt := 19) (by decide) ⟨fun c4 => ?_, fun c4 => ?_⟩
    · have h5 := h3.1 c4
      refine zt_bipush (v := -6) d_Rw_placeOf_19 rfl (by decide) ?_
      exact zt_iret rfl d_Rw_placeOf_21 ⟨_, rfl, h5⟩
    · have h6 := h3.2 c4
      refine zt_aload_n 0 d_Rw_placeOf_10 rfl rfl rfl ?_
      refine zt_getR (b := a0 + 4) d_Rw_placeOf_11 rfl fl_Rw_22 rfl t0.1 ?_
      refine zt_iload_n 1 d_Rw_placeOf_14 rfl rfl rfl ?_
      obtain ⟨g7, h8⟩ := h6
      refine zt_iald d_Rw_placeOf_15 rfl t0.2.2.1 g7 ?_
      refine zt_goto d_Rw_placeOf_16 (tgt := 21) (by decide) ?_
      exact zt_iret rfl d_Rw_placeOf_21 ⟨_, rfl, h8⟩
theorem e_Rw_longestFrom {Q : Int32 → Mem → Prop} {M : Mem} {a0 : Nat} (t0 : T_Rw zX a0) {x1 : Int32} {x2 : Int32} (h : (x1 < 0 → (Q 0 M)) ∧ (¬ x1 < 0 → ((12 < x1 → (Q 0 M)) ∧ (¬ 12 < x1 → ((x2 < 0 → (Q 0 M)) ∧ (¬ x2 < 0 → ((x2 ≤ 5 → (vp_in x1 13 ∧ (vp_in x2 6 ∧ (Q (M.1 (a0 + 5 + 1 + 1 * x1.toNatClampNeg) x2.toNatClampNeg) M)))) ∧ (¬ x2 ≤ 5 → (Q 0 M))))))))) : CallI zX m_Rw_longestFrom [.ref a0, .int x1, .int x2] M Q := by
  refine call_of (by decide) (Nat.le_of_ble_eq_true rfl) ?_
  show wp zX m_Rw_longestFrom (QI Q) 0 [(0, .ref a0), (1, .int x1), (2, .int x2)] [] M
  refine zt_iload_n 1 d_Rw_longestFrom_0 rfl rfl rfl ?_
  refine zt_if_lt d_Rw_longestFrom_1 rfl (tgt := 19) (by decide) ⟨fun c1 => ?_, fun c1 => ?_⟩
  · have h2 := h.1 c1
    refine zt_iconst (v := 0) d_Rw_longestFrom_19 rfl (by decide) ?_
    exact zt_iret rfl d_Rw_longestFrom_20 ⟨_, rfl, h2⟩
  · have h3 := h.2 c1
    refine zt_iload_n 1 d_Rw_longestFrom_4 rfl rfl rfl ?_
    refine zt_bipush (v := 12) d_Rw_longestFrom_5 rfl (by decide) ?_
    refine zt_icmp_gt d_Rw_longestFrom_7 rfl (tgt := 19) (by decide) ⟨fun c4 => ?_, fun c4 => ?_⟩
    · have h5 := h3.1 c4
      refine zt_iconst (v := 0) d_Rw_longestFrom_19 rfl (by decide) ?_
      exact zt_iret rfl d_Rw_longestFrom_20 ⟨_, rfl, h5⟩
    · have h6 := h3.2 c4
      refine zt_iload_n 2 d_Rw_longestFrom_10 rfl rfl rfl ?_
      refine zt_if_lt d_Rw_longestFrom_11 rfl (tgt := 19) (by decide) ⟨fun c7 => ?_, fun c7 => ?_⟩
      · have h8 := h6.1 c7
        refine zt_iconst (v := 0) d_Rw_longestFrom_19 rfl (by decide) ?_
        exact zt_iret rfl d_Rw_longestFrom_20 ⟨_, rfl, h8⟩
      · have h9 := h6.2 c7
        refine zt_iload_n 2 d_Rw_longestFrom_14 rfl rfl rfl ?_
        refine zt_iconst (v := 5) d_Rw_longestFrom_15 rfl (by decide) ?_
        refine zt_icmp_le d_Rw_longestFrom_16 rfl (tgt := 21) (by decide) ⟨fun c10 => ?_, fun c10 => ?_⟩
        · have h11 := h9.1 c10
          refine zt_aload_n 0 d_Rw_longestFrom_21 rfl rfl rfl ?_
          refine zt_getR (b := a0 + 5) d_Rw_longestFrom_22 rfl fl_Rw_28 rfl t0.1 ?_
          refine zt_iload_n 1 d_Rw_longestFrom_25 rfl rfl rfl ?_
          obtain ⟨g13, h14⟩ := h11
          refine zt_aald (b := a0 + 5 + 1 + 1 * x1.toNatClampNeg) d_Rw_longestFrom_26 rfl (fun _ => rfl) rfl (by decide) (by decide) t0.2.2.2.1 g13 rfl ?_
          refine zt_iload_n 2 d_Rw_longestFrom_27 rfl rfl rfl ?_
          obtain ⟨g15, h16⟩ := h14
          refine zt_iald d_Rw_longestFrom_28 rfl (t0.2.2.2.2 _ (vp_lt g13)) g15 ?_
          exact zt_iret rfl d_Rw_longestFrom_29 ⟨_, rfl, h16⟩
        · have h12 := h9.2 c10
          refine zt_iconst (v := 0) d_Rw_longestFrom_19 rfl (by decide) ?_
          exact zt_iret rfl d_Rw_longestFrom_20 ⟨_, rfl, h12⟩
theorem e_Rw_cutLength {Q : Int32 → Mem → Prop} {M : Mem} {a0 : Nat} (t0 : T_Rw zX a0) {x1 : Int32} {x2 : Int32} {x3 : Int32} (h : CallI zX m_Rw_placeOf [.ref a0, .int x1] M (fun r3 M2 => CallI zX m_Rw_placeOf [.ref a0, .int x2] M2 (fun r6 M5 => ((r6 - r3) ≤ 0 → (Q 0 M5)) ∧ (¬ (r6 - r3) ≤ 0 → (CallI zX m_Rw_longestFrom [.ref a0, .int r3, .int x3] M5 (fun r12 M11 => (r12 < (r6 - r3) → (Q 0 M11)) ∧ (¬ r12 < (r6 - r3) → (Q (r6 - r3) M11)))))))) : CallI zX m_Rw_cutLength [.ref a0, .int x1, .int x2, .int x3] M Q := by
  refine call_of (by decide) (Nat.le_of_ble_eq_true rfl) ?_
  show wp zX m_Rw_cutLength (QI Q) 0 [(0, .ref a0), (1, .int x1), (2, .int x2), (3, .int x3)] [] M
  refine zt_aload_n 0 d_Rw_cutLength_0 rfl rfl rfl ?_
  refine zt_iload_n 1 d_Rw_cutLength_1 rfl rfl rfl ?_
  refine zt_callVI (as := [.int x1]) d_Rw_cutLength_2 rfl mi_Rw_placeOf ⟨Nat.le_of_ble_eq_true rfl, Nat.le_of_ble_eq_true rfl⟩ wd_453 rfl rfl (Nat.le_of_ble_eq_true rfl) t0.1 h (fun r3 M2 h1 => ?_)
  refine zt_istore d_Rw_cutLength_5 rfl (by decide) rfl ?_
  refine zt_aload_n 1 d_Rw_cutLength_7 rfl rfl rfl ?_
  refine zt_iload_n 3 d_Rw_cutLength_8 rfl rfl rfl ?_
  refine zt_callVI (as := [.int x2]) d_Rw_cutLength_9 rfl mi_Rw_placeOf ⟨Nat.le_of_ble_eq_true rfl, Nat.le_of_ble_eq_true rfl⟩ wd_453 rfl rfl (Nat.le_of_ble_eq_true rfl) t0.1 h1 (fun r6 M5 h4 => ?_)
  refine zt_iload 0 d_Rw_cutLength_12 rfl rfl ?_
  refine zt_isub d_Rw_cutLength_14 rfl ?_
  refine zt_istore d_Rw_cutLength_15 rfl (by decide) rfl ?_
  refine zt_iload 0 d_Rw_cutLength_17 rfl rfl ?_
  refine zt_if_le d_Rw_cutLength_19 rfl (tgt := 39) (by decide) ⟨fun c7 => ?_, fun c7 => ?_⟩
  · have h8 := h4.1 c7
    refine zt_iconst (v := 0) d_Rw_cutLength_39 rfl (by decide) ?_
    exact zt_iret rfl d_Rw_cutLength_40 ⟨_, rfl, h8⟩
  · have h9 := h4.2 c7
    refine zt_iload 0 d_Rw_cutLength_22 rfl rfl ?_
    refine zt_aload_n 2 d_Rw_cutLength_24 rfl rfl rfl ?_
    refine zt_iload 1 d_Rw_cutLength_25 rfl rfl ?_
    refine zt_iload_n 5 d_Rw_cutLength_27 rfl rfl rfl ?_
    refine zt_callVI (as := [.int r3, .int x3]) d_Rw_cutLength_28 rfl mi_Rw_longestFrom ⟨Nat.le_of_ble_eq_true rfl, Nat.le_of_ble_eq_true rfl⟩ wd_454 rfl rfl (Nat.le_of_ble_eq_true rfl) t0.1 h9 (fun r12 M11 h10 => ?_)
    refine zt_icmp_gt d_Rw_cutLength_31 rfl (tgt := 39) (by decide) ⟨fun c13 => ?_, fun c13 => ?_⟩
    · have h14 := h10.1 c13
      refine zt_iconst (v := 0) d_Rw_cutLength_39 rfl (by decide) ?_
      exact zt_iret rfl d_Rw_cutLength_40 ⟨_, rfl, h14⟩
    · have h15 := h10.2 c13
      refine zt_iload 0 d_Rw_cutLength_34 rfl rfl ?_
      refine zt_goto d_Rw_cutLength_36 (tgt := 40) (by decide) ?_
      exact zt_iret rfl d_Rw_cutLength_40 ⟨_, rfl, h15⟩
theorem e_Sg_many {Q : Int32 → Mem → Prop} {M : Mem} {a0 n0 : Nat} (t0 : T_Sg zX a0 n0) (h : Q (M.1 a0 2) M) : CallI zX m_Sg_many [.ref a0] M Q := by
  refine call_of (by decide) (Nat.le_of_ble_eq_true rfl) ?_
  show wp zX m_Sg_many (QI Q) 0 [(0, .ref a0)] [] M
  refine zt_aload_n 0 d_Sg_many_0 rfl rfl rfl ?_
  refine zt_getI d_Sg_many_1 rfl fl_Sg_24 t0.1 ?_
  exact zt_iret rfl d_Sg_many_4 ⟨_, rfl, h⟩
theorem e_Sg_clear {Q : Mem → Prop} {M : Mem} {a0 n0 : Nat} (t0 : T_Sg zX a0 n0) (h : ∀ N1, N1 = uI M a0 2 0 → (Q N1)) : CallV zX m_Sg_clear [.ref a0] M Q := by
  refine call_of (by decide) (Nat.le_of_ble_eq_true rfl) ?_
  show wp zX m_Sg_clear (QV Q) 0 [(0, .ref a0)] [] M
  refine zt_aload_n 0 d_Sg_clear_0 rfl rfl rfl ?_
  refine zt_iconst (v := 0) d_Sg_clear_1 rfl (by decide) ?_
  refine zt_putI d_Sg_clear_2 rfl fl_Sg_24 t0.1 ?_
  have h2 := h _ rfl
  exact zt_vret rfl d_Sg_clear_5 ⟨rfl, h2⟩
theorem e_Sg_add {Q : Int32 → Mem → Prop} {M : Mem} {a0 n0 : Nat} (t0 : T_Sg zX a0 n0) {x1 : Int32} (h : 0 < n0 ∧ (((Int32.ofNat n0) ≤ (M.1 a0 2) → (Q 0 M)) ∧ (¬ (Int32.ofNat n0) ≤ (M.1 a0 2) → (0 < n0 ∧ (((M.1 a0 2) < (Int32.ofNat n0) → (vp_in (M.1 a0 2) n0 ∧ (∀ N13, N13 = uI M (a0 + 1) (M.1 a0 2).toNatClampNeg x1 → (CallI zX m_Sg_kindOf [.int x1] N13 (fun r16 M15 => vp_in (N13.1 a0 2) n0 ∧ (∀ N19, N19 = uI M15 (a0 + 2) (N13.1 a0 2).toNatClampNeg r16 → (∀ N20, N20 = uI N19 a0 2 ((N19.1 a0 2) + 1) → (Q 1 N20)))))))) ∧ (¬ (M.1 a0 2) < (Int32.ofNat n0) → (Q 0 M))))))) : CallI zX m_Sg_add [.ref a0, .int x1] M Q := by
  refine call_of (by decide) (Nat.le_of_ble_eq_true rfl) ?_
  show wp zX m_Sg_add (QI Q) 0 [(0, .ref a0), (1, .int x1)] [] M
  refine zt_aload_n 0 d_Sg_add_0 rfl rfl rfl ?_
  refine zt_getI d_Sg_add_1 rfl fl_Sg_24 t0.1 ?_
  refine zt_aload_n 0 d_Sg_add_4 rfl rfl rfl ?_
  refine zt_getR (b := a0 + 1) d_Sg_add_5 rfl fl_Sg_15 rfl t0.1 ?_
  obtain ⟨g2, h1⟩ := h
  refine zt_alenI d_Sg_add_8 rfl t0.2.1 g2 ?_
  refine zt_icmp_ge d_Sg_add_9 rfl (tgt := 24) (by decide) ⟨fun c3 => ?_, fun c3 => ?_⟩
  · have h4 := h1.1 c3
    refine zt_iconst (v := 0) d_Sg_add_24 rfl (by decide) ?_
    exact zt_zret rfl d_Sg_add_25 rfl ⟨_, rfl, h4⟩
  · have h5 := h1.2 c3
    refine zt_aload_n 0 d_Sg_add_12 rfl rfl rfl ?_
    refine zt_getI d_Sg_add_13 rfl fl_Sg_24 t0.1 ?_
    refine zt_aload_n 0 d_Sg_add_16 rfl rfl rfl ?_
    refine zt_getR (b := a0 + 2) d_Sg_add_17 rfl fl_Sg_21 rfl t0.1 ?_
    obtain ⟨g7, h6⟩ := h5
    refine zt_alenI d_Sg_add_20 rfl t0.2.2 g7 ?_
    refine zt_icmp_lt d_Sg_add_21 rfl (tgt := 26) (by decide) ⟨fun c8 => ?_, fun c8 => ?_⟩
    · have h9 := h6.1 c8
      refine zt_aload_n 0 d_Sg_add_26 rfl rfl rfl ?_
      refine zt_getR (b := a0 + 1) d_Sg_add_27 rfl fl_Sg_15 rfl t0.1 ?_
      refine zt_aload_n 0 d_Sg_add_30 rfl rfl rfl ?_
      refine zt_getI d_Sg_add_31 rfl fl_Sg_24 t0.1 ?_
      refine zt_iload_n 1 d_Sg_add_34 rfl rfl rfl ?_
      obtain ⟨g11, h12⟩ := h9
      refine zt_iast d_Sg_add_35 rfl t0.2.1 g11 ?_
      have h12 := h12 _ rfl
      refine zt_aload_n 0 d_Sg_add_36 rfl rfl rfl ?_
      refine zt_getR (b := a0 + 2) d_Sg_add_37 rfl fl_Sg_21 rfl t0.1 ?_
      refine zt_aload_n 0 d_Sg_add_40 rfl rfl rfl ?_
      refine zt_getI d_Sg_add_41 rfl fl_Sg_24 t0.1 ?_
      refine zt_iload_n 1 d_Sg_add_44 rfl rfl rfl ?_
      refine zt_callSI (as := [.int x1]) d_Sg_add_45 rfl ms_Sg_kindOf ⟨Nat.le_of_ble_eq_true rfl, Nat.le_of_ble_eq_true rfl⟩ wd_224 rfl rfl (Nat.le_of_ble_eq_true rfl) h12 (fun r16 M15 h14 => ?_)
      obtain ⟨g17, h18⟩ := h14
      refine zt_iast d_Sg_add_48 rfl t0.2.2 g17 ?_
      have h18 := h18 _ rfl
      refine zt_aload_n 0 d_Sg_add_49 rfl rfl rfl ?_
      refine zt_dup d_Sg_add_50 rfl rfl ?_
      refine zt_getI d_Sg_add_51 rfl fl_Sg_24 t0.1 ?_
      refine zt_iconst (v := 1) d_Sg_add_54 rfl (by decide) ?_
      refine zt_iadd d_Sg_add_55 rfl ?_
      refine zt_putI d_Sg_add_56 rfl fl_Sg_24 t0.1 ?_
      have h21 := h18 _ rfl
      refine zt_iconst (v := 1) d_Sg_add_59 rfl (by decide) ?_
      exact zt_zret rfl d_Sg_add_60 rfl ⟨_, rfl, h21⟩
    · have h10 := h6.2 c8
      refine zt_iconst (v := 0) d_Sg_add_24 rfl (by decide) ?_
      exact zt_zret rfl d_Sg_add_25 rfl ⟨_, rfl, h10⟩
theorem e_Sg_kindOf {Q : Int32 → Mem → Prop} {M : Mem} {x0 : Int32} (h : (x0 < 97 → (wp zX m_Sg_kindOf (QI Q) 14 [(0, .int x0)] [] M)) ∧ (¬ x0 < 97 → ((101 < x0 → (wp zX m_Sg_kindOf (QI Q) 14 [(0, .int x0)] [] M)) ∧ (¬ 101 < x0 → (Q 0 M))))) : CallI zX m_Sg_kindOf [.int x0] M Q := by
  refine call_of (by decide) (Nat.le_of_ble_eq_true rfl) ?_
  show wp zX m_Sg_kindOf (QI Q) 0 [(0, .int x0)] [] M
  refine zt_iload_n 0 d_Sg_kindOf_0 rfl rfl rfl ?_
  refine zt_bipush (v := 97) d_Sg_kindOf_1 rfl (by decide) ?_
  refine zt_icmp_lt d_Sg_kindOf_3 rfl (tgt := 14) (by decide) ⟨fun c1 => ?_, fun c1 => ?_⟩
  · have h2 := h.1 c1
    exact h2
  · have h3 := h.2 c1
    refine zt_iload_n 0 d_Sg_kindOf_6 rfl rfl rfl ?_
    refine zt_bipush (v := 101) d_Sg_kindOf_7 rfl (by decide) ?_
    refine zt_icmp_gt d_Sg_kindOf_9 rfl (tgt := 14) (by decide) ⟨fun c4 => ?_, fun c4 => ?_⟩
    · have h5 := h3.1 c4
      exact h5
    · have h6 := h3.2 c4
      refine zt_iconst (v := 0) d_Sg_kindOf_12 rfl (by decide) ?_
      exact zt_iret rfl d_Sg_kindOf_13 ⟨_, rfl, h6⟩
theorem b_Sg_kindOf_14 {Q : Int32 → Mem → Prop} {M : Mem} {x0 : Int32} (h : (x0 < 48 → ((x0 = 45 → (Q 2 M)) ∧ (¬ x0 = 45 → ((x0 = 46 → (Q 2 M)) ∧ (¬ x0 = 46 → (Q (-6) M)))))) ∧ (¬ x0 < 48 → ((52 < x0 → ((x0 = 45 → (Q 2 M)) ∧ (¬ x0 = 45 → ((x0 = 46 → (Q 2 M)) ∧ (¬ x0 = 46 → (Q (-6) M)))))) ∧ (¬ 52 < x0 → (Q 1 M))))) : wp zX m_Sg_kindOf (QI Q) 14 [(0, .int x0)] [] M := by
  refine zt_iload_n 0 d_Sg_kindOf_14 rfl rfl rfl ?_
  refine zt_bipush (v := 48) d_Sg_kindOf_15 rfl (by decide) ?_
  refine zt_icmp_lt d_Sg_kindOf_17 rfl (tgt := 28) (by decide) ⟨fun c1 => ?_, fun c1 => ?_⟩
  · have h2 := h.1 c1
    refine zt_iload_n 0 d_Sg_kindOf_28 rfl rfl rfl ?_
    refine zt_bipush (v := 45) d_Sg_kindOf_29 rfl (by decide) ?_
    refine zt_icmp_eq d_Sg_kindOf_31 rfl (tgt := 40) (by decide) ⟨fun c4 => ?_, fun c4 => ?_⟩
    · have h5 := h2.1 c4
      refine zt_iconst (v := 2) d_Sg_kindOf_40 rfl (by decide) ?_
      refine zt_goto d_Sg_kindOf_41 (tgt := 46) (by decide) ?_
      exact zt_iret rfl d_Sg_kindOf_46 ⟨_, rfl, h5⟩
    · have h6 := h2.2 c4
      refine zt_iload_n 0 d_Sg_kindOf_34 rfl rfl rfl ?_
      refine zt_bipush (v := 46) d_Sg_kindOf_35 rfl (by decide) ?_
      refine zt_icmp_ne d_Sg_kindOf_37 rfl (tgt := 44) (by decide) ⟨fun c7 => ?_, fun c7 => ?_⟩
      · have h8 := h6.1 c7
        refine zt_iconst (v := 2) d_Sg_kindOf_40 rfl (by decide) ?_
        refine zt_goto d_Sg_kindOf_41 (tgt := 46) (by decide) ?_
        exact zt_iret rfl d_Sg_kindOf_46 ⟨_, rfl, h8⟩
      · have h9 := h6.2 c7
        refine zt_bipush (v := -6) d_Sg_kindOf_44 rfl (by decide) ?_
        exact zt_iret rfl d_Sg_kindOf_46 ⟨_, rfl, h9⟩
  · have h3 := h.2 c1
    refine zt_iload_n 0 d_Sg_kindOf_20 rfl rfl rfl ?_
    refine zt_bipush (v := 52) d_Sg_kindOf_21 rfl (by decide) ?_
    refine zt_icmp_gt d_Sg_kindOf_23 rfl (tgt := 28) (by decide) ⟨fun c10 => ?_, fun c10 => ?_⟩
    · have h11 := h3.1 c10
      refine zt_iload_n 0 d_Sg_kindOf_28 rfl rfl rfl ?_
      refine zt_bipush (v := 45) d_Sg_kindOf_29 rfl (by decide) ?_
      refine zt_icmp_eq d_Sg_kindOf_31 rfl (tgt := 40) (by decide) ⟨fun c13 => ?_, fun c13 => ?_⟩
      · have h14 := h11.1 c13
        refine zt_iconst (v := 2) d_Sg_kindOf_40 rfl (by decide) ?_
        refine zt_goto d_Sg_kindOf_41 (tgt := 46) (by decide) ?_
        exact zt_iret rfl d_Sg_kindOf_46 ⟨_, rfl, h14⟩
      · have h15 := h11.2 c13
        refine zt_iload_n 0 d_Sg_kindOf_34 rfl rfl rfl ?_
        refine zt_bipush (v := 46) d_Sg_kindOf_35 rfl (by decide) ?_
        refine zt_icmp_ne d_Sg_kindOf_37 rfl (tgt := 44) (by decide) ⟨fun c16 => ?_, fun c16 => ?_⟩
        · have h17 := h15.1 c16
          refine zt_iconst (v := 2) d_Sg_kindOf_40 rfl (by decide) ?_
          refine zt_goto d_Sg_kindOf_41 (tgt := 46) (by decide) ?_
          exact zt_iret rfl d_Sg_kindOf_46 ⟨_, rfl, h17⟩
        · have h18 := h15.2 c16
          refine zt_bipush (v := -6) d_Sg_kindOf_44 rfl (by decide) ?_
          exact zt_iret rfl d_Sg_kindOf_46 ⟨_, rfl, h18⟩
    · have h12 := h3.2 c10
      refine zt_iconst (v := 1) d_Sg_kindOf_26 rfl (by decide) ?_
      exact zt_iret rfl d_Sg_kindOf_27 ⟨_, rfl, h12⟩
theorem e_Sg_at {Q : Int32 → Mem → Prop} {M : Mem} {a0 n0 : Nat} (t0 : T_Sg zX a0 n0) {x1 : Int32} (h : (x1 < 0 → (Q 0 M)) ∧ (¬ x1 < 0 → (((M.1 a0 2) ≤ x1 → (Q 0 M)) ∧ (¬ (M.1 a0 2) ≤ x1 → (vp_in x1 n0 ∧ (Q (M.1 (a0 + 1) x1.toNatClampNeg) M)))))) : CallI zX m_Sg_at [.ref a0, .int x1] M Q := by
  refine call_of (by decide) (Nat.le_of_ble_eq_true rfl) ?_
  show wp zX m_Sg_at (QI Q) 0 [(0, .ref a0), (1, .int x1)] [] M
  refine zt_iload_n 1 d_Sg_at_0 rfl rfl rfl ?_
  refine zt_if_lt d_Sg_at_1 rfl (tgt := 21) (by decide) ⟨fun c1 => ?_, fun c1 => ?_⟩
  · have h2 := h.1 c1
    refine zt_iconst (v := 0) d_Sg_at_21 rfl (by decide) ?_
    exact zt_iret rfl d_Sg_at_22 ⟨_, rfl, h2⟩
  · have h3 := h.2 c1
    refine zt_iload_n 1 d_Sg_at_4 rfl rfl rfl ?_
    refine zt_aload_n 0 d_Sg_at_5 rfl rfl rfl ?_
    refine zt_getI d_Sg_at_6 rfl fl_Sg_24 t0.1 ?_
    refine zt_icmp_ge d_Sg_at_9 rfl (tgt := 21) (by decide) ⟨fun c4 => ?_, fun c4 => ?_⟩
    · have h5 := h3.1 c4
      refine zt_iconst (v := 0) d_Sg_at_21 rfl (by decide) ?_
      exact zt_iret rfl d_Sg_at_22 ⟨_, rfl, h5⟩
    · have h6 := h3.2 c4
      refine zt_aload_n 0 d_Sg_at_12 rfl rfl rfl ?_
      refine zt_getR (b := a0 + 1) d_Sg_at_13 rfl fl_Sg_15 rfl t0.1 ?_
      refine zt_iload_n 1 d_Sg_at_16 rfl rfl rfl ?_
      obtain ⟨g7, h8⟩ := h6
      refine zt_iald d_Sg_at_17 rfl t0.2.1 g7 ?_
      refine zt_goto d_Sg_at_18 (tgt := 22) (by decide) ?_
      exact zt_iret rfl d_Sg_at_22 ⟨_, rfl, h8⟩
theorem e_Sg_kindAt {Q : Int32 → Mem → Prop} {M : Mem} {a0 n0 : Nat} (t0 : T_Sg zX a0 n0) {x1 : Int32} (h : (x1 < 0 → (Q (-6) M)) ∧ (¬ x1 < 0 → (((M.1 a0 2) ≤ x1 → (Q (-6) M)) ∧ (¬ (M.1 a0 2) ≤ x1 → (vp_in x1 n0 ∧ (Q (M.1 (a0 + 2) x1.toNatClampNeg) M)))))) : CallI zX m_Sg_kindAt [.ref a0, .int x1] M Q := by
  refine call_of (by decide) (Nat.le_of_ble_eq_true rfl) ?_
  show wp zX m_Sg_kindAt (QI Q) 0 [(0, .ref a0), (1, .int x1)] [] M
  refine zt_iload_n 1 d_Sg_kindAt_0 rfl rfl rfl ?_
  refine zt_if_lt d_Sg_kindAt_1 rfl (tgt := 21) (by decide) ⟨fun c1 => ?_, fun c1 => ?_⟩
  · have h2 := h.1 c1
    refine zt_bipush (v := -6) d_Sg_kindAt_21 rfl (by decide) ?_
    exact zt_iret rfl d_Sg_kindAt_23 ⟨_, rfl, h2⟩
  · have h3 := h.2 c1
    refine zt_iload_n 1 d_Sg_kindAt_4 rfl rfl rfl ?_
    refine zt_aload_n 0 d_Sg_kindAt_5 rfl rfl rfl ?_
    refine zt_getI d_Sg_kindAt_6 rfl fl_Sg_24 t0.1 ?_
    refine zt_icmp_ge d_Sg_kindAt_9 rfl (tgt := 21) (by decide) ⟨fun c4 => ?_, fun c4 => ?_⟩
    · have h5 := h3.1 c4
      refine zt_bipush (v := -6) d_Sg_kindAt_21 rfl (by decide) ?_
      exact zt_iret rfl d_Sg_kindAt_23 ⟨_, rfl, h5⟩
    · have h6 := h3.2 c4
      refine zt_aload_n 0 d_Sg_kindAt_12 rfl rfl rfl ?_
      refine zt_getR (b := a0 + 2) d_Sg_kindAt_13 rfl fl_Sg_21 rfl t0.1 ?_
      refine zt_iload_n 1 d_Sg_kindAt_16 rfl rfl rfl ?_
      obtain ⟨g7, h8⟩ := h6
      refine zt_iald d_Sg_kindAt_17 rfl t0.2.2 g7 ?_
      refine zt_goto d_Sg_kindAt_18 (tgt := 23) (by decide) ?_
      exact zt_iret rfl d_Sg_kindAt_23 ⟨_, rfl, h8⟩
theorem e_Sg_addFrom {Q : Mem → Prop} {M : Mem} {a0 n0 : Nat} (t0 : T_Sg zX a0 n0) {a1 n1 : Nat} (t1 : T_Sg zX a1 n1) {x2 : Int32} {x3 : Int32} (h : wp zX m_Sg_addFrom (QV Q) 3 [(0, .ref a0), (1, .ref a1), (3, .int x3), (4, .int x2)] [] M) : CallV zX m_Sg_addFrom [.ref a0, .ref a1, .int x2, .int x3] M Q := by
  refine call_of (by decide) (Nat.le_of_ble_eq_true rfl) ?_
  show wp zX m_Sg_addFrom (QV Q) 0 [(0, .ref a0), (1, .ref a1), (2, .int x2), (3, .int x3)] [] M
  refine zt_iload_n 2 d_Sg_addFrom_0 rfl rfl rfl ?_
  refine zt_istore d_Sg_addFrom_1 rfl (by decide) rfl ?_
  exact zt_sub [1, 2, 4, 0] rfl h
theorem b_Sg_addFrom_3 {Q : Mem → Prop} {M : Mem} {a0 n0 : Nat} (t0 : T_Sg zX a0 n0) {a1 n1 : Nat} (t1 : T_Sg zX a1 n1) {x3 : Int32} {x4 : Int32} (h : (x3 ≤ x4 → (Q M)) ∧ (¬ x3 ≤ x4 → (((M.1 a1 2) ≤ x4 → (Q M)) ∧ (¬ (M.1 a1 2) ≤ x4 → (CallI zX m_Sg_at [.ref a1, .int x4] M (fun r9 M8 => CallI zX m_Sg_add [.ref a0, .int r9] M8 (fun r12 M11 => wp zX m_Sg_addFrom (QV Q) 3 [(0, .ref a0), (1, .ref a1), (3, .int x3), (4, .int (x4 + 1))] [] M11))))))) : wp zX m_Sg_addFrom (QV Q) 3 [(0, .ref a0), (1, .ref a1), (3, .int x3), (4, .int x4)] [] M := by
  refine zt_iload 3 d_Sg_addFrom_3 rfl rfl ?_
  refine zt_iload_n 2 d_Sg_addFrom_5 rfl rfl rfl ?_
  refine zt_icmp_ge d_Sg_addFrom_6 rfl (tgt := 35) (by decide) ⟨fun c1 => ?_, fun c1 => ?_⟩
  · have h2 := h.1 c1
    exact zt_vret rfl d_Sg_addFrom_35 ⟨rfl, h2⟩
  · have h3 := h.2 c1
    refine zt_iload 3 d_Sg_addFrom_9 rfl rfl ?_
    refine zt_aload_n 1 d_Sg_addFrom_11 rfl rfl rfl ?_
    refine zt_getI d_Sg_addFrom_12 rfl fl_Sg_24 t1.1 ?_
    refine zt_icmp_ge d_Sg_addFrom_15 rfl (tgt := 35) (by decide) ⟨fun c4 => ?_, fun c4 => ?_⟩
    · have h5 := h3.1 c4
      exact zt_vret rfl d_Sg_addFrom_35 ⟨rfl, h5⟩
    · have h6 := h3.2 c4
      refine zt_aload_n 0 d_Sg_addFrom_18 rfl rfl rfl ?_
      refine zt_aload_n 1 d_Sg_addFrom_19 rfl rfl rfl ?_
      refine zt_iload 3 d_Sg_addFrom_20 rfl rfl ?_
      refine zt_callVI (as := [.int x4]) d_Sg_addFrom_22 rfl mi_Sg_at ⟨Nat.le_of_ble_eq_true rfl, Nat.le_of_ble_eq_true rfl⟩ wd_280 rfl rfl (Nat.le_of_ble_eq_true rfl) t1.1 h6 (fun r9 M8 h7 => ?_)
      refine zt_callVI (as := [.int r9]) d_Sg_addFrom_25 rfl mi_Sg_add ⟨Nat.le_of_ble_eq_true rfl, Nat.le_of_ble_eq_true rfl⟩ wd_281 rfl rfl (Nat.le_of_ble_eq_true rfl) t0.1 h7 (fun r12 M11 h10 => ?_)
      refine zt_pop d_Sg_addFrom_28 rfl rfl ?_
      refine zt_iinc (v := (x4 + 1)) 3 d_Sg_addFrom_29 rfl rfl rfl (by decide) rfl ?_
      refine zt_goto d_Sg_addFrom_32 (tgt := 3) (by decide) ?_
      exact zt_sub [1, 2, 3, 0] rfl h10
theorem e_Sg_copy {Q : Mem → Prop} {M : Mem} {a0 n0 : Nat} (t0 : T_Sg zX a0 n0) {a1 n1 : Nat} (t1 : T_Sg zX a1 n1) (h : CallV zX m_Sg_clear [.ref a0] M (fun M2 => CallV zX m_Sg_addFrom [.ref a0, .ref a1, .int 0, .int (M2.1 a1 2)] M2 (fun M5 => Q M5))) : CallV zX m_Sg_copy [.ref a0, .ref a1] M Q := by
  refine call_of (by decide) (Nat.le_of_ble_eq_true rfl) ?_
  show wp zX m_Sg_copy (QV Q) 0 [(0, .ref a0), (1, .ref a1)] [] M
  refine zt_aload_n 0 d_Sg_copy_0 rfl rfl rfl ?_
  refine zt_callVV (as := []) d_Sg_copy_1 rfl mi_Sg_clear ⟨Nat.le_of_ble_eq_true rfl, Nat.le_of_ble_eq_true rfl⟩ wd_311 rfl rfl (Nat.le_of_ble_eq_true rfl) t0.1 h (fun M2 h1 => ?_)
  refine zt_aload_n 0 d_Sg_copy_4 rfl rfl rfl ?_
  refine zt_aload_n 1 d_Sg_copy_5 rfl rfl rfl ?_
  refine zt_iconst (v := 0) d_Sg_copy_6 rfl (by decide) ?_
  refine zt_aload_n 1 d_Sg_copy_7 rfl rfl rfl ?_
  refine zt_getI d_Sg_copy_8 rfl fl_Sg_24 t1.1 ?_
  refine zt_callVV (as := [.ref a1, .int 0, .int (M2.1 a1 2)]) d_Sg_copy_11 rfl mi_Sg_addFrom ⟨Nat.le_of_ble_eq_true rfl, Nat.le_of_ble_eq_true rfl⟩ wd_312 rfl rfl (Nat.le_of_ble_eq_true rfl) t0.1 h1 (fun M5 h4 => ?_)
  exact zt_vret rfl d_Sg_copy_14 ⟨rfl, h4⟩
theorem e_Sg_signsEnd {Q : Int32 → Mem → Prop} {M : Mem} {a0 n0 : Nat} (t0 : T_Sg zX a0 n0) {x1 : Int32} {x2 : Int32} (h : wp zX m_Sg_signsEnd (QI Q) 2 [(0, .ref a0), (1, .int x1), (2, .int x2), (3, .int x1)] [] M) : CallI zX m_Sg_signsEnd [.ref a0, .int x1, .int x2] M Q := by
  refine call_of (by decide) (Nat.le_of_ble_eq_true rfl) ?_
  show wp zX m_Sg_signsEnd (QI Q) 0 [(0, .ref a0), (1, .int x1), (2, .int x2)] [] M
  refine zt_iload_n 1 d_Sg_signsEnd_0 rfl rfl rfl ?_
  refine zt_istore_n d_Sg_signsEnd_1 rfl rfl (by decide) rfl ?_
  exact zt_sub [1, 2, 3, 0] rfl h
theorem b_Sg_signsEnd_2 {Q : Int32 → Mem → Prop} {M : Mem} {a0 n0 : Nat} (t0 : T_Sg zX a0 n0) {x1 : Int32} {x2 : Int32} {x3 : Int32} (h : ((M.1 a0 2) ≤ x3 → (Q x3 M)) ∧ (¬ (M.1 a0 2) ≤ x3 → ((x2 ≤ (x3 - x1) → (Q x3 M)) ∧ (¬ x2 ≤ (x3 - x1) → (CallI zX m_Sg_kindAt [.ref a0, .int x3] M (fun r9 M8 => (r9 = (-6) → (Q x3 M8)) ∧ (¬ r9 = (-6) → (wp zX m_Sg_signsEnd (QI Q) 2 [(0, .ref a0), (1, .int x1), (2, .int x2), (3, .int (x3 + 1))] [] M8)))))))) : wp zX m_Sg_signsEnd (QI Q) 2 [(0, .ref a0), (1, .int x1), (2, .int x2), (3, .int x3)] [] M := by
  refine zt_iload_n 3 d_Sg_signsEnd_2 rfl rfl rfl ?_
  refine zt_aload_n 0 d_Sg_signsEnd_3 rfl rfl rfl ?_
  refine zt_getI d_Sg_signsEnd_4 rfl fl_Sg_24 t0.1 ?_
  refine zt_icmp_ge d_Sg_signsEnd_7 rfl (tgt := 33) (by decide) ⟨fun c1 => ?_, fun c1 => ?_⟩
  · have h2 := h.1 c1
    refine zt_iload_n 3 d_Sg_signsEnd_33 rfl rfl rfl ?_
    exact zt_iret rfl d_Sg_signsEnd_34 ⟨_, rfl, h2⟩
  · have h3 := h.2 c1
    refine zt_iload_n 3 d_Sg_signsEnd_10 rfl rfl rfl ?_
    refine zt_iload_n 1 d_Sg_signsEnd_11 rfl rfl rfl ?_
    refine zt_isub d_Sg_signsEnd_12 rfl ?_
    refine zt_iload_n 2 d_Sg_signsEnd_13 rfl rfl rfl ?_
    refine zt_icmp_ge d_Sg_signsEnd_14 rfl (tgt := 33) (by decide) ⟨fun c4 => ?_, fun c4 => ?_⟩
    · have h5 := h3.1 c4
      refine zt_iload_n 3 d_Sg_signsEnd_33 rfl rfl rfl ?_
      exact zt_iret rfl d_Sg_signsEnd_34 ⟨_, rfl, h5⟩
    · have h6 := h3.2 c4
      refine zt_aload_n 0 d_Sg_signsEnd_17 rfl rfl rfl ?_
      refine zt_iload_n 3 d_Sg_signsEnd_18 rfl rfl rfl ?_
      refine zt_callVI (as := [.int x3]) d_Sg_signsEnd_19 rfl mi_Sg_kindAt ⟨Nat.le_of_ble_eq_true rfl, Nat.le_of_ble_eq_true rfl⟩ wd_251 rfl rfl (Nat.le_of_ble_eq_true rfl) t0.1 h6 (fun r9 M8 h7 => ?_)
      refine zt_bipush (v := -6) d_Sg_signsEnd_22 rfl (by decide) ?_
      refine zt_icmp_eq d_Sg_signsEnd_24 rfl (tgt := 33) (by decide) ⟨fun c10 => ?_, fun c10 => ?_⟩
      · have h11 := h7.1 c10
        refine zt_iload_n 3 d_Sg_signsEnd_33 rfl rfl rfl ?_
        exact zt_iret rfl d_Sg_signsEnd_34 ⟨_, rfl, h11⟩
      · have h12 := h7.2 c10
        refine zt_iinc (v := (x3 + 1)) 3 d_Sg_signsEnd_27 rfl rfl rfl (by decide) rfl ?_
        refine zt_goto d_Sg_signsEnd_30 (tgt := 2) (by decide) ?_
        exact zt_sub [1, 2, 3, 0] rfl h12
