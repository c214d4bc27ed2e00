/-! the constructor of the class -/
theorem bk_bl : ∀ (B j : Nat), j < 5 → defaultValue (ztf 0 j) = vp_V (([.null, .null, .null, .int 0, .int 0] : List Value).map (trV B)) j := bl_of 0 5 _ (fun j hj => by
  match j, hj with
  | 0, _ => rfl
  | 1, _ => rfl
  | 2, _ => rfl
  | 3, _ => rfl
  | 4, _ => rfl
  | j + 5, hj => exact absurd hj (by omega)) (fun B => rfl)
theorem ft_bl : ∀ (B j : Nat), j < 10 → defaultValue (ztf 1 j) = vp_V (([.null, .null, .null, .null, .null, .null, .null, .null, .int 0, .int 0] : List Value).map (trV B)) j := bl_of 1 10 _ (fun j hj => by
  match j, hj with
  | 0, _ => rfl
  | 1, _ => rfl
  | 2, _ => rfl
  | 3, _ => rfl
  | 4, _ => rfl
  | 5, _ => rfl
  | 6, _ => rfl
  | 7, _ => rfl
  | 8, _ => rfl
  | 9, _ => rfl
  | j + 10, hj => exact absurd hj (by omega)) (fun B => rfl)
theorem pl_bl : ∀ (B j : Nat), j < 2 → defaultValue (ztf 4 j) = vp_V (([.null, .int 0] : List Value).map (trV B)) j := bl_of 4 2 _ (fun j hj => by
  match j, hj with
  | 0, _ => rfl
  | 1, _ => rfl
  | j + 2, hj => exact absurd hj (by omega)) (fun B => rfl)
theorem E_init_ok {f : Nat → En} (hf : f 0 = .inr (7, [.null, .null, .null, .null, .null, .null, .null, .null, .int 0, .long 0])) {P : Mem → Prop} (kP : ∀ M', (∀ j, j < 6 → M'.2 159 j = -1) → FR 159 160 M0 M' → P M') : Call0 m_E_init [.ref 0] 1 f (fun v n g => v = none ∧ n = 240 ∧ ∃ M', g = ent zX M' ∧ P M') := by
  refine call0_of (by decide) (by show 1 ≤ 2; decide) ?_
  refine s_aload_n 0 d_E_init_0 rfl rfl (s_objInit d_E_init_1 wd_17 wd_18 wd_19 (by decide) (by decide) ?_)
  refine s_aload_n 0 d_E_init_4 rfl rfl ?_
  refine c_new (y := zX) (cj := 6) (as := [.int (nI 18)]) (sz := 3) rfl d_E_init_5 rfl wd_20 wd_21 wd_2 sg_bl d_E_init_8 (fun st cs ss n f kk => s_bipush d_E_init_9 (by decide) kk) d_E_init_11 mk_Sg_init ⟨by decide, by decide⟩ wd_22 wd_23 rfl rfl rfl (by show 1 ≤ 7; decide) (by decide) (by decide) (Sg_ctr T_pad (by omega)) (fun g1 h1 h1' => ?_)
  refine c_put ((INV.born hf).block h1 h1') rfl d_E_init_14 fl_E_14 (fun cl h => by cases h; rfl) (fun _ => ⟨rfl, rfl⟩) (by decide) (fun g2 hI2 _ => ?_)
  refine s_aload_n 0 d_E_init_17 rfl rfl ?_
  refine c_new (y := zX) (cj := 0) (as := []) (sz := 40) rfl d_E_init_18 rfl wd_40 wd_41 wd_4 bk_bl d_E_init_21 (fun st cs ss n f kk => kk) d_E_init_22 mk_Bk_init ⟨by decide, by decide⟩ wd_42 wd_43 rfl rfl rfl (by show 1 ≤ 7; decide) (by decide) (by decide) (Bk_ctr T_book) (fun g3 h3 h3' => ?_)
  refine c_put (hI2.block h3 h3') rfl d_E_init_25 fl_E_21 (fun cl h => by cases h; rfl) (fun _ => ⟨rfl, rfl⟩) (by simp) (fun g4 hI4 _ => ?_)
  refine c_anew (y := zX) (N := 2) (t := 4) (kl := 0) hI4 rfl rfl d_E_init_28 rfl (fun st cs ss n f kk => s_iconst d_E_init_29 rfl kk) d_E_init_30 (fun o => rfl) wd_40 (fun o U h => h.2.1.2.1) (by omega) (by decide) (by decide) d_E_init_33 fl_E_25 (fun cl h => by cases h; rfl) (by simp) (fun g5 hI5 hg _ => ?_)
  refine c_newZ (N := 2) (kl := 0) hI5 rfl rfl d_E_init_36 rfl (fun st cs ss n f kk => s_iconst d_E_init_37 rfl kk) d_E_init_38 wd_93 (by omega) (by decide) (by decide) d_E_init_40 fl_E_29 (fun cl h => by cases h; rfl) (by simp) rfl (fun g6 hI6 e6 => ?_)
  have hg6 : g6 44 = .inl (4, 2, .inr (.inr (fun _ => none))) := by rw [e6 44 (by omega) (by omega)]; exact hg
  refine s_aload_n 0 d_E_init_43 rfl rfl ?_
  refine c_new (y := zX) (cj := 1) (as := []) (sz := 88) rfl d_E_init_44 rfl wd_66 wd_67 wd_5 ft_bl d_E_init_47 (fun st cs ss n f kk => kk) d_E_init_48 mk_Ft_init ⟨by decide, by decide⟩ wd_68 wd_69 rfl rfl rfl (by show 1 ≤ 7; decide) (by decide) (by decide) Ft_ctr (fun g7 h7 h7' => ?_)
  refine c_put (hI6.block h7 h7') rfl d_E_init_51 fl_E_36 (fun cl h => by cases h; rfl) (fun _ => ⟨rfl, rfl⟩) (by simp) (fun g8 hI8 e8 => ?_)
  have hg8 : g8 44 = .inl (4, 2, .inr (.inr (fun _ => none))) := by rw [e8 44 (by omega), h7 44 (by omega)]; exact hg6
  refine s_aload_n 0 d_E_init_54 rfl rfl ?_
  refine c_new (y := zX) (cj := 4) (as := []) (sz := 22) rfl d_E_init_55 rfl wd_145 wd_146 wd_8 pl_bl d_E_init_58 (fun st cs ss n f kk => kk) d_E_init_59 mk_Pl_init ⟨by decide, by decide⟩ wd_147 wd_148 rfl rfl rfl (by show 1 ≤ 7; decide) (by decide) (by decide) (Pl_ctr rfl rfl T_pieces) (fun g9 h9 h9' => ?_)
  refine c_put (hI8.block h9 h9') rfl d_E_init_62 fl_E_43 (fun cl h => by cases h; rfl) (fun _ => ⟨rfl, rfl⟩) (by simp) (fun g10 hI10 e10 => ?_)
  have hg10 : g10 44 = .inl (4, 2, .inr (.inr (fun _ => none))) := by rw [e10 44 (by omega), h9 44 (by omega)]; exact hg8
  refine s_aload_n 0 d_E_init_65 rfl rfl ?_
  refine c_new (y := zX) (cj := 6) (as := [.int (nI 60)]) (sz := 3) rfl d_E_init_66 rfl wd_20 wd_21 wd_2 sg_bl d_E_init_69 (fun st cs ss n f kk => s_bipush d_E_init_70 (by decide) kk) d_E_init_72 mk_Sg_init ⟨by decide, by decide⟩ wd_22 wd_23 rfl rfl rfl (by show 1 ≤ 7; decide) (by decide) (by decide) (Sg_ctr T_made (by omega)) (fun g11 h11 h11' => ?_)
  refine c_put (hI10.block h11 h11') rfl d_E_init_75 fl_E_47 (fun cl h => by cases h; rfl) (fun _ => ⟨rfl, rfl⟩) (by simp) (fun g12 hI12 e12 => ?_)
  have hg12 : g12 44 = .inl (4, 2, .inr (.inr (fun _ => none))) := by rw [e12 44 (by omega), h11 44 (by omega)]; exact hg10
  refine c_newL (N := 6) (kl := 0) hI12 rfl rfl d_E_init_78 rfl (fun st cs ss n f kk => s_bipush d_E_init_79 (by decide) kk) d_E_init_81 wd_113 (by omega) (by decide) (by decide) d_E_init_83 fl_E_50 (fun cl h => by cases h; rfl) (by simp) rfl (fun g13 hI13 e13 => ?_)
  have hg13 : g13 44 = .inl (4, 2, .inr (.inr (fun _ => none))) := by rw [e13 44 (by omega) (by omega)]; exact hg12
  refine s_iconst (v := nI 0) d_E_init_86 rfl (s_istore_n d_E_init_87 rfl (by decide) rfl ?_)
  have key : ∀ (j i : Nat) (g : Nat → En), i + j = 2 → INV zX f g 0 (160 + 40 * i) 7 [.ref 1, .ref 4, .ref 44, .ref 45, .ref 46, .ref 134, .ref 156, .ref 159, .int 0, .long 0] [44] → g 44 = .inl (4, 2, .inr (.inr (fun j => if j < i then some (44 + 116 + 40 * j) else none))) → wp0 m_E_init (fun v n g => v = none ∧ n = 240 ∧ ∃ M', g = ent zX M' ∧ P M') 88 [(1, .int (nI i)), (0, .ref 0)] [] (159 + 40 * i) (17854 + 1493 * i) (160 + 40 * i) g := by
    intro j
    induction j with
    | zero =>
      intro i g hi hI hg
      have : i = 2 := by omega
      subst this
      refine s_iload_n 0 d_E_init_88 rfl rfl (s_iconst (v := nI 2) d_E_init_89 rfl (s_icmp_ge (tgt := 112) d_E_init_90 (by decide) (br_t (by decide) ?_)))
      have hd := (hI.full (b0 := 116) (k0 := 40) hg (by omega) (by omega) rfl).done rfl
      refine s_cong (g := ent zX M0) (fun b hb => hd.2 b (Nat.zero_le _) hb) ?_
      refine s_aload_n 1 d_E_init_112 rfl rfl ?_
      obtain ⟨⟨z1, z2, z3, z4⟩, z5, z6, z7, z8, z9, cl, z10, z11⟩ := mi_E_poolChanged
      have hz : zX.length = 240 := by decide +kernel
      have hPC : Call0 m_E_poolChanged [.ref 0] 240 (ent zX M0) (fun v n f => n = 240 ∧ ∃ M', f = ent zX M' ∧ QV P v M') := by
        have := E_poolChanged_ok (M := M0) (Q := P) kP
        unfold CallV Call at this
        rw [hz] at this
        exact this
      rw [show 160 + 40 * 2 = 240 from rfl, show 17854 + 1493 * 2 = 20840 from rfl, show 159 + 40 * 2 = 239 from rfl]
      refine s_callV (b := 0) (as := []) d_E_init_113 ⟨by decide, by decide, (fun g => by rw [z9] at g; cases g), z1, z2, z3, z4⟩ wd_180 z5 z6 z10 z11 (ent_obj (ci := 7) rfl) (by omega) rfl rfl (by decide) (by decide) (by decide) hPC (fun v n' g' hq => ?_)
      obtain ⟨rfl, M', rfl, rfl, hP⟩ := hq
      exact s_vret rfl d_E_init_116 (by decide) (by decide) ⟨rfl, rfl, M', rfl, hP⟩
    | succ j ih =>
      intro i g hi hI hg
      have tB : T_Bk zX (160 + 40 * i) := T_images i (by omega)
      refine s_iload_n 0 d_E_init_88 rfl rfl (s_iconst (v := nI 2) d_E_init_89 rfl (s_icmp_ge (tgt := 112) d_E_init_90 (by decide) (pk_le 2 i (fun z => absurd z (by omega)) (fun _ => ?_))))
      refine c_elem (r := 44) (k := 2) (t := 4) (N := 2) (i := i) (sz := 40) (cj := 0) (kl := 1) (kj := 0) (dc := 40) (ds := 1493) hI rfl (by omega) (by omega) (List.mem_singleton.mpr rfl) hg (by omega) (by omega) (by omega) d_E_init_93 rfl d_E_init_94 fl_E_25 d_E_init_97 rfl (by show 159 + 40 * i + 40 ≤ 239; omega) (by show 17854 + 1493 * i + 1493 ≤ 20840; omega) (fun st cs ss w hW hc hs kk => c_new (y := zX) (cj := 0) (as := []) (sz := 40) rfl d_E_init_98 rfl wd_40 wd_41 wd_4 bk_bl d_E_init_101 (fun st cs ss n f kk => kk) d_E_init_102 mk_Bk_init ⟨by decide, by decide⟩ wd_42 wd_43 rfl rfl rfl hW (by show cs + 1 + 39 ≤ _; rw [Nat.add_assoc]; exact hc) (by show ss + 5 + 1488 ≤ _; rw [Nat.add_assoc]; exact hs) (Bk_ctr tB) (fun w2 hw1 hw2 => by
          have := kk w2 hw1 hw2
          rw [show cs + 40 = cs + 1 + 39 from by omega, show ss + 1493 = ss + 5 + 1488 from by omega] at this
          exact this)) d_E_init_105 (fun o => rfl) rfl tB.1 (fun h hI2 hh _ => ?_)
      rw [up_lt (N := 2) (by omega) (by omega)] at hh
      refine s_iinc (v := nI (i + 1)) 0 d_E_init_106 rfl (nI_1 i) (by decide) rfl (s_goto (tgt := 88) d_E_init_109 (by decide) ?_)
      have z := ih (i + 1) h (by omega) (by rw [show 160 + 40 * (i + 1) = 160 + 40 * i + 40 from by omega]; exact hI2) hh
      rw [show 160 + 40 * (i + 1) = 160 + 40 * i + 40 from by omega, show 159 + 40 * (i + 1) = 159 + 40 * i + 40 from by omega, show 17854 + 1493 * (i + 1) = 17854 + 1493 * i + 1493 from by omega] at z
      exact z
  exact key 2 0 g13 rfl hI13 hg13
