/-! the constructor of the fitting -/
theorem bl_of (ci N : Nat) (bl : List Value) (h : ∀ j, j < N → defaultValue (ztf ci j) = vp_V bl j) (hb : ∀ B, bl.map (trV B) = bl) : ∀ (B j : Nat), j < N → defaultValue (ztf ci j) = vp_V (bl.map (trV B)) j := fun B j hj => by rw [hb]; exact h j hj
theorem Ft_ctr : CTR zX m_Ft_init 1 [.null, .null, .null, .null, .null, .null, .null, .null, .int 0, .int 0] 88 46 [] := by
  intro f hf
  refine call0_of (by decide) (by show 1 ≤ 2; decide) ?_
  refine s_aload_n 0 d_Ft_init_0 rfl rfl (s_objInit d_Ft_init_1 wd_71 wd_18 wd_19 (by decide) (by decide) ?_)
  refine c_anew (y := zX) (N := 4) (t := 6) (kl := 0) (INV.born hf) rfl rfl d_Ft_init_4 rfl (fun st cs ss n f kk => s_iconst d_Ft_init_5 rfl kk) d_Ft_init_6 (fun o => rfl) wd_72 (fun o U h => h.2.1.2.2.2.1) (by omega) (by decide) (by decide) d_Ft_init_9 fl_Ft_13 (fun cl h => by cases h; rfl) (by decide) (fun g1 hI1 hg1 _ => ?_)
  refine c_newI (N := 4) (kl := 0) hI1 rfl rfl d_Ft_init_12 rfl (fun st cs ss n f kk => s_iconst d_Ft_init_13 rfl kk) d_Ft_init_14 wd_39 (by omega) (by decide) (by decide) d_Ft_init_16 fl_Ft_17 (fun cl h => by cases h; rfl) (by simp) rfl (fun g2 hI2 e2 => ?_)
  refine c_newI (N := 62) (kl := 0) hI2 rfl rfl d_Ft_init_19 rfl (fun st cs ss n f kk => s_bipush d_Ft_init_20 (by decide) kk) d_Ft_init_22 wd_39 (by omega) (by decide) (by decide) d_Ft_init_24 fl_Ft_23 (fun cl h => by cases h; rfl) (by simp) rfl (fun g3 hI3 e3 => ?_)
  refine c_newI (N := 62) (kl := 0) hI3 rfl rfl d_Ft_init_27 rfl (fun st cs ss n f kk => s_bipush d_Ft_init_28 (by decide) kk) d_Ft_init_30 wd_39 (by omega) (by decide) (by decide) d_Ft_init_32 fl_Ft_26 (fun cl h => by cases h; rfl) (by simp) rfl (fun g4 hI4 e4 => ?_)
  refine c_newI (N := 62) (kl := 0) hI4 rfl rfl d_Ft_init_35 rfl (fun st cs ss n f kk => s_bipush d_Ft_init_36 (by decide) kk) d_Ft_init_38 wd_39 (by omega) (by decide) (by decide) d_Ft_init_40 fl_Ft_29 (fun cl h => by cases h; rfl) (by simp) rfl (fun g5 hI5 e5 => ?_)
  rw [← e2 47 (by omega) (by omega), ← e3 47 (by omega) (by omega), ← e4 47 (by omega) (by omega), ← e5 47 (by omega) (by omega)] at hg1
  refine s_aload_n 0 d_Ft_init_43 rfl rfl ?_
  refine c_newN (y := zX) (cj := 2) (as := []) (sz := 4) rfl d_Ft_init_44 rfl wd_74 wd_75 wd_6 (bl_of 2 4 [.null, .null, .null, .int 0] (fun j hj => by
    match j, hj with
    | 0, _ => rfl
    | 1, _ => rfl
    | 2, _ => rfl
    | 3, _ => rfl
    | j + 4, hj => exact absurd hj (by omega)) (fun B => rfl)) d_Ft_init_47 (fun st cs ss n f kk => kk) d_Ft_init_48 mk_Mv_init ⟨by decide, by decide⟩ (List.mem_of_getElem? (i := 0) rfl) wd_77 rfl rfl rfl (by show 1 ≤ 7; decide) (by decide) (by decide) (Mv_ctr rfl rfl rfl rfl) (fun g6 h61 h62 => ?_)
  rw [← h61 47 (by omega)] at hg1
  refine c_put (hI5.block h61 h62) rfl d_Ft_init_51 fl_Ft_35 (fun cl h => by cases h; rfl) (fun _ => ⟨rfl, rfl⟩) (by simp) (fun g7 hI7 e7 => ?_)
  rw [← e7 47 (by omega)] at hg1
  refine c_newL (N := 1296) (kl := 0) hI7 rfl rfl d_Ft_init_54 rfl (fun st cs ss n f kk => s_sipush d_Ft_init_55 (by decide) kk) d_Ft_init_58 wd_113 (by omega) (by decide) (by decide) d_Ft_init_60 fl_Ft_39 (fun cl h => by cases h; rfl) (by simp) rfl (fun g8 hI8 e8 => ?_)
  refine c_newI (N := 1296) (kl := 0) hI8 rfl rfl d_Ft_init_63 rfl (fun st cs ss n f kk => s_sipush d_Ft_init_64 (by decide) kk) d_Ft_init_67 wd_39 (by omega) (by decide) (by decide) d_Ft_init_69 fl_Ft_43 (fun cl h => by cases h; rfl) (by simp) rfl (fun g9 hI9 e9 => ?_)
  rw [← e8 47 (by omega) (by omega), ← e9 47 (by omega) (by omega)] at hg1
  refine s_iconst (v := nI 0) d_Ft_init_72 rfl (s_istore_n d_Ft_init_73 rfl (by decide) rfl ?_)
  have key : ∀ (j i : Nat) (g : Nat → En), i + j = 4 → INV zX f g 46 (58 + 19 * i) 1 [.ref 47, .ref 48, .ref 49, .ref 50, .ref 51, .ref 52, .ref 56, .ref 57, .int 0, .int 0] [47] → g 47 = .inl (6, 4, .inr (.inr (fun j => if j < i then some (47 + 11 + 19 * j) else none))) → wp0 m_Ft_init (fun v n' h => v = none ∧ n' = 46 + 88 ∧ (∀ b, b < 46 → h b = f b) ∧ ∀ b, 46 ≤ b → b < 46 + 88 → h b = ent zX M0 b) 74 [(1, .int (nI i)), (0, .ref 46)] [] (11 + 19 * i) (14337 + 279 * i) (58 + 19 * i) g := by
    intro j
    induction j with
    | zero =>
      intro i g hi hI hg
      have : i = 4 := by omega
      subst this
      refine s_iload_n 0 d_Ft_init_74 rfl rfl (s_iconst (v := nI 4) d_Ft_init_75 rfl (s_icmp_ge (tgt := 98) d_Ft_init_76 (by decide) (br_t (by decide) ?_)))
      have hd := (hI.full (b0 := 11) (k0 := 19) hg (by omega) (by omega) rfl).done rfl
      exact s_vret rfl d_Ft_init_98 (by decide) (by decide) ⟨rfl, by omega, hd.1, hd.2⟩
    | succ j ih =>
      intro i g hi hI hg
      have tR : T_Rw zX (58 + 19 * i) := T_rows i (by omega)
      refine s_iload_n 0 d_Ft_init_74 rfl rfl (s_iconst (v := nI 4) d_Ft_init_75 rfl (s_icmp_ge (tgt := 98) d_Ft_init_76 (by decide) (pk_le 4 i (fun z => absurd z (by omega)) (fun _ => ?_))))
      refine c_elem (r := 47) (k := 0) (t := 6) (N := 4) (i := i) (sz := 19) (cj := 5) (kl := 1) (kj := 0) (dc := 19) (ds := 279) hI rfl (by omega) (by omega) (List.mem_singleton.mpr rfl) hg (by omega) (by omega) (by omega) d_Ft_init_79 rfl d_Ft_init_80 fl_Ft_13 d_Ft_init_83 rfl (by show 11 + 19 * i + 19 ≤ 87; omega) (by show 14337 + 279 * i + 279 ≤ 15453; omega) (fun st cs ss w hW hc hs kk => c_newN (y := zX) (cj := 5) (as := []) (sz := 19) rfl d_Ft_init_84 rfl wd_72 wd_94 wd_7 (bl_of 5 3 [.null, .null, .null] (fun j hj => by
        match j, hj with
        | 0, _ => rfl
        | 1, _ => rfl
        | 2, _ => rfl
        | j + 3, hj => exact absurd hj (by omega)) (fun B => rfl)) d_Ft_init_87 (fun st cs ss n f kk => kk) d_Ft_init_88 mk_Rw_init ⟨by decide, by decide⟩ (List.mem_of_getElem? (i := 1) rfl) wd_96 rfl rfl rfl hW (by show cs + 1 + 18 ≤ _; rw [Nat.add_assoc]; exact hc) (by show ss + 3 + 276 ≤ _; rw [Nat.add_assoc]; exact hs) (Rw_ctr tR) (fun w2 hw1 hw2 => by
          have := kk w2 hw1 hw2
          rw [show cs + 19 = cs + 1 + 18 from by omega, show ss + 279 = ss + 3 + 276 from by omega] at this
          exact this)) d_Ft_init_91 (fun o => rfl) rfl tR.1 (fun h hI2 hh _ => ?_)
      rw [up_lt (N := 4) (by omega) (by omega)] at hh
      refine s_iinc (v := nI (i + 1)) 0 d_Ft_init_92 rfl (nI_1 i) (by decide) rfl (s_goto (tgt := 74) d_Ft_init_95 (by decide) ?_)
      have z := ih (i + 1) h (by omega) (by rw [show 58 + 19 * (i + 1) = 58 + 19 * i + 19 from by omega]; exact hI2) hh
      rw [show 58 + 19 * (i + 1) = 58 + 19 * i + 19 from by omega, show 11 + 19 * (i + 1) = 11 + 19 * i + 19 from by omega, show 14337 + 279 * (i + 1) = 14337 + 279 * i + 279 from by omega] at z
      exact z
  exact key 4 0 g9 rfl hI9 hg1
