/-! the constructors of rows and plans and books -/
theorem Rw_ctr {y : List Sh} {a : Nat} (t : T_Rw y a) : CTR y m_Rw_init 5 [.null, .null, .null] 19 a [] := by
  intro f hf
  refine call0_of (by decide) (by show 1 ≤ 1; decide) ?_
  refine s_aload_n 0 d_Rw_init_0 rfl rfl (s_objInit d_Rw_init_1 wd_98 wd_18 wd_19 (by decide) (by decide) ?_)
  refine s_aload_n 0 d_Rw_init_4 rfl rfl ?_
  refine c_new (y := y) (cj := 6) (as := [.int (nI 5)]) (sz := 3) rfl d_Rw_init_5 rfl wd_99 wd_21 wd_2 (fun B j hj => by
    match j, hj with
    | 0, _ => rfl
    | 1, _ => rfl
    | 2, _ => rfl
    | j + 3, hj => exact absurd hj (by show ¬ j + 3 < 3; omega)) d_Rw_init_8 (fun st cs ss n f kk => s_iconst d_Rw_init_9 rfl kk) d_Rw_init_10 mk_Sg_init ⟨by decide, by decide⟩ wd_100 wd_23 rfl rfl rfl (by show 1 ≤ 7; decide) (by decide) (by decide) (Sg_ctr t.2.1 (by omega)) (fun g h1 h2 => ?_)
  refine c_put ((INV.born hf).block h1 h2) rfl d_Rw_init_13 fl_Rw_14 (fun cl h => by cases h; rfl) (fun _ => ⟨rfl, rfl⟩) (by decide) (fun g2 hI2 _ => ?_)
  refine c_newI (N := 62) (kl := 0) hI2 rfl rfl d_Rw_init_16 rfl (fun st cs ss n f kk => s_bipush d_Rw_init_17 (by decide) kk) d_Rw_init_19 wd_39 (by omega) (by decide) (by decide) d_Rw_init_21 fl_Rw_22 (fun cl h => by cases h; rfl) (by simp) t.2.2.1 (fun g3 hI3 _ => ?_)
  refine s_aload_n 0 d_Rw_init_24 rfl rfl (s_bipush (v := nI 13) d_Rw_init_25 (by decide) (s_bipush (v := nI 6) d_Rw_init_27 (by decide) ?_))
  refine s_mna rfl d_Rw_init_29 wd_101 (fun o U h => h.2.1.2.2.2.2) wd_39 (by omega) (by omega) (by decide) (by decide) ?_
  have hG : INV y f (zgrid g3 (a + 1 + 3 + 1) 13 6) a (a + 1 + 3 + 1 + (1 + 13)) 5 (([.null, .null, .null].set 0 (.ref (a + 1))).set 1 (.ref (a + 1 + 3))) [] := by
    refine ⟨by rw [zgrid, if_neg (by omega), if_neg (by omega)]; exact hI3.1, by omega, fun b hb => by rw [zgrid, if_neg (by omega), if_neg (by omega)]; exact hI3.2.2.1 b hb, fun b h7 h8 h9 => ?_⟩
    by_cases c1 : b = a + 1 + 3 + 1
    · subst c1
      rw [zgrid, if_pos rfl, ent_ref (t := 7) (len := 13) (b := 1) (k := 1) t.2.2.2.1 (by omega) (by omega)]
      refine congrArg (fun z => (.inl (7, 13, .inr (.inr z)) : En)) (funext fun i => ?_)
      rw [Nat.one_mul]
    · by_cases c2 : a + 1 + 3 + 1 < b ∧ b ≤ a + 1 + 3 + 1 + 13
      · rw [zgrid, if_neg c1, if_pos c2]
        have := t.2.2.2.2 (b - (a + 6)) (by omega)
        rw [show a + 5 + 1 + 1 * (b - (a + 6)) = b from by omega] at this
        rw [ent_int this]
        rfl
      · rw [zgrid, if_neg c1, if_neg c2]
        exact hI3.2.2.2 b h7 (by omega) h9
  refine c_put hG rfl d_Rw_init_33 fl_Rw_28 (fun cl h => by cases h; rfl) (fun _ => ⟨rfl, rfl⟩) (by simp) (fun g4 hI4 _ => ?_)
  have hd := hI4.done (by rw [ent_obj (ci := 5) t.1]; rfl)
  exact s_vret rfl d_Rw_init_36 (by decide) (by decide) ⟨rfl, by omega, hd.1, hd.2⟩
