/-! the constructors that make no objects in turn, and the signs -/
theorem wd_23 : ((Jvm.Cond.instanceMethod ({ cls := "EditGuess$Signs", name := "<init>", desc := "(I)V" } : Jvm.MethodName)) : Cond) ∈ zG := zgm (List.mem_append_right _ (List.mem_append_left _ (List.mem_of_getElem? (l := tables_1_1) (i := 23) rfl))) rfl
theorem wd_43 : ((Jvm.Cond.instanceMethod ({ cls := "EditGuess$Book", name := "<init>", desc := "()V" } : Jvm.MethodName)) : Cond) ∈ zG := zgm (List.mem_append_right _ (List.mem_append_left _ (List.mem_of_getElem? (l := tables_1_1) (i := 43) rfl))) rfl
theorem wd_69 : ((Jvm.Cond.instanceMethod ({ cls := "EditGuess$Fitting", name := "<init>", desc := "()V" } : Jvm.MethodName)) : Cond) ∈ zG := zgm (List.mem_append_right _ (List.mem_append_left _ (List.mem_of_getElem? (l := tables_1_1) (i := 69) rfl))) rfl
theorem wd_77 : ((Jvm.Cond.instanceMethod ({ cls := "EditGuess$Moves", name := "<init>", desc := "()V" } : Jvm.MethodName)) : Cond) ∈ zG := zgm (List.mem_append_right _ (List.mem_append_left _ (List.mem_of_getElem? (l := tables_1_1) (i := 77) rfl))) rfl
theorem wd_96 : ((Jvm.Cond.instanceMethod ({ cls := "EditGuess$Row", name := "<init>", desc := "()V" } : Jvm.MethodName)) : Cond) ∈ zG := zgm (List.mem_append_right _ (List.mem_append_left _ (List.mem_of_getElem? (l := tables_1_1) (i := 96) rfl))) rfl
theorem wd_148 : ((Jvm.Cond.instanceMethod ({ cls := "EditGuess$Plan", name := "<init>", desc := "()V" } : Jvm.MethodName)) : Cond) ∈ zG := zgm (List.mem_append_right _ (List.mem_append_left _ (List.mem_of_getElem? (l := tables_1_1) (i := 148) rfl))) rfl
theorem wd_155 : ((Jvm.Cond.instanceMethod ({ cls := "EditGuess$Piece", name := "<init>", desc := "()V" } : Jvm.MethodName)) : Cond) ∈ zG := zgm (List.mem_append_right _ (List.mem_append_left _ (List.mem_of_getElem? (l := tables_1_1) (i := 155) rfl))) rfl
theorem INV.born {y : List Sh} {f : Nat → En} {a ci : Nat} {fs : List Value} (hf : f a = .inr (ci, fs)) : INV y f f a (a + 1) ci fs [] := ⟨hf, by omega, fun _ _ => rfl, fun b h1 h2 => absurd h2 (by omega)⟩
theorem INV.done {y : List Sh} {f0 f : Nat → En} {a n ci : Nat} {fs : List Value} (hI : INV y f0 f a n ci fs []) (he : (.inr (ci, fs) : En) = ent y M0 a) : (∀ b, b < a → f b = f0 b) ∧ ∀ b, a ≤ b → b < n → f b = ent y M0 b :=
  ⟨hI.2.2.1, fun b h1 h2 => by
    by_cases c : b = a
    · subst c
      rw [hI.1]
      exact he
    · exact hI.2.2.2 b (by omega) h2 (fun z => by cases z)⟩
theorem Sg_ctr {y : List Sh} {a k : Nat} (t : T_Sg y a k) (hk : k ≤ 60) : CTR y m_Sg_init 6 [.null, .null, .int 0] 3 a [.int (nI k)] := by
  intro f hf
  refine call0_of (by decide) (by show 2 ≤ 3; decide) ?_
  refine s_aload_n 0 d_Sg_init_0 rfl rfl (s_objInit d_Sg_init_1 wd_25 wd_18 wd_19 (by decide) (by decide) ?_)
  refine s_iload_n 1 d_Sg_init_4 rfl rfl (s_iconst (v := 0) d_Sg_init_5 rfl (s_mmax d_Sg_init_6 wd_26 wd_27 wd_3 wd_28 (by decide) (by decide) (by decide) (by decide) ?_))
  rw [if_neg (nI_pos (by omega))]
  refine s_istore_n d_Sg_init_9 rfl (by decide) rfl ?_
  have hp : ∀ p1 p2, decode (zb m_Sg_init) p1 = .ok (.iload_n 2, 1) → p1 + 1 = p2 → ∀ Q, PUSH m_Sg_init Q [(2, .int (nI k)), (0, .ref a), (1, .int (nI k))] p1 p2 [.int (nI k)] := by
    rintro p1 p2 hd rfl Q st cs ss n f kk
    exact s_iload_n 0 hd rfl rfl kk
  refine c_newI (N := k) (kl := 1) (INV.born hf) rfl rfl d_Sg_init_10 rfl (hp _ _ d_Sg_init_11 rfl _) d_Sg_init_12 wd_39 (by omega) (by decide) (by show 0 + k ≤ 120; omega) d_Sg_init_14 fl_Sg_15 (fun cl h => by cases h; rfl) (by decide) t.2.1 (fun g hI _ => ?_)
  refine c_newI (N := k) (kl := 1) hI rfl rfl d_Sg_init_17 rfl (hp _ _ d_Sg_init_18 rfl _) d_Sg_init_19 wd_39 (by omega) (by decide) (by show 0 + k + k ≤ 120; omega) d_Sg_init_21 fl_Sg_21 (fun cl h => by cases h; rfl) (by simp) t.2.2 (fun g2 hI2 _ => ?_)
  have hd := hI2.done (by rw [ent_obj (ci := 6) t.1]; rfl)
  exact s_vret rfl d_Sg_init_24 (by decide) (by show 0 + k + k ≤ 120; omega) ⟨rfl, rfl, hd.1, hd.2⟩
theorem Mv_ctr {y : List Sh} {a : Nat} (h0 : zsh y a = (12, 0, 0, 0)) (h1 : zsh y (a + 1) = (0, 3849, 0, 0)) (h2 : zsh y (a + 2) = (0, 3849, 0, 0)) (h3 : zsh y (a + 3) = (0, 3849, 0, 0)) : CTR y m_Mv_init 2 [.null, .null, .null, .int 0] 4 a [] := by
  intro f hf
  refine call0_of (by decide) (by show 1 ≤ 1; decide) ?_
  refine s_aload_n 0 d_Mv_init_0 rfl rfl (s_objInit d_Mv_init_1 wd_79 wd_18 wd_19 (by decide) (by decide) ?_)
  have hp : ∀ p1 p2, decode (zb m_Mv_init) p1 = .ok (.sipush 3849, 3) → p1 + 3 = p2 → ∀ Q lo, PUSH m_Mv_init Q lo p1 p2 [.int (nI 3849)] := by
    rintro p1 p2 hd rfl Q lo st cs ss n f kk
    exact s_sipush hd (by decide) kk
  refine c_newI (N := 3849) (kl := 0) (INV.born hf) rfl rfl d_Mv_init_4 rfl (hp _ _ d_Mv_init_5 rfl _ _) d_Mv_init_8 wd_39 (by omega) (by decide) (by decide) d_Mv_init_10 fl_Mv_13 (fun cl h => by cases h; rfl) (by decide) h1 (fun g hI _ => ?_)
  refine c_newI (N := 3849) (kl := 0) hI rfl rfl d_Mv_init_13 rfl (hp _ _ d_Mv_init_14 rfl _ _) d_Mv_init_17 wd_39 (by omega) (by decide) (by decide) d_Mv_init_19 fl_Mv_17 (fun cl h => by cases h; rfl) (by simp) h2 (fun g2 hI2 _ => ?_)
  refine c_newI (N := 3849) (kl := 0) hI2 rfl rfl d_Mv_init_22 rfl (hp _ _ d_Mv_init_23 rfl _ _) d_Mv_init_26 wd_39 (by omega) (by decide) (by decide) d_Mv_init_28 fl_Mv_20 (fun cl h => by cases h; rfl) (by simp) h3 (fun g3 hI3 _ => ?_)
  have hd := hI3.done (by rw [ent_obj (ci := 2) h0]; rfl)
  exact s_vret rfl d_Mv_init_31 (by decide) (by decide) ⟨rfl, rfl, hd.1, hd.2⟩
theorem Pc_ctr {y : List Sh} {a : Nat} (t : T_Pc y a) : CTR y m_Pc_init 3 [.null, .int 0, .int 0, .int 0] 4 a [] := by
  intro f hf
  refine call0_of (by decide) (by show 1 ≤ 1; decide) ?_
  refine s_aload_n 0 d_Pc_init_0 rfl rfl (s_objInit d_Pc_init_1 wd_157 wd_18 wd_19 (by decide) (by decide) ?_)
  refine s_aload_n 0 d_Pc_init_4 rfl rfl ?_
  refine c_new (y := y) (cj := 6) (as := [.int (nI 5)]) (sz := 3) rfl d_Pc_init_5 rfl wd_158 wd_21 wd_2 (fun B j hj => by
    match j, hj with
    | 0, _ => rfl
    | 1, _ => rfl
    | 2, _ => rfl
    | j + 3, hj => exact absurd hj (by show ¬ j + 3 < 3; omega)) d_Pc_init_8 (fun st cs ss n f kk => s_iconst d_Pc_init_9 rfl kk) d_Pc_init_10 mk_Sg_init ⟨by decide, by decide⟩ wd_159 wd_23 rfl rfl rfl (by show 1 ≤ 7; decide) (by decide) (by decide) (Sg_ctr t.2 (by omega)) (fun g h1 h2 => ?_)
  refine c_put ((INV.born hf).block h1 h2) rfl d_Pc_init_13 fl_Pc_14 (fun cl h => by cases h; rfl) (fun _ => ⟨rfl, rfl⟩) (by decide) (fun g2 hI2 _ => ?_)
  have hd := hI2.done (by rw [ent_obj (ci := 3) t.1]; rfl)
  exact s_vret rfl d_Pc_init_16 (by decide) (by decide) ⟨rfl, rfl, hd.1, hd.2⟩
