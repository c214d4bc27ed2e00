/-! the constructor of books -/
theorem sg_bl : ∀ (B j : Nat), j < 3 → defaultValue (ztf 6 j) = vp_V (([.null, .null, .int 0] : List Value).map (trV B)) j := fun B j hj => by
  match j, hj with
  | 0, _ => rfl
  | 1, _ => rfl
  | 2, _ => rfl
  | j + 3, hj => exact absurd hj (by omega)
theorem Bk_mk {y : List Sh} {Q : Option Value → Nat → (Nat → En) → Prop} {lo : List (Nat × Value)} {p q n k : Nat} (h1 : decode (zb m_Bk_init) p = .ok (.new 9, 3)) (h2 : decode (zb m_Bk_init) (p + 3) = .ok (.dup, 1)) (hp : PUSH m_Bk_init Q lo (p + 4) q [.int (nI k)]) (h3 : decode (zb m_Bk_init) q = .ok (.invokespecial 23, 3)) (hk : k ≤ 60) (t : T_Sg y n k) : MAKE y m_Bk_init Q lo p (q + 3) n 3 3 123 := fun st cs ss w hW hc hs kk =>
  c_new (y := y) (cj := 6) (as := [.int (nI k)]) (sz := 3) rfl h1 rfl wd_46 wd_21 wd_2 sg_bl h2 hp h3 mk_Sg_init ⟨by decide, by decide⟩ wd_48 wd_23 rfl rfl rfl hW hc hs (Sg_ctr t hk) kk
theorem Bk_ctr {y : List Sh} {a : Nat} (t : T_Bk y a) : CTR y m_Bk_init 0 [.null, .null, .null, .int 0, .int 0] 40 a [] := by
  intro f hf
  refine call0_of (by decide) (by show 1 ≤ 2; decide) ?_
  refine s_aload_n 0 d_Bk_init_0 rfl rfl (s_objInit d_Bk_init_1 wd_45 wd_18 wd_19 (by decide) (by decide) ?_)
  refine c_anew (y := y) (N := 3) (t := 3) (kl := 0) (INV.born hf) rfl rfl d_Bk_init_4 rfl (fun st cs ss n f kk => s_iconst d_Bk_init_5 rfl kk) d_Bk_init_6 (fun o => rfl) wd_46 (fun o U h => h.2.1.1) (by omega) (by decide) (by decide) d_Bk_init_9 fl_Bk_11 (fun cl h => by cases h; rfl) (by decide) (fun g1 hI1 hg1 _ => ?_)
  refine c_anew (y := y) (N := 3) (t := 3) (kl := 0) hI1 rfl rfl d_Bk_init_12 rfl (fun st cs ss n f kk => s_iconst d_Bk_init_13 rfl kk) d_Bk_init_14 (fun o => rfl) wd_46 (fun o U h => h.2.1.1) (by omega) (by decide) (by decide) d_Bk_init_17 fl_Bk_17 (fun cl h => by cases h; rfl) (by simp) (fun g2 hI2 hg2 e2 => ?_)
  refine c_anew (y := y) (N := 6) (t := 3) (kl := 0) hI2 rfl rfl d_Bk_init_20 rfl (fun st cs ss n f kk => s_bipush d_Bk_init_21 (by decide) kk) d_Bk_init_23 (fun o => rfl) wd_46 (fun o U h => h.2.1.1) (by omega) (by decide) (by decide) d_Bk_init_26 fl_Bk_20 (fun cl h => by cases h; rfl) (by simp) (fun g3 hI3 hg3 e3 => ?_)
  rw [← e2 (a + 1) (by omega) (by omega), ← e3 (a + 1) (by omega) (by omega)] at hg1
  rw [← e3 (a + 1 + 1) (by omega) (by omega)] at hg2
  refine s_iconst (v := nI 0) d_Bk_init_29 rfl (s_istore_n d_Bk_init_30 rfl (by decide) rfl ?_)
  have key2 : ∀ (j i : Nat) (g : Nat → En), i + j = 6 → INV y f g a (a + 22 + 3 * i) 0 [.ref (a + 1), .ref (a + 2), .ref (a + 3), .int 0, .int 0] [a + 3] → g (a + 3) = .inl (3, 6, .inr (.inr (fun j => if j < i then some (a + 3 + 19 + 3 * j) else none))) → wp0 m_Bk_init (fun v n' h => v = none ∧ n' = a + 40 ∧ (∀ b, b < a → h b = f b) ∧ ∀ b, a ≤ b → b < a + 40 → h b = ent y M0 b) 73 [(1, .int (nI i)), (0, .ref a)] [] (21 + 3 * i) (750 + 123 * i) (a + 22 + 3 * i) g := by
    intro j
    induction j with
    | zero =>
      intro i g hi hI hg
      have : i = 6 := by omega
      subst this
      refine s_iload_n 0 d_Bk_init_73 rfl rfl (s_bipush (v := nI 6) d_Bk_init_74 (by decide) (s_icmp_ge (tgt := 100) d_Bk_init_76 (by decide) (br_t (by decide) ?_)))
      have hd := (hI.full (b0 := 19) (k0 := 3) hg (by omega) (by omega) t.2.2.2.1).done (by rw [ent_obj (ci := 0) t.1]; rfl)
      exact s_vret rfl d_Bk_init_100 (by decide) (by decide) ⟨rfl, by omega, hd.1, hd.2⟩
    | succ j ih =>
      intro i g hi hI hg
      have tS : T_Sg y (a + 22 + 3 * i) 12 := by
        have := t.2.2.2.2.2.2 i (by omega)
        rw [show a + 3 + 19 + 3 * i = a + 22 + 3 * i from by omega] at this
        exact this
      refine s_iload_n 0 d_Bk_init_73 rfl rfl (s_bipush (v := nI 6) d_Bk_init_74 (by decide) (s_icmp_ge (tgt := 100) d_Bk_init_76 (by decide) (pk_le 6 i (fun z => absurd z (by omega)) (fun _ => ?_))))
      refine c_elem (r := a + 3) (k := 2) (t := 3) (N := 6) (i := i) (sz := 3) (cj := 6) (kl := 1) (kj := 0) (dc := 3) (ds := 123) hI rfl (by omega) (by omega) (List.mem_singleton.mpr rfl) hg (by omega) (by omega) (by omega) d_Bk_init_79 rfl d_Bk_init_80 fl_Bk_20 d_Bk_init_83 rfl (by show 21 + 3 * i + 3 ≤ 39; omega) (by show 750 + 123 * i + 123 ≤ 1488; omega) (Bk_mk (k := 12) d_Bk_init_84 d_Bk_init_87 (fun st cs ss n f kk => s_bipush d_Bk_init_88 (by decide) kk) d_Bk_init_90 (by omega) tS) d_Bk_init_93 (fun o => rfl) rfl tS.1 (fun h hI2 hh _ => ?_)
      rw [up_lt (N := 6) (by omega) (by omega)] at hh
      refine s_iinc (v := nI (i + 1)) 0 d_Bk_init_94 rfl (nI_1 i) (by decide) rfl (s_goto (tgt := 73) d_Bk_init_97 (by decide) ?_)
      exact ih (i + 1) h (by omega) hI2 hh
  have key1 : ∀ (j i : Nat) (g : Nat → En), i + j = 3 → INV y f g a (a + 4 + 6 * i) 0 [.ref (a + 1), .ref (a + 2), .ref (a + 3), .int 0, .int 0] [a + 3, a + 2, a + 1] → g (a + 1) = .inl (3, 3, .inr (.inr (fun j => if j < i then some (a + 1 + 3 + 6 * j) else none))) → g (a + 2) = .inl (3, 3, .inr (.inr (fun j => if j < i then some (a + 2 + 5 + 6 * j) else none))) → g (a + 3) = .inl (3, 6, .inr (.inr (fun _ => none))) → wp0 m_Bk_init (fun v n' h => v = none ∧ n' = a + 40 ∧ (∀ b, b < a → h b = f b) ∧ ∀ b, a ≤ b → b < a + 40 → h b = ent y M0 b) 31 [(1, .int (nI i)), (0, .ref a)] [] (3 + 6 * i) (12 + 246 * i) (a + 4 + 6 * i) g := by
    intro j
    induction j with
    | zero =>
      intro i g hi hI hg1 hg2 hg3
      have : i = 3 := by omega
      subst this
      refine s_iload_n 0 d_Bk_init_31 rfl rfl (s_iconst (v := nI 3) d_Bk_init_32 rfl (s_icmp_ge (tgt := 71) d_Bk_init_33 (by decide) (br_t (by decide) ?_)))
      refine s_iconst (v := nI 0) d_Bk_init_71 rfl (s_istore_n d_Bk_init_72 rfl (by decide) rfl ?_)
      have hA : INV y f g a (a + 4 + 6 * 3) 0 [.ref (a + 1), .ref (a + 2), .ref (a + 3), .int 0, .int 0] [a + 1, a + 2, a + 3] := hI.perm (fun b hb => by simp at hb ⊢; omega)
      have hA2 := (hA.full (b0 := 3) (k0 := 6) hg1 (by omega) (by omega) t.2.1).full (b0 := 5) (k0 := 6) hg2 (by omega) (by omega) t.2.2.1
      exact key2 6 0 g rfl hA2 hg3
    | succ j ih =>
      intro i g hi hI hg1 hg2 hg3
      have tS : T_Sg y (a + 4 + 6 * i) 12 := by
        have := t.2.2.2.2.1 i (by omega)
        rw [show a + 1 + 3 + 6 * i = a + 4 + 6 * i from by omega] at this
        exact this
      have tS2 : T_Sg y (a + 4 + 6 * i + 3) 5 := by
        have := t.2.2.2.2.2.1 i (by omega)
        rw [show a + 2 + 5 + 6 * i = a + 4 + 6 * i + 3 from by omega] at this
        exact this
      refine s_iload_n 0 d_Bk_init_31 rfl rfl (s_iconst (v := nI 3) d_Bk_init_32 rfl (s_icmp_ge (tgt := 71) d_Bk_init_33 (by decide) (pk_le 3 i (fun z => absurd z (by omega)) (fun _ => ?_))))
      refine c_elem (r := a + 1) (k := 0) (t := 3) (N := 3) (i := i) (sz := 3) (cj := 6) (kl := 1) (kj := 0) (dc := 3) (ds := 123) hI rfl (by omega) (by omega) (by simp) hg1 (by omega) (by omega) (by omega) d_Bk_init_36 rfl d_Bk_init_37 fl_Bk_11 d_Bk_init_40 rfl (by show 3 + 6 * i + 3 ≤ 39; omega) (by show 12 + 246 * i + 123 ≤ 1488; omega) (Bk_mk (k := 12) d_Bk_init_41 d_Bk_init_44 (fun st cs ss n f kk => s_bipush d_Bk_init_45 (by decide) kk) d_Bk_init_47 (by omega) tS) d_Bk_init_50 (fun o => rfl) rfl tS.1 (fun h hI2 hh eh => ?_)
      rw [up_lt (N := 3) (by omega) (by omega)] at hh
      rw [← eh (a + 2) (by omega) (by omega)] at hg2
      rw [← eh (a + 3) (by omega) (by omega)] at hg3
      refine c_elem (r := a + 2) (k := 1) (t := 3) (N := 3) (i := i) (sz := 3) (cj := 6) (kl := 1) (kj := 0) (dc := 3) (ds := 123) hI2 rfl (by omega) (by omega) (by simp) hg2 (by omega) (by omega) (by omega) d_Bk_init_51 rfl d_Bk_init_52 fl_Bk_17 d_Bk_init_55 rfl (by show 3 + 6 * i + 3 + 3 ≤ 39; omega) (by show 12 + 246 * i + 123 + 123 ≤ 1488; omega) (Bk_mk (k := 5) d_Bk_init_56 d_Bk_init_59 (fun st cs ss n f kk => s_iconst d_Bk_init_60 rfl kk) d_Bk_init_61 (by omega) tS2) d_Bk_init_64 (fun o => rfl) rfl tS2.1 (fun h2 hI3 hh2 eh2 => ?_)
      rw [up_lt (N := 3) (by omega) (by omega)] at hh2
      rw [← eh2 (a + 1) (by omega) (by omega)] at hh
      rw [← eh2 (a + 3) (by omega) (by omega)] at hg3
      refine s_iinc (v := nI (i + 1)) 0 d_Bk_init_65 rfl (nI_1 i) (by decide) rfl (s_goto (tgt := 31) d_Bk_init_68 (by decide) ?_)
      have z := ih (i + 1) h2 (by omega) hI3 hh hh2 hg3
      rw [show 12 + 246 * (i + 1) = 12 + 246 * i + 123 + 123 from by omega] at z
      exact z
  exact key1 3 0 g3 rfl hI3 hg1 hg2 hg3
