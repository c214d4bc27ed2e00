/-! filling an array of objects -/
section ZEL
variable {m : Zm} {Q : Option Value → Nat → (Nat → En) → Prop} {pc : Nat} {lo : List (Nat × Value)} {st : List Value} {cs ss n : Nat} {f : Nat → En} {y : List Sh} {f0 : Nat → En} {a ci : Nat} {fs : List Value} {R : List Nat}
def MAKE (y : List Sh) (m : Zm) (Q : Option Value → Nat → (Nat → En) → Prop) (lo : List (Nat × Value)) (p q n sz dc ds : Nat) : Prop := ∀ (st : List Value) (cs ss : Nat) (f : Nat → En), (st.map fun v => v.category).sum ≤ 7 → cs + dc ≤ (zR m).cells → ss + ds ≤ (zR m).slots → (∀ g, (∀ b, b < n → g b = f b) → (∀ b, n ≤ b → b < n + sz → g b = ent y M0 b) → wp0 m Q q lo (.ref n :: st) (cs + dc) (ss + ds) (n + sz) g) → wp0 m Q p lo st cs ss n f
theorem c_elem {index k r t N i q sz dc ds cj kl kj : Nat} {d : Nat × Nat} {fin : Bool} {ty : FieldType} {rr : vw_C} {g : Nat → Option Nat} (hI : INV y f0 f a n ci fs R) (hr : fs[k]? = some (.ref r)) (h1r : a < r) (h2r : r < n) (hrR : r ∈ R) (hfr : f r = .inl (t, N, .inr (.inr g))) (hi : i < N) (hN : N < 1000) (hsz : 0 < sz) (h0 : decode (zb m) pc = .ok (.aload_n 0, 1)) (hlo : lo[kl]? = some (0, .ref a)) (h1 : decode (zb m) (pc + 1) = .ok (.getfield index, 3)) (hz : Zf (zy m).cls index ci k d fin ty) (h2 : decode (zb m) (pc + 4) = .ok (.iload_n 1, 1)) (hlj : lo[kj]? = some (1, .int (nI i))) (hc : cs + dc ≤ (zR m).cells) (hs : ss + ds ≤ (zR m).slots) (hmk : MAKE y m Q lo (pc + 5) q n sz dc ds) (h3 : decode (zb m) q = .ok (.aastore, 1)) (ht : ∀ o : Zo, (ztys o)[t]? = some (o.2.2 t, .object rr.1)) (hrr : zcl[cj]? = some rr) (hyn : zsh y n = (10 + cj, 0, 0, 0)) (kk : ∀ h, INV y f0 h a (n + sz) ci fs R → h r = .inl (t, N, .inr (.inr (va_up g i (some n)))) → (∀ b, b < n → b ≠ r → h b = f b) → wp0 m Q (q + 1) lo [] (cs + dc) (ss + ds) (n + sz) h) : wp0 m Q pc lo [] cs ss n f := by
  obtain ⟨cl, z1, z2, z3, z4, z5, z6⟩ := hz
  refine s_aload_n kl h0 rfl hlo (s_get h1 z1 z2 z3 hI.1 hI.2.1 hr (s_iload_n kj h2 rfl hlj ?_))
  refine hmk _ _ _ _ (by show 1 + (1 + 0) ≤ 7; decide) hc hs (fun w hw1 hw2 => ?_)
  have hB := hI.block hw1 hw2
  refine s_aast (a := r) (b := n) (i := nI i) h3 ht (by rw [hw1 r h2r]; exact hfr) (by omega) (vp_in_nI hi (by omega)) (by rw [hw2 n (Nat.le_refl _) (by omega), ent_obj hyn]) (by omega) hrr ?_
  rw [nI_clamp (by omega)]
  refine kk _ ⟨by rw [en_n (by omega)]; exact hB.1, hB.2.1, fun b hb => by rw [en_n (by omega)]; exact hB.2.2.1 b hb, fun b h7 h8 h9 => ?_⟩ en_s (fun b hb hb2 => by rw [en_n hb2]; exact hw1 b hb)
  have c : b ≠ r := fun c => h9 (by rw [c]; exact hrR)
  rw [en_n c]
  exact hB.2.2.2 b h7 h8 h9
theorem INV.full {t N b0 k0 r : Nat} (hI : INV y f0 f a n ci fs (r :: R)) (hfr : f r = .inl (t, N, .inr (.inr (fun j => if j < N then some (r + b0 + k0 * j) else none)))) (h3 : 3 ≤ t) (h9 : t < 10) (hy : zsh y r = (t, N, b0, k0)) : INV y f0 f a n ci fs R := by
  refine ⟨hI.1, hI.2.1, hI.2.2.1, fun b h7 h8 h10 => ?_⟩
  by_cases c : b = r
  · subst c
    rw [ent_ref hy h3 h9]
    exact hfr
  · exact hI.2.2.2 b h7 h8 (fun z => by
      rcases List.mem_cons.mp z with z | z
      · exact c z
      · exact h10 z)
theorem INV.perm {R2 : List Nat} (hI : INV y f0 f a n ci fs R) (h : ∀ b, b ∈ R → b ∈ R2) : INV y f0 f a n ci fs R2 := ⟨hI.1, hI.2.1, hI.2.2.1, fun b h7 h8 h10 => hI.2.2.2 b h7 h8 (fun z => h10 (h b z))⟩
theorem up_lt {N b0 k0 r i v : Nat} (hi : i < N) (hv : v = r + b0 + k0 * i) : va_up (fun j => if j < i then some (r + b0 + k0 * j) else none) i (some v) = fun j => if j < i + 1 then some (r + b0 + k0 * j) else none := by
  funext j
  by_cases c : j = i
  · subst c
    rw [show va_up (fun j_1 => if j_1 < j then some (r + b0 + k0 * j_1) else none) j (some v) j = some v from if_pos rfl, if_pos (by omega), hv]
  · rw [show va_up (fun j => if j < i then some (r + b0 + k0 * j) else none) i (some v) j = (if j < i then some (r + b0 + k0 * j) else none) from if_neg c]
    by_cases z : j < i
    · rw [if_pos z, if_pos (by omega)]
    · rw [if_neg z, if_neg (by omega)]
end ZEL
theorem Pl_ctr {y : List Sh} {a : Nat} (h0 : zsh y a = (14, 0, 0, 0)) (h1 : zsh y (a + 1) = (5, 5, 1, 4)) (t : ∀ i, i < 5 → T_Pc y (a + 1 + 1 + 4 * i)) : CTR y m_Pl_init 4 [.null, .int 0] 22 a [] := by
  intro f hf
  refine call0_of (by decide) (by show 1 ≤ 2; decide) ?_
  refine s_aload_n 0 d_Pl_init_0 rfl rfl (s_objInit d_Pl_init_1 wd_150 wd_18 wd_19 (by decide) (by decide) ?_)
  refine c_anew (y := y) (N := 5) (t := 5) (kl := 0) (INV.born hf) rfl rfl d_Pl_init_4 rfl (fun st cs ss n f kk => s_iconst d_Pl_init_5 rfl kk) d_Pl_init_6 (fun o => rfl) wd_151 (fun o U h => h.2.1.2.2.1) (by omega) (by decide) (by decide) d_Pl_init_9 fl_Pl_11 (fun cl h => by cases h; rfl) (by decide) (fun g hI hg _ => ?_)
  refine s_iconst (v := nI 0) d_Pl_init_12 rfl (s_istore_n d_Pl_init_13 rfl (by decide) rfl ?_)
  have key : ∀ (j i : Nat) (g : Nat → En), i + j = 5 → INV y f g a (a + 1 + 1 + 4 * i) 4 [.ref (a + 1), .int 0] [a + 1] → g (a + 1) = .inl (5, 5, .inr (.inr (fun j => if j < i then some (a + 1 + 1 + 4 * j) else none))) → wp0 m_Pl_init (fun v n' h => v = none ∧ n' = a + 22 ∧ (∀ b, b < a → h b = f b) ∧ ∀ b, a ≤ b → b < a + 22 → h b = ent y M0 b) 14 [(1, .int (nI i)), (0, .ref a)] [] (1 + 4 * i) (5 + 127 * i) (a + 1 + 1 + 4 * i) g := by
    intro j
    induction j with
    | zero =>
      intro i g hi hI hg
      have : i = 5 := by omega
      subst this
      refine s_iload_n 0 d_Pl_init_14 rfl rfl (s_iconst (v := nI 5) d_Pl_init_15 rfl (s_icmp_ge (tgt := 38) d_Pl_init_16 (by decide) (br_t (by decide) ?_)))
      have hd := (hI.full (b0 := 1) (k0 := 4) hg (by omega) (by omega) h1).done (by rw [ent_obj (ci := 4) h0]; rfl)
      exact s_vret rfl d_Pl_init_38 (by decide) (by decide) ⟨rfl, by omega, hd.1, hd.2⟩
    | succ j ih =>
      intro i g hi hI hg
      refine s_iload_n 0 d_Pl_init_14 rfl rfl (s_iconst (v := nI 5) d_Pl_init_15 rfl (s_icmp_ge (tgt := 38) d_Pl_init_16 (by decide) (pk_le 5 i (fun z => absurd z (by omega)) (fun _ => ?_))))
      refine c_elem (r := a + 1) (k := 0) (t := 5) (N := 5) (i := i) (sz := 4) (cj := 3) (kl := 1) (kj := 0) (dc := 1 + (zR m_Pc_init).cells) (ds := 4 + (zR m_Pc_init).slots) hI rfl (by omega) (by omega) (List.mem_singleton.mpr rfl) hg (by omega) (by omega) (by omega) d_Pl_init_19 rfl d_Pl_init_20 fl_Pl_11 d_Pl_init_23 rfl (by show 1 + 4 * i + 4 ≤ 21; omega) (by show 5 + 127 * i + 127 ≤ 640; omega) (fun st cs ss w hW hc hs kk => c_newN (y := y) (cj := 3) (as := []) (sz := 4) rfl d_Pl_init_24 rfl wd_151 wd_153 wd_9 (fun B j hj => by
        match j, hj with
        | 0, _ => rfl
        | 1, _ => rfl
        | 2, _ => rfl
        | 3, _ => rfl
        | j + 4, hj => exact absurd hj (by show ¬ j + 4 < 4; omega)) d_Pl_init_27 (fun st cs ss n f kk => kk) d_Pl_init_28 mk_Pc_init ⟨by decide, by decide⟩ (List.mem_of_getElem? (i := 2) rfl) wd_155 rfl rfl rfl hW (by rw [Nat.add_assoc]; exact hc) (by show ss + 4 + _ ≤ _; rw [Nat.add_assoc]; exact hs) (Pc_ctr (t i (by omega))) (fun w2 hw1 hw2 => by
          have := kk w2 hw1 hw2
          rw [← Nat.add_assoc, ← Nat.add_assoc] at this
          exact this)) d_Pl_init_31 (fun o => rfl) rfl (t i (by omega)).1 (fun h hI2 hh _ => ?_)
      rw [up_lt (N := 5) (by omega) rfl] at hh
      refine s_iinc (v := nI (i + 1)) 0 d_Pl_init_32 rfl (nI_1 i) (by decide) rfl (s_goto (tgt := 14) d_Pl_init_35 (by decide) ?_)
      exact ih (i + 1) h (by omega) hI2 hh
  exact key 5 0 g rfl hI hg
