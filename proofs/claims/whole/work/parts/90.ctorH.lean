/-! the constructor of the reference: the codes -/
def cnt (c : Nat) : Nat := ((List.range 62).filter (fun m => decide (mcode m < c))).length
theorem cnt_facts : ∀ c, c < 300 → (if (idx (nI c)).isSome then (cnt c < 62 ∧ mcode (cnt c) = c ∧ cnt (c + 1) = cnt c + 1) else cnt (c + 1) = cnt c) := by decide +kernel
theorem cnt_300 : cnt 300 = 62 := by decide +kernel
theorem M_init_ok {f : Nat → En} (hf : f 0 = .inr (8, [.null, .null, .null, .null, .int 0, .null, .null, .int 0, .int 0, .null, .null, .null, .int 0, .null, .null, .null, .null, .int 0, .null, .null, .null, .null, .null, .int 0, .int 0, .null, .null, .null])) {P : Mem → Prop} (kP : ∀ M', CD M' → (∀ a, a ≠ 8 → M'.1 a = M0.1 a) → P M') : Call0 m_M_init [.ref 0] 1 f (fun v n g => v = none ∧ n = 22 ∧ ∃ M', g = ent zY M' ∧ P M') := by
  refine M_arrays hf ?_
  refine s_iconst (v := nI 0) d_M_init_169 rfl (s_istore_n d_M_init_170 rfl (by decide) rfl (s_iconst (v := nI 0) d_M_init_171 rfl (s_istore_n d_M_init_172 rfl (by decide) rfl ?_)))
  have hzl : zY.length = 22 := by decide +kernel
  have key : ∀ (j c : Nat) (M : Mem), c + j = 300 → (∀ m, m < cnt c → M.1 8 m = nI (mcode m)) → (∀ a, a ≠ 8 → M.1 a = M0.1 a) → wp0 m_M_init (fun v n g => v = none ∧ n = 22 ∧ ∃ M', g = ent zY M' ∧ P M') 173 [(2, .int (nI c)), (1, .int (nI (cnt c))), (0, .ref 0)] [] 21 3516 22 (ent zY M) := by
    intro j
    induction j with
    | zero =>
      intro c M hc h8 hk
      have : c = 300 := by omega
      subst this
      refine s_iload_n 0 d_M_init_173 rfl rfl (s_sipush (v := nI 300) d_M_init_174 (by decide) (s_icmp_ge (tgt := 203) d_M_init_177 (by decide) (br_t (by decide) ?_)))
      rw [cnt_300] at h8
      exact s_vret rfl d_M_init_203 (by decide) (by decide) ⟨rfl, rfl, M, rfl, kP M h8 hk⟩
    | succ j ih =>
      intro c M hc h8 hk
      have cf := cnt_facts c (by omega)
      refine s_iload_n 0 d_M_init_173 rfl rfl (s_sipush (v := nI 300) d_M_init_174 (by decide) (s_icmp_ge (tgt := 203) d_M_init_177 (by decide) (pk_le 300 c (fun z => absurd z (by omega)) (fun _ => ?_))))
      refine s_iload_n 0 d_M_init_180 rfl rfl ?_
      obtain ⟨⟨z1, z2, z3, z4⟩, z5, z6, z7, z8⟩ := ms_M_isCode
      have hPC : Call0 m_M_isCode [.int (nI c)] 22 (ent zY M) (fun v n f => n = 22 ∧ ∃ M', f = ent zY M' ∧ QI (fun r M2 => r = (if (idx (nI c)).isSome then 1 else 0) ∧ M2 = M) v M') := by
        have := M_isCode_ok (M := M) (x := nI c) (Q := fun r M2 => r = (if (idx (nI c)).isSome then 1 else 0) ∧ M2 = M) ⟨rfl, rfl⟩
        unfold CallI Call at this
        rw [hzl] at this
        exact this
      refine s_callS (as := [.int (nI c)]) d_M_init_181 ⟨by decide, by decide, (fun g => by rw [z8] at g; cases g), z1, z2, z3, z4⟩ wd_651 z5 rfl rfl (by decide) (by decide) (by decide) hPC (fun v n' g' hq => ?_)
      obtain ⟨rfl, M', rfl, r, rfl, rfl, rfl⟩ := hq
      have nx : ∀ (k : Nat) (M' : Mem) (lo : List (Nat × Value)), lo[k]? = some (2, .int (nI c)) → (2, Value.int (nI (c + 1))) :: lo.filter (fun q => !(q.1 == 2) && !(q.1 + 1 == 2 && q.2.category == 2)) = [(2, .int (nI (c + 1))), (1, .int (nI (cnt (c + 1)))), (0, .ref 0)] → (∀ m, m < cnt (c + 1) → M'.1 8 m = nI (mcode m)) → (∀ a, a ≠ 8 → M'.1 a = M0.1 a) → wp0 m_M_init (fun v n g => v = none ∧ n = 22 ∧ ∃ M', g = ent zY M' ∧ P M') 197 lo [] 21 3516 22 (ent zY M') := by
        intro k M' lo h1 h2 h3 h4
        exact s_iinc (v := nI (c + 1)) k d_M_init_197 h1 (nI_1 c) (by decide) h2 (s_goto (tgt := 173) d_M_init_200 (by decide) (ih (c + 1) M' (by omega) h3 h4))
      cases e : (idx (nI c)).isSome with
      | false =>
        rw [e] at cf
        have cf : cnt (c + 1) = cnt c := cf
        refine s_if_eq (tgt := 197) d_M_init_184 (by decide) (br_t rfl (nx 0 M' _ rfl ?_ ?_ hk))
        · rw [cf]
          rfl
        · rw [cf]
          exact h8
      | true =>
        rw [e] at cf
        obtain ⟨c1, c2, c3⟩ : cnt c < 62 ∧ mcode (cnt c) = c ∧ cnt (c + 1) = cnt c + 1 := cf
        refine s_if_eq (tgt := 197) d_M_init_184 (by decide) (br_f (by decide) ?_)
        obtain ⟨cl, f1, f2, f3, f4, f5, f6⟩ := fl_M_31
        refine s_aload_n 2 d_M_init_187 rfl rfl (s_get d_M_init_188 f1 f2 f3 (ent_obj (ci := 8) rfl) (by omega) (fldV_get _ _ _ _ _ _ f4) (s_iload_n 1 d_M_init_191 rfl rfl (s_iload_n 0 d_M_init_192 rfl rfl ?_)))
        refine s_iast (a := 8) d_M_init_193 (ent_int (len := 62) rfl) (by omega) (vp_in_nI c1 (by omega)) ?_
        rw [nI_clamp (by omega), ent_upI (k := cnt c) (v := nI c) (by rw [ent_int (len := 62) rfl]; simp [uI])]
        refine s_iinc (v := nI (cnt c + 1)) 1 d_M_init_194 rfl (nI_1 _) (by decide) rfl ?_
        refine nx 1 _ _ rfl (by rw [c3]; rfl) (fun m hm => ?_) (fun a ha => by rw [uI_n ha]; exact hk a ha)
        by_cases z : m = cnt c
        · subst z
          rw [uI_s, c2]
        · rw [uI_k z]
          exact h8 m (by omega)
  have c0 : cnt 0 = 0 := by decide +kernel
  have z := key 300 0 M0 rfl (fun m hm => absurd hm (by rw [c0]; exact Nat.not_lt_zero m)) (fun _ _ => rfl)
  rw [c0] at z
  exact z
