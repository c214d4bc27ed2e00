/-! plans, and telling the best -/
/-- a piece: (0, first mark, second mark), or (1, n, p): the text of n signs from the p-th of the first result on -/
def txt (r0 : List Int32) (p : T3) : List Int32 := (r0.take (p.2.2 + p.2.1)).drop p.2.2
def PC (M : Mem) (a : Nat) (r0 : List Int32) (p : T3) : Prop := if p.1 = 0 then M.1 a 1 = 0 ∧ M.1 a 2 = nI p.2.1 ∧ M.1 a 3 = nI p.2.2 else M.1 a 1 = 1 ∧ SG M (a + 1) (txt r0 p)
def PL (M : Mem) (r0 : List Int32) (ps : List T3) : Prop := M.1 134 1 = nI ps.length ∧ ∀ i, i < ps.length → PC M (135 + 1 + 4 * i) r0 (g3 ps i)
theorem PC.fr {M M' : Mem} {a lo hi : Nat} {r0 : List Int32} {p : T3} (h : PC M a r0 p) (f : FR lo hi M M') (h1 : a + 4 ≤ lo ∨ hi ≤ a) : PC M' a r0 p := by
  unfold PC at h ⊢
  split
  · rename_i q
    rw [if_pos q] at h
    rw [(f a (by omega)).1]
    exact h
  · rename_i q
    rw [if_neg q] at h
    rw [(f a (by omega)).1]
    exact ⟨h.1, h.2.fr f (by omega)⟩
theorem PL.fr {M M' : Mem} {lo hi : Nat} {r0 : List Int32} {ps : List T3} (h : PL M r0 ps) (hl : ps.length ≤ 5) (f : FR lo hi M M') (h1 : 156 ≤ lo ∨ hi ≤ 134) : PL M' r0 ps := ⟨by rw [(f 134 (by omega)).1]; exact h.1, fun i hi2 => (h.2 i hi2).fr f (by omega)⟩
theorem cbg_false {rs : RS} {s m1 m2 : Nat} : ∀ (k i acc : Nat), i + k = rs.length → cbg rs s m1 k i = false → ctF rs s m1 m2 k i acc = none
  | 0, i, acc, _, h => by simp [cbg] at h
  | k + 1, i, acc, hk, h => by
    rw [cbg] at h
    rw [ctF]
    by_cases hl : lgf (ln rs i) (rt rs i) (plc (ln rs i) m1) (dg s i) = 0
    · have hc : ctl (ln rs i) (rt rs i) m1 m2 (dg s i) = 0 := by
        unfold ctl
        cases e1 : plc (ln rs i) m1 with
        | none => rfl
        | some a =>
          cases e2 : plc (ln rs i) m2 with
          | none => rfl
          | some b =>
            rw [e1] at hl
            have hl : al (ln rs i) (rt rs i) a (dg s i) = 0 := hl
            show (if a < b ∧ b - a ≤ al (ln rs i) (rt rs i) a (dg s i) then b - a else 0) = 0
            rw [if_neg (by omega)]
      rw [if_pos hc]
    · rw [if_neg hl] at h
      split
      · rfl
      · exact cbg_false k (i + 1) _ (by omega) h
/-- the first cut, from the m-th pair of marks on, that costs the least -/
def fcut (rs : RS) (L : Nat → Nat) (s : Nat) : Nat → Nat → Option (Nat × Nat)
  | 0, _ => none
  | k + 1, m => match ctT rs s (m / 62) (m % 62) with
    | some t => if mprice (m / 62) + mprice (m % 62) + 1 + L t = L s then some (m, t) else fcut rs L s k (m + 1)
    | none => fcut rs L s k (m + 1)
/-- the first text, from n signs on -/
def ftx (rs : RS) (L : Nat → Nat) (s : Nat) : Nat → Nat → Option (Nat × Nat)
  | 0, _ => none
  | k + 1, n => if 2 * n + 2 + L (txT rs s n) = L s then some (n, txT rs s n) else ftx rs L s k (n + 1)
def tlF (rs : RS) (L : Nat → Nat) (e : Nat) : Nat → Nat → List T3 → List T3
  | 0, _, ps => ps
  | k + 1, s, ps => if s < e then (match fcut rs L s 3844 0 with
      | some (m, t) => tlF rs L e k t (ps ++ [(0, m / 62, m % 62)])
      | none => match ftx rs L s (lgT rs s) 1 with
        | some (n, t) => tlF rs L e k t (ps ++ [(1, n, dg s 0)])
        | none => ps) else ps
theorem fcut_skip {rs : RS} {L : Nat → Nat} {s : Nat} (m : Nat) : ∀ (j k : Nat), (∀ i, i < j → ctT rs s ((m + i) / 62) ((m + i) % 62) = none) → fcut rs L s (j + k) m = fcut rs L s k (m + j)
  | 0, k, _ => by rw [Nat.zero_add, Nat.add_zero]
  | j + 1, k, h => by
    rw [show j + 1 + k = (j + k) + 1 by omega, fcut, show ctT rs s (m / 62) (m % 62) = none from h 0 (by omega)]
    show fcut rs L s (j + k) (m + 1) = _
    rw [fcut_skip (m + 1) j k (fun i hi => by rw [show m + 1 + i = m + (i + 1) by omega]; exact h (i + 1) (by omega)), show m + 1 + j = m + (j + 1) by omega]
theorem fcut_some {rs : RS} {L : Nat → Nat} {s m' t : Nat} : ∀ (k m : Nat), fcut rs L s k m = some (m', t) → m ≤ m' ∧ m' < m + k ∧ ctT rs s (m' / 62) (m' % 62) = some t ∧ mprice (m' / 62) + mprice (m' % 62) + 1 + L t = L s
  | 0, m, h => by cases h
  | k + 1, m, h => by
    rw [fcut] at h
    cases hc : ctT rs s (m / 62) (m % 62) with
    | none =>
      rw [hc] at h
      have := fcut_some k (m + 1) h
      exact ⟨by omega, by omega, this.2.2⟩
    | some u =>
      rw [hc] at h
      by_cases q : mprice (m / 62) + mprice (m % 62) + 1 + L u = L s
      · simp only [if_pos q, Option.some.injEq, Prod.mk.injEq] at h
        obtain ⟨rfl, rfl⟩ := h
        exact ⟨Nat.le_refl _, by omega, hc, q⟩
      · simp only [if_neg q] at h
        have := fcut_some k (m + 1) h
        exact ⟨by omega, by omega, this.2.2⟩
theorem ftx_some {rs : RS} {L : Nat → Nat} {s n' t : Nat} : ∀ (k n : Nat), ftx rs L s k n = some (n', t) → n ≤ n' ∧ n' < n + k ∧ t = txT rs s n' ∧ 2 * n' + 2 + L t = L s
  | 0, n, h => by cases h
  | k + 1, n, h => by
    rw [ftx] at h
    by_cases q : 2 * n + 2 + L (txT rs s n) = L s
    · simp only [if_pos q, Option.some.injEq, Prod.mk.injEq] at h
      obtain ⟨rfl, rfl⟩ := h
      exact ⟨Nat.le_refl _, by omega, rfl, q⟩
    · simp only [if_neg q] at h
      have := ftx_some k (n + 1) h
      exact ⟨by omega, by omega, this.2.2⟩
section ZF6
variable {M : Mem} {rs : RS}
theorem Pl_next_ok {r0 : List Int32} {ps : List T3} (hP : PL M r0 ps) (hl : ps.length < 5) {Q : Nat → Mem → Prop} (h : ∀ M', M' = uI M 134 1 (nI (ps.length + 1)) → Q (135 + 1 + 4 * ps.length) M') : CallR zX m_Pl_next [.ref 134] M Q := by
  refine e_Pl_next ?_
  rw [hP.1]
  refine e_Pl_at (pk_lt ps.length 0 (fun q => absurd q (by omega)) (fun _ => pk_le 5 ps.length (fun q => absurd q (by omega)) (fun _ => ⟨vp_in_nI hl (by omega), ?_⟩)))
  rw [nI_clamp (by omega)]
  refine ⟨T_pieces _ hl, ?_⟩
  rw [hP.1]
  refine pk_le 5 ps.length (fun q => absurd q (by omega)) (fun _ => ?_)
  rintro N rfl
  rw [nI_1]
  exact h _ rfl
theorem PL_push {M1 M' : Mem} {r0 : List Int32} {ps : List T3} {p : T3} (hP : PL M r0 ps) (hl : ps.length < 5) (e : M1 = uI M 134 1 (nI (ps.length + 1))) (f : FR (135 + 1 + 4 * ps.length) (135 + 1 + 4 * ps.length + 4) M1 M') (hp : PC M' (135 + 1 + 4 * ps.length) r0 p) : PL M' r0 (ps ++ [p]) ∧ FR 134 156 M M' := by
  subst e
  have f1 : FR 134 135 M (uI M 134 1 (nI (ps.length + 1))) := FR.uI (by omega) (by omega)
  refine ⟨⟨?_, fun i hi => ?_⟩, (f1.mono (by omega) (by omega)).trans (f.mono (by omega) (by omega))⟩
  · rw [(f 134 (by omega)).1, uI_s, List.length_append, List.length_singleton]
  · rw [List.length_append, List.length_singleton] at hi
    by_cases q : i = ps.length
    · subst q
      rw [g3_app2 (Nat.le_refl _), Nat.sub_self]
      exact hp
    · rw [g3_app1 (by omega)]
      exact ((hP.2 i (by omega)).fr f1 (by omega)).fr f (by omega)
theorem Ft_tellCut_ok (hv : VR rs) (h0 : 0 < rs.length) (hF : FT M rs) {s : Nat} (hR : RC M rs s) {L : Nat → Nat} (hs : OKL M L s) (ht : ∀ m t, m < 3844 → ctT rs s (m / 62) (m % 62) = some t → OKL M L t) {ps : List T3} (hP : PL M (rt rs 0) ps) (hl : ps.length < 5) {Q : Int32 → Mem → Prop}
    (hN : fcut rs L s 3844 0 = none → Q (-6) M) (hY : ∀ m t M', fcut rs L s 3844 0 = some (m, t) → m < 3844 → PL M' (rt rs 0) (ps ++ [(0, m / 62, m % 62)]) → FR 134 156 M M' → Q (nI t) M') : CallI zX m_Ft_tellCut [.ref 46, .int (nI s), .ref 134] M Q := by
  have hsL := hs.2.1
  have k2 : ∀ (k f : Nat), f + k = 62 → fcut rs L s (62 * k) (62 * f) = fcut rs L s 3844 0 → wp zX m_Ft_tellCut (QI Q) 2 [(0, .ref 46), (1, .int (nI s)), (2, .ref 134), (3, .int (nI f))] [] M := by
    intro k
    induction k with
    | zero =>
      intro f hf hE
      exact b_Ft_tellCut_2 (pk_le 62 f (fun _ => hN hE.symm) (fun q => absurd q (by omega)))
    | succ k ih =>
      intro f hf hE
      have hnext : fcut rs L s (62 * k) (62 * (f + 1)) = fcut rs L s 3844 0 → wp zX m_Ft_tellCut (QI Q) 2 [(0, .ref 46), (1, .int (nI s)), (2, .ref 134), (3, .int (nI f + 1))] [] M := fun z => by
        rw [nI_1]
        exact ih (f + 1) (by omega) z
      refine b_Ft_tellCut_2 (pk_le 62 f (fun q => absurd q (by omega)) (fun q => ?_))
      refine Ft_canBegin_ok hv hF hR q ?_
      cases hc : cbg rs s f rs.length 0 with
      | false =>
        refine br_t rfl (b_Ft_tellCut_27 (br_t (by decide) (hnext ?_)))
        rw [← hE, show 62 * (k + 1) = 62 + 62 * k by omega]
        rw [fcut_skip (62 * f) 62 (62 * k) (fun i hi => ?_), show 62 * f + 62 = 62 * (f + 1) by omega]
        rw [show (62 * f + i) / 62 = f by omega]
        exact cbg_false rs.length 0 s (by omega) hc
      | true =>
        refine br_f (by decide) ?_
        have k27 : ∀ (j g : Nat), g + j = 62 → fcut rs L s (j + 62 * k) (62 * f + g) = fcut rs L s 3844 0 → wp zX m_Ft_tellCut (QI Q) 27 [(0, .ref 46), (1, .int (nI s)), (2, .ref 134), (3, .int (nI f)), (4, .int 62), (5, .int (nI g))] [] M := by
          intro j
          induction j with
          | zero =>
            intro g hg hE2
            refine b_Ft_tellCut_27 (pk_le 62 g (fun _ => hnext ?_) (fun z => absurd z (by omega)))
            rw [← hE2, Nat.zero_add, show 62 * (f + 1) = 62 * f + g by omega]
          | succ j ih2 =>
            intro g hg hE2
            have hm1 : (62 * f + g) / 62 = f := by omega
            have hm2 : (62 * f + g) % 62 = g := by omega
            rw [show j + 1 + 62 * k = (j + 62 * k) + 1 by omega, fcut, hm1, hm2] at hE2
            refine b_Ft_tellCut_27 (pk_le 62 g (fun z => absurd z (by omega)) (fun z => ?_))
            refine Ft_cutTarget_ok hv hF hR q z (Mk_price_ok q (Mk_price_ok z (e_Pc_cutPrice ?_)))
            rw [nI_add, nI_1, nI_1]
            cases hct : ctT rs s f g with
            | none =>
              rw [hct] at hE2
              exact br_t rfl (ih2 (g + 1) (by omega) hE2)
            | some t =>
              rw [hct] at hE2
              have hb := ctT_b hv hct
              have hOt := ht (62 * f + g) t (by omega) (by rw [hm1, hm2]; exact hct)
              have hOL := hOt.2.1
              have hOb := hOt.2.2
              have p1 := mprice_le f
              have p2 := mprice_le g
              refine br_f (nI_ne6 (by omega)) (Ft_leastFrom_ok hOt (Ft_leastFrom_ok hs ?_))
              rw [nI_add]
              refine pk_eq _ _ (fun y => ?_) (fun y => ?_)
              · simp only [if_pos y] at hE2
                refine Pl_next_ok hP hl (fun M1 e1 => ⟨T_pieces _ hl, e_Pc_becomeCut (T_pieces _ hl) ?_⟩)
                rintro N1 rfl N2 rfl N3 rfl
                have f3 : FR (135 + 1 + 4 * ps.length) (135 + 1 + 4 * ps.length + 4) M1 (uI (uI (uI M1 (135 + 1 + 4 * ps.length) 1 0) (135 + 1 + 4 * ps.length) 2 (nI f)) (135 + 1 + 4 * ps.length) 3 (nI g)) := ((FR.uI (by omega) (by omega)).trans (FR.uI (by omega) (by omega))).trans (FR.uI (by omega) (by omega))
                have pp := PL_push (p := (0, f, g)) hP hl e1 f3 (by
                  show if (0 : Nat) = 0 then _ else _
                  rw [if_pos rfl]
                  refine ⟨?_, ?_, ?_⟩
                  · rw [uI_k (by omega), uI_k (by omega), uI_s]
                  · rw [uI_k (by omega), uI_s]
                  · rw [uI_s])
                refine hY (62 * f + g) t _ hE2.symm (by omega) ?_ pp.2
                rw [hm1, hm2]
                exact pp.1
              · simp only [if_neg y] at hE2
                exact ih2 (g + 1) (by omega) hE2
        refine k27 62 0 rfl ?_
        rw [← hE, show 62 * (k + 1) = 62 + 62 * k by omega, Nat.add_zero]
  exact e_Ft_tellCut (k2 62 0 rfl rfl)
theorem nxF_ne {s a : Nat} {x : Int32} : ∀ (k i : Nat), nxF rs s a x k i = true → x ≠ 0
  | 0, i, h => by simpa [nxF] using h
  | k + 1, i, h => by
    rw [nxF] at h
    split at h
    · exact nxF_ne k (i + 1) h
    · cases h
theorem lgF_in {s : Nat} : ∀ (k e : Nat), ∀ j, e ≤ j → j < lgF rs s k e → nxT rs s j = true
  | 0, e, j, h1, h2 => by rw [lgF] at h2; omega
  | k + 1, e, j, h1, h2 => by
    rw [lgF] at h2
    split at h2
    · rename_i q
      by_cases z : j = e
      · rw [z]; exact q
      · exact lgF_in k (e + 1) j (by omega) h2
    · omega
theorem lgT_in {s n : Nat} (h : n ≤ lgT rs s) (h1 : 0 < n) : dg s 0 + n ≤ (rt rs 0).length := by
  have := nxF_ne _ _ (lgF_in 5 0 (n - 1) (Nat.zero_le _) (show n - 1 < lgT rs s by omega))
  by_cases q : (rt rs 0).length ≤ dg s 0 + (n - 1)
  · exact absurd (gt_ge q) this
  · omega
theorem txt_len {r0 : List Int32} {n p : Nat} (h : p + n ≤ r0.length) : (txt r0 (1, n, p)).length = n := by
  unfold txt
  rw [List.length_drop, List.length_take]
  show min (p + n) r0.length - p = n
  omega
theorem Ft_tellText_ok (hv : VR rs) (h0 : 0 < rs.length) (hF : FT M rs) {s : Nat} (hR : RC M rs s) {L : Nat → Nat} (hs : OKL M L s) (ht : ∀ n, 0 < n → n ≤ lgT rs s → OKL M L (txT rs s n)) {ps : List T3} (hP : PL M (rt rs 0) ps) (hl : ps.length < 5) {Q : Int32 → Mem → Prop}
    (hN : ftx rs L s (lgT rs s) 1 = none → Q (nI (enT rs)) M) (hY : ∀ n t M', ftx rs L s (lgT rs s) 1 = some (n, t) → 0 < n → n ≤ lgT rs s → PL M' (rt rs 0) (ps ++ [(1, n, dg s 0)]) → FR 134 156 M M' → Q (nI t) M') : CallI zX m_Ft_tellText [.ref 46, .int (nI s), .ref 134] M Q := by
  have hsL := hs.2.1
  have hlg := lgT_le rs s
  have hr5 := (hv.2 0 h0).2
  have key : ∀ (k n : Nat), n + k = lgT rs s + 1 → 0 < n → ftx rs L s k n = ftx rs L s (lgT rs s) 1 → wp zX m_Ft_tellText (QI Q) 8 [(0, .ref 46), (1, .int (nI s)), (2, .ref 134), (3, .int (nI (lgT rs s))), (4, .int (nI n))] [] M := by
    intro k
    induction k with
    | zero =>
      intro n hn hn0 hE
      exact b_Ft_tellText_8 (pk_lt (lgT rs s) n (fun _ => Ft_lastState_ok hv hF (hN hE.symm)) (fun q => absurd q (by omega)))
    | succ k ih =>
      intro n hn hn0 hE
      rw [ftx] at hE
      refine b_Ft_tellText_8 (pk_lt (lgT rs s) n (fun q => absurd q (by omega)) (fun q => ?_))
      have hOt := ht n hn0 (by omega)
      have hOL := hOt.2.1
      refine Ft_textTarget_ok hv hF (e_Pc_textPrice (Ft_leastFrom_ok hOt (Ft_leastFrom_ok hs ?_)))
      rw [show (2 * nI n) + 2 = nI (2 * n + 2) from by rw [show (2 : Int32) * nI n = nI (2 * n) from pk_mul 2 n]; exact nI_add (2 * n) 2, nI_add]
      refine pk_eq _ _ (fun y => ?_) (fun y => ?_)
      · rw [if_pos y] at hE
        have hin := lgT_in (n := n) (by omega) hn0
        refine Pl_next_ok hP hl (fun M1 e1 => ⟨T_pieces _ hl, vp_in_nI (n := 0) (by omega) (by omega), ?_⟩)
        have f1 : FR 134 135 M M1 := by rw [e1]; exact FR.uI (by omega) (by omega)
        have hF1 := hF.fr2 hv.1 f1 (by omega)
        have hR1 := hR.fr f1 (by omega)
        refine e_Rw_result (T_rows 0 (by omega)) ⟨5, (T_rows 0 (by omega)).2.1, vp_in_nI (n := 0) (by omega) (by omega), vp_in_nI (n := 0) (by omega) (by omega), ?_⟩
        have e48 : M1.1 48 (0 : Int32).toNatClampNeg = nI (dg s 0) := hR1 0 h0
        rw [e48, nI_add]
        refine e_Pc_becomeText (T_pieces _ hl) (T_rows 0 (by omega)).2.1 ?_
        rintro N1 rfl
        have f2 : FR (135 + 1 + 4 * ps.length) (135 + 1 + 4 * ps.length + 1) M1 (uI M1 (135 + 1 + 4 * ps.length) 1 1) := FR.uI (by omega) (by omega)
        have hd := dg_lt s 0
        refine Sg_clear_ok (T_pieces _ hl).2 (fun M2 hS2 f3 => ?_)
        have hr2 : SG M2 (47 + 11 + 19 * 0 + 1) (rt rs 0) := ((hF1.2 0 h0).1.fr f2 (by omega)).fr f3 (by omega)
        refine Sg_addFrom_call (T_pieces _ hl).2 (by omega) (T_rows 0 (by omega)).2.1 (by omega) (by omega) hr5 (by omega) (by omega) (by omega) hS2 hr2 (by simp; omega) (fun M3 hS3 f4 => ?_)
        have f5 : FR (135 + 1 + 4 * ps.length) (135 + 1 + 4 * ps.length + 4) M1 M3 := ((f2.mono (by omega) (by omega)).trans (f3.mono (by omega) (by omega))).trans (f4.mono (by omega) (by omega))
        have pp := PL_push (p := (1, n, dg s 0)) hP hl e1 f5 (by
          show if (1 : Nat) = 0 then _ else _
          rw [if_neg (by omega)]
          refine ⟨?_, ?_⟩
          · rw [(f4 _ (by omega)).1, (f3 _ (by omega)).1, uI_s]
          · rw [List.nil_append] at hS3
            exact hS3)
        exact hY n _ M3 hE.symm hn0 (by omega) pp.1 pp.2
      · rw [if_neg y] at hE
        rw [nI_1]
        exact ih (n + 1) (by omega) (by omega) hE
  exact e_Ft_tellText (Ft_longestText_ok hv h0 hF hR (key (lgT rs s) 1 (by omega) (by omega) rfl))
/-- telling goes through states whose least costs stand -/
def TLK (M : Mem) (rs : RS) (L : Nat → Nat) (G : Nat → Prop) : Prop := ∀ s, G s → OKL M L s ∧ (s < enT rs → (∀ m t, m < 3844 → ctT rs s (m / 62) (m % 62) = some t → G t) ∧ (∀ n, 0 < n → n ≤ lgT rs s → G (txT rs s n)))
theorem Ft_tell_ok (hv : VR rs) (h0 : 0 < rs.length) (hF : FT M rs) {L : Nat → Nat} {G : Nat → Prop} (hT : TLK M rs L G) (hG : G 0) (hP : PL M (rt rs 0) []) {Q : Mem → Prop} (h : ∀ M', PL M' (rt rs 0) (tlF rs L (enT rs) 5 0 []) → FT M' rs → FR 48 156 M M' → (tlF rs L (enT rs) 5 0 []).length ≤ 5 → Q M') : CallV zX m_Ft_tell [.ref 46, .ref 134] M Q := by
  have he := enT_b hv
  have key : ∀ (k s : Nat) (ps : List T3) (M' : Mem), k ≤ 5 → ps.length + k ≤ 5 → G s → TLK M' rs L G → FT M' rs → PL M' (rt rs 0) ps → FR 48 156 M M' → tlF rs L (enT rs) k s ps = tlF rs L (enT rs) 5 0 [] → wp zX m_Ft_tell (QV Q) 10 [(0, .ref 46), (1, .ref 134), (2, .int (nI (enT rs))), (3, .int (nI s)), (4, .int (nI (5 - k)))] [] M' := by
    intro k
    induction k with
    | zero =>
      intro s ps M' hk hl hGs hT' hF' hP' f hE
      rw [tlF] at hE
      exact b_Ft_tell_10 (pk_le 5 5 (fun _ => h M' (by rw [← hE]; exact hP') hF' f (by rw [← hE]; omega)) (fun q => absurd q (by omega)))
    | succ k ih =>
      intro s ps M' hk hl hGs hT' hF' hP' f hE
      rw [tlF] at hE
      have hOs := (hT' s hGs).1
      have hOb := hOs.2.2
      refine b_Ft_tell_10 (pk_le 5 (5 - (k + 1)) (fun q => absurd q (by omega)) (fun _ => ?_))
      refine pk_le (enT rs) s (fun q => ?_) (fun q => ?_)
      · rw [if_neg (by omega)] at hE
        exact h M' (by rw [← hE]; exact hP') hF' f (by rw [← hE]; omega)
      rw [if_pos q] at hE
      have hTs := (hT' s hGs).2 q
      rw [nI_1, show 5 - (k + 1) + 1 = 5 - k by omega]
      refine Ft_reach_ok hv hF' (by omega) (fun M1 hR1 f1 => ?_)
      have hF1 := hF'.fr hv.1 f1 (by omega) (by omega)
      have hT1 : TLK M1 rs L G := fun u hu => ⟨(hT' u hu).1.fr f1 (by omega), (hT' u hu).2⟩
      have hP1 := hP'.fr (by omega) f1 (by omega)
      have hfin : ∀ (t : Nat) (x : T3) (M2 : Mem), G t → PL M2 (rt rs 0) (ps ++ [x]) → FR 134 156 M1 M2 → tlF rs L (enT rs) k t (ps ++ [x]) = tlF rs L (enT rs) 5 0 [] → wp zX m_Ft_tell (QV Q) 10 [(0, .ref 46), (1, .ref 134), (2, .int (nI (enT rs))), (3, .int (nI t)), (4, .int (nI (5 - k)))] [] M2 := by
        intro t x M2 hGt hP2 f2 hE2
        refine ih t (ps ++ [x]) M2 (by omega) (by rw [List.length_append, List.length_singleton]; omega) hGt (fun u hu => ⟨(hT1 u hu).1.fr f2 (by omega), (hT1 u hu).2⟩) (hF1.fr2 hv.1 f2 (by omega)) hP2 ((f.trans (f1.mono (by omega) (by omega))).trans (f2.mono (by omega) (by omega))) hE2
      refine Ft_tellCut_ok hv h0 hF1 hR1 (hT1 s hGs).1 (fun m t hm hc => (hT1 t (hTs.1 m t hm hc)).1) hP1 (by omega) (fun hN => br_t rfl ?_) (fun m t M2 hc hm hP2 f2 => ?_)
      · rw [hN] at hE
        refine Ft_tellText_ok hv h0 hF1 hR1 (hT1 s hGs).1 (fun n h1 h2 => (hT1 _ (hTs.2 n h1 h2)).1) hP1 (by omega) (fun hN2 => ?_) (fun n t M2 hc hn hn2 hP2 f2 => ?_)
        · rw [hN2] at hE
          refine b_Ft_tell_10 (pk_le 5 (5 - k) (fun _ => ?_) (fun _ => pk_le (enT rs) (enT rs) (fun _ => ?_) (fun z => absurd z (by omega))))
          all_goals exact h M1 (by rw [← hE]; exact hP1) hF1 (f.trans (f1.mono (by omega) (by omega))) (by rw [← hE]; show ps.length ≤ 5; omega)
        · rw [hc] at hE
          have ht : t = txT rs s n := (ftx_some _ _ hc).2.2.1
          exact hfin t _ M2 (by rw [ht]; exact hTs.2 n hn hn2) hP2 f2 hE
      · rw [hc] at hE
        have ht : ctT rs s (m / 62) (m % 62) = some t := (fcut_some _ _ hc).2.2.1
        have hOt := (hT1 t (hTs.1 m t hm ht)).1.2.2
        exact br_f (nI_ne6 (by omega)) (hfin t _ M2 (hTs.1 m t hm ht) hP2 f2 hE)
  exact e_Ft_tell (Ft_lastState_ok hv hF (key 5 0 [] M (Nat.le_refl _) (Nat.le_refl _) hG hT hF hP FR.rf rfl))
end ZF6
