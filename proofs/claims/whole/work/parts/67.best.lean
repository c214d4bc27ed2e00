/-! The reference lays the best plan -/
def PK (M : Mem) (ps : List T3) : Prop := M.1 0 23 = nI ps.length ∧ ∀ i, i < ps.length → M.1 16 i = nI (g3 ps i).1 ∧ M.1 17 i = (if (g3 ps i).1 = 0 then nI (mcode (g3 ps i).2.1) else nI (g3 ps i).2.1) ∧ M.1 18 i = (if (g3 ps i).1 = 0 then nI (mcode (g3 ps i).2.2) else nI (g3 ps i).2.2)
theorem PK.kt {M M' : Mem} {ps : List T3} {lo hi : Nat} {F : List Nat} (h : PK M ps) (f : KF lo hi F M M') (h1 : 19 ≤ lo ∨ hi ≤ 16) (hF : 23 ∉ F := by decide) : PK M' ps := by
  unfold PK
  rw [f.z hF, f.a (a := 16) (by omega) (by omega), f.a (a := 17) (by omega) (by omega), f.a (a := 18) (by omega) (by omega)]
  exact h
theorem PK_push {M : Mem} {ps : List T3} (h : PK M ps) {p : T3} {a b c : Int32} (ha : a = nI p.1) (hb : b = if p.1 = 0 then nI (mcode p.2.1) else nI p.2.1) (hc : c = if p.1 = 0 then nI (mcode p.2.2) else nI p.2.2) : PK (uI (uI (uI (uI M 16 ps.length a) 17 ps.length b) 18 ps.length c) 0 23 (nI (ps.length + 1))) (ps ++ [p]) ∧ KF 16 19 [23] M (uI (uI (uI (uI M 16 ps.length a) 17 ps.length b) 18 ps.length c) 0 23 (nI (ps.length + 1))) := by
  refine ⟨⟨by rw [uI_s, List.length_append]; rfl, fun i hi => ?_⟩, (((KF.wI (by omega) (by omega) (by omega)).trans (KF.wI (by omega) (by omega) (by omega))).trans (KF.wI (by omega) (by omega) (by omega))).trans KF.wz⟩
  rw [List.length_append] at hi
  simp only [List.length_singleton] at hi
  by_cases e : i = ps.length
  · subst e
    rw [g3_app2 (Nat.le_refl _), Nat.sub_self]
    simp (disch := omega) only [uI_n, uI_s]
    exact ⟨ha, hb, hc⟩
  · rw [g3_app1 (by omega)]
    simp (disch := omega) only [uI_n, uI_k]
    exact h.2 i (by omega)
theorem tlF_congr {rs : RS} (hv : VR rs) (h0 : 0 < rs.length) {L L2 : Nat → Nat} (hL : ∀ t, WW rs t ≠ 0 → L t = L2 t) (e : Nat) : ∀ (k s : Nat) (ps : List T3), WW rs s ≠ 0 → L s < 1000000 → tlF rs L e k s ps = tlF rs L2 e k s ps := by
  intro k
  induction k with
  | zero => exact fun s ps _ _ => rfl
  | succ k ih =>
    intro s ps hw hl
    have e1 : fcut rs L s 3844 0 = fcut rs L2 s 3844 0 := fcut_congr (hL s hw) (fun m t hm ht => hL t (WW_step hv h0 hw (Or.inl ⟨m, hm, ht, rfl⟩))) 3844 0 (Nat.le_refl _)
    have e2 : ftx rs L s (lgT rs s) 1 = ftx rs L2 s (lgT rs s) 1 := ftx_congr (hL s hw) (fun n hn hnl => hL _ (WW_step hv h0 hw (Or.inr ⟨n - 1, by have := lgT_le rs s; omega, by rw [tT, if_pos (by omega), Nat.sub_add_cancel hn], rfl⟩))) _ 1 (by omega) (by omega)
    rw [tlF, tlF, ← e1, ← e2]
    by_cases c : s < e
    · rw [if_pos c, if_pos c]
      cases x : fcut rs L s 3844 0 with
      | some mt =>
        obtain ⟨m, t⟩ := mt
        have n := fcut_next hv h0 hw hl x
        exact ih t _ n.1 n.2.2.1
      | none =>
        cases y : ftx rs L s (lgT rs s) 1 with
        | some nt =>
          obtain ⟨m, t⟩ := nt
          have n := ftx_next hv h0 hw hl y
          exact ih t _ n.1 n.2.2.1
        | none => rfl
    · rw [if_neg c, if_neg c]
def NX (rs : RS) (L : Nat → Nat) (s : Nat) (ps : List T3) (p : T3) (t : Nat) : Prop := (∀ k, tlF rs L (enT rs) (k + 1) s ps = tlF rs L (enT rs) k t (ps ++ [p])) ∧ WW rs t ≠ 0 ∧ s % 6 < t % 6 ∧ L t < 1000000
theorem tl_facts {rs : RS} (hv : VR rs) (h0 : 0 < rs.length) {L : Nat → Nat} (hLST : LST rs L) {s : Nat} (hw : WW rs s ≠ 0) (hs : s < enT rs) (hl : L s < 1000000) (ps : List T3) : ∃ FC FX : Option (Nat × Nat), fcut rs L s 3844 0 = FC ∧ ftx rs L s (lgT rs s) 1 = FX ∧ (FC = none → FX ≠ none) ∧ (∀ m t, FC = some (m, t) → NX rs L s ps (0, m / 62, m % 62) t) ∧ ∀ n t, FC = none → FX = some (n, t) → NX rs L s ps (1, n, dg s 0) t := by
  refine ⟨_, _, rfl, rfl, fun x y => LS_some hLST hw hs hl x y, fun m t x => ?_, fun n t x y => ?_⟩
  · have n := fcut_next hv h0 hw hl x
    refine ⟨fun k => ?_, n.1, n.2.1, n.2.2.1⟩
    rw [tlF, if_pos hs, x]
  · have n := ftx_next hv h0 hw hl y
    refine ⟨fun k => ?_, n.1, n.2.1, n.2.2.1⟩
    rw [tlF, if_pos hs, x, y]
section ZR7
variable {M : Mem} {rs : RS}
theorem M_goOn_ok (hv : VR rs) (h0 : 0 < rs.length) (hok : OKR rs) (hW : WK M rs) (hC : CD M) {L : Nat → Nat} (hL : ∀ t, t < 6 ^ rs.length → M.1 15 t = nI (L t) ∧ L t ≤ 1000000) {s : Nat} (hS : VS rs s) {ps : List T3} (hP : PK M ps) (hl : ps.length < 5) {FC FX : Option (Nat × Nat)} (hFC : fcut rs L s 3844 0 = FC) (hFX : ftx rs L s (lgT rs s) 1 = FX) (hne : FC = none → FX ≠ none) {Q : Int32 → Mem → Prop}
    (kc : ∀ m t M', FC = some (m, t) → PK M' (ps ++ [(0, m / 62, m % 62)]) → KF 16 19 [23] M M' → Q (nI t) M')
    (kt : ∀ n t M', FC = none → FX = some (n, t) → PK M' (ps ++ [(1, n, dg s 0)]) → KF 16 19 [23] M M' → Q (nI t) M') : CallI zY m_M_goOn [.ref 0, .int (nI s)] M Q := by
  have hpr := pow_rows hv
  have hsR := VS_rows hS
  have hLs := hL s hsR
  have hg5 := lgT_le rs s
  have k121 : FC = none → ∀ (u n : Nat), n + u = lgT rs s + 1 → 0 < n → ftx rs L s u n = FX → wp zY m_M_goOn (QI Q) 121 [(0, .ref 0), (1, .int (nI s)), (2, .int (nI n))] [] M := by
    intro hn0 u
    induction u with
    | zero =>
      intro n hn hnp hE
      rw [ftx] at hE
      exact absurd hE.symm (hne hn0)
    | succ u ih =>
      intro n hn hnp hE
      rw [ftx] at hE
      refine b_M_goOn_121 (pk_lt 5 n (fun z => absurd z (by omega)) (fun _ => M_text_ok hv h0 hok hW (by omega) hS hnp (by omega) ?_))
      rw [tX, if_pos (by omega), oI_some, nI_1]
      have hV := txT_V hv hS (n := n) (by omega)
      have htR := VS_rows hV.1
      have hLt := hL _ htR
      refine br_f (fun z => absurd ((nI_ltI (b := 0) (by omega) (by omega)).mp z) (Nat.not_lt_zero _)) ⟨vp_in_nI (by omega) (by omega), vp_in_nI (by omega) (by omega), ?_⟩
      rw [nI_clamp (by omega), nI_clamp (by omega), hLt.1, hLs.1, show (2 : Int32) * nI n = nI (2 * n) from pk_mul 2 n, nI_add, show nI (L (txT rs s n) + 2 * n) + 2 = nI (L (txT rs s n) + 2 * n + 2) from nI_add _ 2]
      refine pk_eq (L (txT rs s n) + 2 * n + 2) (L s) (fun z => ?_) (fun z => ?_)
      · rw [if_pos (by omega)] at hE
        rw [hP.1]
        refine ⟨vp_in_nI (by omega) (by omega), ?_⟩
        rintro N rfl
        rw [nI_clamp (by omega), uI_n (b := 0) (by omega), hP.1]
        refine ⟨vp_in_nI (by omega) (by omega), ?_⟩
        rintro N rfl
        rw [nI_clamp (by omega), uI_n (b := 0) (by omega), uI_n (b := 0) (by omega), hP.1]
        refine M_at_ok (e := 0) (by omega) (by omega) ⟨vp_in_nI (by omega) (by omega), ?_⟩
        rintro N rfl N2 rfl
        rw [nI_clamp (by omega)]
        rw [uI_n (b := 0) (by omega), uI_n (b := 0) (by omega), uI_n (b := 0) (by omega), hP.1, nI_1]
        have pp := PK_push hP (p := (1, n, dg s 0)) (a := 1) (b := nI n) (c := nI (dg s 0)) rfl rfl rfl
        exact kt n _ _ hn0 hE.symm pp.1 pp.2
      · rw [if_neg (by omega)] at hE
        exact ih (n + 1) (by omega) (by omega) hE
  have k2 : ∀ (u m : Nat), m + u = 3844 → fcut rs L s u m = FC → wp zY m_M_goOn (QI Q) 2 [(0, .ref 0), (1, .int (nI s)), (2, .int (nI m))] [] M := by
    intro u
    induction u with
    | zero =>
      intro m hm hE
      refine b_M_goOn_2 (pk_le 3844 m (fun _ => ?_) (fun z => absurd z (by omega)))
      rw [fcut] at hE
      exact k121 hE.symm (lgT rs s) 1 (by omega) (by omega) hFX
    | succ u ih =>
      intro m hm hE
      rw [fcut] at hE
      refine b_M_goOn_2 (pk_le 3844 m (fun z => absurd z (by omega)) (fun _ => ?_))
      have d1 : nI m / 62 = nI (m / 62) := pk_div (d := 62) (by omega) (by omega) (by omega)
      have d2 : nI m - nI (m / 62) * 62 = nI (m % 62) := by
        have := pk_rem (a := m) (d := 62) (by omega) (by omega) (by omega)
        rw [← d1]
        exact this
      rw [d1, d2, nI_1]
      refine M_cut_ok hv hW (by omega) hS (by omega) (by omega) ?_
      cases ex : ctT rs s (m / 62) (m % 62) with
      | none =>
        rw [ex] at hE
        exact br_t (by decide) (ih (m + 1) (by omega) hE)
      | some t =>
        rw [ex] at hE
        have hV := ctT_V hv hS ex
        have htR := VS_rows hV.1
        have hLt := hL _ htR
        have b1 := mprice_le (m / 62)
        have b2 := mprice_le (m % 62)
        refine br_f (fun z => absurd ((nI_ltI (b := 0) (by omega) (by omega)).mp z) (Nat.not_lt_zero _)) ⟨vp_in_nI (by omega) (by omega), M_costOfCut_ok hC (by omega) (by omega) ⟨vp_in_nI (by omega) (by omega), ?_⟩⟩
        rw [oI_some, nI_clamp (by omega), nI_clamp (by omega), hLt.1, hLs.1, nI_add]
        have hE2 : (if mprice (m / 62) + mprice (m % 62) + 1 + L t = L s then some (m, t) else fcut rs L s u (m + 1)) = FC := hE
        refine pk_eq (L t + (mprice (m / 62) + mprice (m % 62) + 1)) (L s) (fun z => ?_) (fun z => ?_)
        · rw [if_pos (by omega)] at hE2
          rw [hP.1]
          refine ⟨vp_in_nI (by omega) (by omega), ?_⟩
          rintro N rfl
          rw [nI_clamp (by omega), uI_n (b := 0) (by omega), uI_n (b := 8) (by omega), hP.1]
          refine ⟨vp_in_nI (by omega) (by omega), vp_in_nI (by omega) (by omega), ?_⟩
          rintro N rfl
          rw [nI_clamp (by omega), nI_clamp (by omega), uI_n (b := 0) (by omega), uI_n (b := 0) (by omega), uI_n (b := 8) (by omega), uI_n (b := 8) (by omega), hP.1, hC _ (by omega)]
          refine ⟨vp_in_nI (by omega) (by omega), vp_in_nI (by omega) (by omega), ?_⟩
          rintro N rfl N2 rfl
          rw [nI_clamp (by omega), nI_clamp (by omega), hC _ (by omega), uI_n (b := 0) (by omega), uI_n (b := 0) (by omega), uI_n (b := 0) (by omega), hP.1, nI_1]
          have pp := PK_push hP (p := (0, m / 62, m % 62)) (a := 0) (b := nI (mcode (m / 62))) (c := nI (mcode (m % 62))) rfl rfl rfl
          exact kc m t _ hE2.symm pp.1 pp.2
        · rw [if_neg (by omega)] at hE2
          exact ih (m + 1) (by omega) hE2
  exact e_M_goOn (k2 3844 0 (Nat.zero_add _) hFC)
end ZR7
