/-! The reference weighs -/
def a0F (rs : RS) (r : Nat) : Nat := if r = enT rs then 0 else 1000000
/-- rows of places that are weighed before: those with a greater first place, and those before in the same -/
def PR (p r t : Nat) : Prop := p < t % 6 ∨ (t % 6 = p ∧ t < r)
def SPC (rs : RS) (L : Nat → Nat) (t : Nat) : Prop := L t ≤ 1000000 ∧ (WW rs t ≠ 0 → (t = enT rs → L t = 0) ∧ (t ≠ enT rs → LSP rs L t))
def LA (M : Mem) (rs : RS) (R : Nat) (L : Nat → Nat) (p r : Nat) : Prop := ∀ t, t < R → PR p r t → M.1 15 t = nI (L t) ∧ SPC rs L t
def GD (rs : RS) (L : Nat → Nat) (r a : Nat) : Prop := a ≤ a0F rs r ∧ (a = a0F rs r ∨ ∃ t c, PCE rs r t c ∧ a = c + L t)
section ZR6
variable {M : Mem} {rs : RS}
theorem M_costOfCut_ok (hC : CD M) {a b : Nat} (ha : a < 62) (hb : b < 62) {Q : Int32 → Mem → Prop} (k : Q (nI (mprice a + mprice b + 1)) M) : CallI zY m_M_costOfCut [.ref 0, .int (nI a), .int (nI b)] M Q := by
  refine e_M_costOfCut ⟨vp_in_nI ha (by omega), ?_⟩
  rw [nI_clamp (by omega), hC a ha]
  refine M_costOfMark_ok ha ⟨vp_in_nI hb (by omega), ?_⟩
  rw [nI_clamp (by omega), hC b hb]
  refine M_costOfMark_ok hb ?_
  rw [show (1 : Int32) + nI (mprice a) = nI (1 + mprice a) from nI_add 1 _, nI_add, show 1 + mprice a + mprice b = mprice a + mprice b + 1 from by omega]
  exact k
theorem SPC_up (hv : VR rs) (h0 : 0 < rs.length) {L : Nat → Nat} {t r a : Nat} (hr : r % 6 ≤ t % 6) (hne : t ≠ r) (h : SPC rs L t) : SPC rs (va_up L r a) t := by
  refine ⟨by rw [vu_n hne]; exact h.1, fun hw => ⟨fun he => by rw [vu_n hne]; exact (h.2 hw).1 he, fun he => ?_⟩⟩
  have hl := (h.2 hw).2 he
  have nx : ∀ u c, PCE rs t u c → va_up L r a u = L u := fun u c hp => vu_n (fun z => by
    have := (PCE_V hv h0 (WW_V hv h0 hw) hp).2.1
    rw [dg0, dg0] at this
    subst z
    omega)
  refine ⟨fun u c hp => by rw [vu_n hne, nx u c hp]; exact hl.1 u c hp, by rw [vu_n hne]; exact hl.2.1, ?_⟩
  rw [vu_n hne]
  rcases hl.2.2 with h1 | ⟨u, c, hp, h1⟩
  · exact Or.inl h1
  · exact Or.inr ⟨u, c, hp, by rw [nx u c hp]; exact h1⟩
/-- one row more is weighed -/
theorem LA_up (hv : VR rs) (h0 : 0 < rs.length) {R : Nat} {L : Nat → Nat} {p r a : Nat} (hp : r % 6 = p) {M' : Mem} (hA : LA M' rs R L p r) (hr : M'.1 15 r = nI a) (hg : GD rs L r a) (hall : WW rs r ≠ 0 → ∀ t c, PCE rs r t c → a ≤ c + L t) : LA M' rs R (va_up L r a) p (r + 6) := by
  intro t ht hP
  by_cases e : t = r
  · subst e
    have nx : WW rs t ≠ 0 → ∀ u c, PCE rs t u c → va_up L t a u = L u := fun hw u c hpc => vu_n (fun z => by
      have := (PCE_V hv h0 (WW_V hv h0 hw) hpc).2.1
      rw [dg0, dg0] at this
      subst z
      omega)
    have ale : a ≤ 1000000 := by
      have := hg.1
      unfold a0F at this
      split at this <;> omega
    refine ⟨by rw [vu_s]; exact hr, by rw [vu_s]; exact ale, fun hw => ⟨fun he => ?_, fun he => ⟨fun u c hpc => ?_, ?_, ?_⟩⟩⟩
    · rw [vu_s]
      rcases hg.2 with h1 | ⟨u, c, hpc, h1⟩
      · rw [h1, a0F, if_pos he]
      · have := PCE_V hv h0 (WW_V hv h0 hw) hpc
        omega
    · rw [vu_s, nx hw u c hpc]
      exact hall hw u c hpc
    · rw [vu_s]
      exact ale
    · rw [vu_s]
      rcases hg.2 with h1 | ⟨u, c, hpc, h1⟩
      · exact Or.inl (by rw [h1, a0F, if_neg he])
      · exact Or.inr ⟨u, c, hpc, by rw [nx hw u c hpc]; exact h1⟩
  · have hP2 : PR p r t := by
      rcases hP with h1 | h1
      · exact Or.inl h1
      · exact Or.inr ⟨h1.1, by omega⟩
    have h1 := hA t ht hP2
    refine ⟨by rw [vu_n e]; exact h1.1, SPC_up hv h0 ?_ e h1.2⟩
    rcases hP2 with h2 | h2 <;> omega
theorem LA_wr {R : Nat} {L : Nat → Nat} {p r : Nat} (hp : r % 6 = p) {M' : Mem} (hA : LA M' rs R L p r) (v : Int32) : LA (uI M' 15 r v) rs R L p r := by
  intro t ht hP
  have h1 := hA t ht hP
  rw [uI_k (fun z => by subst z; rcases hP with h2 | h2 <;> omega)]
  exact h1
/-- what stays while it is weighed -/
def KL (M : Mem) (rs : RS) (R : Nat) (M' : Mem) : Prop := WK M' rs ∧ CD M' ∧ WA M' R (WW rs) ∧ KF 14 16 [] M M'
theorem KL.wr {R : Nat} {M' : Mem} (h : KL M rs R M') (k : Nat) (v : Int32) : KL M rs R (uI M' 15 k v) := by
  have f : KF 15 16 [] M' (uI M' 15 k v) := KF.wI (by omega) (by omega) (by omega)
  exact ⟨h.1.kt f (by omega), h.2.1.kt f (by omega), fun t ht => h.2.2.1 t ht, h.2.2.2.trans (f.mono (by omega) (by omega))⟩
theorem M_weigh_ok (hv : VR rs) (h0 : 0 < rs.length) (hok : OKR rs) (hc : CN rs ≠ 0) {R : Nat} (hR : 6 ^ rs.length = R) {M0 : Mem} (hK : KL M rs R M0) {Q : Int32 → Mem → Prop}
    (k : ∀ M' L, KL M rs R M' → (∀ t, t < R → M'.1 15 t = nI (L t)) → LST rs L → L 0 ≤ 1000000 → (∀ t, t < R → L t ≤ 1000000) → wp zY m_M_layBest (QI Q) 27 [(0, .ref 0), (1, .int (nI R)), (2, .int (nI (enT rs))), (3, .int (-1))] [] M') :
    wp zY m_M_layBest (QI Q) 27 [(0, .ref 0), (1, .int (nI R)), (2, .int (nI (enT rs))), (3, .int 5)] [] M0 := by
  have hpr := pow_rows hv
  rw [hR] at hpr
  have pR : 0 < R := by rw [← hR]; exact Nat.pow_pos (by omega)
  have he := enT_b hv
  have heR : enT rs < R := by
    rw [← hR]
    exact VS_rows (WW_V hv h0 hc)
  have key175 : ∀ (u n p r a : Nat) (L : Nat → Nat) (M' : Mem), n + u = 6 → 0 < n → r < R → r % 6 = p → KL M rs R M' → LA M' rs R L p r → M'.1 15 r = nI a → GD rs L r a →
      (WW rs r ≠ 0 → (∀ m t, m < 3844 → ctT rs r (m / 62) (m % 62) = some t → a ≤ mprice (m / 62) + mprice (m % 62) + 1 + L t) ∧ ∀ j t, j < n - 1 → tT rs r j = some t → a ≤ 2 * (j + 1) + 2 + L t) →
      (∀ M' L, KL M rs R M' → LA M' rs R L p (r + 6) → wp zY m_M_layBest (QI Q) 34 [(0, .ref 0), (1, .int (nI R)), (2, .int (nI (enT rs))), (3, .int (nI p)), (4, .int (nI (r + 6)))] [] M') →
      wp zY m_M_layBest (QI Q) 175 [(0, .ref 0), (1, .int (nI R)), (2, .int (nI (enT rs))), (3, .int (nI p)), (4, .int (nI r)), (5, .int (nI n))] [] M' := by
    intro u
    induction u with
    | zero =>
      intro n p r a L M' hn hn0 hr hp hK' hA ha hg hall kk
      refine b_M_layBest_175 (pk_lt 5 n (fun _ => ?_) (fun z => absurd z (by omega)))
      rw [show nI r + 6 = nI (r + 6) from nI_add r 6]
      refine kk M' _ hK' (LA_up hv h0 hp hA ha hg (fun hw t c hpc => ?_))
      rcases hpc with ⟨m, hm, hm2, hm3⟩ | ⟨j, hj, hj2, hj3⟩
      · rw [hm3]
        exact (hall hw).1 m t hm hm2
      · rw [hj3]
        exact (hall hw).2 j t (by omega) hj2
    | succ u ih =>
      intro n p r a L M' hn hn0 hr hp hK' hA ha hg hall kk
      refine b_M_layBest_175 (pk_lt 5 n (fun z => absurd z (by omega)) (fun _ => ⟨vp_in_nI (by omega) (by omega), ?_⟩))
      rw [nI_clamp (by omega), hK'.2.2.1 r hr]
      by_cases w : WW rs r = 0
      · refine br_t ((lgc_le0 (WW_lt hv h0 r)).mpr w) ?_
        rw [show nI r + 6 = nI (r + 6) from nI_add r 6]
        exact kk M' _ hK' (LA_up hv h0 hp hA ha hg (fun hw => absurd w hw))
      · refine br_f (fun y => w ((lgc_le0 (WW_lt hv h0 r)).mp y)) ?_
        have hVS := WW_V hv h0 w
        refine M_text_ok hv h0 hok hK'.1 (by omega) hVS hn0 (by omega) ?_
        have et : tT rs r (n - 1) = tX rs r n := by rw [tT, tX, Nat.sub_add_cancel hn0]
        rw [nI_1]
        have ext : ∀ aa, aa ≤ a → (∀ t, tX rs r n = some t → aa ≤ 2 * n + 2 + L t) → (WW rs r ≠ 0 → (∀ m t, m < 3844 → ctT rs r (m / 62) (m % 62) = some t → aa ≤ mprice (m / 62) + mprice (m % 62) + 1 + L t) ∧ ∀ j t, j < n + 1 - 1 → tT rs r j = some t → aa ≤ 2 * (j + 1) + 2 + L t) := by
          intro aa hle hnew hw
          refine ⟨fun m t hm hm2 => Nat.le_trans hle ((hall hw).1 m t hm hm2), fun j t hj hj2 => ?_⟩
          by_cases e : j = n - 1
          · subst e
            rw [et] at hj2
            have := hnew t hj2
            omega
          · exact Nat.le_trans hle ((hall hw).2 j t (by omega) hj2)
        cases ex : tX rs r n with
        | none =>
          exact br_t (by decide) (ih (n + 1) p r a L M' (by omega) (by omega) hr hp hK' hA ha hg (ext a (Nat.le_refl _) (fun t ht => by rw [ex] at ht; cases ht)) kk)
        | some t =>
          have hP : PCE rs r t (2 * ((n - 1) + 1) + 2) := Or.inr ⟨n - 1, by omega, by rw [et]; exact ex, rfl⟩
          have hpv := PCE_V hv h0 hVS hP
          have htR : t < R := by rw [← hR]; exact VS_rows hpv.1
          have hd := hpv.2.1
          rw [dg0, dg0] at hd
          have hLt := hA t htR (Or.inl (by omega))
          have hLb := hLt.2.1
          have hab : a ≤ 1000000 := by
            have := hg.1
            unfold a0F at this
            split at this <;> omega
          refine br_f (fun z => absurd ((nI_ltI (a := t) (b := 0) (by omega) (by omega)).mp z) (Nat.not_lt_zero t)) ⟨vp_in_nI (by omega) (by omega), vp_in_nI (by omega) (by omega), ?_⟩
          rw [oI_some, nI_clamp (by omega), ha, hLt.1, show (2 : Int32) * nI n = nI (2 * n) from pk_mul 2 n, nI_add, show nI (L t + 2 * n) + 2 = nI (L t + 2 * n + 2) from nI_add _ 2]
          refine pk_le a (L t + 2 * n + 2) (fun z => ?_) (fun z => ⟨vp_in_nI (by omega) (by omega), vp_in_nI (by omega) (by omega), ?_⟩)
          · exact ih (n + 1) p r a L M' (by omega) (by omega) hr hp hK' hA ha hg (ext a (Nat.le_refl _) (fun tt ht => by rw [ex] at ht; cases ht; omega)) kk
          · rintro N rfl
            refine ih (n + 1) p r (L t + 2 * n + 2) L _ (by omega) (by omega) hr hp (hK'.wr _ _) (LA_wr hp hA _) uI_s ⟨by have := hg.1; omega, Or.inr ⟨t, _, hP, by omega⟩⟩ (ext _ (by omega) (fun tt ht => by rw [ex] at ht; cases ht; omega)) kk
  have key62 : ∀ (u m p r a : Nat) (L : Nat → Nat) (M' : Mem), m + u = 3844 → r < R → r % 6 = p → KL M rs R M' → LA M' rs R L p r → M'.1 15 r = nI a → GD rs L r a →
      (WW rs r ≠ 0 → ∀ i t, i < m → ctT rs r (i / 62) (i % 62) = some t → a ≤ mprice (i / 62) + mprice (i % 62) + 1 + L t) →
      (∀ M' L, KL M rs R M' → LA M' rs R L p (r + 6) → wp zY m_M_layBest (QI Q) 34 [(0, .ref 0), (1, .int (nI R)), (2, .int (nI (enT rs))), (3, .int (nI p)), (4, .int (nI (r + 6)))] [] M') →
      wp zY m_M_layBest (QI Q) 62 [(0, .ref 0), (1, .int (nI R)), (2, .int (nI (enT rs))), (3, .int (nI p)), (4, .int (nI r)), (5, .int (nI m))] [] M' := by
    intro u
    induction u with
    | zero =>
      intro m p r a L M' hm hr hp hK' hA ha hg hall kk
      have : m = 3844 := by omega
      subst this
      exact b_M_layBest_62 (br_t (Int32.le_refl _) (key175 5 1 p r a L M' rfl (by omega) hr hp hK' hA ha hg (fun hw => ⟨fun i t hi => hall hw i t hi, fun j t hj => absurd hj (by omega)⟩) kk))
    | succ u ih =>
      intro m p r a L M' hm hr hp hK' hA ha hg hall kk
      refine b_M_layBest_62 (pk_le 3844 m (fun z => absurd z (by omega)) (fun _ => ⟨vp_in_nI (by omega) (by omega), ?_⟩))
      rw [nI_clamp (by omega), hK'.2.2.1 r hr]
      by_cases w : WW rs r = 0
      · refine br_t ((lgc_le0 (WW_lt hv h0 r)).mpr w) ?_
        exact key175 5 1 p r a L M' rfl (by omega) hr hp hK' hA ha hg (fun hw => absurd w hw) kk
      · refine br_f (fun y => w ((lgc_le0 (WW_lt hv h0 r)).mp y)) ?_
        have hVS := WW_V hv h0 w
        have d1 : nI m / 62 = nI (m / 62) := pk_div (d := 62) (by omega) (by omega) (by omega)
        have d2 : nI m - nI (m / 62) * 62 = nI (m % 62) := by
          have := pk_rem (a := m) (d := 62) (by omega) (by omega) (by omega)
          rw [← d1]
          exact this
        rw [d1, d2]
        refine M_cut_ok hv hK'.1 (by omega) hVS (by omega) (by omega) ?_
        rw [nI_1]
        have ext : ∀ aa, aa ≤ a → (∀ t, ctT rs r (m / 62) (m % 62) = some t → aa ≤ mprice (m / 62) + mprice (m % 62) + 1 + L t) → (WW rs r ≠ 0 → ∀ i t, i < m + 1 → ctT rs r (i / 62) (i % 62) = some t → aa ≤ mprice (i / 62) + mprice (i % 62) + 1 + L t) := by
          intro aa hle hnew hw i t hi hi2
          by_cases e : i = m
          · subst e
            exact hnew t hi2
          · exact Nat.le_trans hle (hall hw i t (by omega) hi2)
        cases ex : ctT rs r (m / 62) (m % 62) with
        | none =>
          exact br_t (by decide) (ih (m + 1) p r a L M' (by omega) hr hp hK' hA ha hg (ext a (Nat.le_refl _) (fun t ht => by rw [ex] at ht; cases ht)) kk)
        | some t =>
          have hP : PCE rs r t (mprice (m / 62) + mprice (m % 62) + 1) := Or.inl ⟨m, by omega, ex, rfl⟩
          have hpv := PCE_V hv h0 hVS hP
          have htR : t < R := by rw [← hR]; exact VS_rows hpv.1
          have hd := hpv.2.1
          rw [dg0, dg0] at hd
          have hLt := hA t htR (Or.inl (by omega))
          have hLb := hLt.2.1
          have hcb := hpv.2.2.2.2
          have hab : a ≤ 1000000 := by
            have := hg.1
            unfold a0F at this
            split at this <;> omega
          refine br_f (fun z => absurd ((nI_ltI (a := t) (b := 0) (by omega) (by omega)).mp z) (Nat.not_lt_zero t)) ⟨vp_in_nI (by omega) (by omega), M_costOfCut_ok hK'.2.1 (by omega) (by omega) ⟨vp_in_nI (by omega) (by omega), ?_⟩⟩
          rw [oI_some, nI_clamp (by omega), ha, hLt.1, nI_add]
          generalize hcc : mprice (m / 62) + mprice (m % 62) + 1 = c at hP hcb ext ⊢
          refine pk_le a (L t + c) (fun z => ?_) (fun z => ⟨vp_in_nI (by omega) (by omega), ?_⟩)
          · exact ih (m + 1) p r a L M' (by omega) hr hp hK' hA ha hg (ext a (Nat.le_refl _) (fun tt ht => by rw [ex] at ht; cases ht; omega)) kk
          · refine M_costOfCut_ok hK'.2.1 (by omega) (by omega) ⟨vp_in_nI (by omega) (by omega), ?_⟩
            rintro N rfl
            rw [hcc, nI_add]
            exact ih (m + 1) p r (L t + c) L _ (by omega) hr hp (hK'.wr _ _) (LA_wr hp hA _) uI_s ⟨by have := hg.1; omega, Or.inr ⟨t, c, hP, by omega⟩⟩ (ext _ (by omega) (fun tt ht => by rw [ex] at ht; cases ht; omega)) kk
  have key34 : ∀ (u p r : Nat) (L : Nat → Nat) (M' : Mem), R ≤ r + 6 * u → r < R + 6 → r % 6 = p → p ≤ 5 → KL M rs R M' → LA M' rs R L p r →
      (∀ M' L, KL M rs R M' → (∀ t, t < R → p ≤ t % 6 → M'.1 15 t = nI (L t) ∧ SPC rs L t) → wp zY m_M_layBest (QI Q) 27 [(0, .ref 0), (1, .int (nI R)), (2, .int (nI (enT rs))), (3, .int (nI p + (-1)))] [] M') →
      wp zY m_M_layBest (QI Q) 34 [(0, .ref 0), (1, .int (nI R)), (2, .int (nI (enT rs))), (3, .int (nI p)), (4, .int (nI r))] [] M' := by
    intro u
    induction u with
    | zero =>
      intro p r L M' hu hr hp hp5 hK' hA kk
      exact b_M_layBest_34 (pk_le R r (fun _ => kk M' L hK' (fun t ht hP => hA t ht (by unfold PR; omega))) (fun z => absurd z (by omega)))
    | succ u ih =>
      intro p r L M' hu hr hp hp5 hK' hA kk
      refine b_M_layBest_34 (pk_le R r (fun _ => kk M' L hK' (fun t ht hP => hA t ht (by unfold PR; omega))) (fun z => ?_))
      have go : ∀ v, v = nI (a0F rs r) → wp zY m_M_layBest (QI Q) 62 [(0, .ref 0), (1, .int (nI R)), (2, .int (nI (enT rs))), (3, .int (nI p)), (4, .int (nI r)), (5, .int (nI 0))] [] (uI M' 15 r v) := by
        rintro v rfl
        refine key62 3844 0 p r (a0F rs r) L _ (Nat.zero_add _) z hp (hK'.wr _ _) (LA_wr hp hA _) uI_s ⟨Nat.le_refl _, Or.inl rfl⟩ (fun _ i t hi => absurd hi (Nat.not_lt_zero i)) (fun M2 L2 hK2 hA2 => ?_)
        exact ih p (r + 6) L2 M2 (by omega) (by omega) (by omega) hp5 hK2 hA2 kk
      rw [nI_clamp (by omega)]
      refine pk_eq r (enT rs) (fun e => ⟨vp_in_nI (by omega) (by omega), ?_⟩) (fun e => ⟨vp_in_nI (by omega) (by omega), ?_⟩)
      · rintro N rfl
        refine go _ ?_
        rw [a0F, if_pos e]
        rfl
      · rintro N rfl
        refine go _ ?_
        rw [a0F, if_neg e]
        rfl
  have key27 : ∀ (q : Nat) (L : Nat → Nat) (M' : Mem), q ≤ 6 → KL M rs R M' → (∀ t, t < R → q ≤ t % 6 → M'.1 15 t = nI (L t) ∧ SPC rs L t) → wp zY m_M_layBest (QI Q) 27 [(0, .ref 0), (1, .int (nI R)), (2, .int (nI (enT rs))), (3, .int (nI q + (-1)))] [] M' := by
    intro q
    induction q with
    | zero =>
      intro L M' hq hK' hA
      refine k M' L hK' (fun t ht => (hA t ht (Nat.zero_le _)).1) ⟨?_, fun s hw hs => ?_⟩ (hA 0 pR (Nat.zero_le _)).2.1 (fun t ht => (hA t ht (Nat.zero_le _)).2.1)
      · exact ((hA _ heR (Nat.zero_le _)).2.2 hc).1 rfl
      · exact ((hA s (by omega) (Nat.zero_le _)).2.2 hw).2 (by omega)
    | succ q ih =>
      intro L M' hq hK' hA
      rw [pk_m1]
      refine b_M_layBest_27 (pk_lt q 0 (fun z => absurd z (Nat.not_lt_zero q)) (fun _ => ?_))
      refine key34 R q q L M' (by omega) (by omega) (by omega) (by omega) hK' (fun t ht hP => hA t ht ?_) (fun M2 L2 hK2 hA2 => ih L2 M2 (by omega) hK2 hA2)
      rcases hP with h1 | h1 <;> omega
  exact key27 6 (fun _ => 0) M0 (Nat.le_refl _) hK (fun t ht h6 => absurd h6 (by omega))
end ZR6
