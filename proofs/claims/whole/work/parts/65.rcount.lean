/-! The reference counts -/
theorem lgc_le0 {a : Nat} (ha : a < 2 ^ 63) : lg_cmp (lN a) 0 ≤ 0 ↔ a = 0 := by
  unfold lg_cmp
  have e1 : lN a > 0 ↔ 0 < a := by
    show 0 < lN a ↔ 0 < a
    rw [Int64.lt_iff_toInt_lt, lN_toInt63 ha]
    have z : (0 : Int64).toInt = 0 := rfl
    omega
  by_cases c : a = 0
  · subst c
    exact ⟨fun _ => rfl, fun _ => by decide⟩
  · rw [if_pos (e1.mpr (by omega))]
    exact ⟨fun z => absurd z (by decide), fun z => absurd z c⟩
theorem sm_one {f g : Nat → Nat} {r c : Nat} (hr : g r = f r + c) : ∀ {n : Nat}, r < n → (∀ i, i < n → i ≠ r → f i = g i) → sm n g = sm n f + c
  | 0, h, _ => absurd h (Nat.not_lt_zero r)
  | n + 1, h, h2 => by
    rw [show sm (n + 1) g = sm n g + g n from rfl, show sm (n + 1) f = sm n f + f n from rfl]
    by_cases e : r = n
    · subst e
      rw [hr, sm_congr (fun i hi => (h2 i (by omega) (by omega)).symm)]
      omega
    · have := sm_one hr (n := n) (by omega) (fun i hi => h2 i (by omega))
      rw [this, h2 n (by omega) (by omega)]
      omega
def S1 (rs : RS) (r m t : Nat) : Nat := sm m (fun m => if ctT rs r (m / 62) (m % 62) = some t then 1 else 0)
def S2 (rs : RS) (r n t : Nat) : Nat := sm n (fun j => if tT rs r j = some t then 1 else 0)
theorem S1_s {rs : RS} {r m t : Nat} : S1 rs r (m + 1) t = S1 rs r m t + (if ctT rs r (m / 62) (m % 62) = some t then 1 else 0) := rfl
theorem S2_s {rs : RS} {r n t : Nat} : S2 rs r (n + 1) t = S2 rs r n t + (if tT rs r n = some t then 1 else 0) := rfl
theorem S1_0 {rs : RS} {r t : Nat} : S1 rs r 0 t = 0 := rfl
theorem S2_0 {rs : RS} {r t : Nat} : S2 rs r 0 t = 0 := rfl
theorem TT_S {rs : RS} {r t : Nat} : TT rs r t = S1 rs r 3844 t + S2 rs r 5 t := rfl
def DD (rs : RS) (p r t : Nat) : Nat := w0 t + sm 1296 (fun i => if i % 6 < p ∨ (i % 6 = p ∧ i < r) then WW rs i * TT rs i t else 0)
def D1 (rs : RS) (p r m t : Nat) : Nat := DD rs p r t + WW rs r * S1 rs r m t
def D2 (rs : RS) (p r n t : Nat) : Nat := DD rs p r t + WW rs r * (S1 rs r 3844 t + S2 rs r n t)
theorem D1_e {rs : RS} {p r m t : Nat} : D1 rs p r m t = DD rs p r t + WW rs r * S1 rs r m t := rfl
theorem D2_e {rs : RS} {p r n t : Nat} : D2 rs p r n t = DD rs p r t + WW rs r * (S1 rs r 3844 t + S2 rs r n t) := rfl
section ZR5
variable {M : Mem} {rs : RS}
theorem VS_rows {s : Nat} (h : VS rs s) : s < 6 ^ rs.length := by
  refine Nat.lt_of_not_le fun z => ?_
  have := Nat.div_pos z (Nat.pow_pos (by omega))
  have := h.1
  omega
theorem DD_self (hv : VR rs) (h0 : 0 < rs.length) {p r : Nat} (hr : r < 1296) (hp : r % 6 = p) : DD rs p r r = WW rs r := by
  rw [WW_eq hv h0 hr, DD]
  refine congrArg (HAdd.hAdd (w0 _)) (sm_congr (fun i hi => ?_))
  by_cases z : WW rs i * TT rs i r = 0
  · rw [z]
    split <;> rfl
  · have zw : WW rs i ≠ 0 := fun y => z (by rw [y, Nat.zero_mul])
    have zt : TT rs i r ≠ 0 := fun y => z (by rw [y, Nat.mul_zero])
    obtain ⟨c, hc⟩ := TT_pos zt
    have := (PCE_V hv h0 (WW_V hv h0 zw) hc).2.1
    rw [dg0, dg0] at this
    rw [if_pos (Or.inl (by omega))]
theorem DD_step {p r t : Nat} (hr : r < 1296) (hp : r % 6 = p) : DD rs p (r + 6) t = DD rs p r t + WW rs r * TT rs r t := by
  rw [DD, DD, Nat.add_assoc]
  refine congrArg (HAdd.hAdd (w0 _)) (sm_one (r := r) ?_ hr (fun i hi hne => ?_))
  · rw [if_pos (Or.inr ⟨hp, by omega⟩), if_neg (by omega), Nat.zero_add]
  · by_cases c : i % 6 < p ∨ (i % 6 = p ∧ i < r)
    · rw [if_pos c, if_pos (by omega)]
    · rw [if_neg c, if_neg (by omega)]
theorem DD_next (hv : VR rs) (h0 : 0 < rs.length) {p r t : Nat} (hr : 6 ^ rs.length ≤ r) : DD rs (p + 1) (p + 1) t = DD rs p r t := by
  rw [DD, DD]
  refine congrArg (HAdd.hAdd (w0 _)) (sm_congr (fun i hi => ?_))
  by_cases z : WW rs i = 0
  · rw [z, Nat.zero_mul]
    split <;> split <;> rfl
  · have := VS_rows (WW_V hv h0 z)
    by_cases c : i % 6 < p ∨ (i % 6 = p ∧ i < r)
    · rw [if_pos c, if_pos (by omega)]
    · rw [if_neg c, if_neg (by omega)]
theorem DD_0 {t : Nat} : DD rs 0 0 t = w0 t := by
  rw [DD, sm_z (fun i hi => if_neg (by omega)), Nat.add_zero]
theorem DD_6 (hv : VR rs) (h0 : 0 < rs.length) {t : Nat} (ht : t < 1296) : DD rs 6 6 t = WW rs t := by
  rw [WW_eq hv h0 ht, DD]
  refine congrArg (HAdd.hAdd (w0 _)) (sm_congr (fun i hi => ?_))
  rw [if_pos (Or.inl (by omega))]
theorem pow_rows (hv : VR rs) : 6 ^ rs.length ≤ 1296 := by
  have := hv.1
  have h : rs.length = 0 ∨ rs.length = 1 ∨ rs.length = 2 ∨ rs.length = 3 ∨ rs.length = 4 := by omega
  rcases h with h | h | h | h | h <;> rw [h] <;> decide
/-- an array of numbers of ways -/
def WA (M : Mem) (n : Nat) (v : Nat → Nat) : Prop := ∀ t, t < n → M.2 14 t = lN (v t)
theorem WA.add {M : Mem} {n : Nat} {v v' : Nat → Nat} (h : WA M n v) {t c : Nat} (ht : t < n) (h2 : ∀ u, u < n → v' u = v u + (if t = u then c else 0)) : WA (uL M 14 t (lN (v t) + lN c)) n v' := by
  intro u hu
  rw [h2 u hu]
  by_cases e : u = t
  · subst e
    rw [uL_s, if_pos rfl, lN_add]
  · rw [uL_k e, if_neg (fun z => e z.symm), Nat.add_zero]
    exact h u hu
theorem WK.m1 {M' : Mem} (h : WK M rs) (e : M'.1 = M.1) : WK M' rs := by
  unfold WK WR at h ⊢
  rw [e]
  exact h
theorem uL_m1 {M' M0 : Mem} {a k : Nat} {v : Int64} (e : M'.1 = M0.1) : (uL M' a k v).1 = M0.1 := e
theorem M_count_ok (hv : VR rs) (h0 : 0 < rs.length) (hok : OKR rs) (hW : WK M rs) {Q : Int64 → Mem → Prop} (k : ∀ M', WA M' (6 ^ rs.length) (WW rs) → KF 14 15 [] M M' → M'.1 = M.1 → Q (lN (CN rs)) M') : CallL zY m_M_count [.ref 0] M Q := by
  have hpr := pow_rows hv
  generalize hR : 6 ^ rs.length = R at hpr k
  have pR : 0 < R := by rw [← hR]; exact Nat.pow_pos (by omega)
  have key116 : ∀ (u n p r : Nat) (M' : Mem), n + u = 6 → 0 < n → r < R → r % 6 = p → WW rs r ≠ 0 → KF 14 15 [] M M' → M'.1 = M.1 → WA M' R (D2 rs p r (n - 1)) →
      (∀ M', KF 14 15 [] M M' → M'.1 = M.1 → WA M' R (DD rs p (r + 6)) → wp zY m_M_count (QL Q) 42 [(0, .ref 0), (1, .int (nI R)), (2, .int (nI p)), (3, .int (nI (r + 6)))] [] M') →
      wp zY m_M_count (QL Q) 116 [(0, .ref 0), (1, .int (nI R)), (2, .int (nI p)), (3, .int (nI r)), (4, .int (nI n))] [] M' := by
    intro u
    induction u with
    | zero =>
      intro n p r M' hn hn0 hr hp hw f e hA kk
      refine b_M_count_116 (pk_lt 5 n (fun _ => ?_) (fun z => absurd z (by omega)))
      rw [show nI r + 6 = nI (r + 6) from nI_add r 6]
      refine kk M' f e (fun t ht => ?_)
      have : n - 1 = 5 := by omega
      rw [DD_step (by omega) hp, hA t ht, this, TT_S, D2_e]
    | succ u ih =>
      intro n p r M' hn hn0 hr hp hw f e hA kk
      have hVS := WW_V hv h0 hw
      have hW' : WK M' rs := hW.m1 e
      refine b_M_count_116 (pk_lt 5 n (fun z => absurd z (by omega)) (fun _ => ?_))
      refine M_text_ok hv h0 hok hW' (by omega) hVS hn0 (by omega) ?_
      have et : tT rs r (n - 1) = tX rs r n := by rw [tT, tX, Nat.sub_add_cancel hn0]
      have es : ∀ t, S2 rs r (n + 1 - 1) t = S2 rs r (n - 1) t + (if tX rs r n = some t then 1 else 0) := fun t => by
        obtain ⟨n', rfl⟩ : ∃ n', n = n' + 1 := ⟨n - 1, by omega⟩
        rw [← et]
        exact S2_s
      rw [nI_1]
      cases ex : tX rs r n with
      | none =>
        refine br_t (by decide) (ih (n + 1) p r M' (by omega) (by omega) hr hp hw f e (fun t ht => ?_) kk)
        rw [hA t ht, D2_e, D2_e, es t, ex, if_neg (by simp), Nat.add_zero]
      | some t =>
        have hP : PCE rs r t (2 * ((n - 1) + 1) + 2) := Or.inr ⟨n - 1, by omega, by rw [et]; exact ex, rfl⟩
        have hpv := PCE_V hv h0 hVS hP
        have htR : t < R := by rw [← hR]; exact VS_rows hpv.1
        have ne : t ≠ r := by omega
        refine br_f (fun z => absurd ((nI_ltI (a := t) (b := 0) (by omega) (by omega)).mp z) (Nat.not_lt_zero t)) ⟨vp_in_nI (by omega) (by omega), vp_in_nI (by omega) (by omega), vp_in_nI (by omega) (by omega), ?_⟩
        rintro N rfl
        rw [oI_some, nI_clamp (by omega), nI_clamp (by omega)]
        have self : M'.2 14 r = lN (WW rs r) := by
          rw [hA r hr, D2_e, DD_self hv h0 (by omega) hp, S1, S2, sm_z (fun m hm => if_neg (fun z => ?_)), sm_z (fun j hj => if_neg (fun z => ?_))]
          · rw [Nat.mul_zero, Nat.add_zero]
          · have := (PCE_V hv h0 hVS (Or.inr ⟨j, by omega, z, rfl⟩)).2.2.1
            omega
          · have := (PCE_V hv h0 hVS (Or.inl ⟨m, hm, z, rfl⟩)).2.2.1
            omega
        rw [self, hA t htR]
        refine ih (n + 1) p r _ (by omega) (by omega) hr hp hw (f.trans (KF.wL (by omega) (by omega))) (uL_m1 e) (WA.add hA htR (fun x hx => ?_)) kk
        rw [D2_e, D2_e, es x, ex, ← Nat.add_assoc (S1 rs r 3844 x), Nat.mul_add, ← Nat.add_assoc]
        by_cases e3 : t = x
        · subst e3
          rw [if_pos rfl, if_pos rfl, Nat.mul_one]
        · rw [if_neg (fun z => e3 (Option.some.inj z)), if_neg e3, Nat.mul_zero]
  have key61 : ∀ (u m p r : Nat) (M' : Mem), m + u = 3844 → r < R → r % 6 = p → WW rs r ≠ 0 → KF 14 15 [] M M' → M'.1 = M.1 → WA M' R (D1 rs p r m) →
      (∀ M', KF 14 15 [] M M' → M'.1 = M.1 → WA M' R (DD rs p (r + 6)) → wp zY m_M_count (QL Q) 42 [(0, .ref 0), (1, .int (nI R)), (2, .int (nI p)), (3, .int (nI (r + 6)))] [] M') →
      wp zY m_M_count (QL Q) 61 [(0, .ref 0), (1, .int (nI R)), (2, .int (nI p)), (3, .int (nI r)), (4, .int (nI m))] [] M' := by
    intro u
    induction u with
    | zero =>
      intro m p r M' hm hr hp hw f e hA kk
      have : m = 3844 := by omega
      subst this
      refine b_M_count_61 (br_t (Int32.le_refl _) (key116 5 1 p r M' rfl (by omega) hr hp hw f e (fun t ht => by rw [hA t ht, D1_e, D2_e, Nat.sub_self, S2_0, Nat.add_zero]) kk))
    | succ u ih =>
      intro m p r M' hm hr hp hw f e hA kk
      have hVS := WW_V hv h0 hw
      have hW' : WK M' rs := hW.m1 e
      refine b_M_count_61 (pk_le 3844 m (fun z => absurd z (by omega)) (fun _ => ?_))
      have d1 : nI m / 62 = nI (m / 62) := pk_div (d := 62) (by omega) (by omega) (by omega)
      have d2 : nI m - nI (m / 62) * 62 = nI (m % 62) := by
        have := pk_rem (a := m) (d := 62) (by omega) (by omega) (by omega)
        rw [← d1]
        exact this
      rw [d1, d2]
      refine M_cut_ok hv hW' (by omega) hVS (by omega) (by omega) ?_
      rw [nI_1]
      cases ex : ctT rs r (m / 62) (m % 62) with
      | none =>
        refine br_t (by decide) (ih (m + 1) p r M' (by omega) hr hp hw f e (fun t ht => ?_) kk)
        rw [hA t ht, D1_e, D1_e, S1_s, ex, if_neg (by simp), Nat.add_zero]
      | some t =>
        have hP : PCE rs r t _ := Or.inl ⟨m, by omega, ex, rfl⟩
        have hpv := PCE_V hv h0 hVS hP
        have htR : t < R := by rw [← hR]; exact VS_rows hpv.1
        refine br_f (fun z => absurd ((nI_ltI (a := t) (b := 0) (by omega) (by omega)).mp z) (Nat.not_lt_zero t)) ⟨vp_in_nI (by omega) (by omega), vp_in_nI (by omega) (by omega), vp_in_nI (by omega) (by omega), ?_⟩
        rintro N rfl
        rw [oI_some, nI_clamp (by omega), nI_clamp (by omega)]
        have self : M'.2 14 r = lN (WW rs r) := by
          rw [hA r hr, D1_e, DD_self hv h0 (by omega) hp, S1, sm_z (fun m2 hm2 => if_neg (fun z => ?_))]
          · rw [Nat.mul_zero, Nat.add_zero]
          · have := (PCE_V hv h0 hVS (Or.inl ⟨m2, by omega, z, rfl⟩)).2.2.1
            omega
        rw [self, hA t htR]
        refine ih (m + 1) p r _ (by omega) hr hp hw (f.trans (KF.wL (by omega) (by omega))) (uL_m1 e) (WA.add hA htR (fun x hx => ?_)) kk
        rw [D1_e, D1_e, S1_s, ex, Nat.mul_add, ← Nat.add_assoc]
        by_cases e3 : t = x
        · subst e3
          rw [if_pos rfl, if_pos rfl, Nat.mul_one]
        · rw [if_neg (fun z => e3 (Option.some.inj z)), if_neg e3, Nat.mul_zero]
  have key42 : ∀ (u p r : Nat) (M' : Mem), R ≤ r + 6 * u → r < R + 6 → r % 6 = p → p ≤ 5 → KF 14 15 [] M M' → M'.1 = M.1 → WA M' R (DD rs p r) →
      (∀ M', KF 14 15 [] M M' → M'.1 = M.1 → WA M' R (DD rs (p + 1) (p + 1)) → wp zY m_M_count (QL Q) 35 [(0, .ref 0), (1, .int (nI R)), (2, .int (nI (p + 1)))] [] M') →
      wp zY m_M_count (QL Q) 42 [(0, .ref 0), (1, .int (nI R)), (2, .int (nI p)), (3, .int (nI r))] [] M' := by
    intro u
    induction u with
    | zero =>
      intro p r M' hu hr hp hp5 f e hA kk
      refine b_M_count_42 (pk_le R r (fun _ => ?_) (fun z => absurd z (by omega)))
      rw [nI_1]
      refine kk M' f e (fun t ht => ?_)
      rw [DD_next hv h0 (r := r) (by omega)]
      exact hA t ht
    | succ u ih =>
      intro p r M' hu hr hp hp5 f e hA kk
      refine b_M_count_42 (pk_le R r (fun _ => ?_) (fun z => ⟨vp_in_nI (by omega) (by omega), ?_⟩))
      · rw [nI_1]
        refine kk M' f e (fun t ht => ?_)
        rw [DD_next hv h0 (r := r) (by omega)]
        exact hA t ht
      · rw [nI_clamp (by omega), hA r z, DD_self hv h0 (by omega) hp]
        have nx : ∀ M', KF 14 15 [] M M' → M'.1 = M.1 → WA M' R (DD rs p (r + 6)) → wp zY m_M_count (QL Q) 42 [(0, .ref 0), (1, .int (nI R)), (2, .int (nI p)), (3, .int (nI (r + 6)))] [] M' :=
          fun M2 f2 e2 hA2 => ih p (r + 6) M2 (by omega) (by omega) (by omega) hp5 f2 e2 hA2 kk
        by_cases w : WW rs r = 0
        · refine br_t ((lgc_le0 (WW_lt hv h0 r)).mpr w) ?_
          rw [show nI r + 6 = nI (r + 6) from nI_add r 6]
          refine nx M' f e (fun t ht => ?_)
          rw [DD_step (by omega) hp, w, Nat.zero_mul, Nat.add_zero]
          exact hA t ht
        · refine br_f (fun y => w ((lgc_le0 (WW_lt hv h0 r)).mp y)) ?_
          refine key61 3844 0 p r M' (Nat.zero_add _) z hp w f e (fun t ht => ?_) nx
          rw [hA t ht, D1_e, S1_0, Nat.mul_zero, Nat.add_zero]
  have key35 : ∀ (u p : Nat) (M' : Mem), p + u = 6 → KF 14 15 [] M M' → M'.1 = M.1 → WA M' R (DD rs p p) → wp zY m_M_count (QL Q) 35 [(0, .ref 0), (1, .int (nI R)), (2, .int (nI p))] [] M' := by
    intro u
    induction u with
    | zero =>
      intro p M' hp f e hA
      have : p = 6 := by omega
      subst this
      have hVS : CN rs < 2 ^ 63 := CN_lt hv h0
      refine b_M_count_35 (br_t (by decide) (M_end_ok hv (hW.m1 e) ?_))
      have he := enT_b hv
      have heR : enT rs < R := by
        rw [← hR]
        have : ∀ (k i acc : Nat), i + k = rs.length → acc < 6 ^ i → enF rs k i acc < 6 ^ rs.length := by
          intro k
          induction k with
          | zero =>
            intro i acc hi ha
            rw [enF, ← hi]
            exact ha
          | succ k ih =>
            intro i acc hi ha
            rw [enF]
            refine ih (i + 1) _ (by omega) ?_
            have hle := (hv.2 i (by omega)).2
            have := Nat.mul_le_mul_right (6 ^ i) hle
            rw [Nat.pow_succ]
            omega
        exact this rs.length 0 0 (Nat.zero_add _) (by decide)
      refine ⟨vp_in_nI (by omega) (by omega), ?_⟩
      rw [nI_clamp (by omega), hA _ heR, DD_6 hv h0 (by omega)]
      exact k M' (fun t ht => by rw [hA t ht, DD_6 hv h0 (by omega)]) f e
    | succ u ih =>
      intro p M' hp f e hA
      refine b_M_count_35 (pk_lt 5 p (fun z => absurd z (by omega)) (fun _ => ?_))
      exact key42 R p p M' (by omega) (by omega) (by omega) (by omega) f e hA (fun M2 f2 e2 hA2 => ih (p + 1) M2 (by omega) f2 e2 hA2)
  have key7 : ∀ (u t : Nat) (M' : Mem), t + u = R → KF 14 15 [] M M' → M'.1 = M.1 → (∀ x, x < t → M'.2 14 x = lN (w0 x)) → wp zY m_M_count (QL Q) 7 [(0, .ref 0), (1, .int (nI R)), (2, .int (nI t))] [] M' := by
    intro u
    induction u with
    | zero =>
      intro t M' ht f e hA
      refine b_M_count_7 (pk_le R t (fun _ => key35 6 0 M' rfl f e (fun x hx => ?_)) (fun z => absurd z (by omega)))
      rw [DD_0]
      exact hA x (by omega)
    | succ u ih =>
      intro t M' ht f e hA
      have up : ∀ v, v = lN (w0 t) → wp zY m_M_count (QL Q) 7 [(0, .ref 0), (1, .int (nI R)), (2, .int (nI (t + 1)))] [] (uL M' 14 t v) := by
        rintro v rfl
        refine ih (t + 1) _ (by omega) (f.trans (KF.wL (by omega) (by omega))) (uL_m1 e) (fun x hx => ?_)
        by_cases e2 : x = t
        · subst e2
          exact uL_s
        · rw [uL_k e2]
          exact hA x (by omega)
      refine b_M_count_7 (pk_le R t (fun z => absurd z (by omega)) (fun _ => ?_))
      rw [nI_clamp (by omega), nI_1]
      refine pk_eq t 0 (fun z => ⟨vp_in_nI (by omega) (by omega), ?_⟩) (fun z => ⟨vp_in_nI (by omega) (by omega), ?_⟩)
      · rintro N rfl
        refine up _ ?_
        rw [w0, if_pos z]
        rfl
      · rintro N rfl
        refine up _ ?_
        rw [w0, if_neg z]
        rfl
  refine e_M_count (M_rows_ok hv hW ?_)
  rw [hR]
  exact key7 R 0 M (Nat.zero_add _) KF.rf rfl (fun x hx => absurd hx (Nat.not_lt_zero x))
end ZR5
