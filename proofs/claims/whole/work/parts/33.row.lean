/-! rows: a line and what a plan must make of it -/
/-- how many signs are the same at the head of both -/
def cE : List Int32 → List Int32 → Nat
  | x :: xs, y :: ys => if x = y then cE xs ys + 1 else 0
  | _, _ => 0
def al (l r : List Int32) (p q : Nat) : Nat := cE (l.drop p) (r.drop q)
theorem cE_nil (r : List Int32) : cE r [] = 0 := by cases r <;> rfl
theorem cE_le1 : ∀ (l r : List Int32), cE l r ≤ l.length
  | [], r => Nat.zero_le _
  | x :: xs, [] => Nat.zero_le _
  | x :: xs, y :: ys => by
    unfold cE
    split
    · have := cE_le1 xs ys
      rw [List.length_cons]
      omega
    · omega
theorem cE_le2 : ∀ (l r : List Int32), cE l r ≤ r.length
  | [], r => Nat.zero_le _
  | x :: xs, [] => Nat.le_refl _
  | x :: xs, y :: ys => by
    unfold cE
    split
    · have := cE_le2 xs ys
      rw [List.length_cons]
      omega
    · omega
theorem drop_gt {l : List Int32} {p : Nat} (h : p < l.length) : l.drop p = gt l p :: l.drop (p + 1) := by
  rw [List.drop_eq_getElem_cons h]
  congr 1
  simp [gt, List.getD_eq_getElem?_getD, List.getElem?_eq_getElem h]
theorem al_step {l r : List Int32} {p q : Nat} (h1 : p < l.length) (h2 : q < r.length) : al l r p q = if gt l p = gt r q then al l r (p + 1) (q + 1) + 1 else 0 := by
  unfold al
  rw [drop_gt h1, drop_gt h2]
  rfl
theorem al_0 {l r : List Int32} {p q : Nat} (h : l.length ≤ p ∨ r.length ≤ q) : al l r p q = 0 := by
  unfold al
  rcases h with h | h
  · rw [List.drop_eq_nil_of_le h]
    rfl
  · rw [List.drop_eq_nil_of_le h]
    exact cE_nil _
theorem al_le (l r : List Int32) (p q : Nat) : al l r p q ≤ l.length - p ∧ al l r p q ≤ r.length - q := by
  unfold al
  have h1 := cE_le1 (l.drop p) (r.drop q)
  have h2 := cE_le2 (l.drop p) (r.drop q)
  rw [List.length_drop] at h1 h2
  exact ⟨h1, h2⟩
/-- a row in the class's memory -/
def RW (M : Mem) (a : Nat) (l r : List Int32) : Prop := SG M (a + 1) r ∧ (∀ m, m < 62 → M.1 (a + 4) m = oI (plc l m)) ∧ ∀ p, p ≤ 12 → ∀ q, q ≤ 5 → M.1 (a + 5 + 1 + 1 * p) q = nI (al l r p q)
theorem RW.fr {M M' : Mem} {a lo hi : Nat} {l r : List Int32} (h : RW M a l r) (f : FR lo hi M M') (ha : a + 19 ≤ lo ∨ hi ≤ a) : RW M' a l r := by
  refine ⟨h.1.fr f (by omega), fun m hm => ?_, fun p hp q hq => ?_⟩
  · rw [(f (a + 4) (by omega)).1]
    exact h.2.1 m hm
  · rw [(f (a + 5 + 1 + 1 * p) (by omega)).1]
    exact h.2.2 p hp q hq
section ZRO
variable {a : Nat} {l r : List Int32} {b nb : Nat}
theorem Rw_countAlike_ok (t : T_Rw zX a) (tb : T_Sg zX b nb) (hnb : nb < 100) (hl : l.length ≤ nb) (hl2 : l.length ≤ 12) (hr : r.length ≤ 5) {M : Mem} (hR : SG M (a + 1) r) (hL : SG M b l) {p q : Nat} (hp : p ≤ 12) (hq : q ≤ 5) (hrow : p + 1 ≤ 12 → q + 1 ≤ 5 → M.1 (a + 5 + 1 + 1 * (p + 1)) (q + 1) = nI (al l r (p + 1) (q + 1))) {Q : Int32 → Mem → Prop} (h : Q (nI (al l r p q)) M) : CallI zX m_Rw_countAlike [.ref a, .ref b, .int (nI p), .int (nI q)] M Q := by
  have h0 : (l.length ≤ p ∨ r.length ≤ q) → Q 0 M := fun c => by
    rw [al_0 c] at h
    exact h
  refine e_Rw_countAlike t tb (pk_le 12 p (fun c => h0 (by omega)) (fun c => pk_lt q 5 (fun c2 => ?_) (fun c2 => h0 (by omega))))
  refine Sg_many_ok tb hL (pk_le l.length p (fun c3 => h0 (by omega)) (fun c3 => ?_))
  refine Sg_many_ok t.2.1 hR (pk_le r.length q (fun c4 => h0 (by omega)) (fun c4 => ?_))
  refine Sg_at_ok tb hnb hL hl (by omega) (Sg_at_ok t.2.1 (by omega) hR hr (by omega) ⟨fun c5 => ?_, fun c5 => ?_⟩)
  · rw [nI_1, nI_1]
    refine ⟨vp_in_nI (by omega) (by omega), vp_in_nI (by omega) (by omega), ?_⟩
    rw [nI_clamp (by omega), nI_clamp (by omega), hrow (by omega) (by omega), nI_1]
    rw [al_step c3 c4, if_pos c5] at h
    exact h
  · rw [al_step c3 c4, if_neg c5] at h
    exact h
theorem Rw_become_ok (t : T_Rw zX a) (tb : T_Sg zX b nb) (hnb : nb < 100) (hb : b + 3 ≤ a ∨ a + 19 ≤ b) (hl : l.length ≤ nb) (hl2 : l.length ≤ 12) (hr : r.length ≤ 5) {c nc : Nat} (tc : T_Sg zX c nc) (hnc : nc < 100) (hc : c + 3 ≤ a ∨ a + 19 ≤ c) (hrc : r.length ≤ nc) {M : Mem} (hL : SG M b l) (hR : SG M c r) {Q : Mem → Prop} (h : ∀ M', RW M' a l r → FR a (a + 19) M M' → Q M') : CallV zX m_Rw_become [.ref a, .ref b, .ref c] M Q := by
  have k43 : ∀ (p : Nat), p ≤ 12 → (∀ M', SG M' (a + 1) r → SG M' b l → (∀ m, m < 62 → M'.1 (a + 4) m = oI (plc l m)) → (∀ p', p ≤ p' → p' ≤ 12 → ∀ q, q ≤ 5 → M'.1 (a + 5 + 1 + 1 * p') q = nI (al l r p' q)) → FR a (a + 19) M M' → wp zX m_Rw_become (QV Q) 36 [(0, .ref a), (1, .ref b), (3, .int (nI p + (-1)))] [] M') →
      ∀ (j : Nat) (M' : Mem), j ≤ 6 → SG M' (a + 1) r → SG M' b l → (∀ m, m < 62 → M'.1 (a + 4) m = oI (plc l m)) → (∀ p', p < p' → p' ≤ 12 → ∀ q, q ≤ 5 → M'.1 (a + 5 + 1 + 1 * p') q = nI (al l r p' q)) → (∀ q, j ≤ q → q ≤ 5 → M'.1 (a + 5 + 1 + 1 * p) q = nI (al l r p q)) → FR a (a + 19) M M' → wp zX m_Rw_become (QV Q) 43 [(0, .ref a), (1, .ref b), (3, .int (nI p)), (4, .int (nI j + (-1)))] [] M' := by
    intro p hp h36 j
    induction j with
    | zero =>
      intro M' _ g1 g2 g3 g4 g5 g6
      refine b_Rw_become_43 t tb (br_t (by decide) (h36 M' g1 g2 g3 (fun p' h1 h2 q hq => ?_) g6))
      by_cases e : p' = p
      · subst e
        exact g5 q (Nat.zero_le _) hq
      · exact g4 p' (by omega) h2 q hq
    | succ j ih =>
      intro M' hj g1 g2 g3 g4 g5 g6
      rw [pk_m1]
      refine b_Rw_become_43 t tb (br_f (nI_pos (by omega)) ⟨vp_in_nI (by omega) (by omega), ?_⟩)
      refine Rw_countAlike_ok t tb hnb hl hl2 hr g1 g2 hp (by omega) (fun h1 h2 => g4 (p + 1) (by omega) h1 (j + 1) h2) ⟨vp_in_nI (by omega) (by omega), ?_⟩
      rintro N rfl
      rw [nI_clamp (by omega), nI_clamp (by omega)]
      have f : FR a (a + 19) M' (uI M' (a + 5 + 1 + 1 * p) j (nI (al l r p j))) := FR.uI (by omega) (by omega)
      have f2 : FR (a + 5) (a + 19) M' (uI M' (a + 5 + 1 + 1 * p) j (nI (al l r p j))) := FR.uI (by omega) (by omega)
      refine ih _ (by omega) (g1.fr f2 (by omega)) (g2.fr f (by omega)) (fun m hm => ?_) (fun p' h1 h2 q hq => ?_) (fun q h1 h2 => ?_) (g6.trans f)
      · rw [uI_n (by omega)]
        exact g3 m hm
      · rw [uI_n (by omega)]
        exact g4 p' h1 h2 q hq
      · by_cases e : q = j
        · subst e
          rw [uI_s]
        · rw [uI_k e]
          exact g5 q (by omega) h2
  have k36 : ∀ (k : Nat) (M' : Mem), k ≤ 13 → SG M' (a + 1) r → SG M' b l → (∀ m, m < 62 → M'.1 (a + 4) m = oI (plc l m)) → (∀ p', k ≤ p' → p' ≤ 12 → ∀ q, q ≤ 5 → M'.1 (a + 5 + 1 + 1 * p') q = nI (al l r p' q)) → FR a (a + 19) M M' → wp zX m_Rw_become (QV Q) 36 [(0, .ref a), (1, .ref b), (3, .int (nI k + (-1)))] [] M' := by
    intro k
    induction k with
    | zero =>
      intro M' _ g1 g2 g3 g4 g6
      exact b_Rw_become_36 t tb (br_t (by decide) (h M' ⟨g1, g3, fun p hp q hq => g4 p (Nat.zero_le _) hp q hq⟩ g6))
    | succ k ih =>
      intro M' hk g1 g2 g3 g4 g6
      rw [pk_m1]
      refine b_Rw_become_36 t tb (br_f (nI_pos (by omega)) ?_)
      exact k43 k (by omega) (fun M2 e1 e2 e3 e4 e5 => ih M2 (by omega) e1 e2 e3 e4 e5) 6 M' (Nat.le_refl _) g1 g2 g3 (fun p' h1 h2 => g4 p' (by omega) h2) (fun q h1 h2 => absurd h1 (by omega)) g6
  have k10 : ∀ (k i : Nat) (M' : Mem), i + k = 62 → SG M' (a + 1) r → SG M' b l → (∀ m, m < i → M'.1 (a + 4) m = oI (plc l m)) → FR a (a + 19) M M' → wp zX m_Rw_become (QV Q) 10 [(0, .ref a), (1, .ref b), (3, .int (nI i))] [] M' := by
    intro k
    induction k with
    | zero =>
      intro i M' hi g1 g2 g3 g6
      refine b_Rw_become_10 t tb (pk_le 62 i (fun _ => ?_) (fun q => absurd q (by omega)))
      exact k36 13 M' (Nat.le_refl _) g1 g2 (fun m hm => g3 m (by omega)) (fun p' h1 h2 => absurd h1 (by omega)) g6
    | succ k ih =>
      intro i M' hi g1 g2 g3 g6
      refine b_Rw_become_10 t tb (pk_le 62 i (fun q => absurd q (by omega)) (fun q => ?_))
      refine Mk_placeIn_ok tb hnb g2 hl q ⟨vp_in_nI q (by omega), ?_⟩
      rintro N rfl
      rw [nI_clamp (by omega), nI_1]
      have f : FR a (a + 19) M' (uI M' (a + 4) i (oI (plc l i))) := FR.uI (by omega) (by omega)
      have f2 : FR (a + 4) (a + 5) M' (uI M' (a + 4) i (oI (plc l i))) := FR.uI (by omega) (by omega)
      refine ih (i + 1) _ (by omega) (g1.fr f2 (by omega)) (g2.fr f (by omega)) (fun m hm => ?_) (g6.trans f)
      by_cases e : m = i
      · subst e
        rw [uI_s]
      · rw [uI_k e]
        exact g3 m (by omega)
  refine e_Rw_become t tb tc (Sg_copy_ok t.2.1 (by omega) tc hnc (by omega) hrc hr hR (fun M2 hS2 hF2 => ?_))
  have f := hF2.mono (lo' := a) (hi' := a + 19) (by omega) (by omega)
  exact k10 62 0 M2 rfl hS2 (hL.fr f (by omega)) (fun m hm => absurd hm (Nat.not_lt_zero m)) f
theorem Rw_placeOf_ok (t : T_Rw zX a) {M : Mem} (hW : RW M a l r) {m : Nat} (hm : m < 62) {Q : Int32 → Mem → Prop} (h : Q (oI (plc l m)) M) : CallI zX m_Rw_placeOf [.ref a, .int (nI m)] M Q := by
  refine e_Rw_placeOf t (pk_lt m 0 (fun q => absurd q (by omega)) (fun _ => pk_le 62 m (fun q => absurd q (by omega)) (fun _ => ⟨vp_in_nI hm (by omega), ?_⟩)))
  rw [nI_clamp (by omega), hW.2.1 m hm]
  exact h
/-- how long a cut from a place on can be -/
def lgf (l r : List Int32) (p : Option Nat) (q : Nat) : Nat := match p with
  | none => 0
  | some p => al l r p q
theorem Rw_longestFrom_ok (t : T_Rw zX a) {M : Mem} (hW : RW M a l r) {p : Option Nat} (hp : ∀ k, p = some k → k ≤ 12) {q : Nat} (hq : q ≤ 5) {Q : Int32 → Mem → Prop} (h : Q (nI (lgf l r p q)) M) : CallI zX m_Rw_longestFrom [.ref a, .int (oI p), .int (nI q)] M Q := by
  cases p with
  | none => exact e_Rw_longestFrom t (br_t (by decide) h)
  | some k =>
    have hk := hp k rfl
    rw [oI_some]
    refine e_Rw_longestFrom t (pk_lt k 0 (fun z => absurd z (by omega)) (fun _ => pk_lt 12 k (fun z => absurd z (by omega)) (fun _ => pk_lt q 0 (fun z => absurd z (by omega)) (fun _ => pk_le q 5 (fun _ => ⟨vp_in_nI (by omega) (by omega), vp_in_nI (by omega) (by omega), ?_⟩) (fun z => absurd z (by omega))))))
    rw [nI_clamp (by omega), nI_clamp (by omega), hW.2.2 k hk q hq]
    exact h
/-- how many signs of the result a cut makes; 0: it does not fit there -/
def ctl (l r : List Int32) (m1 m2 q : Nat) : Nat := match plc l m1, plc l m2 with
  | some a, some b => if a < b ∧ b - a ≤ al l r a q then b - a else 0
  | _, _ => 0
theorem Rw_cutLength_ok (t : T_Rw zX a) {M : Mem} (hW : RW M a l r) (hl : l.length ≤ 12) {m1 m2 : Nat} (h1 : m1 < 62) (h2 : m2 < 62) {q : Nat} (hq : q ≤ 5) {Q : Int32 → Mem → Prop} (h : Q (nI (ctl l r m1 m2 q)) M) : CallI zX m_Rw_cutLength [.ref a, .int (nI m1), .int (nI m2), .int (nI q)] M Q := by
  have hb1 : ∀ k, plc l m1 = some k → k ≤ 12 := fun k e => Nat.le_trans (plc_le e) hl
  have hb2 : ∀ k, plc l m2 = some k → k ≤ 12 := fun k e => Nat.le_trans (plc_le e) hl
  refine e_Rw_cutLength t (Rw_placeOf_ok t hW h1 (Rw_placeOf_ok t hW h2 ?_))
  unfold ctl at h
  cases e1 : plc l m1 with
  | none =>
    rw [e1] at h
    refine ⟨fun _ => h, fun c => ?_⟩
    rw [e1] at hb1
    refine Rw_longestFrom_ok t hW hb1 hq ⟨fun _ => h, fun c2 => absurd ?_ c2⟩
    have e0 : nI (lgf l r none q) = 0 := rfl
    rw [e0]
    rw [Int32.lt_iff_toInt_lt]
    rw [Int32.le_iff_toInt_le] at c
    exact Int.not_le.mp c
  | some p1 =>
    have k1 := hb1 p1 e1
    cases e2 : plc l m2 with
    | none =>
      rw [e1, e2] at h
      refine ⟨fun _ => h, fun c => absurd ?_ c⟩
      have : ∀ p, p ≤ 12 → ((-6 : Int32) - nI p) ≤ 0 := by decide
      exact this p1 k1
    | some p2 =>
      have k2 := hb2 p2 e2
      rw [e1, e2] at h
      rw [oI_some, oI_some]
      by_cases hlt : p1 < p2
      · rw [pk_sub (by omega)]
        refine pk_le (p2 - p1) 0 (fun z => absurd z (by omega)) (fun _ => ?_)
        rw [e1] at hb1
        refine Rw_longestFrom_ok t hW hb1 hq ?_
        have hal := al_le l r p1 q
        refine pk_lt (al l r p1 q) (p2 - p1) (fun z => ?_) (fun z => ?_)
        · simp only [if_neg (show ¬ (p1 < p2 ∧ p2 - p1 ≤ al l r p1 q) by omega)] at h
          exact h
        · simp only [if_pos (show (p1 < p2 ∧ p2 - p1 ≤ al l r p1 q) by omega)] at h
          exact h
      · simp only [if_neg (show ¬ (p1 < p2 ∧ p2 - p1 ≤ al l r p1 q) by omega)] at h
        refine ⟨fun _ => h, fun c => absurd ?_ c⟩
        rw [Int32.le_iff_toInt_le, pk_sub_toInt (by omega) (by omega), show (0 : Int32).toInt = 0 from by decide]
        omega
end ZRO
