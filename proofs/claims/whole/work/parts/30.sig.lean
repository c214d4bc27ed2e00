/-! lines as lists of signs; what a method leaves as it was; Signs -/
/-- outside a range of cells the memory is the same -/
def FR (lo hi : Nat) (M M' : Mem) : Prop := ∀ a : Nat, (a < lo ∨ hi ≤ a) → M'.1 a = M.1 a ∧ M'.2 a = M.2 a
theorem FR.rf {lo hi : Nat} {M : Mem} : FR lo hi M M := fun _ _ => ⟨rfl, rfl⟩
theorem FR.trans {lo hi : Nat} {M M' M'' : Mem} (h : FR lo hi M M') (h' : FR lo hi M' M'') : FR lo hi M M'' := fun a ha => ⟨(h' a ha).1.trans (h a ha).1, (h' a ha).2.trans (h a ha).2⟩
theorem FR.mono {lo hi lo' hi' : Nat} {M M' : Mem} (h : FR lo hi M M') (h1 : lo' ≤ lo) (h2 : hi ≤ hi') : FR lo' hi' M M' := fun a ha => h a (by omega)
theorem FR.uI {lo hi a k : Nat} {M : Mem} {v : Int32} (h1 : lo ≤ a) (h2 : a < hi) : FR lo hi M (uI M a k v) := fun b hb => ⟨if_neg (by omega), rfl⟩
theorem FR.uL {lo hi a k : Nat} {M : Mem} {v : Int64} (h1 : lo ≤ a) (h2 : a < hi) : FR lo hi M (uL M a k v) := fun b hb => ⟨rfl, if_neg (by omega)⟩
theorem uI_s {M : Mem} {a k : Nat} {v : Int32} : (uI M a k v).1 a k = v := by simp [uI, upd]
theorem uI_k {M : Mem} {a k j : Nat} {v : Int32} (h : j ≠ k) : (uI M a k v).1 a j = M.1 a j := by simp [uI, upd, h]
theorem uI_n {M : Mem} {a k b : Nat} {v : Int32} (h : b ≠ a) : (uI M a k v).1 b = M.1 b := by simp [uI, h]
theorem uI_2 {M : Mem} {a k : Nat} {v : Int32} : (uI M a k v).2 = M.2 := rfl
theorem uL_s {M : Mem} {a k : Nat} {v : Int64} : (uL M a k v).2 a k = v := by simp [uL, vp_updL]
theorem uL_k {M : Mem} {a k j : Nat} {v : Int64} (h : j ≠ k) : (uL M a k v).2 a j = M.2 a j := by simp [uL, vp_updL, h]
theorem uL_n {M : Mem} {a k b : Nat} {v : Int64} (h : b ≠ a) : (uL M a k v).2 b = M.2 b := by simp [uL, h]
theorem uL_1 {M : Mem} {a k : Nat} {v : Int64} : (uL M a k v).1 = M.1 := rfl
/-- the i-th sign; 0 behind the end -/
def gt (l : List Int32) (i : Nat) : Int32 := l.getD i 0
theorem gt_ge {l : List Int32} {i : Nat} (h : l.length ≤ i) : gt l i = 0 := by simp [gt, List.getD_eq_getElem?_getD, List.getElem?_eq_none h]
theorem gt_app1 {l r : List Int32} {i : Nat} (h : i < l.length) : gt (l ++ r) i = gt l i := by simp [gt, List.getD_eq_getElem?_getD, List.getElem?_append_left h]
theorem gt_app2 {l r : List Int32} {i : Nat} (h : l.length ≤ i) : gt (l ++ r) i = gt r (i - l.length) := by simp [gt, List.getD_eq_getElem?_getD, List.getElem?_append_right h]
theorem gt_ext {l r : List Int32} (hl : l.length = r.length) (h : ∀ i, i < l.length → gt l i = gt r i) : l = r := by
  apply List.ext_getElem? 
  intro i
  by_cases hi : i < l.length
  · have := h i hi
    simp only [gt, List.getD_eq_getElem?_getD, List.getElem?_eq_getElem hi, List.getElem?_eq_getElem (hl ▸ hi), Option.getD_some] at this
    rw [List.getElem?_eq_getElem hi, List.getElem?_eq_getElem (hl ▸ hi), this]
  · rw [List.getElem?_eq_none (by omega), List.getElem?_eq_none (by omega)]
/-- the class of a sign -/
def kd (x : Int32) : Int32 := if 97 ≤ x ∧ x ≤ 101 then 0 else if 48 ≤ x ∧ x ≤ 52 then 1 else if x = 45 ∨ x = 46 then 2 else -6
theorem kd_0 : kd 0 = -6 := by decide
/-- a row of signs in the class's memory -/
def SG (M : Mem) (a : Nat) (l : List Int32) : Prop := M.1 a 2 = nI l.length ∧ ∀ i, i < l.length → M.1 (a + 1) i = gt l i ∧ M.1 (a + 2) i = kd (gt l i)
theorem SG.fr {M M' : Mem} {a lo hi : Nat} {l : List Int32} (h : SG M a l) (f : FR lo hi M M') (ha : a + 3 ≤ lo ∨ hi ≤ a) : SG M' a l := by
  have e0 := (f a (by omega)).1
  have e1 := (f (a + 1) (by omega)).1
  have e2 := (f (a + 2) (by omega)).1
  refine ⟨by rw [e0]; exact h.1, fun i hi => ?_⟩
  rw [e1, e2]
  exact h.2 i hi
theorem Sg_many_ok {a n : Nat} (t : T_Sg zX a n) {M : Mem} {l : List Int32} (hS : SG M a l) {Q : Int32 → Mem → Prop} (h : Q (nI l.length) M) : CallI zX m_Sg_many [.ref a] M Q := e_Sg_many t (by rw [hS.1]; exact h)
theorem Sg_clear_ok {a n : Nat} (t : T_Sg zX a n) {M : Mem} {Q : Mem → Prop} (h : ∀ M', SG M' a [] → FR a (a + 3) M M' → Q M') : CallV zX m_Sg_clear [.ref a] M Q := by
  refine e_Sg_clear t ?_
  rintro N rfl
  exact h _ ⟨uI_s, fun i hi => absurd hi (Nat.not_lt_zero i)⟩ (FR.uI (Nat.le_refl _) (by omega))
theorem Sg_kindOf_ok {M : Mem} {x : Int32} {Q : Int32 → Mem → Prop} (h : Q (kd x) M) : CallI zX m_Sg_kindOf [.int x] M Q := by
  have key : ∀ y : Int32, kd x = y → Q y M := fun y e => e ▸ h
  have h14 : ¬ (97 ≤ x ∧ x ≤ 101) → wp zX m_Sg_kindOf (QI Q) 14 [(0, .int x)] [] M := by
    intro hx
    have h2 : ¬ (48 ≤ x ∧ x ≤ 52) → (x = 45 → Q 2 M) ∧ (¬ x = 45 → ((x = 46 → Q 2 M) ∧ (¬ x = 46 → Q (-6) M))) := by
      intro hy
      refine ⟨fun c => key _ ?_, fun c => ⟨fun c2 => key _ ?_, fun c2 => key _ ?_⟩⟩
      · rw [kd, if_neg hx, if_neg hy, if_pos (Or.inl c)]
      · rw [kd, if_neg hx, if_neg hy, if_pos (Or.inr c2)]
      · rw [kd, if_neg hx, if_neg hy, if_neg (fun q => q.elim c c2)]
    refine b_Sg_kindOf_14 ⟨fun c => h2 ?_, fun c => ⟨fun c2 => h2 ?_, fun c2 => key _ ?_⟩⟩
    · rw [Int32.lt_iff_toInt_lt] at c
      rw [Int32.le_iff_toInt_le]
      omega
    · rw [Int32.lt_iff_toInt_lt] at c2
      rw [Int32.le_iff_toInt_le, Int32.le_iff_toInt_le]
      omega
    · rw [kd, if_neg hx, if_pos]
      rw [Int32.lt_iff_toInt_lt] at c c2
      rw [Int32.le_iff_toInt_le, Int32.le_iff_toInt_le]
      omega
  refine e_Sg_kindOf ⟨fun c => h14 ?_, fun c => ⟨fun c2 => h14 ?_, fun c2 => key _ ?_⟩⟩
  · rw [Int32.lt_iff_toInt_lt] at c
    rw [Int32.le_iff_toInt_le]
    omega
  · rw [Int32.lt_iff_toInt_lt] at c2
    rw [Int32.le_iff_toInt_le, Int32.le_iff_toInt_le]
    omega
  · rw [kd, if_pos]
    rw [Int32.lt_iff_toInt_lt] at c c2
    rw [Int32.le_iff_toInt_le, Int32.le_iff_toInt_le]
    omega
theorem Sg_add_ok {a n : Nat} (t : T_Sg zX a n) (hn : n < 100) {M : Mem} {l : List Int32} (hS : SG M a l) (hl : l.length < n) {x : Int32} {Q : Int32 → Mem → Prop} (h : ∀ M', SG M' a (l ++ [x]) → FR a (a + 3) M M' → Q 1 M') : CallI zX m_Sg_add [.ref a, .int x] M Q := by
  refine e_Sg_add t ⟨by omega, ?_⟩
  rw [hS.1]
  refine pk_le n l.length (fun q => absurd q (by omega)) (fun _ => ⟨by omega, ?_⟩)
  refine pk_lt l.length n (fun _ => ⟨vp_in_nI hl (by omega), ?_⟩) (fun q => absurd q (by omega))
  rintro N rfl
  refine Sg_kindOf_ok ?_
  rw [uI_n (by omega), hS.1]
  refine ⟨vp_in_nI hl (by omega), ?_⟩
  rintro N2 rfl N3 rfl
  rw [nI_clamp (by omega)]
  refine h _ ⟨?_, fun i hi => ?_⟩ ?_
  · rw [uI_s, uI_n (by omega), uI_n (by omega), hS.1, List.length_append, List.length_singleton]
    exact nI_1 _
  · rw [List.length_append, List.length_singleton] at hi
    by_cases hi2 : i = l.length
    · subst hi2
      simp (disch := omega) only [uI_n, uI_k, uI_s, gt_app2 (Nat.le_refl _), Nat.sub_self]
      exact ⟨rfl, rfl⟩
    · simp (disch := omega) only [uI_n, uI_k, uI_s, gt_app1]
      exact hS.2 i (by omega)
  · exact ((FR.uI (by omega) (by omega)).trans (FR.uI (by omega) (by omega))).trans (FR.uI (by omega) (by omega))
theorem Sg_at_ok {a n : Nat} (t : T_Sg zX a n) (hn : n < 100) {M : Mem} {l : List Int32} (hS : SG M a l) (hl : l.length ≤ n) {i : Nat} (hi : i < 2 ^ 31) {Q : Int32 → Mem → Prop} (h : Q (gt l i) M) : CallI zX m_Sg_at [.ref a, .int (nI i)] M Q := by
  refine e_Sg_at t ?_
  rw [hS.1]
  refine pk_lt i 0 (fun q => absurd q (by omega)) (fun _ => ?_)
  refine pk_le l.length i (fun q => ?_) (fun q => ⟨vp_in_nI (by omega) (by omega), ?_⟩)
  · rw [gt_ge q] at h
    exact h
  · rw [nI_clamp hi, (hS.2 i q).1]
    exact h
theorem Sg_kindAt_ok {a n : Nat} (t : T_Sg zX a n) (hn : n < 100) {M : Mem} {l : List Int32} (hS : SG M a l) (hl : l.length ≤ n) {i : Nat} (hi : i < 2 ^ 31) {Q : Int32 → Mem → Prop} (h : Q (kd (gt l i)) M) : CallI zX m_Sg_kindAt [.ref a, .int (nI i)] M Q := by
  refine e_Sg_kindAt t ?_
  rw [hS.1]
  refine pk_lt i 0 (fun q => absurd q (by omega)) (fun _ => ?_)
  refine pk_le l.length i (fun q => ?_) (fun q => ⟨vp_in_nI (by omega) (by omega), ?_⟩)
  · rw [gt_ge q, kd_0] at h
    exact h
  · rw [nI_clamp hi, (hS.2 i q).2]
    exact h
theorem Sg_kindAt_neg {a n : Nat} (t : T_Sg zX a n) {M : Mem} {i : Int32} (hi : i < 0) {Q : Int32 → Mem → Prop} (h : Q (-6) M) : CallI zX m_Sg_kindAt [.ref a, .int i] M Q := e_Sg_kindAt t ⟨fun _ => h, fun c => absurd hi c⟩
theorem Sg_addFrom_ok {a n : Nat} (t : T_Sg zX a n) (hn : n < 100) {b nb : Nat} (tb : T_Sg zX b nb) (hnb : nb < 100) (hab : a + 3 ≤ b ∨ b + 3 ≤ a) {r : List Int32} (hrl : r.length ≤ nb) {to : Nat} (hto : to < 2 ^ 31) {Q : Mem → Prop} : ∀ (k i : Nat) (M : Mem) (l : List Int32), min to r.length ≤ i + k → i ≤ to → i < 2 ^ 30 → SG M a l → SG M b r → l.length + (min to r.length - i) ≤ n →
    (∀ M', SG M' a (l ++ (r.take to).drop i) → FR a (a + 3) M M' → Q M') → wp zX m_Sg_addFrom (QV Q) 3 [(0, .ref a), (1, .ref b), (3, .int (nI to)), (4, .int (nI i))] [] M := by
  intro k
  induction k with
  | zero =>
    intro i M l hk hi hi2 hS hR hl h
    have hd : (r.take to).drop i = [] := List.drop_eq_nil_of_le (by rw [List.length_take]; omega)
    rw [hd, List.append_nil] at h
    refine b_Sg_addFrom_3 t tb ?_
    rw [hR.1]
    refine pk_le to i (fun _ => h M hS FR.rf) (fun q => ?_)
    exact pk_le r.length i (fun _ => h M hS FR.rf) (fun q2 => absurd q2 (by omega))
  | succ k ih =>
    intro i M l hk hi hi2 hS hR hl h
    refine b_Sg_addFrom_3 t tb ?_
    rw [hR.1]
    refine pk_le to i (fun q => ?_) (fun q => ?_)
    · have hd : (r.take to).drop i = [] := List.drop_eq_nil_of_le (by rw [List.length_take]; omega)
      rw [hd, List.append_nil] at h
      exact h M hS FR.rf
    refine pk_le r.length i (fun q2 => ?_) (fun q2 => ?_)
    · have hd : (r.take to).drop i = [] := List.drop_eq_nil_of_le (by rw [List.length_take]; omega)
      rw [hd, List.append_nil] at h
      exact h M hS FR.rf
    refine Sg_at_ok tb hnb hR hrl (by omega) ?_
    refine Sg_add_ok t hn hS (by omega) (fun M2 hS2 hF2 => ?_)
    rw [nI_1]
    refine ih (i + 1) M2 (l ++ [gt r i]) (by omega) (by omega) (by omega) hS2 (hR.fr hF2 (by omega)) (by rw [List.length_append, List.length_singleton]; omega) (fun M3 hS3 hF3 => h M3 ?_ (hF2.trans hF3))
    have e : (r.take to).drop i = gt r i :: (r.take to).drop (i + 1) := by
      have hlt : i < (r.take to).length := by rw [List.length_take]; omega
      rw [List.drop_eq_getElem_cons hlt]
      congr 1
      simp [gt, List.getD_eq_getElem?_getD, List.getElem?_eq_getElem q2]
    rw [e]
    rw [List.append_assoc] at hS3
    exact hS3
