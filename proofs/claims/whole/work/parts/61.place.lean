/-! The reference: what is kept, classes, codes, places -/
def KF (lo hi : Nat) (F : List Nat) (M M' : Mem) : Prop := (∀ a, 0 < a → (a < lo ∨ hi ≤ a) → M'.1 a = M.1 a ∧ M'.2 a = M.2 a) ∧ ∀ k, k ∉ F → M'.1 0 k = M.1 0 k
theorem KF.rf {lo hi : Nat} {F : List Nat} {M : Mem} : KF lo hi F M M := ⟨fun _ _ _ => ⟨rfl, rfl⟩, fun _ _ => rfl⟩
theorem KF.trans {lo hi : Nat} {F : List Nat} {M M' M'' : Mem} (h : KF lo hi F M M') (h' : KF lo hi F M' M'') : KF lo hi F M M'' := ⟨fun a h0 ha => ⟨(h'.1 a h0 ha).1.trans (h.1 a h0 ha).1, (h'.1 a h0 ha).2.trans (h.1 a h0 ha).2⟩, fun k hk => (h'.2 k hk).trans (h.2 k hk)⟩
theorem KF.mono {lo hi lo' hi' : Nat} {F F' : List Nat} {M M' : Mem} (h : KF lo hi F M M') (h1 : lo' ≤ lo) (h2 : hi ≤ hi') (h3 : ∀ k, k ∈ F → k ∈ F' := by decide) : KF lo' hi' F' M M' := ⟨fun a h0 ha => h.1 a h0 (by omega), fun k hk => h.2 k (fun z => hk (h3 k z))⟩
theorem KF.wI {lo hi a k : Nat} {F : List Nat} {M : Mem} {v : Int32} (h0 : 0 < lo) (h1 : lo ≤ a) (h2 : a < hi) : KF lo hi F M (uI M a k v) := ⟨fun b hb hb2 => ⟨uI_n (by omega), rfl⟩, fun j _ => by rw [uI_n (by omega)]⟩
theorem KF.wL {lo hi a k : Nat} {F : List Nat} {M : Mem} {v : Int64} (h1 : lo ≤ a) (h2 : a < hi) : KF lo hi F M (uL M a k v) := ⟨fun b hb hb2 => ⟨rfl, uL_n (by omega)⟩, fun j _ => rfl⟩
theorem KF.wz {lo hi k : Nat} {F : List Nat} {M : Mem} {v : Int32} (h : k ∈ F := by decide) : KF lo hi F M (uI M 0 k v) := ⟨fun b hb hb2 => ⟨uI_n (by omega), rfl⟩, fun j hj => uI_k (fun e => hj (e ▸ h))⟩
theorem KF.a {lo hi : Nat} {F : List Nat} {M M' : Mem} (h : KF lo hi F M M') {a : Nat} (h0 : 0 < a) (h1 : a < lo ∨ hi ≤ a) : M'.1 a = M.1 a := (h.1 a h0 h1).1
theorem KF.l {lo hi : Nat} {F : List Nat} {M M' : Mem} (h : KF lo hi F M M') {a : Nat} (h0 : 0 < a) (h1 : a < lo ∨ hi ≤ a) : M'.2 a = M.2 a := (h.1 a h0 h1).2
theorem KF.z {lo hi : Nat} {F : List Nat} {M M' : Mem} (h : KF lo hi F M M') {k : Nat} (hk : k ∉ F := by decide) : M'.1 0 k = M.1 0 k := h.2 k hk
/-- the line that is looked at -/
def NW (M : Mem) (l : LI) : Prop := M.1 0 12 = nI l.length ∧ ∀ k, k < l.length → M.1 9 k = gt l k
def CD (M : Mem) : Prop := ∀ m, m < 62 → M.1 8 m = nI (mcode m)
section ZR1
variable {M : Mem}
theorem M_in_ok {x lo hi : Int32} {Q : Int32 → Mem → Prop} (kY : ¬ x < lo → ¬ hi < x → Q 1 M) (kN : ¬ (¬ x < lo ∧ ¬ hi < x) → Q 0 M) : CallI zY m_M_in [.int x, .int lo, .int hi] M Q :=
  e_M_in ⟨fun c => kN (fun z => z.1 c), fun c => ⟨fun d => kN (fun z => z.2 d), fun d => kY c d⟩⟩
theorem le_of_nlt {x y : Int32} (h : ¬ x < y) : y ≤ x := by
  rw [Int32.lt_iff_toInt_lt] at h
  rw [Int32.le_iff_toInt_le]
  omega
theorem nlt_of_le {x y : Int32} (h : y ≤ x) : ¬ x < y := fun z => by
  rw [Int32.lt_iff_toInt_lt] at z
  rw [Int32.le_iff_toInt_le] at h
  omega
theorem M_in_n {x : Int32} {m : Nat} (hm : m < 1000) {Q : Int32 → Mem → Prop} (kY : ∀ i, i < m → x = nI i → Q 1 M) (kN : ¬ (¬ x < 0 ∧ x < nI m) → Q 0 M) : CallI zY m_M_in [.int x, .int 0, .int (nI m - 1)] M Q := by
  have e : (nI m - 1).toInt = (m : Int) - 1 := pk_sub_toInt (a := m) (b := 1) (by omega) (by omega)
  refine M_in_ok (fun c d => ?_) (fun c => kN (fun z => c ⟨z.1, fun d => ?_⟩))
  · obtain ⟨j, hj, rfl⟩ := nI_of c
    rw [Int32.lt_iff_toInt_lt, e, nI_toInt hj] at d
    exact kY j (by omega) rfl
  · have := z.2
    rw [Int32.lt_iff_toInt_lt, nI_toInt (by omega)] at this
    rw [Int32.lt_iff_toInt_lt, e] at d
    omega
theorem M_classOf_ok {x : Int32} {Q : Int32 → Mem → Prop} (k : Q (kd x) M) : CallI zY m_M_classOf [.int x] M Q := by
  unfold kd at k
  refine e_M_classOf (M_in_ok (fun c d => ?_) (fun c => ?_))
  · rw [if_pos ⟨le_of_nlt c, le_of_nlt d⟩] at k
    exact br_f (by decide) k
  rw [if_neg (fun z => c ⟨nlt_of_le z.1, nlt_of_le z.2⟩)] at k
  refine br_t rfl (M_in_ok (fun c d => ?_) (fun c => ?_))
  · rw [if_pos ⟨le_of_nlt c, le_of_nlt d⟩] at k
    exact br_f (by decide) k
  rw [if_neg (fun z => c ⟨nlt_of_le z.1, nlt_of_le z.2⟩)] at k
  refine br_t rfl ⟨fun c => ?_, fun c => ⟨fun d => ?_, fun d => ?_⟩⟩
  · rw [if_pos (Or.inl c)] at k
    exact k
  · rw [if_pos (Or.inr d)] at k
    exact k
  · rw [if_neg (fun z => z.elim c d)] at k
    exact k
theorem kd_cases (x : Int32) : kd x = 0 ∨ kd x = 1 ∨ kd x = 2 ∨ kd x = -6 := by
  unfold kd
  repeat' split
  · exact Or.inl rfl
  · exact Or.inr (Or.inl rfl)
  · exact Or.inr (Or.inr (Or.inl rfl))
  · exact Or.inr (Or.inr (Or.inr rfl))
theorem kd_neg (x : Int32) : kd x < 0 ↔ kd x = -6 := by
  rcases kd_cases x with h | h | h | h <;> rw [h] <;> decide
def cmk (x : Int32) : Int32 := if 100 ≤ x then (if (x - x / 100 * 100) - (x - x / 100 * 100) / 20 * 20 = 4 then 1 else if (x - x / 100 * 100) - (x - x / 100 * 100) / 20 * 20 = 2 then 1 else 2) else 3
theorem cmk_code : ∀ m, m < 62 → cmk (nI (mcode m)) = nI (mprice m) := by decide +kernel
theorem M_costOfMark_ok {m : Nat} (hm : m < 62) {Q : Int32 → Mem → Prop} (k : Q (nI (mprice m)) M) : CallI zY m_M_costOfMark [.int (nI (mcode m))] M Q := by
  rw [← cmk_code m hm] at k
  unfold cmk at k
  refine e_M_costOfMark ⟨fun c => ⟨fun d => ?_, fun d => ⟨fun e => ?_, fun e => ?_⟩⟩, fun c => ?_⟩
  · rw [if_pos c, if_pos d] at k
    exact k
  · rw [if_pos c, if_neg d, if_pos e] at k
    exact k
  · rw [if_pos c, if_neg d, if_neg e] at k
    exact k
  · rw [if_neg c] at k
    exact k
def inb (x lo hi : Int32) : Bool := decide (¬ x < lo) && decide (¬ hi < x)
theorem M_inb_ok {x lo hi : Int32} {Q : Int32 → Mem → Prop} (k : Q (if inb x lo hi then 1 else 0) M) : CallI zY m_M_in [.int x, .int lo, .int hi] M Q := by
  refine M_in_ok (fun c d => ?_) (fun c => ?_)
  · rw [if_pos (by simp [inb, c, d])] at k
    exact k
  · rw [if_neg (fun z => c (by simpa [inb] using z))] at k
    exact k
def isC (x : Int32) : Bool := if 100 ≤ x then (if 300 ≤ x then false else if 60 ≤ x - x / 100 * 100 then false else inb ((x - x / 100 * 100) - (x - x / 100 * 100) / 20 * 20) 0 6 && !decide ((x - x / 100 * 100) - (x - x / 100 * 100) / 20 * 20 = 3)) else (inb x 0 12 || inb x 20 32)
theorem isC_small : ∀ j, j < 300 → isC (nI j) = (idx (nI j)).isSome := by decide +kernel
theorem isC_ok (x : Int32) : isC x = (idx x).isSome := by
  by_cases c : x < 0
  · rw [idx_none (fun m hm q => ?_)]
    · have h1 : ¬ (100 : Int32) ≤ x := fun z => by
        rw [Int32.lt_iff_toInt_lt] at c
        rw [Int32.le_iff_toInt_le] at z
        have : (100 : Int32).toInt = 100 := rfl
        have z0 : (0 : Int32).toInt = 0 := rfl
        omega
      have h2 : x < 20 := by
        rw [Int32.lt_iff_toInt_lt] at c ⊢
        have : (20 : Int32).toInt = 20 := rfl
        have z0 : (0 : Int32).toInt = 0 := rfl
        omega
      rw [isC, if_neg h1]
      simp [inb, c, h2]
    · have hm2 := mcode_lt m hm
      rw [← q] at c
      rw [Int32.lt_iff_toInt_lt, nI_toInt (by omega)] at c
      have z0 : (0 : Int32).toInt = 0 := rfl
      omega
  obtain ⟨j, hj, rfl⟩ := nI_of c
  by_cases d : j < 300
  · exact isC_small j d
  · rw [idx_none (fun m hm q => ?_)]
    · rw [isC, if_pos (show (100 : Int32) ≤ nI j from (nI_leI (a := 100) (by omega) hj).mpr (by omega)), if_pos (show (300 : Int32) ≤ nI j from (nI_leI (a := 300) (by omega) hj).mpr (by omega))]
      rfl
    · have hm2 := mcode_lt m hm
      rw [nI_eq (by omega) hj] at q
      omega
theorem M_isCode_ok {x : Int32} {Q : Int32 → Mem → Prop} (k : Q (if (idx x).isSome then 1 else 0) M) : CallI zY m_M_isCode [.int x] M Q := by
  rw [← isC_ok] at k
  unfold isC at k
  refine e_M_isCode ⟨fun c => ?_, fun c => ?_⟩
  · rw [if_pos c] at k
    refine ⟨fun d => ?_, fun d => ⟨fun e => ?_, fun e => ?_⟩⟩
    · rw [if_pos d] at k
      exact k
    · rw [if_neg d, if_pos e] at k
      exact k
    · rw [if_neg d, if_neg e] at k
      refine M_inb_ok ?_
      cases g : inb ((x - x / 100 * 100) - (x - x / 100 * 100) / 20 * 20) 0 6 with
      | false =>
        rw [g] at k
        exact br_t rfl k
      | true =>
        rw [g] at k
        refine br_f (by decide) ⟨fun f => ?_, fun f => ?_⟩
        · simp only [Bool.true_and, f, decide_true, Bool.not_true] at k
          exact k
        · simp only [Bool.true_and, f, decide_false, Bool.not_false] at k
          exact k
  · rw [if_neg c] at k
    refine M_inb_ok ?_
    cases g : inb x 0 12 with
    | true =>
      rw [g] at k
      exact br_f (by decide) k
    | false =>
      rw [g] at k
      refine br_t rfl (M_inb_ok ?_)
      cases g2 : inb x 20 32 with
      | true =>
        rw [g2] at k
        exact br_f (by decide) k
      | false =>
        rw [g2] at k
        exact br_t rfl k
variable {l : LI} {c : Int32} {Q : Int32 → Mem → Prop}
theorem run172 (h : NW M l) (hl : l.length ≤ 12) {x3 : Int32} {b : Nat} : ∀ (k t : Nat), l.length ≤ t + 1 + k → t < l.length → Q (if x3 = 0 then nI b else nI (rE l c k (t + 1))) M → wp zY m_M_runAt (QI Q) 172 [(0, .ref 0), (1, .int c), (3, .int x3), (9, .int (nI b)), (10, .int (nI t))] [] M := by
  intro k
  induction k with
  | zero =>
    intro t ht ht2 q
    refine b_M_runAt_172 ?_
    rw [h.1, nI_1]
    refine pk_le l.length (t + 1) (fun _ => ⟨fun e => ?_, fun e => ?_⟩) (fun z => absurd z (by omega))
    · rw [if_pos e] at q
      exact q
    · rw [if_neg e] at q
      exact q
  | succ k ih =>
    intro t ht ht2 q
    refine b_M_runAt_172 ?_
    rw [h.1, nI_1]
    rw [rE] at q
    refine pk_le l.length (t + 1) (fun z => ⟨fun e => ?_, fun e => ?_⟩) (fun z => ?_)
    · rw [if_pos e] at q
      exact q
    · rw [if_neg e, if_neg (fun y => absurd y.1 (by omega))] at q
      exact q
    · refine ⟨vp_in_nI (by omega) (by omega), ?_⟩
      rw [nI_clamp (by omega), h.2 _ z]
      refine M_classOf_ok ⟨fun e => ?_, fun e => ⟨fun f => ?_, fun f => ?_⟩⟩
      · rw [show (if t + 1 < l.length ∧ kd (gt l (t + 1)) = c then rE l c k (t + 1 + 1) else t + 1) = rE l c k (t + 1 + 1) from if_pos ⟨z, e⟩] at q
        exact ih (t + 1) (by omega) z q
      · rw [if_pos f] at q
        exact q
      · rw [if_neg f, if_neg (fun y => e y.2)] at q
        exact q
theorem run145 (h : NW M l) (hl : l.length ≤ 12) {x3 : Int32} {p : Nat} (hp : p < l.length) : ∀ (b : Nat), b ≤ p → Q (if x3 = 0 then nI (bg l c b) else nI (rE l c l.length (p + 1))) M → wp zY m_M_runAt (QI Q) 145 [(0, .ref 0), (1, .int c), (3, .int x3), (9, .int (nI b)), (10, .int (nI p))] [] M := by
  intro b
  induction b with
  | zero =>
    intro _ q
    exact b_M_runAt_145 (br_t (Int32.le_refl _) (run172 (b := 0) h hl l.length p (by omega) hp q))
  | succ b ih =>
    intro hb q
    rw [bg] at q
    refine b_M_runAt_145 (pk_le (b + 1) 0 (fun z => absurd z (by omega)) (fun _ => ?_))
    rw [show nI (b + 1) - 1 = nI b from pk_sub (a := b + 1) (b := 1) (by omega), pk_m1]
    refine ⟨vp_in_nI (by omega) (by omega), ?_⟩
    rw [nI_clamp (by omega), h.2 _ (by omega)]
    refine M_classOf_ok ⟨fun e => ?_, fun e => ?_⟩
    · rw [if_pos e] at q
      exact ih (by omega) q
    · rw [if_neg e] at q
      exact run172 (b := b + 1) h hl l.length p (by omega) hp q
theorem run6 (h : NW M l) (hl : l.length ≤ 12) {x2 x3 : Int32} {up : Bool} {w : Nat} (hw : w < 100) (hx : x2 = if up then nI (w + 1) else -nI (w + 1)) : ∀ (k i j n : Nat), i + k = l.length → j + n = w →
    (match scanM l c up k i n with
     | none => Q (-6) M
     | some p => Q (if x3 = 0 then nI (bg l c p) else nI (rE l c l.length (p + 1))) M) →
    wp zY m_M_runAt (QI Q) 6 [(0, .ref 0), (1, .int c), (2, .int x2), (3, .int x3), (4, .int (nI j)), (5, .int (nI i))] [] M := by
  intro k
  induction k with
  | zero =>
    intro i j n hi hj q
    refine b_M_runAt_6 ?_
    rw [h.1]
    exact pk_le l.length i (fun _ => q) (fun z => absurd z (by omega))
  | succ k ih =>
    intro i j n hi hj q
    have key : ∀ (t : Bool) (p : Nat), t = (if up then isB l c i else isE l c (l.length - 1 - i)) → p = (if up then i else l.length - 1 - i) →
        wp zY m_M_runAt (QI Q) 114 [(0, .ref 0), (1, .int c), (2, .int x2), (3, .int x3), (5, .int (nI i)), (6, .int (nI p)), (8, .int (if t then 1 else 0))] [.int (if t then 1 else 0), .int (nI j)] M := by
      intro t p ht hp
      have hpl : p < l.length := by cases up <;> simp at hp <;> omega
      refine b_M_runAt_114 ?_
      cases t with
      | false =>
        refine br_t rfl ?_
        rw [show nI j + (if false = true then (1 : Int32) else 0) = nI (j + 0) from nI_add j 0, nI_1]
        refine ih (i + 1) j n (by omega) hj ?_
        cases n with
        | zero =>
          rw [scanM_z, if_neg (by rw [← ht]; decide)] at q
          exact q
        | succ n =>
          rw [scanM_s, if_neg (by rw [← ht]; decide)] at q
          exact q
      | true =>
        refine br_f (by decide) ?_
        rw [show nI j + (if true = true then (1 : Int32) else 0) = nI (j + 1) from nI_add j 1, nI_1]
        have go : (nI (j + 1) = nI (w + 1) → wp zY m_M_runAt (QI Q) 145 [(0, .ref 0), (1, .int c), (3, .int x3), (9, .int (nI p)), (10, .int (nI p))] [] M) ∧ (¬ nI (j + 1) = nI (w + 1) → wp zY m_M_runAt (QI Q) 6 [(0, .ref 0), (1, .int c), (2, .int x2), (3, .int x3), (4, .int (nI (j + 1))), (5, .int (nI (i + 1)))] [] M) := by
          refine pk_eq (j + 1) (w + 1) (fun z => ?_) (fun z => ?_)
          · have : n = 0 := by omega
            subst this
            rw [scanM_z, if_pos ht.symm, ← hp] at q
            exact run145 h hl hpl p (Nat.le_refl _) q
          · cases n with
            | zero => exact absurd (by omega) z
            | succ n =>
              rw [scanM_s, if_pos ht.symm] at q
              exact ih (i + 1) (j + 1) n (by omega) (by omega) q
        subst hx
        cases up with
        | true =>
          refine br_f (fun z => ?_) go
          rw [Int32.le_iff_toInt_le] at z
          have z1 : (if true = true then nI (w + 1) else -nI (w + 1)).toInt = (w + 1 : Nat) := nI_toInt (by omega)
          have z0 : (0 : Int32).toInt = 0 := rfl
          omega
        | false =>
          refine br_t ?_ ?_
          · show -nI (w + 1) ≤ 0
            rw [show -nI (w + 1) = nI 0 - nI (w + 1) from (Int32.zero_sub _).symm, Int32.le_iff_toInt_le, pk_sub_toInt (by omega) (by omega)]
            have z0 : (0 : Int32).toInt = 0 := rfl
            omega
          · rw [show -(if false = true then nI (w + 1) else -nI (w + 1)) = nI (w + 1) from Int32.neg_neg]
            exact go
    refine b_M_runAt_6 ?_
    rw [h.1]
    refine pk_le l.length i (fun z => absurd z (by omega)) (fun hil => ?_)
    have k50 : ∀ (p : Nat) (a : Int32) (t : Bool), p < l.length → p = (if up then i else l.length - 1 - i) → t = (if up then isB l c i else isE l c (l.length - 1 - i)) →
        (kd (gt l p) ≠ c → t = false) → (kd (gt l p) = c → (t = true ∧ ¬ (¬ a < 0 ∧ a < nI l.length)) ∨ ∃ a', a' < l.length ∧ a = nI a' ∧ t = !decide (kd (gt l a') = c)) →
        wp zY m_M_runAt (QI Q) 50 [(0, .ref 0), (1, .int c), (2, .int x2), (3, .int x3), (4, .int (nI j)), (5, .int (nI i)), (6, .int (nI p))] [.int a] M := by
      intro p a t hp hpe hte h1 h2
      refine b_M_runAt_50 ⟨vp_in_nI (by omega) (by omega), ?_⟩
      rw [nI_clamp (by omega), h.2 _ hp]
      refine M_classOf_ok ⟨fun e => ?_, fun e => ?_⟩
      · rw [h.1]
        refine M_in_n (by omega) (fun a' ha e2 => ?_) (fun z => ?_)
        · refine br_f (by decide) ?_
          subst e2
          refine ⟨vp_in_nI (by omega) (by omega), ?_⟩
          rw [nI_clamp (by omega), h.2 _ ha]
          rcases h2 e with ⟨_, h3⟩ | ⟨a2, ha2, e3, h3⟩
          · exact absurd ⟨nI_pos (by omega), nI_lt ha (by omega)⟩ h3
          · have : a' = a2 := (nI_eq (by omega) (by omega)).mp e3
            subst this
            refine M_classOf_ok ⟨fun f => ?_, fun f => ?_⟩
            · rw [f] at h3
              simp at h3
              have := key t p hte hpe
              rw [h3] at this
              exact this
            · simp [f] at h3
              have := key t p hte hpe
              rw [h3] at this
              exact this
        · refine br_t rfl ?_
          rcases h2 e with ⟨h3, _⟩ | ⟨a2, ha2, e3, h3⟩
          · have := key t p hte hpe
            rw [h3] at this
            exact this
          · subst e3
            exact absurd ⟨nI_pos (by omega), nI_lt ha2 (by omega)⟩ z
      · have := key t p hte hpe
        rw [h1 e] at this
        exact this
    cases up with
    | true =>
      have hx2 : ¬ x2 ≤ 0 := fun z => by
        subst hx
        rw [Int32.le_iff_toInt_le] at z
        have z1 : (if true = true then nI (w + 1) else -nI (w + 1)).toInt = (w + 1 : Nat) := nI_toInt (by omega)
        have z0 : (0 : Int32).toInt = 0 := rfl
        omega
      refine br_f hx2 (br_f hx2 ?_)
      refine k50 i _ (isB l c i) hil rfl rfl (fun e => ?_) (fun e => ?_)
      · cases g : isB l c i with
        | false => rfl
        | true => exact absurd (isB_iff.mp g).1 e
      · cases i with
        | zero =>
          refine Or.inl ⟨isB_iff.mpr ⟨e, Or.inl rfl⟩, fun z => absurd ?_ z.1⟩
          decide
        | succ i =>
          refine Or.inr ⟨i, by omega, pk_sub (a := i + 1) (b := 1) (by omega), ?_⟩
          simp [isB, e]
    | false =>
      have hx2 : x2 ≤ 0 := by
        subst hx
        show -nI (w + 1) ≤ 0
        rw [show -nI (w + 1) = nI 0 - nI (w + 1) from (Int32.zero_sub _).symm, Int32.le_iff_toInt_le, pk_sub_toInt (by omega) (by omega)]
        have z0 : (0 : Int32).toInt = 0 := rfl
        omega
      refine br_t hx2 (br_t hx2 ?_)
      rw [show nI l.length - 1 = nI (l.length - 1) from pk_sub (b := 1) (by omega), pk_sub (by omega), nI_1]
      refine k50 (l.length - 1 - i) _ (isE l c (l.length - 1 - i)) (by omega) rfl rfl (fun e => ?_) (fun e => ?_)
      · cases g : isE l c (l.length - 1 - i) with
        | false => rfl
        | true => exact absurd (isE_iff.mp g).1 e
      · by_cases f : l.length ≤ l.length - 1 - i + 1
        · refine Or.inl ⟨isE_iff.mpr ⟨e, Or.inl f⟩, fun z => ?_⟩
          have := z.2
          rw [nI_ltI (by omega) (by omega)] at this
          omega
        · refine Or.inr ⟨l.length - 1 - i + 1, by omega, rfl, ?_⟩
          simp [isE, e, f]
end ZR1
