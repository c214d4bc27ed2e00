/-! marks: 0..61, in the order of their codes -/
/-- a place that may be wanting -/
def oI (x : Option Nat) : Int32 := match x with
  | none => -6
  | some k => nI k
/-- at a place of the line a run of the class begins -/
def isB (l : List Int32) (c : Int32) (i : Nat) : Bool := decide (kd (gt l i) = c) && (decide (i = 0) || decide (kd (gt l (i - 1)) ≠ c))
/-- looking for the begin of a run, from the left or from the right; n more are passed -/
def scan (l : List Int32) (c : Int32) (up : Bool) : Nat → Nat → Nat → Option Nat
  | 0, _, _ => none
  | k + 1, i, n => if isB l c (if up then i else l.length - 1 - i) then (match n with
      | 0 => some (if up then i else l.length - 1 - i)
      | n + 1 => scan l c up k (i + 1) n) else scan l c up k (i + 1) n
/-- where the run that goes through a place ends -/
def rE (l : List Int32) (c : Int32) : Nat → Nat → Nat
  | 0, e => e
  | k + 1, e => if e < l.length ∧ kd (gt l e) = c then rE l c k (e + 1) else e
def mkd (m : Nat) : Nat := (m - 26) % 18 / 6
/-- how many runs are passed before, and from which side -/
def mup (m : Nat) : Bool := decide (3 ≤ (m - 26) % 6)
def mpass (m : Nat) : Nat := if 3 ≤ (m - 26) % 6 then (m - 26) % 6 - 3 else 2 - (m - 26) % 6
/-- the place of a line that a mark tells -/
def plc (l : List Int32) (m : Nat) : Option Nat :=
  if m < 13 then (if m ≤ l.length then some m else none)
  else if m < 26 then (if m - 13 ≤ l.length then some (l.length - (m - 13)) else none)
  else (scan l (nI (mkd m)) (mup m) l.length 0 (mpass m)).map (fun b => if m < 44 then b else rE l (kd (gt l b)) l.length (b + 1))
def mturn (m : Nat) : Int32 := if mup m then nI (mpass m + 1) else - nI (mpass m + 1)
def mcode (m : Nat) : Nat := if m < 13 then m else if m < 26 then m + 7 else if m < 44 then 100 + 20 * mkd m + (if mup m then mpass m + 4 else 2 - mpass m) else 200 + 20 * mkd m + (if mup m then mpass m + 4 else 2 - mpass m)
def mprice (m : Nat) : Nat := if m < 26 then 3 else if mpass m = 0 then 1 else 2
theorem scan_lt {l : List Int32} {c : Int32} {up : Bool} : ∀ (k i n b : Nat), i + k = l.length → scan l c up k i n = some b → b < l.length
  | 0, i, n, b, _, h => by simp [scan] at h
  | k + 1, i, n, b, hk, h => by
    unfold scan at h
    generalize hpp : (if up then i else l.length - 1 - i) = p at h
    have hpl : p < l.length := by cases up <;> simp at hpp <;> omega
    by_cases hb : isB l c p = true
    · rw [if_pos hb] at h
      cases n with
      | zero => cases h; exact hpl
      | succ n => exact scan_lt k (i + 1) n b (by omega) h
    · rw [if_neg hb] at h
      exact scan_lt k (i + 1) n b (by omega) h
theorem rE_le {l : List Int32} {c : Int32} : ∀ (k e : Nat), e ≤ l.length → rE l c k e ≤ l.length ∧ e ≤ rE l c k e
  | 0, e, h => ⟨h, Nat.le_refl _⟩
  | k + 1, e, h => by
    unfold rE
    split
    · rename_i q
      have := rE_le (c := c) k (e + 1) q.1
      exact ⟨this.1, by omega⟩
    · exact ⟨h, Nat.le_refl _⟩
theorem plc_le {l : List Int32} {m p : Nat} (h : plc l m = some p) : p ≤ l.length := by
  unfold plc at h
  split at h
  · split at h <;> simp at h <;> omega
  split at h
  · split at h <;> simp at h <;> omega
  rw [Option.map_eq_some_iff] at h
  obtain ⟨b, hb, he⟩ := h
  have hlt := scan_lt _ _ _ _ (by omega) hb
  split at he
  · omega
  · rw [← he]
    exact (rE_le _ _ (by omega)).1
theorem Mk_kind_ok {M : Mem} {m : Nat} (h1 : 26 ≤ m) (h2 : m < 62) {Q : Int32 → Mem → Prop} (h : Q (nI (mkd m)) M) : CallI zX m_Mk_kind [.int (nI m)] M Q := by
  refine e_Mk_kind ?_
  have e : ∀ m, m < 62 → 26 ≤ m → (((nI m - 26) - (nI m - 26) / 18 * 18) / 6) = nI (mkd m) := by decide +kernel
  rw [e m h2 h1]
  exact h
theorem Mk_turn_ok {M : Mem} {m : Nat} (h1 : 26 ≤ m) (h2 : m < 62) {Q : Int32 → Mem → Prop} (h : Q (mturn m) M) : CallI zX m_Mk_turn [.int (nI m)] M Q := by
  have e : ∀ m, m < 62 → 26 ≤ m → ((3 ≤ ((nI m - 26) - (nI m - 26) / 6 * 6) ∧ (((nI m - 26) - (nI m - 26) / 6 * 6) - 2) = mturn m) ∨ (¬ 3 ≤ ((nI m - 26) - (nI m - 26) / 6 * 6) ∧ (((nI m - 26) - (nI m - 26) / 6 * 6) - 3) = mturn m)) := by decide +kernel
  refine e_Mk_turn ?_
  rcases e m h2 h1 with ⟨a, b⟩ | ⟨a, b⟩
  · exact br_t a (by rw [b]; exact h)
  · exact br_f a (by rw [b]; exact h)
theorem Mk_price_ok {M : Mem} {m : Nat} (h2 : m < 62) {Q : Int32 → Mem → Prop} (h : Q (nI (mprice m)) M) : CallI zX m_Mk_price [.int (nI m)] M Q := by
  have e : ∀ m, m < 62 → 26 ≤ m → (((if 0 ≤ mturn m then mturn m else 0 - mturn m) = 1 ∧ nI (mprice m) = 1) ∨ (¬ (if 0 ≤ mturn m then mturn m else 0 - mturn m) = 1 ∧ nI (mprice m) = 2)) := by decide +kernel
  refine e_Mk_price (pk_le 26 m (fun q => ?_) (fun q => ?_))
  · refine Mk_turn_ok q h2 ?_
    rcases e m h2 q with ⟨a, b⟩ | ⟨a, b⟩
    · exact br_t a (by rw [← b]; exact h)
    · exact br_f a (by rw [← b]; exact h)
  · rw [mprice, if_pos q] at h
    exact h
theorem Mk_code_ok {M : Mem} {m : Nat} (h2 : m < 62) {Q : Int32 → Mem → Prop} (h : Q (nI (mcode m)) M) : CallI zX m_Mk_code [.int (nI m)] M Q := by
  have e : ∀ m, m < 62 → 26 ≤ m → ((if m < 44 then 100 else 200) + 20 * nI (mkd m) + mturn m + 3) = nI (mcode m) := by decide +kernel
  have e2 : ∀ m, m < 26 → 13 ≤ m → (20 + nI m) - 13 = nI (mcode m) := by decide +kernel
  refine e_Mk_code (pk_le 13 m (fun q => ?_) (fun q => ?_))
  · refine pk_le 26 m (fun q2 => ?_) (fun q2 => ?_)
    · refine pk_le 44 m (fun q3 => ?_) (fun q3 => ?_)
      · refine Mk_kind_ok q2 h2 (Mk_turn_ok q2 h2 ?_)
        have := e m h2 q2
        rw [if_neg (by omega)] at this
        rw [this]
        exact h
      · refine Mk_kind_ok q2 h2 (Mk_turn_ok q2 h2 ?_)
        have := e m h2 q2
        rw [if_pos q3] at this
        rw [this]
        exact h
    · rw [e2 m q2 q]
      exact h
  · rw [mcode, if_pos q] at h
    exact h
section ZRB
variable {a n : Nat} {M : Mem} {l : List Int32} {c x2 : Int32} {up : Bool} {Q : Int32 → Mem → Prop}
theorem Mk_rb35 (t : T_Sg zX a n) (hn : n < 100) (hS : SG M a l) (hl : l.length ≤ n) (hc : c ≠ -6) {i p k w : Nat} (hp : p < l.length) (hi : i < 1000) (hw : w < 1000)
    (hpass : wp zX m_Mk_runBegin (QI Q) 8 [(0, .ref a), (1, .int c), (2, .int x2), (3, .int (nI (w + 1))), (4, .int (nI (i + 1)))] [] M ∨ isB l c p = true)
    (hmeet : isB l c p = true → (w = 0 → Q (nI p) M) ∧ (∀ w', w = w' + 1 → wp zX m_Mk_runBegin (QI Q) 8 [(0, .ref a), (1, .int c), (2, .int x2), (3, .int (nI (w' + 1))), (4, .int (nI (i + 1)))] [] M)) :
    wp zX m_Mk_runBegin (QI Q) 35 [(0, .ref a), (1, .int c), (2, .int x2), (3, .int (nI (w + 1))), (4, .int (nI i))] [.int (nI p)] M := by
  have hno : isB l c p = false → wp zX m_Mk_runBegin (QI Q) 8 [(0, .ref a), (1, .int c), (2, .int x2), (3, .int (nI (w + 1))), (4, .int (nI (i + 1)))] [] M := fun hb => hpass.elim id (fun q => by rw [hb] at q; cases q)
  refine b_Mk_runBegin_35 t (Sg_kindAt_ok t hn hS hl (by omega) ⟨fun c1 => ?_, fun c1 => ?_⟩)
  · have hstep : isB l c p = true → ((nI (w + 1) + (-1)) = 0 → Q (nI p) M) ∧ (¬ (nI (w + 1) + (-1)) = 0 → wp zX m_Mk_runBegin (QI Q) 8 [(0, .ref a), (1, .int c), (2, .int x2), (3, .int (nI (w + 1) + (-1))), (4, .int (nI i + 1))] [] M) := by
      intro hb
      rw [pk_m1, nI_1]
      refine pk_eq w 0 (fun q => (hmeet hb).1 q) (fun q => ?_)
      obtain ⟨w', rfl⟩ : ∃ w', w = w' + 1 := ⟨w - 1, by omega⟩
      exact (hmeet hb).2 w' rfl
    by_cases hp0 : p = 0
    · subst hp0
      refine Sg_kindAt_neg t (by decide) ⟨fun c2 => absurd c2.symm hc, fun _ => ?_⟩
      exact hstep (by simp [isB, c1])
    · rw [show nI p - 1 = nI (p - 1) from pk_sub (b := 1) (by omega)]
      refine Sg_kindAt_ok t hn hS hl (by omega) ⟨fun c2 => ?_, fun c2 => ?_⟩
      · rw [nI_1]
        exact hno (by simp [isB, hp0, c2])
      · exact hstep (by simp [isB, c1, c2])
  · rw [nI_1]
    exact hno (by simp [isB, c1])
theorem Mk_rb8 (t : T_Sg zX a n) (hn : n < 100) (hS : SG M a l) (hl : l.length ≤ n) (hc : c ≠ -6) (hx : if up then 0 < x2 else x2 ≤ 0) : ∀ (k i w : Nat), i + k = l.length → w < 1000 → Q (oI (scan l c up k i w)) M → wp zX m_Mk_runBegin (QI Q) 8 [(0, .ref a), (1, .int c), (2, .int x2), (3, .int (nI (w + 1))), (4, .int (nI i))] [] M := by
  intro k
  induction k with
  | zero =>
    intro i w hi hw hQ
    refine b_Mk_runBegin_8 t (Sg_many_ok t hS ?_)
    exact pk_le l.length i (fun _ => hQ) (fun q => absurd q (by omega))
  | succ k ih =>
    intro i w hi hw hQ
    have h35 : ∀ p, p = (if up then i else l.length - 1 - i) → wp zX m_Mk_runBegin (QI Q) 35 [(0, .ref a), (1, .int c), (2, .int x2), (3, .int (nI (w + 1))), (4, .int (nI i))] [.int (nI p)] M := by
      intro p hp
      unfold scan at hQ
      rw [← hp] at hQ
      have hpl : p < l.length := by cases up <;> simp at hp <;> omega
      refine Mk_rb35 t hn hS hl hc (k := k) hpl (by omega) hw ?_ (fun hb => ⟨fun h0 => ?_, fun w' h0 => ?_⟩)
      · cases hb : isB l c p with
        | true => exact Or.inr rfl
        | false =>
          rw [hb] at hQ
          exact Or.inl (ih (i + 1) w (by omega) hw hQ)
      · rw [hb] at hQ
        subst h0
        exact hQ
      · rw [hb] at hQ
        subst h0
        exact ih (i + 1) w' (by omega) (by omega) hQ
    refine b_Mk_runBegin_8 t (Sg_many_ok t hS ?_)
    refine pk_le l.length i (fun q => absurd q (by omega)) (fun q => ?_)
    cases up with
    | true =>
      have hx : 0 < x2 := hx
      refine br_f (fun q => ?_) (h35 i rfl)
      rw [Int32.lt_iff_toInt_lt] at hx
      rw [Int32.le_iff_toInt_le] at q
      omega
    | false =>
      have hx : x2 ≤ 0 := hx
      refine br_t hx (Sg_many_ok t hS ?_)
      rw [show nI l.length - 1 = nI (l.length - 1) from pk_sub (b := 1) (by omega), pk_sub (by omega)]
      exact h35 _ rfl
theorem Mk_re4 (t : T_Sg zX a n) (hn : n < 100) (hS : SG M a l) (hl : l.length ≤ n) {b : Nat} (hb : b < l.length) : ∀ (k e : Nat), l.length ≤ e + k → e ≤ l.length → Q (nI (rE l (kd (gt l b)) k e)) M → wp zX m_Mk_runEnd (QI Q) 4 [(0, .ref a), (1, .int (nI b)), (2, .int (nI e))] [] M := by
  intro k
  induction k with
  | zero =>
    intro e he he2 hQ
    refine b_Mk_runEnd_4 t (Sg_many_ok t hS ?_)
    exact pk_le l.length e (fun _ => hQ) (fun q => absurd q (by omega))
  | succ k ih =>
    intro e he he2 hQ
    unfold rE at hQ
    refine b_Mk_runEnd_4 t (Sg_many_ok t hS ?_)
    refine pk_le l.length e (fun q => ?_) (fun q => ?_)
    · rw [if_neg (by omega)] at hQ
      exact hQ
    · refine Sg_kindAt_ok t hn hS hl (by omega) (Sg_kindAt_ok t hn hS hl (by omega) ⟨fun c => ?_, fun c => ?_⟩)
      · rw [if_pos ⟨q, c⟩] at hQ
        rw [nI_1]
        exact ih (e + 1) (by omega) (by omega) hQ
      · rw [if_neg (fun z => c z.2)] at hQ
        exact hQ
end ZRB
theorem mk_facts : ∀ m, m < 62 → 26 ≤ m → (nI (mkd m) ≠ -6 ∧ mpass m < 1000 ∧ (if mup m then 0 < mturn m else mturn m ≤ 0) ∧ (if 0 ≤ mturn m then mturn m else 0 - mturn m) = nI (mpass m + 1)) := by decide +kernel
theorem oI_some (k : Nat) : oI (some k) = nI k := rfl
theorem oI_none : oI none = -6 := rfl
theorem nI_ne6 {k : Nat} (h : k < 2 ^ 31) : ¬ nI k = -6 := fun q => by
  have h1 : (nI k).toInt = (-6 : Int32).toInt := by rw [q]
  rw [nI_toInt h, show (-6 : Int32).toInt = -6 from by decide] at h1
  omega
theorem Mk_placeIn_ok {a n : Nat} (t : T_Sg zX a n) (hn : n < 100) {M : Mem} {l : List Int32} (hS : SG M a l) (hl : l.length ≤ n) {m : Nat} (h2 : m < 62) {Q : Int32 → Mem → Prop} (h : Q (oI (plc l m)) M) : CallI zX m_Mk_placeIn [.ref a, .int (nI m)] M Q := by
  unfold plc at h
  refine e_Mk_placeIn t (pk_le 13 m (fun q => ?_) (fun q => ?_))
  · rw [if_neg (by omega)] at h
    refine pk_le 26 m (fun q2 => ?_) (fun q2 => ?_)
    · rw [if_neg (by omega)] at h
      obtain ⟨f1, f2, f3, f4⟩ := mk_facts m h2 q2
      refine Mk_kind_ok q2 h2 (Mk_turn_ok q2 h2 (e_Mk_runBegin t ?_))
      rw [f4]
      refine Mk_rb8 t hn hS hl f1 f3 l.length 0 (mpass m) (by omega) f2 ?_
      cases hb : scan l (nI (mkd m)) (mup m) l.length 0 (mpass m) with
      | none =>
        rw [hb] at h
        exact br_t rfl h
      | some b =>
        rw [hb] at h
        have hlt := scan_lt _ _ _ _ (by omega) hb
        refine br_f (nI_ne6 (by omega)) (pk_le 44 m (fun q3 => ?_) (fun q3 => ?_))
        · rw [Option.map_some, if_neg (by omega)] at h
          refine e_Mk_runEnd t ?_
          rw [oI_some, nI_1]
          exact Mk_re4 t hn hS hl hlt l.length (b + 1) (by omega) (by omega) h
        · rw [Option.map_some, if_pos q3] at h
          exact h
    · rw [if_pos q2] at h
      refine Sg_many_ok t hS ?_
      rw [show nI m - 13 = nI (m - 13) from pk_sub (b := 13) (by omega)]
      refine pk_lt l.length (m - 13) (fun q3 => ?_) (fun q3 => Sg_many_ok t hS ?_)
      · rw [if_neg (by omega)] at h
        exact h
      · rw [if_pos q3] at h
        rw [pk_sub q3]
        exact h
  · rw [if_pos q] at h
    refine Sg_many_ok t hS (pk_lt l.length m (fun q3 => ?_) (fun q3 => ?_))
    · rw [if_neg (by omega)] at h
      exact h
    · rw [if_pos q3] at h
      exact h
