/-! Book: how many examples, how many lines; the examples' lines, what became of them, the pool (with what lies behind their ends) -/
abbrev LI : Type := List Int32
abbrev Bo : Type := Nat × Nat × (Nat → LI) × (Nat → LI) × (Nat → LI)
def bN (b : Bo) : Nat := b.1
def bM (b : Bo) : Nat := b.2.1
def bE (b : Bo) : Nat → LI := b.2.2.1
def bR (b : Bo) : Nat → LI := b.2.2.2.1
def bP (b : Bo) : Nat → LI := b.2.2.2.2
def BX (M : Mem) (a : Nat) (b : Bo) : Prop := M.1 a 3 = nI (bN b) ∧ M.1 a 4 = nI (bM b) ∧ (∀ i, i < 3 → (SG M (a + 1 + 3 + 6 * i) (bE b i) ∧ (bE b i).length ≤ 12) ∧ SG M (a + 2 + 5 + 6 * i) (bR b i) ∧ (bR b i).length ≤ 5) ∧ ∀ i, i < 6 → SG M (a + 3 + 19 + 3 * i) (bP b i) ∧ (bP b i).length ≤ 12
theorem BX.fr {M M' : Mem} {a lo hi : Nat} {b : Bo} (h : BX M a b) (f : FR lo hi M M') (ha : a + 40 ≤ lo ∨ hi ≤ a) : BX M' a b := by
  obtain ⟨h1, h2, h3, h4⟩ := h
  refine ⟨by rw [(f a (by omega)).1]; exact h1, by rw [(f a (by omega)).1]; exact h2, fun i hi2 => ?_, fun i hi2 => ?_⟩
  · have := h3 i hi2
    exact ⟨⟨this.1.1.fr f (by omega), this.1.2⟩, this.2.1.fr f (by omega), this.2.2⟩
  · have := h4 i hi2
    exact ⟨this.1.fr f (by omega), this.2⟩
def fu (f : Nat → LI) (k : Nat) (l : LI) : Nat → LI := fun i => if i = k then l else f i
theorem fu_s {f : Nat → LI} {k : Nat} {l : LI} : fu f k l k = l := if_pos rfl
theorem fu_n {f : Nat → LI} {k i : Nat} {l : LI} (h : i ≠ k) : fu f k l i = f i := if_neg h
section ZBK
variable {M : Mem} {a : Nat} {b : Bo}
theorem Bk_examples_ok (t : T_Bk zX a) (h : BX M a b) {Q : Int32 → Mem → Prop} (k : Q (nI (bN b)) M) : CallI zX m_Bk_examples [.ref a] M Q := e_Bk_examples t (by rw [h.1]; exact k)
theorem Bk_pooled_ok (t : T_Bk zX a) (h : BX M a b) {Q : Int32 → Mem → Prop} (k : Q (nI (bM b)) M) : CallI zX m_Bk_pooled [.ref a] M Q := e_Bk_pooled t (by rw [h.2.1]; exact k)
/-- a line of the pool is there -/
def kno (b : Bo) (x : Int32) : Prop := ¬ x < 0 ∧ x < nI (bM b)
theorem kno_iff {b : Bo} (hm : bM b ≤ 6) {x : Int32} : kno b x ↔ ∃ i, i < bM b ∧ x = nI i := by
  constructor
  · rintro ⟨h1, h2⟩
    obtain ⟨j, hj, rfl⟩ := nI_of h1
    exact ⟨j, (nI_ltI hj (by omega)).mp h2, rfl⟩
  · rintro ⟨i, hi, rfl⟩
    exact ⟨nI_pos (by omega), nI_lt hi (by omega)⟩
theorem Bk_knows_ok (t : T_Bk zX a) (h : BX M a b) {x : Int32} {Q : Int32 → Mem → Prop} (kY : kno b x → Q 1 M) (kN : ¬ kno b x → Q 0 M) : CallI zX m_Bk_knows [.ref a, .int x] M Q := by
  refine e_Bk_knows t ?_
  rw [h.2.1]
  refine ⟨fun c => kN (fun z => z.1 c), fun c => ⟨fun d => kN (fun z => ?_), fun d => kY ⟨c, ?_⟩⟩⟩
  · have := z.2
    rw [Int32.lt_iff_toInt_lt] at this
    rw [Int32.le_iff_toInt_le] at d
    omega
  · rw [Int32.le_iff_toInt_le] at d
    rw [Int32.lt_iff_toInt_lt]
    omega
theorem Bk_exampleLine_ok (t : T_Bk zX a) {i : Nat} (hi : i < 3) {Q : Nat → Mem → Prop} (k : Q (a + 1 + 3 + 6 * i) M) : CallR zX m_Bk_exampleLine [.ref a, .int (nI i)] M Q := by
  refine e_Bk_exampleLine t (pk_lt i 0 (fun q => absurd q (by omega)) (fun _ => pk_le 3 i (fun q => absurd q (by omega)) (fun _ => ⟨vp_in_nI hi (by omega), ?_⟩)))
  rw [nI_clamp (by omega)]
  exact k
theorem Bk_result_ok (t : T_Bk zX a) {i : Nat} (hi : i < 3) {Q : Nat → Mem → Prop} (k : Q (a + 2 + 5 + 6 * i) M) : CallR zX m_Bk_result [.ref a, .int (nI i)] M Q := by
  refine e_Bk_result t (pk_lt i 0 (fun q => absurd q (by omega)) (fun _ => pk_le 3 i (fun q => absurd q (by omega)) (fun _ => ⟨vp_in_nI hi (by omega), ?_⟩)))
  rw [nI_clamp (by omega)]
  exact k
theorem Bk_line_ok (t : T_Bk zX a) {i : Nat} (hi : i < 6) {Q : Nat → Mem → Prop} (k : Q (a + 3 + 19 + 3 * i) M) : CallR zX m_Bk_line [.ref a, .int (nI i)] M Q := by
  refine e_Bk_line t (pk_lt i 0 (fun q => absurd q (by omega)) (fun _ => pk_le 6 i (fun q => absurd q (by omega)) (fun _ => ⟨vp_in_nI hi (by omega), ?_⟩)))
  rw [nI_clamp (by omega)]
  exact k
theorem Bk_dropExample_ok (t : T_Bk zX a) (h : BX M a b) (h0 : 0 < bN b) (hn : bN b ≤ 3) {Q : Mem → Prop} (k : ∀ M', BX M' a (bN b - 1, bM b, bE b, bR b, bP b) → FR a (a + 40) M M' → Q M') : CallV zX m_Bk_dropExample [.ref a] M Q := by
  refine e_Bk_dropExample t ?_
  rw [h.1]
  refine pk_le (bN b) 0 (fun q => absurd q (by omega)) (fun _ => ?_)
  rintro N rfl
  have f : FR a (a + 1) M (uI M a 3 (nI (bN b) - 1)) := FR.uI (by omega) (by omega)
  refine k _ ⟨?_, ?_, fun i hi => ?_, fun i hi => ?_⟩ (f.mono (by omega) (by omega))
  · rw [uI_s]
    exact pk_sub (b := 1) (by omega)
  · rw [uI_k (by omega)]
    exact h.2.1
  · have := h.2.2.1 i hi
    exact ⟨⟨this.1.1.fr f (by omega), this.1.2⟩, this.2.1.fr f (by omega), this.2.2⟩
  · have := h.2.2.2 i hi
    exact ⟨this.1.fr f (by omega), this.2⟩
theorem Bk_addLine_ok (t : T_Bk zX a) (h : BX M a b) (hm : bM b < 6) {p np : Nat} (tp : T_Sg zX p np) (hnp : np < 100) (hp : p + 3 ≤ a ∨ a + 40 ≤ p) {l : LI} (hL : SG M p l) (hl : l.length ≤ 12) (hlp : l.length ≤ np) {Q : Mem → Prop} (k : ∀ M', BX M' a (bN b, bM b + 1, bE b, bR b, fu (bP b) (bM b) l) → FR a (a + 40) M M' → Q M') : CallV zX m_Bk_addLine [.ref a, .ref p] M Q := by
  refine e_Bk_addLine t tp ?_
  rw [h.2.1]
  refine pk_le 6 (bM b) (fun q => absurd q (by omega)) (fun _ => ⟨vp_in_nI hm (by omega), ?_⟩)
  rw [nI_clamp (by omega)]
  refine Sg_copy_ok (t.2.2.2.2.2.2 _ hm) (by omega) tp hnp (by omega) hlp hl hL (fun M1 hS1 f1 => ?_)
  rintro N rfl
  have f2 : FR a (a + 1) M1 (uI M1 a 4 (M1.1 a 4 + 1)) := FR.uI (by omega) (by omega)
  have e4 : M1.1 a = M.1 a := (f1 a (by omega)).1
  refine k _ ⟨?_, ?_, fun i hi => ?_, fun i hi => ?_⟩ ((f1.mono (by omega) (by omega)).trans (f2.mono (by omega) (by omega)))
  · rw [uI_k (by omega), e4]
    exact h.1
  · rw [uI_s, e4, h.2.1]
    exact nI_1 _
  · have := h.2.2.1 i hi
    exact ⟨⟨(this.1.1.fr f1 (by omega)).fr f2 (by omega), this.1.2⟩, (this.2.1.fr f1 (by omega)).fr f2 (by omega), this.2.2⟩
  · show SG _ _ (fu (bP b) (bM b) l i) ∧ (fu (bP b) (bM b) l i).length ≤ 12
    by_cases e : i = bM b
    · subst e
      rw [fu_s]
      exact ⟨hS1.fr f2 (by omega), hl⟩
    · rw [fu_n e]
      have := h.2.2.2 i hi
      exact ⟨(this.1.fr f1 (by omega)).fr f2 (by omega), this.2⟩
theorem Bk_addExample_ok (t : T_Bk zX a) (h : BX M a b) (hn : bN b < 3) {p np : Nat} (tp : T_Sg zX p np) (hnp : np < 100) {l : LI} (hL : SG M p l) (hlp : l.length ≤ np) (hp : p + 3 ≤ a ∨ a + 22 ≤ p) {q nq : Nat} (tq : T_Sg zX q nq) (hnq : nq < 100) {r : LI} (hR : SG M q r) (hrq : r.length ≤ nq) (hq : q + 3 ≤ a ∨ a + 22 ≤ q) {to fr0 : Nat} (hto : to ≤ 12) (hfr : fr0 ≤ r.length) (hr5 : r.length - fr0 ≤ 5) {Q : Mem → Prop} (k : ∀ M', BX M' a (bN b + 1, bM b, fu (bE b) (bN b) (l.take to), fu (bR b) (bN b) (r.drop fr0), bP b) → FR a (a + 40) M M' → Q M') : CallV zX m_Bk_addExample [.ref a, .ref p, .int (nI to), .ref q, .int (nI fr0)] M Q := by
  refine e_Bk_addExample t tp tq ?_
  rw [h.1]
  refine pk_le 3 (bN b) (fun z => absurd z (by omega)) (fun _ => ⟨vp_in_nI hn (by omega), ?_⟩)
  rw [nI_clamp (by omega)]
  have tE := t.2.2.2.2.1 _ hn
  have tR := t.2.2.2.2.2.1 _ hn
  refine Sg_clear_ok tE (fun M1 hS1 f1 => ?_)
  have e1 : M1.1 a = M.1 a := (f1 a (by omega)).1
  rw [e1, h.1, nI_clamp (by omega)]
  have hL1 := hL.fr f1 (by omega)
  refine ⟨vp_in_nI hn (by omega), Sg_addFrom_call (i := 0) tE (by omega) tp hnp (by omega) hlp (by omega) (by omega) (by omega) hS1 hL1 (by simp; omega) (fun M2 hS2 f2 => ?_)⟩
  have e2 : M2.1 a = M.1 a := by rw [(f2 a (by omega)).1, e1]
  rw [e2, h.1, nI_clamp (by omega)]
  refine ⟨vp_in_nI hn (by omega), Sg_clear_ok tR (fun M3 hS3 f3 => ?_)⟩
  have e3 : M3.1 a = M.1 a := by rw [(f3 a (by omega)).1, e2]
  have hR3 := ((hR.fr f1 (by omega)).fr f2 (by omega)).fr f3 (by omega)
  rw [e3, h.1, nI_clamp (by omega)]
  refine ⟨vp_in_nI hn (by omega), Sg_many_ok tq hR3 (Sg_addFrom_call tR (by omega) tq hnq (by omega) hrq (by omega) (by omega) (by omega) hS3 hR3 (by simp; omega) (fun M4 hS4 f4 => ?_))⟩
  have e4 : M4.1 a = M.1 a := by rw [(f4 a (by omega)).1, e3]
  rintro N rfl
  have f5 : FR a (a + 1) M4 (uI M4 a 3 (M4.1 a 3 + 1)) := FR.uI (by omega) (by omega)
  rw [List.nil_append, List.drop_zero] at hS2
  rw [List.nil_append, List.take_of_length_le (Nat.le_refl _)] at hS4
  have fE : FR (a + 1 + 3 + 6 * bN b) (a + 1 + 3 + 6 * bN b + 3) M M2 := f1.trans f2
  have fR : FR (a + 2 + 5 + 6 * bN b) (a + 2 + 5 + 6 * bN b + 3) M2 M4 := f3.trans f4
  have keep : ∀ (x : Nat) (z : LI), SG M x z → (x + 3 ≤ a + 1 + 3 + 6 * bN b ∨ a + 2 + 5 + 6 * bN b + 3 ≤ x) → a < x → SG (uI M4 a 3 (M4.1 a 3 + 1)) x z := fun x z hz hx hx2 => ((hz.fr fE (by omega)).fr fR (by omega)).fr f5 (by omega)
  refine k _ ⟨?_, ?_, fun i hi => ?_, fun i hi => ?_⟩ (((fE.mono (by omega) (by omega)).trans (fR.mono (by omega) (by omega))).trans (f5.mono (by omega) (by omega)))
  · rw [uI_s, e4, h.1]
    exact nI_1 _
  · rw [uI_k (by omega), e4]
    exact h.2.1
  · have hh := h.2.2.1 i hi
    show (SG _ _ (fu (bE b) (bN b) (l.take to) i) ∧ (fu (bE b) (bN b) (l.take to) i).length ≤ 12) ∧ SG _ _ (fu (bR b) (bN b) (r.drop fr0) i) ∧ (fu (bR b) (bN b) (r.drop fr0) i).length ≤ 5
    by_cases e : i = bN b
    · subst e
      rw [fu_s, fu_s]
      refine ⟨⟨(hS2.fr fR (by omega)).fr f5 (by omega), by rw [List.length_take]; omega⟩, hS4.fr f5 (by omega), by rw [List.length_drop]; omega⟩
    · rw [fu_n e, fu_n e]
      exact ⟨⟨keep _ _ hh.1.1 (by omega) (by omega), hh.1.2⟩, keep _ _ hh.2.1 (by omega) (by omega), hh.2.2⟩
  · have hh := h.2.2.2 i hi
    exact ⟨keep _ _ hh.1 (by omega) (by omega), hh.2⟩
/-- the pool without a line -/
def dropP (b : Bo) (x : Nat) : Bo := (bN b, bM b - 1, bE b, bR b, fun i => if x ≤ i ∧ i + 1 < bM b then bP b (i + 1) else bP b i)
theorem Bk_dropLine_ok (t : T_Bk zX a) (h : BX M a b) (hm : bM b ≤ 6) {x : Nat} (hx : x < bM b) {Q : Mem → Prop} (k : ∀ M', BX M' a (dropP b x) → FR a (a + 40) M M' → Q M') : CallV zX m_Bk_dropLine [.ref a, .int (nI x)] M Q := by
  have key : ∀ (j i : Nat) (M' : Mem), i + j + 1 = bM b → x ≤ i → BX M' a (bN b, bM b, bE b, bR b, fun u => if x ≤ u ∧ u < i then bP b (u + 1) else bP b u) → FR a (a + 40) M M' → wp zX m_Bk_dropLine (QV Q) 10 [(0, .ref a), (2, .int (nI i))] [] M' := by
    intro j
    induction j with
    | zero =>
      intro i M' hi hxi hB f
      refine b_Bk_dropLine_10 t ?_
      rw [hB.2.1, nI_1]
      refine pk_le (bM b) (i + 1) (fun _ => ?_) (fun q => absurd q (by omega))
      rintro N rfl
      have f2 : FR a (a + 1) M' (uI M' a 4 (nI (bM b) - 1)) := FR.uI (by omega) (by omega)
      refine k _ ⟨?_, ?_, fun u hu => ?_, fun u hu => ?_⟩ (f.trans (f2.mono (by omega) (by omega)))
      · rw [uI_k (by omega)]
        exact hB.1
      · rw [uI_s]
        exact pk_sub (a := bM b) (b := 1) (by omega)
      · have := hB.2.2.1 u hu
        exact ⟨⟨this.1.1.fr f2 (by omega), this.1.2⟩, this.2.1.fr f2 (by omega), this.2.2⟩
      · have hh := hB.2.2.2 u hu
        have e : (if x ≤ u ∧ u + 1 < bM b then bP b (u + 1) else bP b u) = (if x ≤ u ∧ u < i then bP b (u + 1) else bP b u) := by
          by_cases z : x ≤ u ∧ u < i
          · rw [if_pos z, if_pos (by omega)]
          · rw [if_neg z, if_neg (by omega)]
        show SG _ _ (if x ≤ u ∧ u + 1 < bM b then bP b (u + 1) else bP b u) ∧ (if x ≤ u ∧ u + 1 < bM b then bP b (u + 1) else bP b u).length ≤ 12
        rw [e]
        exact ⟨hh.1.fr f2 (by omega), hh.2⟩
    | succ j ih =>
      intro i M' hi hxi hB f
      refine b_Bk_dropLine_10 t ?_
      rw [hB.2.1, nI_1]
      refine pk_le (bM b) (i + 1) (fun q => absurd q (by omega)) (fun _ => ⟨vp_in_nI (by omega) (by omega), vp_in_nI (by omega) (by omega), ?_⟩)
      rw [nI_clamp (by omega), nI_clamp (by omega)]
      have hs := hB.2.2.2 (i + 1) (by omega)
      have es : (if x ≤ i + 1 ∧ i + 1 < i then bP b (i + 1 + 1) else bP b (i + 1)) = bP b (i + 1) := if_neg (by omega)
      have hs : SG M' (a + 3 + 19 + 3 * (i + 1)) (bP b (i + 1)) ∧ (bP b (i + 1)).length ≤ 12 := by
        rw [← es]
        exact hs
      refine Sg_copy_ok (t.2.2.2.2.2.2 _ (by omega)) (by omega) (t.2.2.2.2.2.2 _ (by omega)) (by omega) (by omega) hs.2 hs.2 hs.1 (fun M2 hS2 f2 => ?_)
      refine ih (i + 1) M2 (by omega) (by omega) ⟨?_, ?_, fun u hu => ?_, fun u hu => ?_⟩ (f.trans (f2.mono (by omega) (by omega)))
      · rw [(f2 a (by omega)).1]
        exact hB.1
      · rw [(f2 a (by omega)).1]
        exact hB.2.1
      · have := hB.2.2.1 u hu
        exact ⟨⟨this.1.1.fr f2 (by omega), this.1.2⟩, this.2.1.fr f2 (by omega), this.2.2⟩
      · have hh := hB.2.2.2 u hu
        show SG _ _ (if x ≤ u ∧ u < i + 1 then bP b (u + 1) else bP b u) ∧ (if x ≤ u ∧ u < i + 1 then bP b (u + 1) else bP b u).length ≤ 12
        by_cases e : u = i
        · subst e
          rw [if_pos ⟨hxi, Nat.lt_succ_self u⟩]
          exact ⟨hS2, hs.2⟩
        · have e2 : (if x ≤ u ∧ u < i + 1 then bP b (u + 1) else bP b u) = (if x ≤ u ∧ u < i then bP b (u + 1) else bP b u) := by
            by_cases z : x ≤ u ∧ u < i
            · rw [if_pos z, if_pos (by omega)]
            · rw [if_neg z, if_neg (by omega)]
          rw [e2]
          exact ⟨hh.1.fr f2 (by omega), hh.2⟩
  refine e_Bk_dropLine t (Bk_knows_ok t h (fun _ => br_f (by decide) ?_) (fun z => absurd ((kno_iff hm).mpr ⟨x, hx, rfl⟩) z))
  refine key (bM b - x - 1) x M (by omega) (Nat.le_refl _) ⟨h.1, h.2.1, h.2.2.1, fun u hu => ?_⟩ FR.rf
  show SG _ _ (if x ≤ u ∧ u < x then bP b (u + 1) else bP b u) ∧ (if x ≤ u ∧ u < x then bP b (u + 1) else bP b u).length ≤ 12
  rw [if_neg (by omega)]
  exact h.2.2.2 u hu
theorem Bk_copy_ok (t : T_Bk zX a) {c : Nat} (tc : T_Bk zX c) (hac : a + 40 ≤ c ∨ c + 40 ≤ a) (h : BX M c b) {Q : Mem → Prop} (k : ∀ M', BX M' a b → FR a (a + 40) M M' → Q M') : CallV zX m_Bk_copy [.ref a, .ref c] M Q := by
  have k61 : ∀ (j i : Nat) (M' : Mem), i + j = 6 → M'.1 a 3 = nI (bN b) → M'.1 a 4 = nI (bM b) → (∀ u, u < 3 → SG M' (a + 1 + 3 + 6 * u) (bE b u) ∧ SG M' (a + 2 + 5 + 6 * u) (bR b u)) → (∀ u, u < i → SG M' (a + 3 + 19 + 3 * u) (bP b u)) → FR a (a + 40) M M' → wp zX m_Bk_copy (QV Q) 61 [(0, .ref a), (1, .ref c), (2, .int (nI i))] [] M' := by
    intro j
    induction j with
    | zero =>
      intro i M' hi g1 g2 g3 g4 f
      refine b_Bk_copy_61 t tc (pk_le 6 i (fun _ => k M' ⟨g1, g2, fun u hu => ?_, fun u hu => ?_⟩ f) (fun q => absurd q (by omega)))
      · exact ⟨⟨(g3 u hu).1, (h.2.2.1 u hu).1.2⟩, (g3 u hu).2, (h.2.2.1 u hu).2.2⟩
      · exact ⟨g4 u (by omega), (h.2.2.2 u hu).2⟩
    | succ j ih =>
      intro i M' hi g1 g2 g3 g4 f
      have h' := h.fr f (by omega)
      refine b_Bk_copy_61 t tc (pk_le 6 i (fun q => absurd q (by omega)) (fun q => ⟨vp_in_nI q (by omega), vp_in_nI q (by omega), ?_⟩))
      rw [nI_clamp (by omega), nI_1]
      have hs := h'.2.2.2 i q
      refine Sg_copy_ok (t.2.2.2.2.2.2 _ q) (by omega) (tc.2.2.2.2.2.2 _ q) (by omega) (by omega) hs.2 hs.2 hs.1 (fun M2 hS2 f2 => ?_)
      refine ih (i + 1) M2 (by omega) (by rw [(f2 a (by omega)).1]; exact g1) (by rw [(f2 a (by omega)).1]; exact g2) (fun u hu => ⟨(g3 u hu).1.fr f2 (by omega), (g3 u hu).2.fr f2 (by omega)⟩) (fun u hu => ?_) (f.trans (f2.mono (by omega) (by omega)))
      by_cases e : u = i
      · subst e; exact hS2
      · exact (g4 u (by omega)).fr f2 (by omega)
  have k18 : ∀ (j i : Nat) (M' : Mem), i + j = 3 → M'.1 a 3 = nI (bN b) → M'.1 a 4 = nI (bM b) → (∀ u, u < i → SG M' (a + 1 + 3 + 6 * u) (bE b u) ∧ SG M' (a + 2 + 5 + 6 * u) (bR b u)) → FR a (a + 40) M M' → wp zX m_Bk_copy (QV Q) 18 [(0, .ref a), (1, .ref c), (2, .int (nI i))] [] M' := by
    intro j
    induction j with
    | zero =>
      intro i M' hi g1 g2 g3 f
      exact b_Bk_copy_18 t tc (pk_le 3 i (fun _ => k61 6 0 M' rfl g1 g2 (fun u hu => g3 u (by omega)) (fun u hu => absurd hu (Nat.not_lt_zero u)) f) (fun q => absurd q (by omega)))
    | succ j ih =>
      intro i M' hi g1 g2 g3 f
      have h' := h.fr f (by omega)
      refine b_Bk_copy_18 t tc (pk_le 3 i (fun q => absurd q (by omega)) (fun q => ⟨vp_in_nI q (by omega), vp_in_nI q (by omega), ?_⟩))
      rw [nI_clamp (by omega), nI_1]
      have hs := h'.2.2.1 i q
      refine Sg_copy_ok (t.2.2.2.2.1 _ q) (by omega) (tc.2.2.2.2.1 _ q) (by omega) (by omega) hs.1.2 hs.1.2 hs.1.1 (fun M2 hS2 f2 => ⟨vp_in_nI q (by omega), vp_in_nI q (by omega), ?_⟩)
      have h2 := h'.fr (f2.mono (lo' := a) (hi' := a + 40) (by omega) (by omega)) (by omega)
      have hs2 := h2.2.2.1 i q
      refine Sg_copy_ok (t.2.2.2.2.2.1 _ q) (by omega) (tc.2.2.2.2.2.1 _ q) (by omega) (by omega) hs2.2.2 hs2.2.2 hs2.2.1 (fun M3 hS3 f3 => ?_)
      refine ih (i + 1) M3 (by omega) (by rw [(f3 a (by omega)).1, (f2 a (by omega)).1]; exact g1) (by rw [(f3 a (by omega)).1, (f2 a (by omega)).1]; exact g2) (fun u hu => ?_) ((f.trans (f2.mono (by omega) (by omega))).trans (f3.mono (by omega) (by omega)))
      by_cases e : u = i
      · subst e
        exact ⟨hS2.fr f3 (by omega), hS3⟩
      · exact ⟨((g3 u (by omega)).1.fr f2 (by omega)).fr f3 (by omega), ((g3 u (by omega)).2.fr f2 (by omega)).fr f3 (by omega)⟩
  refine e_Bk_copy t tc ?_
  rintro N1 rfl N2 rfl
  have f : FR a (a + 1) M (uI (uI M a 3 (M.1 c 3)) a 4 ((uI M a 3 (M.1 c 3)).1 c 4)) := (FR.uI (by omega) (by omega)).trans (FR.uI (by omega) (by omega))
  refine k18 3 0 _ rfl ?_ ?_ (fun u hu => absurd hu (Nat.not_lt_zero u)) (f.mono (by omega) (by omega))
  · rw [uI_k (by omega), uI_s]
    exact h.1
  · rw [uI_s, uI_n (by omega)]
    exact h.2.1
end ZBK
