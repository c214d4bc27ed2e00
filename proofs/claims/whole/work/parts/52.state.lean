/-! The state of the whole in words, of which class and reference both tell: what is said, the book, the images -/
def exs (b : Bo) : RS := (List.range (bN b)).map (fun i => (bE b i, bR b i))
theorem exs_len (b : Bo) : (exs b).length = bN b := by simp [exs]
theorem exs_get {b : Bo} {i : Nat} (h : i < bN b) : (exs b).getD i ([], []) = (bE b i, bR b i) := by
  rw [List.getD_eq_getElem?_getD, exs, List.getElem?_map, List.getElem?_range h]
  rfl
theorem ln_exs {b : Bo} {i : Nat} (h : i < bN b) : ln (exs b) i = bE b i := by rw [ln, exs_get h]
theorem rt_exs {b : Bo} {i : Nat} (h : i < bN b) : rt (exs b) i = bR b i := by rw [rt, exs_get h]
theorem ln_app1 {rs : RS} {x : LI × LI} {i : Nat} (h : i < rs.length) : ln (rs ++ [x]) i = ln rs i := by
  rw [ln, ln, List.getD_eq_getElem?_getD, List.getD_eq_getElem?_getD, List.getElem?_append_left h]
theorem rt_app1 {rs : RS} {x : LI × LI} {i : Nat} (h : i < rs.length) : rt (rs ++ [x]) i = rt rs i := by
  rw [rt, rt, List.getD_eq_getElem?_getD, List.getD_eq_getElem?_getD, List.getElem?_append_left h]
theorem ln_app2 {rs : RS} {x : LI × LI} {i : Nat} (h : i = rs.length) : ln (rs ++ [x]) i = x.1 := by
  subst h
  rw [ln, List.getD_eq_getElem?_getD, List.getElem?_append_right (Nat.le_refl _), Nat.sub_self]
  rfl
theorem rt_app2 {rs : RS} {x : LI × LI} {i : Nat} (h : i = rs.length) : rt (rs ++ [x]) i = x.2 := by
  subst h
  rw [rt, List.getD_eq_getElem?_getD, List.getElem?_append_right (Nat.le_refl _), Nat.sub_self]
  rfl
/-- signs that can stand in a line -/
def okS (l : LI) : Prop := ∀ i, i < l.length → kd (gt l i) ≠ -6
def okL (l : LI) : Prop := l.length ≤ 12 ∧ okS l
def okR (l : LI) : Prop := 1 ≤ l.length ∧ l.length ≤ 5 ∧ okS l
def VB (b : Bo) : Prop := bN b ≤ 3 ∧ bM b ≤ 6 ∧ (∀ i, i < bN b → okL (bE b i) ∧ okR (bR b i)) ∧ ∀ i, i < bM b → okL (bP b i)
theorem VR_exs {b : Bo} (h : VB b) : VR (exs b) := by
  refine ⟨by rw [exs_len]; exact Nat.le_succ_of_le h.1, fun i hi => ?_⟩
  rw [exs_len] at hi
  rw [ln_exs hi, rt_exs hi]
  exact ⟨(h.2.2.1 i hi).1.1, (h.2.2.1 i hi).2.2.1⟩
theorem VR_app {b : Bo} (h : VB b) {l r : LI} (hl : l.length ≤ 12) (hr : r.length ≤ 5) : VR (exs b ++ [(l, r)]) := by
  have h1 := h.1
  refine ⟨by rw [List.length_append, exs_len]; simp; omega, fun i hi => ?_⟩
  rw [List.length_append] at hi
  simp only [List.length_singleton] at hi
  by_cases e : i < (exs b).length
  · rw [ln_app1 e, rt_app1 e]
    exact (VR_exs h).2 i e
  · rw [ln_app2 (by omega), rt_app2 (by omega)]
    exact ⟨hl, hr⟩
/-- the best plan of the examples -/
def bp (b : Bo) : List T3 := if CN (exs b) = 0 then [] else BP (exs b)
/-- what it makes of a line -/
def mkL (b : Bo) (l : LI) : LI := mkF (bR b 0) l (bp b) []
abbrev AA : Type := LI × Bo × (Nat → Option Bo)
def aL (A : AA) : LI := A.1
def aB (A : AA) : Bo := A.2.1
def aI (A : AA) : Nat → Option Bo := A.2.2
def VA (A : AA) : Prop := (aL A).length ≤ 18 ∧ VB (aB A) ∧ ∀ i b, aI A i = some b → VB b
def FO (M : Mem) (b : Bo) : Prop := M.1 0 8 = 1 ∧ 0 < bN b ∧ FT M (exs b) ∧ M.2 0 9 = lN (CN (exs b)) ∧ PL M (bR b 0) (bp b)
abbrev okM (l : LI) : Prop := 1 ≤ l.length ∧ l.length ≤ 5
def agr (b : Bo) (j : Nat) : Nat := CN (exs b ++ [(bP b j, mkL b (bP b j))])
def CA (M : Mem) (b : Bo) : Prop := ∀ j, j < 6 → M.2 159 j = -1 ∨ (j < bM b ∧ okM (mkL b (bP b j)) ∧ M.2 159 j = lN (agr b j))
def XK (M : Mem) (A : AA) : Prop := SG M 1 (aL A) ∧ BX M 4 (aB A) ∧ ∀ j, j < 2 → match aI A j with
  | none => M.1 45 j = 0
  | some b => M.1 45 j = 1 ∧ BX M (44 + 116 + 40 * j) b
def XS (M : Mem) (A : AA) : Prop := XK M A ∧ (M.1 0 8 = 0 ∨ FO M (aB A)) ∧ CA M (aB A)
theorem XK.fr {M M' : Mem} {A : AA} (h : XK M A) {lo hi : Nat} (f : FR lo hi M M') (hh : hi ≤ 1 ∨ (46 ≤ lo ∧ hi ≤ 160)) : XK M' A := by
  refine ⟨h.1.fr f (by omega), h.2.1.fr f (by omega), fun j hj => ?_⟩
  have := h.2.2 j hj
  revert this
  cases aI A j with
  | none =>
    intro t
    show M'.1 45 j = 0
    rw [(f 45 (by omega)).1]
    exact t
  | some b =>
    intro t
    exact ⟨by rw [(f 45 (by omega)).1]; exact t.1, t.2.fr f (by omega)⟩
theorem PL_congr {M : Mem} {r0 : LI} {ps : List T3} (h : PL M r0 ps) {r1 : LI} (e : r1 = r0) : PL M r1 ps := by rw [e]; exact h
theorem BP_facts {b : Bo} (hb : VB b) (h0 : 0 < bN b) : (∀ p, p ∈ bp b → PV (bR b 0) p) ∧ (bp b).length ≤ 5 ∧ ((bp b).length = 0 ↔ CN (exs b) = 0) := by
  have hv := VR_exs hb
  have h1 : 0 < (exs b).length := by rw [exs_len]; exact h0
  unfold bp
  by_cases c : CN (exs b) = 0
  · rw [if_pos c]
    exact ⟨fun p hp => (by cases hp), Nat.zero_le _, fun _ => c, fun _ => rfl⟩
  rw [if_neg c]
  have s := BP_spec hv h1 c
  have e1 : 0 < enT (exs b) := by
    have hr := (hb.2.2.1 0 h0).2.1
    refine Nat.pos_of_ne_zero fun q => ?_
    have hV : VS (exs b) (enT (exs b)) := WW_V hv h1 c
    have key : ∀ (k i acc : Nat), i + k = (exs b).length → acc ≤ enF (exs b) k i acc := by
      intro k
      induction k with
      | zero => intro i acc _; exact Nat.le_refl _
      | succ k ih =>
        intro i acc hi
        rw [enF]
        exact Nat.le_trans (Nat.le_add_right _ _) (ih (i + 1) _ (by omega))
    unfold enT at q
    obtain ⟨n, hn⟩ : ∃ n, (exs b).length = n + 1 := ⟨bN b - 1, by rw [exs_len]; omega⟩
    rw [hn, enF] at q
    have := key n 1 (0 + (rt (exs b) 0).length * 6 ^ 0) (by omega)
    rw [q, rt_exs h0] at this
    omega
  refine ⟨fun p hp => ?_, ?_, fun q => absurd (s.2.2 e1) (by omega), fun q => absurd q c⟩
  · have := s.2.1 p hp
    rw [rt_exs h0] at this
    exact this
  · have key : ∀ (k s : Nat) (ps : List T3), (tlF (exs b) (Lc (exs b)) (enT (exs b)) k s ps).length ≤ ps.length + k := by
      intro k
      induction k with
      | zero => intro s ps; exact Nat.le_refl _
      | succ k ih =>
        intro s ps
        rw [tlF]
        repeat' split
        all_goals first
          | omega
          | (refine Nat.le_trans (ih _ _) ?_; simp only [List.length_append, List.length_singleton]; omega)
    exact key 5 0 []
