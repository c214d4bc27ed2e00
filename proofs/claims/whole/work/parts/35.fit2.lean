/-! Fitting: groups of marks, moves -/
abbrev T3 : Type := Nat × Nat × Nat
def g3 (l : List T3) (i : Nat) : T3 := l.getD i (0, 0, 0)
theorem g3_app1 {l r : List T3} {i : Nat} (h : i < l.length) : g3 (l ++ r) i = g3 l i := by simp [g3, List.getD_eq_getElem?_getD, List.getElem?_append_left h]
theorem g3_app2 {l r : List T3} {i : Nat} (h : l.length ≤ i) : g3 (l ++ r) i = g3 r (i - l.length) := by simp [g3, List.getD_eq_getElem?_getD, List.getElem?_append_right h]
theorem g3_set {l : List T3} {i j : Nat} {x : T3} (h : i < l.length) : g3 (l.set i x) j = if j = i then x else g3 l j := by
  unfold g3
  rw [List.getD_eq_getElem?_getD, List.getD_eq_getElem?_getD]
  by_cases e : j = i
  · subst e
    rw [if_pos rfl, List.getElem?_set_self h]
    rfl
  · rw [if_neg e, List.getElem?_set_ne (Ne.symm e)]
theorem g3_mem {l : List T3} {i : Nat} (h : i < l.length) : g3 l i ∈ l := by
  unfold g3
  rw [List.getD_eq_getElem?_getD, List.getElem?_eq_getElem h]
  exact List.getElem_mem h
theorem drop_g3 {l : List T3} {p : Nat} (h : p < l.length) : l.drop p = g3 l p :: l.drop (p + 1) := by
  rw [List.drop_eq_getElem_cons h]
  congr 1
  simp [g3, List.getD_eq_getElem?_getD, List.getElem?_eq_getElem h]
/-- three columns -/
def C3 (M : Mem) (c : Nat) (l : List T3) : Prop := ∀ i, i < l.length → M.1 c i = nI (g3 l i).1 ∧ M.1 (c + 1) i = nI (g3 l i).2.1 ∧ M.1 (c + 2) i = nI (g3 l i).2.2
def MV (M : Mem) (mv : List T3) : Prop := M.1 52 3 = nI mv.length ∧ C3 M 53 mv
def GR (M : Mem) (gl : List T3) : Prop := M.1 46 9 = nI gl.length ∧ C3 M 49 gl
theorem C3.fr {M M' : Mem} {c lo hi : Nat} {l : List T3} (h : C3 M c l) (f : FR lo hi M M') (h1 : c + 3 ≤ lo ∨ hi ≤ c) : C3 M' c l := fun i hi2 => by
  rw [(f c (by omega)).1, (f (c + 1) (by omega)).1, (f (c + 2) (by omega)).1]
  exact h i hi2
theorem MV.fr {M M' : Mem} {lo hi : Nat} {l : List T3} (h : MV M l) (f : FR lo hi M M') (h1 : 56 ≤ lo ∨ hi ≤ 52) : MV M' l := ⟨by rw [(f 52 (by omega)).1]; exact h.1, h.2.fr f (by omega)⟩
theorem GR.fr {M M' : Mem} {lo hi : Nat} {l : List T3} (h : GR M l) (f : FR lo hi M M') (h1 : 52 ≤ lo ∨ hi ≤ 46) : GR M' l := ⟨by rw [(f 46 (by omega)).1]; exact h.1, h.2.fr f (by omega)⟩
theorem GR.fr2 {M M' : Mem} {l : List T3} (h : GR M l) (f : FR 48 49 M M') : GR M' l := ⟨by rw [(f 46 (by omega)).1]; exact h.1, h.2.fr f (by omega)⟩
/-- groups that can be -/
def GB (gl : List T3) : Prop := gl.length ≤ 62 ∧ ∀ g, g ∈ gl → g.1 < 62 ∧ g.2.1 ≤ 62 ∧ g.2.2 ≤ 3
section ZF2
variable {M : Mem} {rs : RS}
theorem Mv_add_ok {mv : List T3} (hM : MV M mv) (hl : mv.length < 3849) {a b c : Nat} {Q : Mem → Prop} (h : ∀ M', MV M' (mv ++ [(a, b, c)]) → FR 52 56 M M' → Q M') : CallV zX m_Mv_add [.ref 52, .int (nI a), .int (nI b), .int (nI c)] M Q := by
  refine e_Mv_add ?_
  rw [hM.1]
  refine pk_le 3849 mv.length (fun q => absurd q (by omega)) (fun _ => ⟨vp_in_nI hl (by omega), ?_⟩)
  rintro N rfl
  rw [uI_n (by omega), hM.1]
  refine ⟨vp_in_nI hl (by omega), ?_⟩
  rintro N2 rfl
  rw [uI_n (by omega), uI_n (by omega), hM.1]
  refine ⟨vp_in_nI hl (by omega), ?_⟩
  rintro N3 rfl N4 rfl
  rw [nI_clamp (by omega)]
  refine h _ ⟨?_, fun i hi => ?_⟩ ((((FR.uI (by omega) (by omega)).trans (FR.uI (by omega) (by omega))).trans (FR.uI (by omega) (by omega))).trans (FR.uI (by omega) (by omega)))
  · rw [uI_s, uI_n (by omega), uI_n (by omega), uI_n (by omega), hM.1, List.length_append, List.length_singleton]
    exact nI_1 _
  · rw [List.length_append, List.length_singleton] at hi
    by_cases e : i = mv.length
    · subst e
      simp (disch := omega) only [uI_n, uI_k, uI_s, g3_app2 (Nat.le_refl _), Nat.sub_self]
      exact ⟨rfl, rfl, rfl⟩
    · simp (disch := omega) only [uI_n, uI_k, uI_s, g3_app1]
      exact hM.2 i (by omega)
theorem Mv_clear_ok {Q : Mem → Prop} (h : ∀ M', MV M' [] → FR 52 56 M M' → Q M') : CallV zX m_Mv_clear [.ref 52] M Q := by
  refine e_Mv_clear ?_
  rintro N rfl
  exact h _ ⟨uI_s, fun i hi => absurd hi (Nat.not_lt_zero i)⟩ (FR.uI (by omega) (by omega))
theorem Mv_many_ok {mv : List T3} (hM : MV M mv) {Q : Int32 → Mem → Prop} (h : Q (nI mv.length) M) : CallI zX m_Mv_many [.ref 52] M Q := e_Mv_many (by rw [hM.1]; exact h)
theorem Mv_target_ok {mv : List T3} (hM : MV M mv) (hl : mv.length ≤ 3849) {i : Nat} (hi : i < mv.length) {Q : Int32 → Mem → Prop} (h : Q (nI (g3 mv i).1) M) : CallI zX m_Mv_target [.ref 52, .int (nI i)] M Q := by
  refine e_Mv_target (pk_lt i 0 (fun q => absurd q (by omega)) (fun _ => pk_le 3849 i (fun q => absurd q (by omega)) (fun _ => ⟨vp_in_nI (by omega) (by omega), ?_⟩)))
  rw [nI_clamp (by omega), (hM.2 i hi).1]
  exact h
theorem Mv_pieces_ok {mv : List T3} (hM : MV M mv) (hl : mv.length ≤ 3849) {i : Nat} (hi : i < mv.length) {Q : Int32 → Mem → Prop} (h : Q (nI (g3 mv i).2.1) M) : CallI zX m_Mv_pieces [.ref 52, .int (nI i)] M Q := by
  refine e_Mv_pieces (pk_lt i 0 (fun q => absurd q (by omega)) (fun _ => pk_le 3849 i (fun q => absurd q (by omega)) (fun _ => ⟨vp_in_nI (by omega) (by omega), ?_⟩)))
  rw [nI_clamp (by omega), (hM.2 i hi).2.1]
  exact h
theorem Mv_price_ok {mv : List T3} (hM : MV M mv) (hl : mv.length ≤ 3849) {i : Nat} (hi : i < mv.length) {Q : Int32 → Mem → Prop} (h : Q (nI (g3 mv i).2.2) M) : CallI zX m_Mv_price [.ref 52, .int (nI i)] M Q := by
  refine e_Mv_price (pk_lt i 0 (fun q => absurd q (by omega)) (fun _ => pk_le 3849 i (fun q => absurd q (by omega)) (fun _ => ⟨vp_in_nI (by omega) (by omega), ?_⟩)))
  rw [nI_clamp (by omega), (hM.2 i hi).2.2]
  exact h
/-- the first group of a mark's places -/
def fdG (rs : RS) (gl : List T3) (m : Nat) : Nat → Nat → Nat
  | 0, j => j
  | k + 1, j => if sme rs (g3 gl j).1 m rs.length 0 then j else fdG rs gl m k (j + 1)
theorem fdG_le (rs : RS) (gl : List T3) (m : Nat) : ∀ k j, fdG rs gl m k j ≤ j + k
  | 0, j => Nat.le_refl _
  | k + 1, j => by
    unfold fdG
    split
    · omega
    · have := fdG_le rs gl m k (j + 1)
      omega
def jnG (rs : RS) (gl : List T3) (m : Nat) : List T3 :=
  if fdG rs gl m gl.length 0 = gl.length then gl ++ [(m, 1, mprice m)] else
    gl.set (fdG rs gl m gl.length 0) ((g3 gl (fdG rs gl m gl.length 0)).1, (g3 gl (fdG rs gl m gl.length 0)).2.1 + 1, min (mprice m) (g3 gl (fdG rs gl m gl.length 0)).2.2)
theorem mprice_le (m : Nat) : mprice m ≤ 3 := by unfold mprice; split <;> (try split) <;> omega
/-- what grouping leaves -/
def KG (M M' : Mem) : Prop := FR 46 52 M M' ∧ M'.1 46 8 = M.1 46 8 ∧ M'.1 48 = M.1 48
theorem KG.rf : KG M M := ⟨FR.rf, rfl, rfl⟩
theorem KG.trans {M M' M'' : Mem} (h : KG M M') (h' : KG M' M'') : KG M M'' := ⟨h.1.trans h'.1, h'.2.1.trans h.2.1, h'.2.2.trans h.2.2⟩
theorem KG.FT {M M' : Mem} (h : KG M M') (hF : FT M rs) : FT M' rs := ⟨by rw [h.2.1]; exact hF.1, fun i hi => (hF.2 i hi).fr h.1 (by omega)⟩
theorem Ft_joinGroup_ok (hv : VR rs) (hF : FT M rs) {gl : List T3} (hG : GR M gl) (hb : GB gl) (hl : gl.length < 62) (hz : ∀ g, g ∈ gl → g.2.1 < 62) {m : Nat} (hm : m < 62) {Q : Mem → Prop} (h : ∀ M', GR M' (jnG rs gl m) → KG M M' → Q M') : CallV zX m_Ft_joinGroup [.ref 46, .int (nI m)] M Q := by
  have h79 : ∀ (j : Nat) (M' : Mem) (gl2 : List T3), j < gl2.length → j < 62 → GR M' gl2 → KG M M' → (g3 gl2 j).2.2 ≤ 3 → (∀ M2, GR M2 (gl2.set j ((g3 gl2 j).1, (g3 gl2 j).2.1 + 1, min (mprice m) (g3 gl2 j).2.2)) → KG M M2 → Q M2) → wp zX m_Ft_joinGroup (QV Q) 79 [(0, .ref 46), (1, .int (nI m)), (2, .int (nI j))] [] M' := by
    intro j M' gl2 hj hj2 hG2 hK hp3 hQ
    refine b_Ft_joinGroup_79 ⟨vp_in_nI hj2 (by omega), vp_in_nI hj2 (by omega), ?_⟩
    rintro N rfl
    refine ⟨vp_in_nI hj2 (by omega), Mk_price_ok hm ⟨vp_in_nI hj2 (by omega), ?_⟩⟩
    rintro N2 rfl
    have hmp := mprice_le m
    rw [nI_clamp (by omega), uI_n (by omega), (hG2.2 j hj).2.1, (hG2.2 j hj).2.2, nI_1]
    have e : (if nI (mprice m) < nI (g3 gl2 j).2.2 then nI (mprice m) else nI (g3 gl2 j).2.2) = nI (min (mprice m) (g3 gl2 j).2.2) := by
      by_cases q : mprice m < (g3 gl2 j).2.2
      · rw [if_pos ((nI_ltI (by omega) (by omega)).mpr q), Nat.min_eq_left (by omega)]
      · rw [if_neg (fun z => q ((nI_ltI (by omega) (by omega)).mp z)), Nat.min_eq_right (by omega)]
    rw [e]
    refine hQ _ ⟨?_, fun i hi => ?_⟩ (hK.trans ⟨(FR.uI (by omega) (by omega)).trans (FR.uI (by omega) (by omega)), by rw [uI_n (by omega), uI_n (by omega)], by rw [uI_n (by omega), uI_n (by omega)]⟩)
    · rw [uI_n (by omega), uI_n (by omega), List.length_set]
      exact hG2.1
    · rw [List.length_set] at hi
      rw [g3_set hj]
      by_cases e2 : i = j
      · subst e2
        rw [if_pos rfl]
        simp (disch := omega) only [uI_n, uI_k, uI_s]
        exact ⟨(hG2.2 i hi).1, trivial, trivial⟩
      · simp (disch := omega) only [uI_n, uI_k, uI_s, if_neg e2]
        exact hG2.2 i hi
  have h30 : ∀ (j : Nat), j = fdG rs gl m gl.length 0 → wp zX m_Ft_joinGroup (QV Q) 30 [(0, .ref 46), (1, .int (nI m)), (2, .int (nI j))] [] M := by
    intro j hj
    have hjl := fdG_le rs gl m gl.length 0
    unfold jnG at h
    rw [← hj] at h hjl
    refine b_Ft_joinGroup_30 (pk_lt j 62 (fun q => ?_) (fun q => absurd q (by omega)))
    rw [hG.1]
    refine pk_eq j gl.length (fun e => ⟨vp_in_nI q (by omega), ?_⟩) (fun e => ?_)
    · rintro N rfl
      refine ⟨vp_in_nI q (by omega), ?_⟩
      rintro N2 rfl
      refine Mk_price_ok hm ⟨vp_in_nI q (by omega), ?_⟩
      rintro N3 rfl N4 rfl
      rw [if_pos e] at h
      subst e
      have hmp := mprice_le m
      rw [nI_clamp (by omega)]
      refine h79 gl.length _ (gl ++ [(m, 0, mprice m)]) (by simp) (by omega) ⟨?_, fun i hi => ?_⟩ ⟨(((FR.uI (by omega) (by omega)).trans (FR.uI (by omega) (by omega))).trans (FR.uI (by omega) (by omega))).trans (FR.uI (by omega) (by omega)), ?_, ?_⟩ (by rw [g3_app2 (Nat.le_refl _), Nat.sub_self]; exact hmp) (fun M2 hG2 hK2 => h M2 ?_ hK2)
      · rw [uI_s, uI_n (by omega), uI_n (by omega), uI_n (by omega), hG.1, List.length_append, List.length_singleton]
        exact nI_1 _
      · rw [List.length_append, List.length_singleton] at hi
        by_cases e2 : i = gl.length
        · subst e2
          simp (disch := omega) only [uI_n, uI_k, uI_s, g3_app2 (Nat.le_refl _), Nat.sub_self]
          exact ⟨rfl, rfl, rfl⟩
        · simp (disch := omega) only [uI_n, uI_k, uI_s, g3_app1]
          exact hG.2 i (by omega)
      · rw [uI_k (by omega), uI_n (by omega), uI_n (by omega), uI_n (by omega)]
      · rw [uI_n (by omega), uI_n (by omega), uI_n (by omega), uI_n (by omega)]
      · rw [g3_app2 (Nat.le_refl _), Nat.sub_self] at hG2
        have e3 : (gl ++ [(m, 0, mprice m)]).set gl.length ((g3 [(m, 0, mprice m)] 0).1, (g3 [(m, 0, mprice m)] 0).2.1 + 1, min (mprice m) (g3 [(m, 0, mprice m)] 0).2.2) = gl ++ [(m, 1, mprice m)] := by
          rw [List.set_append_right _ _ (Nat.le_refl _), Nat.sub_self]
          simp [g3]
        rw [e3] at hG2
        exact hG2
    · rw [if_neg e] at h
      have hjlt : j < gl.length := by omega
      exact h79 j M gl hjlt q hG KG.rf (hb.2 _ (g3_mem hjlt)).2.2 h
  have h2 : ∀ (k j : Nat), j + k = gl.length → fdG rs gl m k j = fdG rs gl m gl.length 0 → wp zX m_Ft_joinGroup (QV Q) 2 [(0, .ref 46), (1, .int (nI m)), (2, .int (nI j))] [] M := by
    intro k
    induction k with
    | zero =>
      intro j hj he
      refine b_Ft_joinGroup_2 ?_
      rw [hG.1]
      exact pk_le gl.length j (fun _ => h30 j he) (fun q => absurd q (by omega))
    | succ k ih =>
      intro j hj he
      rw [show fdG rs gl m (k + 1) j = (if sme rs (g3 gl j).1 m rs.length 0 then j else fdG rs gl m k (j + 1)) from rfl] at he
      refine b_Ft_joinGroup_2 ?_
      rw [hG.1]
      refine pk_le gl.length j (fun q => absurd q (by omega)) (fun q => ⟨vp_in_nI (by omega) (by omega), ?_⟩)
      rw [nI_clamp (by omega), (hG.2 j q).1]
      refine Ft_tellSame_ok hv hF (hb.2 _ (g3_mem q)).1 hm ?_
      cases hs : sme rs (g3 gl j).1 m rs.length 0 with
      | true =>
        rw [hs] at he
        exact br_f (by decide) (h30 j he)
      | false =>
        rw [hs] at he
        refine br_t rfl ?_
        rw [nI_1]
        exact ih (j + 1) (by omega) he
  exact e_Ft_joinGroup (h2 gl.length 0 (by omega) rfl)
/-- the groups of all marks -/
def gpF (rs : RS) : Nat → Nat → List T3 → List T3
  | 0, _, gl => gl
  | k + 1, m, gl => gpF rs k (m + 1) (if tld rs m rs.length 0 then jnG rs gl m else gl)
def grp (rs : RS) : List T3 := gpF rs 62 0 []
/-- groups out of the first m marks -/
def GM (gl : List T3) (m : Nat) : Prop := gl.length ≤ m ∧ ∀ g, g ∈ gl → g.1 < 62 ∧ g.2.1 ≤ m ∧ g.2.2 ≤ 3
theorem jnG_GM {gl : List T3} {m : Nat} (h : GM gl m) (hm : m < 62) : GM (jnG rs gl m) (m + 1) := by
  have hmp := mprice_le m
  unfold jnG
  split
  · refine ⟨by simp; exact h.1, fun g hg => ?_⟩
    rcases List.mem_append.mp hg with q | q
    · have := h.2 g q
      exact ⟨this.1, by omega, this.2.2⟩
    · rw [List.mem_singleton.mp q]
      exact ⟨hm, by show 1 ≤ m + 1; omega, hmp⟩
  · rename_i hne
    have hle := fdG_le rs gl m gl.length 0
    have hlt : fdG rs gl m gl.length 0 < gl.length := by omega
    refine ⟨by rw [List.length_set]; have := h.1; omega, fun g hg => ?_⟩
    rcases List.mem_or_eq_of_mem_set hg with q | q
    · have := h.2 g q
      exact ⟨this.1, by omega, this.2.2⟩
    · have := h.2 _ (g3_mem hlt)
      rw [q]
      exact ⟨this.1, by show _ + 1 ≤ m + 1; omega, by show min _ _ ≤ 3; omega⟩
theorem gpF_GM : ∀ (k m : Nat) (gl : List T3), m + k = 62 → GM gl m → GM (gpF rs k m gl) 62
  | 0, m, gl, h, g => by
    rw [show m = 62 by omega] at g
    exact g
  | k + 1, m, gl, h, g => by
    unfold gpF
    refine gpF_GM k (m + 1) _ (by omega) ?_
    split
    · exact jnG_GM g (by omega)
    · exact ⟨by have := g.1; omega, fun x hx => by have := g.2 x hx; exact ⟨this.1, by omega, this.2.2⟩⟩
theorem grp_GB (rs : RS) : GB (grp rs) := gpF_GM 62 0 [] rfl ⟨Nat.le_refl _, fun g hg => by cases hg⟩
theorem Ft_groupMarks_ok (hv : VR rs) (hF : FT M rs) {Q : Mem → Prop} (h : ∀ M', GR M' (grp rs) → KG M M' → Q M') : CallV zX m_Ft_groupMarks [.ref 46] M Q := by
  have key : ∀ (k m : Nat) (gl : List T3) (M' : Mem), m + k = 62 → GM gl m → GR M' gl → KG M M' → gpF rs k m gl = grp rs → wp zX m_Ft_groupMarks (QV Q) 7 [(0, .ref 46), (1, .int (nI m))] [] M' := by
    intro k
    induction k with
    | zero =>
      intro m gl M' hm hg hG hK he
      refine b_Ft_groupMarks_7 (pk_le 62 m (fun _ => h M' ?_ hK) (fun q => absurd q (by omega)))
      rw [← he]
      exact hG
    | succ k ih =>
      intro m gl M' hm hg hG hK he
      unfold gpF at he
      refine b_Ft_groupMarks_7 (pk_le 62 m (fun q => absurd q (by omega)) (fun q => ?_))
      refine Ft_isToldInAll_ok hv (hK.FT hF) q ?_
      rw [nI_1]
      cases ht : tld rs m rs.length 0 with
      | true =>
        rw [ht] at he
        refine br_f (by decide) ?_
        have g1 := hg.1
        refine Ft_joinGroup_ok hv (hK.FT hF) hG ⟨by omega, fun g hgm => ?_⟩ (by omega) (fun g hgm => ?_) q (fun M2 hG2 hK2 => ?_)
        · have := hg.2 g hgm
          exact ⟨this.1, by omega, this.2.2⟩
        · have := hg.2 g hgm
          omega
        · exact ih (m + 1) _ M2 (by omega) (jnG_GM hg (by omega)) hG2 (hK.trans hK2) he
      | false =>
        rw [ht] at he
        refine br_t rfl ?_
        exact ih (m + 1) gl M' (by omega) ⟨by have := hg.1; omega, fun x hx => by have := hg.2 x hx; exact ⟨this.1, by omega, this.2.2⟩⟩ hG hK he
  refine e_Ft_groupMarks ?_
  rintro N rfl
  exact key 62 0 [] _ rfl ⟨Nat.le_refl _, fun g hg => by cases hg⟩ ⟨uI_s, fun i hi => absurd hi (Nat.not_lt_zero i)⟩ ⟨FR.uI (by omega) (by omega), by rw [uI_k (by omega)], by rw [uI_n (by omega)]⟩ rfl
end ZF2
