/-! Fitting: counting and weighing -/
def WY (M : Mem) (c : Nat) (w : Nat → Nat) : Prop := ∀ t, t < 1296 → M.2 c t = lN (w t)
def addw (w : Nat → Nat) (t v : Nat) : Nat → Nat := fun u => if u = t then w u + v else w u
def adds (ws : Nat) (mv : List T3) (w : Nat → Nat) : Nat → Nat := mv.foldl (fun w e => addw w e.1 (ws * e.2.1)) w
def dpF (rs : RS) (gl : List T3) : Nat → Nat → (Nat → Nat) → (Nat → Nat)
  | 0, _, w => w
  | k + 1, s, w => dpF rs gl k (s + 1) (if lN (w s) = 0 then w else adds (w s) (mvs rs s gl) w)
def w0 : Nat → Nat := fun t => if t = 0 then 1 else 0
theorem WY.fr {M M' : Mem} {lo hi c : Nat} {w : Nat → Nat} (h : WY M c w) (f : FR lo hi M M') (h1 : hi ≤ c ∨ c < lo) : WY M' c w := fun t ht => by
  rw [(f c (by omega)).2]
  exact h t ht
theorem lg_cmp_0 (x : Int64) : lg_cmp x 0 = 0 ↔ x = 0 := by
  unfold lg_cmp
  split
  · rename_i h
    refine ⟨fun q => absurd q (by decide), fun q => ?_⟩
    subst q
    exact absurd h (by decide)
  · split
    · rename_i h
      exact ⟨fun _ => h, fun _ => rfl⟩
    · rename_i h
      exact ⟨fun q => absurd q (by decide), fun q => absurd q h⟩
theorem mvC_mem {rs : RS} {s : Nat} {f g x : T3} (h : mvC rs s f g = some x) : ∃ t, ctT rs s f.1 g.1 = some t ∧ x = (t, f.2.1 * g.2.1, f.2.2 + g.2.2 + 1) := by
  unfold mvC at h
  rw [Option.map_eq_some_iff] at h
  obtain ⟨t, h1, h2⟩ := h
  exact ⟨t, h1, h2.symm⟩
theorem txL_mem {rs : RS} {s : Nat} {x : T3} : ∀ k n, x ∈ txL rs s k n → ∃ j, n ≤ j ∧ j < n + k ∧ x = (txT rs s j, 1, 2 * j + 2)
  | 0, n, h => by cases h
  | k + 1, n, h => by
    rcases List.mem_cons.mp h with rfl | h
    · exact ⟨n, Nat.le_refl _, by omega, rfl⟩
    · obtain ⟨j, h1, h2, h3⟩ := txL_mem k (n + 1) h
      exact ⟨j, by omega, by omega, h3⟩
theorem mvs_mem {rs : RS} {s : Nat} {gl : List T3} {x : T3} (h : x ∈ mvs rs s gl) : (∃ f g t, f ∈ gl ∧ g ∈ gl ∧ cbg rs s f.1 rs.length 0 = true ∧ ctT rs s f.1 g.1 = some t ∧ x = (t, f.2.1 * g.2.1, f.2.2 + g.2.2 + 1)) ∨ (∃ j, 0 < j ∧ j ≤ lgT rs s ∧ x = (txT rs s j, 1, 2 * j + 2)) := by
  rcases List.mem_append.mp h with h | h
  · left
    obtain ⟨f, hf, hx⟩ := List.mem_flatMap.mp h
    split at hx
    · rename_i hc
      obtain ⟨g, hg, hm⟩ := List.mem_filterMap.mp hx
      obtain ⟨t, h1, h2⟩ := mvC_mem hm
      exact ⟨f, g, t, hf, hg, hc, h1, h2⟩
    · cases hx
  · right
    obtain ⟨j, h1, h2, h3⟩ := txL_mem _ _ h
    exact ⟨j, by omega, by omega, h3⟩
theorem mvs_b {rs : RS} (hv : VR rs) (h0 : 0 < rs.length) {s : Nat} {gl : List T3} (hb : GB gl) {x : T3} (h : x ∈ mvs rs s gl) : s < x.1 ∧ x.1 < s + 1296 ∧ x.2.1 < 2 ^ 31 ∧ x.2.2 < 100 := by
  rcases mvs_mem h with ⟨f, g, t, hf, hg, -, hc, rfl⟩ | ⟨j, h1, h2, rfl⟩
  · have b := ctT_b hv hc
    have bf := hb.2 f hf
    have bg := hb.2 g hg
    have hm : f.2.1 * g.2.1 ≤ 62 * 62 := Nat.mul_le_mul bf.2.1 bg.2.1
    refine ⟨b.2 h0, b.1, ?_, ?_⟩
    · show f.2.1 * g.2.1 < _
      omega
    · show f.2.2 + g.2.2 + 1 < 100
      omega
  · have hlg := lgT_le rs s
    have b := txT_b hv (s := s) (n := j) (by omega)
    refine ⟨b.2 h0 h1, b.1, ?_, ?_⟩
    · show 1 < _
      omega
    · show 2 * j + 2 < 100
      omega
section ZF4
variable {M : Mem} {rs : RS}
theorem Ft_addWays_ok {w : Nat → Nat} (hW : WY M 56 w) {t v : Nat} (ht : t < 10000) {Q : Mem → Prop} (h : ∀ M', WY M' 56 (addw w t v) → FR 56 57 M M' → M'.1 = M.1 → Q M') : CallV zX m_Ft_addWays [.ref 46, .int (nI t), .long (lN v)] M Q := by
  refine e_Ft_addWays (pk_lt t 0 (fun q => absurd q (by omega)) (fun _ => pk_le 1296 t (fun q => ?_) (fun q => ⟨vp_in_nI q (by omega), vp_in_nI q (by omega), ?_⟩)))
  · refine h M (fun u hu => ?_) FR.rf rfl
    rw [hW u hu, addw, if_neg (by omega)]
  · rintro N rfl
    rw [nI_clamp (by omega), hW t q, lN_add]
    refine h _ (fun u hu => ?_) (FR.uL (by omega) (by omega)) rfl
    by_cases e : u = t
    · subst e
      rw [uL_s, addw, if_pos rfl]
    · rw [uL_k e, addw, if_neg e]
      exact hW u hu
/-- what holds while counting goes on -/
def KC (M M' : Mem) (rs : RS) (gl : List T3) : Prop := FT M' rs ∧ GR M' gl ∧ FR 48 57 M M' ∧ M'.1 49 = M.1 49
theorem Ft_count_inner (hv : VR rs) (h0 : 0 < rs.length) {gl : List T3} (hb : GB gl) {s e : Nat} (hs : s < 1296) (he : e < 1296) {Q : Int64 → Mem → Prop} {M0 : Mem} {ws : Nat} (mv : List T3) (hlen : mv.length ≤ 3849) (hmb : ∀ x, x ∈ mv → s < x.1 ∧ x.1 < s + 1296 ∧ x.2.1 < 2 ^ 31) {wE : Nat → Nat}
    (kk : ∀ M', WY M' 56 wE → KC M0 M' rs gl → wp zX m_Ft_count (QL Q) 40 [(0, .ref 46), (1, .int (nI e)), (2, .int (nI (s + 1)))] [] M') :
    ∀ (k i : Nat) (M' : Mem) (w : Nat → Nat), i + k = mv.length → MV M' mv → KC M0 M' rs gl → WY M' 56 w → w s = ws → (mv.drop i).foldl (fun w e => addw w e.1 (ws * e.2.1)) w = wE → wp zX m_Ft_count (QL Q) 63 [(0, .ref 46), (1, .int (nI e)), (2, .int (nI s)), (3, .int (nI i))] [] M' := by
  intro k
  induction k with
  | zero =>
    intro i M' w hi hM hK hW hws hE
    refine b_Ft_count_63 (Mv_many_ok hM (pk_le mv.length i (fun _ => ?_) (fun q => absurd q (by omega))))
    rw [List.drop_eq_nil_of_le (by omega), List.foldl_nil] at hE
    rw [nI_1]
    exact kk M' (by rw [← hE]; exact hW) hK
  | succ k ih =>
    intro i M' w hi hM hK hW hws hE
    refine b_Ft_count_63 (Mv_many_ok hM (pk_le mv.length i (fun q => absurd q (by omega)) (fun q => ?_)))
    have hx := hmb _ (g3_mem q)
    refine Mv_target_ok hM hlen q ⟨vp_in_nI hs (by omega), Mv_pieces_ok hM hlen q ?_⟩
    rw [nI_clamp (by omega), hW s hs, hws, nI_l hx.2.2, lN_mul, nI_1]
    refine Ft_addWays_ok hW (by omega) (fun M2 hW2 f2 e1 => ?_)
    rw [drop_g3 q, List.foldl_cons] at hE
    refine ih (i + 1) M2 _ (by omega) (hM.fr f2 (by omega)) ⟨hK.1.fr hv.1 f2 (by omega) (by omega), hK.2.1.fr f2 (by omega), hK.2.2.1.trans (f2.mono (by omega) (by omega)), by rw [e1]; exact hK.2.2.2⟩ hW2 ?_ hE
    rw [addw, if_neg (by omega)]
    exact hws
theorem Ft_count_ok (hv : VR rs) (h0 : 0 < rs.length) (hF : FT M rs) {Q : Int64 → Mem → Prop} (h : ∀ M', WY M' 56 (dpF rs (grp rs) (enT rs) 0 w0) → FT M' rs → GR M' (grp rs) → FR 46 57 M M' → Q (lN (dpF rs (grp rs) (enT rs) 0 w0 (enT rs))) M') : CallL zX m_Ft_count [.ref 46] M Q := by
  have hb := grp_GB rs
  have he := enT_b hv
  have hk := hv.1
  refine e_Ft_count (Ft_groupMarks_ok hv hF (fun M1 hG1 hK1 => ?_))
  have hF1 := hK1.FT hF
  have k40 : ∀ (k s : Nat) (M' : Mem) (w : Nat → Nat), s + k = enT rs → WY M' 56 w → KC M1 M' rs (grp rs) → dpF rs (grp rs) k s w = dpF rs (grp rs) (enT rs) 0 w0 → wp zX m_Ft_count (QL Q) 40 [(0, .ref 46), (1, .int (nI (enT rs))), (2, .int (nI s))] [] M' := by
    intro k
    induction k with
    | zero =>
      intro s M' w hs hW hK hE
      refine b_Ft_count_40 (pk_le (enT rs) s (fun _ => ⟨vp_in_nI he (by omega), ?_⟩) (fun q => absurd q (by omega)))
      rw [nI_clamp (by omega), hW _ he]
      rw [dpF] at hE
      subst hE
      exact h M' hW hK.1 hK.2.1 ((hK1.1.mono (by omega) (by omega)).trans (hK.2.2.1.mono (by omega) (by omega)))
    | succ k ih =>
      intro s M' w hs hW hK hE
      rw [dpF] at hE
      refine b_Ft_count_40 (pk_le (enT rs) s (fun q => absurd q (by omega)) (fun q => ⟨vp_in_nI (by omega) (by omega), ?_⟩))
      rw [nI_clamp (by omega), hW s (by omega)]
      refine ⟨fun c => ?_, fun c => ?_⟩
      · rw [if_pos ((lg_cmp_0 _).mp c)] at hE
        rw [nI_1]
        exact ih (s + 1) M' w (by omega) hW hK hE
      · rw [if_neg (fun z => c ((lg_cmp_0 _).mpr z))] at hE
        refine Ft_listMoves_ok hv h0 hK.1 (by omega) hK.2.1 hb (fun M2 hM2 hF2 hG2 hR2 f2 e2 => ?_)
        have hW2 : WY M2 56 w := hW.fr f2 (by omega)
        have hbs : ∀ x, x ∈ mvs rs s (grp rs) → s < x.1 ∧ x.1 < s + 1296 ∧ x.2.1 < 2 ^ 31 := fun x hx => by
          have := mvs_b hv h0 hb hx
          exact ⟨this.1, this.2.1, this.2.2.1⟩
        refine Ft_count_inner hv h0 hb (by omega) he (mvs rs s (grp rs)) (mvs_len rs s _ hb.1) hbs (M0 := M1) (fun M3 hW3 hK3 => ih (s + 1) M3 _ (by omega) hW3 hK3 hE) (mvs rs s (grp rs)).length 0 M2 w (by omega) hM2 ⟨hF2, hG2, hK.2.2.1.trans (f2.mono (by omega) (by omega)), by rw [e2]; exact hK.2.2.2⟩ hW2 rfl rfl
  have k6 : ∀ (k i : Nat) (M' : Mem), i + k = 1296 → (∀ t, t < i → M'.2 56 t = 0) → FR 56 57 M1 M' → M'.1 = M1.1 → wp zX m_Ft_count (QL Q) 6 [(0, .ref 46), (1, .int (nI i))] [] M' := by
    intro k
    induction k with
    | zero =>
      intro i M' hi hz f e1
      refine b_Ft_count_6 (pk_le 1296 i (fun _ => ⟨vp_in_nI (n := 0) (by omega) (by omega), ?_⟩) (fun q => absurd q (by omega)))
      rintro N rfl
      have f2 : FR 56 57 M1 (uL M' 56 (0 : Int32).toNatClampNeg 1) := f.trans (FR.uL (by omega) (by omega))
      have hF2 := hF1.fr hv.1 f2 (by omega) (by omega)
      refine Ft_lastState_ok hv hF2 ?_
      refine k40 (enT rs) 0 _ w0 (by omega) (fun t ht => ?_) ⟨hF2, hG1.fr f2 (by omega), f2.mono (by omega) (by omega), by rw [uL_1, e1]⟩ rfl
      by_cases e : t = 0
      · subst e
        exact uL_s
      · rw [show (uL M' 56 (0 : Int32).toNatClampNeg 1).2 56 t = M'.2 56 t from uL_k e, hz t (by omega), w0, if_neg e]
        rfl
    | succ k ih =>
      intro i M' hi hz f e1
      refine b_Ft_count_6 (pk_le 1296 i (fun q => absurd q (by omega)) (fun q => ⟨vp_in_nI q (by omega), ?_⟩))
      rintro N rfl
      rw [nI_clamp (by omega), nI_1]
      refine ih (i + 1) _ (by omega) (fun t ht => ?_) (f.trans (FR.uL (by omega) (by omega))) (by rw [uL_1, e1])
      by_cases e : t = i
      · subst e
        exact uL_s
      · rw [uL_k e]
        exact hz t (by omega)
  exact k6 1296 0 M1 rfl (fun t ht => absurd ht (Nat.not_lt_zero t)) FR.rf rfl
end ZF4
