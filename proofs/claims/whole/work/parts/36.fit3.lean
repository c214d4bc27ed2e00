/-! Fitting: the moves from a state, and the count -/
def mvC (rs : RS) (s : Nat) (f g : T3) : Option T3 := (ctT rs s f.1 g.1).map (fun t => (t, f.2.1 * g.2.1, f.2.2 + g.2.2 + 1))
def cutL (rs : RS) (s : Nat) (gl : List T3) (f : T3) : List T3 := gl.filterMap (mvC rs s f)
def allC (rs : RS) (s : Nat) (gl fl : List T3) : List T3 := fl.flatMap (fun f => if cbg rs s f.1 rs.length 0 then cutL rs s gl f else [])
def txL (rs : RS) (s : Nat) : Nat → Nat → List T3
  | 0, _ => []
  | k + 1, n => (txT rs s n, 1, 2 * n + 2) :: txL rs s k (n + 1)
def mvs (rs : RS) (s : Nat) (gl : List T3) : List T3 := allC rs s gl gl ++ txL rs s (lgT rs s) 1
theorem lgF_le (rs : RS) (s : Nat) : ∀ k e, lgF rs s k e ≤ e + k
  | 0, e => Nat.le_refl _
  | k + 1, e => by
    unfold lgF
    split
    · have := lgF_le rs s k (e + 1)
      omega
    · omega
theorem lgT_le (rs : RS) (s : Nat) : lgT rs s ≤ 5 := lgF_le rs s 5 0
theorem txL_len (rs : RS) (s : Nat) : ∀ k n, (txL rs s k n).length = k
  | 0, _ => rfl
  | k + 1, n => by
    show (txL rs s k (n + 1)).length + 1 = k + 1
    rw [txL_len rs s k (n + 1)]
theorem cutL_len (rs : RS) (s : Nat) (gl : List T3) (f : T3) : (cutL rs s gl f).length ≤ gl.length := List.length_filterMap_le _ _
theorem allC_len (rs : RS) (s : Nat) (gl : List T3) (hg : gl.length ≤ 62) : ∀ fl : List T3, (allC rs s gl fl).length ≤ 62 * fl.length
  | [] => Nat.le_refl _
  | f :: fl => by
    have ih := allC_len rs s gl hg fl
    unfold allC at ih ⊢
    rw [List.flatMap_cons, List.length_append, List.length_cons]
    have h1 : (if cbg rs s f.1 rs.length 0 then cutL rs s gl f else []).length ≤ 62 := by
      split
      · exact Nat.le_trans (cutL_len rs s gl f) hg
      · exact Nat.zero_le _
    omega
theorem mvs_len (rs : RS) (s : Nat) (gl : List T3) (hg : gl.length ≤ 62) : (mvs rs s gl).length ≤ 3849 := by
  unfold mvs
  rw [List.length_append, txL_len]
  have := allC_len rs s gl hg gl
  have := lgT_le rs s
  omega
theorem ctF_b {rs : RS} (hv : ∀ i, i < rs.length → (rt rs i).length ≤ 5) (s m1 m2 : Nat) : ∀ (k i acc t : Nat), i + k = rs.length → ctF rs s m1 m2 k i acc = some t → t + 6 ^ i ≤ acc + 6 ^ (i + k) ∧ acc ≤ t ∧ (0 < k → acc < t)
  | 0, i, acc, t, _, h => by
    simp only [ctF, Option.some.injEq] at h
    subst h
    exact ⟨Nat.le_refl _, Nat.le_refl _, fun q => absurd q (by omega)⟩
  | k + 1, i, acc, t, hk, h => by
    rw [ctF] at h
    split at h
    · cases h
    · rename_i hne
      have h5 := hv i (by omega)
      have hc := ctl_le (ln rs i) (rt rs i) m1 m2 (dg s i)
      generalize ctl (ln rs i) (rt rs i) m1 m2 (dg s i) = c at h hne hc
      have ih := ctF_b hv s m1 m2 k (i + 1) _ t (by omega) h
      rw [Nat.pow_succ, show i + 1 + k = i + (k + 1) by omega] at ih
      have hp : 0 < 6 ^ i := Nat.pow_pos (by omega)
      have hm : c * 6 ^ i ≤ 5 * 6 ^ i := Nat.mul_le_mul_right _ (by omega)
      have hm2 : 1 * 6 ^ i ≤ c * 6 ^ i := Nat.mul_le_mul_right _ (by omega)
      generalize c * 6 ^ i = z at ih hm hm2
      generalize 6 ^ i = y at ih hm hm2 hp ⊢
      generalize 6 ^ (i + (k + 1)) = x at ih ⊢
      omega
theorem ctT_b {rs : RS} (hv : VR rs) {s m1 m2 t : Nat} (h : ctT rs s m1 m2 = some t) : t < s + 1296 ∧ (0 < rs.length → s < t) := by
  have hk := hv.1
  have b := ctF_b (fun i hi => (hv.2 i hi).2) s m1 m2 rs.length 0 s t (by omega) h
  have hp : 6 ^ (0 + rs.length) ≤ 6 ^ 4 := Nat.pow_le_pow_right (by omega) (by omega)
  rw [show (6 : Nat) ^ 4 = 1296 from rfl] at hp
  rw [Nat.pow_zero] at b
  generalize 6 ^ (0 + rs.length) = x at b hp
  exact ⟨by omega, fun q => by have := b.2.2 q; omega⟩
theorem txF_b {n : Nat} (hn : n ≤ 5) (k0 : Nat) : ∀ (k i acc : Nat), txF k0 n k i acc + 6 ^ i ≤ acc + 6 ^ (i + k) ∧ acc ≤ txF k0 n k i acc ∧ (0 < k → 0 < n → acc < txF k0 n k i acc)
  | 0, i, acc => ⟨Nat.le_refl _, Nat.le_refl _, fun q => absurd q (by omega)⟩
  | k + 1, i, acc => by
    rw [txF]
    have ih := txF_b hn k0 k (i + 1) (acc + n * 6 ^ i)
    rw [Nat.pow_succ, show i + 1 + k = i + (k + 1) by omega] at ih
    have hp : 0 < 6 ^ i := Nat.pow_pos (by omega)
    have hm : n * 6 ^ i ≤ 5 * 6 ^ i := Nat.mul_le_mul_right _ hn
    generalize hz : n * 6 ^ i = z at ih hm ⊢
    generalize 6 ^ (i + (k + 1)) = x at ih ⊢
    refine ⟨?_, by omega, fun _ q => ?_⟩
    · generalize 6 ^ i = y at ih hm hp ⊢
      omega
    · have : 0 < z := by rw [← hz]; exact Nat.mul_pos q hp
      omega
theorem txT_b {rs : RS} (hv : VR rs) {s n : Nat} (hn : n ≤ 5) : txT rs s n < s + 1296 ∧ (0 < rs.length → 0 < n → s < txT rs s n) := by
  have hk := hv.1
  have b := txF_b hn rs.length rs.length 0 s
  have hp : 6 ^ (0 + rs.length) ≤ 6 ^ 4 := Nat.pow_le_pow_right (by omega) (by omega)
  rw [show (6 : Nat) ^ 4 = 1296 from rfl] at hp
  rw [Nat.pow_zero] at b
  unfold txT
  generalize 6 ^ (0 + rs.length) = x at b hp
  exact ⟨by omega, b.2.2⟩
section ZF3
variable {M : Mem} {rs : RS}
theorem Ft_listCuts_ok (hv : VR rs) (hF : FT M rs) {s : Nat} (hs : s < 1296) (hR : RC M rs s) {gl : List T3} (hG : GR M gl) (hb : GB gl) {mv : List T3} (hM : MV M mv) (hl : mv.length + gl.length ≤ 3849) {i : Nat} (hi : i < gl.length) {Q : Mem → Prop} (h : ∀ M', MV M' (mv ++ cutL rs s gl (g3 gl i)) → FR 52 56 M M' → Q M') : CallV zX m_Ft_listCuts [.ref 46, .int (nI s), .int (nI i)] M Q := by
  have hb1 := hb.1
  have key : ∀ (k j : Nat) (M' : Mem) (mv' : List T3), j + k = gl.length → MV M' mv' → mv'.length + k ≤ 3849 → FR 52 56 M M' → mv' ++ (gl.drop j).filterMap (mvC rs s (g3 gl i)) = mv ++ cutL rs s gl (g3 gl i) → wp zX m_Ft_listCuts (QV Q) 2 [(0, .ref 46), (1, .int (nI s)), (2, .int (nI i)), (3, .int (nI j))] [] M' := by
    intro k
    induction k with
    | zero =>
      intro j M' mv' hj hM' hl' f he
      have hG' := hG.fr f (by omega)
      refine b_Ft_listCuts_2 ?_
      rw [hG'.1]
      refine pk_le gl.length j (fun _ => h M' ?_ f) (fun q => absurd q (by omega))
      rw [List.drop_eq_nil_of_le (by omega), List.filterMap_nil, List.append_nil] at he
      rw [← he]
      exact hM'
    | succ k ih =>
      intro j M' mv' hj hM' hl' f he
      have hG' := hG.fr f (by omega)
      have hF' := hF.fr hv.1 f (by omega) (by omega)
      have hR' := hR.fr f (by omega)
      refine b_Ft_listCuts_2 ?_
      rw [hG'.1]
      refine pk_le gl.length j (fun q => absurd q (by omega)) (fun q => ⟨vp_in_nI (by omega) (by omega), vp_in_nI (by omega) (by omega), ?_⟩)
      rw [drop_g3 q, List.filterMap_cons] at he
      rw [nI_clamp (by omega), nI_clamp (by omega), (hG'.2 i hi).1, (hG'.2 j q).1, nI_1]
      refine Ft_cutTarget_ok hv hF' hR' (hb.2 _ (g3_mem hi)).1 (hb.2 _ (g3_mem q)).1 ?_
      cases hc : ctT rs s (g3 gl i).1 (g3 gl j).1 with
      | none =>
        have e0 : mvC rs s (g3 gl i) (g3 gl j) = none := by unfold mvC; rw [hc]; rfl
        rw [e0] at he
        exact br_t rfl (ih (j + 1) M' mv' (by omega) hM' (by omega) f he)
      | some t =>
        have e0 : mvC rs s (g3 gl i) (g3 gl j) = some (t, (g3 gl i).2.1 * (g3 gl j).2.1, (g3 gl i).2.2 + (g3 gl j).2.2 + 1) := by unfold mvC; rw [hc]; rfl
        rw [e0] at he
        · refine br_f (nI_ne6 (by have := (ctT_b hv hc).1; omega)) ⟨vp_in_nI (by omega) (by omega), vp_in_nI (by omega) (by omega), ?_⟩
          rw [(hG'.2 i hi).2.2, (hG'.2 j q).2.2]
          refine e_Pc_cutPrice ⟨vp_in_nI (by omega) (by omega), vp_in_nI (by omega) (by omega), ?_⟩
          rw [(hG'.2 i hi).2.1, (hG'.2 j q).2.1, pk_mul, nI_add, nI_1]
          refine Mv_add_ok hM' (by omega) (fun M2 hM2 f2 => ?_)
          refine ih (j + 1) M2 _ (by omega) hM2 (by rw [List.length_append, List.length_singleton]; omega) (f.trans f2) ?_
          rw [← he, List.append_assoc]
          rfl
  exact e_Ft_listCuts (key gl.length 0 M mv (by omega) hM hl FR.rf rfl)
theorem allC_cons (s : Nat) (gl : List T3) (f : T3) (fl : List T3) : allC rs s gl (f :: fl) = (if cbg rs s f.1 rs.length 0 then cutL rs s gl f else []) ++ allC rs s gl fl := by
  unfold allC
  rw [List.flatMap_cons]
theorem Ft_listMoves_ok (hv : VR rs) (h0 : 0 < rs.length) (hF : FT M rs) {s : Nat} (hs : s < 1296) {gl : List T3} (hG : GR M gl) (hb : GB gl) {Q : Mem → Prop} (h : ∀ M', MV M' (mvs rs s gl) → FT M' rs → GR M' gl → RC M' rs s → FR 48 56 M M' → M'.1 49 = M.1 49 → Q M') : CallV zX m_Ft_listMoves [.ref 46, .int (nI s)] M Q := by
  have hb1 := hb.1
  refine e_Ft_listMoves (Mv_clear_ok (fun M1 hM1 f1 => ?_))
  have hF1 := hF.fr hv.1 f1 (by omega) (by omega)
  have hG1 := hG.fr f1 (by omega)
  refine Ft_reach_ok hv hF1 (by omega) (fun M2 hR2 f2 => ?_)
  have hF2 := hF1.fr hv.1 f2 (by omega) (by omega)
  have hG2 := hG1.fr2 f2
  have hM2 := hM1.fr f2 (by omega)
  have k49 : ∀ M', FR 52 56 M2 M' → M'.1 49 = M.1 49 := fun M' f => by rw [(f 49 (by omega)).1, (f2 49 (by omega)).1, (f1 49 (by omega)).1]
  have kFR : ∀ M', FR 52 56 M2 M' → FR 48 56 M M' := fun M' f => ((f1.mono (by omega) (by omega)).trans (f2.mono (by omega) (by omega))).trans (f.mono (by omega) (by omega))
  have k54 : ∀ (k n : Nat) (M' : Mem) (mv' : List T3), n + k = lgT rs s + 1 → 0 < n → MV M' mv' → mv'.length + k ≤ 3849 → FR 52 56 M2 M' → mv' ++ txL rs s k n = mvs rs s gl → wp zX m_Ft_listMoves (QV Q) 54 [(0, .ref 46), (1, .int (nI s)), (2, .int (nI (lgT rs s))), (3, .int (nI n))] [] M' := by
    have hlg := lgT_le rs s
    intro k
    induction k with
    | zero =>
      intro n M' mv' hn hn0 hM' hl' f he
      refine b_Ft_listMoves_54 (pk_lt (lgT rs s) n (fun _ => ?_) (fun q => absurd q (by omega)))
      rw [txL, List.append_nil] at he
      exact h M' (by rw [← he]; exact hM') (hF2.fr hv.1 f (by omega) (by omega)) (hG2.fr f (by omega)) (hR2.fr f (by omega)) (kFR M' f) (k49 M' f)
    | succ k ih =>
      intro n M' mv' hn hn0 hM' hl' f he
      refine b_Ft_listMoves_54 (pk_lt (lgT rs s) n (fun q => absurd q (by omega)) (fun q => ?_))
      refine Ft_textTarget_ok hv (hF2.fr hv.1 f (by omega) (by omega)) (e_Pc_textPrice ?_)
      rw [show (2 * nI n) + 2 = nI (2 * n + 2) from by rw [show (2 : Int32) * nI n = nI (2 * n) from pk_mul 2 n]; exact nI_add (2 * n) 2, nI_1]
      refine Mv_add_ok (b := 1) hM' (by omega) (fun M3 hM3 f3 => ?_)
      refine ih (n + 1) M3 _ (by omega) (by omega) hM3 (by rw [List.length_append, List.length_singleton]; omega) (f.trans f3) ?_
      rw [← he, List.append_assoc]
      rfl
  have k14 : ∀ (k i : Nat) (M' : Mem) (mv' : List T3), i + k = gl.length → MV M' mv' → mv'.length ≤ 62 * i → FR 52 56 M2 M' → mv' ++ (allC rs s gl (gl.drop i) ++ txL rs s (lgT rs s) 1) = mvs rs s gl → wp zX m_Ft_listMoves (QV Q) 14 [(0, .ref 46), (1, .int (nI s)), (2, .int (nI i))] [] M' := by
    have hlg := lgT_le rs s
    intro k
    induction k with
    | zero =>
      intro i M' mv' hi hM' hl' f he
      have hG' := hG2.fr f (by omega)
      refine b_Ft_listMoves_14 ?_
      rw [hG'.1]
      refine pk_le gl.length i (fun _ => ?_) (fun q => absurd q (by omega))
      rw [List.drop_eq_nil_of_le (by omega)] at he
      refine Ft_longestText_ok hv h0 (hF2.fr hv.1 f (by omega) (by omega)) (hR2.fr f (by omega)) ?_
      exact k54 (lgT rs s) 1 M' mv' (by omega) (by omega) hM' (by omega) f he
    | succ k ih =>
      intro i M' mv' hi hM' hl' f he
      have hG' := hG2.fr f (by omega)
      have hF' := hF2.fr hv.1 f (by omega) (by omega)
      have hR' := hR2.fr f (by omega)
      refine b_Ft_listMoves_14 ?_
      rw [hG'.1]
      refine pk_le gl.length i (fun q => absurd q (by omega)) (fun q => ⟨vp_in_nI (by omega) (by omega), ?_⟩)
      rw [drop_g3 q, allC_cons] at he
      rw [nI_clamp (by omega), (hG'.2 i q).1, nI_1]
      refine Ft_canBegin_ok hv hF' hR' (hb.2 _ (g3_mem q)).1 ?_
      cases hc : cbg rs s (g3 gl i).1 rs.length 0 with
      | false =>
        rw [hc] at he
        exact br_t rfl (ih (i + 1) M' mv' (by omega) hM' (by omega) f he)
      | true =>
        rw [hc] at he
        refine br_f (by decide) ?_
        have hcl := cutL_len rs s gl (g3 gl i)
        refine Ft_listCuts_ok hv hF' hs hR' hG' hb hM' (by omega) q (fun M3 hM3 f3 => ?_)
        refine ih (i + 1) M3 _ (by omega) hM3 (by rw [List.length_append]; omega) (f.trans f3) ?_
        rw [← he]
        simp only [List.append_assoc, if_true]
  exact k14 gl.length 0 M2 [] (by omega) hM2 (Nat.le_refl _) FR.rf rfl
end ZF3
