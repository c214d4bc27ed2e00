/-! Fitting: rows, states, what a piece does -/
abbrev RS : Type := List (List Int32 × List Int32)
def ln (rs : RS) (i : Nat) : List Int32 := (rs.getD i ([], [])).1
def rt (rs : RS) (i : Nat) : List Int32 := (rs.getD i ([], [])).2
/-- rows that can be -/
def VR (rs : RS) : Prop := rs.length ≤ 4 ∧ ∀ i, i < rs.length → (ln rs i).length ≤ 12 ∧ (rt rs i).length ≤ 5
def FT (M : Mem) (rs : RS) : Prop := M.1 46 8 = nI rs.length ∧ ∀ i, i < rs.length → RW M (47 + 11 + 19 * i) (ln rs i) (rt rs i)
theorem FT.fr {M M' : Mem} {lo hi : Nat} {rs : RS} (h : FT M rs) (hv : rs.length ≤ 4) (f : FR lo hi M M') (h1 : 47 ≤ lo) (h2 : hi ≤ 58) : FT M' rs := by
  refine ⟨by rw [(f 46 (by omega)).1]; exact h.1, fun i hi2 => (h.2 i hi2).fr f (by omega)⟩
theorem FT.fr2 {M M' : Mem} {lo hi : Nat} {rs : RS} (h : FT M rs) (hv : rs.length ≤ 4) (f : FR lo hi M M') (h1 : hi ≤ 46 ∨ 134 ≤ lo) : FT M' rs := by
  refine ⟨by rw [(f 46 (by omega)).1]; exact h.1, fun i hi2 => (h.2 i hi2).fr f (by omega)⟩
/-- a digit of a state: how far a row's result is made -/
def dg (s i : Nat) : Nat := s / 6 ^ i % 6
theorem dg_lt (s i : Nat) : dg s i < 6 := Nat.mod_lt _ (by omega)
theorem div6 (s i : Nat) : s / 6 ^ i / 6 = s / 6 ^ (i + 1) := by rw [Nat.div_div_eq_div_mul, Nat.pow_succ]
def RC (M : Mem) (rs : RS) (s : Nat) : Prop := ∀ i, i < rs.length → M.1 48 i = nI (dg s i)
theorem RC.fr {M M' : Mem} {lo hi : Nat} {rs : RS} {s : Nat} (h : RC M rs s) (f : FR lo hi M M') (h1 : hi ≤ 48 ∨ 49 ≤ lo) : RC M' rs s := fun i hi2 => by
  rw [(f 48 (by omega)).1]
  exact h i hi2
section ZF1
variable {M : Mem} {rs : RS}
theorem Ft_reach_ok (hv : VR rs) (hF : FT M rs) {s : Nat} (hs : s < 10000) {Q : Mem → Prop} (h : ∀ M', RC M' rs s → FR 48 49 M M' → Q M') : CallV zX m_Ft_reach [.ref 46, .int (nI s)] M Q := by
  have hk := hv.1
  refine e_Ft_reach ?_
  have key : ∀ (k i : Nat) (M' : Mem), i + k = rs.length → FR 48 49 M M' → (∀ j, j < i → M'.1 48 j = nI (dg s j)) → wp zX m_Ft_reach (QV Q) 4 [(0, .ref 46), (2, .int (nI (s / 6 ^ i))), (3, .int (nI i))] [] M' := by
    intro k
    induction k with
    | zero =>
      intro i M' hi f g
      have hF' := hF.fr hk f (by omega) (by omega)
      refine b_Ft_reach_4 ?_
      rw [hF'.1]
      exact pk_le rs.length i (fun _ => h M' (fun j hj => g j (by omega)) f) (fun q => absurd q (by omega))
    | succ k ih =>
      intro i M' hi f g
      have hF' := hF.fr hk f (by omega) (by omega)
      have hle : s / 6 ^ i ≤ s := Nat.div_le_self _ _
      refine b_Ft_reach_4 ?_
      rw [hF'.1]
      refine pk_le rs.length i (fun q => absurd q (by omega)) (fun q => ⟨vp_in_nI (by omega) (by omega), ?_⟩)
      rintro N rfl
      rw [nI_clamp (by omega), nI_1, show nI (s / 6 ^ i) - nI (s / 6 ^ i) / 6 * 6 = nI (s / 6 ^ i % 6) from pk_rem (d := 6) (by omega) (by omega) (by omega), show nI (s / 6 ^ i) / 6 = nI (s / 6 ^ i / 6) from pk_div (d := 6) (by omega) (by omega) (by omega), div6]
      refine ih (i + 1) _ (by omega) (f.trans (FR.uI (by omega) (by omega))) (fun j hj => ?_)
      by_cases e : j = i
      · subst e
        rw [uI_s]
        rfl
      · rw [uI_k e]
        exact g j (by omega)
  have := key rs.length 0 M (by omega) FR.rf (fun j hj => absurd hj (Nat.not_lt_zero j))
  rw [Nat.pow_zero, Nat.div_one] at this
  exact this
/-- a mark tells a place in all rows -/
def tld (rs : RS) (m : Nat) : Nat → Nat → Bool
  | 0, _ => true
  | k + 1, i => if plc (ln rs i) m = none then false else tld rs m k (i + 1)
theorem oI_eq6 {p : Option Nat} (hp : ∀ k, p = some k → k < 2 ^ 31) : oI p = -6 ↔ p = none := by
  cases p with
  | none => exact ⟨fun _ => rfl, fun _ => rfl⟩
  | some k => exact ⟨fun q => absurd q (nI_ne6 (hp k rfl)), fun q => by cases q⟩
theorem plc_b {l : List Int32} (hl : l.length ≤ 12) {m : Nat} : ∀ k, plc l m = some k → k < 2 ^ 31 := fun k e => by
  have := plc_le e
  omega
theorem Ft_isToldInAll_ok (hv : VR rs) (hF : FT M rs) {m : Nat} (hm : m < 62) {Q : Int32 → Mem → Prop} (h : Q (if tld rs m rs.length 0 then 1 else 0) M) : CallI zX m_Ft_isToldInAll [.ref 46, .int (nI m)] M Q := by
  have hk := hv.1
  refine e_Ft_isToldInAll ?_
  have key : ∀ (k i : Nat), i + k = rs.length → Q (if tld rs m k i then 1 else 0) M → wp zX m_Ft_isToldInAll (QI Q) 2 [(0, .ref 46), (1, .int (nI m)), (2, .int (nI i))] [] M := by
    intro k
    induction k with
    | zero =>
      intro i hi hQ
      refine b_Ft_isToldInAll_2 ?_
      rw [hF.1]
      exact pk_le rs.length i (fun _ => hQ) (fun q => absurd q (by omega))
    | succ k ih =>
      intro i hi hQ
      unfold tld at hQ
      refine b_Ft_isToldInAll_2 ?_
      rw [hF.1]
      refine pk_le rs.length i (fun q => absurd q (by omega)) (fun q => ⟨vp_in_nI (by omega) (by omega), ?_⟩)
      rw [nI_clamp (by omega), nI_1]
      refine Rw_placeOf_ok (T_rows i (by omega)) (hF.2 i q) hm ⟨fun c => ?_, fun c => ?_⟩
      · rw [if_pos ((oI_eq6 (plc_b (hv.2 i q).1)).mp c)] at hQ
        exact hQ
      · rw [if_neg (fun z => c ((oI_eq6 (plc_b (hv.2 i q).1)).mpr z))] at hQ
        exact ih (i + 1) (by omega) hQ
  exact key rs.length 0 (by omega) h
/-- two marks tell the same places in all rows -/
def sme (rs : RS) (m1 m2 : Nat) : Nat → Nat → Bool
  | 0, _ => true
  | k + 1, i => if plc (ln rs i) m1 = plc (ln rs i) m2 then sme rs m1 m2 k (i + 1) else false
theorem oI_inj {p q : Option Nat} (hp : ∀ k, p = some k → k < 2 ^ 31) (hq : ∀ k, q = some k → k < 2 ^ 31) : oI p = oI q ↔ p = q := by
  refine ⟨fun h => ?_, fun h => by rw [h]⟩
  cases p with
  | none => exact ((oI_eq6 hq).mp h.symm).symm
  | some k =>
    cases q with
    | none => exact absurd h (nI_ne6 (hp k rfl))
    | some j => rw [(nI_eq (hp k rfl) (hq j rfl)).mp h]
theorem Ft_tellSame_ok (hv : VR rs) (hF : FT M rs) {m1 m2 : Nat} (h1 : m1 < 62) (h2 : m2 < 62) {Q : Int32 → Mem → Prop} (h : Q (if sme rs m1 m2 rs.length 0 then 1 else 0) M) : CallI zX m_Ft_tellSame [.ref 46, .int (nI m1), .int (nI m2)] M Q := by
  have hk := hv.1
  refine e_Ft_tellSame ?_
  have key : ∀ (k i : Nat), i + k = rs.length → Q (if sme rs m1 m2 k i then 1 else 0) M → wp zX m_Ft_tellSame (QI Q) 2 [(0, .ref 46), (1, .int (nI m1)), (2, .int (nI m2)), (3, .int (nI i))] [] M := by
    intro k
    induction k with
    | zero =>
      intro i hi hQ
      refine b_Ft_tellSame_2 ?_
      rw [hF.1]
      exact pk_le rs.length i (fun _ => hQ) (fun q => absurd q (by omega))
    | succ k ih =>
      intro i hi hQ
      unfold sme at hQ
      refine b_Ft_tellSame_2 ?_
      rw [hF.1]
      refine pk_le rs.length i (fun q => absurd q (by omega)) (fun q => ⟨vp_in_nI (by omega) (by omega), ?_⟩)
      rw [nI_clamp (by omega), nI_1]
      refine Rw_placeOf_ok (T_rows i (by omega)) (hF.2 i q) h1 ⟨vp_in_nI (by omega) (by omega), Rw_placeOf_ok (T_rows i (by omega)) (hF.2 i q) h2 ⟨fun c => ?_, fun c => ?_⟩⟩
      · rw [if_pos ((oI_inj (plc_b (hv.2 i q).1) (plc_b (hv.2 i q).1)).mp c)] at hQ
        exact ih (i + 1) (by omega) hQ
      · rw [if_neg (fun z => c ((oI_inj (plc_b (hv.2 i q).1) (plc_b (hv.2 i q).1)).mpr z))] at hQ
        exact hQ
  exact key rs.length 0 (by omega) h
/-- a cut can begin at the mark in all rows -/
def cbg (rs : RS) (s m : Nat) : Nat → Nat → Bool
  | 0, _ => true
  | k + 1, i => if lgf (ln rs i) (rt rs i) (plc (ln rs i) m) (dg s i) = 0 then false else cbg rs s m k (i + 1)
theorem lgf_le (l r : List Int32) (p : Option Nat) (q : Nat) : lgf l r p q ≤ r.length := by
  cases p with
  | none => exact Nat.zero_le _
  | some k =>
    have := (al_le l r k q).2
    show al l r k q ≤ r.length
    omega
theorem Ft_canBegin_ok (hv : VR rs) (hF : FT M rs) {s : Nat} (hR : RC M rs s) {m : Nat} (hm : m < 62) {Q : Int32 → Mem → Prop} (h : Q (if cbg rs s m rs.length 0 then 1 else 0) M) : CallI zX m_Ft_canBegin [.ref 46, .int (nI m)] M Q := by
  have hk := hv.1
  refine e_Ft_canBegin ?_
  have key : ∀ (k i : Nat), i + k = rs.length → Q (if cbg rs s m k i then 1 else 0) M → wp zX m_Ft_canBegin (QI Q) 2 [(0, .ref 46), (1, .int (nI m)), (2, .int (nI i))] [] M := by
    intro k
    induction k with
    | zero =>
      intro i hi hQ
      refine b_Ft_canBegin_2 ?_
      rw [hF.1]
      exact pk_le rs.length i (fun _ => hQ) (fun q => absurd q (by omega))
    | succ k ih =>
      intro i hi hQ
      unfold cbg at hQ
      refine b_Ft_canBegin_2 ?_
      rw [hF.1]
      refine pk_le rs.length i (fun q => absurd q (by omega)) (fun q => ⟨vp_in_nI (by omega) (by omega), vp_in_nI (by omega) (by omega), ?_⟩)
      rw [nI_clamp (by omega), nI_1]
      have hd := dg_lt s i
      have hlg := lgf_le (ln rs i) (rt rs i) (plc (ln rs i) m) (dg s i)
      have hr5 := (hv.2 i q).2
      refine Rw_placeOf_ok (T_rows i (by omega)) (hF.2 i q) hm ⟨vp_in_nI (by omega) (by omega), ?_⟩
      rw [hR i q]
      refine Rw_longestFrom_ok (T_rows i (by omega)) (hF.2 i q) (fun k e => Nat.le_trans (plc_le e) (hv.2 i q).1) (by omega) (pk_eq _ 0 (fun c => ?_) (fun c => ?_))
      · rw [if_pos c] at hQ
        exact hQ
      · rw [if_neg c] at hQ
        exact ih (i + 1) (by omega) hQ
  exact key rs.length 0 (by omega) h
/-- where a cut leads from a state -/
def ctF (rs : RS) (s m1 m2 : Nat) : Nat → Nat → Nat → Option Nat
  | 0, _, acc => some acc
  | k + 1, i, acc => if ctl (ln rs i) (rt rs i) m1 m2 (dg s i) = 0 then none else ctF rs s m1 m2 k (i + 1) (acc + ctl (ln rs i) (rt rs i) m1 m2 (dg s i) * 6 ^ i)
def ctT (rs : RS) (s m1 m2 : Nat) : Option Nat := ctF rs s m1 m2 rs.length 0 s
theorem ctl_le (l r : List Int32) (m1 m2 q : Nat) : ctl l r m1 m2 q ≤ r.length - q := by
  unfold ctl
  split
  · rename_i a b _ _
    split
    · have := (al_le l r a q).2
      omega
    · omega
  · omega
theorem Ft_cutTarget_ok (hv : VR rs) (hF : FT M rs) {s : Nat} (hR : RC M rs s) {m1 m2 : Nat} (h1 : m1 < 62) (h2 : m2 < 62) {Q : Int32 → Mem → Prop} (h : Q (oI (ctT rs s m1 m2)) M) : CallI zX m_Ft_cutTarget [.ref 46, .int (nI s), .int (nI m1), .int (nI m2)] M Q := by
  have hk := hv.1
  refine e_Ft_cutTarget ?_
  have key : ∀ (k i acc : Nat), i + k = rs.length → Q (oI (ctF rs s m1 m2 k i acc)) M → wp zX m_Ft_cutTarget (QI Q) 9 [(0, .ref 46), (2, .int (nI m1)), (3, .int (nI m2)), (4, .int (nI acc)), (5, .int (nI (6 ^ i))), (6, .int (nI i))] [] M := by
    intro k
    induction k with
    | zero =>
      intro i acc hi hQ
      refine b_Ft_cutTarget_9 ?_
      rw [hF.1]
      exact pk_le rs.length i (fun _ => hQ) (fun q => absurd q (by omega))
    | succ k ih =>
      intro i acc hi hQ
      unfold ctF at hQ
      refine b_Ft_cutTarget_9 ?_
      rw [hF.1]
      refine pk_le rs.length i (fun q => absurd q (by omega)) (fun q => ⟨vp_in_nI (by omega) (by omega), vp_in_nI (by omega) (by omega), ?_⟩)
      rw [nI_clamp (by omega), nI_1, hR i q]
      have hd := dg_lt s i
      have hc := ctl_le (ln rs i) (rt rs i) m1 m2 (dg s i)
      have hr5 := (hv.2 i q).2
      refine Rw_cutLength_ok (T_rows i (by omega)) (hF.2 i q) (hv.2 i q).1 h1 h2 (by omega) (pk_eq _ 0 (fun c => ?_) (fun c => ?_))
      · rw [if_pos c] at hQ
        exact hQ
      · rw [if_neg c] at hQ
        rw [pk_mul, nI_add, show nI (6 ^ i) * 6 = nI (6 ^ (i + 1)) from pk_mul (6 ^ i) 6]
        exact ih (i + 1) _ (by omega) hQ
  exact key rs.length 0 s (by omega) h
/-- where a text leads -/
def txF (k0 : Nat) (n : Nat) : Nat → Nat → Nat → Nat
  | 0, _, acc => acc
  | k + 1, i, acc => txF k0 n k (i + 1) (acc + n * 6 ^ i)
def txT (rs : RS) (s n : Nat) : Nat := txF rs.length n rs.length 0 s
theorem Ft_textTarget_ok (hv : VR rs) (hF : FT M rs) {s n : Nat} {Q : Int32 → Mem → Prop} (h : Q (nI (txT rs s n)) M) : CallI zX m_Ft_textTarget [.ref 46, .int (nI s), .int (nI n)] M Q := by
  have hk := hv.1
  refine e_Ft_textTarget ?_
  have key : ∀ (k i acc : Nat), i + k = rs.length → Q (nI (txF rs.length n k i acc)) M → wp zX m_Ft_textTarget (QI Q) 8 [(0, .ref 46), (2, .int (nI n)), (3, .int (nI acc)), (4, .int (nI (6 ^ i))), (5, .int (nI i))] [] M := by
    intro k
    induction k with
    | zero =>
      intro i acc hi hQ
      refine b_Ft_textTarget_8 ?_
      rw [hF.1]
      exact pk_le rs.length i (fun _ => hQ) (fun q => absurd q (by omega))
    | succ k ih =>
      intro i acc hi hQ
      unfold txF at hQ
      refine b_Ft_textTarget_8 ?_
      rw [hF.1]
      refine pk_le rs.length i (fun q => absurd q (by omega)) (fun q => ?_)
      rw [nI_1, pk_mul, nI_add, show nI (6 ^ i) * 6 = nI (6 ^ (i + 1)) from pk_mul (6 ^ i) 6]
      exact ih (i + 1) _ (by omega) hQ
  exact key rs.length 0 s (by omega) h
/-- the state in which all results are made -/
def enF (rs : RS) : Nat → Nat → Nat → Nat
  | 0, _, acc => acc
  | k + 1, i, acc => enF rs k (i + 1) (acc + (rt rs i).length * 6 ^ i)
def enT (rs : RS) : Nat := enF rs rs.length 0 0
theorem enF_b {rs : RS} (hv : ∀ i, i < rs.length → (rt rs i).length ≤ 5) : ∀ (k i acc : Nat), i + k = rs.length → enF rs k i acc + 6 ^ i ≤ acc + 6 ^ (i + k)
  | 0, i, acc, _ => Nat.le_refl _
  | k + 1, i, acc, hk => by
    rw [enF]
    have h5 := hv i (by omega)
    have ih := enF_b hv k (i + 1) (acc + (rt rs i).length * 6 ^ i) (by omega)
    rw [Nat.pow_succ, show i + 1 + k = i + (k + 1) by omega] at ih
    have hm : (rt rs i).length * 6 ^ i ≤ 5 * 6 ^ i := Nat.mul_le_mul_right _ h5
    generalize (rt rs i).length * 6 ^ i = z at ih hm ⊢
    generalize 6 ^ i = y at ih hm ⊢
    generalize 6 ^ (i + (k + 1)) = x at ih ⊢
    omega
theorem enT_b {rs : RS} (hv : VR rs) : enT rs < 1296 := by
  have hk := hv.1
  have b := enF_b (fun i hi => (hv.2 i hi).2) rs.length 0 0 (by omega)
  have hp : 6 ^ (0 + rs.length) ≤ 6 ^ 4 := Nat.pow_le_pow_right (by omega) (by omega)
  rw [show (6 : Nat) ^ 4 = 1296 from rfl] at hp
  rw [Nat.pow_zero] at b
  unfold enT
  generalize 6 ^ (0 + rs.length) = x at b hp
  omega
theorem Ft_lastState_ok (hv : VR rs) (hF : FT M rs) {Q : Int32 → Mem → Prop} (h : Q (nI (enT rs)) M) : CallI zX m_Ft_lastState [.ref 46] M Q := by
  have hk := hv.1
  refine e_Ft_lastState ?_
  have key : ∀ (k i acc : Nat), i + k = rs.length → enF rs k i acc < 1296 → Q (nI (enF rs k i acc)) M → wp zX m_Ft_lastState (QI Q) 6 [(0, .ref 46), (1, .int (nI acc)), (2, .int (nI (6 ^ i))), (3, .int (nI i))] [] M := by
    intro k
    induction k with
    | zero =>
      intro i acc hi hb hQ
      refine b_Ft_lastState_6 ?_
      rw [hF.1]
      refine pk_le rs.length i (fun _ => ?_) (fun q => absurd q (by omega))
      have hb : acc < 1296 := hb
      have e : ¬ (1295 : Int32) < nI acc := fun z => by
        have := (nI_ltI (a := 1295) (by omega) (by omega)).mp z
        omega
      rw [if_neg e]
      exact hQ
    | succ k ih =>
      intro i acc hi hb hQ
      unfold enF at hQ hb
      refine b_Ft_lastState_6 ?_
      rw [hF.1]
      refine pk_le rs.length i (fun q => absurd q (by omega)) (fun q => ⟨vp_in_nI (by omega) (by omega), ?_⟩)
      rw [nI_clamp (by omega), nI_1]
      refine e_Rw_result (T_rows i (by omega)) ⟨5, (T_rows i (by omega)).2.1, Sg_many_ok (T_rows i (by omega)).2.1 (hF.2 i q).1 ?_⟩
      rw [pk_mul, nI_add, show nI (6 ^ i) * 6 = nI (6 ^ (i + 1)) from pk_mul (6 ^ i) 6]
      exact ih (i + 1) _ (by omega) hb hQ
  exact key rs.length 0 0 (by omega) (enT_b hv) h
/-- the next sign, so many ahead, is the same in all results -/
def nxF (rs : RS) (s ahead : Nat) (x : Int32) : Nat → Nat → Bool
  | 0, _ => decide (x ≠ 0)
  | k + 1, i => if gt (rt rs i) (dg s i + ahead) = x then nxF rs s ahead x k (i + 1) else false
def nxT (rs : RS) (s ahead : Nat) : Bool := nxF rs s ahead (gt (rt rs 0) (dg s 0 + ahead)) rs.length 0
theorem Ft_isNextInAll_ok (hv : VR rs) (h0 : 0 < rs.length) (hF : FT M rs) {s : Nat} (hR : RC M rs s) {ahead : Nat} (ha : ahead < 1000) {Q : Int32 → Mem → Prop} (h : Q (if nxT rs s ahead then 1 else 0) M) : CallI zX m_Ft_isNextInAll [.ref 46, .int (nI ahead)] M Q := by
  have hk := hv.1
  have key : ∀ (k i : Nat) (x : Int32), i + k = rs.length → Q (if nxF rs s ahead x k i then 1 else 0) M → wp zX m_Ft_isNextInAll (QI Q) 23 [(0, .ref 46), (1, .int (nI ahead)), (2, .int x), (3, .int (nI i))] [] M := by
    intro k
    induction k with
    | zero =>
      intro i x hi hQ
      refine b_Ft_isNextInAll_23 ?_
      rw [hF.1]
      refine pk_le rs.length i (fun _ => ⟨fun c => ?_, fun c => ?_⟩) (fun q => absurd q (by omega))
      · simp only [nxF, c, ne_eq, not_true_eq_false, decide_false] at hQ
        exact hQ
      · simp only [nxF, c, ne_eq, not_false_eq_true, decide_true] at hQ
        exact hQ
    | succ k ih =>
      intro i x hi hQ
      unfold nxF at hQ
      refine b_Ft_isNextInAll_23 ?_
      rw [hF.1]
      refine pk_le rs.length i (fun q => absurd q (by omega)) (fun q => ⟨vp_in_nI (by omega) (by omega), ?_⟩)
      rw [nI_clamp (by omega), nI_1]
      have hd := dg_lt s i
      refine e_Rw_result (T_rows i (by omega)) ⟨5, (T_rows i (by omega)).2.1, vp_in_nI (by omega) (by omega), ?_⟩
      rw [hR i q, nI_add]
      refine Sg_at_ok (T_rows i (by omega)).2.1 (by omega) (hF.2 i q).1 (hv.2 i q).2 (by omega) ⟨fun c => ?_, fun c => ?_⟩
      · rw [if_pos c] at hQ
        exact ih (i + 1) x (by omega) hQ
      · rw [if_neg c] at hQ
        exact hQ
  have hd := dg_lt s 0
  refine e_Ft_isNextInAll ⟨vp_in_nI (n := 0) (by omega) (by omega), e_Rw_result (T_rows 0 (by omega)) ⟨5, (T_rows 0 (by omega)).2.1, vp_in_nI (n := 0) (by omega) (by omega), ?_⟩⟩
  have e48 : M.1 48 (0 : Int32).toNatClampNeg = nI (dg s 0) := hR 0 h0
  rw [e48, nI_add]
  exact Sg_at_ok (T_rows 0 (by omega)).2.1 (by omega) (hF.2 0 h0).1 (hv.2 0 h0).2 (by omega) (key rs.length 0 _ (by omega) h)
/-- how many signs come next in all results alike -/
def lgF (rs : RS) (s : Nat) : Nat → Nat → Nat
  | 0, e => e
  | k + 1, e => if nxT rs s e then lgF rs s k (e + 1) else e
def lgT (rs : RS) (s : Nat) : Nat := lgF rs s 5 0
theorem Ft_longestText_ok (hv : VR rs) (h0 : 0 < rs.length) (hF : FT M rs) {s : Nat} (hR : RC M rs s) {Q : Int32 → Mem → Prop} (h : Q (nI (lgT rs s)) M) : CallI zX m_Ft_longestText [.ref 46] M Q := by
  refine e_Ft_longestText ?_
  have key : ∀ (k e : Nat), e + k = 5 → Q (nI (lgF rs s k e)) M → wp zX m_Ft_longestText (QI Q) 2 [(0, .ref 46), (1, .int (nI e))] [] M := by
    intro k
    induction k with
    | zero =>
      intro e he hQ
      exact b_Ft_longestText_2 (pk_le 5 e (fun _ => hQ) (fun q => absurd q (by omega)))
    | succ k ih =>
      intro e he hQ
      unfold lgF at hQ
      refine b_Ft_longestText_2 (pk_le 5 e (fun q => absurd q (by omega)) (fun q => ?_))
      refine Ft_isNextInAll_ok hv h0 hF hR (by omega) ?_
      cases hx : nxT rs s e with
      | true =>
        rw [hx] at hQ
        refine br_f (by decide) ?_
        rw [nI_1]
        exact ih (e + 1) (by omega) hQ
      | false =>
        rw [hx] at hQ
        exact br_t rfl hQ
  exact key 5 0 rfl h
end ZF1
