/-! the fixed layout: behind the constructors no cell is made and no reference moves; what moves are numbers: M.1 a k an int (a field's place k, an array's index k), M.2 a k a long -/
abbrev Sh : Type := Nat × Nat × Nat × Nat
abbrev Mem : Type := (Nat → Nat → Int32) × (Nat → Nat → Int64)
/-- the shape of a cell: below 10 an array's type, its length, and for references where the elements lie; from 10 on a class -/
def zsh (y : List Sh) (a : Nat) : Sh := y.getD a (0, 0, 0, 0)
def uI (M : Mem) (a k : Nat) (v : Int32) : Mem := (fun b => if b = a then upd (M.1 a) k v else M.1 b, M.2)
def uL (M : Mem) (a k : Nat) (v : Int64) : Mem := (M.1, fun b => if b = a then vp_updL (M.2 a) k v else M.2 b)
def fval (d : Nat × Nat) (k a : Nat) (M : Mem) : Value := if d.1 = 0 then .int (M.1 a k) else if d.1 = 1 then .long (M.2 a k) else .ref (a + d.2)
def fldV : List (Nat × Nat) → Nat → Nat → Mem → List Value
  | [], _, _, _ => []
  | d :: l, k, a, M => fval d k a M :: fldV l (k + 1) a M
def zfd (ci : Nat) : List (Nat × Nat) := match ci with
  | 0 => [(2, 1), (2, 2), (2, 3), (0, 0), (0, 0)]
  | 1 => [(2, 1), (2, 2), (2, 3), (2, 4), (2, 5), (2, 6), (2, 10), (2, 11), (0, 0), (0, 0)]
  | 2 => [(2, 1), (2, 2), (2, 3), (0, 0)]
  | 3 => [(2, 1), (0, 0), (0, 0), (0, 0)]
  | 4 => [(2, 1), (0, 0)]
  | 5 => [(2, 1), (2, 4), (2, 5)]
  | 6 => [(2, 1), (2, 2), (0, 0)]
  | 7 => [(2, 1), (2, 4), (2, 44), (2, 45), (2, 46), (2, 134), (2, 156), (2, 159), (0, 0), (1, 0)]
  | _ => [(2, 1), (2, 2), (2, 3), (2, 4), (0, 0), (2, 5), (2, 6), (0, 0), (0, 0), (2, 7), (2, 8), (2, 9), (0, 0), (2, 10), (2, 11), (2, 12), (2, 13), (0, 0), (2, 14), (2, 15), (2, 16), (2, 17), (2, 18), (0, 0), (0, 0), (2, 19), (2, 20), (2, 21)]
def entS (q : Sh) (a : Nat) (M : Mem) : En :=
  if 10 ≤ q.1 then .inr (q.1 - 10, fldV (zfd (q.1 - 10)) 0 a M)
  else if q.1 = 1 then .inl (1, q.2.1, .inr (.inl (M.2 a)))
  else if q.1 ≤ 2 then .inl (q.1, q.2.1, .inl (M.1 a))
  else .inl (q.1, q.2.1, .inr (.inr (fun i => if i < q.2.1 then some (a + q.2.2.1 + q.2.2.2 * i) else none)))
def ent (y : List Sh) (M : Mem) (a : Nat) : En := entS (zsh y a) a M
theorem fldV_len : ∀ (l : List (Nat × Nat)) (k a : Nat) (M : Mem), (fldV l k a M).length = l.length
  | [], _, _, _ => rfl
  | d :: l, k, a, M => by
    show (fldV l (k + 1) a M).length + 1 = l.length + 1
    rw [fldV_len l (k + 1) a M]
theorem fldV_get : ∀ (l : List (Nat × Nat)) (k0 a : Nat) (M : Mem) (k : Nat) (d : Nat × Nat), l[k]? = some d → (fldV l k0 a M)[k]? = some (fval d (k0 + k) a M)
  | [], _, _, _, k, d, h => by simp at h
  | e :: l, k0, a, M, 0, d, h => by
    cases h
    rfl
  | e :: l, k0, a, M, k + 1, d, h => by
    show (fldV l (k0 + 1) a M)[k]? = _
    rw [List.getElem?_cons_succ] at h
    rw [fldV_get l (k0 + 1) a M k d h]
    rw [show k0 + 1 + k = k0 + (k + 1) by omega]
theorem fldV_hiI : ∀ (l : List (Nat × Nat)) (k0 a : Nat) (M : Mem) (k : Nat) (v : Int32), k < k0 → fldV l k0 a (uI M a k v) = fldV l k0 a M
  | [], _, _, _, _, _, _ => rfl
  | d :: l, k0, a, M, k, v, h => by
    show fval d k0 a (uI M a k v) :: fldV l (k0 + 1) a (uI M a k v) = fval d k0 a M :: fldV l (k0 + 1) a M
    rw [fldV_hiI l (k0 + 1) a M k v (by omega)]
    congr 1
    have hne : k0 ≠ k := by omega
    simp [fval, uI, upd, hne]
theorem fldV_setI : ∀ (l : List (Nat × Nat)) (k0 a : Nat) (M : Mem) (k : Nat) (v : Int32), l[k]? = some (0, 0) → (fldV l k0 a M).set k (.int v) = fldV l k0 a (uI M a (k0 + k) v)
  | [], _, _, _, k, v, h => by simp at h
  | d :: l, k0, a, M, 0, v, h => by
    cases h
    show Value.int v :: fldV l (k0 + 1) a M = fval (0, 0) k0 a (uI M a k0 v) :: fldV l (k0 + 1) a (uI M a k0 v)
    rw [fldV_hiI l (k0 + 1) a M k0 v (by omega)]
    congr 1
    simp [fval, uI, upd]
  | d :: l, k0, a, M, k + 1, v, h => by
    rw [List.getElem?_cons_succ] at h
    show fval d k0 a M :: (fldV l (k0 + 1) a M).set k (.int v) = fval d k0 a (uI M a (k0 + (k + 1)) v) :: fldV l (k0 + 1) a (uI M a (k0 + (k + 1)) v)
    rw [fldV_setI l (k0 + 1) a M k v h, show k0 + 1 + k = k0 + (k + 1) by omega]
    congr 1
    have hne : k0 ≠ k0 + (k + 1) := by omega
    simp [fval, uI, upd, hne]
theorem fldV_hiL : ∀ (l : List (Nat × Nat)) (k0 a : Nat) (M : Mem) (k : Nat) (v : Int64), k < k0 → fldV l k0 a (uL M a k v) = fldV l k0 a M
  | [], _, _, _, _, _, _ => rfl
  | d :: l, k0, a, M, k, v, h => by
    show fval d k0 a (uL M a k v) :: fldV l (k0 + 1) a (uL M a k v) = fval d k0 a M :: fldV l (k0 + 1) a M
    rw [fldV_hiL l (k0 + 1) a M k v (by omega)]
    congr 1
    have hne : k0 ≠ k := by omega
    simp [fval, uL, vp_updL, hne]
theorem fldV_setL : ∀ (l : List (Nat × Nat)) (k0 a : Nat) (M : Mem) (k : Nat) (v : Int64), l[k]? = some (1, 0) → (fldV l k0 a M).set k (.long v) = fldV l k0 a (uL M a (k0 + k) v)
  | [], _, _, _, k, v, h => by simp at h
  | d :: l, k0, a, M, 0, v, h => by
    cases h
    show Value.long v :: fldV l (k0 + 1) a M = fval (1, 0) k0 a (uL M a k0 v) :: fldV l (k0 + 1) a (uL M a k0 v)
    rw [fldV_hiL l (k0 + 1) a M k0 v (by omega)]
    congr 1
    simp [fval, uL, vp_updL]
  | d :: l, k0, a, M, k + 1, v, h => by
    rw [List.getElem?_cons_succ] at h
    show fval d k0 a M :: (fldV l (k0 + 1) a M).set k (.long v) = fval d k0 a (uL M a (k0 + (k + 1)) v) :: fldV l (k0 + 1) a (uL M a (k0 + (k + 1)) v)
    rw [fldV_setL l (k0 + 1) a M k v h, show k0 + 1 + k = k0 + (k + 1) by omega]
    congr 1
    have hne : k0 ≠ k0 + (k + 1) := by omega
    simp [fval, uL, vp_updL, hne]
theorem fldV_neI : ∀ (l : List (Nat × Nat)) (k0 a b : Nat) (M : Mem) (k : Nat) (v : Int32), b ≠ a → fldV l k0 b (uI M a k v) = fldV l k0 b M
  | [], _, _, _, _, _, _, _ => rfl
  | d :: l, k0, a, b, M, k, v, h => by
    show fval d k0 b (uI M a k v) :: fldV l (k0 + 1) b (uI M a k v) = fval d k0 b M :: fldV l (k0 + 1) b M
    rw [fldV_neI l (k0 + 1) a b M k v h]
    congr 1
    simp [fval, uI, h]
theorem fldV_neL : ∀ (l : List (Nat × Nat)) (k0 a b : Nat) (M : Mem) (k : Nat) (v : Int64), b ≠ a → fldV l k0 b (uL M a k v) = fldV l k0 b M
  | [], _, _, _, _, _, _, _ => rfl
  | d :: l, k0, a, b, M, k, v, h => by
    show fval d k0 b (uL M a k v) :: fldV l (k0 + 1) b (uL M a k v) = fval d k0 b M :: fldV l (k0 + 1) b M
    rw [fldV_neL l (k0 + 1) a b M k v h]
    congr 1
    simp [fval, uL, h]
theorem ent_neI {y : List Sh} {M : Mem} {a b k : Nat} {v : Int32} (h : b ≠ a) : ent y (uI M a k v) b = ent y M b := by
  unfold ent entS
  rw [fldV_neI _ _ _ _ _ _ _ h]
  simp [uI, h]
theorem ent_neL {y : List Sh} {M : Mem} {a b k : Nat} {v : Int64} (h : b ≠ a) : ent y (uL M a k v) b = ent y M b := by
  unfold ent entS
  rw [fldV_neL _ _ _ _ _ _ _ h]
  simp [uL, h]
theorem ent_upI {y : List Sh} {M : Mem} {a k : Nat} {v : Int32} {e : En} (h : ent y (uI M a k v) a = e) : va_up (ent y M) a e = ent y (uI M a k v) := by
  funext b
  by_cases hb : b = a
  · subst hb
    rw [show va_up (ent y M) b e b = e from if_pos rfl, h]
  · rw [show va_up (ent y M) a e b = ent y M b from if_neg hb, ent_neI hb]
theorem ent_upL {y : List Sh} {M : Mem} {a k : Nat} {v : Int64} {e : En} (h : ent y (uL M a k v) a = e) : va_up (ent y M) a e = ent y (uL M a k v) := by
  funext b
  by_cases hb : b = a
  · subst hb
    rw [show va_up (ent y M) b e b = e from if_pos rfl, h]
  · rw [show va_up (ent y M) a e b = ent y M b from if_neg hb, ent_neL hb]
theorem zsh_lt {y : List Sh} {a t len b k : Nat} (h : zsh y a = (t, len, b, k)) (h0 : 0 < t ∨ 0 < len) : a < y.length := by
  rcases Nat.lt_or_ge a y.length with q | q
  · exact q
  · unfold zsh at h
    rw [List.getD_eq_getElem?_getD, List.getElem?_eq_none q] at h
    cases h
    omega
theorem vp_lt {i : Int32} {n : Nat} (h : vp_in i n) : i.toNatClampNeg < n := Nat.not_le.mp fun q => h (Or.inr q)
theorem vp_pos {i : Int32} {n : Nat} (h : vp_in i n) : 0 < n := Nat.lt_of_le_of_lt (Nat.zero_le _) (vp_lt h)
theorem ent_obj {y : List Sh} {a ci : Nat} {M : Mem} (h : zsh y a = (10 + ci, 0, 0, 0)) : ent y M a = .inr (ci, fldV (zfd ci) 0 a M) := by
  unfold ent entS
  rw [h, if_pos (show 10 ≤ 10 + ci by omega), show 10 + ci - 10 = ci by omega]
theorem ent_int {y : List Sh} {a len : Nat} {M : Mem} (h : zsh y a = (0, len, 0, 0)) : ent y M a = .inl (0, len, .inl (M.1 a)) := by
  unfold ent entS
  rw [h]
  rfl
theorem ent_bool {y : List Sh} {a len : Nat} {M : Mem} (h : zsh y a = (2, len, 0, 0)) : ent y M a = .inl (2, len, .inl (M.1 a)) := by
  unfold ent entS
  rw [h]
  rfl
theorem ent_long {y : List Sh} {a len : Nat} {M : Mem} (h : zsh y a = (1, len, 0, 0)) : ent y M a = .inl (1, len, .inr (.inl (M.2 a))) := by
  unfold ent entS
  rw [h]
  rfl
theorem ent_ref {y : List Sh} {a t len b k : Nat} {M : Mem} (h : zsh y a = (t, len, b, k)) (h3 : 3 ≤ t) (h9 : t < 10) : ent y M a = .inl (t, len, .inr (.inr (fun i => if i < len then some (a + b + k * i) else none))) := by
  unfold ent entS
  rw [h, if_neg (show ¬ 10 ≤ t by omega), if_neg (show ¬ t = 1 by omega), if_neg (show ¬ t ≤ 2 by omega)]
/-- the logic over the layout -/
def wp (y : List Sh) (m : Zm) (Q : Option Value → Mem → Prop) (pc : Nat) (lo : List (Nat × Value)) (st : List Value) (M : Mem) : Prop :=
  wp0 m (fun v n f => n = y.length ∧ ∃ M' : Mem, f = ent y M' ∧ Q v M') pc lo st 0 0 y.length (ent y M)
def Call (y : List Sh) (m : Zm) (as : List Value) (M : Mem) (Q : Option Value → Mem → Prop) : Prop :=
  Call0 m as y.length (ent y M) (fun v n f => n = y.length ∧ ∃ M' : Mem, f = ent y M' ∧ Q v M')
def QI (Q : Int32 → Mem → Prop) : Option Value → Mem → Prop := fun v M' => ∃ r : Int32, v = some (.int r) ∧ Q r M'
def QL (Q : Int64 → Mem → Prop) : Option Value → Mem → Prop := fun v M' => ∃ r : Int64, v = some (.long r) ∧ Q r M'
def QR (Q : Nat → Mem → Prop) : Option Value → Mem → Prop := fun v M' => ∃ r : Nat, v = some (.ref r) ∧ Q r M'
def QV (Q : Mem → Prop) : Option Value → Mem → Prop := fun v M' => v = none ∧ Q M'
def CallI (y : List Sh) (m : Zm) (as : List Value) (M : Mem) (Q : Int32 → Mem → Prop) : Prop := Call y m as M (QI Q)
def CallL (y : List Sh) (m : Zm) (as : List Value) (M : Mem) (Q : Int64 → Mem → Prop) : Prop := Call y m as M (QL Q)
def CallR (y : List Sh) (m : Zm) (as : List Value) (M : Mem) (Q : Nat → Mem → Prop) : Prop := Call y m as M (QR Q)
def CallV (y : List Sh) (m : Zm) (as : List Value) (M : Mem) (Q : Mem → Prop) : Prop := Call y m as M (QV Q)
theorem call_of {y : List Sh} {m : Zm} {as : List Value} {M : Mem} {Q : Option Value → Mem → Prop} (hpl : plainName (zy m).cls = true) (hlen : (lg_sl as).length ≤ zl m) (h : wp y m Q 0 (lv_args 0 as) [] M) : Call y m as M Q := call0_of hpl hlen h
