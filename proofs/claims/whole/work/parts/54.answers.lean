/-! What each promise answers, and what it leaves, in words of the state -/
/-- which mark has the code -/
def idx (x : Int32) : Option Nat := (List.range 62).find? (fun m => nI (mcode m) = x)
def rix (x0 x1 : Int32) : Int32 := if 3 ≤ x1 / 20 then -6 else if 3 < (x1 - x1 / 20 * 20) - 3 then -6 else if (x1 - x1 / 20 * 20) - 3 = 0 then -6 else if 0 ≤ (x1 - x1 / 20 * 20) - 3 then (x0 + ((x1 / 20) * 6)) + (((x1 - x1 / 20 * 20) - 3) + 2) else (x0 + ((x1 / 20) * 6)) + (((x1 - x1 / 20 * 20) - 3) + 3)
def mix (x : Int32) : Int32 := if x < 200 then (if x < 100 then (if x < 20 then (if x < 0 then -6 else if 13 ≤ x then -6 else x) else if 13 ≤ x - 20 then -6 else (13 + x) - 20) else rix 26 (x - 100)) else rix 44 (x - 200)
theorem mix_small : ∀ j, j < 300 → mix (nI j) = oI (idx (nI j)) := by decide +kernel
theorem mcode_lt : ∀ m, m < 62 → mcode m < 300 := by decide +kernel
theorem idx_spec {x : Int32} {m : Nat} (h : idx x = some m) : m < 62 ∧ x = nI (mcode m) := by
  have h1 := List.mem_of_find?_eq_some h
  have h2 := List.find?_some h
  exact ⟨List.mem_range.mp h1, (of_decide_eq_true h2).symm⟩
theorem idx_none {x : Int32} (h : ∀ m, m < 62 → nI (mcode m) ≠ x) : idx x = none := by
  rw [idx, List.find?_eq_none]
  intro m hm
  have := h m (List.mem_range.mp hm)
  simp [this]
theorem mix_ok (x : Int32) : mix x = oI (idx x) := by
  by_cases c : x < 0
  · rw [idx_none (fun m hm q => ?_)]
    · rw [mix, if_pos (by rw [Int32.lt_iff_toInt_lt] at c ⊢; exact Int.lt_of_lt_of_le c (by decide)), if_pos (by rw [Int32.lt_iff_toInt_lt] at c ⊢; exact Int.lt_of_lt_of_le c (by decide)), if_pos (by rw [Int32.lt_iff_toInt_lt] at c ⊢; exact Int.lt_of_lt_of_le c (by decide)), if_pos c]
      rfl
    · have hm2 := mcode_lt m hm
      rw [← q] at c
      rw [Int32.lt_iff_toInt_lt, nI_toInt (by omega)] at c
      have z0 : (0 : Int32).toInt = 0 := rfl
      omega
  obtain ⟨j, hj, rfl⟩ := nI_of c
  by_cases d : j < 300
  · exact mix_small j d
  · rw [idx_none (fun m hm q => ?_)]
    · have e1 : ¬ nI j < 200 := fun z => by
        rw [show (200 : Int32) = nI 200 from rfl, nI_ltI hj (by omega)] at z
        omega
      have e2 : nI j - 200 = nI (j - 200) := pk_sub (a := j) (b := 200) (by omega)
      have e3 : nI (j - 200) / 20 = nI ((j - 200) / 20) := pk_div (a := j - 200) (d := 20) (by omega) (by omega) (by omega)
      rw [mix, if_neg e1, e2, rix, e3, if_pos]
      · rfl
      · rw [show (3 : Int32) = nI 3 from rfl, nI_leI (by omega) (by omega)]
        omega
    · have hm2 := mcode_lt m hm
      rw [nI_eq (by omega) hj] at q
      omega
def exF (l : LI) : Int32 := if gt l (sE l 12 0) = 62 then (if sE l 5 (sE l 12 0 + 1) = l.length ∧ sE l 12 0 + 1 < sE l 5 (sE l 12 0 + 1) then -6 else nI (sE l 5 (sE l 12 0 + 1))) else nI (sE l 12 0)
def liF (l : LI) : Int32 := if sE l 12 0 = l.length then -6 else nI (sE l 12 0)
def aSay (A : AA) (x : Int32) : Int32 × AA := if x < 33 then (-2, A) else if x ≤ 126 then (if (aL A).length < 18 then (nI ((aL A).length + 1), (aL A ++ [x], aB A, aI A)) else (-4, A)) else (-2, A)
def aWipe (A : AA) : Int32 × AA := (nI (aL A).length, ([], aB A, aI A))
def aFault (A : AA) (x : Int32) : Int32 := if x = 0 then exF (aL A) else if x = 1 then liF (aL A) else -2
def addE (b : Bo) (l r : LI) : Bo := (bN b + 1, bM b, fu (bE b) (bN b) l, fu (bR b) (bN b) r, bP b)
def aExample (A : AA) : Int32 × AA := if exF (aL A) = -6 then (if bN (aB A) < 3 then (nI (bN (aB A) + 1), ([], addE (aB A) ((aL A).take (sE (aL A) 12 0)) ((aL A).drop (sE (aL A) 12 0 + 1)), aI A)) else (-4, A)) else (-5, A)
def aForget (A : AA) : Int32 × AA := if bN (aB A) = 0 then (-5, A) else (nI (bN (aB A) - 1), (aL A, (bN (aB A) - 1, bM (aB A), bE (aB A), bR (aB A), bP (aB A)), aI A))
def aPool (A : AA) : Int32 × AA := if liF (aL A) = -6 then (if bM (aB A) < 6 then (nI (bM (aB A) + 1), ([], (bN (aB A), bM (aB A) + 1, bE (aB A), bR (aB A), fu (bP (aB A)) (bM (aB A)) (aL A)), aI A)) else (-4, A)) else (-5, A)
def aDrain (A : AA) (x : Int32) : Int32 × AA := if ¬ x < 0 ∧ x < nI (bM (aB A)) then (nI (bM (aB A) - 1), (aL A, dropP (aB A) x.toNatClampNeg, aI A)) else (-1, A)
def aPlans (A : AA) : Int64 := if bN (aB A) = 0 then -3 else lN (CN (exs (aB A)))
def aCost (A : AA) (x : Int32) : Int32 := if -2 ≤ x then (if bN (aB A) = 0 then -3 else if (bp (aB A)).length = 0 then -6 else if 0 ≤ x then (if nI (bp (aB A)).length ≤ x then -6 else nI (pcost (g3 (bp (aB A)) x.toNatClampNeg))) else if x = -1 then nI (ls (bp (aB A)) pcost) else nI (bp (aB A)).length) else -2
def aPiece (A : AA) (x y : Int32) : Int32 := if bN (aB A) = 0 then -3 else if x < 0 then -1 else if x < nI (bp (aB A)).length then (if y < 0 then -2 else if y ≤ 2 then ptell (bR (aB A) 0) (g3 (bp (aB A)) x.toNatClampNeg) y else -2) else -1
def aPlace (A : AA) (x : Int32) : Int32 := if liF (aL A) = -6 then (match idx x with
  | none => -2
  | some m => oI (plc (aL A) m)) else -5
def aMakes (A : AA) (x : Int32) : Int32 := if liF (aL A) = -6 then (if bN (aB A) = 0 then -3 else if (bp (aB A)).length = 0 then -6 else if x = -1 then nI (mkL (aB A) (aL A)).length else if x < 0 then -6 else if nI (mkL (aB A) (aL A)).length ≤ x then -6 else gt (mkL (aB A) (aL A)) x.toNatClampNeg) else -5
def aAccept (A : AA) (x : Int32) : Int32 × AA := if ¬ x < 0 ∧ x < nI (bM (aB A)) then (if bN (aB A) = 0 then (-3, A) else if okM (mkL (aB A) (bP (aB A) x.toNatClampNeg)) then (if bN (aB A) < 3 then (nI (bN (aB A) + 1), (aL A, dropP (addE (aB A) (bP (aB A) x.toNatClampNeg) (mkL (aB A) (bP (aB A) x.toNatClampNeg))) x.toNatClampNeg, aI A)) else (-4, A)) else (-5, A)) else (-1, A)
def aAgreeing (A : AA) (x : Int32) : Int64 := if ¬ x < 0 ∧ x < nI (bM (aB A)) then (if bN (aB A) = 0 then -3 else if okM (mkL (aB A) (bP (aB A) x.toNatClampNeg)) then lN (agr (aB A) x.toNatClampNeg) else -5) else -1
def askF (b : Bo) : Nat → Nat → Option Nat → Nat → Option Nat
  | 0, _, f, _ => f
  | k + 1, i, f, few => if okM (mkL b (bP b i)) ∧ (f = none ∨ agr b i < few) then askF b k (i + 1) (some i) (agr b i) else askF b k (i + 1) f few
def aAsked (A : AA) : Int32 := if bN (aB A) = 0 then -3 else oI (askF (aB A) (bM (aB A)) 0 none 0)
def aImage (A : AA) (x : Int32) : Int32 × AA := if x < 0 then (-2, A) else if x < 2 then (1, (aL A, aB A, fun i => if i = x.toNatClampNeg then some (aB A) else aI A i)) else (-2, A)
def aRestore (A : AA) (x : Int32) : Int32 × AA := if x < 0 then (-2, A) else if x < 2 then (match aI A x.toNatClampNeg with
  | none => (-3, A)
  | some b => (1, (aL A, b, aI A))) else (-2, A)
def aTold (A : AA) (x : Int32) : Int32 := if x = 0 then nI (aL A).length else if x = 1 then nI (bN (aB A)) else if x = 2 then nI (bM (aB A)) else
  if 10 ≤ x ∧ x < nI (10 + bN (aB A)) then nI (bE (aB A) (x.toNatClampNeg - 10)).length else
  if 20 ≤ x ∧ x < nI (20 + bN (aB A)) then nI (bR (aB A) (x.toNatClampNeg - 20)).length else
  if 30 ≤ x ∧ x < nI (30 + bM (aB A)) then nI (bP (aB A) (x.toNatClampNeg - 30)).length else -2
/-! what is left keeps the limits -/
theorem sE_spec {l : LI} : ∀ (k e : Nat), e ≤ sE l k e ∧ sE l k e ≤ e + k ∧ (∀ i, e ≤ i → i < sE l k e → i < l.length ∧ kd (gt l i) ≠ -6) := by
  intro k
  induction k with
  | zero => exact fun e => ⟨Nat.le_refl _, Nat.le_refl _, fun i h1 h2 => absurd h2 (by rw [sE]; omega)⟩
  | succ k ih =>
    intro e
    rw [sE]
    by_cases c : e < l.length ∧ kd (gt l e) ≠ -6
    · rw [if_pos c]
      have h := ih (e + 1)
      refine ⟨by omega, by omega, fun i h1 h2 => ?_⟩
      by_cases z : i = e
      · subst z
        exact c
      · exact h.2.2 i (by omega) h2
    · rw [if_neg c]
      exact ⟨Nat.le_refl _, by omega, fun i h1 h2 => absurd h2 (by omega)⟩
theorem gt_take {l : LI} {n i : Nat} (h : i < n) : gt (l.take n) i = gt l i := by
  simp [gt, List.getD_eq_getElem?_getD, List.getElem?_take, h]
theorem gt_drop {l : LI} {n i : Nat} : gt (l.drop n) i = gt l (n + i) := by
  simp [gt, List.getD_eq_getElem?_getD, List.getElem?_drop]
theorem okS_nil : okS [] := fun i h => absurd h (Nat.not_lt_zero i)
theorem okS_app {l r : LI} (h : okS l) (h2 : okS r) : okS (l ++ r) := fun i hi => by
  rw [List.length_append] at hi
  by_cases e : i < l.length
  · rw [gt_app1 e]
    exact h i e
  · rw [gt_app2 (by omega)]
    exact h2 _ (by omega)
theorem okS_take {l : LI} (h : okS l) (n : Nat) : okS (l.take n) := fun i hi => by
  rw [List.length_take] at hi
  rw [gt_take (by omega)]
  exact h i (by omega)
theorem okS_drop {l : LI} (h : okS l) (n : Nat) : okS (l.drop n) := fun i hi => by
  rw [List.length_drop] at hi
  rw [gt_drop]
  exact h _ (by omega)
theorem liF_ok {l : LI} (h : liF l = -6) : okL l := by
  have s := sE_spec (l := l) 12 0
  by_cases c : sE l 12 0 = l.length
  · exact ⟨by omega, fun i hi => (s.2.2 i (Nat.zero_le _) (by omega)).2⟩
  · rw [liF, if_neg c] at h
    exact absurd h (nI_ne6 (by omega))
theorem exF_ok {l : LI} (h : exF l = -6) : okL (l.take (sE l 12 0)) ∧ okR (l.drop (sE l 12 0 + 1)) ∧ sE l 12 0 ≤ 12 ∧ sE l 12 0 + 1 < l.length := by
  have s := sE_spec (l := l) 12 0
  have s2 := sE_spec (l := l) 5 (sE l 12 0 + 1)
  unfold exF at h
  by_cases c : gt l (sE l 12 0) = 62
  · rw [if_pos c] at h
    by_cases d : sE l 5 (sE l 12 0 + 1) = l.length ∧ sE l 12 0 + 1 < sE l 5 (sE l 12 0 + 1)
    · refine ⟨⟨by rw [List.length_take]; omega, fun i hi => ?_⟩, ⟨by rw [List.length_drop]; omega, by rw [List.length_drop]; omega, fun i hi => ?_⟩, by omega, by omega⟩
      · rw [List.length_take] at hi
        rw [gt_take (by omega)]
        exact (s.2.2 i (Nat.zero_le _) (by omega)).2
      · rw [List.length_drop] at hi
        rw [gt_drop]
        exact (s2.2.2 _ (by omega) (by omega)).2
    · rw [if_neg d] at h
      exact absurd h (nI_ne6 (by omega))
  · rw [if_neg c] at h
    exact absurd h (nI_ne6 (by omega))
theorem pm_okS {r0 l : LI} {p : T3} {x : LI} (hl : okS l) (hr : okS r0) (h : pm r0 l p = some x) : okS x := by
  unfold pm at h
  split at h
  · split at h
    · split at h
      · cases h
        exact okS_drop (okS_take hl _) _
      · cases h
    · cases h
  · cases h
    exact okS_drop (okS_take hr _) _
theorem mkF_okS {r0 l : LI} (hl : okS l) (hr : okS r0) : ∀ (ps : List T3) (acc : LI), okS acc → okS (mkF r0 l ps acc) := by
  intro ps
  induction ps with
  | nil => exact fun acc h => h
  | cons p ps ih =>
    intro acc h
    rw [mkF]
    cases e : pm r0 l p with
    | none => exact okS_nil
    | some x => exact ih _ (okS_app h (pm_okS hl hr e))
theorem mkL_okR {b : Bo} (hb : VB b) (h0 : 0 < bN b) {l : LI} (hl : okS l) (h : okM (mkL b l)) : okR (mkL b l) :=
  ⟨h.1, h.2, mkF_okS hl (hb.2.2.1 0 h0).2.2.2 _ _ okS_nil⟩
theorem VB_addE {b : Bo} (hb : VB b) (h3 : bN b < 3) {l r : LI} (hl : okL l) (hr : okR r) : VB (addE b l r) := by
  refine ⟨h3, hb.2.1, fun i hi => ?_, hb.2.2.2⟩
  show okL (fu (bE b) (bN b) l i) ∧ okR (fu (bR b) (bN b) r i)
  have hi2 : i < bN b + 1 := hi
  by_cases e : i = bN b
  · subst e
    rw [fu_s, fu_s]
    exact ⟨hl, hr⟩
  · rw [fu_n e, fu_n e]
    exact hb.2.2.1 i (by omega)
theorem VB_dropP {b : Bo} (hb : VB b) (x : Nat) : VB (dropP b x) := by
  have h6 := hb.2.1
  refine ⟨hb.1, by show bM b - 1 ≤ 6; omega, hb.2.2.1, fun i hi => ?_⟩
  show okL (if x ≤ i ∧ i + 1 < bM b then bP b (i + 1) else bP b i)
  have hi2 : i < bM b - 1 := hi
  split
  · exact hb.2.2.2 _ (by omega)
  · exact hb.2.2.2 _ (by omega)
section ZVA
variable {A : AA}
theorem VA_say (h : VA A) (x : Int32) : VA (aSay A x).2 := by
  unfold aSay
  repeat' split
  all_goals first
    | exact h
    | exact ⟨by show (aL A ++ [x]).length ≤ 18; rw [List.length_append]; simp; omega, h.2⟩
theorem VA_wipe (h : VA A) : VA (aWipe A).2 := ⟨Nat.zero_le _, h.2⟩
theorem VA_example (h : VA A) : VA (aExample A).2 := by
  unfold aExample
  by_cases c : exF (aL A) = -6
  · rw [if_pos c]
    by_cases d : bN (aB A) < 3
    · rw [if_pos d]
      have e := exF_ok c
      exact ⟨Nat.zero_le _, VB_addE h.2.1 d e.1 e.2.1, h.2.2⟩
    · rw [if_neg d]
      exact h
  · rw [if_neg c]
    exact h
theorem VA_forget (h : VA A) : VA (aForget A).2 := by
  unfold aForget
  split
  · exact h
  · have h3 := h.2.1.1
    exact ⟨h.1, ⟨by show bN (aB A) - 1 ≤ 3; omega, h.2.1.2.1, fun i hi => h.2.1.2.2.1 i (by have : i < bN (aB A) - 1 := hi; omega), h.2.1.2.2.2⟩, h.2.2⟩
theorem VA_pool (h : VA A) : VA (aPool A).2 := by
  unfold aPool
  by_cases c : liF (aL A) = -6
  · rw [if_pos c]
    by_cases d : bM (aB A) < 6
    · rw [if_pos d]
      refine ⟨Nat.zero_le _, ⟨h.2.1.1, d, h.2.1.2.2.1, fun i hi => ?_⟩, h.2.2⟩
      have hi2 : i < bM (aB A) + 1 := hi
      show okL (fu (bP (aB A)) (bM (aB A)) (aL A) i)
      by_cases e : i = bM (aB A)
      · subst e
        rw [fu_s]
        exact liF_ok c
      · rw [fu_n e]
        exact h.2.1.2.2.2 i (by omega)
    · rw [if_neg d]
      exact h
  · rw [if_neg c]
    exact h
theorem VA_drain (h : VA A) (x : Int32) : VA (aDrain A x).2 := by
  unfold aDrain
  split
  · exact ⟨h.1, VB_dropP h.2.1 _, h.2.2⟩
  · exact h
theorem kno_nat {b : Bo} (hm : bM b ≤ 6) {x : Int32} (h : ¬ x < 0 ∧ x < nI (bM b)) : x.toNatClampNeg < bM b ∧ x = nI x.toNatClampNeg := by
  obtain ⟨i, hi, rfl⟩ := (kno_iff hm).mp h
  rw [nI_clamp (by omega)]
  exact ⟨hi, rfl⟩
theorem VA_accept (h : VA A) (x : Int32) : VA (aAccept A x).2 := by
  unfold aAccept
  by_cases c : ¬ x < 0 ∧ x < nI (bM (aB A))
  · rw [if_pos c]
    by_cases c0 : bN (aB A) = 0
    · rw [if_pos c0]
      exact h
    rw [if_neg c0]
    by_cases d : okM (mkL (aB A) (bP (aB A) x.toNatClampNeg))
    · rw [if_pos d]
      by_cases e : bN (aB A) < 3
      · rw [if_pos e]
        have hl := h.2.1.2.2.2 _ (kno_nat h.2.1.2.1 c).1
        exact ⟨h.1, VB_dropP (VB_addE h.2.1 e hl (mkL_okR h.2.1 (by omega) hl.2 d)) _, h.2.2⟩
      · rw [if_neg e]
        exact h
    · rw [if_neg d]
      exact h
  · rw [if_neg c]
    exact h
theorem VA_image (h : VA A) (x : Int32) : VA (aImage A x).2 := by
  unfold aImage
  split
  · exact h
  split
  · refine ⟨h.1, h.2.1, fun i b hb => ?_⟩
    have hb2 : (if i = x.toNatClampNeg then some (aB A) else aI A i) = some b := hb
    split at hb2
    · cases hb2
      exact h.2.1
    · exact h.2.2 i b hb2
  · exact h
theorem VA_restore (h : VA A) (x : Int32) : VA (aRestore A x).2 := by
  unfold aRestore
  split
  · exact h
  split
  · cases e : aI A x.toNatClampNeg with
    | none => exact h
    | some b => exact ⟨h.1, h.2.2 _ b e, h.2.2⟩
  · exact h
end ZVA
