/-! Runs from the right: their ends tell the same runs as their begins -/
def isE (l : LI) (c : Int32) (i : Nat) : Bool := decide (kd (gt l i) = c) && (decide (l.length ≤ i + 1) || decide (kd (gt l (i + 1)) ≠ c))
def bg (l : LI) (c : Int32) : Nat → Nat
  | 0 => 0
  | r + 1 => if kd (gt l r) = c then bg l c r else r + 1
def scanM (l : LI) (c : Int32) (up : Bool) : Nat → Nat → Nat → Option Nat
  | 0, _, _ => none
  | k + 1, i, n => if (if up then isB l c i else isE l c (l.length - 1 - i)) then (match n with
      | 0 => some (if up then i else l.length - 1 - i)
      | n + 1 => scanM l c up k (i + 1) n) else scanM l c up k (i + 1) n
theorem scan_z {l : LI} {c : Int32} {up : Bool} {k i : Nat} : scan l c up (k + 1) i 0 = if isB l c (if up then i else l.length - 1 - i) then some (if up then i else l.length - 1 - i) else scan l c up k (i + 1) 0 := rfl
theorem scan_s {l : LI} {c : Int32} {up : Bool} {k i n : Nat} : scan l c up (k + 1) i (n + 1) = if isB l c (if up then i else l.length - 1 - i) then scan l c up k (i + 1) n else scan l c up k (i + 1) (n + 1) := rfl
theorem scanM_z {l : LI} {c : Int32} {up : Bool} {k i : Nat} : scanM l c up (k + 1) i 0 = if (if up then isB l c i else isE l c (l.length - 1 - i)) then some (if up then i else l.length - 1 - i) else scanM l c up k (i + 1) 0 := rfl
theorem scanM_s {l : LI} {c : Int32} {up : Bool} {k i n : Nat} : scanM l c up (k + 1) i (n + 1) = if (if up then isB l c i else isE l c (l.length - 1 - i)) then scanM l c up k (i + 1) n else scanM l c up k (i + 1) (n + 1) := rfl
theorem isB_iff {l : LI} {c : Int32} {i : Nat} : isB l c i = true ↔ kd (gt l i) = c ∧ (i = 0 ∨ kd (gt l (i - 1)) ≠ c) := by
  simp [isB]
theorem isE_iff {l : LI} {c : Int32} {i : Nat} : isE l c i = true ↔ kd (gt l i) = c ∧ (l.length ≤ i + 1 ∨ kd (gt l (i + 1)) ≠ c) := by
  simp [isE]
theorem bg_B {l : LI} {c : Int32} {i : Nat} (h : isB l c i = true) : bg l c i = i := by
  rw [isB_iff] at h
  cases i with
  | zero => rfl
  | succ i =>
    rw [bg, if_neg]
    rcases h.2 with q | q
    · cases q
    · rw [Nat.add_sub_cancel] at q
      exact q
theorem bg_le {l : LI} {c : Int32} : ∀ (i : Nat), bg l c i ≤ i ∧ ∀ j, bg l c i ≤ j → j < i → kd (gt l j) = c
  | 0 => ⟨Nat.le_refl _, fun j _ h => absurd h (Nat.not_lt_zero j)⟩
  | i + 1 => by
    rw [bg]
    by_cases q : kd (gt l i) = c
    · rw [if_pos q]
      have h := bg_le (l := l) (c := c) i
      refine ⟨by omega, fun j h1 h2 => ?_⟩
      by_cases e : j = i
      · subst e
        exact q
      · exact h.2 j h1 (by omega)
    · rw [if_neg q]
      exact ⟨Nat.le_refl _, fun j h1 h2 => absurd h2 (by omega)⟩
theorem scan_M {l : LI} {c : Int32} : ∀ (k i : Nat), i + k = l.length →
    ((k < l.length → 0 < k → kd (gt l k) = c → kd (gt l (k - 1)) = c → (scan l c false k i 0 = some (bg l c k) ∧ ∀ n, scan l c false k i (n + 1) = (scanM l c false k i n).map (bg l c))) ∧
     ((k = 0 ∨ k = l.length ∨ kd (gt l k) ≠ c ∨ kd (gt l (k - 1)) ≠ c) → ∀ n, scan l c false k i n = (scanM l c false k i n).map (bg l c))) := by
  intro k
  induction k with
  | zero => exact fun i _ => ⟨fun _ h => absurd h (Nat.lt_irrefl 0), fun _ _ => rfl⟩
  | succ r ih =>
    intro i hi
    have hp : l.length - 1 - i = r := by omega
    obtain ⟨ihC, ihA⟩ := ih (i + 1) (by omega)
    have s1 : ∀ n, scan l c false (r + 1) i n = if isB l c r then (match n with
      | 0 => some r
      | n + 1 => scan l c false r (i + 1) n) else scan l c false r (i + 1) n := fun n => by
      cases n with
      | zero =>
        rw [scan_z]
        simp only [Bool.false_eq_true, if_false, hp]
      | succ n =>
        rw [scan_s]
        simp only [Bool.false_eq_true, if_false, hp]
    have s2 : ∀ n, scanM l c false (r + 1) i n = if isE l c r then (match n with
      | 0 => some r
      | n + 1 => scanM l c false r (i + 1) n) else scanM l c false r (i + 1) n := fun n => by
      cases n with
      | zero =>
        rw [scanM_z]
        simp only [Bool.false_eq_true, if_false, hp]
      | succ n =>
        rw [scanM_s]
        simp only [Bool.false_eq_true, if_false, hp]
    refine ⟨fun h1 _ h3 h4 => ?_, fun h n => ?_⟩
    · rw [Nat.add_sub_cancel] at h4
      have nE : ¬ isE l c r = true := fun z => by
        rw [isE_iff] at z
        rcases z.2 with q | q
        · omega
        · exact q h3
      have eb : bg l c (r + 1) = bg l c r := by rw [bg, if_pos h4]
      by_cases b : isB l c r = true
      · refine ⟨by rw [s1, if_pos b, eb, bg_B b], fun n => ?_⟩
        rw [s1, if_pos b, s2, if_neg nE]
        refine ihA ?_ n
        rw [isB_iff] at b
        exact b.2.elim Or.inl (fun q => Or.inr (Or.inr (Or.inr q)))
      · have b2 : 0 < r ∧ kd (gt l (r - 1)) = c := by
          rw [isB_iff] at b
          refine ⟨Nat.pos_of_ne_zero fun q => b ⟨h4, Or.inl q⟩, Classical.byContradiction fun q => b ⟨h4, Or.inr q⟩⟩
        have := ihC (by omega) b2.1 h4 b2.2
        refine ⟨by rw [s1, if_neg b, eb]; exact this.1, fun n => ?_⟩
        rw [s1, if_neg b, s2, if_neg nE]
        exact this.2 n
    · rw [s1, s2]
      by_cases q : kd (gt l r) = c
      · have hE : isE l c r = true := by
          rw [isE_iff]
          refine ⟨q, ?_⟩
          rcases h with h | h | h | h
          · omega
          · exact Or.inl (by omega)
          · exact Or.inr h
          · rw [Nat.add_sub_cancel] at h
            exact absurd q h
        rw [if_pos hE]
        by_cases b : isB l c r = true
        · rw [if_pos b]
          cases n with
          | zero => rw [Option.map_some, bg_B b]
          | succ n =>
            refine ihA ?_ n
            rw [isB_iff] at b
            exact b.2.elim Or.inl (fun q => Or.inr (Or.inr (Or.inr q)))
        · rw [if_neg b]
          have b2 : 0 < r ∧ kd (gt l (r - 1)) = c := by
            rw [isB_iff] at b
            refine ⟨Nat.pos_of_ne_zero fun z => b ⟨q, Or.inl z⟩, Classical.byContradiction fun z => b ⟨q, Or.inr z⟩⟩
          have := ihC (by omega) b2.1 q b2.2
          cases n with
          | zero => exact this.1
          | succ n => exact this.2 n
      · rw [if_neg (fun z => q (isB_iff.mp z).1), if_neg (fun z => q (isE_iff.mp z).1)]
        exact ihA (Or.inr (Or.inr (Or.inl q))) n
theorem scan_up {l : LI} {c : Int32} : ∀ (k i n : Nat), scan l c true k i n = (scanM l c true k i n).map (bg l c) := by
  intro k
  induction k with
  | zero => exact fun i n => rfl
  | succ k ih =>
    intro i n
    cases n with
    | zero =>
      rw [scan_z, scanM_z]
      simp only [if_true]
      by_cases b : isB l c i = true
      · rw [if_pos b, if_pos b, Option.map_some, bg_B b]
      · rw [if_neg b, if_neg b]
        exact ih (i + 1) 0
    | succ n =>
      rw [scan_s, scanM_s]
      simp only [if_true]
      by_cases b : isB l c i = true
      · rw [if_pos b, if_pos b]
        exact ih (i + 1) n
      · rw [if_neg b, if_neg b]
        exact ih (i + 1) (n + 1)
theorem scan_eq {l : LI} {c : Int32} {up : Bool} {n : Nat} : scan l c up l.length 0 n = (scanM l c up l.length 0 n).map (bg l c) := by
  cases up with
  | true => exact scan_up _ _ _
  | false => exact (scan_M l.length 0 (Nat.zero_add _)).2 (Or.inr (Or.inl rfl)) n
theorem scanM_lt {l : LI} {c : Int32} {up : Bool} : ∀ (k i n b : Nat), i + k = l.length → scanM l c up k i n = some b → b < l.length ∧ kd (gt l b) = c
  | 0, i, n, b, _, h => by simp [scanM] at h
  | k + 1, i, 0, b, hk, h => by
    rw [scanM_z] at h
    by_cases q : (if up then isB l c i else isE l c (l.length - 1 - i)) = true
    · rw [if_pos q] at h
      cases h
      cases up with
      | true => exact ⟨by show i < _; omega, (isB_iff.mp q).1⟩
      | false => exact ⟨by show l.length - 1 - i < _; omega, (isE_iff.mp q).1⟩
    · rw [if_neg q] at h
      exact scanM_lt k (i + 1) 0 b (by omega) h
  | k + 1, i, n + 1, b, hk, h => by
    rw [scanM_s] at h
    by_cases q : (if up then isB l c i else isE l c (l.length - 1 - i)) = true
    · rw [if_pos q] at h
      exact scanM_lt k (i + 1) n b (by omega) h
    · rw [if_neg q] at h
      exact scanM_lt k (i + 1) (n + 1) b (by omega) h
theorem rE_uniq {l : LI} {c : Int32} {x : Nat} : ∀ (k e : Nat), e ≤ x → x ≤ e + k → (∀ j, e ≤ j → j < x → j < l.length ∧ kd (gt l j) = c) → ¬ (x < l.length ∧ kd (gt l x) = c) → rE l c k e = x
  | 0, e, h1, h2, _, _ => by rw [rE]; omega
  | k + 1, e, h1, h2, h3, h4 => by
    rw [rE]
    by_cases q : e = x
    · subst q
      rw [if_neg h4]
    · rw [if_pos (h3 e (Nat.le_refl _) (by omega))]
      exact rE_uniq k (e + 1) (by omega) (by omega) (fun j h5 h6 => h3 j (by omega) h6) h4
theorem rE_spec {l : LI} {c : Int32} : ∀ (k e : Nat), l.length ≤ e + k → e ≤ rE l c k e ∧ rE l c k e ≤ e + k ∧ (∀ j, e ≤ j → j < rE l c k e → j < l.length ∧ kd (gt l j) = c) ∧ ¬ (rE l c k e < l.length ∧ kd (gt l (rE l c k e)) = c)
  | 0, e, h => by
    rw [rE]
    exact ⟨Nat.le_refl _, Nat.le_refl _, fun j h1 h2 => absurd h2 (by omega), fun z => absurd z.1 (by omega)⟩
  | k + 1, e, h => by
    rw [rE]
    by_cases q : e < l.length ∧ kd (gt l e) = c
    · rw [if_pos q]
      have s := rE_spec (l := l) (c := c) k (e + 1) (by omega)
      refine ⟨by omega, by omega, fun j h1 h2 => ?_, s.2.2.2⟩
      by_cases z : j = e
      · subst z
        exact q
      · exact s.2.2.1 j (by omega) h2
    · rw [if_neg q]
      exact ⟨Nat.le_refl _, by omega, fun j h1 h2 => absurd h2 (by omega), q⟩
/-- what the reference makes of the run that it found -/
theorem run_eq {l : LI} {c : Int32} {p : Nat} (hp : p < l.length) (hk : kd (gt l p) = c) : rE l (kd (gt l (bg l c p))) l.length (bg l c p + 1) = rE l c l.length (p + 1) := by
  have b := bg_le (l := l) (c := c) p
  have hb : kd (gt l (bg l c p)) = c := by
    by_cases e : bg l c p = p
    · rw [e]
      exact hk
    · exact b.2 _ (Nat.le_refl _) (by omega)
  rw [hb]
  have s := rE_spec (l := l) (c := c) l.length (p + 1) (by omega)
  refine rE_uniq _ _ (by omega) ?_ (fun j h1 h2 => ?_) s.2.2.2
  · have : rE l c l.length (p + 1) ≤ l.length := by
      by_cases z : rE l c l.length (p + 1) = p + 1
      · omega
      · have := s.2.2.1 (rE l c l.length (p + 1) - 1) (by omega) (by omega)
        omega
    omega
  · by_cases z : j ≤ p
    · refine ⟨by omega, ?_⟩
      by_cases e : j = p
      · subst e
        exact hk
      · exact b.2 j (by omega) (by omega)
    · exact s.2.2.1 j (by omega) h2
