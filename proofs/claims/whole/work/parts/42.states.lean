/-! states: digits, and where pieces lead -/
theorem dv_gt {a c i j : Nat} (h : dg a i + c ≤ 5) (hj : i < j) : (a + c * 6 ^ i) / 6 ^ j = a / 6 ^ j := by
  obtain ⟨d, rfl⟩ : ∃ d, j = i + 1 + d := ⟨j - (i + 1), by omega⟩
  have hp : 0 < 6 ^ i := Nat.pow_pos (by omega)
  have e : ∀ x : Nat, x / 6 ^ (i + 1 + d) = x / 6 ^ i / 6 / 6 ^ d := fun x => by
    rw [Nat.pow_add, Nat.pow_succ, ← Nat.div_div_eq_div_mul, ← Nat.div_div_eq_div_mul]
  rw [e, e, Nat.add_mul_div_right _ _ hp]
  unfold dg at h
  congr 1
  omega
theorem dv_le {a c i j : Nat} (hj : j ≤ i) : (a + c * 6 ^ i) / 6 ^ j = a / 6 ^ j + c * 6 ^ (i - j) := by
  have hp : 0 < 6 ^ j := Nat.pow_pos (by omega)
  have e : c * 6 ^ i = c * 6 ^ (i - j) * 6 ^ j := by
    rw [Nat.mul_assoc, ← Nat.pow_add, show i - j + j = i by omega]
  rw [e, Nat.add_mul_div_right _ _ hp]
theorem dg_add {a c i : Nat} (h : dg a i + c ≤ 5) (j : Nat) : dg (a + c * 6 ^ i) j = if j = i then dg a i + c else dg a j := by
  by_cases e : j = i
  · subst e
    rw [if_pos rfl]
    unfold dg at h ⊢
    rw [dv_le (Nat.le_refl _), Nat.sub_self, Nat.pow_zero, Nat.mul_one]
    omega
  · rw [if_neg e]
    by_cases hj : j < i
    · unfold dg
      rw [dv_le (by omega)]
      obtain ⟨d, hd⟩ : ∃ d, i - j = d + 1 := ⟨i - j - 1, by omega⟩
      rw [hd, Nat.pow_succ, ← Nat.mul_assoc]
      omega
    · unfold dg
      rw [dv_gt h (by omega)]
/-- states that can be -/
def VS (rs : RS) (s : Nat) : Prop := s / 6 ^ rs.length = 0 ∧ ∀ i, i < rs.length → dg s i ≤ (rt rs i).length
theorem dg_zero (i : Nat) : dg 0 i = 0 := by unfold dg; rw [Nat.zero_div]
theorem VS_0 (rs : RS) : VS rs 0 := ⟨Nat.zero_div _, fun i _ => by rw [dg_zero]; omega⟩
theorem VS_lt {rs : RS} (hv : VR rs) {s : Nat} (h : VS rs s) : s < 1296 := by
  have hk := hv.1
  have hp : 6 ^ rs.length ≤ 6 ^ 4 := Nat.pow_le_pow_right (by omega) hk
  rw [show (6 : Nat) ^ 4 = 1296 from rfl] at hp
  have hp0 : 0 < 6 ^ rs.length := Nat.pow_pos (by omega)
  have := (Nat.div_eq_zero_iff_lt hp0).mp h.1
  omega
theorem VS_le {rs : RS} {s : Nat} (h : VS rs s) : s ≤ enT rs := by
  have key : ∀ (k i acc acc' : Nat), i + k = rs.length → acc ≤ acc' → acc + s / 6 ^ i * 6 ^ i ≤ enF rs k i acc' := by
    intro k
    induction k with
    | zero =>
      intro i acc acc' hi ha
      rw [show i = rs.length by omega, h.1, enF]
      omega
    | succ k ih =>
      intro i acc acc' hi ha
      rw [enF]
      have hd := h.2 i (by omega)
      have e : s / 6 ^ i * 6 ^ i = dg s i * 6 ^ i + s / 6 ^ (i + 1) * 6 ^ (i + 1) := by
        rw [← div6, Nat.pow_succ, Nat.mul_comm (6 ^ i) 6, ← Nat.mul_assoc, ← Nat.add_mul]
        congr 1
        unfold dg
        omega
      have hm : dg s i * 6 ^ i ≤ (rt rs i).length * 6 ^ i := Nat.mul_le_mul_right _ hd
      have := ih (i + 1) (acc + dg s i * 6 ^ i) (acc' + (rt rs i).length * 6 ^ i) (by omega) (by omega)
      omega
  have := key rs.length 0 0 0 (by omega) (Nat.le_refl _)
  rw [Nat.pow_zero, Nat.div_one, Nat.mul_one, Nat.zero_add] at this
  exact this
theorem ctF_dg {rs : RS} (hv : ∀ i, i < rs.length → (rt rs i).length ≤ 5) {s m1 m2 t : Nat} (hs : VS rs s) : ∀ (k i acc : Nat), i + k = rs.length → (∀ j, i ≤ j → dg acc j = dg s j) → acc / 6 ^ rs.length = 0 → ctF rs s m1 m2 k i acc = some t → t / 6 ^ rs.length = 0 ∧ (∀ j, j < i → dg t j = dg acc j) ∧ (∀ j, i ≤ j → j < i + k → 0 < ctl (ln rs j) (rt rs j) m1 m2 (dg s j) ∧ dg t j = dg s j + ctl (ln rs j) (rt rs j) m1 m2 (dg s j))
  | 0, i, acc, hk, hd, h0, h => by
    simp only [ctF, Option.some.injEq] at h
    subst h
    exact ⟨h0, fun j _ => rfl, fun j h1 h2 => absurd h1 (by omega)⟩
  | k + 1, i, acc, hk, hd, h0, h => by
    rw [ctF] at h
    split at h
    · cases h
    · rename_i hne
      have h5 := hv i (by omega)
      have hl := hs.2 i (by omega)
      have hc := ctl_le (ln rs i) (rt rs i) m1 m2 (dg s i)
      have hda := hd i (Nat.le_refl _)
      generalize hcc : ctl (ln rs i) (rt rs i) m1 m2 (dg s i) = c at h hne hc
      have hle : dg acc i + c ≤ 5 := by omega
      have ih := ctF_dg hv hs k (i + 1) (acc + c * 6 ^ i) (by omega) (fun j hj => by rw [dg_add hle, if_neg (by omega)]; exact hd j (by omega)) (by rw [dv_gt hle (by omega)]; exact h0) h
      refine ⟨ih.1, fun j hj => ?_, fun j h1 h2 => ?_⟩
      · rw [ih.2.1 j (by omega), dg_add hle, if_neg (by omega)]
      · by_cases e : j = i
        · subst e
          rw [hcc]
          refine ⟨by omega, ?_⟩
          rw [ih.2.1 j (by omega), dg_add hle, if_pos rfl, hda]
        · exact ih.2.2 j (by omega) (by omega)
theorem ctT_V {rs : RS} (hv : VR rs) {s m1 m2 t : Nat} (hs : VS rs s) (h : ctT rs s m1 m2 = some t) : VS rs t ∧ ∀ j, j < rs.length → dg s j < dg t j := by
  have d := ctF_dg (fun i hi => (hv.2 i hi).2) hs rs.length 0 s (by omega) (fun j _ => rfl) hs.1 h
  refine ⟨⟨d.1, fun i hi => ?_⟩, fun j hj => ?_⟩
  · have a := (d.2.2 i (Nat.zero_le _) (by omega)).2
    have hc := ctl_le (ln rs i) (rt rs i) m1 m2 (dg s i)
    have hl := hs.2 i hi
    omega
  · have a := d.2.2 j (Nat.zero_le _) (by omega)
    omega
theorem nxF_all {rs : RS} {s a : Nat} {x : Int32} : ∀ (k i : Nat), nxF rs s a x k i = true → ∀ r, i ≤ r → r < i + k → gt (rt rs r) (dg s r + a) = x
  | 0, i, _, r, h1, h2 => absurd h2 (by omega)
  | k + 1, i, h, r, h1, h2 => by
    rw [nxF] at h
    split at h
    · rename_i q
      by_cases e : r = i
      · rw [e]; exact q
      · exact nxF_all k (i + 1) h r (by omega) (by omega)
    · cases h
theorem lgT_all {rs : RS} {s n : Nat} (h : n ≤ lgT rs s) {r : Nat} (hr : r < rs.length) (hs : dg s r ≤ (rt rs r).length) : dg s r + n ≤ (rt rs r).length ∧ ∀ k, k < n → gt (rt rs r) (dg s r + k) = gt (rt rs 0) (dg s 0 + k) := by
  have key : ∀ k, k < n → gt (rt rs r) (dg s r + k) = gt (rt rs 0) (dg s 0 + k) ∧ gt (rt rs r) (dg s r + k) ≠ 0 := fun k hk => by
    have q := lgF_in 5 0 k (Nat.zero_le _) (show k < lgT rs s by omega)
    have e := nxF_all _ _ q r (Nat.zero_le _) (by omega)
    exact ⟨e, by rw [e]; exact nxF_ne _ _ q⟩
  refine ⟨?_, fun k hk => (key k hk).1⟩
  by_cases h0 : n = 0
  · omega
  · by_cases q : (rt rs r).length ≤ dg s r + (n - 1)
    · exact absurd (gt_ge q) (key (n - 1) (by omega)).2
    · omega
theorem txF_dg {rs : RS} {s n k0 : Nat} (hle : ∀ i, i < rs.length → dg s i + n ≤ 5) : ∀ (k i acc : Nat), i + k = rs.length → (∀ j, i ≤ j → dg acc j = dg s j) → acc / 6 ^ rs.length = 0 → txF k0 n k i acc / 6 ^ rs.length = 0 ∧ (∀ j, j < i → dg (txF k0 n k i acc) j = dg acc j) ∧ (∀ j, i ≤ j → j < i + k → dg (txF k0 n k i acc) j = dg s j + n)
  | 0, i, acc, hk, hd, h0 => ⟨h0, fun j _ => rfl, fun j h1 h2 => absurd h1 (by omega)⟩
  | k + 1, i, acc, hk, hd, h0 => by
    rw [txF]
    have hda := hd i (Nat.le_refl _)
    have h5 := hle i (by omega)
    have hle2 : dg acc i + n ≤ 5 := by omega
    have ih := txF_dg (k0 := k0) hle k (i + 1) (acc + n * 6 ^ i) (by omega) (fun j hj => by rw [dg_add hle2, if_neg (by omega)]; exact hd j (by omega)) (by rw [dv_gt hle2 (by omega)]; exact h0)
    refine ⟨ih.1, fun j hj => ?_, fun j h1 h2 => ?_⟩
    · rw [ih.2.1 j (by omega), dg_add hle2, if_neg (by omega)]
    · by_cases e : j = i
      · subst e
        rw [ih.2.1 j (by omega), dg_add hle2, if_pos rfl, hda]
      · exact ih.2.2 j (by omega) (by omega)
theorem txT_V {rs : RS} (hv : VR rs) {s n : Nat} (hs : VS rs s) (h : n ≤ lgT rs s) : VS rs (txT rs s n) ∧ ∀ j, j < rs.length → dg (txT rs s n) j = dg s j + n := by
  have hle : ∀ i, i < rs.length → dg s i + n ≤ (rt rs i).length := fun i hi => (lgT_all h hi (hs.2 i hi)).1
  have d := txF_dg (k0 := rs.length) (fun i hi => Nat.le_trans (hle i hi) (hv.2 i hi).2) rs.length 0 s (by omega) (fun j _ => rfl) hs.1
  refine ⟨⟨d.1, fun i hi => ?_⟩, fun j hj => d.2.2 j (Nat.zero_le _) (by omega)⟩
  have := d.2.2 i (Nat.zero_le _) (by omega)
  show dg (txF rs.length n rs.length 0 s) i ≤ _
  rw [this]
  exact hle i hi
/-- a piece leads from a state to another, and costs so much -/
def PCE (rs : RS) (s t c : Nat) : Prop := (∃ m, m < 3844 ∧ ctT rs s (m / 62) (m % 62) = some t ∧ c = mprice (m / 62) + mprice (m % 62) + 1) ∨ (∃ j, j < 5 ∧ tT rs s j = some t ∧ c = 2 * (j + 1) + 2)
theorem tT_some {rs : RS} {s j t : Nat} (h : tT rs s j = some t) : j + 1 ≤ lgT rs s ∧ t = txT rs s (j + 1) := by
  unfold tT at h
  split at h
  · rename_i q
    simp only [Option.some.injEq] at h
    exact ⟨q, h.symm⟩
  · cases h
theorem PCE_V {rs : RS} (hv : VR rs) (h0 : 0 < rs.length) {s t c : Nat} (hs : VS rs s) (h : PCE rs s t c) : VS rs t ∧ dg s 0 < dg t 0 ∧ s < t ∧ t ≤ enT rs ∧ c ≤ 12 := by
  rcases h with ⟨m, hm, hc, rfl⟩ | ⟨j, hj, hc, rfl⟩
  · have v := ctT_V hv hs hc
    have p1 := mprice_le (m / 62)
    have p2 := mprice_le (m % 62)
    exact ⟨v.1, v.2 0 h0, (ctT_b hv hc).2 h0, VS_le v.1, by omega⟩
  · obtain ⟨h1, rfl⟩ := tT_some hc
    have v := txT_V hv hs h1
    refine ⟨v.1, ?_, (txT_b hv (by omega)).2 h0 (by omega), VS_le v.1, by omega⟩
    rw [v.2 0 h0]
    omega
theorem TT_pos {rs : RS} {s t : Nat} (h : TT rs s t ≠ 0) : ∃ c, PCE rs s t c := by
  unfold TT at h
  by_cases h1 : sm 3844 (fun m => if ctT rs s (m / 62) (m % 62) = some t then 1 else 0) = 0
  · obtain ⟨j, hj, hf⟩ := sm_pos (show sm 5 (fun j => if tT rs s j = some t then 1 else 0) ≠ 0 by omega)
    refine ⟨_, Or.inr ⟨j, hj, ?_, rfl⟩⟩
    by_cases q : tT rs s j = some t
    · exact q
    · exact absurd (if_neg q) hf
  · obtain ⟨m, hm, hf⟩ := sm_pos h1
    refine ⟨_, Or.inl ⟨m, hm, ?_, rfl⟩⟩
    by_cases q : ctT rs s (m / 62) (m % 62) = some t
    · exact q
    · exact absurd (if_neg q) hf
theorem PCE_TT {rs : RS} {s t c : Nat} (h : PCE rs s t c) : TT rs s t ≠ 0 := by
  unfold TT
  rcases h with ⟨m, hm, hc, -⟩ | ⟨j, hj, hc, -⟩
  · have := sm_ge (f := fun m => if ctT rs s (m / 62) (m % 62) = some t then 1 else 0) hm
    simp only [if_pos hc] at this
    omega
  · have := sm_ge (f := fun j => if tT rs s j = some t then 1 else 0) hj
    simp only [if_pos hc] at this
    omega
theorem TT_sum (rs : RS) (s n : Nat) : sm n (fun t => TT rs s t) ≤ 3849 := by
  unfold TT
  rw [sm_add, sm_swap (fun t m => if ctT rs s (m / 62) (m % 62) = some t then 1 else 0), sm_swap (fun t j => if tT rs s j = some t then 1 else 0)]
  have one : ∀ x : Option Nat, sm n (fun t => if x = some t then 1 else 0) ≤ 1 := fun x => by
    cases x with
    | none =>
      rw [sm_z (fun i _ => if_neg (fun q => by cases q))]
      omega
    | some k =>
      have e : sm n (fun t => if some k = some t then 1 else 0) = sm n (fun t => if k = t then 1 else 0) := sm_congr (fun i _ => by simp)
      rw [e, sm_1]
      split <;> omega
  have a := sm_le (n := 3844) (f := fun m => sm n (fun t => if ctT rs s (m / 62) (m % 62) = some t then 1 else 0)) (g := fun _ => 1) (fun m _ => one _)
  have b := sm_le (n := 5) (f := fun j => sm n (fun t => if tT rs s j = some t then 1 else 0)) (g := fun _ => 1) (fun m _ => one _)
  rw [sm_const] at a b
  omega
