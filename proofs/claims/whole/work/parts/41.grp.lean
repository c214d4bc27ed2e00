/-! groups of marks stand for all marks -/
theorem sme_iff {rs : RS} {a b : Nat} : ∀ (k i : Nat), sme rs a b k i = true ↔ ∀ r, i ≤ r → r < i + k → plc (ln rs r) a = plc (ln rs r) b
  | 0, i => ⟨fun _ r h1 h2 => absurd h2 (by omega), fun _ => rfl⟩
  | k + 1, i => by
    rw [sme]
    by_cases h : plc (ln rs i) a = plc (ln rs i) b
    · rw [if_pos h, sme_iff k (i + 1)]
      refine ⟨fun q r h1 h2 => ?_, fun q r h1 h2 => q r (by omega) (by omega)⟩
      by_cases e : r = i
      · rw [e]; exact h
      · exact q r (by omega) (by omega)
    · rw [if_neg h]
      exact ⟨fun q => (by cases q), fun q => absurd (q i (Nat.le_refl _) (by omega)) h⟩
theorem tld_iff {rs : RS} {m : Nat} : ∀ (k i : Nat), tld rs m k i = true ↔ ∀ r, i ≤ r → r < i + k → plc (ln rs r) m ≠ none
  | 0, i => ⟨fun _ r h1 h2 => absurd h2 (by omega), fun _ => rfl⟩
  | k + 1, i => by
    rw [tld]
    by_cases h : plc (ln rs i) m = none
    · rw [if_pos h]
      exact ⟨fun q => (by cases q), fun q => absurd h (q i (Nat.le_refl _) (by omega))⟩
    · rw [if_neg h, tld_iff k (i + 1)]
      refine ⟨fun q r h1 h2 => ?_, fun q r h1 h2 => q r (by omega) (by omega)⟩
      by_cases e : r = i
      · rw [e]; exact h
      · exact q r (by omega) (by omega)
/-- the same places in all rows -/
def SM (rs : RS) (a b : Nat) : Prop := ∀ r, r < rs.length → plc (ln rs r) a = plc (ln rs r) b
theorem sme_SM {rs : RS} {a b : Nat} : sme rs a b rs.length 0 = true ↔ SM rs a b := by
  rw [sme_iff]
  exact ⟨fun q r h => q r (Nat.zero_le _) (by omega), fun q r _ h => q r (by omega)⟩
theorem ctl_SM {l r : List Int32} {a a' b b' q : Nat} (h1 : plc l a = plc l a') (h2 : plc l b = plc l b') : ctl l r a b q = ctl l r a' b' q := by
  unfold ctl
  rw [h1, h2]
theorem ctF_SM {rs : RS} {s a a' b b' : Nat} (h1 : SM rs a a') (h2 : SM rs b b') : ∀ (k i acc : Nat), i + k = rs.length → ctF rs s a b k i acc = ctF rs s a' b' k i acc
  | 0, i, acc, _ => rfl
  | k + 1, i, acc, hk => by
    rw [ctF, ctF, ctl_SM (h1 i (by omega)) (h2 i (by omega)), ctF_SM h1 h2 k (i + 1) _ (by omega)]
theorem ctT_SM {rs : RS} {s a a' b b' : Nat} (h1 : SM rs a a') (h2 : SM rs b b') : ctT rs s a b = ctT rs s a' b' := ctF_SM h1 h2 rs.length 0 s (by omega)
theorem ctF_tld {rs : RS} {s a b t : Nat} : ∀ (k i acc : Nat), i + k = rs.length → ctF rs s a b k i acc = some t → ∀ r, i ≤ r → r < i + k → plc (ln rs r) a ≠ none ∧ plc (ln rs r) b ≠ none
  | 0, i, acc, _, _, r, h1, h2 => absurd h2 (by omega)
  | k + 1, i, acc, hk, h, r, h1, h2 => by
    rw [ctF] at h
    split at h
    · cases h
    · rename_i hne
      by_cases e : r = i
      · subst e
        refine ⟨fun z => hne ?_, fun z => hne ?_⟩
        · unfold ctl; rw [z]
        · unfold ctl; rw [z]; split
          · rename_i h3; cases h3
          · rfl
      · exact ctF_tld k (i + 1) _ (by omega) h r (by omega) (by omega)
theorem ctT_tld {rs : RS} {s a b t : Nat} (h : ctT rs s a b = some t) : tld rs a rs.length 0 = true ∧ tld rs b rs.length 0 = true := by
  have k := ctF_tld rs.length 0 s (by omega) h
  exact ⟨(tld_iff _ _).mpr (fun r h1 h2 => (k r h1 h2).1), (tld_iff _ _).mpr (fun r h1 h2 => (k r h1 h2).2)⟩
theorem ctT_cbg {rs : RS} {s a b t : Nat} (h : ctT rs s a b = some t) : cbg rs s a rs.length 0 = true := by
  cases hc : cbg rs s a rs.length 0 with
  | true => rfl
  | false =>
    have := cbg_false (m2 := b) rs.length 0 s (by omega) hc
    unfold ctT at h
    rw [this] at h
    cases h
theorem tld_SM {rs : RS} {a b : Nat} (h : SM rs a b) : tld rs a rs.length 0 = tld rs b rs.length 0 := by
  have e : (tld rs a rs.length 0 = true) ↔ (tld rs b rs.length 0 = true) := by
    rw [tld_iff, tld_iff]
    exact ⟨fun q r h1 h2 => by rw [← h r (by omega)]; exact q r h1 h2, fun q r h1 h2 => by rw [h r (by omega)]; exact q r h1 h2⟩
  cases h1 : tld rs a rs.length 0 <;> cases h2 : tld rs b rs.length 0 <;> simp_all
theorem fdG_spec {rs : RS} {gl : List T3} {m : Nat} : ∀ (k j : Nat), j + k = gl.length → (fdG rs gl m k j < gl.length → SM rs (g3 gl (fdG rs gl m k j)).1 m) ∧ (fdG rs gl m k j = gl.length → ∀ i, j ≤ i → i < gl.length → ¬ SM rs (g3 gl i).1 m)
  | 0, j, h => ⟨fun q => absurd q (by rw [fdG]; omega), fun _ i h1 h2 => absurd h1 (by omega)⟩
  | k + 1, j, h => by
    rw [fdG]
    by_cases hs : sme rs (g3 gl j).1 m rs.length 0 = true
    · rw [if_pos hs]
      exact ⟨fun _ => sme_SM.mp hs, fun q => absurd q (by omega)⟩
    · rw [if_neg hs]
      have ih := fdG_spec (rs := rs) (gl := gl) (m := m) k (j + 1) (by omega)
      refine ⟨ih.1, fun q i h1 h2 => ?_⟩
      by_cases e : i = j
      · rw [e]; exact fun z => hs (sme_SM.mpr z)
      · exact ih.2 q i (by omega) h2
/-- what groups out of the first m marks say -/
def GI (rs : RS) (gl : List T3) (m : Nat) : Prop :=
  (∀ F : Nat → Nat, (∀ a b, SM rs a b → F a = F b) → ls gl (fun g => g.2.1 * F g.1) = sm m (fun i => if tld rs i rs.length 0 then F i else 0)) ∧
  (∀ g, g ∈ gl → ∃ i, i < m ∧ tld rs i rs.length 0 = true ∧ SM rs g.1 i ∧ mprice i = g.2.2) ∧
  (∀ i, i < m → tld rs i rs.length 0 = true → ∃ g, g ∈ gl ∧ SM rs g.1 i ∧ g.2.2 ≤ mprice i)
theorem SM.trans {rs : RS} {a b c : Nat} (h : SM rs a b) (h2 : SM rs b c) : SM rs a c := fun r hr => (h r hr).trans (h2 r hr)
theorem SM.symm {rs : RS} {a b : Nat} (h : SM rs a b) : SM rs b a := fun r hr => (h r hr).symm
theorem g3_of_mem {l : List T3} {g : T3} (h : g ∈ l) : ∃ i, i < l.length ∧ g3 l i = g := by
  obtain ⟨i, hi⟩ := List.getElem?_of_mem h
  have hl := (List.getElem?_eq_some_iff.mp hi).1
  refine ⟨i, hl, ?_⟩
  unfold g3
  rw [List.getD_eq_getElem?_getD, hi]
  rfl
theorem jnG_GI {rs : RS} {gl : List T3} {m : Nat} (h : GI rs gl m) (ht : tld rs m rs.length 0 = true) : GI rs (jnG rs gl m) (m + 1) := by
  obtain ⟨h1, h2, h3⟩ := h
  have sp := fdG_spec (rs := rs) (gl := gl) (m := m) gl.length 0 (by omega)
  have hle := fdG_le rs gl m gl.length 0
  unfold jnG
  by_cases he : fdG rs gl m gl.length 0 = gl.length
  · rw [if_pos he]
    refine ⟨fun F hF => ?_, fun g hg => ?_, fun i hi ht2 => ?_⟩
    · rw [ls_app, h1 F hF, sm, if_pos ht]
      simp [ls]
    · rcases List.mem_append.mp hg with q | q
      · obtain ⟨i, a, b⟩ := h2 g q
        exact ⟨i, by omega, b⟩
      · rw [List.mem_singleton.mp q]
        exact ⟨m, by omega, ht, fun _ _ => rfl, rfl⟩
    · by_cases e : i = m
      · subst e
        exact ⟨_, List.mem_append_right _ List.mem_cons_self, fun _ _ => rfl, Nat.le_refl _⟩
      · obtain ⟨g, a, b⟩ := h3 i (by omega) ht2
        exact ⟨g, List.mem_append_left _ a, b⟩
  · rw [if_neg he]
    have hlt : fdG rs gl m gl.length 0 < gl.length := by omega
    generalize fdG rs gl m gl.length 0 = j at sp hlt
    have hsm := sp.1 hlt
    generalize hx : ((g3 gl j).1, (g3 gl j).2.1 + 1, min (mprice m) (g3 gl j).2.2) = x
    have x1 : x.1 = (g3 gl j).1 := by rw [← hx]
    have x2 : x.2.1 = (g3 gl j).2.1 + 1 := by rw [← hx]
    have x3 : x.2.2 = min (mprice m) (g3 gl j).2.2 := by rw [← hx]
    refine ⟨fun F hF => ?_, fun g hg => ?_, fun i hi ht2 => ?_⟩
    · have e := ls_set (f := fun g => g.2.1 * F g.1) (x := x) hlt
      rw [x1, x2, h1 F hF, Nat.succ_mul] at e
      rw [sm, if_pos ht]
      have := hF _ _ hsm
      omega
    · rcases List.mem_or_eq_of_mem_set hg with q | q
      · obtain ⟨i, a, b⟩ := h2 g q
        exact ⟨i, by omega, b⟩
      · rw [q, x1, x3]
        by_cases z : mprice m ≤ (g3 gl j).2.2
        · exact ⟨m, by omega, ht, hsm, (Nat.min_eq_left z).symm⟩
        · obtain ⟨i, a, b, c, d⟩ := h2 _ (g3_mem hlt)
          exact ⟨i, by omega, b, c, by rw [d, Nat.min_eq_right (by omega)]⟩
    · have hxm : x ∈ gl.set j x := by
        rw [List.mem_iff_getElem?]
        exact ⟨j, by rw [List.getElem?_set_self hlt]⟩
      by_cases e : i = m
      · subst e
        exact ⟨x, hxm, by rw [x1]; exact hsm, by rw [x3]; exact Nat.min_le_left _ _⟩
      · obtain ⟨g, a, b, c⟩ := h3 i (by omega) ht2
        obtain ⟨j2, hj2, hg2⟩ := g3_of_mem a
        by_cases e2 : j2 = j
        · subst e2
          rw [← hg2] at b c
          exact ⟨x, hxm, by rw [x1]; exact b, by rw [x3]; exact Nat.le_trans (Nat.min_le_right _ _) c⟩
        · refine ⟨g, ?_, b, c⟩
          rw [List.mem_iff_getElem?]
          refine ⟨j2, ?_⟩
          rw [List.getElem?_set_ne (Ne.symm e2), List.getElem?_eq_getElem hj2]
          rw [← hg2]
          unfold g3
          rw [List.getD_eq_getElem?_getD, List.getElem?_eq_getElem hj2]
          rfl
theorem gpF_GI {rs : RS} : ∀ (k m : Nat) (gl : List T3), m + k = 62 → GI rs gl m → GI rs (gpF rs k m gl) 62
  | 0, m, gl, h, g => by
    rw [show m = 62 by omega] at g
    exact g
  | k + 1, m, gl, h, g => by
    rw [gpF]
    refine gpF_GI k (m + 1) _ (by omega) ?_
    cases ht : tld rs m rs.length 0 with
    | true => exact jnG_GI g ht
    | false =>
      obtain ⟨h1, h2, h3⟩ := g
      refine ⟨fun F hF => ?_, fun g hg => ?_, fun i hi ht2 => ?_⟩
      · rw [sm, ht]
        exact h1 F hF
      · obtain ⟨i, a, b⟩ := h2 g hg
        exact ⟨i, by omega, b⟩
      · by_cases e : i = m
        · rw [e, ht] at ht2
          cases ht2
        · exact h3 i (by omega) ht2
theorem grp_GI (rs : RS) : GI rs (grp rs) 62 := gpF_GI 62 0 [] rfl ⟨fun F _ => rfl, fun g hg => (by cases hg), fun i hi => absurd hi (Nat.not_lt_zero i)⟩
/-- a text of j + 1 signs -/
def tT (rs : RS) (s j : Nat) : Option Nat := if j + 1 ≤ lgT rs s then some (txT rs s (j + 1)) else none
/-- how many pieces lead from a state to another -/
def TT (rs : RS) (s t : Nat) : Nat := sm 3844 (fun m => if ctT rs s (m / 62) (m % 62) = some t then 1 else 0) + sm 5 (fun j => if tT rs s j = some t then 1 else 0)
theorem txL_sum (rs : RS) (s t : Nat) : ∀ k n, ls (txL rs s k n) (fun e => if e.1 = t then e.2.1 else 0) = sm k (fun i => if txT rs s (n + i) = t then 1 else 0)
  | 0, n => rfl
  | k + 1, n => by
    rw [txL, ls_cons, txL_sum rs s t k (n + 1), show k + 1 = 1 + k by omega, sm_app]
    congr 1
    · rw [sm, sm, Nat.zero_add]
      rfl
    · refine sm_congr (fun i _ => ?_)
      rw [show n + 1 + i = n + (1 + i) by omega]
theorem mvs_sum (rs : RS) (s t : Nat) : ls (mvs rs s (grp rs)) (fun e => if e.1 = t then e.2.1 else 0) = TT rs s t := by
  obtain ⟨g1, -, -⟩ := grp_GI rs
  unfold mvs TT
  rw [ls_app]
  congr 1
  · unfold allC
    rw [ls_flatMap]
    have e1 : ls (grp rs) (fun f => ls (if cbg rs s f.1 rs.length 0 = true then cutL rs s (grp rs) f else []) (fun e => if e.1 = t then e.2.1 else 0)) = ls (grp rs) (fun f => f.2.1 * sm 62 (fun j => if tld rs j rs.length 0 then (if ctT rs s f.1 j = some t then 1 else 0) else 0)) := by
      refine ls_congr (fun f _ => ?_)
      rw [← g1 (fun j => if ctT rs s f.1 j = some t then 1 else 0) (fun a b hab => by rw [ctT_SM (fun _ _ => rfl) hab]), ← ls_mul]
      by_cases hc : cbg rs s f.1 rs.length 0 = true
      · rw [if_pos hc]
        unfold cutL
        rw [ls_filterMap]
        refine ls_congr (fun g _ => ?_)
        unfold mvC
        cases h : ctT rs s f.1 g.1 with
        | none => simp
        | some u =>
          simp only [Option.map_some, Option.some.injEq]
          by_cases e : u = t
          · simp [e]
          · simp [e]
      · rw [if_neg hc, ls_nil]
        symm
        have : ls (grp rs) (fun e => f.2.1 * (e.2.1 * if ctT rs s f.1 e.1 = some t then 1 else 0)) = ls (grp rs) (fun _ => 0 * 0) := ls_congr (fun g _ => by
          rw [if_neg (fun z => hc (ctT_cbg z))]
          simp)
        rw [this, ls_mul, Nat.zero_mul]
    rw [e1, g1 (fun i => sm 62 (fun j => if tld rs j rs.length 0 then (if ctT rs s i j = some t then 1 else 0) else 0)) (fun a b hab => sm_congr (fun j _ => by rw [ctT_SM hab (fun _ _ => rfl)]))]
    rw [show (3844 : Nat) = 62 * 62 from rfl, sm_prod 62 (by omega) (fun i j => if ctT rs s i j = some t then 1 else 0)]
    refine sm_congr (fun i _ => ?_)
    by_cases hi : tld rs i rs.length 0 = true
    · rw [if_pos hi]
      refine sm_congr (fun j _ => ?_)
      by_cases hj : tld rs j rs.length 0 = true
      · rw [if_pos hj]
      · rw [if_neg hj, if_neg (fun z => hj (ctT_tld z).2)]
    · rw [if_neg hi]
      symm
      exact sm_z (fun j _ => if_neg (fun z => hi (ctT_tld z).1))
  · rw [txL_sum]
    have hle := lgT_le rs s
    rw [show (5 : Nat) = lgT rs s + (5 - lgT rs s) by omega, sm_app]
    have z : sm (5 - lgT rs s) (fun i => if tT rs s (lgT rs s + i) = some t then 1 else 0) = 0 := sm_z (fun i _ => by
      unfold tT
      rw [if_neg (show ¬ lgT rs s + i + 1 ≤ lgT rs s by omega)]
      rfl)
    rw [z, Nat.add_zero]
    refine sm_congr (fun i hi => ?_)
    unfold tT
    rw [if_pos (show i + 1 ≤ lgT rs s by omega), show 1 + i = i + 1 by omega]
    simp
