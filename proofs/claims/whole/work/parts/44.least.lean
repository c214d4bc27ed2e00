/-! the least costs, and the best plan -/
def LSP (rs : RS) (L : Nat → Nat) (s : Nat) : Prop := (∀ t c, PCE rs s t c → L s ≤ c + L t) ∧ L s ≤ 1000000 ∧ (L s = 1000000 ∨ ∃ t c, PCE rs s t c ∧ L s = c + L t)
def LST (rs : RS) (L : Nat → Nat) : Prop := L (enT rs) = 0 ∧ ∀ s, WW rs s ≠ 0 → s < enT rs → LSP rs L s
theorem mnF_spec (L : Nat → Nat) : ∀ (mv : List T3) (a : Nat), (∀ e, e ∈ mv → mnF L mv a ≤ e.2.2 + L e.1) ∧ (mnF L mv a = a ∨ ∃ e, e ∈ mv ∧ mnF L mv a = e.2.2 + L e.1)
  | [], a => ⟨fun e h => (by cases h), Or.inl rfl⟩
  | x :: mv, a => by
    have ih := mnF_spec L mv (if x.2.2 + L x.1 < a then x.2.2 + L x.1 else a)
    have hl := mnF_le L mv (if x.2.2 + L x.1 < a then x.2.2 + L x.1 else a)
    have e : mnF L (x :: mv) a = mnF L mv (if x.2.2 + L x.1 < a then x.2.2 + L x.1 else a) := rfl
    rw [e]
    refine ⟨fun y hy => ?_, ?_⟩
    · rcases List.mem_cons.mp hy with rfl | hy
      · refine Nat.le_trans hl ?_
        split <;> omega
      · exact ih.1 y hy
    · rcases ih.2 with h | ⟨y, hy, h⟩
      · rw [h]
        split
        · exact Or.inr ⟨x, List.mem_cons_self, rfl⟩
        · exact Or.inl rfl
      · exact Or.inr ⟨y, List.mem_cons_of_mem _ hy, h⟩
theorem mnF_congr {L L' : Nat → Nat} : ∀ {mv : List T3} {a : Nat}, (∀ e, e ∈ mv → L e.1 = L' e.1) → mnF L mv a = mnF L' mv a
  | [], a, _ => rfl
  | x :: mv, a, h => by
    show mnF L mv (if x.2.2 + L x.1 < a then x.2.2 + L x.1 else a) = mnF L' mv (if x.2.2 + L' x.1 < a then x.2.2 + L' x.1 else a)
    rw [h x List.mem_cons_self]
    exact mnF_congr (fun e he => h e (List.mem_cons_of_mem _ he))
theorem wgF_spec {rs : RS} {gl : List T3} {w : Nat → Nat} (ht : ∀ s, lN (w s) ≠ 0 → ∀ x, x ∈ mvs rs s gl → s < x.1) : ∀ (k : Nat) (L : Nat → Nat), (∀ t, k ≤ t → wgF rs gl w k L t = L t) ∧ ∀ s, s < k → lN (w s) ≠ 0 → wgF rs gl w k L s = mnF (wgF rs gl w k L) (mvs rs s gl) 1000000
  | 0, L => ⟨fun _ _ => rfl, fun s h => absurd h (Nat.not_lt_zero s)⟩
  | k + 1, L => by
    rw [wgF]
    have ih := wgF_spec ht k (if lN (w k) = 0 then L else va_up L k (mnF L (mvs rs k gl) 1000000))
    refine ⟨fun t h => ?_, fun s h hw => ?_⟩
    · rw [ih.1 t (by omega)]
      split
      · rfl
      · exact vu_n (by omega)
    · by_cases e : s = k
      · subst e
        rw [ih.1 s (Nat.le_refl _), if_neg hw, vu_s]
        refine mnF_congr (fun x hx => ?_)
        have := ht s hw x hx
        rw [if_neg hw] at ih
        rw [ih.1 x.1 (by omega), vu_n (by omega)]
      · exact ih.2 s (by omega) hw
section ZLE
variable {rs : RS}
theorem mvs_PCE {s : Nat} {x : T3} (h : x ∈ mvs rs s (grp rs)) : PCE rs s x.1 x.2.2 := by
  obtain ⟨-, g2, -⟩ := grp_GI rs
  rcases mvs_mem h with ⟨f, g, t, hf, hg, -, hc, rfl⟩ | ⟨j, h1, h2, rfl⟩
  · obtain ⟨a, ha, -, sa, pa⟩ := g2 f hf
    obtain ⟨b, hb, -, sb, pb⟩ := g2 g hg
    left
    refine ⟨62 * a + b, by omega, ?_, ?_⟩
    · rw [show (62 * a + b) / 62 = a by omega, show (62 * a + b) % 62 = b by omega, ← ctT_SM sa sb]
      exact hc
    · rw [show (62 * a + b) / 62 = a by omega, show (62 * a + b) % 62 = b by omega, pa, pb]
  · right
    have hl := lgT_le rs s
    refine ⟨j - 1, by omega, ?_, ?_⟩
    · unfold tT
      rw [if_pos (by omega), show j - 1 + 1 = j by omega]
    · show 2 * j + 2 = 2 * (j - 1 + 1) + 2
      omega
theorem txL_in {s j : Nat} : ∀ k n, n ≤ j → j < n + k → (txT rs s j, 1, 2 * j + 2) ∈ txL rs s k n
  | 0, n, h1, h2 => by omega
  | k + 1, n, h1, h2 => by
    rw [txL]
    by_cases e : j = n
    · rw [e]; exact List.mem_cons_self
    · exact List.mem_cons_of_mem _ (txL_in k (n + 1) (by omega) (by omega))
theorem PCE_mvs {s t c : Nat} (h : PCE rs s t c) : ∃ x, x ∈ mvs rs s (grp rs) ∧ x.1 = t ∧ x.2.2 ≤ c := by
  obtain ⟨-, -, g3⟩ := grp_GI rs
  rcases h with ⟨m, hm, hc, rfl⟩ | ⟨j, hj, hc, rfl⟩
  · have ht := ctT_tld hc
    obtain ⟨f, hf, sf, pf⟩ := g3 (m / 62) (by omega) ht.1
    obtain ⟨g, hg, sg, pg⟩ := g3 (m % 62) (by omega) ht.2
    have hc2 : ctT rs s f.1 g.1 = some t := by rw [ctT_SM sf sg]; exact hc
    refine ⟨(t, f.2.1 * g.2.1, f.2.2 + g.2.2 + 1), List.mem_append_left _ (List.mem_flatMap.mpr ⟨f, hf, ?_⟩), rfl, ?_⟩
    · rw [if_pos (ctT_cbg hc2)]
      refine List.mem_filterMap.mpr ⟨g, hg, ?_⟩
      unfold mvC
      rw [hc2]
      rfl
    · show f.2.2 + g.2.2 + 1 ≤ _
      omega
  · obtain ⟨h1, rfl⟩ := tT_some hc
    exact ⟨_, List.mem_append_right _ (txL_in (lgT rs s) 1 (show 1 ≤ j + 1 by omega) (by omega)), rfl, Nat.le_refl _⟩
/-- the least costs as the class has them -/
def Lc (rs : RS) : Nat → Nat := wgF rs (grp rs) (dpF rs (grp rs) (enT rs) 0 w0) (enT rs) (fun _ => 0)
theorem dp_ne (hv : VR rs) (h0 : 0 < rs.length) {s : Nat} : lN (dpF rs (grp rs) (enT rs) 0 w0 s) ≠ 0 → VS rs s := fun h => by
  refine Wf_V hv h0 (enT rs) s (fun z => h ?_)
  rw [dp_fin hv h0, z]
  rfl
theorem dp_iff (hv : VR rs) (h0 : 0 < rs.length) {s : Nat} (hs : s ≤ enT rs) : lN (dpF rs (grp rs) (enT rs) 0 w0 s) ≠ 0 ↔ WW rs s ≠ 0 := by
  rw [dp_le hv h0 hs]
  exact not_congr (lN_0 (WW_lt hv h0 s))
theorem Lc_LS (hv : VR rs) (h0 : 0 < rs.length) : LST rs (Lc rs) := by
  have sp := wgF_spec (rs := rs) (gl := grp rs) (w := dpF rs (grp rs) (enT rs) 0 w0) (fun s hs x hx => (mvs_b hv h0 (grp_GB rs) hx).1) (enT rs) (fun _ => 0)
  refine ⟨sp.1 (enT rs) (Nat.le_refl _), fun s hw hs => ?_⟩
  have e : Lc rs s = mnF (Lc rs) (mvs rs s (grp rs)) 1000000 := sp.2 s hs ((dp_iff hv h0 (Nat.le_of_lt hs)).mpr hw)
  have m := mnF_spec (Lc rs) (mvs rs s (grp rs)) 1000000
  refine ⟨fun t c hc => ?_, by rw [e]; exact mnF_le _ _ _, ?_⟩
  · obtain ⟨x, hx, hx1, hx2⟩ := PCE_mvs hc
    have := m.1 x hx
    rw [e, ← hx1]
    omega
  · rcases m.2 with h | ⟨x, hx, h⟩
    · exact Or.inl (by rw [e]; exact h)
    · exact Or.inr ⟨x.1, x.2.2, mvs_PCE hx, by rw [e]; exact h⟩
theorem LS_uniq (hv : VR rs) (h0 : 0 < rs.length) {L L' : Nat → Nat} (h : LST rs L) (h' : LST rs L') : ∀ (d s : Nat), enT rs ≤ s + d → WW rs s ≠ 0 → L s = L' s := by
  intro d
  induction d with
  | zero =>
    intro s hs hw
    have := VS_le (WW_V hv h0 hw)
    rw [show s = enT rs by omega, h.1, h'.1]
  | succ d ih =>
    intro s hs hw
    have hle := VS_le (WW_V hv h0 hw)
    by_cases he : s = enT rs
    · rw [he, h.1, h'.1]
    · have a := h.2 s hw (by omega)
      have b := h'.2 s hw (by omega)
      have step : ∀ t c, PCE rs s t c → L t = L' t := fun t c hc => ih t (by have := (PCE_V hv h0 (WW_V hv h0 hw) hc).2.2.1; omega) (WW_step hv h0 hw hc)
      have k1 : L s ≤ L' s := by
        rcases b.2.2 with q | ⟨t, c, hc, q⟩
        · rw [q]; exact a.2.1
        · rw [q, ← step t c hc]; exact a.1 t c hc
      have k2 : L' s ≤ L s := by
        rcases a.2.2 with q | ⟨t, c, hc, q⟩
        · rw [q]; exact b.2.1
        · rw [q, step t c hc]; exact b.1 t c hc
      omega
theorem LS_0 (hv : VR rs) (h0 : 0 < rs.length) {L : Nat → Nat} (h : LST rs L) (hc : CN rs ≠ 0) : L 0 < 1000000 := by
  have key : ∀ (d t : Nat), t % 6 ≤ d → WW rs t ≠ 0 → L t + 12 * (t % 6) < 1000000 → L 0 < 1000000 := by
    intro d
    induction d with
    | zero =>
      intro t hd hw hl
      by_cases e : t = 0
      · subst e; omega
      · obtain ⟨s, c, hs, hp⟩ := WW_back hw e
        have v := (PCE_V hv h0 (WW_V hv h0 hs) hp).2.1
        rw [dg0, dg0] at v
        omega
    | succ d ih =>
      intro t hd hw hl
      by_cases e : t = 0
      · subst e; omega
      · obtain ⟨s, c, hs, hp⟩ := WW_back hw e
        have v := PCE_V hv h0 (WW_V hv h0 hs) hp
        have v1 := v.2.1
        rw [dg0, dg0] at v1
        have a := (h.2 s hs (by omega)).1 t c hp
        refine ih s (by omega) hs ?_
        omega
  refine key 5 (enT rs) (by omega) hc ?_
  rw [h.1]
  omega
theorem fcut_none {L : Nat → Nat} {s : Nat} : ∀ (k m : Nat), fcut rs L s k m = none → ∀ i t, m ≤ i → i < m + k → ctT rs s (i / 62) (i % 62) = some t → mprice (i / 62) + mprice (i % 62) + 1 + L t ≠ L s
  | 0, m, h, i, t, h1, h2, _ => by omega
  | k + 1, m, h, i, t, h1, h2, hc => by
    rw [fcut] at h
    by_cases e : i = m
    · subst e
      rw [hc] at h
      intro z
      simp only [if_pos z] at h
      cases h
    · refine fcut_none k (m + 1) ?_ i t (by omega) (by omega) hc
      cases hx : ctT rs s (m / 62) (m % 62) with
      | none => rw [hx] at h; exact h
      | some u =>
        rw [hx] at h
        by_cases q : mprice (m / 62) + mprice (m % 62) + 1 + L u = L s
        · simp only [if_pos q] at h
          cases h
        · simp only [if_neg q] at h
          exact h
theorem ftx_none {L : Nat → Nat} {s : Nat} : ∀ (k n : Nat), ftx rs L s k n = none → ∀ j, n ≤ j → j < n + k → 2 * j + 2 + L (txT rs s j) ≠ L s
  | 0, n, h, j, h1, h2 => by omega
  | k + 1, n, h, j, h1, h2 => by
    rw [ftx] at h
    by_cases q : 2 * n + 2 + L (txT rs s n) = L s
    · rw [if_pos q] at h
      cases h
    · rw [if_neg q] at h
      by_cases e : j = n
      · rw [e]; exact q
      · exact ftx_none k (n + 1) h j (by omega) (by omega)
theorem LS_some {L : Nat → Nat} (h : LST rs L) {s : Nat} (hw : WW rs s ≠ 0) (hs : s < enT rs) (hl : L s < 1000000) (h1 : fcut rs L s 3844 0 = none) (h2 : ftx rs L s (lgT rs s) 1 = none) : False := by
  rcases (h.2 s hw hs).2.2 with q | ⟨t, c, hc, q⟩
  · omega
  · rcases hc with ⟨m, hm, hc, rfl⟩ | ⟨j, hj, hc, rfl⟩
    · exact fcut_none _ _ h1 m t (Nat.zero_le _) (by omega) hc q.symm
    · obtain ⟨a, rfl⟩ := tT_some hc
      exact ftx_none _ _ h2 (j + 1) (by omega) (by omega) q.symm
/-- the pieces that are found lead on -/
theorem fcut_next (hv : VR rs) (h0 : 0 < rs.length) {L : Nat → Nat} {s m t : Nat} (hw : WW rs s ≠ 0) (hl : L s < 1000000) (h : fcut rs L s 3844 0 = some (m, t)) : WW rs t ≠ 0 ∧ s % 6 < t % 6 ∧ L t < 1000000 ∧ m < 3844 ∧ ctT rs s (m / 62) (m % 62) = some t := by
  have f := fcut_some _ _ h
  have hp : PCE rs s t (mprice (m / 62) + mprice (m % 62) + 1) := Or.inl ⟨m, by omega, f.2.2.1, rfl⟩
  have v := (PCE_V hv h0 (WW_V hv h0 hw) hp).2.1
  rw [dg0, dg0] at v
  exact ⟨WW_step hv h0 hw hp, v, by omega, by omega, f.2.2.1⟩
theorem ftx_next (hv : VR rs) (h0 : 0 < rs.length) {L : Nat → Nat} {s n t : Nat} (hw : WW rs s ≠ 0) (hl : L s < 1000000) (h : ftx rs L s (lgT rs s) 1 = some (n, t)) : WW rs t ≠ 0 ∧ s % 6 < t % 6 ∧ L t < 1000000 ∧ 0 < n ∧ n ≤ lgT rs s ∧ t = txT rs s n := by
  have f := ftx_some _ _ h
  have hg := lgT_le rs s
  have hp : PCE rs s t (2 * n + 2) := Or.inr ⟨n - 1, by omega, by unfold tT; rw [if_pos (by omega), show n - 1 + 1 = n by omega, f.2.2.1], by omega⟩
  have v := (PCE_V hv h0 (WW_V hv h0 hw) hp).2.1
  rw [dg0, dg0] at v
  exact ⟨WW_step hv h0 hw hp, v, by omega, by omega, by omega, f.2.2.1⟩
theorem fcut_congr {L L' : Nat → Nat} {s : Nat} (hs : L s = L' s) (h : ∀ m t, m < 3844 → ctT rs s (m / 62) (m % 62) = some t → L t = L' t) : ∀ (k m : Nat), m + k ≤ 3844 → fcut rs L s k m = fcut rs L' s k m
  | 0, m, _ => rfl
  | k + 1, m, hm => by
    rw [fcut, fcut, fcut_congr hs h k (m + 1) (by omega)]
    cases hc : ctT rs s (m / 62) (m % 62) with
    | none => rfl
    | some t => simp only [hs, h m t (by omega) hc]
theorem ftx_congr {L L' : Nat → Nat} {s : Nat} (hs : L s = L' s) (h : ∀ n, 0 < n → n ≤ lgT rs s → L (txT rs s n) = L' (txT rs s n)) : ∀ (k n : Nat), 0 < n → n + k ≤ lgT rs s + 1 → ftx rs L s k n = ftx rs L' s k n
  | 0, n, _, _ => rfl
  | k + 1, n, h1, h2 => by
    rw [ftx, ftx, ftx_congr hs h k (n + 1) (by omega) (by omega), hs, h n h1 (by omega)]
/-- what a piece costs -/
def pcost (p : T3) : Nat := if p.1 = 0 then mprice p.2.1 + mprice p.2.2 + 1 else 2 * p.2.1 + 2
/-- pieces that can be, over a first result -/
def PV (r0 : List Int32) (p : T3) : Prop := (p.1 = 0 ∧ p.2.1 < 62 ∧ p.2.2 < 62) ∨ (p.1 = 1 ∧ 0 < p.2.1 ∧ p.2.2 + p.2.1 ≤ r0.length)
theorem tlF_spec (hv : VR rs) (h0 : 0 < rs.length) {L : Nat → Nat} (h : LST rs L) : ∀ (k s : Nat) (ps : List T3), 5 ≤ k + s % 6 → WW rs s ≠ 0 → L s < 1000000 → (∀ p, p ∈ ps → PV (rt rs 0) p) → ls (tlF rs L (enT rs) k s ps) pcost = ls ps pcost + L s ∧ (∀ p, p ∈ tlF rs L (enT rs) k s ps → PV (rt rs 0) p) ∧ ps.length ≤ (tlF rs L (enT rs) k s ps).length ∧ (s < enT rs → ps.length < (tlF rs L (enT rs) k s ps).length)
  | 0, s, ps, hk, hw, hl, hp => by
    have hle := VS_le (WW_V hv h0 hw)
    have he : s = enT rs := by
      by_cases q : s = enT rs
      · exact q
      · rcases (h.2 s hw (by omega)).2.2 with z | ⟨t, c, hc, z⟩
        · omega
        · have v := (PCE_V hv h0 (WW_V hv h0 hw) hc).2.1
          rw [dg0, dg0] at v
          omega
    rw [tlF, he, h.1]
    exact ⟨rfl, hp, Nat.le_refl _, fun q => absurd q (by omega)⟩
  | k + 1, s, ps, hk, hw, hl, hp => by
    have hle := VS_le (WW_V hv h0 hw)
    rw [tlF]
    by_cases he : s < enT rs
    · rw [if_pos he]
      cases hc : fcut rs L s 3844 0 with
      | some q =>
        obtain ⟨m, t⟩ := q
        have nx := fcut_next hv h0 hw hl hc
        have fs := (fcut_some _ _ hc).2.2.2
        have ih := tlF_spec hv h0 h k t (ps ++ [(0, m / 62, m % 62)]) (by omega) nx.1 nx.2.2.1 (fun p hpm => by
          rcases List.mem_append.mp hpm with z | z
          · exact hp p z
          · rw [List.mem_singleton.mp z]
            exact Or.inl ⟨rfl, by show m / 62 < 62; omega, by show m % 62 < 62; omega⟩)
        simp only
        rw [ls_app, ls_cons, ls_nil, List.length_append, List.length_singleton] at ih
        have e : pcost (0, m / 62, m % 62) = mprice (m / 62) + mprice (m % 62) + 1 := rfl
        rw [e] at ih
        exact ⟨by rw [ih.1]; omega, ih.2.1, by omega, fun _ => by omega⟩
      | none =>
        cases hx : ftx rs L s (lgT rs s) 1 with
        | some q =>
          obtain ⟨n, t⟩ := q
          have nx := ftx_next hv h0 hw hl hx
          have fs := (ftx_some _ _ hx).2.2.2
          have ih := tlF_spec hv h0 h k t (ps ++ [(1, n, dg s 0)]) (by omega) nx.1 nx.2.2.1 (fun p hpm => by
            rcases List.mem_append.mp hpm with z | z
            · exact hp p z
            · rw [List.mem_singleton.mp z]
              exact Or.inr ⟨rfl, nx.2.2.2.1, (lgT_all nx.2.2.2.2.1 h0 ((WW_V hv h0 hw).2 0 h0)).1⟩)
          simp only
          rw [ls_app, ls_cons, ls_nil, List.length_append, List.length_singleton] at ih
          have e : pcost (1, n, dg s 0) = 2 * n + 2 := rfl
          rw [e] at ih
          exact ⟨by rw [ih.1]; omega, ih.2.1, by omega, fun _ => by omega⟩
        | none => exact (LS_some h hw he hl hc hx).elim
    · rw [if_neg he]
      rw [show s = enT rs by omega, h.1]
      exact ⟨rfl, hp, Nat.le_refl _, fun q => absurd q (by omega)⟩
/-- the best plan -/
def BP (rs : RS) : List T3 := tlF rs (Lc rs) (enT rs) 5 0 []
theorem BP_spec (hv : VR rs) (h0 : 0 < rs.length) (hc : CN rs ≠ 0) : ls (BP rs) pcost = Lc rs 0 ∧ (∀ p, p ∈ BP rs → PV (rt rs 0) p) ∧ (0 < enT rs → 0 < (BP rs).length) := by
  have sp := tlF_spec hv h0 (Lc_LS hv h0) 5 0 [] (by omega) (by rw [WW_0]; omega) (LS_0 hv h0 (Lc_LS hv h0) hc) (fun p h => (by cases h))
  rw [ls_nil, Nat.zero_add] at sp
  exact ⟨sp.1, sp.2.1, sp.2.2.2⟩
end ZLE
