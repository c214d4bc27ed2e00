/-! The reference: where cuts and texts lead -/
theorem al_iff {l r : LI} : ∀ (n p q : Nat), n ≤ al l r p q ↔ (n = 0 ∨ (p + n ≤ l.length ∧ q + n ≤ r.length)) ∧ ∀ j, j < n → gt l (p + j) = gt r (q + j) := by
  intro n
  induction n with
  | zero => exact fun p q => ⟨fun _ => ⟨Or.inl rfl, fun j hj => absurd hj (Nat.not_lt_zero j)⟩, fun _ => Nat.zero_le _⟩
  | succ n ih =>
    intro p q
    by_cases c : p < l.length ∧ q < r.length
    · rw [al_step c.1 c.2]
      by_cases e : gt l p = gt r q
      · rw [if_pos e]
        constructor
        · intro h
          have h2 := (ih (p + 1) (q + 1)).mp (by omega)
          refine ⟨Or.inr (by have := h2.1; omega), fun j hj => ?_⟩
          cases j with
          | zero => exact e
          | succ j =>
            have := h2.2 j (by omega)
            rw [show p + 1 + j = p + (j + 1) from by omega, show q + 1 + j = q + (j + 1) from by omega] at this
            exact this
        · intro h
          have := (ih (p + 1) (q + 1)).mpr ⟨by have := h.1; omega, fun j hj => by
            have := h.2 (j + 1) (by omega)
            rw [show p + 1 + j = p + (j + 1) from by omega, show q + 1 + j = q + (j + 1) from by omega]
            exact this⟩
          omega
      · rw [if_neg e]
        exact ⟨fun h => absurd h (by omega), fun h => absurd (h.2 0 (by omega)) e⟩
    · rw [al_0 (by omega)]
      exact ⟨fun h => absurd h (by omega), fun h => absurd h.1 (by omega)⟩
/-- all results are made of signs -/
def OKR (rs : RS) : Prop := ∀ i, i < rs.length → okS (rt rs i)
theorem gt_ne {r : LI} (h : okS r) {i : Nat} (hi : i < r.length) : gt r i ≠ 0 := fun e => h i hi (by rw [e]; exact kd_0)
theorem nxF_iff {rs : RS} {s a : Nat} {x : Int32} : ∀ (k i : Nat), nxF rs s a x k i = true ↔ (∀ r, i ≤ r → r < i + k → gt (rt rs r) (dg s r + a) = x) ∧ x ≠ 0
  | 0, i => by
    rw [nxF, decide_eq_true_iff]
    exact ⟨fun h => ⟨fun r h1 h2 => absurd h2 (by omega), h⟩, fun h => h.2⟩
  | k + 1, i => by
    rw [nxF]
    by_cases c : gt (rt rs i) (dg s i + a) = x
    · rw [if_pos c, nxF_iff k (i + 1)]
      refine ⟨fun h => ⟨fun r h1 h2 => ?_, h.2⟩, fun h => ⟨fun r h1 h2 => h.1 r (by omega) (by omega), h.2⟩⟩
      by_cases e : r = i
      · subst e
        exact c
      · exact h.1 r (by omega) (by omega)
    · rw [if_neg c]
      exact ⟨fun h => absurd h (by decide), fun h => absurd (h.1 i (Nat.le_refl _) (by omega)) c⟩
theorem lgF_ge {rs : RS} {s n : Nat} : ∀ (k e : Nat), n ≤ e + k → (∀ j, e ≤ j → j < n → nxT rs s j = true) → n ≤ lgF rs s k e ∨ n ≤ e
  | 0, e, h, _ => Or.inr h
  | k + 1, e, h, h2 => by
    by_cases c : n ≤ e
    · exact Or.inr c
    · left
      rw [lgF, if_pos (h2 e (Nat.le_refl _) (by omega))]
      rcases lgF_ge k (e + 1) (by omega) (fun j h3 h4 => h2 j (by omega) h4) with h3 | h3
      · exact h3
      · have : ∀ (k e : Nat), e ≤ lgF rs s k e := by
          intro k
          induction k with
          | zero => exact fun e => Nat.le_refl _
          | succ k ih =>
            intro e
            rw [lgF]
            split
            · have := ih (e + 1)
              omega
            · exact Nat.le_refl _
        have := this k (e + 1)
        omega
theorem lgT_ge {rs : RS} (hok : OKR rs) (h0 : 0 < rs.length) {s n : Nat} (hn : n ≤ 5) (h : ∀ e, e < rs.length → dg s e + n ≤ (rt rs e).length ∧ ∀ k, k < n → gt (rt rs e) (dg s e + k) = gt (rt rs 0) (dg s 0 + k)) : n ≤ lgT rs s := by
  have hx : ∀ j, 0 ≤ j → j < n → nxT rs s j = true := fun j _ hj => by
    rw [nxT, nxF_iff]
    refine ⟨fun r _ hr => (h r (by omega)).2 j hj, gt_ne (hok 0 h0) ?_⟩
    have := (h 0 h0).1
    omega
  rcases lgF_ge (rs := rs) (s := s) (n := n) 5 0 (by omega) hx with c | c
  · exact c
  · have : n = 0 := by omega
    rw [this]
    exact Nat.zero_le _
def tX (rs : RS) (s n : Nat) : Option Nat := if n ≤ lgT rs s then some (txT rs s n) else none
section ZR4
variable {M : Mem} {rs : RS}
theorem oI_lt0 {x : Option Nat} (h : ∀ k, x = some k → k < 1000) : oI x < 0 ↔ x = none := by
  cases x with
  | none => exact ⟨fun _ => rfl, fun _ => by decide⟩
  | some k =>
    have := h k rfl
    refine ⟨fun z => ?_, fun z => by cases z⟩
    exact absurd ((nI_ltI (b := 0) (by omega) (by omega)).mp z) (Nat.not_lt_zero k)
theorem M_cut_ok (hv : VR rs) (hW : WK M rs) {s : Nat} (hs : s < 1296) (hS : VS rs s) {m1 m2 : Nat} (h1 : m1 < 62) (h2 : m2 < 62) {Q : Int32 → Mem → Prop} (k : Q (oI (ctT rs s m1 m2)) M) : CallI zY m_M_cut [.ref 0, .int (nI s), .int (nI m1), .int (nI m2)] M Q := by
  have h4 := hv.1
  refine e_M_cut ?_
  have key : ∀ (j i acc : Nat), i + j = rs.length → Q (oI (ctF rs s m1 m2 j i acc)) M → wp zY m_M_cut (QI Q) 6 [(0, .ref 0), (1, .int (nI s)), (2, .int (nI m1)), (3, .int (nI m2)), (4, .int (nI acc)), (5, .int (nI i))] [] M := by
    intro j
    induction j with
    | zero =>
      intro i acc hi q
      refine b_M_cut_6 ?_
      rw [hW.1]
      exact pk_le rs.length i (fun _ => q) (fun z => absurd z (by omega))
    | succ j ih =>
      intro i acc hi q
      have hil : i < rs.length := by omega
      have hR := hW.2 i hil
      have hvi := hv.2 i hil
      have hdg := hS.2 i hil
      rw [ctF] at q
      refine b_M_cut_6 ?_
      rw [hW.1]
      refine pk_le rs.length i (fun z => absurd z (by omega)) (fun _ => ?_)
      rw [show (62 : Int32) * nI i = nI (62 * i) from pk_mul 62 _, nI_add, nI_add]
      refine ⟨vp_in_nI (by omega) (by omega), vp_in_nI (by omega) (by omega), ?_⟩
      rw [nI_clamp (by omega), nI_clamp (by omega), hR.2.2.2 _ h1, hR.2.2.2 _ h2]
      refine M_at_ok (by omega) (by omega) ?_
      cases ea : plc (ln rs i) m1 with
      | none =>
        rw [if_pos (by rw [ctl, ea])] at q
        exact br_t (by decide) q
      | some a =>
        have ha := plc_le ea
        refine br_f (fun z => absurd ((nI_ltI (a := a) (b := 0) (by omega) (by omega)).mp z) (Nat.not_lt_zero a)) ?_
        cases eb : plc (ln rs i) m2 with
        | none =>
          rw [if_pos (by rw [ctl, ea, eb])] at q
          refine br_t ?_ q
          show (-6 : Int32) ≤ nI a
          rw [Int32.le_iff_toInt_le, nI_toInt (by omega)]
          have z : (-6 : Int32).toInt = -6 := rfl
          omega
        | some b =>
          have hb := plc_le eb
          have ec : ctl (ln rs i) (rt rs i) m1 m2 (dg s i) = if a < b ∧ b - a ≤ al (ln rs i) (rt rs i) a (dg s i) then b - a else 0 := by rw [ctl, ea, eb]
          refine pk_le b a (fun z => ?_) (fun z => ⟨vp_in_nI (by omega) (by omega), ?_⟩)
          · rw [if_pos (by rw [ec, if_neg (by omega)])] at q
            exact q
          rw [nI_clamp (by omega), hR.1, show nI (dg s i) + oI (some b) - oI (some a) = nI (dg s i + b - a) from by rw [oI_some, oI_some, nI_add, pk_sub (by omega)]]
          refine pk_le (dg s i + b - a) (rt rs i).length (fun z2 => ?_) (fun z2 => ?_)
          · have in88 : ∀ (u v : Nat), v + u = b → a ≤ v → (∀ w, w < v - a → gt (ln rs i) (a + w) = gt (rt rs i) (dg s i + w)) → wp zY m_M_cut (QI Q) 88 [(0, .ref 0), (1, .int (nI s)), (2, .int (nI m1)), (3, .int (nI m2)), (4, .int (nI acc)), (5, .int (nI i)), (6, .int (nI a)), (7, .int (nI b)), (8, .int (nI (dg s i))), (9, .int (nI v))] [] M := by
              intro u
              induction u with
              | zero =>
                intro v hvb hav heq
                have : v = b := by omega
                subst this
                have eok : ctl (ln rs i) (rt rs i) m1 m2 (dg s i) = v - a := by rw [ec, if_pos ⟨z, (al_iff _ _ _).mpr ⟨Or.inr (by omega), heq⟩⟩]
                rw [eok, if_neg (by omega)] at q
                refine b_M_cut_88 (br_t (Int32.le_refl _) (M_power_ok (by omega) ?_))
                rw [pk_sub (by omega), pk_mul, nI_add, nI_1]
                exact ih (i + 1) _ (by omega) q
              | succ u ihu =>
                intro v hvb hav heq
                refine b_M_cut_88 (pk_le b v (fun y => absurd y (by omega)) (fun _ => ?_))
                rw [show (12 : Int32) * nI i = nI (12 * i) from pk_mul 12 _, show (5 : Int32) * nI i = nI (5 * i) from pk_mul 5 _, nI_add, nI_add, nI_add, pk_sub (by omega)]
                refine ⟨vp_in_nI (by omega) (by omega), vp_in_nI (by omega) (by omega), ?_⟩
                have ev : 5 * i + dg s i + v - a = 5 * i + (dg s i + (v - a)) := by omega
                rw [nI_clamp (by omega), nI_clamp (by omega), hR.2.2.1 _ (by omega), ev, hR.2.1 _ (by omega), nI_1]
                refine ⟨fun y => ihu (v + 1) (by omega) (by omega) (fun w hw => ?_), fun y => ?_⟩
                · by_cases e : w = v - a
                  · subst e
                    rw [show a + (v - a) = v from by omega]
                    exact y
                  · exact heq w (by omega)
                · rw [if_pos] at q
                  · exact q
                  · rw [ec, if_neg]
                    intro y2
                    have := ((al_iff _ _ _).mp y2.2).2 (v - a) (by omega)
                    rw [show a + (v - a) = v from by omega] at this
                    exact y this
            exact in88 (b - a) a (by omega) (Nat.le_refl _) (fun w hw => absurd hw (by omega))
          · rw [if_pos] at q
            · exact q
            · rw [ec, if_neg]
              intro y
              have := ((al_iff _ _ _).mp y.2).1
              omega
  exact key rs.length 0 s (Nat.zero_add _) k
theorem M_text_ok (hv : VR rs) (h0 : 0 < rs.length) (hok : OKR rs) (hW : WK M rs) {s : Nat} (hs : s < 1296) (hS : VS rs s) {n : Nat} (h1 : 0 < n) (h5 : n ≤ 5) {Q : Int32 → Mem → Prop} (k : Q (oI (tX rs s n)) M) : CallI zY m_M_text [.ref 0, .int (nI s), .int (nI n)] M Q := by
  have h4 := hv.1
  refine e_M_text ?_
  have key : ∀ (j i acc : Nat), i + j = rs.length → (∀ e, e < i → dg s e + n ≤ (rt rs e).length ∧ ∀ k, k < n → gt (rt rs e) (dg s e + k) = gt (rt rs 0) (dg s 0 + k)) → txF rs.length n j i acc = txT rs s n → wp zY m_M_text (QI Q) 5 [(0, .ref 0), (1, .int (nI s)), (2, .int (nI n)), (3, .int (nI acc)), (4, .int (nI i))] [] M := by
    intro j
    induction j with
    | zero =>
      intro i acc hi hall hacc
      refine b_M_text_5 ?_
      rw [hW.1]
      refine pk_le rs.length i (fun _ => ?_) (fun z => absurd z (by omega))
      rw [tX, if_pos (lgT_ge hok h0 h5 (fun e he => hall e (by omega)))] at k
      rw [txF] at hacc
      subst hacc
      exact k
    | succ j ih =>
      intro i acc hi hall hacc
      have hil : i < rs.length := by omega
      have hR := hW.2 i hil
      have hvi := hv.2 i hil
      have hdg := hS.2 i hil
      have hdg0 := hS.2 0 h0
      have hv0 := hv.2 0 h0
      have hR0 := hW.2 0 h0
      rw [txF] at hacc
      refine b_M_text_5 ?_
      rw [hW.1]
      refine pk_le rs.length i (fun z => absurd z (by omega)) (fun _ => M_at_ok (by omega) (by omega) ⟨vp_in_nI (by omega) (by omega), ?_⟩)
      rw [nI_clamp (by omega), hR.1, nI_add]
      refine pk_le (dg s i + n) (rt rs i).length (fun z => ?_) (fun z => ?_)
      · have n0 : dg s 0 + n ≤ (rt rs 0).length := by
          by_cases e : i = 0
          · subst e
            exact z
          · exact (hall 0 (by omega)).1
        have in42 : ∀ (u v : Nat), v + u = n → (∀ w, w < v → gt (rt rs i) (dg s i + w) = gt (rt rs 0) (dg s 0 + w)) → wp zY m_M_text (QI Q) 42 [(0, .ref 0), (1, .int (nI s)), (2, .int (nI n)), (3, .int (nI acc)), (4, .int (nI i)), (5, .int (nI (dg s i))), (6, .int (nI v))] [] M := by
          intro u
          induction u with
          | zero =>
            intro v hvn heq
            refine b_M_text_42 (pk_le n v (fun _ => M_power_ok (by omega) ?_) (fun y => absurd y (by omega)))
            rw [pk_mul, nI_add, nI_1]
            refine ih (i + 1) _ (by omega) (fun e he => ?_) hacc
            by_cases e2 : e = i
            · subst e2
              exact ⟨z, fun w hw => heq w (by omega)⟩
            · exact hall e (by omega)
          | succ u ihu =>
            intro v hvn heq
            refine b_M_text_42 (pk_le n v (fun y => absurd y (by omega)) (fun _ => ?_))
            rw [show (5 : Int32) * nI i = nI (5 * i) from pk_mul 5 _, nI_add, nI_add]
            refine ⟨vp_in_nI (by omega) (by omega), M_at_ok (e := 0) (by omega) (by omega) ?_⟩
            have e0 := hR0.2.1 (dg s 0 + v) (by omega)
            rw [Nat.mul_zero, Nat.zero_add] at e0
            rw [nI_add, nI_clamp (by omega), nI_clamp (by omega), e0, Nat.add_assoc, hR.2.1 _ (by omega), nI_1]
            refine ⟨vp_in_nI (by omega) (by omega), fun y => ihu (v + 1) (by omega) (fun w hw => ?_), fun y => ?_⟩
            · by_cases e : w = v
              · subst e
                exact y
              · exact heq w (by omega)
            · rw [tX, if_neg] at k
              · exact k
              · intro y2
                exact y ((lgT_all y2 hil hdg).2 v (by omega))
        exact in42 n 0 (Nat.zero_add _) (fun w hw => absurd hw (Nat.not_lt_zero w))
      · rw [tX, if_neg] at k
        · exact k
        · intro y2
          have := (lgT_all y2 hil hdg).1
          omega
  exact key rs.length 0 s (Nat.zero_add _) (fun e he => absurd he (Nat.not_lt_zero e)) rfl
end ZR4
