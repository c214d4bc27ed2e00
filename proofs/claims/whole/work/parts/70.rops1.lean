/-! EditGuessModel: what is told and answered -/
theorem sE_uniq {l : LI} {x : Nat} : ∀ (n e : Nat), e ≤ x → x ≤ e + n → (∀ j, e ≤ j → j < x → j < l.length ∧ kd (gt l j) ≠ -6) → (x = e + n ∨ ¬ (x < l.length ∧ kd (gt l x) ≠ -6)) → sE l n e = x
  | 0, e, h1, h2, _, _ => by rw [sE]; omega
  | n + 1, e, h1, h2, h3, h4 => by
    rw [sE]
    by_cases q : e = x
    · subst q
      rw [if_neg]
      rcases h4 with h5 | h5
      · omega
      · exact h5
    · rw [if_pos (h3 e (Nat.le_refl _) (by omega))]
      exact sE_uniq n (e + 1) (by omega) (by omega) (fun j h5 h6 => h3 j (by omega) h6) (h4.imp (fun z => by omega) id)
theorem kd_62 : kd 62 = -6 := by decide
theorem YS.pad {M M' : Mem} {A : AA} (h : YS M A) {l : LI} (f : KF 7 8 [8] M M') (hS : PD M' l) : YS M' (l, aB A, aI A) :=
  ⟨hS, h.2.1.kt f (by omega), h.2.2.1.kt f (by omega), h.2.2.2.kt f (by omega)⟩
theorem lt_nle {x a b : Int32} (h : x < a) (hab : a ≤ b := by decide) : ¬ b ≤ x := fun z => by
  rw [Int32.lt_iff_toInt_lt] at h
  rw [Int32.le_iff_toInt_le] at z hab
  omega
section ZS1
variable {M : Mem} {A : AA}
theorem M_lineFault_ok (h : PD M (aL A)) (hl : (aL A).length ≤ 18) {Q : Int32 → Mem → Prop} (k : Q (liF (aL A)) M) : CallI zY m_M_lineFault [.ref 0] M Q := by
  refine e_M_lineFault ?_
  have key : ∀ (j i : Nat), i + j = (aL A).length → i ≤ 12 → (∀ u, u < i → kd (gt (aL A) u) ≠ -6) → wp zY m_M_lineFault (QI Q) 2 [(0, .ref 0), (1, .int (nI i))] [] M := by
    intro j
    induction j with
    | zero =>
      intro i hi h12 hu
      refine b_M_lineFault_2 ?_
      rw [h.1]
      refine pk_le (aL A).length i (fun _ => ?_) (fun z => absurd z (by omega))
      have e : sE (aL A) 12 0 = (aL A).length := sE_uniq 12 0 (by omega) (by omega) (fun u _ h2 => ⟨h2, hu u (by omega)⟩) (Or.inr (fun z => absurd z.1 (by omega)))
      rw [liF, if_pos e] at k
      exact k
    | succ j ih =>
      intro i hi h12 hu
      refine b_M_lineFault_2 ?_
      rw [h.1]
      refine pk_le (aL A).length i (fun z => absurd z (by omega)) (fun hil => ⟨vp_in_nI (by omega) (by omega), ?_⟩)
      rw [nI_clamp (by omega), h.2 i hil]
      have fin : (i = 12 ∨ ¬ (i < (aL A).length ∧ kd (gt (aL A) i) ≠ -6)) → Q (nI i) M := by
        intro z
        have e : sE (aL A) 12 0 = i := sE_uniq 12 0 (by omega) (by omega) (fun u _ h2 => ⟨by omega, hu u (by omega)⟩) (z.imp (fun q => by omega) id)
        rw [liF, if_neg (by omega), e] at k
        exact k
      refine M_classOf_ok ⟨fun c => fin (Or.inr (fun z => z.2 ((kd_neg _).mp c))), fun c => pk_eq i 12 (fun z => fin (Or.inl z)) (fun z => ?_)⟩
      rw [nI_1]
      refine ih (i + 1) (by omega) (by omega) (fun u hu2 => ?_)
      by_cases e : u = i
      · subst e
        exact fun q => c ((kd_neg _).mpr q)
      · exact hu u (by omega)
  exact key (aL A).length 0 (Nat.zero_add _) (by omega) (fun u hu => absurd hu (Nat.not_lt_zero u))
theorem M_exampleFault_ok (h : PD M (aL A)) (hl : (aL A).length ≤ 18) {Q : Int32 → Mem → Prop} (k : Q (exF (aL A)) M) : CallI zY m_M_exampleFault [.ref 0] M Q := by
  refine e_M_exampleFault ?_
  unfold exF at k
  have ph2 : ∀ (a : Nat), sE (aL A) 12 0 = a → gt (aL A) a = 62 → a < (aL A).length → ∀ (j i : Nat), i + j = (aL A).length → a < i → i ≤ a + 6 → (∀ u, a + 1 ≤ u → u < i → kd (gt (aL A) u) ≠ -6) → wp zY m_M_exampleFault (QI Q) 5 [(0, .ref 0), (1, .int (nI a)), (2, .int (nI i))] [] M := by
    intro a ha ha62 hal
    rw [ha, if_pos ha62] at k
    intro j
    induction j with
    | zero =>
      intro i hi h1 h2 hu
      have e : sE (aL A) 5 (a + 1) = (aL A).length := sE_uniq 5 (a + 1) (by omega) (by omega) (fun u h3 h4 => ⟨h4, hu u h3 (by omega)⟩) (Or.inr (fun z => absurd z.1 (by omega)))
      rw [e] at k
      refine b_M_exampleFault_5 ?_
      rw [h.1]
      refine pk_le (aL A).length i (fun _ => pk_lt a 0 (fun z => absurd z (by omega)) (fun _ => ?_)) (fun z => absurd z (by omega))
      rw [show nI (aL A).length - 1 = nI ((aL A).length - 1) from pk_sub (b := 1) (by omega)]
      refine pk_eq a ((aL A).length - 1) (fun z => ?_) (fun z => ?_)
      · rw [if_neg (by omega)] at k
        exact k
      · rw [if_pos (by omega)] at k
        exact k
    | succ j ih =>
      intro i hi h1 h2 hu
      refine b_M_exampleFault_5 ?_
      rw [h.1]
      refine pk_le (aL A).length i (fun z => absurd z (by omega)) (fun hil => ⟨vp_in_nI (by omega) (by omega), ?_⟩)
      rw [nI_clamp (by omega), h.2 i hil]
      have fin : (i = a + 6 ∨ ¬ (i < (aL A).length ∧ kd (gt (aL A) i) ≠ -6)) → wp zY m_M_exampleFault (QI Q) 88 [(0, .ref 0), (1, .int (nI a)), (2, .int (nI i))] [.int 0] M := by
        intro z
        have e : sE (aL A) 5 (a + 1) = i := sE_uniq 5 (a + 1) (by omega) (by omega) (fun u h3 h4 => ⟨by omega, hu u h3 (by omega)⟩) (z.imp (fun q => by omega) id)
        rw [e, if_neg (by omega)] at k
        exact b_M_exampleFault_88 (br_t rfl k)
      refine M_classOf_ok ⟨fun c => ?_, fun c => ?_⟩
      · exact b_M_exampleFault_30 (pk_le 0 a (fun _ => br_t rfl (fin (Or.inr (fun z => z.2 ((kd_neg _).mp c))))) (fun z => absurd z (by omega)))
      · refine b_M_exampleFault_30 (pk_le 0 a (fun _ => br_f (by decide) ?_) (fun z => absurd z (by omega)))
        rw [pk_sub (by omega)]
        refine pk_lt 5 (i - a) (fun z => fin (Or.inl (by omega))) (fun z => ?_)
        refine b_M_exampleFault_88 (br_f (by decide) ⟨vp_in_nI (by omega) (by omega), ?_⟩)
        rw [nI_clamp (by omega), h.2 i hil, nI_1]
        refine br_f (fun z => c ((kd_neg _).mpr (by rw [z]; exact kd_62))) (ih (i + 1) (by omega) (by omega) (by omega) (fun u h3 h4 => ?_))
        by_cases e : u = i
        · subst e
          exact fun q => c ((kd_neg _).mpr q)
        · exact hu u h3 (by omega)
  have ph1 : ∀ (j i : Nat), i + j = (aL A).length → i ≤ 12 → (∀ u, u < i → kd (gt (aL A) u) ≠ -6) → wp zY m_M_exampleFault (QI Q) 5 [(0, .ref 0), (1, .int (-6)), (2, .int (nI i))] [] M := by
    intro j
    induction j with
    | zero =>
      intro i hi h12 hu
      have e : sE (aL A) 12 0 = (aL A).length := sE_uniq 12 0 (by omega) (by omega) (fun u _ h2 => ⟨h2, hu u (by omega)⟩) (Or.inr (fun z => absurd z.1 (by omega)))
      rw [e, if_neg (by rw [gt_ge (Nat.le_refl _)]; decide)] at k
      refine b_M_exampleFault_5 ?_
      rw [h.1]
      exact pk_le (aL A).length i (fun _ => br_t (by decide) k) (fun z => absurd z (by omega))
    | succ j ih =>
      intro i hi h12 hu
      refine b_M_exampleFault_5 ?_
      rw [h.1]
      refine pk_le (aL A).length i (fun z => absurd z (by omega)) (fun hil => ⟨vp_in_nI (by omega) (by omega), ?_⟩)
      rw [nI_clamp (by omega), h.2 i hil]
      have eF : (i = 12 ∨ ¬ (i < (aL A).length ∧ kd (gt (aL A) i) ≠ -6)) → sE (aL A) 12 0 = i := fun z => sE_uniq 12 0 (by omega) (by omega) (fun u _ h2 => ⟨by omega, hu u (by omega)⟩) (z.imp (fun q => by omega) id)
      refine M_classOf_ok ⟨fun c => ?_, fun c => ?_⟩
      · have e := eF (Or.inr (fun z => z.2 ((kd_neg _).mp c)))
        refine b_M_exampleFault_30 (br_f (by decide) (br_t rfl ⟨vp_in_nI (by omega) (by omega), ?_⟩))
        rw [nI_clamp (by omega), h.2 i hil]
        refine ⟨fun z => ?_, fun z => ?_⟩
        · refine b_M_exampleFault_88 (br_f (by decide) ⟨vp_in_nI (by omega) (by omega), ?_⟩)
          rw [nI_clamp (by omega), h.2 i hil, nI_1]
          exact br_t z (ph2 i e z hil j (i + 1) (by omega) (by omega) (by omega) (fun u h3 h4 => absurd h4 (by omega)))
        · rw [e, if_neg z] at k
          exact b_M_exampleFault_88 (br_t rfl k)
      · refine b_M_exampleFault_30 (br_f (by decide) (br_f (by decide) ?_))
        have n62 : ¬ gt (aL A) i = 62 := fun z => c ((kd_neg _).mpr (by rw [z]; exact kd_62))
        refine pk_le 12 i (fun z => ?_) (fun z => ?_)
        · have e := eF (Or.inl (by omega))
          rw [e, if_neg n62] at k
          exact b_M_exampleFault_88 (br_t rfl k)
        · refine b_M_exampleFault_88 (br_f (by decide) ⟨vp_in_nI (by omega) (by omega), ?_⟩)
          rw [nI_clamp (by omega), h.2 i hil, nI_1]
          refine br_f n62 (ih (i + 1) (by omega) (by omega) (fun u hu2 => ?_))
          by_cases e : u = i
          · subst e
            exact fun q => c ((kd_neg _).mpr q)
          · exact hu u (by omega)
  exact ph1 (aL A).length 0 (Nat.zero_add _) (by omega) (fun u hu => absurd hu (Nat.not_lt_zero u))
theorem liF_neg {l : LI} (h : l.length ≤ 18) : liF l < 0 ↔ liF l = -6 := by
  have s := sE_spec (l := l) 12 0
  unfold liF
  split
  · exact ⟨fun _ => rfl, fun _ => by decide⟩
  · exact ⟨fun z => absurd ((nI_ltI (b := 0) (by omega) (by omega)).mp z) (Nat.not_lt_zero _), fun z => absurd z (nI_ne6 (by omega))⟩
theorem exF_neg {l : LI} (h : l.length ≤ 18) : exF l < 0 ↔ exF l = -6 := by
  have s := sE_spec (l := l) 12 0
  have s2 := sE_spec (l := l) 5 (sE l 12 0 + 1)
  unfold exF
  split
  · split
    · exact ⟨fun _ => rfl, fun _ => by decide⟩
    · exact ⟨fun z => absurd ((nI_ltI (b := 0) (by omega) (by omega)).mp z) (Nat.not_lt_zero _), fun z => absurd z (nI_ne6 (by omega))⟩
  · exact ⟨fun z => absurd ((nI_ltI (b := 0) (by omega) (by omega)).mp z) (Nat.not_lt_zero _), fun z => absurd z (nI_ne6 (by omega))⟩
theorem M_say_ok (h : YS M A) (hv : VA A) {x : Int32} {Q : Int32 → Mem → Prop} (k : ∀ M', YS M' (aSay A x).2 → Q (aSay A x).1 M') : CallI zY m_M_say [.ref 0, .int x] M Q := by
  have hl := hv.1
  unfold aSay at k
  refine e_M_say (M_in_ok (fun c d => br_f (by decide) ?_) (fun c => br_t rfl ?_))
  · rw [if_neg c, if_pos (le_of_nlt d)] at k
    rw [h.1.1]
    refine pk_eq (aL A).length 18 (fun z => ?_) (fun z => ⟨vp_in_nI (by omega) (by omega), ?_⟩)
    · rw [if_neg (by omega)] at k
      exact k M h
    · rw [if_pos (by omega)] at k
      rw [nI_clamp (by omega)]
      rintro N rfl N2 rfl
      rw [uI_s, uI_n (a := 7) (b := 0) (by omega), h.1.1, nI_1]
      refine k _ (h.pad ((KF.wI (by omega) (by omega) (by omega)).trans KF.wz) ⟨by rw [uI_s, List.length_append]; rfl, fun i hi => ?_⟩)
      rw [List.length_append] at hi
      simp only [List.length_singleton] at hi
      rw [uI_n (by omega)]
      by_cases e : i = (aL A).length
      · subst e
        rw [uI_s, gt_app2 (Nat.le_refl _), Nat.sub_self]
        rfl
      · rw [uI_k e, gt_app1 (by omega)]
        exact h.1.2 i (by omega)
  · by_cases z : x < 33
    · rw [if_pos z] at k
      exact k M h
    · rw [if_neg z, if_neg (fun y => c ⟨z, nlt_of_le y⟩)] at k
      exact k M h
theorem M_wipe_ok (h : YS M A) (hv : VA A) {Q : Int32 → Mem → Prop} (k : ∀ M', YS M' (aWipe A).2 → Q (aWipe A).1 M') : CallI zY m_M_wipe [.ref 0] M Q := by
  refine e_M_wipe ?_
  rintro N rfl
  rw [h.1.1]
  exact k _ (h.pad KF.wz ⟨uI_s, fun i hi => absurd hi (Nat.not_lt_zero i)⟩)
theorem M_fault_ok (h : YS M A) (hv : VA A) {x : Int32} {Q : Int32 → Mem → Prop} (k : Q (aFault A x) M) : CallI zY m_M_fault [.ref 0, .int x] M Q := by
  unfold aFault at k
  refine e_M_fault ⟨fun c => ?_, fun c => ⟨fun d => ?_, fun d => ?_⟩⟩
  · rw [if_pos c] at k
    exact M_exampleFault_ok h.1 hv.1 k
  · rw [if_neg c, if_pos d] at k
    exact M_lineFault_ok h.1 hv.1 k
  · rw [if_neg c, if_neg d] at k
    exact k
theorem M_place_ok (h : YS M A) (hv : VA A) {x : Int32} {Q : Int32 → Mem → Prop} (k : ∀ M', YS M' A → Q (aPlace A x) M') : CallI zY m_M_place [.ref 0, .int x] M Q := by
  unfold aPlace at k
  refine e_M_place (M_lineFault_ok h.1 hv.1 ⟨fun c => ?_, fun c => ?_⟩)
  · have c2 := (liF_neg hv.1).mp c
    rw [if_pos c2] at k
    refine M_isCode_ok ?_
    cases e : idx x with
    | none =>
      rw [e] at k
      exact br_t rfl (k M h)
    | some m =>
      rw [e] at k
      refine br_f (show ¬ (1 : Int32) = 0 from by decide) (M_lookAtPad_ok h.1 (liF_ok c2).1 (fun M1 hN f => ?_))
      have es := idx_spec e
      rw [es.2]
      exact M_placeOf_ok hN (liF_ok c2).1 es.1 (k M1 (h.kt (f.mono (by omega) (by omega))))
  · rw [if_neg (fun z => c ((liF_neg hv.1).mpr z))] at k
    exact k M h
theorem aTold_nat (hv : VA A) {j : Nat} (hj : j < 2 ^ 31) : aTold A (nI j) = if j = 0 then nI (aL A).length else if j = 1 then nI (bN (aB A)) else if j = 2 then nI (bM (aB A)) else if 10 ≤ j ∧ j < 10 + bN (aB A) then nI (bE (aB A) (j - 10)).length else if 20 ≤ j ∧ j < 20 + bN (aB A) then nI (bR (aB A) (j - 20)).length else if 30 ≤ j ∧ j < 30 + bM (aB A) then nI (bP (aB A) (j - 30)).length else -2 := by
  have h3 := hv.2.1.1
  have h6 := hv.2.1.2.1
  unfold aTold
  simp only [show (nI j = 0) = (j = 0) from propext (nI_eq (b := 0) hj (by omega)), show (nI j = 1) = (j = 1) from propext (nI_eq (b := 1) hj (by omega)), show (nI j = 2) = (j = 2) from propext (nI_eq (b := 2) hj (by omega)), show ((10 : Int32) ≤ nI j) = (10 ≤ j) from propext (nI_leI (a := 10) (by omega) hj), show ((20 : Int32) ≤ nI j) = (20 ≤ j) from propext (nI_leI (a := 20) (by omega) hj), show ((30 : Int32) ≤ nI j) = (30 ≤ j) from propext (nI_leI (a := 30) (by omega) hj), show (nI j < nI (10 + bN (aB A))) = (j < 10 + bN (aB A)) from propext (nI_ltI hj (by omega)), show (nI j < nI (20 + bN (aB A))) = (j < 20 + bN (aB A)) from propext (nI_ltI hj (by omega)), show (nI j < nI (30 + bM (aB A))) = (j < 30 + bM (aB A)) from propext (nI_ltI hj (by omega)), nI_clamp hj]
theorem M_told_ok (h : YS M A) (hv : VA A) {x : Int32} {Q : Int32 → Mem → Prop} (k : Q (aTold A x) M) : CallI zY m_M_told [.ref 0, .int x] M Q := by
  have h3 := hv.2.1.1
  have h6 := hv.2.1.2.1
  have hB := h.2.1
  by_cases c : x < 0
  · have t : ∀ a : Int32, 0 ≤ a → x < a := fun a ha => by
      rw [Int32.lt_iff_toInt_lt] at c ⊢
      rw [Int32.le_iff_toInt_le] at ha
      omega
    have ne : ∀ a : Int32, 0 ≤ a → ¬ x = a := fun a ha e => by
      have := t a ha
      rw [e, Int32.lt_iff_toInt_lt] at this
      omega
    rw [aTold, if_neg (ne 0 (by decide)), if_neg (ne 1 (by decide)), if_neg (ne 2 (by decide)), if_neg (fun z => lt_nle c (by decide) z.1), if_neg (fun z => lt_nle c (by decide) z.1), if_neg (fun z => lt_nle c (by decide) z.1)] at k
    exact e_M_told (br_t (t _ (by decide)) (br_t (t _ (by decide)) (br_t (t _ (by decide)) (br_f (ne 0 (by decide)) (br_f (ne 1 (by decide)) (br_f (ne 2 (by decide)) k))))))
  obtain ⟨j, hj, rfl⟩ := nI_of c
  rw [aTold_nat hv hj] at k
  refine e_M_told (pk_lt j 30 (fun z30 => pk_lt j 20 (fun z20 => pk_lt j 10 (fun z10 => ?_) (fun z10 => ?_)) (fun z20 => ?_)) (fun z30 => ?_))
  · refine pk_eq j 0 (fun e => ?_) (fun e => pk_eq j 1 (fun e1 => ?_) (fun e1 => pk_eq j 2 (fun e2 => ?_) (fun e2 => ?_)))
    · rw [if_pos e] at k
      rw [h.1.1]
      exact k
    · rw [if_neg e, if_pos e1] at k
      rw [hB.1]
      exact k
    · rw [if_neg e, if_neg e1, if_pos e2] at k
      rw [hB.2.1]
      exact k
    · rw [if_neg e, if_neg e1, if_neg e2, if_neg (by omega), if_neg (by omega), if_neg (by omega)] at k
      exact k
  · rw [hB.1, show nI j - 10 = nI (j - 10) from pk_sub (b := 10) (by omega)]
    rw [if_neg (by omega), if_neg (by omega), if_neg (by omega)] at k
    refine M_in_n (by omega) (fun i hi e => ?_) (fun z => ?_)
    · have e2 : j - 10 = i := (nI_eq (by omega) (by omega)).mp e
      rw [if_pos (by omega)] at k
      refine br_f (by decide) ⟨vp_in_nI (by omega) (by omega), ?_⟩
      rw [nI_clamp (by omega), (hB.2.2.1 _ (by omega)).1]
      exact k
    · have : ¬ j - 10 < bN (aB A) := fun y => z ⟨nI_pos (by omega), nI_lt y (by omega)⟩
      rw [if_neg (by omega), if_neg (by omega), if_neg (by omega)] at k
      exact br_t rfl k
  · rw [hB.1, show nI j - 20 = nI (j - 20) from pk_sub (b := 20) (by omega)]
    rw [if_neg (by omega), if_neg (by omega), if_neg (by omega), if_neg (by omega)] at k
    refine M_in_n (by omega) (fun i hi e => ?_) (fun z => ?_)
    · have e2 : j - 20 = i := (nI_eq (by omega) (by omega)).mp e
      rw [if_pos (by omega)] at k
      refine br_f (by decide) ⟨vp_in_nI (by omega) (by omega), ?_⟩
      rw [nI_clamp (by omega), (hB.2.2.1 _ (by omega)).2.1]
      exact k
    · have : ¬ j - 20 < bN (aB A) := fun y => z ⟨nI_pos (by omega), nI_lt y (by omega)⟩
      rw [if_neg (by omega), if_neg (by omega)] at k
      exact br_t rfl k
  · rw [hB.2.1, show nI j - 30 = nI (j - 30) from pk_sub (b := 30) (by omega)]
    rw [if_neg (by omega), if_neg (by omega), if_neg (by omega), if_neg (by omega), if_neg (by omega)] at k
    refine M_in_n (by omega) (fun i hi e => ?_) (fun z => ?_)
    · have e2 : j - 30 = i := (nI_eq (by omega) (by omega)).mp e
      rw [if_pos (by omega)] at k
      refine br_f (by decide) ⟨vp_in_nI (by omega) (by omega), ?_⟩
      rw [nI_clamp (by omega), (hB.2.2.2 _ (by omega)).1]
      exact k
    · have : ¬ j - 30 < bM (aB A) := fun y => z ⟨nI_pos (by omega), nI_lt y (by omega)⟩
      rw [if_neg (by omega)] at k
      exact br_t rfl k
end ZS1
