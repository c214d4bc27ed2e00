/-! EditGuess: what is told, and the images -/
theorem XK.bk {M M' : Mem} {A : AA} (h : XK M A) {b : Bo} (f : FR 4 44 M M') (hB : BX M' 4 b) : XK M' (aL A, b, aI A) := by
  refine ⟨h.1.fr f (by omega), hB, fun j hj => ?_⟩
  have := h.2.2 j hj
  show match aI A j with
    | none => M'.1 45 j = 0
    | some b => M'.1 45 j = 1 ∧ BX M' (44 + 116 + 40 * j) b
  revert this
  cases aI A j with
  | none =>
    intro t
    show M'.1 45 j = 0
    rw [(f 45 (by omega)).1]
    exact t
  | some b =>
    intro t
    exact ⟨by rw [(f 45 (by omega)).1]; exact t.1, t.2.fr f (by omega)⟩
theorem XK.pad {M M' : Mem} {A : AA} (h : XK M A) {l : LI} (f : FR 1 4 M M') (hS : SG M' 1 l) : XK M' (l, aB A, aI A) := by
  refine ⟨hS, h.2.1.fr f (by omega), fun j hj => ?_⟩
  have := h.2.2 j hj
  show match aI A j with
    | none => M'.1 45 j = 0
    | some b => M'.1 45 j = 1 ∧ BX M' (44 + 116 + 40 * j) b
  revert this
  cases aI A j with
  | none =>
    intro t
    show M'.1 45 j = 0
    rw [(f 45 (by omega)).1]
    exact t
  | some b =>
    intro t
    exact ⟨by rw [(f 45 (by omega)).1]; exact t.1, t.2.fr f (by omega)⟩
theorem FO.fr {M M' : Mem} {b : Bo} (hv : VB b) (h : FO M b) {lo hi : Nat} (f : FR lo hi M M') (hh : (1 ≤ lo ∧ hi ≤ 46) ∨ 156 ≤ lo) : FO M' b := by
  have hb := BP_facts hv h.2.1
  refine ⟨by rw [(f 0 (by omega)).1]; exact h.1, h.2.1, h.2.2.1.fr2 (VR_exs hv).1 f (by omega), by rw [(f 0 (by omega)).2]; exact h.2.2.2.1, h.2.2.2.2.fr hb.2.1 f (by omega)⟩
theorem none_CA {M : Mem} (h : ∀ j, j < 6 → M.2 159 j = -1) (b : Bo) : CA M b := fun j hj => Or.inl (h j hj)
section ZO1
variable {M : Mem} {A : AA}
theorem E_lineFault_ok (h : XK M A) (hv : VA A) {Q : Int32 → Mem → Prop} (k : Q (liF (aL A)) M) : CallI zX m_E_lineFault [.ref 0] M Q := by
  have hl := hv.1
  have s := sE_spec (l := aL A) 12 0
  refine e_E_lineFault (Sg_signsEnd_ok (from0 := 0) (most := 12) T_pad (by omega) h.1 hl (by omega) (by omega) (Sg_many_ok T_pad h.1 ?_))
  unfold liF at k
  refine pk_eq (sE (aL A) 12 0) (aL A).length (fun e => ?_) (fun e => ?_)
  · rw [if_pos e] at k
    exact k
  · rw [if_neg e] at k
    exact k
theorem E_exampleFault_ok (h : XK M A) (hv : VA A) {Q : Int32 → Mem → Prop} (k : Q (exF (aL A)) M) : CallI zX m_E_exampleFault [.ref 0] M Q := by
  have hl := hv.1
  have s := sE_spec (l := aL A) 12 0
  have s2 := sE_spec (l := aL A) 5 (sE (aL A) 12 0 + 1)
  refine e_E_exampleFault (Sg_signsEnd_ok (from0 := 0) (most := 12) T_pad (by omega) h.1 hl (by omega) (by omega) (Sg_at_ok T_pad (by omega) h.1 hl (by omega) ?_))
  unfold exF at k
  refine ⟨fun e => ?_, fun e => ?_⟩
  · rw [if_pos e] at k
    rw [nI_1]
    refine Sg_signsEnd_ok (most := 5) T_pad (by omega) h.1 hl (by omega) (by omega) (Sg_many_ok T_pad h.1 ?_)
    refine pk_eq (sE (aL A) 5 (sE (aL A) 12 0 + 1)) (aL A).length (fun e2 => ?_) (fun e2 => ?_)
    · refine pk_le (sE (aL A) 5 (sE (aL A) 12 0 + 1)) (sE (aL A) 12 0 + 1) (fun e3 => ?_) (fun e3 => ?_)
      · rw [if_neg (by omega)] at k
        exact k
      · rw [if_pos ⟨e2, e3⟩] at k
        exact k
    · rw [if_neg (by omega)] at k
      exact k
  · rw [if_neg e] at k
    exact k
theorem E_poolChanged_ok {Q : Mem → Prop} (k : ∀ M', (∀ j, j < 6 → M'.2 159 j = -1) → FR 159 160 M M' → Q M') : CallV zX m_E_poolChanged [.ref 0] M Q := by
  refine e_E_poolChanged ?_
  have key : ∀ (j i : Nat) (M' : Mem), i + j = 6 → (∀ u, u < i → M'.2 159 u = -1) → FR 159 160 M M' → wp zX m_E_poolChanged (QV Q) 2 [(0, .ref 0), (1, .int (nI i))] [] M' := by
    intro j
    induction j with
    | zero =>
      intro i M' hi hu f
      refine b_E_poolChanged_2 (pk_le 6 i (fun _ => k M' (fun u h6 => hu u (by omega)) f) (fun q => absurd q (by omega)))
    | succ j ih =>
      intro i M' hi hu f
      refine b_E_poolChanged_2 (pk_le 6 i (fun q => absurd q (by omega)) (fun _ => ⟨vp_in_nI (by omega) (by omega), ?_⟩))
      rintro N rfl
      rw [nI_1, nI_clamp (by omega)]
      refine ih (i + 1) _ (by omega) (fun u hu2 => ?_) (f.trans (FR.uL (by omega) (by omega)))
      by_cases e : u = i
      · subst e
        exact uL_s
      · rw [uL_k e]
        exact hu u (by omega)
  exact key 6 0 M rfl (fun u hu => absurd hu (Nat.not_lt_zero u)) FR.rf
theorem E_examplesChanged_ok (h : XK M A) {Q : Mem → Prop} (k : ∀ M', XS M' A → Q M') : CallV zX m_E_examplesChanged [.ref 0] M Q := by
  refine e_E_examplesChanged ?_
  rintro N rfl
  have f1 : FR 0 1 M (uI M 0 8 0) := FR.uI (by omega) (by omega)
  refine E_poolChanged_ok (fun M1 hC f2 => k M1 ⟨(h.fr f1 (by omega)).fr f2 (by omega), Or.inl ?_, none_CA hC _⟩)
  rw [(f2 0 (by omega)).1]
  exact uI_s
theorem E_say_ok (h : XS M A) (hv : VA A) {x : Int32} {Q : Int32 → Mem → Prop} (k : ∀ M', XS M' (aSay A x).2 → Q (aSay A x).1 M') : CallI zX m_E_say [.ref 0, .int x] M Q := by
  unfold aSay at k
  refine e_E_say ⟨fun c => ?_, fun c => ⟨fun d => ?_, fun d => ?_⟩⟩
  · rw [if_pos c] at k
    exact k M h
  · rw [if_neg c, if_pos d] at k
    by_cases e : (aL A).length < 18
    · rw [if_pos e] at k
      refine Sg_add_ok T_pad (by omega) h.1.1 e (fun M1 hS f => ?_)
      refine br_f (by decide) (Sg_many_ok T_pad hS ?_)
      rw [List.length_append]
      exact k M1 ⟨h.1.pad f hS, h.2.1.imp (fun q => by rw [(f 0 (by omega)).1]; exact q) (fun q => q.fr hv.2.1 f (by omega)), h.2.2.fr f (by omega)⟩
    · rw [if_neg e] at k
      have hl := hv.1
      refine e_Sg_add T_pad ⟨by omega, ?_⟩
      rw [h.1.1.1]
      exact pk_le 18 (aL A).length (fun _ => br_t rfl (k M h)) (fun q => absurd q (by omega))
  · rw [if_neg c, if_neg d] at k
    exact k M h
theorem E_wipe_ok (h : XS M A) (hv : VA A) {Q : Int32 → Mem → Prop} (k : ∀ M', XS M' (aWipe A).2 → Q (aWipe A).1 M') : CallI zX m_E_wipe [.ref 0] M Q := by
  refine e_E_wipe (Sg_many_ok T_pad h.1.1 (Sg_clear_ok T_pad (fun M1 hS f => k M1 ⟨h.1.pad f hS, h.2.1.imp (fun q => by rw [(f 0 (by omega)).1]; exact q) (fun q => q.fr hv.2.1 f (by omega)), h.2.2.fr f (by omega)⟩)))
theorem E_fault_ok (h : XS M A) (hv : VA A) {x : Int32} {Q : Int32 → Mem → Prop} (k : Q (aFault A x) M) : CallI zX m_E_fault [.ref 0, .int x] M Q := by
  unfold aFault at k
  refine e_E_fault ⟨fun c => ?_, fun c => ⟨fun d => ?_, fun d => ?_⟩⟩
  · rw [if_pos c] at k
    exact E_exampleFault_ok h.1 hv k
  · rw [if_neg c, if_pos d] at k
    exact E_lineFault_ok h.1 hv k
  · rw [if_neg c, if_neg d] at k
    exact k
theorem E_example_ok (h : XS M A) (hv : VA A) {Q : Int32 → Mem → Prop} (k : ∀ M', XS M' (aExample A).2 → Q (aExample A).1 M') : CallI zX m_E_example [.ref 0] M Q := by
  unfold aExample at k
  have hl := hv.1
  have hb3 := hv.2.1.1
  refine e_E_example (E_exampleFault_ok h.1 hv ⟨fun c => ?_, fun c => ?_⟩)
  · rw [if_pos c] at k
    have e := exF_ok c
    have e2 : (aL A).length - (sE (aL A) 12 0 + 1) ≤ 5 := by have := e.2.1.2.1; rw [List.length_drop] at this; exact this
    refine Bk_examples_ok T_book h.1.2.1 (pk_lt (bN (aB A)) 3 (fun d => ?_) (fun d => ?_))
    · rw [if_pos d] at k
      refine Sg_signsEnd_ok (from0 := 0) (most := 12) T_pad (by omega) h.1.1 hl (by omega) (by omega) ?_
      rw [nI_1]
      refine Bk_addExample_ok T_book h.1.2.1 d T_pad (by omega) h.1.1 hl (by omega) T_pad (by omega) h.1.1 hl (by omega) e.2.2.1 (by omega) e2 (fun M1 hB f1 => ?_)
      have hK1 := h.1.bk f1 hB
      refine Sg_clear_ok T_pad (fun M2 hS f2 => ?_)
      have hK2 := hK1.pad f2 hS
      exact E_examplesChanged_ok hK2 (fun M3 hX => Bk_examples_ok T_book hX.1.2.1 (k M3 hX))
    · rw [if_neg (by omega)] at k
      exact k M h
  · rw [if_neg c] at k
    exact k M h
theorem E_forget_ok (h : XS M A) (hv : VA A) {Q : Int32 → Mem → Prop} (k : ∀ M', XS M' (aForget A).2 → Q (aForget A).1 M') : CallI zX m_E_forget [.ref 0] M Q := by
  unfold aForget at k
  have hb3 := hv.2.1.1
  refine e_E_forget (Bk_examples_ok T_book h.1.2.1 (pk_eq (bN (aB A)) 0 (fun d => ?_) (fun d => ?_)))
  · rw [if_pos d] at k
    exact k M h
  · rw [if_neg d] at k
    refine Bk_dropExample_ok T_book h.1.2.1 (by omega) hb3 (fun M1 hB f1 => ?_)
    exact E_examplesChanged_ok (h.1.bk f1 hB) (fun M3 hX => Bk_examples_ok T_book hX.1.2.1 (k M3 hX))
theorem E_pool_ok (h : XS M A) (hv : VA A) {Q : Int32 → Mem → Prop} (k : ∀ M', XS M' (aPool A).2 → Q (aPool A).1 M') : CallI zX m_E_pool [.ref 0] M Q := by
  unfold aPool at k
  have hl := hv.1
  have hb6 := hv.2.1.2.1
  refine e_E_pool (E_lineFault_ok h.1 hv ⟨fun c => ?_, fun c => ?_⟩)
  · rw [if_pos c] at k
    have e := liF_ok c
    refine Bk_pooled_ok T_book h.1.2.1 (pk_lt (bM (aB A)) 6 (fun d => ?_) (fun d => ?_))
    · rw [if_pos d] at k
      refine Bk_addLine_ok T_book h.1.2.1 d T_pad (by omega) (by omega) h.1.1 e.1 hl (fun M1 hB f1 => ?_)
      refine Sg_clear_ok T_pad (fun M2 hS f2 => E_poolChanged_ok (fun M3 hC f3 => ?_))
      have hK3 := ((h.1.bk f1 hB).pad f2 hS).fr f3 (by omega)
      refine Bk_pooled_ok T_book hK3.2.1 (k M3 ⟨hK3, ?_, none_CA hC _⟩)
      refine h.2.1.imp (fun q => ?_) (fun q => (show FO M3 (aB A) from ((q.fr hv.2.1 f1 (by omega)).fr hv.2.1 f2 (by omega)).fr hv.2.1 f3 (by omega)))
      rw [(f3 0 (by omega)).1, (f2 0 (by omega)).1, (f1 0 (by omega)).1]
      exact q
    · rw [if_neg (by omega)] at k
      exact k M h
  · rw [if_neg c] at k
    exact k M h
theorem E_drain_ok (h : XS M A) (hv : VA A) {x : Int32} {Q : Int32 → Mem → Prop} (k : ∀ M', XS M' (aDrain A x).2 → Q (aDrain A x).1 M') : CallI zX m_E_drain [.ref 0, .int x] M Q := by
  unfold aDrain at k
  have hb6 := hv.2.1.2.1
  refine e_E_drain (Bk_knows_ok T_book h.1.2.1 (fun c => br_f (by decide) ?_) (fun c => br_t rfl ?_))
  · rw [if_pos (show ¬ x < 0 ∧ x < nI (bM (aB A)) from c)] at k
    have e := kno_nat hb6 c
    generalize x.toNatClampNeg = j at k e
    rw [e.2]
    refine Bk_dropLine_ok T_book h.1.2.1 hb6 e.1 (fun M1 hB f1 => E_poolChanged_ok (fun M3 hC f3 => ?_))
    have hK3 := (h.1.bk f1 hB).fr f3 (by omega)
    refine Bk_pooled_ok T_book hK3.2.1 (k M3 ⟨hK3, ?_, none_CA hC _⟩)
    refine h.2.1.imp (fun q => ?_) (fun q => (show FO M3 (aB A) from (q.fr hv.2.1 f1 (by omega)).fr hv.2.1 f3 (by omega)))
    rw [(f3 0 (by omega)).1, (f1 0 (by omega)).1]
    exact q
  · rw [if_neg (show ¬ (¬ x < 0 ∧ x < nI (bM (aB A))) from c)] at k
    exact k M h
theorem E_image_ok (h : XS M A) (hv : VA A) {x : Int32} {Q : Int32 → Mem → Prop} (k : ∀ M', XS M' (aImage A x).2 → Q (aImage A x).1 M') : CallI zX m_E_image [.ref 0, .int x] M Q := by
  unfold aImage at k
  refine e_E_image ⟨fun c => ?_, fun c => ⟨fun d => ?_, fun d => ?_⟩⟩
  · rw [if_pos c] at k
    exact k M h
  · rw [if_neg c, if_pos d] at k
    obtain ⟨j, hj, rfl⟩ := nI_of c
    have hj2 : j < 2 := (nI_ltI (b := 2) hj (by omega)).mp d
    rw [nI_clamp hj] at k ⊢
    refine ⟨vp_in_nI hj2 (by omega), Bk_copy_ok (T_images j hj2) T_book (by omega) h.1.2.1 (fun M1 hB f1 => ⟨vp_in_nI hj2 (by omega), ?_⟩)⟩
    rintro N rfl
    have f2 : FR 45 46 M1 (uI M1 45 j (vp_nar .boolean 1)) := FR.uI (by omega) (by omega)
    refine k _ ⟨⟨(h.1.1.fr f1 (by omega)).fr f2 (by omega), (h.1.2.1.fr f1 (by omega)).fr f2 (by omega), fun i hi => ?_⟩, h.2.1.imp (fun q => ?_) (fun q => (q.fr hv.2.1 f1 (by omega)).fr hv.2.1 f2 (by omega)), (h.2.2.fr f1 (by omega)).fr f2 (by omega)⟩
    · show match (if i = j then some (aB A) else aI A i) with
        | none => _
        | some b => _
      by_cases e : i = j
      · subst e
        rw [if_pos rfl]
        exact ⟨uI_s, hB.fr f2 (by omega)⟩
      · rw [if_neg e]
        have := h.1.2.2 i hi
        revert this
        cases aI A i with
        | none =>
          intro t
          show (uI M1 45 j (vp_nar .boolean 1)).1 45 i = 0
          rw [uI_k e, (f1 45 (by omega)).1]
          exact t
        | some b =>
          intro t
          refine ⟨?_, (t.2.fr f1 (by omega)).fr f2 (by omega)⟩
          rw [uI_k e, (f1 45 (by omega)).1]
          exact t.1
    · rw [(f2 0 (by omega)).1, (f1 0 (by omega)).1]
      exact q
  · rw [if_neg c, if_neg d] at k
    exact k M h
theorem E_restore_ok (h : XS M A) (hv : VA A) {x : Int32} {Q : Int32 → Mem → Prop} (k : ∀ M', XS M' (aRestore A x).2 → Q (aRestore A x).1 M') : CallI zX m_E_restore [.ref 0, .int x] M Q := by
  unfold aRestore at k
  refine e_E_restore ⟨fun c => ?_, fun c => ⟨fun d => ?_, fun d => ?_⟩⟩
  · rw [if_pos c] at k
    exact k M h
  · rw [if_neg c, if_pos d] at k
    obtain ⟨j, hj, rfl⟩ := nI_of c
    have hj2 : j < 2 := (nI_ltI (b := 2) hj (by omega)).mp d
    rw [nI_clamp hj] at k ⊢
    refine ⟨vp_in_nI hj2 (by omega), ?_⟩
    have := h.1.2.2 j hj2
    revert this
    cases e : aI A j with
    | none =>
      intro t
      rw [e] at k
      exact br_t t (k M h)
    | some b =>
      intro t
      rw [e] at k
      refine br_f (fun z => absurd (t.1.symm.trans z) (by decide)) ⟨vp_in_nI hj2 (by omega), ?_⟩
      refine Bk_copy_ok T_book (T_images j hj2) (by omega) t.2 (fun M1 hB f1 => ?_)
      exact E_examplesChanged_ok (h.1.bk f1 hB) (fun M3 hX => k M3 hX)
  · rw [if_neg c, if_neg d] at k
    exact k M h
theorem E_told_ok (h : XS M A) (hv : VA A) {x : Int32} {Q : Int32 → Mem → Prop} (k : Q (aTold A x) M) : CallI zX m_E_told [.ref 0, .int x] M Q := by
  have h3 := hv.2.1.1
  have h6 := hv.2.1.2.1
  have hB := h.1.2.1
  unfold aTold at k
  refine e_E_told ⟨fun c => ?_, fun c => ⟨fun c1 => ?_, fun c1 => ⟨fun c2 => ?_, fun c2 => ?_⟩⟩⟩
  · rw [if_pos c] at k
    exact Sg_many_ok T_pad h.1.1 k
  · rw [if_neg c, if_pos c1] at k
    exact Bk_examples_ok T_book hB k
  · rw [if_neg c, if_neg c1, if_pos c2] at k
    exact Bk_pooled_ok T_book hB k
  rw [if_neg c, if_neg c1, if_neg c2] at k
  have L3 : ¬ (30 ≤ x ∧ x < nI (30 + bM (aB A))) → Q (-2) M → wp zX m_E_told (QI Q) 108 [(0, .ref 0), (1, .int x)] [] M := by
    intro z q
    refine b_E_told_108 ⟨fun _ => q, fun d => Bk_knows_ok T_book hB (fun e => absurd ?_ z) (fun e => br_t rfl q)⟩
    obtain ⟨j, hj, e2⟩ := (kno_iff h6).mp e
    have : x = nI (j + 30) := by rw [← nI_add, ← e2]; exact (Int32.sub_add_cancel x 30).symm
    rw [this, show (30 : Int32) = nI 30 from rfl]
    exact ⟨(nI_leI (by omega) (by omega)).mpr (by omega), (nI_ltI (by omega) (by omega)).mpr (by omega)⟩
  have L3' : ∀ i, i < bM (aB A) → x = nI (30 + i) → Q (nI (bP (aB A) i).length) M → wp zX m_E_told (QI Q) 108 [(0, .ref 0), (1, .int x)] [] M := by
    rintro i hi rfl q
    refine b_E_told_108 (pk_lt (30 + i) 30 (fun q => absurd q (by omega)) (fun _ => ?_))
    rw [show nI (30 + i) - 30 = nI i from (pk_sub (a := 30 + i) (b := 30) (by omega)).trans (by rw [Nat.add_sub_cancel_left])]
    refine Bk_knows_ok T_book hB (fun e => br_f (by decide) (Bk_line_ok T_book (by omega) ⟨12, T_li T_book (by omega), Sg_many_ok (T_li T_book (by omega)) (hB.2.2.2 i (by omega)).1 q⟩)) (fun e => absurd ((kno_iff h6).mpr ⟨i, hi, rfl⟩) e)
  have L2 : (x < 20 ∨ nI (20 + bN (aB A)) ≤ x) → wp zX m_E_told (QI Q) 108 [(0, .ref 0), (1, .int x)] [] M → wp zX m_E_told (QI Q) 73 [(0, .ref 0), (1, .int x)] [] M := by
    intro z q
    refine b_E_told_73 ⟨fun _ => q, fun d => Bk_examples_ok T_book hB ?_⟩
    rw [show 20 + nI (bN (aB A)) = nI (20 + bN (aB A)) from nI_add 20 _]
    exact br_t (z.resolve_left d) q
  have L2' : ∀ i, i < bN (aB A) → x = nI (20 + i) → Q (nI (bR (aB A) i).length) M → wp zX m_E_told (QI Q) 73 [(0, .ref 0), (1, .int x)] [] M := by
    rintro i hi rfl q
    refine b_E_told_73 (pk_lt (20 + i) 20 (fun q => absurd q (by omega)) (fun _ => Bk_examples_ok T_book hB ?_))
    rw [show 20 + nI (bN (aB A)) = nI (20 + bN (aB A)) from nI_add 20 _]
    refine pk_le (20 + bN (aB A)) (20 + i) (fun q => absurd q (by omega)) (fun _ => ?_)
    rw [show nI (20 + i) - 20 = nI i from (pk_sub (a := 20 + i) (b := 20) (by omega)).trans (by rw [Nat.add_sub_cancel_left])]
    exact Bk_result_ok T_book (by omega) ⟨5, T_re T_book (by omega), Sg_many_ok (T_re T_book (by omega)) (hB.2.2.1 i (by omega)).2.1 q⟩
  have L1 : (x < 10 ∨ nI (10 + bN (aB A)) ≤ x) → wp zX m_E_told (QI Q) 73 [(0, .ref 0), (1, .int x)] [] M → ((x < 10 → (wp zX m_E_told (QI Q) 73 [(0, .ref 0), (1, .int x)] [] M)) ∧ (¬ x < 10 → (CallI zX m_Bk_examples [.ref 4] M (fun r24 M23 => ((10 + r24) ≤ x → (wp zX m_E_told (QI Q) 73 [(0, .ref 0), (1, .int x)] [] M23)) ∧ (¬ (10 + r24) ≤ x → (CallR zX m_Bk_exampleLine [.ref 4, .int (x - 10)] M23 (fun r30 M29 => ∃ n32, T_Sg zX r30 n32 ∧ (CallI zX m_Sg_many [.ref r30] M29 (fun r35 M34 => Q r35 M34))))))))) := by
    intro z q
    refine ⟨fun _ => q, fun d => Bk_examples_ok T_book hB ?_⟩
    rw [show 10 + nI (bN (aB A)) = nI (10 + bN (aB A)) from nI_add 10 _]
    exact br_t (z.resolve_left d) q
  have sp : ∀ (c0 n0 : Nat), c0 < 100 → n0 < 100 → ¬ (nI c0 ≤ x ∧ x < nI (c0 + n0)) → x < nI c0 ∨ nI (c0 + n0) ≤ x := by
    intro c0 n0 hc hn z
    rw [Int32.le_iff_toInt_le, Int32.lt_iff_toInt_lt, nI_toInt (by omega), nI_toInt (by omega)] at z
    rw [Int32.le_iff_toInt_le, Int32.lt_iff_toInt_lt, nI_toInt (by omega), nI_toInt (by omega)]
    omega
  have sq : ∀ (c0 n0 : Nat), c0 < 100 → n0 < 100 → (nI c0 ≤ x ∧ x < nI (c0 + n0)) → ∃ i, i < n0 ∧ x = nI (c0 + i) := by
    intro c0 n0 hc hn z
    have p0 : ¬ x < 0 := fun q => by
      have z1 := z.1
      have z0 : (0 : Int32).toInt = 0 := rfl
      rw [Int32.le_iff_toInt_le, nI_toInt (by omega)] at z1
      rw [Int32.lt_iff_toInt_lt] at q
      omega
    obtain ⟨j, hj, rfl⟩ := nI_of p0
    rw [nI_leI (by omega) hj, nI_ltI hj (by omega)] at z
    exact ⟨j - c0, by omega, by rw [Nat.add_sub_cancel' z.1]⟩
  by_cases d1 : 10 ≤ x ∧ x < nI (10 + bN (aB A))
  · rw [if_pos d1] at k
    obtain ⟨i, hi, rfl⟩ := sq 10 _ (by omega) (by omega) d1
    rw [nI_clamp (by omega), Nat.add_sub_cancel_left] at k
    refine pk_lt (10 + i) 10 (fun q => absurd q (by omega)) (fun _ => Bk_examples_ok T_book hB ?_)
    rw [show 10 + nI (bN (aB A)) = nI (10 + bN (aB A)) from nI_add 10 _]
    refine pk_le (10 + bN (aB A)) (10 + i) (fun q => absurd q (by omega)) (fun _ => ?_)
    rw [show nI (10 + i) - 10 = nI i from (pk_sub (a := 10 + i) (b := 10) (by omega)).trans (by rw [Nat.add_sub_cancel_left])]
    exact Bk_exampleLine_ok T_book (by omega) ⟨12, T_ex T_book (by omega), Sg_many_ok (T_ex T_book (by omega)) (hB.2.2.1 i (by omega)).1.1 k⟩
  rw [if_neg d1] at k
  refine L1 (sp 10 _ (by omega) (by omega) d1) ?_
  by_cases d2 : 20 ≤ x ∧ x < nI (20 + bN (aB A))
  · rw [if_pos d2] at k
    obtain ⟨i, hi, e⟩ := sq 20 _ (by omega) (by omega) d2
    refine L2' i hi e ?_
    rw [e, nI_clamp (by omega), Nat.add_sub_cancel_left] at k
    exact k
  rw [if_neg d2] at k
  refine L2 (sp 20 _ (by omega) (by omega) d2) ?_
  by_cases d3 : 30 ≤ x ∧ x < nI (30 + bM (aB A))
  · rw [if_pos d3] at k
    obtain ⟨i, hi, e⟩ := sq 30 _ (by omega) (by omega) d3
    refine L3' i hi e ?_
    rw [e, nI_clamp (by omega), Nat.add_sub_cancel_left] at k
    exact k
  · rw [if_neg d3] at k
    exact L3 d3 k
end ZO1
