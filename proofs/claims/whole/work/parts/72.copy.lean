/-! Copying loops -/
def cpm (M : Mem) (d off s soff n : Nat) : Mem := (fun a k => if a = d ∧ off ≤ k ∧ k < off + n then M.1 s (soff + (k - off)) else M.1 a k, M.2)
theorem cpm_n {M : Mem} {d off s soff n a : Nat} (h : a ≠ d) : (cpm M d off s soff n).1 a = M.1 a := funext fun k => if_neg (fun z => h z.1)
theorem cpm_o {M : Mem} {d off s soff n a k : Nat} (h : k < off ∨ off + n ≤ k) : (cpm M d off s soff n).1 a k = M.1 a k := if_neg (fun z => by omega)
theorem cpm_i {M : Mem} {d off s soff n i : Nat} (h : i < n) : (cpm M d off s soff n).1 d (off + i) = M.1 s (soff + i) := by
  show (if d = d ∧ off ≤ off + i ∧ off + i < off + n then M.1 s (soff + (off + i - off)) else M.1 d (off + i)) = _
  rw [if_pos ⟨rfl, by omega, by omega⟩, Nat.add_sub_cancel_left]
theorem cpm_0 {M : Mem} {d off s soff : Nat} : cpm M d off s soff 0 = M := by
  refine Prod.ext (funext fun a => funext fun k => if_neg (fun z => by omega)) rfl
theorem cpm_s {M : Mem} {d off s soff n : Nat} (hd : s ≠ d ∨ off ≤ soff) : uI (cpm M d off s soff n) d (off + n) ((cpm M d off s soff n).1 s (soff + n)) = cpm M d off s soff (n + 1) := by
  have e : (cpm M d off s soff n).1 s (soff + n) = M.1 s (soff + n) := by
    by_cases c : s = d
    · exact cpm_o (by omega)
    · rw [cpm_n c]
  rw [e]
  refine Prod.ext (funext fun a => funext fun k => ?_) rfl
  rw [uI_c]
  by_cases c : a = d ∧ k = off + n
  · rw [if_pos c, c.1, c.2]
    exact (cpm_i (by omega)).symm
  · rw [if_neg c]
    show (if a = d ∧ off ≤ k ∧ k < off + n then _ else _) = if a = d ∧ off ≤ k ∧ k < off + (n + 1) then _ else _
    by_cases z : a = d ∧ off ≤ k ∧ k < off + n
    · rw [if_pos z, if_pos ⟨z.1, z.2.1, by omega⟩]
    · rw [if_neg z, if_neg (fun y => z ⟨y.1, y.2.1, by
        have := y.2.2
        have : k ≠ off + n := fun q => c ⟨y.1, q⟩
        omega⟩)]
theorem cp_loop {Lp : Nat → Mem → Prop} (N d off s soff : Nat) (M0 : Mem) (hd : s ≠ d ∨ off ≤ soff) (step : ∀ i M', i < N → M' = cpm M0 d off s soff i → Lp (i + 1) (uI M' d (off + i) (M'.1 s (soff + i))) → Lp i M') (last : Lp N (cpm M0 d off s soff N)) : Lp 0 M0 := by
  have key : ∀ (j i : Nat), i + j = N → Lp i (cpm M0 d off s soff i) := by
    intro j
    induction j with
    | zero =>
      intro i hi
      have : i = N := by omega
      subst this
      exact last
    | succ j ih =>
      intro i hi
      refine step i _ (by omega) rfl ?_
      rw [cpm_s hd]
      exact ih (i + 1) (by omega)
  have := key N 0 (Nat.zero_add _)
  rw [cpm_0] at this
  exact this
theorem KF.cp {lo hi d off s soff n : Nat} {F : List Nat} {M : Mem} (h0 : 0 < lo) (h1 : lo ≤ d) (h2 : d < hi) : KF lo hi F M (cpm M d off s soff n) := ⟨fun a h3 h4 => ⟨cpm_n (by omega), rfl⟩, fun k _ => by rw [cpm_n (by omega)]⟩
theorem BY_congr {f1 f2 f3 f4 f5 f6 g1 g2 g3 g4 g5 g6 : Nat → Int32} {x y : Int32} {b : Bo} (hb : VB b) (h : BY f1 f2 f3 f4 f5 f6 x y b) (e1 : ∀ k, k < 36 → g1 k = f1 k) (e2 : ∀ k, k < 3 → g2 k = f2 k) (e3 : ∀ k, k < 15 → g3 k = f3 k) (e4 : ∀ k, k < 3 → g4 k = f4 k) (e5 : ∀ k, k < 72 → g5 k = f5 k) (e6 : ∀ k, k < 6 → g6 k = f6 k) : BY g1 g2 g3 g4 g5 g6 x y b := by
  have h3 := hb.1
  have h6 := hb.2.1
  refine ⟨h.1, h.2.1, fun i hi => ?_, fun i hi => ?_⟩
  · have z := h.2.2.1 i hi
    have zl := (hb.2.2.1 i hi).1.1
    have zr := (hb.2.2.1 i hi).2.2.1
    exact ⟨by rw [e2 _ (by omega)]; exact z.1, by rw [e4 _ (by omega)]; exact z.2.1, fun k hk => by rw [e1 _ (by omega)]; exact z.2.2.1 k hk, fun k hk => by rw [e3 _ (by omega)]; exact z.2.2.2 k hk⟩
  · have z := h.2.2.2 i hi
    have zl := (hb.2.2.2 i hi).1
    exact ⟨by rw [e6 _ (by omega)]; exact z.1, fun k hk => by rw [e5 _ (by omega)]; exact z.2 k hk⟩
theorem BM_add {M M' : Mem} {b : Bo} (hb : VB b) (h : BM M b) {l r : LI} (hl : ∀ k, k < l.length → M'.1 1 (12 * bN b + k) = gt l k) (e1 : ∀ z, z < 12 * bN b → M'.1 1 z = M.1 1 z) (h2 : M'.1 2 (bN b) = nI l.length) (e2 : ∀ z, z < bN b → M'.1 2 z = M.1 2 z) (hr : ∀ k, k < r.length → M'.1 3 (5 * bN b + k) = gt r k) (e3 : ∀ z, z < 5 * bN b → M'.1 3 z = M.1 3 z) (h4 : M'.1 4 (bN b) = nI r.length) (e4 : ∀ z, z < bN b → M'.1 4 z = M.1 4 z) (e5 : M'.1 5 = M.1 5) (e6 : M'.1 6 = M.1 6) (hx : M'.1 0 4 = nI (bN b + 1)) (hy : M'.1 0 7 = M.1 0 7) : BM M' (addE b l r) := by
  refine ⟨hx, by rw [hy]; exact h.2.1, fun i hi => ?_, fun i hi => ?_⟩
  · have hi2 : i < bN b + 1 := hi
    show M'.1 2 i = nI (fu (bE b) (bN b) l i).length ∧ M'.1 4 i = nI (fu (bR b) (bN b) r i).length ∧ (∀ k, k < (fu (bE b) (bN b) l i).length → M'.1 1 (12 * i + k) = gt (fu (bE b) (bN b) l i) k) ∧ ∀ k, k < (fu (bR b) (bN b) r i).length → M'.1 3 (5 * i + k) = gt (fu (bR b) (bN b) r i) k
    by_cases e : i = bN b
    · subst e
      rw [fu_s, fu_s]
      exact ⟨h2, h4, hl, hr⟩
    · rw [fu_n e, fu_n e]
      have z := h.2.2.1 i (by omega)
      have zl := (hb.2.2.1 i (by omega)).1.1
      have zr := (hb.2.2.1 i (by omega)).2.2.1
      exact ⟨by rw [e2 _ (by omega)]; exact z.1, by rw [e4 _ (by omega)]; exact z.2.1, fun k hk => by rw [e1 _ (by omega)]; exact z.2.2.1 k hk, fun k hk => by rw [e3 _ (by omega)]; exact z.2.2.2 k hk⟩
  · show M'.1 6 i = nI (bP b i).length ∧ ∀ k, k < (bP b i).length → M'.1 5 (12 * i + k) = gt (bP b i) k
    rw [e5, e6]
    exact h.2.2.2 i hi
theorem YS.bk {M M' : Mem} {A : AA} (h : YS M A) {l : LI} {b : Bo} (f : KF 1 7 [4, 7, 8] M M') (hB : BM M' b) (hP : PD M' l) : YS M' (l, b, aI A) := ⟨hP, hB, h.2.2.1.kt f (by omega), h.2.2.2.kt f (by omega)⟩
section ZS3
variable {M : Mem} {A : AA}
theorem M_goFrom_ok {b : Bo} (hb : VB b) (hB : BM M b) {x : Nat} (hx : x < bM b) {Q : Mem → Prop} (k : ∀ M', BM M' (dropP b x) → KF 5 7 [7] M M' → Q M') : CallV zY m_M_goFrom [.ref 0, .int (nI x)] M Q := by
  have h6 := hb.2.1
  refine e_M_goFrom ?_
  rw [hB.2.1]
  rintro N rfl
  rw [show nI (bM b) - 1 = nI (bM b - 1) from pk_sub (b := 1) (by omega)]
  have key : ∀ (j i : Nat) (M' : Mem), i + j = bM b - 1 → x ≤ i → KF 5 7 [7] M M' → M'.1 0 7 = nI (bM b - 1) → (∀ u, u < bM b → M'.1 6 u = nI (if x ≤ u ∧ u < i then bP b (u + 1) else bP b u).length ∧ ∀ w, w < (if x ≤ u ∧ u < i then bP b (u + 1) else bP b u).length → M'.1 5 (12 * u + w) = gt (if x ≤ u ∧ u < i then bP b (u + 1) else bP b u) w) → wp zY m_M_goFrom (QV Q) 12 [(0, .ref 0), (2, .int (nI i))] [] M' := by
    intro j
    induction j with
    | zero =>
      intro i M' hi hxi f h7 hS
      refine b_M_goFrom_12 ?_
      rw [h7]
      refine pk_le (bM b - 1) i (fun _ => k M' ⟨by rw [f.z (k := 4)]; exact hB.1, h7, fun u hu => ?_, fun u hu => ?_⟩ f) (fun z => absurd z (by omega))
      · rw [f.a (a := 1) (by omega) (by omega), f.a (a := 2) (by omega) (by omega), f.a (a := 3) (by omega) (by omega), f.a (a := 4) (by omega) (by omega)]
        exact hB.2.2.1 u hu
      · have hu2 : u < bM b - 1 := hu
        have s := hS u (by omega)
        show M'.1 6 u = nI (if x ≤ u ∧ u + 1 < bM b then bP b (u + 1) else bP b u).length ∧ ∀ w, w < (if x ≤ u ∧ u + 1 < bM b then bP b (u + 1) else bP b u).length → M'.1 5 (12 * u + w) = gt (if x ≤ u ∧ u + 1 < bM b then bP b (u + 1) else bP b u) w
        by_cases c : x ≤ u
        · rw [if_pos ⟨c, by omega⟩] at s
          rw [if_pos ⟨c, by omega⟩]
          exact s
        · rw [if_neg (fun z => c z.1)] at s
          rw [if_neg (fun z => c z.1)]
          exact s
    | succ j ih =>
      intro i M' hi hxi f h7 hS
      refine b_M_goFrom_12 ?_
      rw [h7]
      refine pk_le (bM b - 1) i (fun z => absurd z (by omega)) (fun _ => ?_)
      rw [nI_1]
      refine ⟨vp_in_nI (by omega) (by omega), vp_in_nI (by omega) (by omega), ?_⟩
      rw [nI_clamp (by omega), nI_clamp (by omega)]
      rintro N rfl
      have s1 := hS (i + 1) (by omega)
      rw [if_neg (fun z => absurd z.2 (by omega))] at s1
      have hl1 := (hb.2.2.2 (i + 1) (by omega)).1
      rw [s1.1]
      have g1 : KF 5 7 [7] M' (uI M' 6 i (nI (bP b (i + 1)).length)) := KF.wI (by omega) (by omega) (by omega)
      refine cp_loop (Lp := fun v M2 => wp zY m_M_goFrom (QV Q) 36 [(0, .ref 0), (2, .int (nI i)), (3, .int (nI v))] [] M2) 12 5 (12 * i) 5 (12 * i + 12) _ (Or.inr (by omega)) (fun v M2 hv e nx => ?_) ?_
      · refine b_M_goFrom_36 (pk_le 12 v (fun z => absurd z (by omega)) (fun _ => ?_))
        rw [show (12 : Int32) * nI i = nI (12 * i) from pk_mul 12 _, show nI (12 * i) + 12 = nI (12 * i + 12) from nI_add _ 12, nI_add, nI_add]
        refine ⟨vp_in_nI (by omega) (by omega), vp_in_nI (by omega) (by omega), ?_⟩
        rw [nI_clamp (by omega), nI_clamp (by omega), nI_1]
        rintro N rfl
        exact nx
      · refine b_M_goFrom_36 (br_t (by decide) ?_)
        rw [nI_1]
        have g2 : KF 5 7 [7] (uI M' 6 i (nI (bP b (i + 1)).length)) (cpm (uI M' 6 i (nI (bP b (i + 1)).length)) 5 (12 * i) 5 (12 * i + 12) 12) := KF.cp (by omega) (by omega) (by omega)
        refine ih (i + 1) _ (by omega) (by omega) ((f.trans g1).trans g2) (by rw [cpm_n (by omega), uI_n (by omega)]; exact h7) (fun u hu => ?_)
        rw [cpm_n (a := 6) (by omega)]
        by_cases e : u = i
        · subst e
          rw [if_pos ⟨hxi, by omega⟩, uI_s]
          refine ⟨rfl, fun w hw => ?_⟩
          rw [cpm_i (by omega), uI_n (by omega), show 12 * u + 12 + w = 12 * (u + 1) + w from by omega]
          exact s1.2 w hw
        · have s := hS u hu
          have hlu : (if x ≤ u ∧ u < i then bP b (u + 1) else bP b u).length ≤ 12 := by
            split
            · exact (hb.2.2.2 _ (by omega)).1
            · exact (hb.2.2.2 _ hu).1
          have ec : (if x ≤ u ∧ u < i + 1 then bP b (u + 1) else bP b u) = (if x ≤ u ∧ u < i then bP b (u + 1) else bP b u) := by
            by_cases c : x ≤ u ∧ u < i
            · rw [if_pos c, if_pos ⟨c.1, by omega⟩]
            · rw [if_neg c, if_neg (fun z => c ⟨z.1, by omega⟩)]
          rw [ec, uI_k e]
          refine ⟨s.1, fun w hw => ?_⟩
          rw [cpm_o (by omega), uI_n (by omega)]
          exact s.2 w hw
  refine key (bM b - 1 - x) x _ (by omega) (Nat.le_refl _) KF.wz uI_s (fun u hu => ?_)
  rw [if_neg (fun z => absurd z.2 (by omega)), uI_n (by omega), uI_n (by omega)]
  exact hB.2.2.2 u hu
theorem M_forget_ok (h : YS M A) (hv : VA A) {Q : Int32 → Mem → Prop} (k : ∀ M', YS M' (aForget A).2 → Q (aForget A).1 M') : CallI zY m_M_forget [.ref 0] M Q := by
  unfold aForget at k
  have hb3 := hv.2.1.1
  refine e_M_forget ?_
  rw [h.2.1.1]
  refine pk_eq (bN (aB A)) 0 (fun d => ?_) (fun d => ?_)
  · rw [if_pos d] at k
    exact k M h
  · rw [if_neg d] at k
    rintro N rfl
    rw [uI_s, show nI (bN (aB A)) - 1 = nI (bN (aB A) - 1) from pk_sub (b := 1) (by omega)]
    have f : KF 1 7 [4, 7, 8] M (uI M 0 4 (nI (bN (aB A) - 1))) := KF.wz
    refine k _ (h.bk f ⟨uI_s, by rw [uI_k (by omega)]; exact h.2.1.2.1, fun i hi => ?_, fun i hi => ?_⟩ ⟨by rw [uI_k (by omega)]; exact h.1.1, by rw [uI_n (by omega)]; exact h.1.2⟩)
    · have hi2 : i < bN (aB A) - 1 := hi
      rw [uI_n (b := 1) (by omega), uI_n (b := 2) (by omega), uI_n (b := 3) (by omega), uI_n (b := 4) (by omega)]
      exact h.2.1.2.2.1 i (by omega)
    · rw [uI_n (b := 5) (by omega), uI_n (b := 6) (by omega)]
      exact h.2.1.2.2.2 i hi
theorem M_drain_ok (h : YS M A) (hv : VA A) {x : Int32} {Q : Int32 → Mem → Prop} (k : ∀ M', YS M' (aDrain A x).2 → Q (aDrain A x).1 M') : CallI zY m_M_drain [.ref 0, .int x] M Q := by
  unfold aDrain at k
  have hb6 := hv.2.1.2.1
  refine e_M_drain ?_
  rw [h.2.1.2.1]
  refine M_in_n (by omega) (fun i hi e => ?_) (fun z => ?_)
  · subst e
    rw [if_pos ⟨nI_pos (by omega), nI_lt hi (by omega)⟩, nI_clamp (by omega)] at k
    refine br_f (by decide) (M_goFrom_ok hv.2.1 h.2.1 hi (fun M1 hB f => ?_))
    have e7 : M1.1 0 7 = nI (bM (aB A) - 1) := hB.2.1
    rw [e7]
    refine k M1 (h.bk (f.mono (by omega) (by omega)) hB (h.1.kt f (by omega)))
  · rw [if_neg z] at k
    exact br_t rfl (k M h)
theorem M_pool_ok (h : YS M A) (hv : VA A) {Q : Int32 → Mem → Prop} (k : ∀ M', YS M' (aPool A).2 → Q (aPool A).1 M') : CallI zY m_M_pool [.ref 0] M Q := by
  unfold aPool at k
  have hb6 := hv.2.1.2.1
  have hl := hv.1
  refine e_M_pool (M_lineFault_ok h.1 hl ⟨fun c => ?_, fun c => ?_⟩)
  · have c := (liF_neg hl).mp c
    rw [if_pos c] at k
    have hll := (liF_ok c).1
    rw [h.2.1.2.1]
    refine pk_eq (bM (aB A)) 6 (fun d => ?_) (fun d => ?_)
    · rw [if_neg (by omega)] at k
      exact k M h
    · rw [if_pos (by omega)] at k
      refine cp_loop (Lp := fun v M2 => wp zY m_M_pool (QI Q) 24 [(0, .ref 0), (1, .int (nI v))] [] M2) (aL A).length 5 (12 * bM (aB A)) 7 0 M (Or.inl (by omega)) (fun v M2 hv2 e nx => ?_) ?_
      · have e8 : M2.1 0 8 = nI (aL A).length := by rw [e, cpm_n (by omega)]; exact h.1.1
        have e7 : M2.1 0 7 = nI (bM (aB A)) := by rw [e, cpm_n (by omega)]; exact h.2.1.2.1
        refine b_M_pool_24 ?_
        rw [e8, e7]
        refine pk_le (aL A).length v (fun z => absurd z (by omega)) (fun _ => ⟨vp_in_nI (by omega) (by omega), ?_⟩)
        rw [show (12 : Int32) * nI (bM (aB A)) = nI (12 * bM (aB A)) from pk_mul 12 _, nI_add]
        refine ⟨vp_in_nI (by omega) (by omega), ?_⟩
        rw [nI_clamp (by omega), nI_clamp (by omega), nI_1]
        rintro N rfl
        rw [Nat.zero_add] at nx
        exact nx
      · have g : KF 1 7 [4, 7, 8] M (cpm M 5 (12 * bM (aB A)) 7 0 (aL A).length) := KF.cp (by omega) (by omega) (by omega)
        have v5 : ∀ w, w < (aL A).length → (cpm M 5 (12 * bM (aB A)) 7 0 (aL A).length).1 5 (12 * bM (aB A) + w) = gt (aL A) w := fun w hw => by
          rw [cpm_i hw, Nat.zero_add]
          exact h.1.2 w hw
        have o5 : ∀ z, z < 12 * bM (aB A) → (cpm M 5 (12 * bM (aB A)) 7 0 (aL A).length).1 5 z = M.1 5 z := fun z hz => cpm_o (by omega)
        have n5 : ∀ a, a ≠ 5 → (cpm M 5 (12 * bM (aB A)) 7 0 (aL A).length).1 a = M.1 a := fun a ha => cpm_n ha
        generalize cpm M 5 (12 * bM (aB A)) 7 0 (aL A).length = M1 at g v5 o5 n5
        refine b_M_pool_24 ?_
        rw [n5 0 (by omega), h.1.1, h.2.1.2.1]
        refine br_t (Int32.le_refl _) ⟨vp_in_nI (by omega) (by omega), ?_⟩
        rw [nI_clamp (by omega)]
        rintro N rfl N2 rfl N3 rfl
        rw [uI_n (a := 6) (b := 0) (by omega), n5 0 (by omega), h.2.1.2.1, nI_1, uI_k (by omega), uI_s]
        have f : KF 1 7 [4, 7, 8] M (uI (uI (uI M1 6 (bM (aB A)) (nI (aL A).length)) 0 7 (nI (bM (aB A) + 1))) 0 8 0) := ((g.trans (KF.wI (by omega) (by omega) (by omega))).trans KF.wz).trans KF.wz
        refine k _ (h.bk f ⟨?_, ?_, fun i hi => ?_, fun i hi => ?_⟩ ⟨uI_s, fun i hi => absurd hi (Nat.not_lt_zero i)⟩)
        · rw [uI_k (by omega), uI_k (by omega), uI_n (by omega), n5 0 (by omega)]
          exact h.2.1.1
        · rw [uI_k (by omega), uI_s]
          rfl
        · simp (disch := omega) only [uI_n, n5]
          exact h.2.1.2.2.1 i hi
        · have hi2 : i < bM (aB A) + 1 := hi
          show _ = nI (fu (bP (aB A)) (bM (aB A)) (aL A) i).length ∧ ∀ w, w < (fu (bP (aB A)) (bM (aB A)) (aL A) i).length → _ = gt (fu (bP (aB A)) (bM (aB A)) (aL A) i) w
          by_cases e : i = bM (aB A)
          · subst e
            rw [fu_s]
            refine ⟨?_, fun w hw => ?_⟩
            · rw [uI_n (a := 0) (by omega), uI_n (a := 0) (by omega), uI_s]
            · rw [uI_n (a := 0) (by omega), uI_n (a := 0) (by omega), uI_n (by omega)]
              exact v5 w hw
          · rw [fu_n e]
            have s := h.2.1.2.2.2 i (by omega)
            have hlu := (hv.2.1.2.2.2 i (by omega)).1
            refine ⟨?_, fun w hw => ?_⟩
            · rw [uI_n (a := 0) (by omega), uI_n (a := 0) (by omega), uI_k e, n5 6 (by omega)]
              exact s.1
            · rw [uI_n (a := 0) (by omega), uI_n (a := 0) (by omega), uI_n (by omega), o5 _ (by omega)]
              exact s.2 w hw
  · rw [if_neg (fun z => c ((liF_neg hl).mpr z))] at k
    exact k M h
end ZS3
