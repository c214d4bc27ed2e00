/-! The reference: places by codes, and the examples laid as work -/
def BY (f1 f2 f3 f4 f5 f6 : Nat → Int32) (x y : Int32) (b : Bo) : Prop := x = nI (bN b) ∧ y = nI (bM b) ∧ (∀ i, i < bN b → f2 i = nI (bE b i).length ∧ f4 i = nI (bR b i).length ∧ (∀ k, k < (bE b i).length → f1 (12 * i + k) = gt (bE b i) k) ∧ ∀ k, k < (bR b i).length → f3 (5 * i + k) = gt (bR b i) k) ∧ ∀ i, i < bM b → f6 i = nI (bP b i).length ∧ ∀ k, k < (bP b i).length → f5 (12 * i + k) = gt (bP b i) k
def BM (M : Mem) (b : Bo) : Prop := BY (M.1 1) (M.1 2) (M.1 3) (M.1 4) (M.1 5) (M.1 6) (M.1 0 4) (M.1 0 7) b
def IM (M : Mem) (j : Nat) (b : Bo) : Prop := BY (fun k => M.1 20 (150 * j + 72 + k)) (fun k => M.1 20 (150 * j + 132 + k)) (fun k => M.1 20 (150 * j + 108 + k)) (fun k => M.1 20 (150 * j + 136 + k)) (fun k => M.1 20 (150 * j + k)) (fun k => M.1 20 (150 * j + 124 + k)) (M.1 20 (150 * j + 140)) (M.1 20 (150 * j + 141)) b
def PD (M : Mem) (l : LI) : Prop := M.1 0 8 = nI l.length ∧ ∀ k, k < l.length → M.1 7 k = gt l k
def IMS (M : Mem) (f : Nat → Option Bo) : Prop := ∀ j, j < 2 → match f j with
  | none => M.1 21 j = 0
  | some b => M.1 21 j = 1 ∧ IM M j b
def YS (M : Mem) (A : AA) : Prop := PD M (aL A) ∧ BM M (aB A) ∧ CD M ∧ IMS M (aI A)
theorem PD.kt {M M' : Mem} {l : LI} {lo hi : Nat} {F : List Nat} (h : PD M l) (f : KF lo hi F M M') (h1 : 9 ≤ lo ∨ hi ≤ 7) (hF : 8 ∉ F := by decide) : PD M' l := by
  refine ⟨by rw [f.z hF]; exact h.1, ?_⟩
  rw [f.a (by omega) (by omega)]
  exact h.2
theorem CD.kt {M M' : Mem} {lo hi : Nat} {F : List Nat} (h : CD M) (f : KF lo hi F M M') (h1 : 9 ≤ lo ∨ hi ≤ 8) : CD M' := by
  intro m hm
  rw [f.a (by omega) (by omega)]
  exact h m hm
theorem BM.kt {M M' : Mem} {b : Bo} {lo hi : Nat} {F : List Nat} (h : BM M b) (f : KF lo hi F M M') (h1 : 7 ≤ lo) (hF : 4 ∉ F := by decide) (hG : 7 ∉ F := by decide) : BM M' b := by
  unfold BM
  rw [f.a (a := 1) (by omega) (by omega), f.a (a := 2) (by omega) (by omega), f.a (a := 3) (by omega) (by omega), f.a (a := 4) (by omega) (by omega), f.a (a := 5) (by omega) (by omega), f.a (a := 6) (by omega) (by omega), f.z hF, f.z hG]
  exact h
theorem IMS.kt {M M' : Mem} {g : Nat → Option Bo} {lo hi : Nat} {F : List Nat} (h : IMS M g) (f : KF lo hi F M M') (h1 : hi ≤ 20 ∨ 22 ≤ lo) : IMS M' g := by
  intro j hj
  have := h j hj
  revert this
  cases g j with
  | none =>
    intro t
    show M'.1 21 j = 0
    rw [f.a (by omega) (by omega)]
    exact t
  | some b =>
    intro t
    show M'.1 21 j = 1 ∧ IM M' j b
    unfold IM
    rw [f.a (a := 21) (by omega) (by omega), f.a (a := 20) (by omega) (by omega)]
    exact t
theorem YS.kt {M M' : Mem} {A : AA} (h : YS M A) (f : KF 9 20 [12, 17, 23, 24] M M') : YS M' A :=
  ⟨h.1.kt f (by omega), h.2.1.kt f (by omega), h.2.2.1.kt f (by omega), h.2.2.2.kt f (by omega)⟩
def WR (M : Mem) (e : Nat) (l r : LI) : Prop := M.1 12 e = nI r.length ∧ (∀ k, k < r.length → M.1 11 (5 * e + k) = gt r k) ∧ (∀ k, k < l.length → M.1 10 (12 * e + k) = gt l k) ∧ ∀ m, m < 62 → M.1 13 (62 * e + m) = oI (plc l m)
def WK (M : Mem) (rs : RS) : Prop := M.1 0 17 = nI rs.length ∧ ∀ e, e < rs.length → WR M e (ln rs e) (rt rs e)
theorem WK.kt {M M' : Mem} {rs : RS} {lo hi : Nat} {F : List Nat} (h : WK M rs) (f : KF lo hi F M M') (h1 : hi ≤ 10 ∨ 14 ≤ lo) (hF : 17 ∉ F := by decide) : WK M' rs := by
  refine ⟨by rw [f.z hF]; exact h.1, fun e he => ?_⟩
  unfold WR
  rw [f.a (a := 10) (by omega) (by omega), f.a (a := 11) (by omega) (by omega), f.a (a := 12) (by omega) (by omega), f.a (a := 13) (by omega) (by omega)]
  exact h.2 e he
theorem NW.kt {M M' : Mem} {l : LI} {lo hi : Nat} {F : List Nat} (h : NW M l) (f : KF lo hi F M M') (h1 : hi ≤ 9 ∨ 10 ≤ lo) (hF : 12 ∉ F := by decide) : NW M' l := by
  refine ⟨by rw [f.z hF]; exact h.1, ?_⟩
  rw [f.a (by omega) (by omega)]
  exact h.2
theorem i32_c (a b c : Int32) : a + b - (b + c) + c = a := by
  apply Int32.toBitVec_inj.mp
  simp only [Int32.toBitVec_add, Int32.toBitVec_sub]
  bv_omega
theorem code_facts : ∀ m, m < 62 → 26 ≤ m → ((20 : Int32) ≤ nI (mcode m) ∧ (100 : Int32) ≤ nI (mcode m) ∧ (nI (mcode m) < 200 ↔ m < 44) ∧ (nI (mcode m) - nI (mcode m) / 100 * 100) / 20 = nI (mkd m) ∧ (nI (mcode m) - nI (mcode m) / 20 * 20) - 3 = mturn m ∧ mpass m < 100) := by decide +kernel
section ZR2
variable {M : Mem}
theorem M_runAt_ok {l : LI} (h : NW M l) (hl : l.length ≤ 12) {m : Nat} (hm : mpass m < 100) {x3 : Int32} {Q : Int32 → Mem → Prop} (k : Q (oI ((scan l (nI (mkd m)) (mup m) l.length 0 (mpass m)).map (fun b => if x3 = 0 then b else rE l (kd (gt l b)) l.length (b + 1)))) M) : CallI zY m_M_runAt [.ref 0, .int (nI (mkd m)), .int (mturn m), .int x3] M Q := by
  refine e_M_runAt (run6 h hl hm rfl l.length 0 0 (mpass m) (Nat.zero_add _) (Nat.zero_add _) ?_)
  rw [scan_eq, Option.map_map] at k
  cases e : scanM l (nI (mkd m)) (mup m) l.length 0 (mpass m) with
  | none =>
    rw [e] at k
    exact k
  | some p =>
    rw [e] at k
    have hp := scanM_lt _ _ _ _ (by omega) e
    show Q (if x3 = 0 then nI (bg l (nI (mkd m)) p) else nI (rE l (nI (mkd m)) l.length (p + 1))) M
    rw [Option.map_some] at k
    by_cases z : x3 = 0
    · rw [if_pos z]
      simp only [Function.comp, z, if_true] at k
      exact k
    · rw [if_neg z]
      simp only [Function.comp, z, if_false] at k
      rw [run_eq hp.1 hp.2] at k
      exact k
theorem M_placeOf_ok {l : LI} (h : NW M l) (hl : l.length ≤ 12) {m : Nat} (hm : m < 62) {Q : Int32 → Mem → Prop} (k : Q (oI (plc l m)) M) : CallI zY m_M_placeOf [.ref 0, .int (nI (mcode m))] M Q := by
  unfold plc at k
  by_cases c : m < 13
  · rw [if_pos c] at k
    have e : mcode m = m := by rw [mcode, if_pos c]
    rw [e]
    refine e_M_placeOf (pk_le 20 m (fun z => absurd z (by omega)) (fun _ => ?_))
    rw [h.1]
    refine pk_lt l.length m (fun z => ?_) (fun z => ?_)
    · rw [if_neg (by omega)] at k
      exact k
    · rw [if_pos z] at k
      exact k
  rw [if_neg c] at k
  by_cases d : m < 26
  · rw [if_pos d] at k
    have e : mcode m = m + 7 := by rw [mcode, if_neg c, if_pos d]
    rw [e]
    refine e_M_placeOf (pk_le 20 (m + 7) (fun _ => pk_le 100 (m + 7) (fun z => absurd z (by omega)) (fun _ => ?_)) (fun z => absurd z (by omega)))
    rw [h.1, show nI (m + 7) - 20 = nI (m - 13) from (pk_sub (a := m + 7) (b := 20) (by omega)).trans (congrArg nI (by omega))]
    refine pk_lt l.length (m - 13) (fun z => ?_) (fun z => ?_)
    · rw [if_neg (by omega)] at k
      exact k
    · rw [if_pos z] at k
      have e2 : nI l.length - nI (m + 7) + 20 = nI (l.length - (m - 13)) := by
        have w1 : nI l.length = nI (l.length - (m - 13)) + nI (m - 13) := by rw [nI_add, Nat.sub_add_cancel z]
        have w2 : nI (m + 7) = nI (m - 13) + 20 := by
          rw [show nI (m - 13) + 20 = nI (m - 13 + 20) from nI_add _ 20]
          exact congrArg nI (by omega)
        rw [w1, w2]
        exact i32_c _ _ _
      rw [e2]
      exact k
  rw [if_neg d] at k
  obtain ⟨f0, f1, f2, f3, f4, f5⟩ := code_facts m hm (by omega)
  refine e_M_placeOf (br_t f0 (br_t f1 ?_))
  rw [f3, f4]
  refine ⟨fun z => ?_, fun z => ?_⟩
  · refine M_runAt_ok h hl f5 ?_
    simp only [if_true]
    simp only [f2.mp z, if_true] at k
    exact k
  · refine M_runAt_ok h hl f5 ?_
    simp only [show ¬ (1 : Int32) = 0 from by decide, if_false]
    simp only [show ¬ m < 44 from fun y => z (f2.mpr y), if_false] at k
    exact k
end ZR2
