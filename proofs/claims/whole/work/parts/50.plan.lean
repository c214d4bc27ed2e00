/-! pieces and plans at work -/
def pm (r0 l : List Int32) (p : T3) : Option (List Int32) := if p.1 = 0 then (match plc l p.2.1, plc l p.2.2 with
  | some a, some b => if a < b then some ((l.take b).drop a) else none
  | _, _ => none) else some (txt r0 p)
/-- what a plan makes of a line; nothing, if a piece makes nothing -/
def mkF (r0 l : List Int32) : List T3 → List Int32 → List Int32
  | [], acc => acc
  | p :: ps, acc => match pm r0 l p with
    | none => []
    | some x => mkF r0 l ps (acc ++ x)
theorem pm_len {r0 l : List Int32} {p : T3} {x : List Int32} (hl : l.length ≤ 12) (hr : r0.length ≤ 5) (h : pm r0 l p = some x) : x.length ≤ 12 := by
  unfold pm at h
  split at h
  · split at h
    · split at h
      · simp only [Option.some.injEq] at h
        rw [← h, List.length_drop, List.length_take]
        omega
      · cases h
    · cases h
  · simp only [Option.some.injEq] at h
    rw [← h]
    unfold txt
    rw [List.length_drop, List.length_take]
    omega
theorem g3_pieces {ps : List T3} {r0 : List Int32} (h : ∀ p, p ∈ ps → PV r0 p) {i : Nat} (hi : i < ps.length) : PV r0 (g3 ps i) := h _ (g3_mem hi)
theorem PV_len {r0 : List Int32} {p : T3} (h : PV r0 p) (hp : p.1 ≠ 0) : (txt r0 p).length = p.2.1 ∧ p.1 = 1 := by
  rcases h with h | h
  · exact absurd h.1 hp
  · refine ⟨?_, h.1⟩
    unfold txt
    rw [List.length_drop, List.length_take]
    omega
section ZPL
variable {M : Mem} {r0 : List Int32}
theorem Pl_at_ok {i : Nat} (hi : i < 5) {Q : Nat → Mem → Prop} (h : Q (135 + 1 + 4 * i) M) : CallR zX m_Pl_at [.ref 134, .int (nI i)] M Q := by
  refine e_Pl_at (pk_lt i 0 (fun q => absurd q (by omega)) (fun _ => pk_le 5 i (fun q => absurd q (by omega)) (fun _ => ⟨vp_in_nI hi (by omega), ?_⟩)))
  rw [nI_clamp (by omega)]
  exact h
theorem Pl_many_ok {ps : List T3} (hP : PL M r0 ps) {Q : Int32 → Mem → Prop} (h : Q (nI ps.length) M) : CallI zX m_Pl_many [.ref 134] M Q := e_Pl_many (by rw [hP.1]; exact h)
theorem Pc_price_ok {a : Nat} (t : T_Pc zX a) {p : T3} (hp : PV r0 p) (hr : r0.length ≤ 5) (h0 : PC M a r0 p) {Q : Int32 → Mem → Prop} (h : Q (nI (pcost p)) M) : CallI zX m_Pc_price [.ref a] M Q := by
  unfold PC at h0
  unfold pcost at h
  refine e_Pc_price t ?_
  rcases hp with ⟨e0, h1, h2⟩ | ⟨e1, h1, h2⟩
  · rw [if_pos e0] at h0 h
    refine br_t h0.1 ?_
    rw [h0.2.1]
    refine Mk_price_ok h1 ?_
    rw [h0.2.2]
    refine Mk_price_ok h2 (e_Pc_cutPrice ?_)
    rw [nI_add, nI_1]
    exact h
  · have ne : p.1 ≠ 0 := by omega
    rw [if_neg ne] at h0 h
    refine br_f (by rw [h0.1]; decide) (Sg_many_ok t.2 h0.2 (e_Pc_textPrice ?_))
    rw [(PV_len (Or.inr ⟨e1, h1, h2⟩) ne).1, show (2 : Int32) * nI p.2.1 = nI (2 * p.2.1) from pk_mul 2 p.2.1, show nI (2 * p.2.1) + 2 = nI (2 * p.2.1 + 2) from nI_add (2 * p.2.1) 2]
    exact h
theorem Pl_price_ok {ps : List T3} (hP : PL M r0 ps) (hl : ps.length ≤ 5) (hv : ∀ p, p ∈ ps → PV r0 p) (hr : r0.length ≤ 5) {Q : Int32 → Mem → Prop} (h : Q (nI (ls ps pcost)) M) : CallI zX m_Pl_price [.ref 134] M Q := by
  have key : ∀ (k i acc : Nat), i + k = ps.length → acc + ls (ps.drop i) pcost = ls ps pcost → wp zX m_Pl_price (QI Q) 4 [(0, .ref 134), (1, .int (nI acc)), (2, .int (nI i))] [] M := by
    intro k
    induction k with
    | zero =>
      intro i acc hi he
      refine b_Pl_price_4 ?_
      rw [hP.1]
      refine pk_le ps.length i (fun _ => ?_) (fun q => absurd q (by omega))
      rw [List.drop_eq_nil_of_le (by omega), ls_nil, Nat.add_zero] at he
      rw [he]
      exact h
    | succ k ih =>
      intro i acc hi he
      refine b_Pl_price_4 ?_
      rw [hP.1]
      refine pk_le ps.length i (fun q => absurd q (by omega)) (fun q => Pl_at_ok (by omega) ⟨T_pieces i (by omega), Pc_price_ok (T_pieces i (by omega)) (g3_pieces hv q) hr (hP.2 i q) ?_⟩)
      rw [drop_g3 q, ls_cons] at he
      rw [nI_add, nI_1]
      exact ih (i + 1) _ (by omega) (by omega)
  exact e_Pl_price (key ps.length 0 0 (by omega) (by rw [List.drop_zero, Nat.zero_add]))
/-- what a piece tells -/
def ptell (r0 : List Int32) (p : T3) (what : Int32) : Int32 := if what = 0 then nI p.1 else if p.1 = 0 then (if what = 1 then nI (mcode p.2.1) else nI (mcode p.2.2)) else (if what = 1 then nI p.2.1 else gt r0 p.2.2)
theorem Pc_tells_ok {a : Nat} (t : T_Pc zX a) {p : T3} (hp : PV r0 p) (hr : r0.length ≤ 5) (h0 : PC M a r0 p) {what : Int32} {Q : Int32 → Mem → Prop} (h : Q (ptell r0 p what) M) : CallI zX m_Pc_tells [.ref a, .int what] M Q := by
  unfold PC at h0
  unfold ptell at h
  refine e_Pc_tells t ⟨fun c => ?_, fun c => ?_⟩
  · rw [if_pos c] at h
    rcases hp with ⟨e0, -, -⟩ | ⟨e1, -, -⟩
    · rw [if_pos e0] at h0
      rw [e0] at h
      exact br_t h0.1 h
    · rw [if_neg (by omega)] at h0
      rw [e1] at h
      exact br_f (by rw [h0.1]; decide) h
  · rw [if_neg c] at h
    rcases hp with ⟨e0, h1, h2⟩ | ⟨e1, h1, h2⟩
    · rw [if_pos e0] at h0 h
      refine br_t h0.1 ⟨fun d => ?_, fun d => ?_⟩
      · rw [if_pos d] at h
        rw [h0.2.1]
        exact Mk_code_ok h1 h
      · rw [if_neg d] at h
        rw [h0.2.2]
        exact Mk_code_ok h2 h
    · have ne : p.1 ≠ 0 := by omega
      have tl := (PV_len (Or.inr ⟨e1, h1, h2⟩) ne).1
      rw [if_neg ne] at h0 h
      refine br_f (by rw [h0.1]; decide) ⟨fun d => ?_, fun d => ?_⟩
      · rw [if_pos d] at h
        refine Sg_many_ok t.2 h0.2 ?_
        rw [tl]
        exact h
      · rw [if_neg d] at h
        refine Sg_at_ok (i := 0) t.2 (by omega) h0.2 (by omega) (by omega) ?_
        have e : gt (txt r0 p) 0 = gt r0 p.2.2 := by
          unfold txt gt
          rw [List.getD_eq_getElem?_getD, List.getD_eq_getElem?_getD, List.getElem?_drop, List.getElem?_take, if_pos (by omega), Nat.add_zero]
        rw [e]
        exact h
theorem Pc_addTo_ok {a : Nat} (t : T_Pc zX a) {p : T3} (hp : PV r0 p) (hr : r0.length ≤ 5) (h0 : PC M a r0 p) {o no : Nat} (to : T_Sg zX o no) (hno : no < 100) {b nb : Nat} (tb : T_Sg zX b nb) (hnb : nb < 100) {l acc : List Int32} (hL : SG M b l) (hl : l.length ≤ 12) (hlb : l.length ≤ nb) (hO : SG M o acc) (hcap : acc.length + 12 ≤ no) (hob : o + 3 ≤ b ∨ b + 3 ≤ o) (hoa : o + 3 ≤ a ∨ a + 4 ≤ o) {Q : Int32 → Mem → Prop}
    (hN : pm r0 l p = none → Q 0 M) (hY : ∀ x M', pm r0 l p = some x → SG M' o (acc ++ x) → FR o (o + 3) M M' → Q 1 M') : CallI zX m_Pc_addTo [.ref a, .ref o, .ref b] M Q := by
  unfold PC at h0
  refine e_Pc_addTo t to tb ?_
  rcases hp with ⟨e0, h1, h2⟩ | ⟨e1, h1, h2⟩
  · rw [if_pos e0] at h0
    have epm : pm r0 l p = (match plc l p.2.1, plc l p.2.2 with
      | some a, some b => if a < b then some ((l.take b).drop a) else none
      | _, _ => none) := if_pos e0
    rw [epm] at hN hY
    refine br_t h0.1 ?_
    rw [h0.2.1]
    refine Mk_placeIn_ok tb hnb hL hlb h1 ?_
    rw [h0.2.2]
    refine Mk_placeIn_ok tb hnb hL hlb h2 ?_
    cases q1 : plc l p.2.1 with
    | none =>
      rw [q1] at hN
      exact br_t rfl (hN rfl)
    | some x1 =>
      have b1 := plc_le q1
      refine br_f (nI_ne6 (by omega)) ?_
      cases q2 : plc l p.2.2 with
      | none =>
        rw [q1, q2] at hN
        exact br_t rfl (hN rfl)
      | some x2 =>
        have b2 := plc_le q2
        refine br_f (nI_ne6 (by omega)) ?_
        rw [q1, q2] at hN hY
        refine pk_lt x1 x2 (fun q => ?_) (fun q => ?_)
        · refine Sg_addFrom_call to hno tb hnb hob hlb (by omega) (by omega) (by omega) hO hL (by omega) (fun M' hS' hF' => ?_)
          exact hY _ M' (by simp only [if_pos q]) hS' hF'
        · exact hN (by simp only [if_neg (show ¬ x1 < x2 by omega)])
  · have ne : p.1 ≠ 0 := by omega
    have tl := (PV_len (Or.inr ⟨e1, h1, h2⟩) ne).1
    rw [if_neg ne] at h0
    have epm : pm r0 l p = some (txt r0 p) := if_neg ne
    refine br_f (by rw [h0.1]; decide) (Sg_many_ok t.2 h0.2 ?_)
    refine Sg_addFrom_call (i := 0) to hno t.2 (by omega) (by omega) (by omega) (by omega) (by omega) (by omega) hO h0.2 (by omega) (fun M' hS' hF' => ?_)
    rw [List.drop_zero, List.take_of_length_le (Nat.le_refl _)] at hS'
    exact hY _ M' epm hS' hF'
theorem Pl_applyTo_ok {ps : List T3} (hP : PL M r0 ps) (hpl : ps.length ≤ 5) (hv : ∀ p, p ∈ ps → PV r0 p) (hr : r0.length ≤ 5) {b nb : Nat} (tb : T_Sg zX b nb) (hnb : nb < 100) {l : List Int32} (hL : SG M b l) (hl : l.length ≤ 12) (hlb : l.length ≤ nb) (hb : b + 3 ≤ 134 ∨ 159 ≤ b) {Q : Mem → Prop} (h : ∀ M', SG M' 156 (mkF r0 l ps []) → FR 156 159 M M' → Q M') : CallV zX m_Pl_applyTo [.ref 134, .ref b, .ref 156] M Q := by
  have key : ∀ (k i : Nat) (acc : List Int32) (M' : Mem), i + k = ps.length → acc.length ≤ 12 * i → SG M' 156 acc → FR 156 159 M M' → mkF r0 l (ps.drop i) acc = mkF r0 l ps [] → wp zX m_Pl_applyTo (QV Q) 6 [(0, .ref 134), (1, .ref b), (2, .ref 156), (3, .int (nI i))] [] M' := by
    intro k
    induction k with
    | zero =>
      intro i acc M' hi ha hO f he
      have hP' := hP.fr hpl f (by omega)
      refine b_Pl_applyTo_6 tb T_made ?_
      rw [hP'.1]
      refine pk_le ps.length i (fun _ => h M' ?_ f) (fun q => absurd q (by omega))
      rw [List.drop_eq_nil_of_le (by omega)] at he
      rw [← he]
      exact hO
    | succ k ih =>
      intro i acc M' hi ha hO f he
      have hP' := hP.fr hpl f (by omega)
      have hL' := hL.fr f (by omega)
      refine b_Pl_applyTo_6 tb T_made ?_
      rw [hP'.1]
      refine pk_le ps.length i (fun q => absurd q (by omega)) (fun q => Pl_at_ok (by omega) ⟨T_pieces i (by omega), ?_⟩)
      rw [drop_g3 q, mkF] at he
      refine Pc_addTo_ok (T_pieces i (by omega)) (g3_pieces hv q) hr (hP'.2 i q) T_made (by omega) tb hnb hL' hl hlb hO (by omega) (by omega) (by omega) (fun hN => br_t rfl ?_) (fun x M2 hx hS2 f2 => br_f (by decide) ?_)
      · refine Sg_clear_ok T_made (fun M2 hS2 f2 => h M2 ?_ (f.trans f2))
        rw [hN] at he
        rw [← he]
        exact hS2
      · rw [hx] at he
        have hxl := pm_len hl hr hx
        rw [nI_1]
        exact ih (i + 1) _ M2 (by omega) (by rw [List.length_append]; omega) hS2 (f.trans f2) he
  exact e_Pl_applyTo tb T_made (Sg_clear_ok T_made (fun M1 hS1 f1 => key ps.length 0 [] M1 (by omega) (Nat.le_refl _) hS1 f1 rfl))
end ZPL
