theorem Sg_addFrom_call {a n : Nat} (t : T_Sg zX a n) (hn : n < 100) {b nb : Nat} (tb : T_Sg zX b nb) (hnb : nb < 100) (hab : a + 3 ≤ b ∨ b + 3 ≤ a) {r : List Int32} (hrl : r.length ≤ nb) {i to : Nat} (hto : to < 2 ^ 31) (hi : i ≤ to) (hi2 : i < 2 ^ 30) {M : Mem} {l : List Int32} (hS : SG M a l) (hR : SG M b r) (hl : l.length + (min to r.length - i) ≤ n) {Q : Mem → Prop} (h : ∀ M', SG M' a (l ++ (r.take to).drop i) → FR a (a + 3) M M' → Q M') : CallV zX m_Sg_addFrom [.ref a, .ref b, .int (nI i), .int (nI to)] M Q :=
  e_Sg_addFrom t tb (Sg_addFrom_ok t hn tb hnb hab hrl hto (min to r.length) i M l (by omega) hi hi2 hS hR hl h)
theorem Sg_copy_ok {a n : Nat} (t : T_Sg zX a n) (hn : n < 100) {b nb : Nat} (tb : T_Sg zX b nb) (hnb : nb < 100) (hab : a + 3 ≤ b ∨ b + 3 ≤ a) {r : List Int32} (hrl : r.length ≤ nb) (hrn : r.length ≤ n) {M : Mem} (hR : SG M b r) {Q : Mem → Prop} (h : ∀ M', SG M' a r → FR a (a + 3) M M' → Q M') : CallV zX m_Sg_copy [.ref a, .ref b] M Q := by
  refine e_Sg_copy t tb (Sg_clear_ok t (fun M2 hS2 hF2 => ?_))
  have hR2 := hR.fr hF2 (by omega)
  rw [hR2.1]
  refine Sg_addFrom_call (i := 0) t hn tb hnb hab hrl (by omega) (by omega) (by omega) hS2 hR2 (by simp; omega) (fun M3 hS3 hF3 => h M3 ?_ (hF2.trans hF3))
  rw [List.nil_append, List.drop_zero, List.take_of_length_le (Nat.le_refl _)] at hS3
  exact hS3
/-- where the signs of a line that stand from a place on end, or as many of them as may -/
def sE (l : List Int32) : Nat → Nat → Nat
  | 0, e => e
  | k + 1, e => if e < l.length ∧ kd (gt l e) ≠ -6 then sE l k (e + 1) else e
theorem Sg_signsEnd_ok {a n : Nat} (t : T_Sg zX a n) (hn : n < 100) {M : Mem} {l : List Int32} (hS : SG M a l) (hl : l.length ≤ n) {from0 most : Nat} (hf : from0 < 1000) (hm : most < 1000) {Q : Int32 → Mem → Prop} (h : Q (nI (sE l most from0)) M) : CallI zX m_Sg_signsEnd [.ref a, .int (nI from0), .int (nI most)] M Q := by
  refine e_Sg_signsEnd t ?_
  have key : ∀ (k e : Nat), e + k = from0 + most → from0 ≤ e → Q (nI (sE l k e)) M → wp zX m_Sg_signsEnd (QI Q) 2 [(0, .ref a), (1, .int (nI from0)), (2, .int (nI most)), (3, .int (nI e))] [] M := by
    intro k
    induction k with
    | zero =>
      intro e he hfe hQ
      refine b_Sg_signsEnd_2 t ?_
      rw [hS.1, pk_sub hfe]
      refine pk_le l.length e (fun _ => hQ) (fun _ => ?_)
      exact pk_le most (e - from0) (fun _ => hQ) (fun q => absurd q (by omega))
    | succ k ih =>
      intro e he hfe hQ
      refine b_Sg_signsEnd_2 t ?_
      rw [hS.1, pk_sub hfe]
      refine pk_le l.length e (fun q => ?_) (fun q => ?_)
      · rw [sE, if_neg (by omega)] at hQ
        exact hQ
      refine pk_le most (e - from0) (fun q2 => absurd q2 (by omega)) (fun q2 => ?_)
      refine Sg_kindAt_ok t hn hS hl (by omega) ⟨fun c => ?_, fun c => ?_⟩
      · rw [sE, if_neg (fun z => z.2 c)] at hQ
        exact hQ
      · rw [sE, if_pos ⟨q, c⟩] at hQ
        rw [nI_1]
        exact ih (e + 1) (by omega) (by omega) hQ
  exact key most from0 rfl (Nat.le_refl _) h
