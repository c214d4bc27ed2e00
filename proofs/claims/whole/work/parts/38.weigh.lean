/-! Fitting: the least cost from each state on -/
theorem vu_s {f : Nat → Nat} {k v : Nat} : va_up f k v k = v := if_pos rfl
theorem vu_n {f : Nat → Nat} {k v j : Nat} (h : j ≠ k) : va_up f k v j = f j := if_neg h
def mnF (L : Nat → Nat) (mv : List T3) (a : Nat) : Nat := mv.foldl (fun a e => if e.2.2 + L e.1 < a then e.2.2 + L e.1 else a) a
def wgF (rs : RS) (gl : List T3) (w : Nat → Nat) : Nat → (Nat → Nat) → (Nat → Nat)
  | 0, L => L
  | s + 1, L => wgF rs gl w s (if lN (w s) = 0 then L else va_up L s (mnF L (mvs rs s gl) 1000000))
theorem mnF_le (L : Nat → Nat) : ∀ (mv : List T3) (a : Nat), mnF L mv a ≤ a
  | [], a => Nat.le_refl _
  | e :: mv, a => by
    show mnF L mv (if e.2.2 + L e.1 < a then e.2.2 + L e.1 else a) ≤ a
    refine Nat.le_trans (mnF_le L mv _) ?_
    split <;> omega
/-- a state's least cost stands in the memory -/
def OKL (M : Mem) (L : Nat → Nat) (t : Nat) : Prop := M.1 57 t = nI (L t) ∧ L t ≤ 1000000 ∧ t < 1296
theorem OKL.fr {M M' : Mem} {lo hi : Nat} {L : Nat → Nat} {t : Nat} (h : OKL M L t) (f : FR lo hi M M') (h1 : hi ≤ 57 ∨ 58 ≤ lo) : OKL M' L t := ⟨by rw [(f 57 (by omega)).1]; exact h.1, h.2⟩
section ZF5
variable {M : Mem} {rs : RS}
theorem Ft_leastFrom_ok {L : Nat → Nat} {t : Nat} (h0 : OKL M L t) {Q : Int32 → Mem → Prop} (h : Q (nI (L t)) M) : CallI zX m_Ft_leastFrom [.ref 46, .int (nI t)] M Q := by
  have ht := h0.2.2
  refine e_Ft_leastFrom (pk_lt t 0 (fun q => absurd q (by omega)) (fun _ => pk_le 1296 t (fun q => absurd q (by omega)) (fun _ => ⟨vp_in_nI ht (by omega), ?_⟩)))
  rw [nI_clamp (by omega), h0.1]
  exact h
theorem Ft_weigh_inner {s : Nat} (hs : s < 1296) {Q : Mem → Prop} {L : Nat → Nat} (mv : List T3) (hlen : mv.length ≤ 3849) (hmb : ∀ x, x ∈ mv → OKL M L x.1 ∧ x.2.2 < 100)
    (hM : MV M mv) {vE : Nat} (kk : ∀ N, N = uI M 57 s (nI vE) → wp zX m_Ft_weigh (QV Q) 16 [(0, .ref 46), (2, .int (nI s + (-1)))] [] N) :
    ∀ (k i a : Nat), i + k = mv.length → a ≤ 1000000 → mnF L (mv.drop i) a = vE → wp zX m_Ft_weigh (QV Q) 42 [(0, .ref 46), (2, .int (nI s)), (3, .int (nI a)), (4, .int (nI i))] [] M := by
  intro k
  induction k with
  | zero =>
    intro i a hi ha hE
    refine b_Ft_weigh_42 (Mv_many_ok hM (pk_le mv.length i (fun _ => ⟨vp_in_nI hs (by omega), ?_⟩) (fun q => absurd q (by omega))))
    rw [List.drop_eq_nil_of_le (by omega)] at hE
    rw [nI_clamp (by omega), show a = vE from hE]
    exact kk
  | succ k ih =>
    intro i a hi ha hE
    refine b_Ft_weigh_42 (Mv_many_ok hM (pk_le mv.length i (fun q => absurd q (by omega)) (fun q => ?_)))
    have hx := hmb _ (g3_mem q)
    have hx2 := hx.1.2.1
    have hx3 := hx.2
    refine Mv_price_ok hM hlen q (Mv_target_ok hM hlen q (Ft_leastFrom_ok hx.1 ?_))
    rw [nI_add, nI_1]
    rw [drop_g3 q] at hE
    have e : (if nI ((g3 mv i).2.2 + L (g3 mv i).1) < nI a then nI ((g3 mv i).2.2 + L (g3 mv i).1) else nI a) = nI (if (g3 mv i).2.2 + L (g3 mv i).1 < a then (g3 mv i).2.2 + L (g3 mv i).1 else a) := by
      by_cases z : (g3 mv i).2.2 + L (g3 mv i).1 < a
      · rw [if_pos ((nI_ltI (by omega) (by omega)).mpr z), if_pos z]
      · rw [if_neg (fun y => z ((nI_ltI (by omega) (by omega)).mp y)), if_neg z]
    rw [e]
    refine ih (i + 1) _ (by omega) ?_ hE
    split <;> omega
theorem Ft_weigh_ok (hv : VR rs) (h0 : 0 < rs.length) (hF : FT M rs) {gl : List T3} (hG : GR M gl) (hb : GB gl) {w : Nat → Nat} (hW : WY M 56 w)
    (hcl : ∀ s, s < enT rs → lN (w s) ≠ 0 → ∀ x, x ∈ mvs rs s gl → lN (w x.1) ≠ 0 ∧ x.1 ≤ enT rs) {Q : Mem → Prop}
    (h : ∀ M', FT M' rs → (∀ t, t ≤ enT rs → lN (w t) ≠ 0 → OKL M' (wgF rs gl w (enT rs) (fun _ => 0)) t) → FR 48 58 M M' → Q M') : CallV zX m_Ft_weigh [.ref 46] M Q := by
  have he := enT_b hv
  have key : ∀ (k : Nat) (M' : Mem) (L : Nat → Nat), k ≤ enT rs → FT M' rs → GR M' gl → WY M' 56 w → (∀ t, k ≤ t → t ≤ enT rs → lN (w t) ≠ 0 → OKL M' L t) → FR 48 58 M M' → wgF rs gl w k L = wgF rs gl w (enT rs) (fun _ => 0) → wp zX m_Ft_weigh (QV Q) 16 [(0, .ref 46), (2, .int (nI k + (-1)))] [] M' := by
    intro k
    induction k with
    | zero =>
      intro M' L _ hF' hG' hW' hO f hE
      refine b_Ft_weigh_16 (br_t (by decide) (h M' hF' (fun t ht hw => ?_) f))
      rw [wgF] at hE
      subst hE
      exact hO t (Nat.zero_le _) ht hw
    | succ s ih =>
      intro M' L hs hF' hG' hW' hO f hE
      rw [wgF] at hE
      rw [pk_m1]
      refine b_Ft_weigh_16 (br_f (nI_pos (by omega)) ⟨vp_in_nI (by omega) (by omega), ?_⟩)
      rw [nI_clamp (by omega), hW' s (by omega)]
      refine ⟨fun c => ?_, fun c => ?_⟩
      · rw [if_pos ((lg_cmp_0 _).mp c)] at hE
        refine ih M' L (by omega) hF' hG' hW' (fun t h1 h2 hw => ?_) f hE
        by_cases e : t = s
        · subst e
          exact absurd ((lg_cmp_0 _).mp c) hw
        · exact hO t (by omega) h2 hw
      · have hws : lN (w s) ≠ 0 := fun z => c ((lg_cmp_0 _).mpr z)
        rw [if_neg hws] at hE
        refine Ft_listMoves_ok hv h0 hF' (by omega) hG' hb (fun M2 hM2 hF2 hG2 hR2 f2 e2 => ?_)
        have hmb : ∀ x, x ∈ mvs rs s gl → OKL M2 L x.1 ∧ x.2.2 < 100 := fun x hx => by
          have b := mvs_b hv h0 hb hx
          have cl := hcl s (by omega) hws x hx
          exact ⟨(hO x.1 (by omega) cl.2 cl.1).fr f2 (by omega), b.2.2.2⟩
        refine Ft_weigh_inner (by omega) (mvs rs s gl) (mvs_len rs s gl hb.1) hmb hM2 (fun N hN => ?_) (mvs rs s gl).length 0 1000000 (by omega) (Nat.le_refl _) rfl
        subst hN
        have f3 : FR 57 58 M2 (uI M2 57 s (nI (mnF L (mvs rs s gl) 1000000))) := FR.uI (by omega) (by omega)
        refine ih _ _ (by omega) (hF2.fr hv.1 f3 (by omega) (by omega)) (hG2.fr f3 (by omega)) ((hW'.fr f2 (by omega)).fr f3 (by omega)) (fun t h1 h2 hw => ?_) ((f.trans (f2.mono (by omega) (by omega))).trans (f3.mono (by omega) (by omega))) hE
        by_cases e : t = s
        · subst e
          refine ⟨?_, ?_, by omega⟩
          · rw [uI_s, vu_s]
            rfl
          · rw [vu_s]
            exact mnF_le _ _ _
        · have o := (hO t (by omega) h2 hw).fr f2 (by omega)
          refine ⟨?_, ?_, o.2.2⟩
          · rw [uI_k e, vu_n e]
            exact o.1
          · rw [vu_n e]
            exact o.2.1
  refine e_Ft_weigh (Ft_lastState_ok hv hF ⟨vp_in_nI he (by omega), ?_⟩)
  rintro N rfl
  rw [nI_clamp (by omega)]
  have f3 : FR 57 58 M (uI M 57 (enT rs) 0) := FR.uI (by omega) (by omega)
  have e1 : nI (enT rs) - 1 = nI (enT rs) + (-1) := by rw [Int32.sub_eq_add_neg]
  rw [e1]
  refine key (enT rs) _ (fun _ => 0) (Nat.le_refl _) (hF.fr hv.1 f3 (by omega) (by omega)) (hG.fr f3 (by omega)) (hW.fr f3 (by omega)) (fun t h1 h2 hw => ?_) (f3.mono (by omega) (by omega)) rfl
  have e : t = enT rs := by omega
  subst e
  exact ⟨uI_s, Nat.zero_le _, by omega⟩
end ZF5
