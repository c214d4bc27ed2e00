/-! how many plans lead to each state; it fits a long -/
def Wf (rs : RS) : Nat → Nat → Nat
  | 0, t => w0 t
  | s + 1, t => Wf rs s t + Wf rs s s * TT rs s t
def WW (rs : RS) (t : Nat) : Nat := Wf rs t t
theorem Wf_sum (rs : RS) : ∀ (s t : Nat), Wf rs s t = w0 t + sm s (fun i => WW rs i * TT rs i t)
  | 0, t => rfl
  | s + 1, t => by
    rw [Wf, Wf_sum rs s t, sm]
    show _ + WW rs s * TT rs s t = _
    omega
section ZDP
variable {rs : RS}
theorem Wf_V (hv : VR rs) (h0 : 0 < rs.length) : ∀ (s t : Nat), Wf rs s t ≠ 0 → VS rs t
  | 0, t, h => by
    have e : t = 0 := by
      unfold Wf w0 at h
      split at h
      · assumption
      · exact absurd rfl h
    rw [e]
    exact VS_0 rs
  | s + 1, t, h => by
    rw [Wf] at h
    by_cases h1 : Wf rs s t = 0
    · rw [h1, Nat.zero_add] at h
      have h2 : Wf rs s s ≠ 0 := fun z => h (by rw [z, Nat.zero_mul])
      have h3 : TT rs s t ≠ 0 := fun z => h (by rw [z, Nat.mul_zero])
      obtain ⟨c, hc⟩ := TT_pos h3
      exact (PCE_V hv h0 (Wf_V hv h0 s s h2) hc).1
    · exact Wf_V hv h0 s t h1
theorem WW_V (hv : VR rs) (h0 : 0 < rs.length) {t : Nat} (h : WW rs t ≠ 0) : VS rs t := Wf_V hv h0 t t h
theorem Wf_stable (hv : VR rs) (h0 : 0 < rs.length) {t : Nat} : ∀ d, Wf rs (t + d) t = WW rs t
  | 0 => rfl
  | d + 1 => by
    rw [← Nat.add_assoc, Wf, Wf_stable hv h0 d]
    by_cases h1 : Wf rs (t + d) (t + d) = 0
    · rw [h1, Nat.zero_mul, Nat.add_zero]
    · by_cases h3 : TT rs (t + d) t = 0
      · rw [h3, Nat.mul_zero, Nat.add_zero]
      · obtain ⟨c, hc⟩ := TT_pos h3
        have := (PCE_V hv h0 (Wf_V hv h0 _ _ h1) hc).2.2.1
        omega
theorem WW_eq (hv : VR rs) (h0 : 0 < rs.length) {t n : Nat} (hn : t < n) : WW rs t = w0 t + sm n (fun i => WW rs i * TT rs i t) := by
  have := Wf_sum rs n t
  rw [show n = t + (n - t) by omega, Wf_stable hv h0 (n - t)] at this
  rw [this, show t + (n - t) = n by omega]
theorem WW_step (hv : VR rs) (h0 : 0 < rs.length) {s t c : Nat} (hs : WW rs s ≠ 0) (h : PCE rs s t c) : WW rs t ≠ 0 := by
  have v := PCE_V hv h0 (WW_V hv h0 hs) h
  rw [WW_eq hv h0 (n := t + 1) (Nat.lt_succ_self t)]
  have g := sm_ge (f := fun i => WW rs i * TT rs i t) (show s < t + 1 by omega)
  have p := PCE_TT h
  have : 0 < WW rs s * TT rs s t := Nat.mul_pos (Nat.pos_of_ne_zero hs) (Nat.pos_of_ne_zero p)
  have g : WW rs s * TT rs s t ≤ sm (t + 1) (fun i => WW rs i * TT rs i t) := g
  omega
theorem WW_back {t : Nat} (h : WW rs t ≠ 0) (ht : t ≠ 0) : ∃ s c, WW rs s ≠ 0 ∧ PCE rs s t c := by
  unfold WW at h
  rw [Wf_sum, w0, if_neg ht, Nat.zero_add] at h
  obtain ⟨i, hi, hf⟩ := sm_pos h
  have h1 : WW rs i ≠ 0 := fun z => hf (by rw [z, Nat.zero_mul])
  have h2 : TT rs i t ≠ 0 := fun z => hf (by rw [z, Nat.mul_zero])
  obtain ⟨c, hc⟩ := TT_pos h2
  exact ⟨i, c, h1, hc⟩
theorem WW_0 : WW rs 0 = 1 := rfl
/-- the weight of a state -/
def cW (t : Nat) : Nat := 3850 ^ (5 - t % 6)
theorem dg0 (t : Nat) : dg t 0 = t % 6 := by unfold dg; rw [Nat.pow_zero, Nat.div_one]
theorem cW_step {s : Nat} (f : Nat → Nat) (n : Nat) (hf : sm n f ≤ 3849) (hd : ∀ t, f t ≠ 0 → s % 6 < t % 6) : sm n (fun t => f t * cW t) ≤ cW s := by
  by_cases h5 : s % 6 = 5
  · have z : sm n (fun t => f t * cW t) = 0 := sm_z (fun t _ => by
      by_cases e : f t = 0
      · rw [e, Nat.zero_mul]
      · have := hd t e
        omega)
    rw [z]
    exact Nat.zero_le _
  · have hs : cW s = 3850 * 3850 ^ (4 - s % 6) := by
      unfold cW
      rw [show 5 - s % 6 = (4 - s % 6) + 1 by omega, Nat.pow_succ, Nat.mul_comm]
    have hle : sm n (fun t => f t * cW t) ≤ sm n (fun t => 3850 ^ (4 - s % 6) * f t) := sm_le (fun t _ => by
      by_cases e : f t = 0
      · rw [e, Nat.zero_mul]
        exact Nat.zero_le _
      · have := hd t e
        rw [Nat.mul_comm]
        refine Nat.mul_le_mul_right _ ?_
        unfold cW
        exact Nat.pow_le_pow_right (by omega) (by omega))
    rw [sm_mul] at hle
    rw [hs]
    have : 3850 ^ (4 - s % 6) * sm n f ≤ 3850 ^ (4 - s % 6) * 3850 := Nat.mul_le_mul_left _ (by omega)
    omega
theorem pot (hv : VR rs) (h0 : 0 < rs.length) : ∀ (k : Nat), k ≤ 1296 → sm (1296 - k) (fun i => Wf rs k (k + i) * cW (k + i)) ≤ 3850 ^ 5
  | 0, _ => by
    have e : sm (1296 - 0) (fun i => Wf rs 0 (0 + i) * cW (0 + i)) = sm 1296 (fun i => 3850 ^ 5 * (if 0 = i then 1 else 0)) := sm_congr (fun i _ => by
      rw [Nat.zero_add]
      by_cases q : i = 0
      · subst q
        rw [if_pos rfl, Nat.mul_one, show Wf rs 0 0 = 1 from rfl, Nat.one_mul]
        unfold cW
        rw [show 5 - 0 % 6 = 5 from rfl]
      · rw [Wf, w0, if_neg q, if_neg (Ne.symm q), Nat.zero_mul, Nat.mul_zero])
    rw [e, sm_mul, sm_1]
    exact Nat.le_refl _
  | k + 1, hk => by
    have ih := pot hv h0 k (by omega)
    rw [show 1296 - k = 1 + (1296 - (k + 1)) by omega, sm_app] at ih
    have e1 : sm 1 (fun i => Wf rs k (k + i) * cW (k + i)) = Wf rs k k * cW k := by
      rw [sm, sm, Nat.zero_add, Nat.add_zero]
    rw [e1] at ih
    have e2 : sm (1296 - (k + 1)) (fun i => Wf rs (k + 1) (k + 1 + i) * cW (k + 1 + i)) = sm (1296 - (k + 1)) (fun i => Wf rs k (k + (1 + i)) * cW (k + (1 + i))) + Wf rs k k * sm (1296 - (k + 1)) (fun i => TT rs k (k + 1 + i) * cW (k + 1 + i)) := by
      rw [← sm_mul, ← sm_add]
      refine sm_congr (fun i _ => ?_)
      rw [Wf, Nat.add_mul, Nat.mul_assoc, show k + (1 + i) = k + 1 + i by omega]
    rw [e2]
    by_cases hz : Wf rs k k = 0
    · rw [hz, Nat.zero_mul] at ih ⊢
      omega
    · have hV := Wf_V hv h0 k k hz
      have hb : sm (1296 - (k + 1)) (fun i => TT rs k (k + 1 + i) * cW (k + 1 + i)) ≤ cW k := by
        have h1 : sm (1296 - (k + 1)) (fun i => TT rs k (k + 1 + i) * cW (k + 1 + i)) ≤ sm 1296 (fun t => TT rs k t * cW t) := by
          rw [show sm 1296 (fun t => TT rs k t * cW t) = sm ((k + 1) + (1296 - (k + 1))) (fun t => TT rs k t * cW t) by rw [show k + 1 + (1296 - (k + 1)) = 1296 by omega], sm_app]
          omega
        refine Nat.le_trans h1 (cW_step _ _ (TT_sum rs k 1296) (fun t ht => ?_))
        obtain ⟨c, hc⟩ := TT_pos ht
        have := (PCE_V hv h0 hV hc).2.1
        rw [dg0, dg0] at this
        exact this
      have := Nat.mul_le_mul_left (Wf rs k k) hb
      omega
theorem WW_lt (hv : VR rs) (h0 : 0 < rs.length) (t : Nat) : WW rs t < 2 ^ 63 := by
  by_cases h : WW rs t = 0
  · rw [h]
    exact Nat.pow_pos (by omega)
  · have ht := VS_lt hv (WW_V hv h0 h)
    have p := pot hv h0 t (by omega)
    rw [show 1296 - t = 1 + (1296 - t - 1) by omega, sm_app] at p
    have e1 : sm 1 (fun i => Wf rs t (t + i) * cW (t + i)) = WW rs t * cW t := by
      rw [sm, sm, Nat.zero_add, Nat.add_zero]
      rfl
    rw [e1] at p
    have hc : 1 ≤ cW t := Nat.pow_pos (by omega)
    have : WW rs t * 1 ≤ WW rs t * cW t := Nat.mul_le_mul_left _ hc
    have e : (3850 : Nat) ^ 5 < 2 ^ 63 := by decide
    omega
theorem lN_0 {n : Nat} (h : n < 2 ^ 63) : lN n = 0 ↔ n = 0 := by
  rw [show (0 : Int64) = lN 0 from rfl]
  exact pk_lEQ h (by decide)
theorem adds_eq (ws t : Nat) : ∀ (mv : List T3) (w : Nat → Nat), adds ws mv w t = w t + ws * ls mv (fun e => if e.1 = t then e.2.1 else 0)
  | [], w => by
    rw [ls_nil, Nat.mul_zero]
    rfl
  | e :: mv, w => by
    show adds ws mv (addw w e.1 (ws * e.2.1)) t = _
    rw [adds_eq ws t mv, ls_cons, Nat.mul_add]
    unfold addw
    by_cases q : t = e.1
    · rw [if_pos q, if_pos q.symm]
      omega
    · rw [if_neg q, if_neg (Ne.symm q), Nat.mul_zero, Nat.zero_add]
theorem dpF_eq (hv : VR rs) (h0 : 0 < rs.length) : ∀ (k s : Nat) (w : Nat → Nat), (∀ t, w t = Wf rs s t) → ∀ t, dpF rs (grp rs) k s w t = Wf rs (s + k) t
  | 0, s, w, h, t => h t
  | k + 1, s, w, h, t => by
    rw [dpF, ← Nat.add_assoc, Nat.add_right_comm]
    refine dpF_eq hv h0 k (s + 1) _ (fun u => ?_) t
    have hws : w s = WW rs s := h s
    rw [Wf]
    by_cases hz : lN (w s) = 0
    · rw [if_pos hz, h u]
      rw [hws, lN_0 (WW_lt hv h0 s)] at hz
      show _ = _ + WW rs s * _
      rw [hz, Nat.zero_mul, Nat.add_zero]
    · rw [if_neg hz, adds_eq, h u, hws, mvs_sum]
      rfl
theorem dp_fin (hv : VR rs) (h0 : 0 < rs.length) (t : Nat) : dpF rs (grp rs) (enT rs) 0 w0 t = Wf rs (enT rs) t := by
  have := dpF_eq hv h0 (enT rs) 0 w0 (fun _ => rfl) t
  rw [Nat.zero_add] at this
  exact this
theorem dp_le (hv : VR rs) (h0 : 0 < rs.length) {t : Nat} (ht : t ≤ enT rs) : dpF rs (grp rs) (enT rs) 0 w0 t = WW rs t := by
  rw [dp_fin hv h0]
  have := Wf_stable hv h0 (t := t) (enT rs - t)
  rw [show t + (enT rs - t) = enT rs by omega] at this
  exact this
/-- how many plans fit -/
def CN (rs : RS) : Nat := WW rs (enT rs)
theorem CN_lt (hv : VR rs) (h0 : 0 < rs.length) : CN rs < 2 ^ 63 := WW_lt hv h0 _
end ZDP
