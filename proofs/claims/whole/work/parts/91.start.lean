/-! both sides at their start -/
def A0 : AA := ([], (0, 0, fun _ => [], fun _ => [], fun _ => []), fun _ => none)
theorem SG_nil {M : Mem} {a : Nat} (h : M.1 a 2 = 0) : SG M a [] := ⟨h, fun i hi => absurd hi (Nat.not_lt_zero i)⟩
theorem VA_0 : VA A0 := ⟨Nat.zero_le _, ⟨Nat.zero_le _, Nat.zero_le _, fun i hi => absurd hi (Nat.not_lt_zero i), fun i hi => absurd hi (Nat.not_lt_zero i)⟩, fun i b h => by cases h⟩
theorem XS_0 {M : Mem} (hC : ∀ j, j < 6 → M.2 159 j = -1) (f : FR 159 160 M0 M) : XS M A0 := by
  have z : ∀ a k, a ≠ 159 → M.1 a k = 0 := fun a k ha => by
    rw [(f a (by omega)).1]
    rfl
  refine ⟨⟨SG_nil (z _ _ (by omega)), ⟨z _ _ (by omega), z _ _ (by omega), fun i hi => ⟨⟨SG_nil (z _ _ (by omega)), Nat.zero_le _⟩, SG_nil (z _ _ (by omega)), Nat.zero_le _⟩, fun i hi => ⟨SG_nil (z _ _ (by omega)), Nat.zero_le _⟩⟩, fun j hj => z 45 j (by omega)⟩, Or.inl (z 0 8 (by omega)), none_CA hC _⟩
theorem YS_0 {M : Mem} (hC : CD M) (h : ∀ a, a ≠ 8 → M.1 a = M0.1 a) : YS M A0 := by
  have z : ∀ a k, a ≠ 8 → M.1 a k = 0 := fun a k ha => by
    rw [h a ha]
    rfl
  exact ⟨⟨z 0 8 (by omega), fun k hk => absurd hk (Nat.not_lt_zero k)⟩, ⟨z 0 4 (by omega), z 0 7 (by omega), fun i hi => absurd hi (Nat.not_lt_zero i), fun i hi => absurd hi (Nat.not_lt_zero i)⟩, hC, fun j hj => z 21 j (by omega)⟩
