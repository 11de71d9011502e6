/-! What a vertex's fraction comes to in a large scale: near N times a number, a little below; or above N * N by a constant -/
def mx_A (f : Rat → Rat) (x : Rat) : Prop := ∃ K N0 : Rat, 0 ≤ K ∧ ∀ N : Rat, N0 ≤ N → N * x - K ≤ f N ∧ f N ≤ N * x - 1
def mx_C (f : Rat → Rat) : Prop := ∃ K N0 : Rat, 0 < K ∧ ∀ N : Rat, N0 ≤ N → N * N ≤ K * f N
theorem mx_max (a b : Rat) : ∃ m, a ≤ m ∧ b ≤ m := by
  rcases Rat.le_total (a := a) (b := b) with h | h
  · exact ⟨b, h, Rat.le_refl⟩
  · exact ⟨a, Rat.le_refl, h⟩
theorem mx_C_inv {f : Rat → Rat} (h : mx_C f) : ∃ K N0 : Rat, 0 ≤ K ∧ ∀ N : Rat, N0 ≤ N → 0 < f N ∧ 0 ≤ N * N * (f N)⁻¹ ∧ N * N * (f N)⁻¹ ≤ K := by
  obtain ⟨K, N0, hK, h⟩ := h
  obtain ⟨m, m1, m2⟩ := mx_max N0 1
  refine ⟨K, m, by grind, fun N hN => ?_⟩
  have h1 := h N (by grind)
  have hN1 : 1 ≤ N := by grind
  have h2 : 0 < N * N := Rat.mul_pos (by grind) (by grind)
  have h3 : 0 < f N := by
    rcases Rat.le_total (a := f N) (b := 0) with q | q
    · have : K * f N ≤ K * 0 := Rat.mul_le_mul_of_nonneg_left q (by grind)
      grind
    · rcases Rat.le_iff_lt_or_eq.mp q with z | z
      · exact z
      · rw [← z] at h1
        grind
  have h4 : 0 < (f N)⁻¹ := Rat.inv_pos.mpr h3
  refine ⟨h3, Rat.mul_nonneg (by grind) (by grind), ?_⟩
  have h5 : N * N * (f N)⁻¹ ≤ K * f N * (f N)⁻¹ := Rat.mul_le_mul_of_nonneg_right h1 (by grind)
  have h6 : K * f N * (f N)⁻¹ = K := by grind
  grind
/-- a paired child is nothing -/
theorem mx_A_C {f g : Rat → Rat} {x : Rat} (hf : mx_A f x) (hg : mx_C g) : mx_A (fun N => f N - N * N * (g N)⁻¹) x := by
  obtain ⟨K1, N1, p1, h1⟩ := hf
  obtain ⟨K2, N2, p2, h2⟩ := mx_C_inv hg
  obtain ⟨m, m1, m2⟩ := mx_max N1 N2
  refine ⟨K1 + K2, m, by grind, fun N hN => ?_⟩
  obtain ⟨a1, a2⟩ := h1 N (by grind)
  obtain ⟨b0, b1, b2⟩ := h2 N (by grind)
  exact ⟨by grind, by grind⟩
