/-! A child that is 0 lifts its holder above all; so it stays -/
theorem mx_C_add {h u : Rat → Rat} {L N0 : Rat} (hh : ∀ N : Rat, N0 ≤ N → -(L * N) ≤ h N) (hu : mx_C u) : mx_C (fun N => h N + u N) := by
  obtain ⟨K, N1, hK, h1⟩ := hu
  obtain ⟨m, m1, m2⟩ := mx_max N0 N1
  obtain ⟨m', m3, m4⟩ := mx_max m 1
  obtain ⟨m'', m5, m6⟩ := mx_max m' (2 * K * L)
  refine ⟨2 * K, m'', by grind, fun N hN => ?_⟩
  have a := hh N (by grind)
  have b := h1 N (by grind)
  have c : 2 * K * L * N ≤ N * N := Rat.mul_le_mul_of_nonneg_right (by grind) (by grind)
  have d : 2 * K * (-(L * N)) ≤ 2 * K * h N := Rat.mul_le_mul_of_nonneg_left a (by grind)
  have e : 2 * K * (h N + u N) = 2 * K * h N + 2 * (K * u N) := by grind
  have e2 : 2 * K * (-(L * N)) = -(2 * K * L * N) := by grind
  show N * N ≤ 2 * K * (h N + u N)
  rw [e]
  grind
theorem mx_A_lo {f : Rat → Rat} {x : Rat} (h : mx_A f x) : ∃ L N0 : Rat, ∀ N : Rat, N0 ≤ N → -(L * N) ≤ f N := by
  obtain ⟨K, N0, hK, h⟩ := h
  obtain ⟨m, m1, m2⟩ := mx_max N0 1
  refine ⟨K - x, m, fun N hN => ?_⟩
  obtain ⟨a1, -⟩ := h N (by grind)
  have b : K * 1 ≤ K * N := Rat.mul_le_mul_of_nonneg_left (by grind) hK
  grind
theorem mx_0_C {g : Rat → Rat} (h : mx_A g 0) : mx_C (fun N => -(N * N * (g N)⁻¹)) := by
  obtain ⟨K, N0, hK, h⟩ := h
  obtain ⟨m, m1, m2⟩ := mx_max N0 1
  refine ⟨K + 1, m, by grind, fun N hN => ?_⟩
  obtain ⟨a1, a2⟩ := h N (by grind)
  have hg : 0 < -(g N) := by grind
  have hy : 0 < (-(g N))⁻¹ := Rat.inv_pos.mpr hg
  have e0 : (-(g N))⁻¹ = -((g N)⁻¹) := by grind
  have e1 : -(g N) * (-(g N))⁻¹ = 1 := by grind
  have b : -(g N) * (-(g N))⁻¹ ≤ (K + 1) * (-(g N))⁻¹ := Rat.mul_le_mul_of_nonneg_right (by grind) (by grind)
  rw [e1] at b
  have c : N * N * 1 ≤ N * N * ((K + 1) * (-(g N))⁻¹) := Rat.mul_le_mul_of_nonneg_left b (Rat.mul_nonneg (by grind) (by grind))
  show N * N ≤ (K + 1) * -(N * N * (g N)⁻¹)
  rw [e0] at c
  have e2 : N * N * ((K + 1) * -((g N)⁻¹)) = (K + 1) * -(N * N * (g N)⁻¹) := by grind
  rw [e2] at c
  grind
theorem mx_C_eq {f g : Rat → Rat} (h : ∀ N, f N = g N) (hf : mx_C f) : mx_C g := by
  rw [← funext h]
  exact hf
/-- a child that is 0 -/
theorem mx_A_0 {f g : Rat → Rat} {x : Rat} (hf : mx_A f x) (hg : mx_A g 0) : mx_C (fun N => f N - N * N * (g N)⁻¹) := by
  obtain ⟨L, N0, h⟩ := mx_A_lo hf
  exact mx_C_eq (fun N => by grind) (mx_C_add h (mx_0_C hg))
/-- a paired holder stays above, whatever child comes -/
theorem mx_C_A {f g : Rat → Rat} {y : Rat} (hf : mx_C f) (hg : mx_A g y) : mx_C (fun N => f N - N * N * (g N)⁻¹) := by
  by_cases hy : y = 0
  · subst hy
    obtain ⟨K, N0, hK, h⟩ := mx_0_C hg
    obtain ⟨m, m1, m2⟩ := mx_max N0 1
    refine mx_C_eq (f := fun N => -(N * N * (g N)⁻¹) + f N) (fun N => by grind) (mx_C_add (L := 0) (N0 := m) (fun N hN => ?_) hf)
    have a := h N (by grind)
    have b : 0 ≤ N * N := Rat.mul_nonneg (by grind) (by grind)
    have c : 0 ≤ K * -(N * N * (g N)⁻¹) := by grind
    have z : 0 ≤ K⁻¹ * (K * -(N * N * (g N)⁻¹)) := Rat.mul_nonneg (by have := Rat.inv_pos.mpr hK; grind) c
    have e : K⁻¹ * (K * -(N * N * (g N)⁻¹)) = -(N * N * (g N)⁻¹) := by grind
    rw [e] at z
    grind
  · obtain ⟨K, N0, hK, h⟩ := mx_A_inv hy hg
    obtain ⟨m, m1, m2⟩ := mx_max N0 1
    refine mx_C_eq (f := fun N => -(N * N * (g N)⁻¹) + f N) (fun N => by grind) (mx_C_add (L := y⁻¹ + K) (N0 := m) (fun N hN => ?_) hf)
    obtain ⟨-, -, -, b⟩ := h N (by grind)
    have c : K * 1 ≤ K * N := Rat.mul_le_mul_of_nonneg_left (by grind) hK
    grind
theorem mx_C_C {f g : Rat → Rat} (hf : mx_C f) (hg : mx_C g) : mx_C (fun N => f N - N * N * (g N)⁻¹) := by
  obtain ⟨K, N0, hK, h⟩ := mx_C_inv hg
  obtain ⟨m, m1, m2⟩ := mx_max N0 1
  refine mx_C_eq (f := fun N => -(N * N * (g N)⁻¹) + f N) (fun N => by grind) (mx_C_add (L := K) (N0 := m) (fun N hN => ?_) hf)
  obtain ⟨-, -, b⟩ := h N (by grind)
  have c : K * 1 ≤ K * N := Rat.mul_le_mul_of_nonneg_left (by grind) hK
  grind
