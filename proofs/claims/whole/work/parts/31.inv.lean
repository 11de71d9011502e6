/-! The inverse of a fraction that comes to N times a number -/
theorem mx_inv_help {N x f K y z B : Rat} (hxz : x * z = 1) (hfy : f * y = 1) (hyz : 0 ≤ y * z) (hN : 0 ≤ N) (hD1 : 0 ≤ N * x - f) (hD2 : N * x - f ≤ K) (hb : N * (y * z) ≤ B) : N * z ≤ N * N * y ∧ N * N * y ≤ N * z + B * K := by
  have e : N * N * y - N * z = N * (y * z) * (N * x - f) := by grind
  have h0 : 0 ≤ N * (y * z) := Rat.mul_nonneg hN hyz
  have h1 : 0 ≤ N * (y * z) * (N * x - f) := Rat.mul_nonneg h0 hD1
  have h2 : N * (y * z) * (N * x - f) ≤ N * (y * z) * K := Rat.mul_le_mul_of_nonneg_left hD2 h0
  have h3 : N * (y * z) * K ≤ B * K := Rat.mul_le_mul_of_nonneg_right hb (by grind)
  exact ⟨by grind, by grind⟩
theorem mx_A_inv {f : Rat → Rat} {x : Rat} (hx : x ≠ 0) (h : mx_A f x) : ∃ K N0 : Rat, 0 ≤ K ∧ ∀ N : Rat, N0 ≤ N → f N ≠ 0 ∧ (0 < f N ↔ 0 < x) ∧ N * x⁻¹ ≤ N * N * (f N)⁻¹ ∧ N * N * (f N)⁻¹ ≤ N * x⁻¹ + K := by
  obtain ⟨K, N0, hK, h⟩ := h
  obtain ⟨m, m1, m2⟩ := mx_max N0 1
  obtain ⟨m', m3, m4⟩ := mx_max m (2 * K * x⁻¹)
  have hxz : x * x⁻¹ = 1 := by grind
  rcases Rat.le_total (a := x) (b := 0) with q | q
  · have hx0 : x < 0 := by grind
    have hz : x⁻¹ < 0 := by
      have := Rat.inv_pos.mpr (show 0 < -x by grind)
      have e : (-x)⁻¹ = -(x⁻¹) := by grind
      grind
    refine ⟨x⁻¹ * x⁻¹ * K, m, Rat.mul_nonneg (by have := Rat.mul_nonneg (show 0 ≤ -(x⁻¹) by grind) (show 0 ≤ -(x⁻¹) by grind); grind) hK, fun N hN => ?_⟩
    obtain ⟨a1, a2⟩ := h N (by grind)
    have hN1 : 1 ≤ N := by grind
    have h1 : N * x ≤ 0 := by
      have := Rat.mul_nonneg (show 0 ≤ N by grind) (show 0 ≤ -x by grind)
      grind
    have hf : f N < 0 := by grind
    have hy : (f N)⁻¹ < 0 := by
      have := Rat.inv_pos.mpr (show 0 < -(f N) by grind)
      have e : (-(f N))⁻¹ = -((f N)⁻¹) := by grind
      grind
    have hfy : f N * (f N)⁻¹ = 1 := by grind
    have hyz : 0 ≤ (f N)⁻¹ * x⁻¹ := by
      have := Rat.mul_nonneg (show 0 ≤ -((f N)⁻¹) by grind) (show 0 ≤ -(x⁻¹) by grind)
      grind
    have hb : N * ((f N)⁻¹ * x⁻¹) ≤ x⁻¹ * x⁻¹ := by
      have h2 : 0 ≤ -((f N)⁻¹) * (x⁻¹ * x⁻¹) := Rat.mul_nonneg (by grind) (by have := Rat.mul_nonneg (show 0 ≤ -(x⁻¹) by grind) (show 0 ≤ -(x⁻¹) by grind); grind)
      have h3 : -(N * x) * (-((f N)⁻¹) * (x⁻¹ * x⁻¹)) ≤ -(f N) * (-((f N)⁻¹) * (x⁻¹ * x⁻¹)) := Rat.mul_le_mul_of_nonneg_right (by grind) h2
      have e1 : -(N * x) * (-((f N)⁻¹) * (x⁻¹ * x⁻¹)) = N * ((f N)⁻¹ * x⁻¹) := by grind
      have e2 : -(f N) * (-((f N)⁻¹) * (x⁻¹ * x⁻¹)) = x⁻¹ * x⁻¹ := by grind
      rw [e1, e2] at h3
      exact h3
    obtain ⟨r1, r2⟩ := mx_inv_help hxz hfy hyz (show 0 ≤ N by grind) (show 0 ≤ N * x - f N by grind) (show N * x - f N ≤ K by grind) hb
    exact ⟨by grind, ⟨fun z => by grind, fun z => by grind⟩, r1, r2⟩
  · have hx0 : 0 < x := by grind
    have hz : 0 < x⁻¹ := Rat.inv_pos.mpr hx0
    refine ⟨2 * (x⁻¹ * x⁻¹) * K, m', Rat.mul_nonneg (by have := Rat.mul_nonneg (show 0 ≤ x⁻¹ by grind) (show 0 ≤ x⁻¹ by grind); grind) hK, fun N hN => ?_⟩
    obtain ⟨a1, a2⟩ := h N (by grind)
    have hN1 : 1 ≤ N := by grind
    have h1 : 2 * K * x⁻¹ * x ≤ N * x := Rat.mul_le_mul_of_nonneg_right (by grind) (by grind)
    have h2 : 0 < N * x := Rat.mul_pos (by grind) hx0
    have e0 : 2 * K * x⁻¹ * x = 2 * K := by grind
    rw [e0] at h1
    have hf2 : N * x ≤ 2 * f N := by grind
    have hf : 0 < f N := by grind
    have hy : 0 < (f N)⁻¹ := Rat.inv_pos.mpr hf
    have hfy : f N * (f N)⁻¹ = 1 := by grind
    have hyz : 0 ≤ (f N)⁻¹ * x⁻¹ := Rat.mul_nonneg (by grind) (by grind)
    have hb : N * ((f N)⁻¹ * x⁻¹) ≤ 2 * (x⁻¹ * x⁻¹) := by
      have h3 : 0 ≤ (f N)⁻¹ * (x⁻¹ * x⁻¹) := Rat.mul_nonneg (by grind) (Rat.mul_nonneg (by grind) (by grind))
      have h4 : N * x * ((f N)⁻¹ * (x⁻¹ * x⁻¹)) ≤ 2 * f N * ((f N)⁻¹ * (x⁻¹ * x⁻¹)) := Rat.mul_le_mul_of_nonneg_right hf2 h3
      have e1 : N * x * ((f N)⁻¹ * (x⁻¹ * x⁻¹)) = N * ((f N)⁻¹ * x⁻¹) := by grind
      have e2 : 2 * f N * ((f N)⁻¹ * (x⁻¹ * x⁻¹)) = 2 * (x⁻¹ * x⁻¹) := by grind
      rw [e1, e2] at h4
      exact h4
    obtain ⟨r1, r2⟩ := mx_inv_help hxz hfy hyz (show 0 ≤ N by grind) (show 0 ≤ N * x - f N by grind) (show N * x - f N ≤ K by grind) hb
    exact ⟨by grind, ⟨fun _ => hx0, fun _ => hf⟩, r1, r2⟩
/-- a child that is not 0 -/
theorem mx_A_A {f g : Rat → Rat} {x y : Rat} (hf : mx_A f x) (hg : mx_A g y) (hy : y ≠ 0) : mx_A (fun N => f N - N * N * (g N)⁻¹) (x - y⁻¹) := by
  obtain ⟨K1, N1, p1, h1⟩ := hf
  obtain ⟨K2, N2, p2, h2⟩ := mx_A_inv hy hg
  obtain ⟨m, m1, m2⟩ := mx_max N1 N2
  refine ⟨K1 + K2, m, by grind, fun N hN => ?_⟩
  obtain ⟨a1, a2⟩ := h1 N (by grind)
  obtain ⟨-, -, b1, b2⟩ := h2 N (by grind)
  have e : N * (x - y⁻¹) = N * x - N * y⁻¹ := by grind
  exact ⟨by grind, by grind⟩
