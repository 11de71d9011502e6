/-! Fractions -/
theorem mx_inv_le {a b : Rat} (h : 0 < a) (h2 : a ≤ b) : b⁻¹ ≤ a⁻¹ := by
  have hb : 0 < b := by grind
  have p1 : 0 < b⁻¹ := Rat.inv_pos.mpr hb
  have p2 : 0 < a⁻¹ := Rat.inv_pos.mpr h
  have h3 : a * (a⁻¹ * b⁻¹) ≤ b * (a⁻¹ * b⁻¹) := Rat.mul_le_mul_of_nonneg_right h2 (Rat.mul_nonneg (by grind) (by grind))
  have e1 : a * (a⁻¹ * b⁻¹) = b⁻¹ := by grind
  have e2 : b * (a⁻¹ * b⁻¹) = a⁻¹ := by grind
  rw [e1, e2] at h3
  exact h3
theorem mx_inv_le_neg {a b : Rat} (h : b < 0) (h2 : a ≤ b) : b⁻¹ ≤ a⁻¹ := by
  have h3 := mx_inv_le (a := -b) (b := -a) (by grind) (by grind)
  have e1 : (-a)⁻¹ = -(a⁻¹) := by grind
  have e2 : (-b)⁻¹ = -(b⁻¹) := by grind
  rw [e1, e2] at h3
  grind
/-- one step from the leaves: the fraction of a vertex out of those of its children -/
theorem mx_fold {t r tc rc : Rat} (h1 : r ≠ 0) (h2 : tc ≠ 0) (h3 : rc ≠ 0) (u : Rat) : (t * tc - u * (r * rc)) / (r * tc) = t / r - u * (tc / rc)⁻¹ := by
  grind
