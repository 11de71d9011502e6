/-! For a scale that is large: no sum is 0, and each has the sign of the last that is not 0 -/
abbrev mx_F (f : Nat → Int) (N : Int) : Nat → Int := fun j => N ^ j * f j
theorem mx_pw {N : Int} (hN : 1 ≤ N) : ∀ k : Nat, 1 ≤ N ^ k
  | 0 => by rw [Int.pow_zero]; decide
  | k + 1 => by
    have h := mx_pw hN k
    rw [Int.pow_succ]
    have h1 : N ^ k * 1 ≤ N ^ k * N := Int.mul_le_mul_of_nonneg_left hN (by omega)
    omega
theorem mx_pw_le {N : Int} (hN : 1 ≤ N) (k : Nat) : N ^ k ≤ N ^ (k + 1) := by
  have h := mx_pw hN k
  rw [Int.pow_succ]
  have h1 : N ^ k * 1 ≤ N ^ k * N := Int.mul_le_mul_of_nonneg_left hN (by omega)
  omega
theorem mx_abs (x M : Int) (hM : 0 ≤ M) : ∃ K : Int, 0 ≤ K ∧ -(K * M) ≤ M * x ∧ M * x ≤ K * M ∧ K = (if 0 ≤ x then x else -x) := by
  by_cases h : 0 ≤ x
  · refine ⟨x, h, ?_, by rw [Int.mul_comm]; exact Int.le_refl _, (if_pos h).symm⟩
    have := Int.mul_nonneg h hM
    have e := Int.mul_comm x M
    omega
  · refine ⟨-x, by omega, ?_, ?_, (if_neg h).symm⟩
    · have e : -x * M = -(M * x) := by rw [Int.neg_mul, Int.mul_comm]
      omega
    · have e : -x * M = -(M * x) := by rw [Int.neg_mul, Int.mul_comm]
      have := Int.mul_nonneg (show 0 ≤ -x by omega) hM
      omega
theorem mx_x_bd (f : Nat → Int) : ∀ r k : Nat, ∃ K : Int, 0 ≤ K ∧ ∀ N : Int, 1 ≤ N → -(K * N ^ k) ≤ mx_x 1 (mx_F f N) r k ∧ mx_x 1 (mx_F f N) r k ≤ K * N ^ k
  | 0, k => by
    refine ⟨if 0 ≤ f k then f k else -f k, by split <;> omega, fun N hN => ?_⟩
    obtain ⟨K, -, h1, h2, h3⟩ := mx_abs (f k) (N ^ k) (by have := mx_pw hN k; omega)
    rw [mx_x_z, ← h3]
    exact ⟨h1, h2⟩
  | r + 1, 0 => by
    refine ⟨if 0 ≤ f 0 then f 0 else -f 0, by split <;> omega, fun N hN => ?_⟩
    obtain ⟨K, -, h1, h2, h3⟩ := mx_abs (f 0) (N ^ 0) (by have := mx_pw hN 0; omega)
    rw [mx_x_0, ← h3]
    exact ⟨h1, h2⟩
  | r + 1, k + 1 => by
    obtain ⟨K1, p1, h1⟩ := mx_x_bd f r (k + 1)
    obtain ⟨K2, p2, h2⟩ := mx_x_bd f (r + 1) k
    refine ⟨K1 + K2, by omega, fun N hN => ?_⟩
    obtain ⟨a1, a2⟩ := h1 N hN
    obtain ⟨b1, b2⟩ := h2 N hN
    have h3 : K2 * N ^ k ≤ K2 * N ^ (k + 1) := Int.mul_le_mul_of_nonneg_left (mx_pw_le hN k) p2
    rw [mx_x_s, Int.one_mul, Int.add_mul]
    omega
theorem mx_x_top (f : Nat → Int) (k : Nat) : ∀ r : Nat, ∃ K : Int, 0 ≤ K ∧ ∀ N : Int, 1 ≤ N → N ^ (k + 1) * f (k + 1) - K * N ^ k ≤ mx_x 1 (mx_F f N) r (k + 1) ∧ mx_x 1 (mx_F f N) r (k + 1) ≤ N ^ (k + 1) * f (k + 1) + K * N ^ k
  | 0 => ⟨0, Int.le_refl 0, fun N _ => by
      rw [mx_x_z]
      show _ ≤ N ^ (k + 1) * f (k + 1) ∧ N ^ (k + 1) * f (k + 1) ≤ _
      omega⟩
  | r + 1 => by
    obtain ⟨K1, p1, h1⟩ := mx_x_top f k r
    obtain ⟨K2, p2, h2⟩ := mx_x_bd f (r + 1) k
    refine ⟨K1 + K2, by omega, fun N hN => ?_⟩
    obtain ⟨a1, a2⟩ := h1 N hN
    obtain ⟨b1, b2⟩ := h2 N hN
    rw [mx_x_s, Int.one_mul, Int.add_mul]
    omega
theorem mx_x_sign {f : Nat → Int} (h0 : f 0 = 1) : ∀ k r : Nat, ∃ N0 : Int, ∀ N : Int, N0 ≤ N → 0 < (mx_t f k).2 * mx_x 1 (mx_F f N) (r + 1) k
  | 0, r => ⟨0, fun N _ => by
    rw [mx_x_0]
    show 0 < f 0 * (N ^ 0 * f 0)
    rw [h0, Int.pow_zero]
    decide⟩
  | k + 1, r => by
    by_cases hf : f (k + 1) = 0
    · have e : mx_t f (k + 1) = mx_t f k := if_pos hf
      rw [e]
      induction r with
      | zero =>
        obtain ⟨N0, h⟩ := mx_x_sign h0 k 0
        refine ⟨N0, fun N hN => ?_⟩
        have z : mx_F f N (k + 1) = 0 := by
          show N ^ (k + 1) * f (k + 1) = 0
          rw [hf, Int.mul_zero]
        rw [mx_x_s, mx_x_z, z, Int.zero_add, Int.one_mul]
        exact h N hN
      | succ r ih =>
        obtain ⟨N1, h1⟩ := ih
        obtain ⟨N2, h2⟩ := mx_x_sign h0 k (r + 1)
        refine ⟨if N1 ≤ N2 then N2 else N1, fun N hN => ?_⟩
        have a1 := h1 N (by split at hN <;> omega)
        have a2 := h2 N (by split at hN <;> omega)
        rw [mx_x_s, Int.one_mul, Int.mul_add]
        omega
    · have e : (mx_t f (k + 1)).2 = f (k + 1) := by
        show (if f (k + 1) = 0 then mx_t f k else _).2 = _
        rw [if_neg hf]
      rw [e]
      obtain ⟨K, p, h⟩ := mx_x_top f k (r + 1)
      refine ⟨K + 1, fun N hN => ?_⟩
      have hN1 : 1 ≤ N := by omega
      obtain ⟨a1, a2⟩ := h N hN1
      have hp := mx_pw hN1 k
      have e1 : N ^ (k + 1) * f (k + 1) = N ^ k * (N * f (k + 1)) := by rw [Int.pow_succ, Int.mul_assoc]
      have e2 : K * N ^ k = N ^ k * K := Int.mul_comm _ _
      rw [e1, e2] at a1 a2
      rcases Int.lt_trichotomy (f (k + 1)) 0 with q | q | q
      · have h1 : N * f (k + 1) ≤ N * (-1) := Int.mul_le_mul_of_nonneg_left (by omega) (by omega)
        have h2 : N ^ k * (N * f (k + 1) + K) ≤ N ^ k * (-1) := Int.mul_le_mul_of_nonneg_left (by omega) (by omega)
        rw [Int.mul_add] at h2
        exact Int.mul_pos_of_neg_of_neg q (by omega)
      · exact absurd q hf
      · have h1 : N * 1 ≤ N * f (k + 1) := Int.mul_le_mul_of_nonneg_left (by omega) (by omega)
        have h2 : N ^ k * 1 ≤ N ^ k * (N * f (k + 1) - K) := Int.mul_le_mul_of_nonneg_left (by omega) (by omega)
        rw [Int.mul_sub] at h2
        exact Int.mul_pos q (by omega)
