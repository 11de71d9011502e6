/-! How many are above 0, by the changes of sign with noughts left out, is the changes where no sum is 0 any more -/
theorem mx_all {P : Nat → Int → Prop} : ∀ n : Nat, (∀ k, k ≤ n → ∃ N0 : Int, ∀ N : Int, N0 ≤ N → P k N) → ∃ N0 : Int, ∀ N : Int, N0 ≤ N → ∀ k, k ≤ n → P k N
  | 0, h => by
    obtain ⟨N0, h0⟩ := h 0 (Nat.le_refl 0)
    refine ⟨N0, fun N hN k hk => ?_⟩
    have hk : k = 0 := Nat.le_zero.mp hk
    subst hk
    exact h0 N hN
  | n + 1, h => by
    obtain ⟨N1, h1⟩ := mx_all n (fun k hk => h k (by omega))
    obtain ⟨N2, h2⟩ := h (n + 1) (Nat.le_refl _)
    refine ⟨if N1 ≤ N2 then N2 else N1, fun N hN k hk => ?_⟩
    by_cases hk2 : k ≤ n
    · exact h1 N (by split at hN <;> omega) k hk2
    · have hk3 : k = n + 1 := by omega
      subst hk3
      exact h2 N (by split at hN <;> omega)
def mx_al (f : Nat → Int) (k : Nat) : Int := (-1) ^ k * f k
theorem mx_sq : ∀ k : Nat, ((-1 : Int) ^ k) * ((-1 : Int) ^ k) = 1
  | 0 => by rw [Int.pow_zero]; rfl
  | k + 1 => by
    have h := mx_sq k
    rw [Int.pow_succ]
    generalize ((-1 : Int) ^ k) = c at h ⊢
    grind
theorem mx_x_al (g : Nat → Int) : ∀ r k : Nat, mx_x 1 (mx_al g) r k = (-1) ^ k * mx_x (-1) g r k
  | 0, k => by
    rw [mx_x_z, mx_x_z]
    rfl
  | r + 1, 0 => by
    rw [mx_x_0, mx_x_0]
    rfl
  | r + 1, k + 1 => by
    rw [mx_x_s, mx_x_s, mx_x_al g r (k + 1), mx_x_al g (r + 1) k, Int.pow_succ]
    generalize ((-1 : Int) ^ k) = c
    generalize mx_x (-1) g r (k + 1) = x
    generalize mx_x (-1) g (r + 1) k = y
    grind
theorem mx_t_v {E : Nat → Int} : ∀ n : Nat, (∀ k, k ≤ n → E k ≠ 0) → (mx_t (mx_al E) n).1 = mx_v E n ∧ (mx_t (mx_al E) n).2 = mx_al E n
  | 0, _ => ⟨rfl, rfl⟩
  | n + 1, h => by
    obtain ⟨i1, i2⟩ := mx_t_v n (fun k hk => h k (by omega))
    have hs := mx_sq n
    have h1 : mx_al E (n + 1) ≠ 0 := fun q => by
      have q : (-1) ^ (n + 1) * E (n + 1) = 0 := q
      rcases Int.mul_eq_zero.mp q with z | z
      · have := mx_sq (n + 1)
        rw [z] at this
        exact absurd this (by decide)
      · exact h (n + 1) (Nat.le_refl _) z
    have e1 : mx_t (mx_al E) (n + 1) = (if (mx_t (mx_al E) n).2 * mx_al E (n + 1) < 0 then (mx_t (mx_al E) n).1 + 1 else (mx_t (mx_al E) n).1, mx_al E (n + 1)) := if_neg h1
    rw [e1]
    refine ⟨?_, rfl⟩
    show (if (mx_t (mx_al E) n).2 * mx_al E (n + 1) < 0 then (mx_t (mx_al E) n).1 + 1 else (mx_t (mx_al E) n).1) = mx_v E n + (if 0 < E n * E (n + 1) then 1 else 0)
    rw [i1, i2]
    have e2 : mx_al E n * mx_al E (n + 1) = -(E n * E (n + 1)) := by
      unfold mx_al
      rw [Int.pow_succ]
      generalize ((-1 : Int) ^ n) = c at hs ⊢
      generalize E n = x
      generalize E (n + 1) = y
      grind
    rw [e2]
    by_cases q : 0 < E n * E (n + 1)
    · rw [if_pos (by omega), if_pos q]
    · rw [if_neg (by omega), if_neg q]
      rfl
section AB
variable (w : Nat → Int) (e : Nat → Nat → Int)
/-- weights and edges by a scale, and every weight a little less -/
abbrev mx_wN (N : Int) : Nat → Int := fun p => N * w p + -1
abbrev mx_eN (N : Int) : Nat → Nat → Int := fun p q => N * N * e p q
theorem mx_e_N (N : Int) (l : List Nat) (r k : Nat) (hk : r + k = l.length + 1) : mx_al (mx_e (mx_wN w N) (mx_eN e N) l) k = mx_x 1 (mx_F (mx_al (mx_e w e l)) N) r k := by
  show (-1) ^ k * mx_e (fun p => N * w p + -1) (mx_eN e N) l k = _
  rw [mx_e_shift (fun p => N * w p) (mx_eN e N) (-1) l.length l (Nat.le_refl _) r k hk, mx_x_congr (-1) (mx_e_scale w e N l.length l (Nat.le_refl _)), ← mx_x_al]
  refine mx_x_congr 1 (fun j => ?_) r k
  show (-1) ^ j * (N ^ j * mx_e w e l j) = N ^ j * ((-1) ^ j * mx_e w e l j)
  rw [← Int.mul_assoc, ← Int.mul_assoc, Int.mul_comm (N ^ j)]
/-- for a large scale: no sum is 0, and the changes are those with noughts left out -/
theorem mx_above (l : List Nat) : ∃ N0 : Int, ∀ N : Int, N0 ≤ N → (∀ k, k ≤ l.length → mx_e (mx_wN w N) (mx_eN e N) l k ≠ 0) ∧ mx_v (mx_e (mx_wN w N) (mx_eN e N) l) l.length = (mx_t (mx_al (mx_e w e l)) l.length).1 := by
  have h0 : mx_al (mx_e w e l) 0 = 1 := by
    show (-1) ^ 0 * mx_e w e l 0 = 1
    rw [mx_e_0]
    rfl
  obtain ⟨N0, h⟩ := mx_all (P := fun k N => 0 < (mx_t (mx_al (mx_e w e l)) k).2 * mx_al (mx_e (mx_wN w N) (mx_eN e N) l) k) l.length (fun k hk => by
    obtain ⟨N0, h⟩ := mx_x_sign h0 k (l.length - k)
    refine ⟨N0, fun N hN => ?_⟩
    rw [mx_e_N w e N l (l.length - k + 1) k (by omega)]
    exact h N hN)
  refine ⟨N0, fun N hN => ?_⟩
  have hk := h N hN
  have hz : ∀ k, k ≤ l.length → mx_e (mx_wN w N) (mx_eN e N) l k ≠ 0 := fun k hkl q => by
    have := hk k hkl
    have z : mx_al (mx_e (mx_wN w N) (mx_eN e N) l) k = 0 := by
      show (-1) ^ k * mx_e (mx_wN w N) (mx_eN e N) l k = 0
      rw [q, Int.mul_zero]
    rw [z, Int.mul_zero] at this
    exact absurd this (by decide)
  refine ⟨hz, ?_⟩
  rw [(mx_t_fill (g := mx_al (mx_e (mx_wN w N) (mx_eN e N) l)) (hk 0 (Nat.zero_le _)) l.length hk).1, (mx_t_v l.length hz).1]
end AB
