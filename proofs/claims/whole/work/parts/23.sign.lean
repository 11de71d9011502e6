/-! How many are above 0: the changes of sign, and one vertex more -/
def mx_v (f : Nat → Int) : Nat → Nat
  | 0 => 0
  | n + 1 => mx_v f n + (if 0 < f n * f (n + 1) then 1 else 0)
theorem mx_pos {x y : Int} (hx : x ≠ 0) (hy : y ≠ 0) : (0 < x * y) ↔ ((0 < x) ↔ (0 < y)) := by
  rcases Int.lt_trichotomy x 0 with h1 | h1 | h1
  · rcases Int.lt_trichotomy y 0 with h2 | h2 | h2
    · have := Int.mul_pos_of_neg_of_neg h1 h2
      exact ⟨fun _ => ⟨fun q => absurd q (by omega), fun q => absurd q (by omega)⟩, fun _ => this⟩
    · exact absurd h2 hy
    · have := Int.mul_neg_of_neg_of_pos h1 h2
      exact ⟨fun q => absurd q (by omega), fun q => absurd (q.mpr h2) (by omega)⟩
  · exact absurd h1 hx
  · rcases Int.lt_trichotomy y 0 with h2 | h2 | h2
    · have := Int.mul_neg_of_pos_of_neg h1 h2
      exact ⟨fun q => absurd q (by omega), fun q => absurd (q.mp h1) (by omega)⟩
    · exact absurd h2 hy
    · exact ⟨fun _ => ⟨fun _ => h2, fun _ => h1⟩, fun _ => Int.mul_pos h1 h2⟩
theorem mx_v_step {a b : Nat → Int} (ha : a 0 = 1) (hb : b 0 = 1) : ∀ (m : Nat), (∀ k, k ≤ m + 1 → a k ≠ 0) → (∀ k, k ≤ m → b k ≠ 0) → (∀ k, k < m → a (k + 2) * b k ≤ a (k + 1) * b (k + 1)) → mx_v a (m + 1) = mx_v b m + (if 0 < a (m + 1) * b m then 1 else 0)
  | 0, _, _, _ => by
    show 0 + (if 0 < a 0 * a 1 then 1 else 0) = 0 + (if 0 < a 1 * b 0 then 1 else 0)
    rw [ha, hb, Int.one_mul, Int.mul_one]
  | m + 1, h1, h2, h3 => by
    have ih := mx_v_step ha hb m (fun k hk => h1 k (by omega)) (fun k hk => h2 k (by omega)) (fun k hk => h3 k (by omega))
    show mx_v a (m + 1) + (if 0 < a (m + 1) * a (m + 2) then 1 else 0) = mx_v b m + (if 0 < b m * b (m + 1) then 1 else 0) + (if 0 < a (m + 2) * b (m + 1) then 1 else 0)
    rw [ih]
    have n1 := h1 (m + 1) (by omega)
    have n2 := h1 (m + 2) (by omega)
    have n3 := h2 m (by omega)
    have n4 := h2 (m + 1) (by omega)
    have hx := h3 m (by omega)
    have hx : 0 < a (m + 2) * b m → 0 < a (m + 1) * b (m + 1) := fun q => Int.lt_of_lt_of_le q hx
    rw [mx_pos n2 n3, mx_pos n1 n4] at hx
    simp only [mx_pos n1 n2, mx_pos n1 n3, mx_pos n3 n4, mx_pos n2 n4]
    by_cases c1 : 0 < a (m + 1) <;> by_cases c2 : 0 < a (m + 2) <;> by_cases c3 : 0 < b m <;> by_cases c4 : 0 < b (m + 1) <;> simp [c1, c2, c3, c4] at hx ⊢
section SG
variable (w : Nat → Int) (e : Nat → Nat → Int)
theorem mx_e_0 : ∀ (l : List Nat), mx_e w e l 0 = 1
  | [] => rfl
  | p :: l => by
    rw [mx_e_cons, mx_e_0 l]
    show 1 + w p * 0 - mx_s (fun q => e p q * 0) l = 1
    rw [mx_s_congr (g := fun _ => 0) (fun q _ => Int.mul_zero _), mx_s_zero, Int.mul_zero]
    rfl
/-- the last of the sums is the minor -/
theorem mx_e_top : ∀ (n : Nat) (l : List Nat), l.length ≤ n → mx_e w e l l.length = mx_p w e l
  | _, [], _ => rfl
  | 0, p :: l, h => absurd h (by simp)
  | n + 1, p :: l, h => by
    have h : l.length ≤ n := Nat.le_of_succ_le_succ h
    rw [mx_e_cons, mx_p_cons]
    show mx_e w e l (l.length + 1) + w p * mx_e w e l l.length - mx_s (fun q => e p q * mx_h (mx_e w e (l.erase q)) l.length) l = _
    rw [mx_e_big w e l.length l (Nat.le_refl _) _ (Nat.lt_succ_self _), Int.zero_add, mx_e_top n l h]
    congr 1
    refine mx_s_congr (fun q hq => ?_)
    congr 1
    have hl : (l.erase q).length = l.length - 1 := List.length_erase_of_mem hq
    have h1 : 0 < l.length := List.length_pos_of_mem hq
    obtain ⟨m, hm⟩ : ∃ m, l.length = m + 1 := ⟨l.length - 1, by omega⟩
    rw [hm]
    show mx_e w e (l.erase q) m = _
    have hm2 : (l.erase q).length = m := by omega
    rw [← mx_e_top n (l.erase q) (Nat.le_trans List.length_erase_le h), hm2]
/-- one vertex more, where no sum is 0 -/
theorem mx_v_at (hs : ∀ a b, e a b = e b a) (hu : ∀ a b, 0 ≤ e a b) {l : List Nat} {p m : Nat} (hn : l.Nodup) (hp : p ∈ l) (hm : l.length = m + 1) (h1 : ∀ k, k ≤ m + 1 → mx_e w e l k ≠ 0) (h2 : ∀ k, k ≤ m → mx_e w e (l.erase p) k ≠ 0) : mx_v (mx_e w e l) (m + 1) = mx_v (mx_e w e (l.erase p)) m + (if 0 < mx_p w e l * mx_p w e (l.erase p) then 1 else 0) := by
  have hl : (l.erase p).length = m := by rw [List.length_erase_of_mem hp, hm]; rfl
  rw [mx_v_step (mx_e_0 w e l) (mx_e_0 w e (l.erase p)) m h1 h2 (fun k _ => ?_)]
  · rw [← mx_e_top w e l.length l (Nat.le_refl _), ← mx_e_top w e (l.erase p).length (l.erase p) (Nat.le_refl _), hm, hl]
  · have := (mx_real w e hs hu (m + 1) l hm hn).2 p hp (k + 1)
    unfold mx_D at this
    have this : 0 ≤ mx_e w e l (k + 1) * mx_e w e (l.erase p) (k + 1) - mx_e w e l (k + 2) * mx_e w e (l.erase p) k := this
    omega
end SG
