/-! Vertex by vertex: the signs of one minor beside the next; and the changes that leave noughts out -/
section CH
variable (w : Nat → Int) (e : Nat → Nat → Int)
def mx_c : List Nat → Nat
  | [] => 0
  | p :: l => mx_c l + (if 0 < mx_p w e (p :: l) * mx_p w e l then 1 else 0)
/-- no sum is 0, of the list or of what stands behind -/
def mx_ok : List Nat → Prop
  | [] => True
  | p :: l => (∀ k, k ≤ l.length + 1 → mx_e w e (p :: l) k ≠ 0) ∧ mx_ok l
theorem mx_ok_self : ∀ {l : List Nat}, mx_ok w e l → ∀ k, k ≤ l.length → mx_e w e l k ≠ 0
  | [], _, k, hk => by
    have hk : k = 0 := Nat.le_zero.mp hk
    subst hk
    exact (by decide : (1 : Int) ≠ 0)
  | _ :: _, h, k, hk => h.1 k hk
theorem mx_chain (hs : ∀ a b, e a b = e b a) (hu : ∀ a b, 0 ≤ e a b) : ∀ (l : List Nat), l.Nodup → mx_ok w e l → mx_v (mx_e w e l) l.length = mx_c w e l
  | [], _, _ => rfl
  | p :: l, hn, h => by
    have hn2 := List.nodup_cons.mp hn
    have he : (p :: l).erase p = l := List.erase_cons_head p l
    have := mx_v_at w e hs hu (l := p :: l) (p := p) (m := l.length) hn List.mem_cons_self rfl h.1 (by rw [he]; exact mx_ok_self w e h.2)
    rw [he] at this
    show mx_v (mx_e w e (p :: l)) (l.length + 1) = mx_c w e l + _
    rw [this, mx_chain hs hu l hn2.2 h.2]
/-- scaled: every weight n times, every edge n * n times -/
theorem mx_e_scale (c : Int) : ∀ (n : Nat) (l : List Nat), l.length ≤ n → ∀ k, mx_e (fun p => c * w p) (fun p q => c * c * e p q) l k = c ^ k * mx_e w e l k
  | _, [], _, k => by
    rw [mx_e_nil, mx_e_nil]
    by_cases h : k = 0
    · subst h
      simp
    · rw [if_neg h, Int.mul_zero]
  | 0, p :: l, h, _ => absurd h (by simp)
  | n + 1, p :: l, h, k => by
    have h : l.length ≤ n := Nat.le_of_succ_le_succ h
    have hp : ∀ (f g : Nat → Int), (∀ k, f k = c ^ k * g k) → ∀ k, c * mx_h f k = c ^ k * mx_h g k := fun f g hf k => by
      cases k with
      | zero => exact (Int.mul_zero c).trans (Int.mul_zero _).symm
      | succ k =>
        show c * f k = c ^ (k + 1) * g k
        rw [hf k, Int.pow_succ, ← Int.mul_assoc, Int.mul_comm c]
    have ih := mx_e_scale c n l h
    rw [mx_e_cons, mx_e_cons, ih k, Int.mul_sub, Int.mul_add, ← mx_s_mul]
    congr 1
    · congr 1
      rw [Int.mul_comm c, Int.mul_assoc, hp _ _ ih k, ← Int.mul_assoc, ← Int.mul_assoc, Int.mul_comm (w p)]
    · refine mx_s_congr (fun q _ => ?_)
      have h1 := mx_e_scale c n (l.erase q) (Nat.le_trans List.length_erase_le h)
      have h2 : c * (c * mx_h (mx_h (mx_e (fun p => c * w p) (fun p q => c * c * e p q) (l.erase q))) k) = c ^ k * mx_h (mx_h (mx_e w e (l.erase q))) k := by
        rw [← mx_h_mul]
        exact hp _ _ (hp _ _ h1) k
      rw [Int.mul_comm (c * c), Int.mul_assoc, Int.mul_assoc, h2, ← Int.mul_assoc, ← Int.mul_assoc, Int.mul_comm (e p q)]
/-- how often the sign turns, noughts left out: the number, and the last sign that was -/
def mx_t (f : Nat → Int) : Nat → Nat × Int
  | 0 => (0, f 0)
  | n + 1 => if f (n + 1) = 0 then mx_t f n else (if (mx_t f n).2 * f (n + 1) < 0 then (mx_t f n).1 + 1 else (mx_t f n).1, f (n + 1))
/-- filled: what is 0 has the sign of the last that isn't -/
theorem mx_t_fill {f g : Nat → Int} (h0 : 0 < f 0 * g 0) : ∀ (n : Nat), (∀ k, k ≤ n → 0 < (mx_t f k).2 * g k) → (mx_t f n).1 = (mx_t g n).1 ∧ (mx_t g n).2 = g n
  | 0, _ => ⟨rfl, rfl⟩
  | n + 1, h => by
    obtain ⟨i1, i2⟩ := mx_t_fill h0 n (fun k hk => h k (by omega))
    have hg : ∀ k, k ≤ n + 1 → g k ≠ 0 := fun k hk q => by
      have := h k hk
      rw [q, Int.mul_zero] at this
      exact absurd this (by decide)
    have a1 := h n (by omega)
    have a2 := h (n + 1) (by omega)
    have e2 : mx_t g (n + 1) = (if (mx_t g n).2 * g (n + 1) < 0 then (mx_t g n).1 + 1 else (mx_t g n).1, g (n + 1)) := if_neg (hg (n + 1) (by omega))
    rw [e2]
    refine ⟨?_, rfl⟩
    show (mx_t f (n + 1)).1 = if (mx_t g n).2 * g (n + 1) < 0 then (mx_t g n).1 + 1 else (mx_t g n).1
    rw [i2, ← i1]
    have n1 : (mx_t f n).2 ≠ 0 := fun q => by rw [q, Int.zero_mul] at a1; exact absurd a1 (by decide)
    have n2 := hg n (by omega)
    have n3 := hg (n + 1) (by omega)
    by_cases hf : f (n + 1) = 0
    · have e1 : mx_t f (n + 1) = mx_t f n := if_pos hf
      rw [e1] at a2 ⊢
      rw [mx_pos n1 n2] at a1
      rw [mx_pos n1 n3] at a2
      have : 0 < g n * g (n + 1) := (mx_pos n2 n3).mpr (a1.symm.trans a2)
      rw [if_neg (by omega)]
    · have e1 : mx_t f (n + 1) = (if (mx_t f n).2 * f (n + 1) < 0 then (mx_t f n).1 + 1 else (mx_t f n).1, f (n + 1)) := if_neg hf
      rw [e1] at a2 ⊢
      have a2 : 0 < f (n + 1) * g (n + 1) := a2
      show (if (mx_t f n).2 * f (n + 1) < 0 then (mx_t f n).1 + 1 else (mx_t f n).1) = _
      rw [mx_pos n1 n2] at a1
      rw [mx_pos hf n3] at a2
      have z1 : (mx_t f n).2 * f (n + 1) ≠ 0 := Int.mul_ne_zero n1 hf
      have z2 : g n * g (n + 1) ≠ 0 := Int.mul_ne_zero n2 n3
      have : (0 < (mx_t f n).2 * f (n + 1)) ↔ (0 < g n * g (n + 1)) := by
        rw [mx_pos n1 hf, mx_pos n2 n3, a1, a2]
      by_cases q : (mx_t f n).2 * f (n + 1) < 0
      · rw [if_pos q, if_pos (by omega)]
      · rw [if_neg q, if_neg (by omega)]
end CH
