/-! Every weight t more: the sums of minors then -/
def mx_x (t : Int) (f : Nat → Int) : Nat → Nat → Int
  | 0, k => f k
  | _ + 1, 0 => f 0
  | r + 1, k + 1 => mx_x t f r (k + 1) + t * mx_x t f (r + 1) k
theorem mx_x_0 (t : Int) (f : Nat → Int) (r : Nat) : mx_x t f r 0 = f 0 := by
  cases r <;> simp [mx_x]
theorem mx_x_z (t : Int) (f : Nat → Int) (k : Nat) : mx_x t f 0 k = f k := by
  simp [mx_x]
theorem mx_x_s (t : Int) (f : Nat → Int) (r k : Nat) : mx_x t f (r + 1) (k + 1) = mx_x t f r (k + 1) + t * mx_x t f (r + 1) k := by
  rw [mx_x]
theorem mx_x_congr (t : Int) {f g : Nat → Int} (h : ∀ k, f k = g k) (r k : Nat) : mx_x t f r k = mx_x t g r k := by
  rw [funext h]
theorem mx_x_add (t : Int) (f g : Nat → Int) : ∀ (r k : Nat), mx_x t (fun k => f k + g k) r k = mx_x t f r k + mx_x t g r k
  | 0, k => by simp [mx_x]
  | r + 1, 0 => by simp [mx_x]
  | r + 1, k + 1 => by
    have h1 := mx_x_add t f g r (k + 1)
    have h2 := mx_x_add t f g (r + 1) k
    simp only [mx_x]
    rw [h1, h2, Int.mul_add]
    omega
theorem mx_x_mul (t c : Int) (f : Nat → Int) : ∀ (r k : Nat), mx_x t (fun k => c * f k) r k = c * mx_x t f r k
  | 0, k => by simp [mx_x]
  | r + 1, 0 => by simp [mx_x]
  | r + 1, k + 1 => by
    have h1 := mx_x_mul t c f r (k + 1)
    have h2 := mx_x_mul t c f (r + 1) k
    simp only [mx_x]
    rw [h1, h2, Int.mul_add, ← Int.mul_assoc, ← Int.mul_assoc, Int.mul_comm t c]
theorem mx_x_sub (t : Int) (f g : Nat → Int) (r k : Nat) : mx_x t (fun k => f k - g k) r k = mx_x t f r k - mx_x t g r k := by
  have h := mx_x_add t f (fun k => -1 * g k) r k
  rw [mx_x_mul] at h
  rw [mx_x_congr t (g := fun k => f k + -1 * g k) (fun k => by omega), h]
  omega
theorem mx_x_sum (t : Int) (F : Nat → Nat → Int) (r k : Nat) : ∀ (l : List Nat), mx_x t (fun k => mx_s (fun q => F q k) l) r k = mx_s (fun q => mx_x t (F q) r k) l
  | [] => by
    have h := mx_x_mul t 0 (fun _ => 0) r k
    rw [Int.zero_mul] at h
    exact (mx_x_congr t (f := fun k => mx_s (fun q => F q k) []) (g := fun _ => 0) (fun _ => rfl) r k).trans (h.trans (Int.zero_mul _))
  | a :: l => by
    show mx_x t (fun k => F a k + mx_s (fun q => F q k) l) r k = mx_x t (F a) r k + mx_s (fun q => mx_x t (F q) r k) l
    rw [mx_x_add, mx_x_sum t F r k l]
theorem mx_x_h (t : Int) (f : Nat → Int) : ∀ (r k : Nat), mx_x t (mx_h f) r (k + 1) = mx_x t f r k
  | 0, k => by
    rw [mx_x_z, mx_x_z]
    rfl
  | r + 1, 0 => by
    rw [mx_x_s, mx_x_h t f r 0, mx_x_0, mx_x_0, mx_x_0]
    show f 0 + t * 0 = f 0
    omega
  | r + 1, k + 1 => by
    have h1 := mx_x_h t f r (k + 1)
    have h2 := mx_x_h t f (r + 1) k
    rw [mx_x_s t (mx_h f) r (k + 1), mx_x_s t f r k, h1, h2]
section SH
variable (w : Nat → Int) (e : Nat → Nat → Int)
theorem mx_e_shift (t : Int) : ∀ (n : Nat) (l : List Nat), l.length ≤ n → ∀ r k, r + k = l.length + 1 → mx_e (fun p => w p + t) e l k = mx_x t (mx_e w e l) r k
  | _, [], _, r, k, hk => by
    have hk : r + k = 1 := hk
    rcases k with _ | _ | k
    · rw [mx_x_0]
      rfl
    · have : r = 0 := by omega
      subst this
      rw [mx_x_z]
      rfl
    · exact absurd hk (by omega)
  | 0, p :: l, h, _, _, _ => absurd h (by simp)
  | n + 1, p :: l, h, r, k, hk => by
    have h : l.length ≤ n := Nat.le_of_succ_le_succ h
    have hk : r + k = l.length + 1 + 1 := hk
    have ih := mx_e_shift t n l h
    cases k with
    | zero => rw [mx_x_0, mx_e_0, mx_e_0]
    | succ k =>
      cases r with
      | zero =>
        rw [mx_x_z, mx_e_big _ _ (n + 1) (p :: l) (Nat.succ_le_succ h) (k + 1) (by show l.length + 1 < _; omega), mx_e_big _ _ (n + 1) (p :: l) (Nat.succ_le_succ h) (k + 1) (by show l.length + 1 < _; omega)]
      | succ r =>
        have hc : ∀ k, mx_e w e (p :: l) k = (mx_e w e l k + w p * mx_h (mx_e w e l) k) - mx_s (fun q => e p q * mx_h (mx_h (mx_e w e (l.erase q))) k) l := mx_e_cons w e p l
        have i1 := ih r (k + 1) (by omega)
        have i2 := ih (r + 1) k (by omega)
        rw [mx_x_congr t hc, mx_x_sub, mx_x_add, mx_x_mul, mx_x_h, mx_x_sum, mx_e_cons, i1]
        show mx_x t (mx_e w e l) r (k + 1) + (w p + t) * mx_e (fun p => w p + t) e l k - _ = _
        rw [i2]
        have i3 : mx_s (fun q => mx_x t (fun k => e p q * mx_h (mx_h (mx_e w e (l.erase q))) k) (r + 1) (k + 1)) l = mx_s (fun q => e p q * mx_h (mx_h (mx_e (fun p => w p + t) e (l.erase q))) (k + 1)) l := by
          refine mx_s_congr (fun q hq => ?_)
          rw [mx_x_mul, mx_x_h]
          congr 1
          show _ = mx_h (mx_e (fun p => w p + t) e (l.erase q)) k
          have hl : (l.erase q).length = l.length - 1 := List.length_erase_of_mem hq
          have h1 : 0 < l.length := List.length_pos_of_mem hq
          cases k with
          | zero => rw [mx_x_0]; rfl
          | succ k =>
            rw [mx_x_h]
            exact (mx_e_shift t n (l.erase q) (Nat.le_trans List.length_erase_le h) (r + 1) k (by omega)).symm
        rw [i3]
        rw [mx_x_s, Int.add_mul]
        omega
end SH
