/-! Sums of all minors of a size, by their own recursion -/
def mx_h (f : Nat → Int) : Nat → Int
  | 0 => 0
  | k + 1 => f k
theorem mx_h_congr {f g : Nat → Int} (h : ∀ k, f k = g k) (k : Nat) : mx_h f k = mx_h g k := by
  cases k with
  | zero => rfl
  | succ k => exact h k
theorem mx_h_add (f g : Nat → Int) (k : Nat) : mx_h (fun k => f k + g k) k = mx_h f k + mx_h g k := by
  cases k <;> rfl
theorem mx_h_sub (f g : Nat → Int) (k : Nat) : mx_h (fun k => f k - g k) k = mx_h f k - mx_h g k := by
  cases k <;> rfl
theorem mx_h_mul (c : Int) (f : Nat → Int) (k : Nat) : mx_h (fun k => c * f k) k = c * mx_h f k := by
  cases k with
  | zero => exact (Int.mul_zero c).symm
  | succ k => rfl
theorem mx_h_sum (F : Nat → Nat → Int) (l : List Nat) (k : Nat) : mx_h (fun k => mx_s (fun q => F q k) l) k = mx_s (fun q => mx_h (F q) k) l := by
  cases k with
  | zero => exact (mx_s_zero l).symm
  | succ k => rfl
section ES
variable (w : Nat → Int) (e : Nat → Nat → Int)
def mx_g : Nat → List Nat → Nat → Int
  | 0, _, k => if k = 0 then 1 else 0
  | _ + 1, [], k => if k = 0 then 1 else 0
  | n + 1, p :: l, k => mx_g n l k + w p * mx_h (mx_g n l) k - mx_s (fun q => e p q * mx_h (mx_h (mx_g n (l.erase q))) k) l
def mx_e (l : List Nat) (k : Nat) : Int := mx_g w e l.length l k
theorem mx_g_fuel : ∀ (n m : Nat) (l : List Nat), l.length ≤ n → l.length ≤ m → ∀ k, mx_g w e n l k = mx_g w e m l k
  | 0, 0, _, _, _, _ => rfl
  | 0, m + 1, l, h, _, _ => by
    cases l with
    | nil => rfl
    | cons a t => exact absurd h (by simp)
  | n + 1, 0, l, _, h, _ => by
    cases l with
    | nil => rfl
    | cons a t => exact absurd h (by simp)
  | n + 1, m + 1, [], _, _, _ => rfl
  | n + 1, m + 1, p :: l, h1, h2, k => by
    have h1 : l.length ≤ n := Nat.le_of_succ_le_succ h1
    have h2 : l.length ≤ m := Nat.le_of_succ_le_succ h2
    show mx_g w e n l k + w p * mx_h (mx_g w e n l) k - mx_s (fun q => e p q * mx_h (mx_h (mx_g w e n (l.erase q))) k) l = mx_g w e m l k + w p * mx_h (mx_g w e m l) k - mx_s (fun q => e p q * mx_h (mx_h (mx_g w e m (l.erase q))) k) l
    rw [mx_g_fuel n m l h1 h2 k, mx_h_congr (mx_g_fuel n m l h1 h2) k, mx_s_congr (f := fun q => e p q * mx_h (mx_h (mx_g w e n (l.erase q))) k) (g := fun q => e p q * mx_h (mx_h (mx_g w e m (l.erase q))) k) (fun q _ => by
      rw [mx_h_congr (mx_h_congr (mx_g_fuel n m (l.erase q) (Nat.le_trans List.length_erase_le h1) (Nat.le_trans List.length_erase_le h2))) k])]
theorem mx_e_nil (k : Nat) : mx_e w e [] k = if k = 0 then 1 else 0 := rfl
theorem mx_e_cons (p : Nat) (l : List Nat) (k : Nat) : mx_e w e (p :: l) k = mx_e w e l k + w p * mx_h (mx_e w e l) k - mx_s (fun q => e p q * mx_h (mx_h (mx_e w e (l.erase q))) k) l := by
  show mx_g w e l.length l k + w p * mx_h (mx_g w e l.length l) k - mx_s (fun q => e p q * mx_h (mx_h (mx_g w e l.length (l.erase q))) k) l = _
  rw [mx_s_congr (f := fun q => e p q * mx_h (mx_h (mx_g w e l.length (l.erase q))) k) (g := fun q => e p q * mx_h (mx_h (mx_e w e (l.erase q))) k) (fun q _ => by
    rw [mx_h_congr (mx_h_congr (mx_g_fuel w e l.length (l.erase q).length (l.erase q) List.length_erase_le (Nat.le_refl _))) k]; rfl)]
  rfl
def mx_ed (x y : Nat) (l : List Nat) (k : Nat) : Int := mx_s (fun r => mx_s (fun s => if s = r then 0 else e x r * (e y s * mx_h (mx_h (mx_h (mx_h (mx_e w e ((l.erase r).erase s))))) k)) l) l
theorem mx_ed_comm (x y : Nat) (l : List Nat) (k : Nat) : mx_ed w e x y l k = mx_ed w e y x l k := by
  unfold mx_ed
  rw [mx_s_swap]
  refine mx_s_congr (fun s _ => mx_s_congr (fun r _ => ?_))
  by_cases h : s = r
  · rw [if_pos h, if_pos h.symm]
  · rw [if_neg h, if_neg (fun q => h q.symm), List.erase_comm, ← Int.mul_assoc, ← Int.mul_assoc, Int.mul_comm (e x r)]
def mx_e1 (x : Nat) (l : List Nat) (k : Nat) : Int := mx_s (fun q => e x q * mx_h (mx_h (mx_e w e (l.erase q))) k) l
theorem mx_e_two {x y : Nat} {l : List Nat} (hn : l.Nodup) (hx : x ∉ l) (k : Nat) : mx_e w e (y :: x :: l) k = mx_e w e l k + w x * mx_h (mx_e w e l) k - mx_e1 w e x l k + w y * mx_h (mx_e w e l) k + w y * w x * mx_h (mx_h (mx_e w e l)) k - w y * mx_h (mx_e1 w e x l) k - e y x * mx_h (mx_h (mx_e w e l)) k - mx_e1 w e y l k - w x * mx_h (mx_e1 w e y l) k + mx_ed w e y x l k := by
  have hc : ∀ k, mx_e w e (x :: l) k = mx_e w e l k + w x * mx_h (mx_e w e l) k - mx_e1 w e x l k := mx_e_cons w e x l
  rw [mx_e_cons, hc k]
  show _ - (e y x * mx_h (mx_h (mx_e w e ((x :: l).erase x))) k + mx_s (fun q => e y q * mx_h (mx_h (mx_e w e ((x :: l).erase q))) k) l) = _
  rw [List.erase_cons_head, mx_h_congr hc k, mx_h_sub, mx_h_add, mx_h_mul]
  have h1 : mx_s (fun q => e y q * mx_h (mx_h (mx_e w e ((x :: l).erase q))) k) l = mx_s (fun q => (e y q * mx_h (mx_h (mx_e w e (l.erase q))) k + w x * (e y q * mx_h (mx_h (mx_h (mx_e w e (l.erase q)))) k)) - mx_s (fun s => if s = q then 0 else e y q * (e x s * mx_h (mx_h (mx_h (mx_h (mx_e w e ((l.erase q).erase s))))) k)) l) l := by
    refine mx_s_congr (fun q hq => ?_)
    have hxq : ¬ x = q := fun h => hx (h ▸ hq)
    rw [List.erase_cons_tail (by simpa using hxq)]
    have hc2 : ∀ k, mx_e w e (x :: l.erase q) k = mx_e w e (l.erase q) k + w x * mx_h (mx_e w e (l.erase q)) k - mx_s (fun s => e x s * mx_h (mx_h (mx_e w e ((l.erase q).erase s))) k) (l.erase q) := mx_e_cons w e x (l.erase q)
    have hc3 : ∀ k, mx_h (mx_e w e (x :: l.erase q)) k = mx_h (mx_e w e (l.erase q)) k + w x * mx_h (mx_h (mx_e w e (l.erase q))) k - mx_s (fun s => e x s * mx_h (mx_h (mx_h (mx_e w e ((l.erase q).erase s)))) k) (l.erase q) := fun k => by
      rw [mx_h_congr hc2 k, mx_h_sub, mx_h_add, mx_h_mul, mx_h_sum]
      congr 1
      exact mx_s_congr (fun s _ => mx_h_mul _ _ k)
    rw [mx_h_congr hc3 k, mx_h_sub, mx_h_add, mx_h_mul, mx_h_sum, mx_s_erase _ hn hq, Int.mul_sub, Int.mul_add, ← mx_s_mul]
    congr 1
    · congr 1
      rw [← Int.mul_assoc, ← Int.mul_assoc, Int.mul_comm (e y q)]
    · refine mx_s_congr (fun s _ => ?_)
      by_cases h : s = q
      · rw [if_pos h, if_pos h, Int.mul_zero]
      · rw [if_neg h, if_neg h, mx_h_mul]
  have h2 : mx_s (fun q => e y q * mx_h (mx_h (mx_h (mx_e w e (l.erase q)))) k) l = mx_h (mx_e1 w e y l) k := by
    unfold mx_e1
    rw [mx_h_sum]
    exact mx_s_congr (fun q _ => (mx_h_mul _ _ k).symm)
  rw [h1, mx_s_sub, mx_s_add, mx_s_mul, h2, Int.mul_sub, Int.mul_add, ← Int.mul_assoc]
  show _ - (_ + (mx_e1 w e y l k + _ - mx_ed w e y x l k)) = _
  omega
theorem mx_e_perm (hs : ∀ a b, e a b = e b a) : ∀ (n : Nat) (l l' : List Nat), l.length ≤ n → l.Nodup → l.Perm l' → ∀ k, mx_e w e l k = mx_e w e l' k
  | 0, l, l', hl, _, hp, _ => by
    cases l with
    | nil => rw [hp.symm.eq_nil]
    | cons a t => exact absurd hl (by simp)
  | n + 1, l, l', hl, hn, hp, k => by
    induction hp with
    | nil => rfl
    | @cons x l1 l2 h12 _ =>
      have hl : l1.length ≤ n := Nat.le_of_succ_le_succ hl
      have hn := (List.nodup_cons.mp hn).2
      rw [mx_e_cons, mx_e_cons, mx_e_perm hs n l1 l2 hl hn h12 k, mx_h_congr (mx_e_perm hs n l1 l2 hl hn h12) k, mx_s_perm (f := fun q => e x q * mx_h (mx_h (mx_e w e (l2.erase q))) k) h12.symm]
      congr 1
      refine mx_s_congr (fun q _ => ?_)
      rw [mx_h_congr (mx_h_congr (mx_e_perm hs n (l1.erase q) (l2.erase q) (Nat.le_trans List.length_erase_le hl) (hn.erase q) (h12.erase q))) k]
    | swap x y l =>
      have h1 := List.nodup_cons.mp hn
      have h2 := List.nodup_cons.mp h1.2
      have hy : y ∉ l := fun h => h1.1 (List.mem_cons_of_mem _ h)
      rw [mx_e_two w e h2.2 h2.1, mx_e_two w e h2.2 hy, mx_ed_comm w e y x, hs y x, Int.mul_comm (w y) (w x)]
      omega
    | trans p1 p2 ih1 ih2 => exact (ih1 hl hn).trans (ih2 (by rw [← p1.length_eq]; exact hl) (p1.nodup_iff.mp hn))
theorem mx_e_at (hs : ∀ a b, e a b = e b a) {l : List Nat} {p : Nat} (hn : l.Nodup) (hp : p ∈ l) (k : Nat) : mx_e w e l k = mx_e w e (l.erase p) k + w p * mx_h (mx_e w e (l.erase p)) k - mx_s (fun q => e p q * mx_h (mx_h (mx_e w e ((l.erase p).erase q))) k) (l.erase p) := by
  rw [mx_e_perm w e hs l.length l (p :: l.erase p) (Nat.le_refl _) hn (List.perm_cons_erase hp), mx_e_cons]
end ES
