/-! Minors of a forest's table by matchings: mx_p of a list of vertices -/
def mx_s (f : Nat → Int) : List Nat → Int
  | [] => 0
  | a :: l => f a + mx_s f l
theorem mx_s_congr {f g : Nat → Int} : ∀ {l : List Nat}, (∀ a, a ∈ l → f a = g a) → mx_s f l = mx_s g l
  | [], _ => rfl
  | a :: l, h => by
    show f a + mx_s f l = g a + mx_s g l
    rw [h a List.mem_cons_self, mx_s_congr (fun b hb => h b (List.mem_cons_of_mem _ hb))]
theorem mx_s_perm {f : Nat → Int} {l l' : List Nat} (h : l.Perm l') : mx_s f l = mx_s f l' := by
  induction h with
  | nil => rfl
  | cons x _ ih =>
    show f x + _ = f x + _
    rw [ih]
  | swap x y l =>
    show f y + (f x + mx_s f l) = f x + (f y + mx_s f l)
    omega
  | trans _ _ ih1 ih2 => exact ih1.trans ih2
theorem mx_s_zero : ∀ (l : List Nat), mx_s (fun _ => 0) l = 0
  | [] => rfl
  | a :: l => by
    show (0 : Int) + mx_s (fun _ => 0) l = 0
    rw [mx_s_zero l]
    rfl
theorem mx_s_add (f g : Nat → Int) : ∀ (l : List Nat), mx_s (fun a => f a + g a) l = mx_s f l + mx_s g l
  | [] => rfl
  | a :: l => by
    show f a + g a + mx_s (fun a => f a + g a) l = f a + mx_s f l + (g a + mx_s g l)
    rw [mx_s_add f g l]
    omega
theorem mx_s_sub (f g : Nat → Int) : ∀ (l : List Nat), mx_s (fun a => f a - g a) l = mx_s f l - mx_s g l
  | [] => rfl
  | a :: l => by
    show f a - g a + mx_s (fun a => f a - g a) l = f a + mx_s f l - (g a + mx_s g l)
    rw [mx_s_sub f g l]
    omega
theorem mx_s_mul (c : Int) (f : Nat → Int) : ∀ (l : List Nat), mx_s (fun a => c * f a) l = c * mx_s f l
  | [] => (Int.mul_zero c).symm
  | a :: l => by
    show c * f a + mx_s (fun a => c * f a) l = c * (f a + mx_s f l)
    rw [mx_s_mul c f l, Int.mul_add]
theorem mx_s_app (f : Nat → Int) : ∀ (l l' : List Nat), mx_s f (l ++ l') = mx_s f l + mx_s f l'
  | [], l' => (Int.zero_add _).symm
  | a :: l, l' => by
    show f a + mx_s f (l ++ l') = f a + mx_s f l + mx_s f l'
    rw [mx_s_app f l l']
    omega
theorem mx_s_swap (F : Nat → Nat → Int) (l' : List Nat) : ∀ (l : List Nat), mx_s (fun a => mx_s (fun b => F a b) l') l = mx_s (fun b => mx_s (fun a => F a b) l) l'
  | [] => (mx_s_zero l').symm
  | a :: l => by
    show mx_s (fun b => F a b) l' + mx_s (fun a => mx_s (fun b => F a b) l') l = mx_s (fun b => F a b + mx_s (fun a => F a b) l) l'
    rw [mx_s_add, mx_s_swap F l' l]
theorem mx_s_erase (f : Nat → Int) {r : Nat} : ∀ {l : List Nat}, l.Nodup → r ∈ l → mx_s f (l.erase r) = mx_s (fun s => if s = r then 0 else f s) l
  | [], _, h => by cases h
  | a :: l, hn, h => by
    rw [List.nodup_cons] at hn
    show mx_s f ((a :: l).erase r) = (if a = r then 0 else f a) + mx_s (fun s => if s = r then 0 else f s) l
    by_cases e : a = r
    · subst e
      rw [List.erase_cons_head, if_pos rfl, Int.zero_add]
      exact mx_s_congr (fun b hb => (if_neg (c := b = a) (fun q => hn.1 (q ▸ hb))).symm)
    · have hr : r ∈ l := by
        rcases List.mem_cons.mp h with q | q
        · exact absurd q.symm e
        · exact q
      rw [List.erase_cons_tail (by simpa using e), if_neg e, ← mx_s_erase f hn.2 hr]
      rfl
section MP
variable (w : Nat → Int) (e : Nat → Nat → Int)
def mx_f : Nat → List Nat → Int
  | 0, _ => 1
  | _ + 1, [] => 1
  | n + 1, p :: l => w p * mx_f n l - mx_s (fun q => e p q * mx_f n (l.erase q)) l
def mx_p (l : List Nat) : Int := mx_f w e l.length l
theorem mx_f_fuel : ∀ (n m : Nat) (l : List Nat), l.length ≤ n → l.length ≤ m → mx_f w e n l = mx_f w e m l
  | 0, 0, _, _, _ => rfl
  | 0, m + 1, l, h, _ => by
    cases l with
    | nil => rfl
    | cons a t => exact absurd h (by simp)
  | n + 1, 0, l, _, h => by
    cases l with
    | nil => rfl
    | cons a t => exact absurd h (by simp)
  | n + 1, m + 1, [], _, _ => rfl
  | n + 1, m + 1, p :: l, h1, h2 => by
    have h1 : l.length ≤ n := Nat.le_of_succ_le_succ h1
    have h2 : l.length ≤ m := Nat.le_of_succ_le_succ h2
    show w p * mx_f w e n l - mx_s (fun q => e p q * mx_f w e n (l.erase q)) l = w p * mx_f w e m l - mx_s (fun q => e p q * mx_f w e m (l.erase q)) l
    rw [mx_f_fuel n m l h1 h2, mx_s_congr (f := fun q => e p q * mx_f w e n (l.erase q)) (g := fun q => e p q * mx_f w e m (l.erase q)) (fun q _ => by
      rw [mx_f_fuel n m (l.erase q) (Nat.le_trans List.length_erase_le h1) (Nat.le_trans List.length_erase_le h2)])]
theorem mx_p_nil : mx_p w e [] = 1 := rfl
theorem mx_p_cons (p : Nat) (l : List Nat) : mx_p w e (p :: l) = w p * mx_p w e l - mx_s (fun q => e p q * mx_p w e (l.erase q)) l := by
  show w p * mx_f w e l.length l - mx_s (fun q => e p q * mx_f w e l.length (l.erase q)) l = _
  rw [mx_s_congr (f := fun q => e p q * mx_f w e l.length (l.erase q)) (g := fun q => e p q * mx_p w e (l.erase q)) (fun q _ => by
    rw [mx_f_fuel w e l.length (l.erase q).length (l.erase q) List.length_erase_le (Nat.le_refl _)]; rfl)]
  rfl
/-- both of two vertices are matched, apart -/
def mx_d (x y : Nat) (l : List Nat) : Int := mx_s (fun r => mx_s (fun s => if s = r then 0 else e x r * (e y s * mx_p w e ((l.erase r).erase s))) l) l
theorem mx_d_comm (x y : Nat) (l : List Nat) : mx_d w e x y l = mx_d w e y x l := by
  unfold mx_d
  rw [mx_s_swap]
  refine mx_s_congr (fun s _ => mx_s_congr (fun r _ => ?_))
  by_cases h : s = r
  · rw [if_pos h, if_pos h.symm]
  · rw [if_neg h, if_neg (fun q => h q.symm), List.erase_comm, ← Int.mul_assoc, ← Int.mul_assoc, Int.mul_comm (e x r)]
theorem mx_p_two {x y : Nat} {l : List Nat} (hn : l.Nodup) (hx : x ∉ l) : mx_p w e (y :: x :: l) = w y * w x * mx_p w e l - w y * mx_s (fun s => e x s * mx_p w e (l.erase s)) l - e y x * mx_p w e l - w x * mx_s (fun s => e y s * mx_p w e (l.erase s)) l + mx_d w e y x l := by
  rw [mx_p_cons, mx_p_cons]
  show _ - (e y x * mx_p w e ((x :: l).erase x) + mx_s (fun q => e y q * mx_p w e ((x :: l).erase q)) l) = _
  rw [List.erase_cons_head]
  have h1 : mx_s (fun q => e y q * mx_p w e ((x :: l).erase q)) l = mx_s (fun q => w x * (e y q * mx_p w e (l.erase q)) - mx_s (fun s => if s = q then 0 else e y q * (e x s * mx_p w e ((l.erase q).erase s))) l) l := by
    refine mx_s_congr (fun q hq => ?_)
    have hxq : ¬ x = q := fun h => hx (h ▸ hq)
    rw [List.erase_cons_tail (by simpa using hxq), mx_p_cons, mx_s_erase _ hn hq, Int.mul_sub, ← mx_s_mul]
    congr 1
    · rw [← Int.mul_assoc, ← Int.mul_assoc, Int.mul_comm (e y q)]
    · refine mx_s_congr (fun s _ => ?_)
      by_cases h : s = q
      · rw [if_pos h, if_pos h, Int.mul_zero]
      · rw [if_neg h, if_neg h]
  rw [h1, mx_s_sub, mx_s_mul, Int.mul_sub, ← Int.mul_assoc]
  show _ - (_ + (_ - mx_d w e y x l)) = _
  omega
theorem mx_p_perm (hs : ∀ a b, e a b = e b a) : ∀ (n : Nat) (l l' : List Nat), l.length ≤ n → l.Nodup → l.Perm l' → mx_p w e l = mx_p w e l'
  | 0, l, l', hl, _, hp => by
    cases l with
    | nil => rw [hp.symm.eq_nil]
    | cons a t => exact absurd hl (by simp)
  | n + 1, l, l', hl, hn, hp => by
    induction hp with
    | nil => rfl
    | @cons x l1 l2 h12 _ =>
      have hl : l1.length ≤ n := Nat.le_of_succ_le_succ hl
      have hn := (List.nodup_cons.mp hn).2
      rw [mx_p_cons, mx_p_cons, mx_p_perm hs n l1 l2 hl hn h12, mx_s_perm (f := fun q => e x q * mx_p w e (l2.erase q)) h12.symm]
      congr 1
      refine mx_s_congr (fun q _ => ?_)
      rw [mx_p_perm hs n (l1.erase q) (l2.erase q) (Nat.le_trans List.length_erase_le hl) (hn.erase q) (h12.erase q)]
    | swap x y l =>
      have h1 := List.nodup_cons.mp hn
      have h2 := List.nodup_cons.mp h1.2
      have hy : y ∉ l := fun h => h1.1 (List.mem_cons_of_mem _ h)
      rw [mx_p_two w e h2.2 h2.1, mx_p_two w e h2.2 hy, mx_d_comm w e y x, hs y x, Int.mul_comm (w y) (w x)]
      omega
    | trans p1 p2 ih1 ih2 => exact (ih1 hl hn).trans (ih2 (by rw [← p1.length_eq]; exact hl) (p1.nodup_iff.mp hn))
/-- the recursion at any vertex -/
theorem mx_p_at (hs : ∀ a b, e a b = e b a) {l : List Nat} {p : Nat} (hn : l.Nodup) (hp : p ∈ l) : mx_p w e l = w p * mx_p w e (l.erase p) - mx_s (fun q => e p q * mx_p w e ((l.erase p).erase q)) (l.erase p) := by
  rw [mx_p_perm w e hs l.length l (p :: l.erase p) (Nat.le_refl _) hn (List.perm_cons_erase hp), mx_p_cons]
/-- no edge between: the product -/
theorem mx_p_app : ∀ (n : Nat) (l l' : List Nat), l.length ≤ n → (∀ a, a ∈ l → ∀ b, b ∈ l' → e a b = 0) → mx_p w e (l ++ l') = mx_p w e l * mx_p w e l'
  | _, [], l', _, _ => by rw [mx_p_nil, Int.one_mul]; rfl
  | 0, a :: l, _, h, _ => absurd h (by simp)
  | n + 1, a :: l, l', h, he => by
    have h : l.length ≤ n := Nat.le_of_succ_le_succ h
    have he' : ∀ x, x ∈ l → ∀ b, b ∈ l' → e x b = 0 := fun x hx b hb => he x (List.mem_cons_of_mem _ hx) b hb
    show mx_p w e (a :: (l ++ l')) = _
    rw [mx_p_cons, mx_p_cons, mx_s_app, mx_p_app n l l' h he', Int.sub_mul, Int.mul_assoc]
    have h1 : mx_s (fun q => e a q * mx_p w e ((l ++ l').erase q)) l' = 0 := by
      rw [mx_s_congr (g := fun _ => 0) (fun q hq => by rw [he a List.mem_cons_self q hq]; exact Int.zero_mul _), mx_s_zero]
    have h2 : mx_s (fun q => e a q * mx_p w e ((l ++ l').erase q)) l = mx_s (fun q => e a q * mx_p w e (l.erase q)) l * mx_p w e l' := by
      rw [Int.mul_comm, ← mx_s_mul]
      refine mx_s_congr (fun q hq => ?_)
      rw [List.erase_append_left _ hq, mx_p_app n (l.erase q) l' (Nat.le_trans List.length_erase_le h) (fun x hx b hb => he' x (List.mem_of_mem_erase hx) b hb), ← Int.mul_assoc, Int.mul_comm]
    rw [h1, h2, Int.add_zero]
end MP
