/-! All roots are real, without reals: Newton's and the interlacing differences are never below 0 -/
theorem mx_s_nn {f : Nat → Int} : ∀ {l : List Nat}, (∀ a, a ∈ l → 0 ≤ f a) → 0 ≤ mx_s f l
  | [], _ => Int.le_refl 0
  | a :: l, h => Int.add_nonneg (h a List.mem_cons_self) (mx_s_nn (fun b hb => h b (List.mem_cons_of_mem _ hb)))
section RL
variable (w : Nat → Int) (e : Nat → Nat → Int)
theorem mx_e_big : ∀ (n : Nat) (l : List Nat), l.length ≤ n → ∀ k, l.length < k → mx_e w e l k = 0
  | n, [], _, k, hk => by
    have hk : 0 < k := hk
    rw [mx_e_nil, if_neg (Nat.ne_of_gt hk)]
  | 0, p :: l, h, _, _ => absurd h (by simp)
  | n + 1, p :: l, h, k, hk => by
    have h : l.length ≤ n := Nat.le_of_succ_le_succ h
    have hk : l.length + 1 < k := hk
    have hh : ∀ (f : Nat → Int) (c j : Nat), (∀ i, c < i → f i = 0) → c + 1 < j → mx_h f j = 0 := fun f c j hf hj => by
      cases j with
      | zero => rfl
      | succ j => exact hf j (Nat.lt_of_succ_lt_succ hj)
    rw [mx_e_cons, mx_e_big n l h k (by omega), hh _ l.length k (mx_e_big n l h) hk, Int.mul_zero, mx_s_congr (g := fun _ => 0) (fun q hq => ?_), mx_s_zero]
    · rfl
    · have hl : (l.erase q).length = l.length - 1 := List.length_erase_of_mem hq
      have h1 : 0 < l.length := List.length_pos_of_mem hq
      rw [hh _ l.length k (fun i hi => hh _ (l.length - 1) i (fun j hj => mx_e_big n (l.erase q) (Nat.le_trans List.length_erase_le h) j (by rw [hl]; exact hj)) (by omega)) hk, Int.mul_zero]
/-- one left out, over all -/
theorem mx_e_sum : ∀ (n : Nat) (l : List Nat), l.length = n → l.Nodup → ∀ k, mx_s (fun p => mx_e w e (l.erase p) k) l = ((n : Int) - (k : Int)) * mx_e w e l k
  | _, [], h, _, k => by
    cases h
    rw [mx_e_nil]
    show (0 : Int) = _
    by_cases hk : k = 0
    · subst hk
      rfl
    · rw [if_neg hk, Int.mul_zero]
  | 0, p :: l, h, _, _ => absurd h (by simp)
  | n + 1, x :: t, h, hn, k => by
    have h : t.length = n := Nat.succ.inj h
    have hn2 := List.nodup_cons.mp hn
    have ih := mx_e_sum n t h hn2.2
    have ihs : ∀ k, mx_s (fun p => mx_h (mx_e w e (t.erase p)) k) t = ((n : Int) - (k : Int) + 1) * mx_h (mx_e w e t) k := fun k => by
      cases k with
      | zero => exact (mx_s_zero t).trans (Int.mul_zero _).symm
      | succ k =>
        refine (ih k).trans ?_
        show ((n : Int) - (k : Int)) * mx_e w e t k = ((n : Int) - ((k + 1 : Nat) : Int) + 1) * mx_e w e t k
        congr 1
        omega
    have ihq : ∀ q, q ∈ t → ∀ k, mx_s (fun p => mx_h (mx_h (mx_e w e ((t.erase q).erase p))) k) (t.erase q) = ((n : Int) - (k : Int) + 1) * mx_h (mx_h (mx_e w e (t.erase q))) k := fun q hq k => by
      have hl : (t.erase q).length = n - 1 := by rw [List.length_erase_of_mem hq, h]
      have h1 : 0 < n := by rw [← h]; exact List.length_pos_of_mem hq
      obtain ⟨m, rfl⟩ : ∃ m, n = m + 1 := ⟨n - 1, by omega⟩
      have ih := mx_e_sum m (t.erase q) hl (hn2.2.erase q)
      match k with
      | 0 => exact (mx_s_zero _).trans (Int.mul_zero _).symm
      | 1 => exact (mx_s_zero _).trans (Int.mul_zero _).symm
      | k + 2 =>
        refine (ih k).trans ?_
        show ((m : Int) - (k : Int)) * mx_e w e (t.erase q) k = (((m + 1 : Nat) : Int) - ((k + 2 : Nat) : Int) + 1) * mx_e w e (t.erase q) k
        congr 1
        omega
    show mx_e w e ((x :: t).erase x) k + mx_s (fun p => mx_e w e ((x :: t).erase p) k) t = _
    rw [List.erase_cons_head, mx_e_cons]
    have h1 : mx_s (fun p => mx_e w e ((x :: t).erase p) k) t = mx_s (fun p => (mx_e w e (t.erase p) k + w x * mx_h (mx_e w e (t.erase p)) k) - mx_s (fun q => if q = p then 0 else e x q * mx_h (mx_h (mx_e w e ((t.erase p).erase q))) k) t) t := by
      refine mx_s_congr (fun p hp => ?_)
      have hxp : ¬ x = p := fun q => hn2.1 (q ▸ hp)
      rw [List.erase_cons_tail (by simpa using hxp), mx_e_cons, mx_s_erase _ hn2.2 hp]
    have h2 : mx_s (fun p => mx_s (fun q => if q = p then 0 else e x q * mx_h (mx_h (mx_e w e ((t.erase p).erase q))) k) t) t = ((n : Int) - (k : Int) + 1) * mx_s (fun q => e x q * mx_h (mx_h (mx_e w e (t.erase q))) k) t := by
      rw [mx_s_swap, ← mx_s_mul]
      refine mx_s_congr (fun q hq => ?_)
      have h3 : mx_s (fun p => if q = p then 0 else e x q * mx_h (mx_h (mx_e w e ((t.erase p).erase q))) k) t = mx_s (fun p => e x q * mx_h (mx_h (mx_e w e ((t.erase q).erase p))) k) (t.erase q) := by
        rw [mx_s_erase _ hn2.2 hq]
        refine mx_s_congr (fun p _ => ?_)
        by_cases hpq : p = q
        · rw [if_pos hpq, if_pos hpq.symm]
        · rw [if_neg hpq, if_neg (fun z => hpq z.symm), List.erase_comm]
      rw [h3, mx_s_mul, ihq q hq k, ← Int.mul_assoc, ← Int.mul_assoc, Int.mul_comm (e x q)]
    rw [h1, mx_s_sub, mx_s_add, mx_s_mul, ih k, ihs k, h2]
    have hc : ((n + 1 : Nat) : Int) = (n : Int) + 1 := by omega
    rw [hc]
    generalize mx_s (fun q => e x q * mx_h (mx_h (mx_e w e (t.erase q))) k) t = S
    generalize mx_h (mx_e w e t) k = A
    generalize mx_e w e t k = B
    generalize (n : Int) = N
    generalize (k : Int) = K
    grind
def mx_N (l : List Nat) (k : Nat) : Int := mx_e w e l k * mx_e w e l k - mx_h (mx_e w e l) k * mx_e w e l (k + 1)
def mx_D (l : List Nat) (p k : Nat) : Int := mx_e w e l k * mx_e w e (l.erase p) k - mx_e w e l (k + 1) * mx_h (mx_e w e (l.erase p)) k
theorem mx_D_eq (hs : ∀ a b, e a b = e b a) {l : List Nat} {p : Nat} (hn : l.Nodup) (hp : p ∈ l) (k : Nat) : mx_D w e l p k = mx_N w e (l.erase p) k + mx_s (fun q => e p q * mx_h (mx_D w e (l.erase p) q) k) (l.erase p) := by
  unfold mx_D
  rw [mx_e_at w e hs hn hp k, mx_e_at w e hs hn hp (k + 1)]
  unfold mx_N
  show (_ + _ - _) * _ - (_ + w p * mx_e w e (l.erase p) k - mx_s (fun q => e p q * mx_h (mx_e w e ((l.erase p).erase q)) k) (l.erase p)) * _ = _
  generalize l.erase p = B
  have h1 : mx_s (fun q => e p q * mx_h (fun k => mx_e w e B k * mx_e w e (B.erase q) k - mx_e w e B (k + 1) * mx_h (mx_e w e (B.erase q)) k) k) B = mx_h (mx_e w e B) k * mx_s (fun q => e p q * mx_h (mx_e w e (B.erase q)) k) B - mx_e w e B k * mx_s (fun q => e p q * mx_h (mx_h (mx_e w e (B.erase q))) k) B := by
    rw [← mx_s_mul, ← mx_s_mul, ← mx_s_sub]
    refine mx_s_congr (fun q _ => ?_)
    cases k with
    | zero =>
      show e p q * 0 = 0 * _ - _ * (e p q * 0)
      rw [Int.mul_zero, Int.zero_mul, Int.mul_zero, Int.sub_zero]
    | succ k =>
      show e p q * (mx_e w e B k * mx_e w e (B.erase q) k - mx_e w e B (k + 1) * mx_h (mx_e w e (B.erase q)) k) = mx_e w e B k * (e p q * mx_e w e (B.erase q) k) - mx_e w e B (k + 1) * (e p q * mx_h (mx_e w e (B.erase q)) k)
      grind
  rw [h1]
  generalize mx_s (fun q => e p q * mx_h (mx_e w e (B.erase q)) k) B = S1
  generalize mx_s (fun q => e p q * mx_h (mx_h (mx_e w e (B.erase q))) k) B = S2
  generalize mx_h (mx_e w e B) k = b0
  generalize mx_e w e B (k + 1) = b2
  generalize mx_e w e B k = b1
  grind
theorem mx_real (hs : ∀ a b, e a b = e b a) (hu : ∀ a b, 0 ≤ e a b) : ∀ (n : Nat) (l : List Nat), l.length = n → l.Nodup → (∀ k, 0 ≤ mx_N w e l k) ∧ ∀ p, p ∈ l → ∀ k, 0 ≤ mx_D w e l p k
  | 0, l, h, _ => by
    cases l with
    | nil =>
      refine ⟨fun k => ?_, fun p hp => by cases hp⟩
      unfold mx_N
      cases k with
      | zero => exact (by decide : (0 : Int) ≤ 1 * 1 - 0 * 0)
      | succ k =>
        show (0 : Int) ≤ 0 * 0 - mx_e w e [] k * 0
        rw [Int.mul_zero, Int.mul_zero]
        decide
    | cons a t => exact absurd h (by simp)
  | n + 1, l, h, hn => by
    have hD : ∀ p, p ∈ l → ∀ k, 0 ≤ mx_D w e l p k := fun p hp k => by
      have hl : (l.erase p).length = n := by rw [List.length_erase_of_mem hp, h]; rfl
      obtain ⟨i1, i2⟩ := mx_real hs hu n (l.erase p) hl (hn.erase p)
      rw [mx_D_eq w e hs hn hp k]
      refine Int.add_nonneg (i1 k) (mx_s_nn (fun q hq => Int.mul_nonneg (hu p q) ?_))
      cases k with
      | zero => exact Int.le_refl 0
      | succ k => exact i2 q hq k
    refine ⟨fun k => ?_, hD⟩
    have hS : 0 ≤ mx_s (fun p => mx_D w e l p k) l := mx_s_nn (fun p hp => hD p hp k)
    have e1 : mx_s (fun p => mx_D w e l p k) l = mx_e w e l k * (((n + 1 : Nat) : Int) - (k : Int)) * mx_e w e l k - mx_e w e l (k + 1) * (((n + 1 : Nat) : Int) - (k : Int) + 1) * mx_h (mx_e w e l) k := by
      unfold mx_D
      have e2 : mx_s (fun p => mx_h (mx_e w e (l.erase p)) k) l = (((n + 1 : Nat) : Int) - (k : Int) + 1) * mx_h (mx_e w e l) k := by
        cases k with
        | zero => exact (mx_s_zero l).trans (Int.mul_zero _).symm
        | succ k =>
          refine (mx_e_sum w e (n + 1) l h hn k).trans ?_
          show _ * mx_e w e l k = _ * mx_e w e l k
          congr 1
          omega
      rw [mx_s_sub, mx_s_mul, mx_s_mul, mx_e_sum w e (n + 1) l h hn k, e2, Int.mul_assoc, Int.mul_assoc]
    rw [e1] at hS
    unfold mx_N
    by_cases hk : k < n + 1
    · have hm : (1 : Int) ≤ ((n + 1 : Nat) : Int) - (k : Int) := by omega
      generalize ((n + 1 : Nat) : Int) - (k : Int) = M at hS hm
      generalize mx_h (mx_e w e l) k = C at hS ⊢
      generalize mx_e w e l (k + 1) = B at hS ⊢
      generalize mx_e w e l k = A at hS ⊢
      have hA : 0 ≤ A * A := by
        rcases Int.le_total 0 A with q | q
        · exact Int.mul_nonneg q q
        · exact Int.mul_nonneg_of_nonpos_of_nonpos q q
      rcases Int.le_total (C * B) 0 with q | q
      · omega
      · have e3 : A * M * A - B * (M + 1) * C = M * (A * A - C * B) - C * B := by grind
        rw [e3] at hS
        have h4 : 0 ≤ M * (A * A - C * B) := by omega
        rcases Int.le_total 0 (A * A - C * B) with z | z
        · exact z
        · have h5 : M * (A * A - C * B) ≤ 1 * (A * A - C * B) := Int.mul_le_mul_of_nonpos_right hm z
          omega
    · have hB : mx_e w e l (k + 1) = 0 := mx_e_big w e (n + 1) l (Nat.le_of_eq h) (k + 1) (by omega)
      rw [hB, Int.mul_zero, Int.sub_zero]
      generalize mx_e w e l k = A
      rcases Int.le_total 0 A with q | q
      · exact Int.mul_nonneg q q
      · exact Int.mul_nonneg_of_nonpos_of_nonpos q q
end RL
