/-! LINK: what is a polynomial, and 0 for all large numbers, is 0 -/
def pv : List Int → Int → Int
  | [], _ => 0
  | c :: cs, N => c + N * pv cs N
def pad : List Int → List Int → List Int
  | [], b => b
  | a, [] => a
  | x :: a, y :: b => (x + y) :: pad a b
theorem pv_add (N : Int) : ∀ a b : List Int, pv (pad a b) N = pv a N + pv b N
  | [], b => by
    have : pad [] b = b := by cases b <;> rfl
    rw [this]
    show _ = 0 + _
    omega
  | x :: a, [] => by
    show pv (x :: a) N = pv (x :: a) N + 0
    omega
  | x :: a, y :: b => by
    show (x + y) + N * pv (pad a b) N = (x + N * pv a N) + (y + N * pv b N)
    rw [pv_add N a b, Int.mul_add]; omega
theorem pv_mul (k N : Int) : ∀ a : List Int, pv (a.map (fun x => k * x)) N = k * pv a N
  | [] => (Int.mul_zero k).symm
  | x :: a => by
    show k * x + N * pv (a.map (fun x => k * x)) N = k * (x + N * pv a N)
    rw [pv_mul k N a, Int.mul_add, Int.mul_left_comm]
theorem pv_0 : ∀ (cs : List Int) (N0 : Int), (∀ N, N0 ≤ N → pv cs N = 0) → ∀ N, pv cs N = 0
  | [], _, _, _ => rfl
  | c :: cs, N0, h, N => by
    have c0 : c = 0 := by
      apply Classical.byContradiction
      intro z
      obtain ⟨m, m1, m2, m3⟩ : ∃ m : Int, N0 ≤ m ∧ 1 ≤ m ∧ (c.natAbs : Int) < m := by
        by_cases y : N0 ≤ (c.natAbs : Int) + 1
        · exact ⟨(c.natAbs : Int) + 1, y, by omega, by omega⟩
        · exact ⟨N0, Int.le_refl _, by omega, by omega⟩
      have h1 : c + m * pv cs m = 0 := h m m1
      have d : m ∣ c := ⟨-(pv cs m), by rw [Int.mul_neg]; omega⟩
      have := Int.le_of_dvd (b := (c.natAbs : Int)) (by omega) (by rw [Int.dvd_natAbs]; exact d)
      omega
    have hh : ∀ N, N0 ≤ N → 1 ≤ N → pv cs N = 0 := fun N h1 h2 => by
      have h3 : c + N * pv cs N = 0 := h N h1
      rw [c0, Int.zero_add] at h3
      rcases Int.mul_eq_zero.mp h3 with z | z
      · omega
      · exact z
    have ih := pv_0 cs (if N0 ≤ 1 then 1 else N0) (fun N hN => hh N (by split at hN <;> omega) (by split at hN <;> omega)) N
    show c + N * pv cs N = 0
    rw [ih, c0, Int.mul_zero]; rfl
def PP (g : Int → Int) : Prop := ∃ cs, ∀ N, g N = pv cs N
theorem PP_c (c : Int) : PP (fun _ => c) := ⟨[c], fun N => by show c = c + N * 0; omega⟩
theorem PP_add {f g : Int → Int} (hf : PP f) (hg : PP g) : PP (fun N => f N + g N) := by
  obtain ⟨a, h1⟩ := hf
  obtain ⟨b, h2⟩ := hg
  exact ⟨pad a b, fun N => by rw [pv_add, ← h1, ← h2]⟩
theorem PP_mul {f : Int → Int} (k : Int) (hf : PP f) : PP (fun N => k * f N) := by
  obtain ⟨a, h1⟩ := hf
  exact ⟨a.map (fun x => k * x), fun N => by rw [pv_mul, ← h1]⟩
theorem PP_N {f : Int → Int} (hf : PP f) : PP (fun N => N * f N) := by
  obtain ⟨a, h1⟩ := hf
  exact ⟨0 :: a, fun N => by show N * f N = 0 + N * pv a N; rw [← h1]; omega⟩
theorem PP_eq {f g : Int → Int} (h : ∀ N, f N = g N) (hf : PP f) : PP g := by
  obtain ⟨a, h1⟩ := hf
  exact ⟨a, fun N => by rw [← h N, h1]⟩
theorem PP_lin {f : Int → Int} (a k : Int) (hf : PP f) : PP (fun N => (a + k * N) * f N) :=
  PP_eq (fun N => by rw [Int.add_mul, Int.mul_assoc]) (PP_add (PP_mul a hf) (PP_mul k (PP_N hf)))
theorem PP_sub {f g : Int → Int} (hf : PP f) (hg : PP g) : PP (fun N => f N - g N) :=
  PP_eq (fun N => by rw [Int.neg_mul, Int.one_mul]; omega) (PP_add hf (PP_mul (-1) hg))
theorem PP_s {F : Int → Nat → Int} : ∀ {l : List Nat}, (∀ q, q ∈ l → PP (fun N => F N q)) → PP (fun N => mx_s (F N) l)
  | [], _ => PP_c 0
  | a :: l, h => PP_add (h a List.mem_cons_self) (PP_s (fun q hq => h q (List.mem_cons_of_mem a hq)))
theorem PP_al {F : Int → Nat → Int} : ∀ {l : List Nat}, (∀ q, q ∈ l → PP (fun N => F N q)) → PP (fun N => al l (F N))
  | [], _ => PP_c 0
  | a :: l, h => PP_add (PP_mul _ (h a List.mem_cons_self)) (PP_al (fun q hq => h q (List.mem_cons_of_mem a hq)))
theorem PP_uniq {f g : Int → Int} (hf : PP f) (hg : PP g) {N0 : Int} (h : ∀ N, N0 ≤ N → f N = g N) (N : Int) : f N = g N := by
  obtain ⟨cs, hc⟩ := PP_sub hf hg
  have hc : ∀ N, f N - g N = pv cs N := hc
  have := pv_0 cs N0 (fun N hN => by rw [← hc N, h N hN]; omega) N
  rw [← hc N] at this
  omega
/-- the table with weights w -/
def wA (w : Nat → Int) (e : Nat → Nat → Int) (r q : Nat) : Int := if r = q then w r else e r q
abbrev wN (w : Nat → Int) (N : Int) : Nat → Int := fun p => w p + N
theorem PP_dt (w : Nat → Int) (e : Nat → Nat → Int) : ∀ (R C : List Nat), PP (fun N => dt (wA (wN w N) e) R C)
  | [], _ => PP_c 1
  | r :: R, C => PP_al (F := fun N q => wA (wN w N) e r q * dt (wA (wN w N) e) R (C.erase q)) (fun q _ => by
    have h := PP_dt w e R (C.erase q)
    by_cases z : r = q
    · refine PP_eq (fun N => ?_) (PP_lin (w r) 1 h)
      show (w r + 1 * N) * _ = wA (wN w N) e r q * _
      unfold wA
      rw [if_pos z, Int.one_mul]
    · refine PP_eq (fun N => ?_) (PP_mul (e r q) h)
      show e r q * _ = wA (wN w N) e r q * _
      unfold wA
      rw [if_neg z])
theorem PP_mf (w : Nat → Int) (e : Nat → Nat → Int) : ∀ (n : Nat) (l : List Nat), PP (fun N => mx_f (wN w N) e n l)
  | 0, _ => PP_c 1
  | _ + 1, [] => PP_c 1
  | n + 1, p :: l => by
    refine PP_eq (fun N => ?_) (PP_sub (PP_lin (w p) 1 (PP_mf w e n l)) (PP_s (F := fun N q => e p q * mx_f (wN w N) e n (l.erase q)) (l := l) (fun q _ => PP_mul (e p q) (PP_mf w e n (l.erase q)))))
    show (w p + 1 * N) * mx_f (wN w N) e n l - _ = (w p + N) * mx_f (wN w N) e n l - _
    rw [Int.one_mul]
/-- for large weights every minor is above 0 -/
theorem mx_lg {w : Nat → Int} {e : Nat → Nat → Int} (hs : ∀ a b, e a b = e b a) (he : ∀ a b, 0 ≤ e a b ∧ e a b ≤ 1) : ∀ (n : Nat) (l : List Nat), l.length = n → n ≤ 12 → l.Nodup → (∀ a, a ∈ l → 13 ≤ w a) → 0 < mx_p w e l ∧ ∀ q, q ∈ l → mx_p w e (l.erase q) ≤ mx_p w e l
  | 0, l, h, _, _, _ => by
    have : l = [] := List.length_eq_zero_iff.mp h
    subst this
    exact ⟨by rw [mx_p_nil]; decide, fun q hq => by cases hq⟩
  | n + 1, l, h, hn, nd, hw => by
    have key : ∀ q, q ∈ l → 0 < mx_p w e (l.erase q) ∧ mx_p w e (l.erase q) ≤ mx_p w e l := fun q hq => by
      have len : (l.erase q).length = n := by rw [List.length_erase_of_mem hq, h]; rfl
      obtain ⟨i1, i2⟩ := mx_lg hs he n (l.erase q) len (by omega) (nd.erase q) (fun a ha => hw a (List.mem_of_mem_erase ha))
      refine ⟨i1, ?_⟩
      rw [mx_p_at w e hs nd hq]
      have wq := hw q hq
      have sum : ∀ m : List Nat, (∀ s, s ∈ m → s ∈ l.erase q) → mx_s (fun s => e q s * mx_p w e ((l.erase q).erase s)) m ≤ m.length * mx_p w e (l.erase q) := fun m => by
        induction m with
        | nil => intro _; show (0 : Int) ≤ ((0 : Nat) : Int) * _; omega
        | cons s m ih =>
          intro hm
          have := ih (fun t ht => hm t (List.mem_cons_of_mem s ht))
          have a1 := i2 s (hm s List.mem_cons_self)
          have a2 := he q s
          show e q s * mx_p w e ((l.erase q).erase s) + mx_s _ m ≤ ((m.length + 1 : Nat) : Int) * _
          have b1 : e q s * mx_p w e ((l.erase q).erase s) ≤ mx_p w e (l.erase q) := by
            rcases (by omega : e q s = 0 ∨ e q s = 1) with z | z
            · rw [z, Int.zero_mul]; omega
            · rw [z, Int.one_mul]; exact a1
          rw [Int.natCast_add, Int.add_mul]
          show _ ≤ _ + (1 : Int) * _
          omega
      have s1 := sum (l.erase q) (fun s hs => hs)
      rw [len] at s1
      have m1 : (n : Int) * mx_p w e (l.erase q) ≤ 12 * mx_p w e (l.erase q) := Int.mul_le_mul_of_nonneg_right (by omega) (by omega)
      have m2 : 13 * mx_p w e (l.erase q) ≤ w q * mx_p w e (l.erase q) := Int.mul_le_mul_of_nonneg_right wq (by omega)
      omega
    refine ⟨?_, fun q hq => (key q hq).2⟩
    cases l with
    | nil => simp at h
    | cons a l =>
      have := key a List.mem_cons_self
      omega
