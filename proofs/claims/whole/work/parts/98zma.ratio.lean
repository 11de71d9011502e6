/-! INERTIA: the pivots are the quotients of the minors of what stands behind -/
def iv_O (e : Nat → Nat → Int) (o : Nat → Nat) (par : Nat → Option Nat) (sz : Nat) : Prop :=
  (∀ a b, e a b = e b a) ∧ (∀ i j, i < sz → j < sz → o i = o j → i = j) ∧ (∀ i, i < sz → ∀ q, par (o i) = some q → ∃ j, j < i ∧ o j = q ∧ e (o i) q = 1) ∧ (∀ i j, j < i → i < sz → par (o i) ≠ some (o j) → e (o i) (o j) = 0)
/-- the places from i up to before k -/
def sg (o : Nat → Nat) (i k : Nat) : List Nat := (List.range (k - i)).map fun j => o (i + j)
section
variable {e : Nat → Nat → Int} {o : Nat → Nat} {par : Nat → Option Nat} {sz : Nat}
theorem sg_self (o : Nat → Nat) (i : Nat) : sg o i i = [] := by unfold sg; rw [Nat.sub_self]; rfl
theorem sg_last (o : Nat → Nat) {i k : Nat} (h : i ≤ k) : sg o i (k + 1) = sg o i k ++ [o k] := by
  unfold sg
  rw [show k + 1 - i = (k - i) + 1 by omega, List.range_succ, List.map_append]
  show _ ++ [o (i + (k - i))] = _
  rw [show i + (k - i) = k by omega]
theorem sg_mem {o : Nat → Nat} {i k x : Nat} : x ∈ sg o i k ↔ ∃ j, i ≤ j ∧ j < k ∧ o j = x := by
  unfold sg
  rw [List.mem_map]
  constructor
  · rintro ⟨j, h1, h2⟩
    have := List.mem_range.mp h1
    exact ⟨i + j, by omega, by omega, h2⟩
  · rintro ⟨j, h1, h2, h3⟩
    exact ⟨j - i, List.mem_range.mpr (by omega), by rw [show i + (j - i) = j by omega]; exact h3⟩
theorem sg_cons (o : Nat → Nat) {i : Nat} : ∀ {k : Nat}, i < k → sg o i k = o i :: sg o (i + 1) k
  | 0, h => by omega
  | k + 1, h => by
    by_cases z : i = k
    · subst z
      rw [sg_last o (Nat.le_refl i), sg_self, sg_self]; rfl
    · rw [sg_last o (by omega : i ≤ k), sg_last o (by omega : i + 1 ≤ k), sg_cons o (by omega : i < k)]; rfl
theorem sg_nodup {o : Nat → Nat} {i : Nat} : ∀ {k : Nat}, (∀ a b, a < k → b < k → o a = o b → a = b) → (sg o i k).Nodup
  | 0, _ => by unfold sg; rw [Nat.zero_sub]; exact List.nodup_nil
  | k + 1, h => by
    by_cases z : i ≤ k
    · rw [sg_last o z, List.nodup_append]
      refine ⟨sg_nodup (fun a b ha hb => h a b (by omega) (by omega)), by simp, fun a ha b hb => ?_⟩
      obtain ⟨j, j1, j2, rfl⟩ := sg_mem.mp ha
      have : b = o k := by simpa using hb
      subst this
      intro z
      have := h j k (by omega) (by omega) z
      omega
    · unfold sg
      rw [show k + 1 - i = 0 by omega]
      exact List.nodup_nil
theorem sg_len (o : Nat → Nat) (i k : Nat) : (sg o i k).length = k - i := by unfold sg; simp
def iv_T (T R : Nat → Int) (p q : Nat) : Nat → Int := fun x => if x = q then T q * T p - R q * R p else T x
def iv_R (T R : Nat → Int) (p q : Nat) : Nat → Int := fun x => if x = q then R q * T p else R x
/-- one vertex folded into its holder -/
def iv_n (par : Nat → Option Nat) (s : (Nat → Int) × (Nat → Int)) (p : Nat) : (Nat → Int) × (Nat → Int) :=
  match par p with
  | none => s
  | some q => (iv_T s.1 s.2 p q, iv_R s.1 s.2 p q)
/-- the minor of the places from i up to before n, by what is reckoned -/
def iv_Q (e : Nat → Nat → Int) (o : Nat → Nat) (s : (Nat → Int) × (Nat → Int)) (i n : Nat) : Int := mx_p s.1 (eR e s.2) (sg o i n)
theorem eR_sym (hs : ∀ a b, e a b = e b a) (R : Nat → Int) (a b : Nat) : eR e R a b = eR e R b a := by unfold eR; rw [hs a b, Int.mul_comm (R a)]
theorem iv_Q_self (s : (Nat → Int) × (Nat → Int)) (n : Nat) : iv_Q e o s n n = 1 := by unfold iv_Q; rw [sg_self]; rfl
theorem iv_Q_one (s : (Nat → Int) × (Nat → Int)) (n : Nat) : iv_Q e o s n (n + 1) = s.1 (o n) := by
  unfold iv_Q
  rw [sg_last o (Nat.le_refl n), sg_self, List.nil_append, mx_p_cons]
  show s.1 (o n) * 1 - 0 = _
  omega
/-- what is not held from i on: a factor -/
theorem iv_root (O : iv_O e o par sz) {i n : Nat} (hi : i ≤ n) (hn : n < sz) (s : (Nat → Int) × (Nat → Int)) (h : ∀ j, i ≤ j → j < n → par (o n) ≠ some (o j)) : iv_Q e o s i (n + 1) = s.1 (o n) * iv_Q e o (iv_n par s (o n)) i n := by
  obtain ⟨a1, a2, a3, a4⟩ := O
  unfold iv_Q
  have nd : (sg o i n ++ [o n]).Nodup := by rw [← sg_last o hi]; exact sg_nodup (fun a b ha hb => a2 a b (by omega) (by omega))
  rw [sg_last o hi, mx_root (eR_sym a1 s.2) nd (fun q hq => by
    obtain ⟨j, j1, j2, rfl⟩ := sg_mem.mp hq
    unfold eR
    rw [a4 n j j2 hn (h j j1 j2), Int.zero_mul])]
  congr 1
  cases hp : par (o n) with
  | none => unfold iv_n; rw [hp]
  | some q =>
    have ne : ∀ a ∈ sg o i n, ¬ a = q := fun a ha z => by
      obtain ⟨j, j1, j2, rfl⟩ := sg_mem.mp ha
      exact h j j1 j2 (by rw [hp, z])
    unfold iv_n
    rw [hp]
    refine (mx_p_congr (fun a ha => ?_) (fun a ha b hb => ?_)).symm
    · show iv_T s.1 s.2 (o n) q a = _
      unfold iv_T; rw [if_neg (ne a ha)]
    · show eR e (iv_R s.1 s.2 (o n) q) a b = _
      unfold eR iv_R; rw [if_neg (ne a ha), if_neg (ne b hb)]
/-- what is held from i on: folded in -/
theorem iv_leaf (O : iv_O e o par sz) {i j n : Nat} (hi : i ≤ j) (hj : j < n) (hn : n < sz) (s : (Nat → Int) × (Nat → Int)) (h : par (o n) = some (o j)) : iv_Q e o s i (n + 1) = iv_Q e o (iv_n par s (o n)) i n := by
  obtain ⟨a1, a2, a3, a4⟩ := O
  unfold iv_Q
  have nd : (sg o i n ++ [o n]).Nodup := by rw [← sg_last o (by omega : i ≤ n)]; exact sg_nodup (fun a b ha hb => a2 a b (by omega) (by omega))
  obtain ⟨j', -, -, e1⟩ := a3 n hn (o j) h
  rw [sg_last o (by omega : i ≤ n), mx_leaf a1 s.1 s.2 nd (sg_mem.mpr ⟨j, hi, hj, rfl⟩) e1 (fun q hq hne => by
    obtain ⟨k, k1, k2, rfl⟩ := sg_mem.mp hq
    exact a4 n k k2 hn (by rw [h]; intro z; injection z with z; exact hne z.symm))]
  unfold iv_n
  rw [h]
  rfl
theorem iv_R_at (O : iv_O e o par sz) {i n : Nat} (hi : i < n) (hn : n < sz) (s : (Nat → Int) × (Nat → Int)) : (iv_n par s (o n)).2 (o i) = if par (o n) = some (o i) then s.2 (o i) * s.1 (o n) else s.2 (o i) := by
  unfold iv_n
  cases hp : par (o n) with
  | none => rw [if_neg (by simp)]
  | some q =>
    show iv_R s.1 s.2 (o n) q (o i) = _
    unfold iv_R
    by_cases z : o i = q
    · subst z; rw [if_pos rfl, if_pos rfl]
    · rw [if_neg z, if_neg (fun y => z (by injection y with y; exact y.symm))]
/-- one step leaves the quotient as it is -/
theorem iv_cross (O : iv_O e o par sz) {i n : Nat} (hi : i < n) (hn : n < sz) (s : (Nat → Int) × (Nat → Int)) : iv_Q e o s i (n + 1) * iv_Q e o (iv_n par s (o n)) (i + 1) n * (iv_n par s (o n)).2 (o i) = iv_Q e o (iv_n par s (o n)) i n * iv_Q e o s (i + 1) (n + 1) * s.2 (o i) := by
  rw [iv_R_at O hi hn]
  by_cases c : ∃ j, i ≤ j ∧ j < n ∧ par (o n) = some (o j)
  · obtain ⟨j, j1, j2, j3⟩ := c
    by_cases z : j = i
    · subst z
      rw [if_pos j3, iv_leaf O (Nat.le_refl j) j2 hn s j3, iv_root O (by omega : j + 1 ≤ n) hn s (fun k k1 k2 y => by
        rw [j3] at y; injection y with y
        have := O.2.1 j k (by omega) (by omega) y; omega)]
      generalize iv_Q e o _ j n = X
      generalize iv_Q e o _ (j + 1) n = Y
      generalize s.1 (o n) = t
      generalize s.2 (o j) = r
      simp only [Int.mul_assoc, Int.mul_comm, Int.mul_left_comm]
    · rw [if_neg (fun y => z (by rw [j3] at y; injection y with y; exact O.2.1 j i (by omega) (by omega) y)), iv_leaf O j1 j2 hn s j3, iv_leaf O (by omega : i + 1 ≤ j) j2 hn s j3]
  · rw [if_neg (fun y => c ⟨i, Nat.le_refl i, hi, y⟩), iv_root O (by omega : i ≤ n) hn s (fun j j1 j2 y => c ⟨j, j1, j2, y⟩), iv_root O (by omega : i + 1 ≤ n) hn s (fun j j1 j2 y => c ⟨j, by omega, j2, y⟩)]
    generalize iv_Q e o _ i n = X
    generalize iv_Q e o _ (i + 1) n = Y
    generalize s.1 (o n) = t
    generalize s.2 (o i) = r
    simp only [Int.mul_assoc, Int.mul_comm, Int.mul_left_comm]
/-- all folded, from the last on -/
def iv_f (o : Nat → Nat) (par : Nat → Option Nat) : Nat → (Nat → Int) × (Nat → Int) → (Nat → Int) × (Nat → Int)
  | 0, s => s
  | n + 1, s => iv_f o par n (iv_n par s (o n))
theorem iv_n_ne (O : iv_O e o par sz) {i n : Nat} (hi : n ≤ i) (hs : i < sz) (s : (Nat → Int) × (Nat → Int)) : (iv_n par s (o n)).1 (o i) = s.1 (o i) ∧ (iv_n par s (o n)).2 (o i) = s.2 (o i) := by
  unfold iv_n
  cases hp : par (o n) with
  | none => exact ⟨rfl, rfl⟩
  | some q =>
    obtain ⟨j, j1, rfl, -⟩ := O.2.2.1 n (by omega) q hp
    have ne : ¬ o i = o j := fun z => by have := O.2.1 i j (by omega) (by omega) z; omega
    show iv_T s.1 s.2 (o n) (o j) (o i) = _ ∧ iv_R s.1 s.2 (o n) (o j) (o i) = _
    unfold iv_T iv_R
    rw [if_neg ne, if_neg ne]
    exact ⟨rfl, rfl⟩
theorem iv_keep (O : iv_O e o par sz) : ∀ (n : Nat) (s : (Nat → Int) × (Nat → Int)) {i : Nat}, n ≤ i → i < sz → (iv_f o par n s).1 (o i) = s.1 (o i) ∧ (iv_f o par n s).2 (o i) = s.2 (o i)
  | 0, s, i, _, _ => ⟨rfl, rfl⟩
  | n + 1, s, i, h1, h2 => by
    obtain ⟨b1, b2⟩ := iv_keep O n (iv_n par s (o n)) (i := i) (by omega) h2
    obtain ⟨c1, c2⟩ := iv_n_ne O (i := i) (n := n) (by omega) h2 s
    exact ⟨b1.trans c1, b2.trans c2⟩
/-- the fractions, by a scale -/
def iv_h (par : Nat → Option Nat) (N : Rat) (F : Nat → Rat) (p : Nat) : Nat → Rat :=
  match par p with
  | none => F
  | some q => fun x => if x = q then F q - N * N * (F p)⁻¹ else F x
def iv_g (o : Nat → Nat) (par : Nat → Option Nat) (N : Rat) : Nat → (Nat → Rat) → Nat → Rat
  | 0, F => F
  | n + 1, F => iv_g o par N n (iv_h par N F (o n))
theorem iv_h_ne (O : iv_O e o par sz) (N : Rat) {i n : Nat} (hi : n ≤ i) (hs : i < sz) (F : Nat → Rat) : iv_h par N F (o n) (o i) = F (o i) := by
  unfold iv_h
  cases hp : par (o n) with
  | none => rfl
  | some q =>
    obtain ⟨j, j1, rfl, -⟩ := O.2.2.1 n (by omega) q hp
    have ne : ¬ o i = o j := fun z => by have := O.2.1 i j (by omega) (by omega) z; omega
    exact if_neg ne
theorem iv_g_keep (O : iv_O e o par sz) (N : Rat) : ∀ (n : Nat) (F : Nat → Rat) {i : Nat}, n ≤ i → i < sz → iv_g o par N n F (o i) = F (o i)
  | 0, F, i, _, _ => rfl
  | n + 1, F, i, h1, h2 => (iv_g_keep O N n (iv_h par N F (o n)) (i := i) (by omega) h2).trans (iv_h_ne O N (by omega) h2 F)
theorem iv_fold_eq {N t r tc rc : Rat} (h0 : N ≠ 0) (h1 : r ≠ 0) (h2 : tc ≠ 0) (h3 : rc ≠ 0) : N * (t / r) - N * N * (N * (tc / rc))⁻¹ = N * ((t * tc - r * rc) / (r * tc)) := by
  grind
theorem iv_ratio (O : iv_O e o par sz) {N : Int} (hN : N ≠ 0) : ∀ (n : Nat) (s : (Nat → Int) × (Nat → Int)) (F : Nat → Rat), n ≤ sz → (∀ i, i ≤ n → iv_Q e o s i n ≠ 0) → (∀ i, i < n → s.2 (o i) ≠ 0) → (∀ i, i < n → F (o i) = (N : Rat) * ((s.1 (o i) : Rat) / (s.2 (o i) : Rat))) → ∀ i, i < n → iv_Q e o s i n * (iv_f o par n s).2 (o i) = (iv_f o par n s).1 (o i) * iv_Q e o s (i + 1) n * s.2 (o i) ∧ (iv_f o par n s).1 (o i) ≠ 0 ∧ (iv_f o par n s).2 (o i) ≠ 0 ∧ iv_g o par N n F (o i) = (N : Rat) * (((iv_f o par n s).1 (o i) : Rat) / ((iv_f o par n s).2 (o i) : Rat))
  | 0, s, F, _, _, _, _, i, hi => by omega
  | n + 1, s, F, hn, hQ, hR, hF, i, hi => by
    have t0 : s.1 (o n) ≠ 0 := by have := hQ n (by omega); rw [iv_Q_one] at this; exact this
    have r0 := hR n (by omega)
    have hQ' : ∀ i, i ≤ n → iv_Q e o (iv_n par s (o n)) i n ≠ 0 := fun i hi z => by
      have h1 := hQ i (by omega)
      by_cases c : ∃ j, i ≤ j ∧ j < n ∧ par (o n) = some (o j)
      · obtain ⟨j, j1, j2, j3⟩ := c
        rw [iv_leaf O j1 j2 (by omega) s j3] at h1
        exact h1 z
      · rw [iv_root O hi (by omega) s (fun j j1 j2 y => c ⟨j, j1, j2, y⟩), z, Int.mul_zero] at h1
        exact h1 rfl
    have hR' : ∀ i, i < n → (iv_n par s (o n)).2 (o i) ≠ 0 := fun i hi => by
      rw [iv_R_at O hi (by omega)]
      split
      · exact Int.mul_ne_zero (hR i (by omega)) t0
      · exact hR i (by omega)
    have hF' : ∀ i, i < n → iv_h par (N : Rat) F (o n) (o i) = (N : Rat) * (((iv_n par s (o n)).1 (o i) : Rat) / ((iv_n par s (o n)).2 (o i) : Rat)) := fun i hi => by
      unfold iv_h iv_n
      cases hp : par (o n) with
      | none => exact hF i (by omega)
      | some q =>
        show (if o i = q then F q - N * N * (F (o n))⁻¹ else F (o i)) = (N : Rat) * ((iv_T s.1 s.2 (o n) q (o i) : Rat) / (iv_R s.1 s.2 (o n) q (o i) : Rat))
        unfold iv_T iv_R
        by_cases z : o i = q
        · subst z
          rw [if_pos rfl, if_pos rfl, if_pos rfl, hF i (by omega), hF n (by omega)]
          have c1 : (N : Rat) ≠ 0 := fun y => hN (by exact_mod_cast y)
          have c2 : (s.2 (o i) : Rat) ≠ 0 := fun y => hR i (by omega) (by exact_mod_cast y)
          have c3 : (s.1 (o n) : Rat) ≠ 0 := fun y => t0 (by exact_mod_cast y)
          have c4 : (s.2 (o n) : Rat) ≠ 0 := fun y => r0 (by exact_mod_cast y)
          rw [iv_fold_eq c1 c2 c3 c4]
          push_cast
          rfl
        · rw [if_neg z, if_neg z, if_neg z]
          exact hF i (by omega)
    by_cases z : i = n
    · subst z
      show iv_Q e o s i (i + 1) * (iv_f o par i (iv_n par s (o i))).2 (o i) = (iv_f o par i (iv_n par s (o i))).1 (o i) * iv_Q e o s (i + 1) (i + 1) * s.2 (o i) ∧ (iv_f o par i (iv_n par s (o i))).1 (o i) ≠ 0 ∧ (iv_f o par i (iv_n par s (o i))).2 (o i) ≠ 0 ∧ iv_g o par N i (iv_h par N F (o i)) (o i) = (N : Rat) * (((iv_f o par i (iv_n par s (o i))).1 (o i) : Rat) / ((iv_f o par i (iv_n par s (o i))).2 (o i) : Rat))
      obtain ⟨b1, b2⟩ := iv_keep O i (iv_n par s (o i)) (i := i) (Nat.le_refl i) (by omega)
      obtain ⟨c1, c2⟩ := iv_n_ne O (i := i) (n := i) (Nat.le_refl i) (by omega) s
      rw [b1, b2, c1, c2, iv_g_keep O N i _ (Nat.le_refl i) (by omega), iv_h_ne O N (Nat.le_refl i) (by omega), iv_Q_one, iv_Q_self]
      exact ⟨by rw [Int.mul_one], t0, r0, hF i (by omega)⟩
    · have hi : i < n := by omega
      obtain ⟨d1, d2, d3, d4⟩ := iv_ratio O hN n (iv_n par s (o n)) (iv_h par N F (o n)) (by omega) hQ' hR' hF' i hi
      refine ⟨?_, d2, d3, d4⟩
      show iv_Q e o s i (n + 1) * (iv_f o par n (iv_n par s (o n))).2 (o i) = (iv_f o par n (iv_n par s (o n))).1 (o i) * iv_Q e o s (i + 1) (n + 1) * s.2 (o i)
      have x := iv_cross O hi (by omega) s
      have n1 := hQ' (i + 1) (by omega)
      have n2 := hR' i hi
      revert d1 x n1 n2
      generalize iv_Q e o s i (n + 1) = A
      generalize iv_Q e o s (i + 1) (n + 1) = B
      generalize iv_Q e o (iv_n par s (o n)) i n = A'
      generalize iv_Q e o (iv_n par s (o n)) (i + 1) n = B'
      generalize (iv_n par s (o n)).2 (o i) = r'
      generalize (iv_f o par n (iv_n par s (o n))).2 (o i) = s2
      generalize (iv_f o par n (iv_n par s (o n))).1 (o i) = s1
      generalize s.2 (o i) = r
      intro d1 x n1 n2
      apply Int.eq_of_mul_eq_mul_right (Int.mul_ne_zero n1 n2)
      have e1 : A * s2 * (B' * r') = s2 * (A * B' * r') := by simp only [Int.mul_assoc, Int.mul_comm, Int.mul_left_comm]
      have e2 : s2 * (A' * B * r) = A' * s2 * (B * r) := by simp only [Int.mul_assoc, Int.mul_comm, Int.mul_left_comm]
      rw [e1, x, e2, d1]
      simp only [Int.mul_assoc, Int.mul_comm, Int.mul_left_comm]
end
