/-! INERTIA: the run counts what the sums of the minors tell -/
theorem rt_all {P : Nat → Rat → Prop} : ∀ n : Nat, (∀ k, k < n → ∃ N0 : Rat, ∀ N : Rat, N0 ≤ N → P k N) → ∃ N0 : Rat, ∀ N : Rat, N0 ≤ N → ∀ k, k < n → P k N
  | 0, _ => ⟨0, fun _ _ k hk => by omega⟩
  | n + 1, h => by
    obtain ⟨N1, h1⟩ := rt_all n (fun k hk => h k (by omega))
    obtain ⟨N2, h2⟩ := h n (by omega)
    obtain ⟨m, m1, m2⟩ := mx_max N1 N2
    refine ⟨m, fun N hN k hk => ?_⟩
    by_cases z : k = n
    · subst z; exact h2 N (by grind)
    · exact h1 N (by grind) k (by omega)
theorem rt_big (x : Rat) : ∃ N : Int, x ≤ (N : Rat) := ⟨x.ceil, Rat.le_ceil⟩
theorem mx_B_eq {f g : Int → Rat} {d : Nat} {N1 : Rat} (h : ∀ N : Int, N1 ≤ (N : Rat) → f N = g N) (hf : mx_B f d) : mx_B g d := by
  obtain ⟨K, N0, hK, hf⟩ := hf
  obtain ⟨m, m1, m2⟩ := mx_max N0 N1
  exact ⟨K, m, hK, fun N hN => by rw [← h N (by grind)]; exact hf N (by grind)⟩
theorem pq_ge {N : Rat} (hN : 1 ≤ N) : ∀ d, 1 ≤ pq N d
  | 0 => Rat.le_refl
  | d + 1 => by
    have h := pq_ge hN d
    have h2 := rt_sq hN
    have := rt_mm h (show (1 : Rat) ≤ N * N by grind) (by decide) (pq_nn N d)
    show 1 ≤ pq N d * (N * N)
    grind
theorem mx_B_lt {f : Int → Rat} {a b : Nat} (ha : mx_B f a) (hb : mx_B f b) (h : a < b) : False := by
  obtain ⟨K1, N1, p1, h1⟩ := ha
  obtain ⟨K2, N2, p2, h2⟩ := hb
  obtain ⟨m1, x1, x2⟩ := mx_max N1 N2
  obtain ⟨m2, x3, x4⟩ := mx_max m1 1
  obtain ⟨m, x5, x6⟩ := mx_max m2 (K2 * K1 + 1)
  obtain ⟨N, hN⟩ := rt_big m
  have hN1 : (1 : Rat) ≤ (N : Rat) := by grind
  obtain ⟨-, a2⟩ := h1 N (by grind)
  obtain ⟨b1, -⟩ := h2 N (by grind)
  have e1 := Rat.mul_le_mul_of_nonneg_left a2 (show 0 ≤ K2 by grind)
  have e2 : pq (N : Rat) b = pq (N : Rat) a * (pq (N : Rat) (b - a - 1) * ((N : Rat) * N)) := by
    rw [show b = a + (b - a - 1 + 1) by omega, pq_add, show a + (b - a - 1 + 1) - a - 1 = b - a - 1 by omega]; rfl
  have ga := pq_ge hN1 a
  have g1 := pq_ge hN1 (b - a - 1)
  have g2 := rt_sq hN1
  have e3 := rt_mm g1 g2 (by grind) (by grind)
  have e4 := Rat.mul_le_mul_of_nonneg_left e3 (show 0 ≤ pq (N : Rat) a by grind)
  have e5 : pq (N : Rat) a * (1 * (N : Rat)) ≤ K2 * (K1 * pq (N : Rat) a) := by grind
  have e6 := Rat.mul_le_mul_of_nonneg_left (show K2 * K1 + 1 ≤ (N : Rat) by grind) (show 0 ≤ pq (N : Rat) a by grind)
  grind
theorem mx_B_uniq {f : Int → Rat} {a b : Nat} (ha : mx_B f a) (hb : mx_B f b) : a = b := by
  rcases Nat.lt_trichotomy a b with z | z | z
  · exact (mx_B_lt ha hb z).elim
  · exact z
  · exact (mx_B_lt hb ha z).elim
theorem pq_int (N : Int) : ∀ d, pq (N : Rat) d = ((N ^ d : Int) : Rat) * ((N ^ d : Int) : Rat)
  | 0 => by rw [Int.pow_zero]; show (1 : Rat) = 1 * 1; grind
  | d + 1 => by
    show pq (N : Rat) d * ((N : Rat) * N) = _
    rw [pq_int N d, Int.pow_succ, Rat.intCast_mul]; grind
/-- what the sums shifted come to where all beyond the L-th are 0 -/
theorem iv_top {g : Nat → Int} {L : Nat} : ∀ (m k : Nat), k = L + m → (∀ j, L < j → j ≤ k → g j = 0) → ∀ r : Nat, ∃ c K : Int, 0 ≤ c ∧ 0 ≤ K ∧ (1 ≤ r ∨ m = 0 → 1 ≤ c) ∧ ∀ N : Int, 1 ≤ N → -(K * N ^ L) ≤ N * (mx_x 1 (mx_F g N) r k - c * (N ^ L * g L)) ∧ N * (mx_x 1 (mx_F g N) r k - c * (N ^ L * g L)) ≤ K * N ^ L
  | 0, k, e, h, r => by
    have e : k = L := e
    subst e
    cases k with
    | zero =>
      refine ⟨1, 0, by decide, by decide, fun _ => by decide, fun N hN => ?_⟩
      rw [mx_x_0, show mx_F g N 0 = N ^ 0 * g 0 from rfl, Int.one_mul, Int.sub_self, Int.mul_zero, Int.zero_mul]
      decide
    | succ k =>
      obtain ⟨K, hK, h1⟩ := mx_x_top g k r
      refine ⟨1, K, by decide, hK, fun _ => by decide, fun N hN => ?_⟩
      obtain ⟨a1, a2⟩ := h1 N hN
      rw [Int.one_mul]
      have e1 : K * N ^ (k + 1) = N * (K * N ^ k) := by rw [Int.pow_succ]; simp only [Int.mul_assoc, Int.mul_comm, Int.mul_left_comm]
      rw [e1, ← Int.mul_neg]
      exact ⟨Int.mul_le_mul_of_nonneg_left (by omega) (by omega), Int.mul_le_mul_of_nonneg_left (by omega) (by omega)⟩
  | m + 1, k, e, h, r => by
    obtain ⟨k, rfl⟩ : ∃ k', k = k' + 1 := ⟨L + m, by omega⟩
    induction r with
    | zero =>
      refine ⟨0, 0, by decide, by decide, fun z => by omega, fun N hN => ?_⟩
      rw [mx_x_z, show mx_F g N (k + 1) = N ^ (k + 1) * g (k + 1) from rfl, h (k + 1) (by omega) (Nat.le_refl _), Int.mul_zero, Int.zero_mul, Int.zero_mul, Int.sub_self, Int.mul_zero]
      decide
    | succ r ih =>
      obtain ⟨c1, K1, p1, q1, -, h1⟩ := ih
      obtain ⟨c2, K2, p2, q2, r2, h2⟩ := iv_top m k (by omega) (fun j j1 j2 => h j j1 (by omega)) (r + 1)
      have := r2 (Or.inl (by omega))
      refine ⟨c1 + c2, K1 + K2, by omega, by omega, fun _ => by omega, fun N hN => ?_⟩
      obtain ⟨a1, a2⟩ := h1 N hN
      obtain ⟨b1, b2⟩ := h2 N hN
      rw [mx_x_s, Int.one_mul]
      generalize mx_x 1 (mx_F g N) r (k + 1) = x at *
      generalize mx_x 1 (mx_F g N) (r + 1) k = y at *
      generalize N ^ L * g L = z at *
      generalize N ^ L = M at *
      have e1 : N * (x + y - (c1 + c2) * z) = N * (x - c1 * z) + N * (y - c2 * z) := by rw [← Int.mul_add, Int.add_mul]; congr 1; omega
      rw [e1, Int.add_mul]
      omega
theorem iv_top_pos {x M A K N : Int} (hN : 1 ≤ N) (hK : 0 ≤ K) (h2 : 2 * K ≤ N) (hM : 0 ≤ M) (hA : 1 ≤ A) (h : -(K * M) ≤ N * (x - M * A)) (h' : N * (x - M * A) ≤ K * M) : M ≤ 2 * x ∧ x ≤ M * (A + K) := by
  have e1 : N * (x - M * A) = N * x - N * M * A := by rw [Int.mul_sub, Int.mul_assoc]
  have nm : 0 ≤ N * M := Int.mul_nonneg (by omega) hM
  have g1 : N * M * 1 ≤ N * M * A := Int.mul_le_mul_of_nonneg_left hA nm
  have g2 : 2 * K * M ≤ N * M := Int.mul_le_mul_of_nonneg_right h2 hM
  have g3 : K * M ≤ N * (M * K) := by
    have : 1 * (M * K) ≤ N * (M * K) := Int.mul_le_mul_of_nonneg_right hN (Int.mul_nonneg hM hK)
    rw [Int.one_mul, Int.mul_comm M K] at this
    rw [Int.mul_comm M K]; exact this
  have e2 : 2 * K * M = 2 * (K * M) := Int.mul_assoc 2 K M
  constructor
  · apply Int.le_of_mul_le_mul_left (a := N) _ (by omega)
    have : N * (2 * x) = 2 * (N * x) := by simp only [Int.mul_left_comm]
    omega
  · apply Int.le_of_mul_le_mul_left (a := N) _ (by omega)
    have : N * (M * (A + K)) = N * M * A + N * (M * K) := by rw [Int.mul_add, Int.mul_add, Int.mul_assoc]
    omega
theorem iv_top_B {x : Int → Int} {A K : Int} {L : Nat} (hK : 0 ≤ K) (hA : A ≠ 0) (h : ∀ N : Int, 1 ≤ N → -(K * N ^ L) ≤ N * (x N - N ^ L * A) ∧ N * (x N - N ^ L * A) ≤ K * N ^ L) : mx_B (fun N => (x N : Rat)) L := by
  have half : (0 : Rat) < 2⁻¹ := Rat.inv_pos.mpr (by decide)
  have main : ∀ (y : Int → Int) (A : Int), 1 ≤ A → (∀ N, y N * y N = x N * x N) → (∀ N : Int, 1 ≤ N → -(K * N ^ L) ≤ N * (y N - N ^ L * A) ∧ N * (y N - N ^ L * A) ≤ K * N ^ L) → mx_B (fun N => (x N : Rat)) L := by
    intro y A hA hy h
    obtain ⟨m, m1, m2⟩ := mx_max 1 ((2 * K : Int) : Rat)
    have n3 := rt_sqnn ((A + K : Int) : Rat)
    refine ⟨(2⁻¹ : Rat)⁻¹ * (2⁻¹ : Rat)⁻¹ + ((A + K : Int) : Rat) * ((A + K : Int) : Rat), m, ?_, fun N hN => ?_⟩
    · have : (0 : Rat) < (2⁻¹ : Rat)⁻¹ * (2⁻¹ : Rat)⁻¹ := Rat.mul_pos (Rat.inv_pos.mpr half) (Rat.inv_pos.mpr half)
      grind
    · have hN1 : 1 ≤ N := by
        have : ((1 : Int) : Rat) ≤ (N : Rat) := by show (1 : Rat) ≤ N; grind
        exact Rat.intCast_le_intCast.mp this
      have hN2 : 2 * K ≤ N := Rat.intCast_le_intCast.mp (show ((2 * K : Int) : Rat) ≤ (N : Rat) by grind)
      have pw := mx_pw hN1 L
      obtain ⟨a1, a2⟩ := h N hN1
      obtain ⟨b1, b2⟩ := iv_top_pos hN1 hK hN2 (by omega) hA a1 a2
      have c1 : ((N ^ L : Int) : Rat) ≤ ((2 * y N : Int) : Rat) := Rat.intCast_le_intCast.mpr b1
      have c2 : ((y N : Int) : Rat) ≤ ((N ^ L * (A + K) : Int) : Rat) := Rat.intCast_le_intCast.mpr b2
      have c3 : ((0 : Int) : Rat) ≤ ((N ^ L : Int) : Rat) := Rat.intCast_le_intCast.mpr (by omega)
      rw [Rat.intCast_mul] at c1 c2
      have two : ((2 : Int) : Rat) = 2 := rfl
      rw [two] at c1
      obtain ⟨r1, r2⟩ := mx_lin (M := ((N ^ L : Int) : Rat)) (c := 2⁻¹) (C := ((A + K : Int) : Rat)) (g := ((y N : Int) : Rat)) half c3 (by grind) c2
      have e : ((y N : Int) : Rat) * ((y N : Int) : Rat) = ((x N : Int) : Rat) * ((x N : Int) : Rat) := by
        rw [← Rat.intCast_mul, hy N, Rat.intCast_mul]
      rw [e] at r1 r2
      show pq (N : Rat) L ≤ _ ∧ _ ≤ _ * pq (N : Rat) L
      rw [pq_int]
      exact ⟨by grind, r2⟩
  rcases Int.lt_or_gt_of_ne hA with z | z
  · refine main (fun N => -(x N)) (-A) (by omega) (fun N => by rw [Int.neg_mul_neg]) (fun N hN => ?_)
    obtain ⟨a1, a2⟩ := h N hN
    have e : N * (-(x N) - N ^ L * -A) = -(N * (x N - N ^ L * A)) := by
      rw [← Int.mul_neg]; congr 1; rw [Int.mul_neg]; omega
    rw [e]
    omega
  · exact main x A (by omega) (fun N => rfl) h
section
variable {w : Nat → Int} {e : Nat → Nat → Int} {o : Nat → Nat} {par : Nat → Option Nat} {sz : Nat}
def iv_0 (w : Nat → Int) : ivS := (w, fun _ => 1, fun _ => false, 0, 0, 0)
theorem iv_ok_at (o : Nat → Nat) {sz : Nat} {w : Nat → Int} {e : Nat → Nat → Int} (h : mx_ok w e (sg o 0 sz)) : ∀ i, i ≤ sz → mx_ok w e (sg o i sz)
  | 0, _ => h
  | i + 1, hi => by
    have := iv_ok_at o h i (by omega)
    rw [sg_cons o (by omega : i < sz)] at this
    exact this.2
theorem iv_mx_ne (o : Nat → Nat) {sz : Nat} {w : Nat → Int} {e : Nat → Nat → Int} (h : mx_ok w e (sg o 0 sz)) {i : Nat} (hi : i ≤ sz) : mx_p w e (sg o i sz) ≠ 0 := by
  have := mx_ok_self w e (iv_ok_at o h i hi) (sg o i sz).length (Nat.le_refl _)
  rw [mx_e_top w e _ _ (Nat.le_refl _)] at this
  exact this
/-- at a large scale: what stands from i on, by its fraction -/
theorem iv_quot (O : iv_O e o par sz) {N : Int} (hN : 1 ≤ N) (ok : mx_ok (mx_wN w N) (mx_eN e N) (sg o 0 sz)) {i : Nat} (hi : i < sz) : (mx_p (mx_wN w N) (mx_eN e N) (sg o i sz) : Rat) = iv_g o par (N : Rat) sz (fun p => (N : Rat) * (w p : Rat) - 1) (o i) * (mx_p (mx_wN w N) (mx_eN e N) (sg o (i + 1) sz) : Rat) := by
  have eQ : ∀ i, iv_Q e o (mx_wN w N, fun _ => N) i sz = mx_p (mx_wN w N) (mx_eN e N) (sg o i sz) := fun i => by
    unfold iv_Q
    refine mx_p_congr (fun _ _ => rfl) (fun a _ b _ => ?_)
    show e a b * (N * N) = N * N * e a b
    exact Int.mul_comm _ _
  have hN0 : N ≠ 0 := by omega
  have hNr : (N : Rat) ≠ 0 := fun y => hN0 (by exact_mod_cast y)
  obtain ⟨a1, a2, a3, a4⟩ := iv_ratio O hN0 sz (mx_wN w N, fun _ => N) (fun p => (N : Rat) * (w p : Rat) - 1) (Nat.le_refl _) (fun i hi => by rw [eQ]; exact iv_mx_ne o ok hi) (fun _ _ => hN0) (fun i _ => by
    show (N : Rat) * (w (o i) : Rat) - 1 = (N : Rat) * (((N * w (o i) + -1 : Int) : Rat) / (N : Rat))
    rw [Rat.intCast_add, Rat.intCast_mul]
    show (N : Rat) * (w (o i) : Rat) - 1 = (N : Rat) * (((N : Rat) * (w (o i) : Rat) + -1) / (N : Rat))
    grind) i hi
  rw [eQ, eQ] at a1
  rw [a4]
  generalize (iv_f o par sz (mx_wN w N, fun _ => N)).1 (o i) = t at *
  generalize (iv_f o par sz (mx_wN w N, fun _ => N)).2 (o i) = r at *
  generalize mx_p (mx_wN w N) (mx_eN e N) (sg o i sz) = X at *
  generalize mx_p (mx_wN w N) (mx_eN e N) (sg o (i + 1) sz) = Y at *
  have a1 : X * r = t * Y * N := a1
  have b1 : (X : Rat) * (r : Rat) = (t : Rat) * (Y : Rat) * (N : Rat) := by
    rw [← Rat.intCast_mul, ← Rat.intCast_mul, ← Rat.intCast_mul, a1]
  have b2 : (r : Rat) ≠ 0 := fun y => a3 (by exact_mod_cast y)
  grind
theorem iv_0_ty (F : Rat → Nat → Rat) (hF : F = fun N p => N * (w p : Rat) - 1) (x : Nat) : iv_ty (iv_0 w) F x := by
  subst hF
  have A : mx_A (fun N => N * (w x : Rat) - 1) ((w x : Rat) / ((1 : Int) : Rat)) := by
    have : (w x : Rat) / ((1 : Int) : Rat) = (w x : Rat) := by
      show (w x : Rat) / 1 = _
      grind
    rw [this]
    exact ⟨1, 0, by decide, fun N _ => ⟨Rat.le_refl, Rat.le_refl⟩⟩
  exact ⟨(by show (1 : Int) ≠ 0; decide), mx_A_U A, (fun y => (by cases y)), fun _ => A⟩
/-- the run's counts -/
theorem iv_main (O : iv_O e o par sz) (hu : ∀ a b, 0 ≤ e a b) {L : Nat} (hL : L ≤ sz) (hL0 : mx_e w e (sg o 0 sz) L ≠ 0) (hL1 : ∀ j, L < j → j ≤ sz → mx_e w e (sg o 0 sz) j = 0) :
    (iv_r o par sz (iv_0 w)).2.2.2.1 = (mx_t (mx_al (mx_e w e (sg o 0 sz))) sz).1 ∧ L + (iv_r o par sz (iv_0 w)).2.2.2.2.2 = sz ∧ (iv_r o par sz (iv_0 w)).2.2.2.1 + (iv_r o par sz (iv_0 w)).2.2.2.2.1 + (iv_r o par sz (iv_0 w)).2.2.2.2.2 = sz := by
  obtain ⟨pos, dg, h1, h2, h3, h4⟩ := iv_run O sz (iv_0 w) (fun N p => N * (w p : Rat) - 1) (Nat.le_refl _) (fun i _ => iv_0_ty _ rfl (o i))
  have z0 : iv_pd o (iv_0 w) sz = 0 := by
    unfold iv_pd
    have e0 : js (fun i => if (iv_0 w).2.2.1 (o i) = true then 1 else 0) sz = js (fun _ => 0) sz := js_congr (fun k _ => rfl)
    rw [e0, js_0]
  rw [z0] at h3 h4
  have h2 : ((iv_r o par sz (iv_0 w)).2.2.2.1 : Int) = 0 + js (fun i => if pos i = true then 1 else 0) sz := h2
  have h3 : js (fun i => (dg i : Int)) sz + (iv_r o par sz (iv_0 w)).2.2.2.2.2 = sz + 0 + 0 := h3
  have h4 : ((iv_r o par sz (iv_0 w)).2.2.2.1 : Int) + (iv_r o par sz (iv_0 w)).2.2.2.2.1 + (iv_r o par sz (iv_0 w)).2.2.2.2.2 = sz + 0 + 0 + 0 + 0 := h4
  have len : (sg o 0 sz).length = sz := by rw [sg_len]; omega
  have nd : (sg o 0 sz).Nodup := sg_nodup O.2.1
  obtain ⟨N1, c1⟩ := mx_count w e O.1 hu nd
  rw [len] at c1
  obtain ⟨N2, c2⟩ := rt_all (P := fun i N => (0 < iv_g o par N sz (fun p => N * (w p : Rat) - 1) (o i) ↔ pos i = true)) sz (fun i hi => (h1 i hi).2)
  obtain ⟨m1, x1, x2⟩ := mx_max (N1 : Rat) N2
  obtain ⟨m, x3, x4⟩ := mx_max m1 1
  have big : ∀ N : Int, m ≤ (N : Rat) → N1 ≤ N ∧ 1 ≤ N := fun N hN => ⟨Rat.intCast_le_intCast.mp (by grind), Rat.intCast_le_intCast.mp (show ((1 : Int) : Rat) ≤ (N : Rat) by show (1 : Rat) ≤ N; grind)⟩
  have quot : ∀ N : Int, m ≤ (N : Rat) → ∀ i, i < sz → (mx_p (mx_wN w N) (mx_eN e N) (sg o i sz) : Rat) = iv_g o par (N : Rat) sz (fun p => (N : Rat) * (w p : Rat) - 1) (o i) * (mx_p (mx_wN w N) (mx_eN e N) (sg o (i + 1) sz) : Rat) := fun N hN i hi => iv_quot O (big N hN).2 (c1 N (big N hN).1).1 hi
  refine ⟨?_, ?_, by omega⟩
  · -- above
    obtain ⟨N, hN⟩ := rt_big m
    obtain ⟨ok, ec⟩ := c1 N (big N hN).1
    have cnt : ∀ k i, i + k = sz → (mx_c (mx_wN w N) (mx_eN e N) (sg o i sz) : Int) + js (fun i => if pos i = true then 1 else 0) i = js (fun i => if pos i = true then 1 else 0) sz := by
      intro k
      induction k with
      | zero => intro i hi; obtain rfl : i = sz := by omega
                rw [sg_self]; show ((0 : Nat) : Int) + _ = _; omega
      | succ k ih =>
        intro i hi
        have := ih (i + 1) (by omega)
        rw [sg_cons o (by omega : i < sz)]
        show ((mx_c (mx_wN w N) (mx_eN e N) (sg o (i + 1) sz) + (if 0 < mx_p (mx_wN w N) (mx_eN e N) (o i :: sg o (i + 1) sz) * mx_p (mx_wN w N) (mx_eN e N) (sg o (i + 1) sz) then 1 else 0) : Nat) : Int) + _ = _
        rw [← sg_cons o (by omega : i < sz)]
        have ne := iv_mx_ne o ok (show i + 1 ≤ sz by omega)
        have q := quot N hN i (by omega)
        have p := c2 (N : Rat) (by grind) i (by omega)
        have iff : (0 < mx_p (mx_wN w N) (mx_eN e N) (sg o i sz) * mx_p (mx_wN w N) (mx_eN e N) (sg o (i + 1) sz)) ↔ pos i = true := by
          rw [← p, ← Rat.intCast_pos, Rat.intCast_mul, q]
          have ne' : (mx_p (mx_wN w N) (mx_eN e N) (sg o (i + 1) sz) : Rat) ≠ 0 := fun y => ne (by exact_mod_cast y)
          generalize (mx_p (mx_wN w N) (mx_eN e N) (sg o (i + 1) sz) : Rat) = Y at *
          generalize iv_g o par (N : Rat) sz _ (o i) = X at *
          have hp : 0 < Y * Y := by
            rcases rt_ne ne' with y | y
            · have := Rat.mul_pos (show 0 < -Y by grind) (show 0 < -Y by grind)
              grind
            · exact Rat.mul_pos y y
          have e1 : X * Y * Y = X * (Y * Y) := by grind
          rw [e1]
          constructor
          · intro z
            rcases Rat.le_total (a := X) (b := 0) with y | y
            · have := Rat.mul_le_mul_of_nonneg_right y (show 0 ≤ Y * Y by grind)
              grind
            · rcases Rat.le_iff_lt_or_eq.mp y with v | v
              · exact v
              · rw [← v] at z; grind
          · intro z; exact Rat.mul_pos z hp
        have js1 : js (fun i => if pos i = true then (1 : Int) else 0) (i + 1) = js (fun i => if pos i = true then (1 : Int) else 0) i + (if pos i = true then 1 else 0) := rfl
        rw [js1] at this
        by_cases v : pos i = true
        · rw [if_pos (iff.mpr v)]; rw [if_pos v] at this; omega
        · rw [if_neg (fun y => v (iff.mp y))]; rw [if_neg v] at this; omega
    have := cnt sz 0 (by omega)
    have j0 : js (fun i => if pos i = true then (1 : Int) else 0) 0 = 0 := rfl
    rw [j0] at this
    rw [ec]
    omega
  · -- noughts
    have deg : ∀ k i, i + k = sz → ∃ D : Nat, (D : Int) + js (fun i => (dg i : Int)) i = js (fun i => (dg i : Int)) sz ∧ mx_B (fun N => (mx_p (mx_wN w N) (mx_eN e N) (sg o i sz) : Rat)) D := by
      intro k
      induction k with
      | zero =>
        intro i hi
        obtain rfl : i = sz := by omega
        refine ⟨0, by show (0 : Int) + _ = _; omega, ?_⟩
        rw [sg_self]
        exact mx_B_1
      | succ k ih =>
        intro i hi
        obtain ⟨D, d1, d2⟩ := ih (i + 1) (by omega)
        refine ⟨dg i + D, ?_, ?_⟩
        · have js1 : js (fun i => (dg i : Int)) (i + 1) = js (fun i => (dg i : Int)) i + (dg i : Int) := rfl
          rw [js1] at d1
          omega
        · exact mx_B_eq (N1 := m) (fun N hN => (quot N hN i (by omega)).symm) (mx_B_mul (h1 i (by omega)).1 d2)
    obtain ⟨D, d1, d2⟩ := deg sz 0 (by omega)
    have j0 : js (fun i => (dg i : Int)) 0 = 0 := rfl
    rw [j0] at d1
    obtain ⟨c, K, k1, k2, k3, k4⟩ := iv_top (g := mx_al (mx_e w e (sg o 0 sz))) (L := L) (sz - L) sz (by omega) (fun j j1 j2 => by unfold mx_al; rw [hL1 j j1 j2, Int.mul_zero]) 1
    have k3 := k3 (Or.inl (by omega))
    have ne : c * mx_al (mx_e w e (sg o 0 sz)) L ≠ 0 := by
      refine Int.mul_ne_zero (by omega) ?_
      unfold mx_al
      refine Int.mul_ne_zero (fun y => ?_) hL0
      have := mx_sq L
      rw [y] at this
      exact absurd this (by decide)
    have B := iv_top_B (x := fun N => mx_x 1 (mx_F (mx_al (mx_e w e (sg o 0 sz))) N) 1 sz) k2 ne (fun N hN => by
      have := k4 N hN
      rw [show N ^ L * (c * mx_al (mx_e w e (sg o 0 sz)) L) = c * (N ^ L * mx_al (mx_e w e (sg o 0 sz)) L) from Int.mul_left_comm _ _ _]
      exact this)
    have B2 : mx_B (fun N => (mx_p (mx_wN w N) (mx_eN e N) (sg o 0 sz) : Rat)) L := by
      obtain ⟨K, N0, b1, b2⟩ := B
      refine ⟨K, N0, b1, fun N hN => ?_⟩
      have := b2 N hN
      have e1 := mx_e_N w e N (sg o 0 sz) 1 sz (by rw [len]; omega)
      have e2 : mx_e (mx_wN w N) (mx_eN e N) (sg o 0 sz) sz = mx_p (mx_wN w N) (mx_eN e N) (sg o 0 sz) := by
        have := mx_e_top (mx_wN w N) (mx_eN e N) _ (sg o 0 sz) (Nat.le_refl _)
        rw [len] at this; exact this
      have e3 : mx_x 1 (mx_F (mx_al (mx_e w e (sg o 0 sz))) N) 1 sz * mx_x 1 (mx_F (mx_al (mx_e w e (sg o 0 sz))) N) 1 sz = mx_p (mx_wN w N) (mx_eN e N) (sg o 0 sz) * mx_p (mx_wN w N) (mx_eN e N) (sg o 0 sz) := by
        rw [← e1, ← e2]
        unfold mx_al
        have := mx_sq sz
        generalize (-1 : Int) ^ sz = u at *
        generalize mx_e (mx_wN w N) (mx_eN e N) (sg o 0 sz) sz = v
        have : u * v * (u * v) = u * u * (v * v) := by simp only [Int.mul_assoc, Int.mul_left_comm]
        grind
      have e4 : ((mx_x 1 (mx_F (mx_al (mx_e w e (sg o 0 sz))) N) 1 sz : Int) : Rat) * ((mx_x 1 (mx_F (mx_al (mx_e w e (sg o 0 sz))) N) 1 sz : Int) : Rat) = (mx_p (mx_wN w N) (mx_eN e N) (sg o 0 sz) : Rat) * (mx_p (mx_wN w N) (mx_eN e N) (sg o 0 sz) : Rat) := by
        rw [← Rat.intCast_mul, ← Rat.intCast_mul, e3]
      dsimp only at this ⊢
      rw [← e4]
      exact this
    have := mx_B_uniq d2 B2
    omega
end
