/-! WU: the number of the solutions and the least of them -/
/-- the row whose pivot a column is -/
def pvr (pv : Nat → Nat) : Nat → Nat → Option Nat
  | 0, _ => none
  | n + 1, j => if pv n = j then some n else pvr pv n j
theorem pvr_some {pv : Nat → Nat} {j i : Nat} : ∀ {n : Nat}, pvr pv n j = some i → i < n ∧ pv i = j
  | 0, h => by cases h
  | n + 1, h => by
    unfold pvr at h
    by_cases z : pv n = j
    · rw [if_pos z] at h; injection h with h; subst h; exact ⟨by omega, z⟩
    · rw [if_neg z] at h; obtain ⟨a, b⟩ := pvr_some h; exact ⟨by omega, b⟩
theorem pvr_none {pv : Nat → Nat} {j : Nat} : ∀ {n : Nat}, pvr pv n j = none → ∀ i, i < n → pv i ≠ j
  | 0, h, i, hi => by omega
  | n + 1, h, i, hi => by
    unfold pvr at h
    by_cases z : pv n = j
    · rw [if_pos z] at h; cases h
    · rw [if_neg z] at h
      by_cases w : i = n
      · subst w; exact z
      · exact pvr_none h i (by omega)
/-- is a column's bit as it must be -/
def okj (V : Int32) (R : Nat → Int32) (pv : Nat → Nat) (k : Nat) (x : Int32) (j : Nat) : Bool := if bt V j = true then (match pvr pv k j with
  | some i => !eqv (R i) x
  | none => true) else !bt x j
def oka (V : Int32) (R : Nat → Int32) (pv : Nat → Nat) (k : Nat) (x : Int32) : Nat → Bool
  | 0 => true
  | m + 1 => okj V R pv k x m && oka V R pv k x m
def frn (V : Int32) (pv : Nat → Nat) (k : Nat) : Nat → Nat
  | 0 => 0
  | m + 1 => frn V pv k m + (if bt V m = true ∧ pvr pv k m = none then 1 else 0)
def cnt (P : Nat → Bool) : Nat → Nat → Nat
  | _, 0 => 0
  | a, n + 1 => (if P a = true then 1 else 0) + cnt P (a + 1) n
theorem cnt_add (P : Nat → Bool) : ∀ n a m, cnt P a (n + m) = cnt P a n + cnt P (a + n) m
  | 0, a, m => by rw [Nat.zero_add]; show _ = 0 + _; rw [Nat.zero_add]; rfl
  | n + 1, a, m => by
    rw [show n + 1 + m = (n + m) + 1 by omega]
    show _ + cnt P (a + 1) (n + m) = _ + cnt P (a + 1) n + _
    rw [cnt_add P n (a + 1) m, show a + 1 + n = a + (n + 1) by omega]
    omega
theorem cnt_congr {P Q : Nat → Bool} : ∀ {n a : Nat}, (∀ x, a ≤ x → x < a + n → P x = Q x) → cnt P a n = cnt Q a n
  | 0, a, h => rfl
  | n + 1, a, h => by
    show _ + cnt P (a + 1) n = _ + cnt Q (a + 1) n
    rw [h a (by omega) (by omega), cnt_congr fun x h1 h2 => h x (by omega) (by omega)]
theorem cnt_0 : ∀ n a, cnt (fun _ => false) a n = 0
  | 0, a => rfl
  | n + 1, a => by
    show _ + cnt _ (a + 1) n = 0
    rw [cnt_0 n (a + 1)]; rfl
theorem eqv_flip {r S S' : Int32} {m : Nat} (hm : m < 12) (h1 : bt r m = true) (h2 : bt S' m = !bt S m) (h : ∀ j, j < 12 → j ≠ m → bt r j = true → bt S j = bt S' j) : eqv r S' = !eqv r S := by
  unfold eqv
  have e : xr (fun j => bt S' j && bt r j) 12 = xr (fun j => (bt S j && bt r j) ^^ (decide (j = m) && true)) 12 := xr_congr fun j hj => by
    by_cases z : j = m
    · subst z; rw [h1, h2]; cases bt S j <;> simp
    · rw [decide_eq_false z]
      cases w : bt r j
      · simp
      · rw [h j hj z w]; simp
  rw [e, xr_add, xr_delta (fun _ => true) hm]
  cases xr (fun j => bt S j && bt r j) 12 <;> cases bt r 12 <;> rfl
section
variable {V : Int32} {R R0 : Nat → Int32} {pv : Nat → Nat} {k : Nat}
/-- bits from m on are those of q -/
theorem tb_hi {m q y j : Nat} (hy : y < 2 ^ m) (hj : m ≤ j) : (2 ^ m * q + y).testBit j = q.testBit (j - m) := by
  rw [Nat.testBit_two_pow_mul_add _ hy, if_neg (by omega)]
theorem tb_lt {m q y : Nat} (hm : m ≤ 12) (hq : q < 2 ^ (12 - m)) (hy : y < 2 ^ m) : 2 ^ m * q + y < 4096 := by
  have h1 : 2 ^ m * (q + 1) ≤ 2 ^ m * 2 ^ (12 - m) := Nat.mul_le_mul_left _ hq
  rw [← Nat.pow_add, show m + (12 - m) = 12 by omega] at h1
  have h2 : 2 ^ m * (q + 1) = 2 ^ m * q + 2 ^ m := Nat.mul_succ ..
  have : (2 : Nat) ^ 12 = 4096 := rfl
  omega
theorem cnt_sol (hpv : ∀ i, i < k → pv i < 12 ∧ bt (R i) (pv i) = true ∧ ∀ j, j < pv i → bt (R i) j = false) : ∀ (m q : Nat), m ≤ 12 → q < 2 ^ (12 - m) → cnt (fun x => oka V R pv k (Int32.ofNat x) m) (2 ^ m * q) (2 ^ m) = 2 ^ frn V pv k m
  | 0, q, hm, hq => rfl
  | m + 1, q, hm, hq => by
    have p1 : (2 : Nat) ^ (m + 1) = 2 ^ m + 2 ^ m := by rw [Nat.pow_succ]; omega
    have p2 : (2 : Nat) ^ (m + 1) * q = 2 ^ m * (2 * q) := by rw [Nat.pow_succ, Nat.mul_assoc]
    have hq2 : 2 * q + 1 < 2 ^ (12 - m) := by
      rw [show 12 - m = (12 - (m + 1)) + 1 by omega, Nat.pow_succ]; omega
    have i1 := cnt_sol hpv m (2 * q) (by omega) (by omega)
    have i2 := cnt_sol hpv m (2 * q + 1) (by omega) hq2
    have pos : 0 < (2 : Nat) ^ m := Nat.pow_pos (by decide)
    -- the bits of a number of a half
    have bx : ∀ q', q' < 2 ^ (12 - m) → ∀ x, 2 ^ m * q' ≤ x → x < 2 ^ m * q' + 2 ^ m → ∀ j, m ≤ j → bt (Int32.ofNat x) j = q'.testBit (j - m) := fun q' hq' x h1 h2 j hj => by
      have hx := tb_lt (m := m) (q := q') (y := x - 2 ^ m * q') (by omega) hq' (by omega)
      rw [show 2 ^ m * q' + (x - 2 ^ m * q') = x by omega] at hx
      rw [bt_ofNat hx]
      have := tb_hi (m := m) (q := q') (y := x - 2 ^ m * q') (j := j) (by omega) hj
      rw [show 2 ^ m * q' + (x - 2 ^ m * q') = x by omega] at this
      exact this
    -- in a half the column's bit is as at its first number
    have half : ∀ q', q' < 2 ^ (12 - m) → cnt (fun x => oka V R pv k (Int32.ofNat x) (m + 1)) (2 ^ m * q') (2 ^ m) = if okj V R pv k (Int32.ofNat (2 ^ m * q')) m = true then cnt (fun x => oka V R pv k (Int32.ofNat x) m) (2 ^ m * q') (2 ^ m) else 0 := fun q' hq' => by
      have c : ∀ x, 2 ^ m * q' ≤ x → x < 2 ^ m * q' + 2 ^ m → okj V R pv k (Int32.ofNat x) m = okj V R pv k (Int32.ofNat (2 ^ m * q')) m := fun x h1 h2 => by
        have b := fun j hj => (bx q' hq' x h1 h2 j hj).trans (bx q' hq' (2 ^ m * q') (Nat.le_refl _) (by omega) j hj).symm
        unfold okj
        split
        · cases e : pvr pv k m with
          | none => rfl
          | some i =>
            obtain ⟨ik, ei⟩ := pvr_some e
            obtain ⟨z1, z2, z3⟩ := hpv i ik
            dsimp only
            rw [eqv_cong fun j hj hb => b j (by
              rcases Nat.lt_or_ge j m with w | w
              · rw [z3 j (by omega)] at hb; cases hb
              · exact w)]
        · rw [b m (Nat.le_refl _)]
      by_cases z : okj V R pv k (Int32.ofNat (2 ^ m * q')) m = true
      · rw [if_pos z]
        exact cnt_congr fun x h1 h2 => by
          show (okj V R pv k (Int32.ofNat x) m && _) = _
          rw [c x h1 h2, z]; rfl
      · rw [if_neg z, ← cnt_0 (2 ^ m) (2 ^ m * q')]
        exact cnt_congr fun x h1 h2 => by
          show (okj V R pv k (Int32.ofNat x) m && _) = _
          rw [c x h1 h2]
          cases y : okj V R pv k (Int32.ofNat (2 ^ m * q')) m
          · rfl
          · exact absurd y z
    rw [p2, p1, cnt_add, half (2 * q) (by omega), i1, show 2 ^ m * (2 * q) + 2 ^ m = 2 ^ m * (2 * q + 1) by rw [Nat.mul_add, Nat.mul_one], half (2 * q + 1) hq2, i2]
    have t1 : bt (Int32.ofNat (2 ^ m * (2 * q))) m = false := by
      rw [bx (2 * q) (by omega) _ (Nat.le_refl _) (by omega) m (Nat.le_refl _), Nat.sub_self, Nat.testBit_zero]
      simp
    have t2 : bt (Int32.ofNat (2 ^ m * (2 * q + 1))) m = true := by
      rw [bx (2 * q + 1) hq2 _ (Nat.le_refl _) (by omega) m (Nat.le_refl _), Nat.sub_self, Nat.testBit_zero]
      simp
    have th : ∀ j, m < j → bt (Int32.ofNat (2 ^ m * (2 * q))) j = bt (Int32.ofNat (2 ^ m * (2 * q + 1))) j := fun j hj => by
      rw [bx (2 * q) (by omega) _ (Nat.le_refl _) (by omega) j (by omega), bx (2 * q + 1) hq2 _ (Nat.le_refl _) (by omega) j (by omega), show j - m = (j - m - 1) + 1 by omega, Nat.testBit_succ, Nat.testBit_succ]
      congr 1
      omega
    rw [show frn V pv k (m + 1) = frn V pv k m + (if bt V m = true ∧ pvr pv k m = none then 1 else 0) from rfl]
    unfold okj
    generalize Int32.ofNat (2 ^ m * (2 * q)) = S1 at t1 th ⊢
    generalize Int32.ofNat (2 ^ m * (2 * q + 1)) = S2 at t2 th ⊢
    by_cases v : bt V m = true
    · rw [if_pos v, if_pos v]
      cases e : pvr pv k m with
      | none =>
        dsimp only
        rw [if_pos rfl, if_pos ⟨v, rfl⟩, Nat.pow_succ]
        omega
      | some i =>
        obtain ⟨ik, ei⟩ := pvr_some e
        obtain ⟨z1, z2, z3⟩ := hpv i ik
        dsimp only
        rw [show (if bt V m = true ∧ (some i : Option Nat) = none then 1 else 0) = 0 from if_neg (fun z => by cases z.2), Nat.add_zero]
        have fl := eqv_flip (r := R i) (S := S1) (S' := S2) (m := m) (by omega) (by rw [← ei]; exact z2) (by rw [t1, t2]; rfl) (fun j hj ne hb => th j (by
          rcases Nat.lt_or_ge j m with w | w
          · rw [z3 j (by omega)] at hb; cases hb
          · omega))
        rcases Bool.eq_false_or_eq_true (eqv (R i) S1) with ev | ev <;> rw [ev] at fl <;> simp [ev, fl]
    · simp [v, t1, t2]
end
