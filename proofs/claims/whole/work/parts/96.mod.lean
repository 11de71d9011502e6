/-! What is left of a long by a positive one; floorMod(); how large minors are -/
theorem jl_rem {x n : Int64} (hn : 0 < n.toInt) : (x - x / n * n).toInt = x.toInt.tmod n.toInt := by
  have lx := Int64.le_toInt x
  have ux := Int64.toInt_lt x
  have un := Int64.toInt_lt n
  obtain ⟨b, hb⟩ : ∃ b : Nat, n.toInt = b := ⟨n.toInt.toNat, by omega⟩
  rw [Int64.toInt_sub, Int64.toInt_mul, Int64.toInt_div, hb]
  by_cases h : x.toInt < 0
  · obtain ⟨a, ha⟩ : ∃ a : Nat, x.toInt = -(a : Int) := ⟨(-x.toInt).toNat, by omega⟩
    rw [ha]
    have e1 : (-(a : Int)).tdiv b = -((a / b : Nat) : Int) := by rw [Int.neg_tdiv, Int.tdiv_eq_ediv_of_nonneg (by omega)]; rfl
    have e2 : (-(a : Int)).tmod b = -((a % b : Nat) : Int) := by rw [Int.neg_tmod, Int.tmod_eq_emod_of_nonneg (by omega)]; rfl
    have l1 : a / b ≤ a := Nat.div_le_self a b
    have l2 : a / b * b ≤ a := Nat.div_mul_le_self a b
    have l3 : a % b = a - a / b * b := by have := Nat.div_add_mod a b; rw [Nat.mul_comm] at this; omega
    rw [e1, e2, l3]
    generalize a / b = q at *
    rw [Int.bmod_eq_of_le (n := -(q : Int)) (by omega) (by omega), Int.neg_mul, ← Int.natCast_mul]
    generalize q * b = z at *
    rw [Int.bmod_eq_of_le (n := -(z : Int)) (by omega) (by omega)]
    rw [Int.bmod_eq_of_le (by omega) (by omega)]
    omega
  · obtain ⟨a, ha⟩ : ∃ a : Nat, x.toInt = (a : Int) := ⟨(x.toInt).toNat, by omega⟩
    rw [ha]
    have e1 : ((a : Int)).tdiv b = ((a / b : Nat) : Int) := by rw [Int.tdiv_eq_ediv_of_nonneg (by omega)]; rfl
    have e2 : ((a : Int)).tmod b = ((a % b : Nat) : Int) := by rw [Int.tmod_eq_emod_of_nonneg (by omega)]; rfl
    have l1 : a / b ≤ a := Nat.div_le_self a b
    have l2 : a / b * b ≤ a := Nat.div_mul_le_self a b
    have l3 : a % b = a - a / b * b := by have := Nat.div_add_mod a b; rw [Nat.mul_comm] at this; omega
    rw [e1, e2, l3]
    generalize a / b = q at *
    rw [Int.bmod_eq_of_le (n := (q : Int)) (by omega) (by omega), ← Int.natCast_mul]
    generalize q * b = z at *
    rw [Int.bmod_eq_of_le (n := (z : Int)) (by omega) (by omega)]
    rw [Int.bmod_eq_of_le (by omega) (by omega)]
    omega
theorem jl_xor {x n : Int64} (hn : 0 < n.toInt) : 0 ≤ (x ^^^ n).toInt ↔ 0 ≤ x.toInt := by
  have m : ∀ z : Int64, z.toBitVec.msb = decide (z.toInt < 0) := fun z => BitVec.msb_eq_toInt ..
  have e := m (x ^^^ n)
  rw [Int64.toBitVec_xor, BitVec.msb_xor, m x, m n, decide_eq_false (p := n.toInt < 0) (by omega), Bool.xor_false] at e
  have e' : (x.toInt < 0) = ((x ^^^ n).toInt < 0) := by
    apply propext
    constructor
    · intro h; rw [decide_eq_true h] at e; exact of_decide_eq_true e.symm
    · intro h; rw [decide_eq_true h] at e; exact of_decide_eq_true e
  constructor
  · intro h; rw [← Int.not_lt, e']; omega
  · intro h; rw [← Int.not_lt, ← e']; omega
/-- what floorMod() and the reference's way come to -/
def jl_fm (x n : Int64) : Int64 := if 0 ≤ (x - x / n * n).toInt then x - x / n * n else (x - x / n * n) + n
theorem cl_fm {rc : Nat → Nat × (Nat → Int32)} {h : jxH} {x n : Int64} (hn : 0 < n.toInt) (d : Nat) : jx_C rc (d + 1) 329 [.long x, .long n] h = some (some (.long (jl_fm x n)), h) := by
  have z0 : (0 : Int64).toInt = 0 := by decide
  have r := jl_rem (x := x) hn
  rw [je_329, if_neg (fun z => by rw [z, z0] at hn; omega)]
  unfold jl_fm
  by_cases c : 0 ≤ x.toInt
  · rw [if_pos (by rw [lg_cmp_ge, Int64.le_iff_toInt_le, z0, jl_xor hn]; exact c), if_pos (by rw [r]; exact Int.tmod_nonneg _ c)]
  · have t : x.toInt.tmod n.toInt ≤ 0 := by
      have := Int.tmod_nonneg (a := -x.toInt) n.toInt (by omega)
      rw [Int.neg_tmod] at this; omega
    rw [if_neg (by rw [lg_cmp_ge, Int64.le_iff_toInt_le, z0, jl_xor hn]; exact c)]
    by_cases c2 : (x - x / n * n) = 0
    · rw [if_pos (by rw [lg_eq0]; exact c2), if_pos (by rw [c2, z0]; omega)]
    · rw [if_neg (by rw [lg_eq0]; exact c2), if_neg]
      intro q
      apply c2
      apply Int64.toInt_inj.1
      rw [z0]; omega
theorem jl_fm_range {x n : Int64} (hn : 0 < n.toInt) : 0 ≤ (jl_fm x n).toInt ∧ (jl_fm x n).toInt < n.toInt := by
  have r := jl_rem (x := x) hn
  have un := Int64.toInt_lt n
  have a1 := Int.tmod_lt_of_pos x.toInt hn
  have a2 : -n.toInt < x.toInt.tmod n.toInt := by
    have := Int.tmod_lt_of_pos (-x.toInt) hn
    rw [Int.neg_tmod] at this; omega
  unfold jl_fm
  split
  · omega
  · rw [Int64.toInt_add, Int.bmod_eq_of_le (by omega) (by omega)]; omega
theorem jl_fm_1 {x n : Int64} (h1 : n.toInt = 1) : jl_fm x n = 0 := by
  have := jl_fm_range (x := x) (n := n) (by omega)
  apply Int64.toInt_inj.1
  rw [show (0 : Int64).toInt = 0 from by decide]; omega
/-- a bound of sums -/
theorem mx_s_le {F : Nat → Int} {B : Nat} : ∀ {l : List Nat}, (∀ q ∈ l, (F q).natAbs ≤ B) → (mx_s F l).natAbs ≤ l.length * B
  | [], _ => by show (0 : Int).natAbs ≤ _; simp
  | a :: l, h => by
    have i := mx_s_le (F := F) (B := B) (l := l) (fun q hq => h q (List.mem_cons_of_mem _ hq))
    have a1 := h a List.mem_cons_self
    show (F a + mx_s F l).natAbs ≤ (l.length + 1) * B
    rw [Nat.succ_mul]
    have := Int.natAbs_add_le (F a) (mx_s F l)
    omega
theorem mx_p_le {w : Nat → Int} {e : Nat → Nat → Int} (hw : ∀ a, (w a).natAbs ≤ 30) (he : ∀ a b, (e a b).natAbs ≤ 1) : ∀ (n : Nat) (l : List Nat), l.length = n → n ≤ 12 → (mx_p w e l).natAbs ≤ 31 ^ n
  | 0, l, h, _ => by
    rw [List.length_eq_zero_iff] at h
    subst h
    exact Nat.le_refl 1
  | n + 1, [], h, _ => by cases h
  | n + 1, p :: l, h, hn => by
    have hl : l.length = n := by simpa using h
    rw [mx_p_cons]
    have i1 := mx_p_le hw he n l hl (by omega)
    have b1 : (w p * mx_p w e l).natAbs ≤ 30 * 31 ^ n := by
      rw [Int.natAbs_mul]
      exact Nat.mul_le_mul (hw p) i1
    cases n with
    | zero =>
      rw [List.length_eq_zero_iff] at hl
      subst hl
      have : (mx_s (fun q => e p q * mx_p w e (([] : List Nat).erase q)) []).natAbs = 0 := rfl
      have := Int.natAbs_sub_le (w p * mx_p w e []) (mx_s (fun q => e p q * mx_p w e (([] : List Nat).erase q)) [])
      omega
    | succ n =>
      have b2 : (mx_s (fun q => e p q * mx_p w e (l.erase q)) l).natAbs ≤ l.length * 31 ^ n := mx_s_le fun q hq => by
        rw [Int.natAbs_mul]
        have j := mx_p_le hw he n (l.erase q) (by rw [List.length_erase_of_mem hq]; omega) (by omega)
        have := Nat.mul_le_mul (he p q) j
        omega
      have b3 : l.length * 31 ^ n ≤ 11 * 31 ^ n := Nat.mul_le_mul_right _ (by omega)
      have := Int.natAbs_sub_le (w p * mx_p w e l) (mx_s (fun q => e p q * mx_p w e (l.erase q)) l)
      rw [Nat.pow_succ 31 (n + 1), Nat.pow_succ 31 n] at *
      omega
theorem MP_le {f : jF} (B : jf_B f) (S : Int32) : (MP f S).natAbs ≤ 31 ^ 12 := by
  have e : MP f S = mx_p (fun p => if p < 12 then ew f p else 0) (ec f) (sl S) := by
    rw [MP_ec]
    exact mx_p_congr (fun a ha => by rw [if_pos (sl_mem.mp ha).1]) (fun _ _ _ _ => rfl)
  rw [e]
  refine Nat.le_trans (mx_p_le (fun a => ?_) (fun a b => ?_) (bc S) (sl S) (sl_length S) (bc_le S)) (Nat.pow_le_pow_right (by decide) (bc_le S))
  · split
    · rename_i h
      have := jp_wt_iff.mp (B.wt h)
      unfold ew; omega
    · decide
  · unfold ec ee
    split
    · have := i01_nn (bt (f.2.1 a) b)
      have := i01_le (bt (f.2.1 a) b)
      omega
    · decide
theorem MP_int {f : jF} (B : jf_B f) (S : Int32) : (Int64.ofInt (MP f S)).toInt = MP f S := by
  have := MP_le B S
  rw [Int64.toInt_ofInt]
  show (MP f S).bmod (2 ^ 64) = _
  exact Int.bmod_eq_of_le (by omega) (by omega)
theorem MP_min {f : jF} (B : jf_B f) (S : Int32) : Int64.ofInt (MP f S) ≠ Int64.minValue := fun z => by
  have e := MP_int B S
  have l := MP_le B S
  rw [z, show Int64.minValue.toInt = -2 ^ 63 from by decide] at e
  omega
