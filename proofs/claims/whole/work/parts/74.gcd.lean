/-! Greatest common divisors, both ways -/
theorem jl_int {a : Nat} (ha : a < 2 ^ 63) : (Int64.ofNat a).toInt = a := Int64.toInt_ofNat_of_lt ha
theorem jl_mod {a b : Nat} (ha : a < 2 ^ 63) (hb : b < 2 ^ 63) : Int64.ofNat a - Int64.ofNat a / Int64.ofNat b * Int64.ofNat b = Int64.ofNat (a % b) := by
  have hr : a % b < 2 ^ 63 := Nat.lt_of_le_of_lt (Nat.mod_le a b) ha
  apply Int64.toInt_inj.1
  rw [Int64.toInt_sub, Int64.toInt_mul, Int64.toInt_div, jl_int ha, jl_int hb, jl_int hr]
  have e1 : (a : Int).tdiv b = ((a / b : Nat) : Int) := by rw [Int.tdiv_eq_ediv_of_nonneg (by omega)]; rfl
  have l1 : a / b ≤ a := Nat.div_le_self a b
  have l2 : a / b * b ≤ a := Nat.div_mul_le_self a b
  have l3 : a % b = a - a / b * b := by have := Nat.div_add_mod a b; rw [Nat.mul_comm] at this; omega
  generalize a / b = q at *
  have b1 : ((q : Nat) : Int).bmod (2 ^ 64) = ((q : Nat) : Int) := Int.bmod_eq_of_le (by omega) (by omega)
  have b2 : (((q : Nat) : Int) * b).bmod (2 ^ 64) = ((q * b : Nat) : Int) := by
    rw [← Int.natCast_mul]; generalize q * b = z at *; exact Int.bmod_eq_of_le (by omega) (by omega)
  rw [e1, b1, b2]
  have : ((a : Int) - ((q * b : Nat) : Int)) = ((a % b : Nat) : Int) := by generalize q * b = z at *; omega
  rw [this]; exact Int.bmod_eq_of_le (by omega) (by omega)
theorem jl_eq0 {b : Nat} (hb : b < 2 ^ 63) : (Int64.ofNat b = 0) ↔ b = 0 := by
  rw [← Int64.toInt_inj, jl_int hb, show (0 : Int64).toInt = 0 from by decide]; omega
def fibo : Nat → Nat
  | 0 => 0
  | 1 => 1
  | n + 2 => fibo (n + 1) + fibo n
/-- the steps that Euclid takes -/
def eu : Nat → Nat → Nat → Prop
  | 0, _, b => b = 0
  | n + 1, a, b => b = 0 ∨ eu n b (a % b)
theorem eu_succ : ∀ {n a b : Nat}, eu n a b → eu (n + 1) a b
  | 0, _, _, h => Or.inl h
  | n + 1, a, b, h => h.imp id (fun q => eu_succ q)
theorem eu_fibo : ∀ (n : Nat), (∀ a b, b < a → b < fibo (n + 1) → eu n a b) ∧ (∀ a b, b < a → b < fibo (n + 2) → eu (n + 1) a b)
  | 0 => ⟨fun a b _ h => by have : fibo (0 + 1) = 1 := rfl; show b = 0; omega, fun a b _ h => Or.inl (by have : fibo (0 + 2) = 1 := rfl; omega)⟩
  | n + 1 => by
    obtain ⟨i0, i1⟩ := eu_fibo n
    refine ⟨i1, fun a b hab hb => ?_⟩
    by_cases b0 : b = 0
    · exact Or.inl b0
    · refine Or.inr ?_
      have hr := Nat.mod_lt a (Nat.pos_of_ne_zero b0)
      by_cases c : a % b < fibo (n + 2)
      · exact i1 b (a % b) hr c
      · generalize a % b = r at *
        by_cases r0 : r = 0
        · exact Or.inl r0
        · refine Or.inr (i0 r (b % r) (Nat.mod_lt _ (Nat.pos_of_ne_zero r0)) ?_)
          have e : fibo (n + 1 + 2) = fibo (n + 2) + fibo (n + 1) := rfl
          have : b % r ≤ b - r := by rw [Nat.mod_eq_sub_mod (by omega)]; exact Nat.mod_le _ _
          omega
theorem fibo_93 : 2 ^ 63 ≤ fibo 93 := by decide +kernel
theorem eu_94 {a b : Nat} (hb : b < 2 ^ 63) : eu 94 a b := by
  by_cases b0 : b = 0
  · exact Or.inl b0
  · refine Or.inr ?_
    have hr := Nat.mod_lt a (Nat.pos_of_ne_zero b0)
    exact eu_succ ((eu_fibo 92).1 b (a % b) hr (Nat.lt_of_lt_of_le (Nat.lt_trans hr hb) fibo_93))
section
variable {rc : Nat → Nat × (Nat → Int32)} {h : jxH}
theorem cl_gcd_l (d : Nat) : ∀ (n a b k : Nat), k + n ≤ 98 → a < 2 ^ 63 → b < 2 ^ 63 → eu n a b → jb_69 rc d 20 [(4, .long (Int64.ofNat a)), (6, .long (Int64.ofNat b)), (8, .int (Int32.ofNat k))] [] h = some (some (.long (Int64.ofNat (Nat.gcd a b))), h)
  | n, a, b, k, hk, ha, hb, e => by
    rw [je_69_20, if_neg (by rw [show (100 : Int32) = Int32.ofNat 100 from rfl, jk_le (by decide) (by omega)]; omega)]
    by_cases b0 : b = 0
    · rw [if_pos ((lg_eq0 _ _).mpr ((jl_eq0 hb).mpr b0)), b0, Nat.gcd_zero_right]
    · rw [if_neg (fun z => b0 ((jl_eq0 hb).mp ((lg_eq0 _ _).mp z))), if_neg (fun z => b0 ((jl_eq0 hb).mp z)), jl_mod ha hb, jk_succ]
      match n, e with
      | 0, e => exact absurd e b0
      | n + 1, e =>
        rw [cl_gcd_l d n b (a % b) (k + 1) (by omega) hb (Nat.lt_of_le_of_lt (Nat.mod_le a b) ha) (e.resolve_left b0), Nat.gcd_comm a b, Nat.gcd_rec b a, Nat.gcd_comm]
theorem rf_gcd_l (d : Nat) : ∀ (n a b : Nat), a < 2 ^ 63 → b < 2 ^ 63 → eu n a b → jb_125 rc d 18 [(4, .long (Int64.ofNat a)), (6, .long (Int64.ofNat b))] [] h = some (some (.long (Int64.ofNat (Nat.gcd a b))), h)
  | n, a, b, ha, hb, e => by
    rw [je_125_18]
    by_cases b0 : b = 0
    · rw [if_pos ((lg_eq0 _ _).mpr ((jl_eq0 hb).mpr b0)), b0, Nat.gcd_zero_right]
    · rw [if_neg (fun z => b0 ((jl_eq0 hb).mp ((lg_eq0 _ _).mp z))), if_neg (fun z => b0 ((jl_eq0 hb).mp z)), jl_mod ha hb]
      match n, e with
      | 0, e => exact absurd e b0
      | n + 1, e =>
        rw [rf_gcd_l d n b (a % b) hb (Nat.lt_of_le_of_lt (Nat.mod_le a b) ha) (e.resolve_left b0), Nat.gcd_comm a b, Nat.gcd_rec b a, Nat.gcd_comm]
/-- the size of a number that is no lower bound -/
def ab (x : Int64) : Nat := x.toInt.natAbs
theorem ab_pos {x : Int64} (h : 0 ≤ lg_cmp x 0) : x = Int64.ofNat (ab x) ∧ ab x < 2 ^ 63 := by
  have h1 := (lg_cmp_ge _ _).mp h
  rw [Int64.le_iff_toInt_le, show (0 : Int64).toInt = 0 from by decide] at h1
  have l := Int64.toInt_lt x
  have hb : ab x < 2 ^ 63 := by unfold ab; omega
  refine ⟨Int64.toInt_inj.1 ?_, hb⟩
  rw [jl_int hb]; unfold ab; omega
theorem ab_neg {x : Int64} (h : ¬ 0 ≤ lg_cmp x 0) (hm : x ≠ Int64.minValue) : -x = Int64.ofNat (ab x) ∧ ab x < 2 ^ 63 := by
  have h1 := mt (lg_cmp_ge _ _).mpr h
  rw [Int64.le_iff_toInt_le, show (0 : Int64).toInt = 0 from by decide] at h1
  have l := Int64.le_toInt x
  have m : x.toInt ≠ -2 ^ 63 := fun z => hm (Int64.toInt_inj.1 (by rw [z]; decide))
  have hb : ab x < 2 ^ 63 := by unfold ab; omega
  refine ⟨Int64.toInt_inj.1 ?_, hb⟩
  rw [jl_int hb, Int64.toInt_neg]
  unfold ab
  rw [Int.bmod_eq_of_le (by omega) (by omega)]
  omega
theorem cl_gcd (d : Nat) {x y : Int64} (hx : x ≠ Int64.minValue) (hy : y ≠ Int64.minValue) : jx_C rc (d + 1) 69 [.long x, .long y] h = some (some (.long (Int64.ofNat (Nat.gcd (ab x) (ab y)))), h) := by
  rw [je_69]
  have K := fun (a b : Nat) ha hb => cl_gcd_l (rc := rc) (h := h) d 94 a b 0 (by omega) ha hb (eu_94 hb)
  by_cases c1 : 0 ≤ lg_cmp x 0
  · obtain ⟨e1, l1⟩ := ab_pos c1
    rw [if_pos c1]
    by_cases c2 : 0 ≤ lg_cmp y 0
    · obtain ⟨e2, l2⟩ := ab_pos c2
      rw [if_pos c2]
      have := K _ _ l1 l2
      rw [← e1, ← e2] at this
      exact this
    · obtain ⟨e2, l2⟩ := ab_neg c2 hy
      rw [if_neg c2, e2]
      have := K _ _ l1 l2
      rw [← e1] at this
      exact this
  · obtain ⟨e1, l1⟩ := ab_neg c1 hx
    rw [if_neg c1, e1]
    by_cases c2 : 0 ≤ lg_cmp y 0
    · obtain ⟨e2, l2⟩ := ab_pos c2
      rw [if_pos c2]
      have := K _ _ l1 l2
      rw [← e2] at this
      exact this
    · obtain ⟨e2, l2⟩ := ab_neg c2 hy
      rw [if_neg c2, e2]
      exact K _ _ l1 l2
theorem rf_gcd (d : Nat) {x y : Int64} (hx : x ≠ Int64.minValue) (hy : y ≠ Int64.minValue) : jx_C rc (d + 1) 125 [.long x, .long y] h = some (some (.long (Int64.ofNat (Nat.gcd (ab x) (ab y)))), h) := by
  rw [je_125]
  have K := fun (a b : Nat) ha hb => rf_gcd_l (rc := rc) (h := h) d 94 a b ha hb (eu_94 hb)
  by_cases c1 : 0 ≤ lg_cmp x 0
  · obtain ⟨e1, l1⟩ := ab_pos c1
    rw [if_pos c1]
    by_cases c2 : 0 ≤ lg_cmp y 0
    · obtain ⟨e2, l2⟩ := ab_pos c2
      rw [if_pos c2]
      have := K _ _ l1 l2
      rw [← e1, ← e2] at this
      exact this
    · obtain ⟨e2, l2⟩ := ab_neg c2 hy
      rw [if_neg c2, e2]
      have := K _ _ l1 l2
      rw [← e1] at this
      exact this
  · obtain ⟨e1, l1⟩ := ab_neg c1 hx
    rw [if_neg c1, e1]
    by_cases c2 : 0 ≤ lg_cmp y 0
    · obtain ⟨e2, l2⟩ := ab_pos c2
      rw [if_pos c2]
      have := K _ _ l1 l2
      rw [← e2] at this
      exact this
    · obtain ⟨e2, l2⟩ := ab_neg c2 hy
      rw [if_neg c2, e2]
      exact K _ _ l1 l2
end
