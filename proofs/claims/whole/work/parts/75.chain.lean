/-! chain(), both ways -/
theorem jk_int {a : Nat} (ha : a < 2 ^ 31) : (Int32.ofNat a).toInt = a := Int32.toInt_ofNat_of_lt ha
theorem jk_divN {a b : Nat} (ha : a < 2 ^ 31) (hb : b < 2 ^ 31) : Int32.ofNat a / Int32.ofNat b = Int32.ofNat (a / b) := by
  apply Int32.toInt_inj.1
  have l1 : a / b ≤ a := Nat.div_le_self a b
  rw [Int32.toInt_div, jk_int ha, jk_int hb, jk_int (by omega), Int.tdiv_eq_ediv_of_nonneg (by omega), show ((a : Int) / (b : Int)) = ((a / b : Nat) : Int) from rfl]
  generalize a / b = q at *
  exact Int.bmod_eq_of_le (by omega) (by omega)
theorem jk_subN {a b : Nat} (h : b ≤ a) : Int32.ofNat a - Int32.ofNat b = Int32.ofNat (a - b) := by
  obtain ⟨c, rfl⟩ : ∃ c, a = c + b := ⟨a - b, by omega⟩
  rw [Int32.ofNat_add, Nat.add_sub_cancel, Int32.add_sub_cancel]
theorem jk_0 {b : Nat} (hb : b < 2 ^ 31) : (Int32.ofNat b = 0) ↔ b = 0 := by
  rw [show (0 : Int32) = Int32.ofNat 0 from rfl, jk_inj hb (by decide)]
theorem jk_le0 {b : Nat} (hb : b < 2 ^ 31) : (Int32.ofNat b ≤ 0) ↔ b = 0 := by
  rw [show (0 : Int32) = Int32.ofNat 0 from rfl, jk_le hb (by decide)]; omega
/-- how a chain's number c is rounded up -/
def up (x y : Nat) : Nat := (x + y - 1) / y
theorem up_mul {x y : Nat} (hy : 0 < y) : x ≤ up x y * y ∧ up x y * y < x + y := by
  unfold up
  have h := Nat.div_add_mod (x + y - 1) y
  have l := Nat.mod_lt (x + y - 1) hy
  rw [Nat.mul_comm] at h
  generalize (x + y - 1) / y * y = z at *
  omega
theorem jk_up {x y : Nat} (hx : x ≤ 999) (hy : y ≤ 999) (y0 : 0 < y) : (Int32.ofNat x + Int32.ofNat y - 1) / Int32.ofNat y = Int32.ofNat (up x y) ∧ Int32.ofNat (up x y) * Int32.ofNat y - Int32.ofNat x = Int32.ofNat (up x y * y - x) := by
  obtain ⟨z, rfl⟩ : ∃ z, y = z + 1 := ⟨y - 1, by omega⟩
  have h := up_mul (x := x) (y := z + 1) (by omega)
  refine ⟨?_, by rw [← Int32.ofNat_mul, jk_subN h.1]⟩
  rw [← Int32.ofNat_add, show x + (z + 1) = (x + z) + 1 from rfl, jk_pred, jk_divN (by omega) (by omega)]
  rfl
/-- the number i of a chain; how many there are, at i = -1 -/
def chN : Nat → Nat → Nat → Int32 → Nat → Option Nat
  | 0, _, _, _, _ => none
  | m + 1, x, y, i, c => if y = 0 then (if i = -1 then some c else none) else if Int32.ofNat c = i then some (up x y) else chN m y (up x y * y - x) i (c + 1)
theorem chN_lt : ∀ {m x y c : Nat} {i : Int32} {z : Nat}, x ≤ 999 → y < x → c + m ≤ 1000 → (y ≤ 999 → 0 < c + y) → chN m x y i c = some z → 0 < z ∧ z < 2000
  | 0, _, _, _, _, _, _, _, _, _, h => by cases h
  | m + 1, x, y, c, i, z, hx, hy, hm, hc, h => by
    unfold chN at h
    split at h
    · split at h
      · cases h; have := hc (by omega); omega
      · cases h
    · rename_i y0
      have u := up_mul (x := x) (y := y) (by omega)
      split at h
      · cases h
        refine ⟨Nat.pos_of_ne_zero fun q => by rw [q] at u; omega, ?_⟩
        unfold up
        have := Nat.div_le_self (x + y - 1) y
        omega
      · exact chN_lt (by omega) (by omega) (by omega) (fun _ => by omega) h
section
variable {rc : Nat → Nat × (Nat → Int32)} {h : jxH} {σ : jSt}
theorem cl_chain_l (d : Nat) (i : Int32) : ∀ (m x y c : Nat), x ≤ 999 → y < x → c + y ≤ 998 → y < m → jb_70 rc d 6 [(2, .int i), (3, .int (Int32.ofNat x)), (4, .int (Int32.ofNat y)), (5, .int (Int32.ofNat c))] [] h = some (some (.int (Int32.ofNat ((chN m x y i c).getD 0))), h)
  | 0, _, _, _, _, _, _, h => by omega
  | m + 1, x, y, c, hx, hy, hc, hm => by
    unfold chN
    rw [je_70_6, if_neg (by rw [show (999 : Int32) = Int32.ofNat 999 from rfl, jk_le (by decide) (by omega)]; omega)]
    by_cases y0 : y = 0
    · rw [if_pos ((jk_le0 (by omega)).mpr y0), if_pos y0]
      split <;> rfl
    · rw [if_neg (fun z => y0 ((jk_le0 (by omega)).mp z)), if_neg y0, if_neg (fun z => y0 ((jk_0 (by omega)).mp z)), (jk_up hx (by omega) (by omega)).1]
      by_cases c1 : Int32.ofNat c = i
      · rw [if_pos c1, if_pos c1]; rfl
      · rw [if_neg c1, if_neg c1, (jk_up hx (by omega) (by omega)).2, jk_succ]
        have u := up_mul (x := x) (y := y) (by omega)
        exact cl_chain_l d i m y _ (c + 1) (by omega) (by omega) (by omega) (by omega)
theorem rf_chain_l (d : Nat) {i : Int32} (hi : -1 ≤ i) : ∀ (m x y c : Nat), x ≤ 999 → y < x → y < m → jb_151 rc d 6 [(2, .int i), (3, .int (Int32.ofNat x)), (4, .int (Int32.ofNat y)), (5, .int (Int32.ofNat c))] [] h = some (some (.int (match chN m x y i c with
    | some z => Int32.ofNat z
    | none => -1)), h)
  | 0, _, _, _, _, _, h => by omega
  | m + 1, x, y, c, hx, hy, hm => by
    unfold chN
    rw [je_151_6]
    by_cases y0 : y = 0
    · rw [if_pos ((jk_le0 (by omega)).mpr y0), if_pos y0]
      by_cases i1 : i = -1
      · rw [if_neg (by subst i1; decide), if_pos i1]
      · rw [if_pos ?_, if_neg i1]
        rw [Int32.le_iff_toInt_le] at hi ⊢
        rw [← Int32.toInt_inj] at i1
        rw [show (0 : Int32).toInt = 0 from by decide]
        rw [show (-1 : Int32).toInt = -1 from by decide] at hi i1
        omega
    · rw [if_neg (fun z => y0 ((jk_le0 (by omega)).mp z)), if_neg y0, if_neg (fun z => y0 ((jk_0 (by omega)).mp z)), (jk_up hx (by omega) (by omega)).1]
      by_cases c1 : Int32.ofNat c = i
      · rw [if_pos c1, if_pos c1]
      · rw [if_neg c1, if_neg c1, (jk_up hx (by omega) (by omega)).2, jk_succ]
        have u := up_mul (x := x) (y := y) (by omega)
        exact rf_chain_l d hi m y _ (c + 1) (by omega) (by omega) (by omega)
theorem jp_chain_iff {a b : Int32} : jp_chain a b = true ↔ ∃ x y : Nat, a = Int32.ofNat x ∧ b = Int32.ofNat y ∧ x ≤ 999 ∧ 0 < y ∧ y < x := by
  unfold jp_chain
  constructor
  · intro h
    by_cases c1 : a < 2
    · rw [if_pos c1] at h; cases h
    rw [if_neg c1] at h
    by_cases c2 : 999 < a
    · rw [if_pos c2] at h; cases h
    rw [if_neg c2] at h
    by_cases c3 : b < 1
    · rw [if_pos c3] at h; cases h
    rw [if_neg c3] at h
    by_cases c4 : a ≤ b
    · rw [if_pos c4] at h; cases h
    have a0 : ¬ a < 0 := fun z => c1 (by
      rw [Int32.lt_iff_toInt_lt] at z ⊢
      rw [show (0 : Int32).toInt = 0 from by decide] at z
      rw [show (2 : Int32).toInt = 2 from by decide]; omega)
    have b0 : ¬ b < 0 := fun z => c3 (by
      rw [Int32.lt_iff_toInt_lt] at z ⊢
      rw [show (0 : Int32).toInt = 0 from by decide] at z
      rw [show (1 : Int32).toInt = 1 from by decide]; omega)
    have ea := jk_of a0
    have eb := jk_of b0
    have la := jk_of_lt a
    have lb := jk_of_lt b
    refine ⟨_, _, ea, eb, ?_, ?_, ?_⟩
    · rw [ea, show (999 : Int32) = Int32.ofNat 999 from rfl, jk_lt (by decide) la] at c2; omega
    · rw [eb, show (1 : Int32) = Int32.ofNat 1 from rfl, jk_lt lb (by decide)] at c3; omega
    · rw [ea, eb, jk_le la lb] at c4; omega
  · rintro ⟨x, y, rfl, rfl, hx, hy, hyx⟩
    rw [if_neg (by rw [show (2 : Int32) = Int32.ofNat 2 from rfl, jk_lt (by omega) (by decide)]; omega), if_neg (by rw [show (999 : Int32) = Int32.ofNat 999 from rfl, jk_lt (by decide) (by omega)]; omega), if_neg (by rw [show (1 : Int32) = Int32.ofNat 1 from rfl, jk_lt (by omega) (by decide)]; omega), if_neg (by rw [jk_le (by omega) (by omega)]; omega)]
theorem rf_chainQ (d : Nat) (a b : Int32) : jx_C rc (d + 2) 150 [.int a, .int b] h = some (some (.int (jk_b (jp_chain a b))), h) := by
  have e : jp_chain a b = if jp_bt a.toInt64 2 999 = true then jp_bt b.toInt64 1 (a.toInt64 - 1) else false := by
    unfold jp_bt jp_chain
    rw [show (2 : Int64) = (2 : Int32).toInt64 from rfl, show (999 : Int64) = (999 : Int32).toInt64 from rfl, show (1 : Int64) = (1 : Int32).toInt64 from rfl]
    simp only [jk_l64]
    by_cases c1 : a < 2
    · rw [if_pos c1, if_pos c1, if_neg (by decide)]
    rw [if_neg c1, if_neg c1]
    by_cases c2 : 999 < a
    · rw [if_pos c2, if_pos c2, if_neg (by decide)]
    rw [if_neg c2, if_neg c2, if_pos rfl]
    by_cases c3 : b < 1
    · rw [if_pos c3, if_pos c3]
    rw [if_neg c3, if_neg c3]
    have k : (a.toInt64 - Int32.toInt64 1 < b.toInt64) ↔ a ≤ b := by
      rw [Int64.lt_iff_toInt_lt, Int32.le_iff_toInt_le, Int64.toInt_sub, Int32.toInt_toInt64, Int32.toInt_toInt64, Int32.toInt_toInt64, show (1 : Int32).toInt = 1 from by decide]
      have := Int32.le_toInt a
      have := Int32.toInt_lt a
      rw [Int.bmod_eq_of_le (by omega) (by omega)]
      omega
    by_cases c4 : a ≤ b
    · rw [if_pos c4, if_pos (k.mpr c4)]
    · rw [if_neg c4, if_neg (fun z => c4 (k.mp z))]
  rw [je_150, rf_in, jk_cI, jk_if0, e]
  by_cases c1 : jp_bt a.toInt64 2 999 = true
  · rw [if_pos c1, if_pos c1, rf_in, jk_cI, jk_if0, if_pos jk_r0', if_pos (show jx_bool (1 : Int32) = true by simp [jx_bool])]
    cases jp_bt b.toInt64 1 (a.toInt64 - 1) <;> rfl
  · rw [if_neg c1, if_neg c1, if_pos jk_r0']; rfl
def op_chain (σ : jSt) (a b i : Int32) : Int32 × jSt := if jp_chain a b = true then (if -1 ≤ i then (if Nat.gcd (pn a) (pn b) = 1 then (match chN 1000 (pn a) (pn b) i 0 with
    | some z => (Int32.ofNat z, σ)
    | none => er σ 2) else er σ 3) else er σ 1) else er σ 1
theorem jk_64 {a : Nat} (ha : a < 2 ^ 31) : (Int32.ofNat a).toInt64 = Int64.ofNat a := by
  apply Int64.toInt_inj.1
  rw [Int32.toInt_toInt64, jk_int ha, jl_int (by omega)]
theorem ab_32 {a : Nat} (ha : a < 2 ^ 31) : ab (Int32.ofNat a).toInt64 = a ∧ (Int32.ofNat a).toInt64 ≠ Int64.minValue := by
  rw [jk_64 ha]
  refine ⟨by unfold ab; rw [jl_int (by omega)]; omega, fun z => ?_⟩
  have := Int64.toInt_inj.2 z
  rw [jl_int (by omega), show Int64.minValue.toInt = -2 ^ 63 from by decide] at this
  omega
theorem gcd_1 {a b : Nat} (ha : 0 < a) (ha2 : a < 2 ^ 31) : (Nat.gcd a b = 1 ↔ lg_cmp (Int64.ofNat (Nat.gcd a b)) 1 = 0) ∧ (Nat.gcd a b = 1 ↔ lg_cmp (Int64.ofNat (Nat.gcd a b)) 1 ≤ 0) := by
  have p := Nat.gcd_pos_of_pos_left b ha
  have l := Nat.gcd_le_left b ha
  generalize Nat.gcd a b = g at *
  rw [lg_eq0, lg_cmp_le, Int64.le_iff_toInt_le, ← Int64.toInt_inj, jl_int (by omega), show (1 : Int64).toInt = 1 from by decide]
  constructor <;> omega
theorem cc_chain (C : CSt h σ) (A : AWt σ) (a b i : Int32) : ∃ h', (∀ d, jx_C rc (d + 20) 23 [.ref 0, .int a, .int b, .int i] h = some (some (.int (op_chain σ a b i).1), h')) ∧ CSt h' (op_chain σ a b i).2 ∧ cF h h' := by
  unfold op_chain
  obtain ⟨e', e1, e2, e3⟩ := cc_refuse (rc := rc) C A (k := 1) (by decide) (by decide) (K := 1) rfl
  by_cases c0 : jp_chain a b = true
  · rw [if_pos c0]
    by_cases ci : -1 ≤ i
    · rw [if_pos ci]
      obtain ⟨x, y, rfl, rfl, hx, hy, hyx⟩ := jp_chain_iff.mp c0
      rw [show pn (Int32.ofNat x) = x from jk_cl (by omega), show pn (Int32.ofNat y) = y from jk_cl (by omega)]
      have G := fun d => cl_gcd (rc := rc) (h := h) d (ab_32 (a := x) (by omega)).2 (ab_32 (a := y) (by omega)).2
      rw [(ab_32 (a := x) (by omega)).1, (ab_32 (a := y) (by omega)).1] at G
      have g1 := (gcd_1 (a := x) (b := y) (by omega) (by omega)).1
      by_cases cg : Nat.gcd x y = 1
      · rw [if_pos cg]
        have L := fun d => cl_chain_l (rc := rc) (h := h) d i 1000 x y 0 hx hyx (by omega) (by omega)
        have st : ∀ d, jx_C rc (d + 20) 23 [.ref 0, .int (Int32.ofNat x), .int (Int32.ofNat y), .int i] h = _ := fun d => by
          rw [je_23, if_pos C.is, cl_isChain, jk_cI, jk_if0, if_pos c0, if_pos ci, G, jk_cL, if_pos (g1.mp cg), je_70]
        cases hc : chN 1000 x y i 0 with
        | some z =>
          have lz := chN_lt (c := 0) hx hyx (by omega) (fun _ => by omega) hc
          refine ⟨h, fun d => ?_, C, cFid⟩
          refine (st d).trans ((congrArg (fun z => jx_cI z _) (L (d + 18))).trans ?_)
          rw [jk_cI, hc]
          show (if Int32.ofNat z = 0 then _ else _) = _
          rw [if_neg (fun q => by have := (jk_0 (by omega)).mp q; omega)]
          rfl
        | none =>
          obtain ⟨f', f1, f2, f3⟩ := cc_refuse (rc := rc) C A (k := 2) (by decide) (by decide) (K := 2) rfl
          refine ⟨f', fun d => ?_, f2, f3⟩
          refine (st d).trans ((congrArg (fun z => jx_cI z _) (L (d + 18))).trans ?_)
          rw [jk_cI, hc]
          show (if Int32.ofNat 0 = 0 then _ else _) = _
          rw [if_pos (show Int32.ofNat 0 = 0 from rfl), f1, jk_cI]
      · rw [if_neg cg]
        obtain ⟨f', f1, f2, f3⟩ := cc_refuse (rc := rc) C A (k := 3) (by decide) (by decide) (K := 3) rfl
        refine ⟨f', fun d => ?_, f2, f3⟩
        rw [je_23, if_pos C.is, cl_isChain, jk_cI, jk_if0, if_pos c0, if_pos ci, G, jk_cL, if_neg (fun z => cg (g1.mpr z)), f1, jk_cI]
    · rw [if_neg ci]
      refine ⟨e', fun d => ?_, e2, e3⟩
      rw [je_23, if_pos C.is, cl_isChain, jk_cI, jk_if0, if_pos c0, if_neg ci, e1, jk_cI]
  · rw [if_neg c0]
    refine ⟨e', fun d => ?_, e2, e3⟩
    rw [je_23, if_pos C.is, cl_isChain, jk_cI, jk_if0, if_neg c0, e1, jk_cI]
theorem rr_chain (R : RSt h σ) (A : AWt σ) (a b i : Int32) : ∃ h', (∀ d, jx_C rc (d + 20) 152 [.ref 336, .int a, .int b, .int i] h = some (some (.int (op_chain σ a b i).1), h')) ∧ RSt h' (op_chain σ a b i).2 ∧ rF h h' := by
  unfold op_chain
  obtain ⟨e', e1, e2, e3⟩ := rr_error (rc := rc) R A (k := 1) (by decide) (K := 1) rfl
  by_cases c0 : jp_chain a b = true
  · rw [if_pos c0]
    by_cases ci : -1 ≤ i
    · rw [if_pos ci]
      obtain ⟨x, y, rfl, rfl, hx, hy, hyx⟩ := jp_chain_iff.mp c0
      rw [show pn (Int32.ofNat x) = x from jk_cl (by omega), show pn (Int32.ofNat y) = y from jk_cl (by omega)]
      have G := fun d => rf_gcd (rc := rc) (h := h) d (ab_32 (a := x) (by omega)).2 (ab_32 (a := y) (by omega)).2
      rw [(ab_32 (a := x) (by omega)).1, (ab_32 (a := y) (by omega)).1] at G
      have g1 := (gcd_1 (a := x) (b := y) (by omega) (by omega)).2
      by_cases cg : Nat.gcd x y = 1
      · rw [if_pos cg]
        have L := fun d => rf_chain_l (rc := rc) (h := h) d ci 1000 x y 0 hx hyx (by omega)
        have st : ∀ d, jx_C rc (d + 20) 152 [.ref 336, .int (Int32.ofNat x), .int (Int32.ofNat y), .int i] h = _ := fun d => by
          rw [je_152, if_pos R.is, rf_chainQ, jk_cI, jk_if0, if_pos c0, if_pos ci, G, jk_cL, if_pos (g1.mp cg), je_151]
        cases hc : chN 1000 x y i 0 with
        | some z =>
          have lz := chN_lt (c := 0) hx hyx (by omega) (fun _ => by omega) hc
          refine ⟨h, fun d => ?_, R, Fr.rfl⟩
          refine (st d).trans ((congrArg (fun z => jx_cI z _) (L (d + 18))).trans ?_)
          rw [jk_cI, hc]
          show (if 0 ≤ Int32.ofNat z then _ else _) = _
          rw [if_pos (by rw [show (0 : Int32) = Int32.ofNat 0 from rfl, jk_le (by decide) (by omega)]; omega)]
        | none =>
          obtain ⟨f', f1, f2, f3⟩ := rr_error (rc := rc) R A (k := 2) (by decide) (K := 2) rfl
          refine ⟨f', fun d => ?_, f2, f3⟩
          refine (st d).trans ((congrArg (fun z => jx_cI z _) (L (d + 18))).trans ?_)
          rw [jk_cI, hc]
          show (if (0 : Int32) ≤ -1 then _ else _) = _
          rw [if_neg (by decide), f1, jk_cI]
      · rw [if_neg cg]
        obtain ⟨f', f1, f2, f3⟩ := rr_error (rc := rc) R A (k := 3) (by decide) (K := 3) rfl
        refine ⟨f', fun d => ?_, f2, f3⟩
        rw [je_152, if_pos R.is, rf_chainQ, jk_cI, jk_if0, if_pos c0, if_pos ci, G, jk_cL, if_neg (fun z => cg (g1.mpr z)), f1, jk_cI]
    · rw [if_neg ci]
      refine ⟨e', fun d => ?_, e2, e3⟩
      rw [je_152, if_pos R.is, rf_chainQ, jk_cI, jk_if0, if_pos c0, if_neg ci, e1, jk_cI]
  · rw [if_neg c0]
    refine ⟨e', fun d => ?_, e2, e3⟩
    rw [je_152, if_pos R.is, rf_chainQ, jk_cI, jk_if0, if_neg c0, e1, jk_cI]
theorem aa_chain (A : AWt σ) (a b i : Int32) : AWt (op_chain σ a b i).2 := by
  unfold op_chain
  repeat' split
  all_goals first | exact A | exact aa_er A
end
