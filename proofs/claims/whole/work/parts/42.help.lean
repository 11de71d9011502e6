/-! The class's static helpers, and what of the reference is like them -/
section
variable {rc : Nat → Nat × (Nat → Int32)} {h : jxH}
theorem jk_r0 : (jx_bool (0 : Int32) = true) = True := by simp [jx_bool]
theorem jk_r1 : (jx_bool (1 : Int32) = true) = True := by simp [jx_bool]
def jp_place (p : Int32) : Bool := if p < 0 then false else if 12 ≤ p then false else true
def jp_in (p s : Int32) : Bool := if p < 0 then false else if 12 ≤ p then false else bt s p.toNatClampNeg
def jp_wt (w : Int32) : Bool := if w < -30 then false else if 30 < w then false else true
def jp_part (x : Int32) : Bool := if x = 0 then true else if x = 1 then true else false
def jp_prime (x : Int32) : Bool := if x = 2 then true else if x = 3 then true else if x = 5 then true else if x = 7 then true else if x = 11 then true else if x = 13 then true else false
def jp_kind (x : Int32) : Bool := if x < 0 then false else if 6 ≤ x then false else true
def jp_start (x : Int32) : Bool := if x < 0 then false else if 9 < x then false else true
def jp_chain (x y : Int32) : Bool := if x < 2 then false else if 999 < x then false else if y < 1 then false else if x ≤ y then false else true
theorem jp_place_iff {p : Int32} : jp_place p = true ↔ ∃ k, k < 12 ∧ p = Int32.ofNat k := by
  unfold jp_place
  constructor
  · intro q
    split at q
    · cases q
    · split at q
      · cases q
      · exact jk_place (by assumption) (by assumption)
  · rintro ⟨k, hk, rfl⟩
    rw [if_neg (jk_nn (by omega)), if_neg (jk_n12 hk)]
theorem jp_place_of {k : Nat} (hk : k < 12) : jp_place (Int32.ofNat k) = true := jp_place_iff.mpr ⟨k, hk, rfl⟩
theorem jp_in_of {k : Nat} (hk : k < 12) (s : Int32) : jp_in (Int32.ofNat k) s = bt s k := by
  unfold jp_in; rw [if_neg (jk_nn (by omega)), if_neg (jk_n12 hk), jk_cl (by omega)]
theorem jp_in_neg {p : Int32} (hp : p < 0) (s : Int32) : jp_in p s = false := by
  unfold jp_in; rw [if_pos hp]
theorem cl_isPlace (d : Nat) (p : Int32) : jx_C rc (d + 1) 59 [.int p] h = some (some (.int (jk_b (jp_place p))), h) := by
  rw [je_59]; unfold jp_place; simp only [jk_r0, jk_r1, if_true]; repeat' split
  all_goals rfl
theorem cl_isIn (d : Nat) (p s : Int32) : jx_C rc (d + 1) 60 [.int p, .int s] h = some (some (.int (jk_b (jp_in p s))), h) := by
  rw [je_60]
  unfold jp_in
  split
  · rfl
  · split
    · rfl
    · obtain ⟨k, hk, rfl⟩ := jk_place (by assumption) (by assumption)
      rw [bt_sr _ (by omega), jk_cl (by omega)]
      cases bt s k <;> rfl
theorem cl_isWeight (d : Nat) (p : Int32) : jx_C rc (d + 1) 61 [.int p] h = some (some (.int (jk_b (jp_wt p))), h) := by
  rw [je_61]; unfold jp_wt; simp only [jk_r0, jk_r1, if_true]; repeat' split
  all_goals rfl
theorem cl_isPart (d : Nat) (p : Int32) : jx_C rc (d + 1) 62 [.int p] h = some (some (.int (jk_b (jp_part p))), h) := by
  rw [je_62]; unfold jp_part; simp only [jk_r0, jk_r1, if_true]; repeat' split
  all_goals rfl
theorem cl_isPrime (d : Nat) (p : Int32) : jx_C rc (d + 1) 63 [.int p] h = some (some (.int (jk_b (jp_prime p))), h) := by
  rw [je_63]; unfold jp_prime; simp only [jk_r0, jk_r1, if_true]; repeat' split
  all_goals rfl
theorem cl_isKind (d : Nat) (p : Int32) : jx_C rc (d + 1) 64 [.int p] h = some (some (.int (jk_b (jp_kind p))), h) := by
  rw [je_64]; unfold jp_kind; simp only [jk_r0, jk_r1, if_true]; repeat' split
  all_goals rfl
theorem cl_isStart (d : Nat) (p : Int32) : jx_C rc (d + 1) 65 [.int p] h = some (some (.int (jk_b (jp_start p))), h) := by
  rw [je_65]; unfold jp_start; simp only [jk_r0, jk_r1, if_true]; repeat' split
  all_goals rfl
theorem cl_isChain (d : Nat) (p q : Int32) : jx_C rc (d + 1) 66 [.int p, .int q] h = some (some (.int (jk_b (jp_chain p q))), h) := by
  rw [je_66]; unfold jp_chain; simp only [jk_r0, jk_r1, if_true]; repeat' split
  all_goals rfl
-- the least and the greatest of a set
def jk_lo (s : Int32) : Nat → Nat → Option Nat
  | 0, _ => none
  | m + 1, k => if bt s k then some k else jk_lo s m (k + 1)
def jk_hi (s : Int32) : Nat → Option Nat
  | 0 => none
  | m + 1 => if bt s m then some m else jk_hi s m
def jk_on : Option Nat → Int32
  | none => -1
  | some k => Int32.ofNat k
def lo (s : Int32) : Option Nat := jk_lo s 12 0
def hi (s : Int32) : Option Nat := jk_hi s 12
theorem jk_lo_some {s : Int32} : ∀ {m k j : Nat}, jk_lo s m k = some j ↔ k ≤ j ∧ j < k + m ∧ bt s j = true ∧ ∀ i, k ≤ i → i < j → bt s i = false
  | 0, k, j => by
    unfold jk_lo
    constructor
    · intro q; cases q
    · rintro ⟨h1, h2, -⟩; omega
  | m + 1, k, j => by
    unfold jk_lo
    by_cases hb : bt s k = true
    · rw [if_pos hb]
      constructor
      · intro q; cases q; exact ⟨Nat.le_refl _, by omega, hb, fun i h1 h2 => by omega⟩
      · rintro ⟨h1, h2, h3, h4⟩
        by_cases hk : k = j
        · rw [hk]
        · have := h4 k (Nat.le_refl _) (by omega)
          rw [hb] at this; cases this
    · rw [if_neg hb, jk_lo_some]
      constructor
      · rintro ⟨h1, h2, h3, h4⟩
        refine ⟨by omega, by omega, h3, fun i h5 h6 => ?_⟩
        by_cases hi : i = k
        · rw [hi]; simpa using hb
        · exact h4 i (by omega) h6
      · rintro ⟨h1, h2, h3, h4⟩
        have hk : k ≠ j := fun q => hb (q ▸ h3)
        exact ⟨by omega, by omega, h3, fun i h5 h6 => h4 i (by omega) h6⟩
theorem jk_lo_none {s : Int32} : ∀ {m k : Nat}, jk_lo s m k = none ↔ ∀ i, k ≤ i → i < k + m → bt s i = false
  | 0, k => ⟨fun _ i h1 h2 => by omega, fun _ => rfl⟩
  | m + 1, k => by
    unfold jk_lo
    by_cases hb : bt s k = true
    · rw [if_pos hb]
      constructor
      · intro q; cases q
      · intro q; rw [q k (Nat.le_refl _) (by omega)] at hb; cases hb
    · rw [if_neg hb, jk_lo_none]
      constructor
      · intro q i h1 h2
        by_cases hi : i = k
        · rw [hi]; simpa using hb
        · exact q i (by omega) (by omega)
      · intro q i h1 h2
        exact q i (by omega) (by omega)
theorem lo_some {s : Int32} {j : Nat} : lo s = some j ↔ j < 12 ∧ bt s j = true ∧ ∀ i, i < j → bt s i = false := by
  unfold lo
  rw [jk_lo_some]
  constructor
  · rintro ⟨h1, h2, h3, h4⟩; exact ⟨by omega, h3, fun i hi => h4 i (by omega) hi⟩
  · rintro ⟨h1, h2, h3⟩; exact ⟨by omega, by omega, h2, fun i _ hi => h3 i hi⟩
theorem lo_none {s : Int32} : lo s = none ↔ ∀ i, i < 12 → bt s i = false := by
  unfold lo
  rw [jk_lo_none]
  constructor
  · intro q i hi; exact q i (by omega) (by omega)
  · intro q i _ hi; exact q i (by omega)
theorem jk_hi_some {s : Int32} : ∀ {m j : Nat}, jk_hi s m = some j ↔ j < m ∧ bt s j = true ∧ ∀ i, j < i → i < m → bt s i = false
  | 0, j => by
    unfold jk_hi
    constructor
    · intro q; cases q
    · rintro ⟨h1, -⟩; omega
  | m + 1, j => by
    unfold jk_hi
    by_cases hb : bt s m = true
    · rw [if_pos hb]
      constructor
      · intro q; cases q; exact ⟨by omega, hb, fun i h1 h2 => by omega⟩
      · rintro ⟨h1, h2, h3⟩
        by_cases hk : m = j
        · rw [hk]
        · have := h3 m (by omega) (by omega)
          rw [hb] at this; cases this
    · rw [if_neg hb, jk_hi_some]
      constructor
      · rintro ⟨h1, h2, h3⟩
        refine ⟨by omega, h2, fun i h5 h6 => ?_⟩
        by_cases hi : i = m
        · rw [hi]; simpa using hb
        · exact h3 i h5 (by omega)
      · rintro ⟨h1, h2, h3⟩
        have hk : m ≠ j := fun q => hb (q ▸ h2)
        exact ⟨by omega, h2, fun i h5 h6 => h3 i h5 (by omega)⟩
theorem jk_hi_none {s : Int32} : ∀ {m : Nat}, jk_hi s m = none ↔ ∀ i, i < m → bt s i = false
  | 0 => ⟨fun _ i h1 => by omega, fun _ => rfl⟩
  | m + 1 => by
    unfold jk_hi
    by_cases hb : bt s m = true
    · rw [if_pos hb]
      constructor
      · intro q; cases q
      · intro q; rw [q m (by omega)] at hb; cases hb
    · rw [if_neg hb, jk_hi_none]
      constructor
      · intro q i h1
        by_cases hi : i = m
        · rw [hi]; simpa using hb
        · exact q i (by omega)
      · intro q i h1
        exact q i (by omega)
theorem hi_some {s : Int32} {j : Nat} : hi s = some j ↔ j < 12 ∧ bt s j = true ∧ ∀ i, j < i → i < 12 → bt s i = false := jk_hi_some
theorem hi_none {s : Int32} : hi s = none ↔ ∀ i, i < 12 → bt s i = false := jk_hi_none
theorem cl_leastOf_l (d : Nat) (s : Int32) : ∀ (m k : Nat), k + m = 12 → jb_67 rc d 2 [(0, .int s), (1, .int (Int32.ofNat k))] [] h = some (some (.int (jk_on (jk_lo s m k))), h)
  | 0, k, e => by
    obtain rfl : k = 12 := by omega
    rw [je_67_2]; rfl
  | m + 1, k, e => by
    have hk : k < 12 := by omega
    rw [je_67_2, if_neg (jk_n12 hk), bt_sr _ (by omega), jk_ite, jk_succ]
    unfold jk_lo
    split
    · rfl
    · exact cl_leastOf_l d s m (k + 1) (by omega)
theorem cl_leastOf (d : Nat) (s : Int32) : jx_C rc (d + 1) 67 [.int s] h = some (some (.int (jk_on (lo s))), h) := by
  rw [je_67]; exact cl_leastOf_l d s 12 0 (by omega)
theorem jk_dec (k : Nat) : Int32.ofNat (k + 1) + (-1) = Int32.ofNat k := by
  rw [← jk_succ, Int32.add_assoc]; simp
theorem cl_greatestOf_l (d : Nat) (s : Int32) : ∀ (m : Nat), m < 12 → jb_68 rc d 2 [(0, .int s), (1, .int (Int32.ofNat m))] [] h = some (some (.int (jk_on (jk_hi s (m + 1)))), h)
  | 0, e => by
    rw [je_68_2, if_neg (jk_nn (by omega)), bt_sr _ (by omega), jk_ite]
    unfold jk_hi
    split
    · rfl
    · rw [je_68_2, if_pos (by decide)]; rfl
  | m + 1, e => by
    rw [je_68_2, if_neg (jk_nn (by omega)), bt_sr _ (by omega), jk_ite, jk_dec]
    conv => rhs; unfold jk_hi
    split
    · rfl
    · exact cl_greatestOf_l d s m (by omega)
theorem cl_greatestOf (d : Nat) (s : Int32) : jx_C rc (d + 1) 68 [.int s] h = some (some (.int (jk_on (hi s))), h) := by
  rw [je_68]; exact cl_greatestOf_l d s 11 (by omega)
-- the reference's
theorem jk_l64 (x y : Int32) : (x.toInt64 < y.toInt64) ↔ x < y := by
  rw [Int64.lt_iff_toInt_lt, Int32.lt_iff_toInt_lt, Int32.toInt_toInt64, Int32.toInt_toInt64]
theorem jk_le64 (x y : Int32) : (x.toInt64 ≤ y.toInt64) ↔ x ≤ y := by
  rw [Int64.le_iff_toInt_le, Int32.le_iff_toInt_le, Int32.toInt_toInt64, Int32.toInt_toInt64]
def jp_bt (v a b : Int64) : Bool := if v < a then false else if b < v then false else true
theorem lg_lt0 (x y : Int64) : (lg_cmp x y < 0) ↔ x < y := by
  have h := lg_cmp_ge x y
  constructor
  · intro q
    rw [Int64.lt_iff_toInt_lt]
    rw [Int64.le_iff_toInt_le] at h
    have : ¬ (0 : Int32) ≤ lg_cmp x y := by rw [Int32.le_iff_toInt_le]; rw [Int32.lt_iff_toInt_lt] at q; omega
    have := mt h.mpr this
    omega
  · intro q
    rw [Int32.lt_iff_toInt_lt]
    have : ¬ (0 : Int32) ≤ lg_cmp x y := fun w => by
      have := h.mp w
      rw [Int64.le_iff_toInt_le] at this
      rw [Int64.lt_iff_toInt_lt] at q
      omega
    rw [Int32.le_iff_toInt_le] at this
    omega
theorem lg_gt0 (x y : Int64) : (0 < lg_cmp x y) ↔ y < x := by
  have h := lg_cmp_le x y
  constructor
  · intro q
    rw [Int64.lt_iff_toInt_lt]
    rw [Int64.le_iff_toInt_le] at h
    have : ¬ lg_cmp x y ≤ 0 := by rw [Int32.le_iff_toInt_le]; rw [Int32.lt_iff_toInt_lt] at q; omega
    have := mt h.mpr this
    omega
  · intro q
    rw [Int32.lt_iff_toInt_lt]
    have : ¬ lg_cmp x y ≤ 0 := fun w => by
      have := h.mp w
      rw [Int64.le_iff_toInt_le] at this
      rw [Int64.lt_iff_toInt_lt] at q
      omega
    rw [Int32.le_iff_toInt_le] at this
    omega
theorem lg_eq0 (x y : Int64) : (lg_cmp x y = 0) ↔ x = y := by
  have h1 := lg_cmp_le x y
  have h2 := lg_cmp_ge x y
  rw [← Int32.toInt_inj, ← Int64.toInt_inj]
  rw [Int32.le_iff_toInt_le, Int64.le_iff_toInt_le] at h1 h2
  have h0 : (0 : Int32).toInt = 0 := by decide
  rw [h0] at h1 h2 ⊢
  constructor
  · intro q; have a := h1.mp (by omega); have b := h2.mp (by omega); omega
  · intro q; have a := h1.mpr (by omega); have b := h2.mpr (by omega); omega
theorem rf_in (d : Nat) (v a b : Int64) : jx_C rc (d + 1) 72 [.long v, .long a, .long b] h = some (some (.int (jk_b (jp_bt v a b))), h) := by
  rw [je_72]; unfold jp_bt
  simp only [lg_lt0, lg_gt0, jk_r0, jk_r1, if_true]; repeat' split
  all_goals rfl
theorem jp_bt_place (p : Int32) : jp_bt p.toInt64 0 11 = jp_place p := by
  unfold jp_bt jp_place
  rw [show (0 : Int64) = (0 : Int32).toInt64 from rfl, show (11 : Int64) = (11 : Int32).toInt64 from rfl]
  simp only [jk_l64]
  have : ((11 : Int32) < p) ↔ (12 : Int32) ≤ p := by
    rw [Int32.lt_iff_toInt_lt, Int32.le_iff_toInt_le, show (11 : Int32).toInt = 11 from rfl, show (12 : Int32).toInt = 12 from rfl]
    omega
  simp only [this]
theorem jp_bt_wt (p : Int32) : jp_bt p.toInt64 (-30) 30 = jp_wt p := by
  unfold jp_bt jp_wt
  rw [show (-30 : Int64) = (-30 : Int32).toInt64 from rfl, show (30 : Int64) = (30 : Int32).toInt64 from rfl]
  simp only [jk_l64]
theorem rf_has (d : Nat) (s : Int32) {k : Nat} (hk : k < 32) : jx_C rc (d + 1) 75 [.int s, .int (Int32.ofNat k)] h = some (some (.int (jk_b (bt s k))), h) := by
  rw [je_75, bt_sr _ hk]
  cases bt s k <;> rfl
theorem rf_many_l (d : Nat) (s : Int32) : ∀ (m k : Nat), k + m = 12 → jb_76 rc d 4 [(0, .int s), (1, .int (Int32.ofNat ((List.range k).countP (bt s)))), (2, .int (Int32.ofNat k))] [] h = some (some (.int (Int32.ofNat (bc s))), h)
  | 0, k, e => by
    obtain rfl : k = 12 := by omega
    rw [je_76_4]; rfl
  | m + 1, k, e => by
    have hk : k < 12 := by omega
    rw [je_76_4, if_neg (jk_n12 hk), bt_sr _ (by omega), jk_succ]
    have : Int32.ofNat ((List.range k).countP (bt s)) + jk_b (bt s k) = Int32.ofNat ((List.range (k + 1)).countP (bt s)) := by
      rw [List.range_succ, List.countP_append]
      cases hb : bt s k
      · simp [hb, jk_b, List.countP_cons]
      · simp [hb, jk_b, List.countP_cons]
    rw [this]
    exact rf_many_l d s m (k + 1) (by omega)
theorem rf_many (d : Nat) (s : Int32) : jx_C rc (d + 1) 76 [.int s] h = some (some (.int (Int32.ofNat (bc s))), h) := by
  rw [je_76]; exact rf_many_l d s 12 0 (by omega)
/-- the lowest bit of a number that has one below 32 -/
theorem rf_lowest_l (d : Nat) (s : Int32) {j : Nat} (hj : j < 32) (hb : bt s j = true) (hl : ∀ i, i < j → bt s i = false) : ∀ (m k : Nat), k + m = j → jb_77 rc (d + 1) 2 [(0, .int s), (1, .int (Int32.ofNat k))] [] h = some (some (.int (Int32.ofNat j)), h)
  | 0, k, e => by
    obtain rfl : k = j := by omega
    rw [je_77_2, rf_has d s hj, hb, jk_cI, jk_ite, if_pos rfl]
  | m + 1, k, e => by
    rw [je_77_2, rf_has d s (by omega), hl k (by omega), jk_cI, jk_ite, if_neg (by decide), jk_succ]
    exact rf_lowest_l d s hj hb hl m (k + 1) (by omega)
theorem rf_lowest (d : Nat) {s : Int32} {j : Nat} (hs : lo s = some j) : jx_C rc (d + 2) 77 [.int s] h = some (some (.int (Int32.ofNat j)), h) := by
  obtain ⟨h1, h2, h3⟩ := lo_some.mp hs
  rw [je_77]; exact rf_lowest_l d s (by omega) h2 h3 j 0 (by omega)
theorem rf_lowest' (d : Nat) {s : Int32} {j : Nat} (hj : j < 32) (h2 : bt s j = true) (h3 : ∀ i, i < j → bt s i = false) : jx_C rc (d + 2) 77 [.int s] h = some (some (.int (Int32.ofNat j)), h) := by
  rw [je_77]; exact rf_lowest_l d s hj h2 h3 j 0 (by omega)
end
