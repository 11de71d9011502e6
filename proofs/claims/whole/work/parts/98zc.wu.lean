/-! WU: of a forest -/
def wu_row (f : jF) (p : Nat) : Int32 := (f.2.1 p ||| ((f.1 p &&& 1) <<< (Int32.ofNat p &&& 31))) ||| ((f.1 p &&& 1) <<< ((12 : Int32) &&& 31))
/-- rows, how many have a pivot -/
def wu_E (f : jF) : (Nat → Int32) × Nat := el 12 0 (wu_row f) 0
/-- the least solution -/
def wu_L (R : Nat → Int32) : Nat → Int32
  | 0 => 0
  | n + 1 => if bt (R n) 12 = true then wu_L R n ||| jk_bit ((lo (R n)).getD 0) else wu_L R n
/-- is a set a solution -/
def wu_is (f : jF) (x : Int32) : Bool := decide (x &&& (f.2.2 ^^^ (-1)) = 0) && decide (∀ p : Nat, p < 12 → eqv (wu_row f p) x = false)
theorem bt_low1 (w : Int32) (p : Nat) (hp : p < 32) (l : Nat) (hl : l < 32) : bt ((w &&& 1) <<< (Int32.ofNat p &&& 31)) l = (decide (l = p) && bt w 0) := by
  have e : w &&& 1 = 0 ∨ w &&& 1 = 1 := by
    have := bt_sr w (k := 0) (by decide)
    have e0 : w >>> (Int32.ofNat 0 &&& 31) = w := by
      rw [show (Int32.ofNat 0 &&& 31) = 0 from rfl]; simp
    rw [e0] at this
    rw [this]
    cases bt w 0
    · exact Or.inl rfl
    · exact Or.inr rfl
  have b0 : bt w 0 = bt (w &&& 1) 0 := by rw [bt_and]; simp [show bt 1 0 = true by decide]
  rcases e with e | e
  · rw [b0, e]
    rw [show (0 : Int32) <<< (Int32.ofNat p &&& 31) = 0 by simp, bt_0, bt_0]
    simp
  · rw [b0, e]
    show bt (jk_bit p) l = _
    rw [bt_bit hp hl, show bt 1 0 = true by decide]
    simp
section
variable {f : jF} {R : Nat → Int32} {k : Nat} {pv : Nat → Nat}
theorem wu_row_bt (B : jf_B f) {p l : Nat} (hp : p < 12) (hl : l < 12) : bt (wu_row f p) l = (bt (f.2.1 p) l || (decide (l = p) && bt (f.1 p) 0)) := by
  unfold wu_row
  rw [bt_or, bt_or, bt_low1 _ p (by omega) l (by omega), show (12 : Int32) = Int32.ofNat 12 from rfl, bt_low1 _ 12 (by omega) l (by omega), decide_eq_false (show ¬ l = 12 by omega)]
  simp
theorem wu_row_12 (B : jf_B f) {p : Nat} (hp : p < 12) : bt (wu_row f p) 12 = bt (f.1 p) 0 := by
  unfold wu_row
  rw [bt_or, bt_or, bt_low1 _ p (by omega) 12 (by omega), show (12 : Int32) = Int32.ofNat 12 from rfl, bt_low1 _ 12 (by omega) 12 (by omega), B.n p hp 12 (by omega), decide_eq_false (show ¬ 12 = p by omega)]
  simp
theorem wu_sym (B : jf_B f) {p l : Nat} (hp : p < 12) (hl : l < 12) : bt (wu_row f p) l = bt (wu_row f l) p := by
  rw [wu_row_bt B hp hl, wu_row_bt B hl hp, B.sym hp hl]
  by_cases z : l = p
  · subst z; rfl
  · rw [decide_eq_false z, decide_eq_false (fun w => z w.symm)]; simp
theorem wu_own (B : jf_B f) {p : Nat} (hp : p < 12) : bt (wu_row f p) 12 = bt (wu_row f p) p := by
  rw [wu_row_12 B hp, wu_row_bt B hp hp, B.irr hp]; simp
theorem wu_out (B : jf_B f) {p l : Nat} (hp : p < 12) (hl : l < 12) (h : bt f.2.2 l = false) : bt (wu_row f p) l = false := by
  rw [wu_sym B hp hl, wu_row_bt B hl hp]
  obtain ⟨a, b⟩ := B.abs hl h
  rw [a, b, bt_0, bt_0]; simp
/-- a row of noughts asks for nothing -/
theorem wu_zero (B : jf_B f) (J : el_J (wu_row f) 12 R k pv) {i : Nat} (h1 : k ≤ i) (h2 : i < 12) : bt (R i) 12 = false := by
  obtain ⟨a1, -, -, -, a5, -⟩ := J
  obtain ⟨Y, y⟩ := a1 i h2
  rw [y 12 (by omega), xr_congr (h := fun j => Y j && (Y j && bt (wu_row f j) j)) (fun j hj => by rw [wu_own B hj]; cases Y j <;> rfl)]
  have s := xr_diag (n := 12) (g := fun j l => Y j && (Y l && bt (wu_row f j) l)) (fun j l hj hl => by rw [wu_sym B hj hl]; cases Y j <;> cases Y l <;> rfl)
  rw [← s, xr_swap, xr_congr (h := fun _ => false) (fun l hl => ?_), xr_0]
  have z := a5 i h1 h2 l hl
  rw [y l (by omega)] at z
  rw [xr_congr (g := fun j => Y j && (Y l && bt (wu_row f j) l)) (h := fun j => Y l && (Y j && bt (wu_row f j) l)) (fun j _ => by cases Y j <;> cases Y l <;> rfl), xr_and, z]
  simp
theorem wu_pv (B : jf_B f) (J : el_J (wu_row f) 12 R k pv) {i : Nat} (hi : i < k) : bt f.2.2 (pv i) = true := by
  obtain ⟨a1, -, -, a4, -, a6⟩ := J
  obtain ⟨b1, b2, -⟩ := a4 i hi
  obtain ⟨Y, y⟩ := a1 i (by omega)
  cases w : bt f.2.2 (pv i)
  · rw [y _ (by omega), xr_congr (h := fun _ => false) (fun j hj => by rw [wu_out B hj b1 w]; simp), xr_0] at b2
    cases b2
  · rfl
theorem wu_lo (J : el_J (wu_row f) 12 R k pv) {i : Nat} (hi : i < k) : lo (R i) = some (pv i) := by
  obtain ⟨b1, b2, b3, -⟩ := J.2.2.2.1 i hi
  exact lo_some.mpr ⟨b1, b2, b3⟩
theorem wu_L_bt (J : el_J (wu_row f) 12 R k pv) : ∀ {n : Nat}, n ≤ k → ∀ j, j < 32 → (bt (wu_L R n) j = true ↔ ∃ i, i < n ∧ pv i = j ∧ bt (R i) 12 = true)
  | 0, hn, j, hj => by unfold wu_L; rw [bt_0]; simp
  | n + 1, hn, j, hj => by
    have ih := wu_L_bt J (n := n) (by omega) j hj
    have l := wu_lo J (show n < k by omega)
    have p12 := (J.2.2.2.1 n (by omega)).1
    unfold wu_L
    by_cases z : bt (R n) 12 = true
    · rw [if_pos z, l, bt_or, Bool.or_eq_true, ih]
      show _ ∨ bt (jk_bit (pv n)) j = true ↔ _
      rw [bt_bit (by omega) hj, decide_eq_true_iff]
      constructor
      · rintro (⟨i, a, b⟩ | h)
        · exact ⟨i, by omega, b⟩
        · exact ⟨n, by omega, h.symm, z⟩
      · rintro ⟨i, a, b, c⟩
        by_cases w : i = n
        · subst w; exact Or.inr b.symm
        · exact Or.inl ⟨i, by omega, b, c⟩
    · rw [if_neg z, ih]
      constructor
      · rintro ⟨i, a, b⟩; exact ⟨i, by omega, b⟩
      · rintro ⟨i, a, b, c⟩
        by_cases w : i = n
        · subst w; exact absurd c z
        · exact ⟨i, by omega, b, c⟩
theorem wu_L_S (J : el_J (wu_row f) 12 R k pv) : S12 (wu_L R k) := fun j hj => by
  by_cases h32 : j < 32
  · cases w : bt (wu_L R k) j
    · rfl
    · obtain ⟨i, a, b, c⟩ := (wu_L_bt J (Nat.le_refl _) j h32).mp w
      have := (J.2.2.2.1 i a).1
      omega
  · exact bt_big _ (by omega)
theorem sub_iff0 {x y : Int32} : x &&& (y ^^^ (-1)) = 0 ↔ ∀ j, j < 32 → bt x j = true → bt y j = true := by
  constructor
  · intro h j hj hx
    have : bt (x &&& (y ^^^ (-1))) j = bt 0 j := by rw [h]
    rw [bt_and, bt_not _ hj, hx, bt_0] at this
    simpa using this
  · intro h
    refine bt_ext fun j hj => ?_
    rw [bt_and, bt_not _ hj, bt_0]
    cases w : bt x j
    · rfl
    · rw [h j hj w]; rfl
/-- the solutions by the last rows -/
theorem wu_is_iff (B : jf_B f) (J : el_J (wu_row f) 12 R k pv) {x : Int32} (hx : S12 x) : wu_is f x = true ↔ oka f.2.2 R pv k x 12 = true := by
  have rows : (∀ p : Nat, p < 12 → eqv (wu_row f p) x = false) ↔ ∀ i, i < k → eqv (R i) x = false := by
    constructor
    · intro h i hi
      exact J.2.2.1 x h i (by have := J.2.2.2.2.2; omega)
    · intro h
      refine J.2.1 x fun i hi => ?_
      rcases Nat.lt_or_ge i k with z | z
      · exact h i z
      · unfold eqv
        rw [wu_zero B J z hi, xr_congr (h := fun _ => false) (fun j hj => by rw [J.2.2.2.2.1 i z hi j hj]; simp), xr_0]
        rfl
  have all : ∀ m, (oka f.2.2 R pv k x m = true ↔ ∀ j, j < m → okj f.2.2 R pv k x j = true) := by
    intro m
    induction m with
    | zero => exact ⟨fun _ j hj => by omega, fun _ => rfl⟩
    | succ m ih =>
      show (okj f.2.2 R pv k x m && oka f.2.2 R pv k x m) = true ↔ _
      rw [Bool.and_eq_true, ih]
      constructor
      · rintro ⟨a, b⟩ j hj
        by_cases z : j = m
        · subst z; exact a
        · exact b j (by omega)
      · intro h; exact ⟨h m (by omega), fun j hj => h j (by omega)⟩
  unfold wu_is
  rw [Bool.and_eq_true, decide_eq_true_iff, decide_eq_true_iff, sub_iff0, rows, all]
  constructor
  · rintro ⟨a, b⟩ j hj
    unfold okj
    by_cases v : bt f.2.2 j = true
    · rw [if_pos v]
      cases e : pvr pv k j with
      | none => rfl
      | some i => dsimp only; rw [b i (pvr_some e).1]; rfl
    · rw [if_neg v]
      cases w : bt x j
      · rfl
      · exact absurd (a j (by omega) w) v
  · intro h
    refine ⟨fun j hj w => ?_, fun i hi => ?_⟩
    · rcases Nat.lt_or_ge j 12 with z | z
      · have := h j z
        unfold okj at this
        by_cases v : bt f.2.2 j = true
        · exact v
        · rw [if_neg v, w] at this; cases this
      · rw [hx j z] at w; cases w
    · have b1 := (J.2.2.2.1 i hi).1
      have := h (pv i) b1
      unfold okj at this
      rw [if_pos (wu_pv B J hi)] at this
      cases e : pvr pv k (pv i) with
      | none => exact absurd rfl (pvr_none e i hi)
      | some i' =>
        obtain ⟨e1, e2⟩ := pvr_some e
        rw [e] at this
        have same : i' = i := by
          by_cases z : i' = i
          · exact z
          · have q := (J.2.2.2.1 i hi).2.2.2 i' (by have := J.2.2.2.2.2; omega) z
            have q2 := (J.2.2.2.1 i' e1).2.1
            rw [e2, q] at q2; cases q2
        subst same
        simpa using this
/-- the least one is one -/
theorem wu_L_eqv (B : jf_B f) (J : el_J (wu_row f) 12 R k pv) {i : Nat} (hi : i < k) : eqv (R i) (wu_L R k) = false := by
  obtain ⟨b1, b2, b3, b4⟩ := J.2.2.2.1 i hi
  have bl := wu_L_bt J (Nat.le_refl k)
  unfold eqv
  rw [xr_congr (h := fun j => decide (j = pv i) && bt (R i) 12) (fun j hj => ?_), xr_delta (fun _ => bt (R i) 12) b1]
  · cases bt (R i) 12 <;> rfl
  · by_cases z : j = pv i
    · subst z
      rw [b2, decide_eq_true rfl]
      cases w : bt (R i) 12
      · cases y : bt (wu_L R k) (pv i)
        · rfl
        · obtain ⟨i', e1, e2, e3⟩ := (bl _ (by omega)).mp y
          have : i' = i := by
            by_cases z : i' = i
            · exact z
            · have q := b4 i' (by have := J.2.2.2.2.2; omega) z
              have q2 := (J.2.2.2.1 i' e1).2.1
              rw [e2, q] at q2; cases q2
          rw [this, w] at e3; cases e3
      · rw [(bl _ (by omega)).mpr ⟨i, hi, rfl, w⟩]
    · rw [decide_eq_false z]
      cases y : bt (wu_L R k) j
      · rfl
      · obtain ⟨i', e1, e2, e3⟩ := (bl _ (by omega)).mp y
        have ne : i' ≠ i := fun w => z (by rw [← e2, w])
        have := (J.2.2.2.1 i' e1).2.2.2 i (by have := J.2.2.2.2.2; omega) (fun w => ne w.symm)
        rw [e2] at this
        rw [this]; rfl
theorem wu_L_is (B : jf_B f) (J : el_J (wu_row f) 12 R k pv) : wu_is f (wu_L R k) = true := by
  unfold wu_is
  rw [Bool.and_eq_true, decide_eq_true_iff, decide_eq_true_iff, sub_iff0]
  refine ⟨fun j hj w => ?_, J.2.1 _ fun i hi => ?_⟩
  · obtain ⟨i, e1, e2, e3⟩ := (wu_L_bt J (Nat.le_refl k) j hj).mp w
    rw [← e2]; exact wu_pv B J e1
  · rcases Nat.lt_or_ge i k with z | z
    · exact wu_L_eqv B J z
    · unfold eqv
      rw [wu_zero B J z hi, xr_congr (h := fun _ => false) (fun j hj => by rw [J.2.2.2.2.1 i z hi j hj]; simp), xr_0]
      rfl
/-- two numbers below 4096 that differ: a highest bit -/
theorem tb_top {x y : Nat} (hx : x < 4096) (hy : y < 4096) (ne : x ≠ y) : ∃ b, b < 12 ∧ x.testBit b ≠ y.testBit b ∧ ∀ j, b < j → x.testBit j = y.testBit j := by
  have hi : ∀ j, 12 ≤ j → x.testBit j = y.testBit j := fun j hj => by
    rw [Nat.testBit_lt_two_pow (Nat.lt_of_lt_of_le hx (Nat.pow_le_pow_right (n := 2) (by decide) hj)), Nat.testBit_lt_two_pow (Nat.lt_of_lt_of_le hy (Nat.pow_le_pow_right (n := 2) (by decide) hj))]
  have main : ∀ m, (∀ j, m ≤ j → x.testBit j = y.testBit j) → m ≤ 12 → ∃ b, b < 12 ∧ x.testBit b ≠ y.testBit b ∧ ∀ j, b < j → x.testBit j = y.testBit j := by
    intro m
    induction m with
    | zero => exact fun h _ => absurd (Nat.eq_of_testBit_eq fun j => h j (Nat.zero_le _)) ne
    | succ m ih =>
      intro h hm
      by_cases z : x.testBit m = y.testBit m
      · refine ih (fun j hj => ?_) (by omega)
        by_cases w : j = m
        · rw [w]; exact z
        · exact h j (by omega)
      · exact ⟨m, by omega, z, fun j hj => h j (by omega)⟩
  exact main 12 hi (Nat.le_refl _)
theorem tb_less {x y b : Nat} (h1 : x.testBit b = false) (h2 : y.testBit b = true) (h : ∀ j, b < j → x.testBit j = y.testBit j) : x < y := by
  have pos : 0 < (2 : Nat) ^ b := Nat.pow_pos (by decide)
  have e : x / 2 ^ b / 2 = y / 2 ^ b / 2 := Nat.eq_of_testBit_eq fun j => by
    rw [show (2 : Nat) = 2 ^ 1 from rfl]
    rw [Nat.testBit_div_two_pow, Nat.testBit_div_two_pow, Nat.testBit_div_two_pow, Nat.testBit_div_two_pow]
    exact h _ (by omega)
  have a1 : (x / 2 ^ b) % 2 = 0 := by
    have : (x / 2 ^ b).testBit 0 = x.testBit (0 + b) := Nat.testBit_div_two_pow ..
    rw [Nat.zero_add, h1, Nat.testBit_zero] at this
    have := of_decide_eq_false this
    omega
  have a2 : (y / 2 ^ b) % 2 = 1 := by
    have : (y / 2 ^ b).testBit 0 = y.testBit (0 + b) := Nat.testBit_div_two_pow ..
    rw [Nat.zero_add, h2, Nat.testBit_zero] at this
    exact of_decide_eq_true this
  have lt : x / 2 ^ b < y / 2 ^ b := by omega
  exact Nat.lt_of_div_lt_div lt
theorem wu_L_least (B : jf_B f) (J : el_J (wu_row f) 12 R k pv) {s x : Nat} (hs : s < 4096) (es : wu_L R k = Int32.ofNat s) (hx : x < s) : wu_is f (Int32.ofNat x) = false := by
  cases w : wu_is f (Int32.ofNat x)
  · rfl
  · exfalso
    obtain ⟨b, b12, d, u⟩ := tb_top (show x < 4096 by omega) hs (by omega)
    have sol : ∀ i, i < k → eqv (R i) (Int32.ofNat x) = false := fun i hi => by
      unfold wu_is at w
      rw [Bool.and_eq_true, decide_eq_true_iff, decide_eq_true_iff] at w
      exact J.2.2.1 _ w.2 i (by have := J.2.2.2.2.2; omega)
    cases sb : s.testBit b
    · have xb : x.testBit b = true := by cases y : x.testBit b <;> simp_all
      have := tb_less sb xb (fun j hj => (u j hj).symm)
      omega
    · have lb : bt (wu_L R k) b = true := by rw [es, bt_ofNat hs]; exact sb
      obtain ⟨i, e1, e2, e3⟩ := (wu_L_bt J (Nat.le_refl k) b (by omega)).mp lb
      obtain ⟨b1, b2, b3, b4⟩ := J.2.2.2.1 i e1
      have fl := eqv_flip (r := R i) (S := wu_L R k) (S' := Int32.ofNat x) (m := b) b12 (by rw [← e2]; exact b2) (by
        rw [lb, bt_ofNat (by omega)]
        cases y : x.testBit b <;> simp_all) (fun j hj ne hb => by
        rw [es, bt_ofNat hs, bt_ofNat (by omega)]
        rcases Nat.lt_or_ge j b with z | z
        · rw [b3 j (by omega)] at hb; cases hb
        · exact (u j (by omega)).symm)
      rw [wu_L_eqv B J e1, sol i e1] at fl
      cases fl
end
