/-! WU: the reference -/
theorem bt0_nat (x : Int32) : bt x 0 = decide (x.toBitVec.toNat % 2 = 1) := by
  unfold bt
  rw [BitVec.getLsbD, Nat.testBit_zero]
theorem bt0_add (x y : Int32) : bt (x + y) 0 = (bt x 0 ^^ bt y 0) := by
  rw [bt0_nat, bt0_nat, bt0_nat, Int32.toBitVec_add, BitVec.toNat_add]
  have h : (x.toBitVec.toNat + y.toBitVec.toNat) % 2 ^ 32 % 2 = (x.toBitVec.toNat + y.toBitVec.toNat) % 2 := Nat.mod_mod_of_dvd _ (by decide)
  rw [h]
  rcases Nat.mod_two_eq_zero_or_one x.toBitVec.toNat with a | a <;> rcases Nat.mod_two_eq_zero_or_one y.toBitVec.toNat with b | b <;> simp [Nat.add_mod, a, b]
theorem bt0_sub (x y : Int32) : bt (x - y) 0 = (bt x 0 ^^ bt y 0) := by
  have h := bt0_add (x - y) y
  rw [Int32.sub_add_cancel] at h
  rw [h]
  cases bt (x - y) 0 <;> cases bt y 0 <;> rfl
theorem and1 (x : Int32) : (x &&& 1 = 0) ↔ bt x 0 = false := by
  have := bt_sr x (k := 0) (by decide)
  have e0 : x >>> (Int32.ofNat 0 &&& 31) = x := by
    rw [show (Int32.ofNat 0 &&& 31) = 0 from rfl]; simp
  rw [e0] at this
  rw [this]
  cases bt x 0
  · simp [jk_b]
  · simp [jk_b]
theorem xr_count (g : Nat → Bool) : ∀ n, xr g n = decide ((List.range n).countP g % 2 = 1)
  | 0 => rfl
  | n + 1 => by
    show (xr g n ^^ g n) = _
    rw [xr_count g n, List.range_succ, List.countP_append]
    rcases Nat.mod_two_eq_zero_or_one ((List.range n).countP g) with a | a <;> cases b : g n <;> simp [Nat.add_mod, a, b]
theorem bt0_bc (z : Int32) : bt (Int32.ofNat (bc z)) 0 = xr (bt z) 12 := by
  have := bc_le z
  rw [bt_ofNat (by omega), Nat.testBit_zero, xr_count]
  rfl
/-- how often from a on -/
def wu_many (f : jF) (n : Nat) : Nat := cnt (fun x => wu_is f (Int32.ofNat x)) 0 n
section
variable {rc : Nat → Nat × (Nat → Int32)} {h h' : jxH} {f : jF} {σ : jSt} {x : Int32}
theorem wu_cond (B : jf_B f) {p : Nat} (hp : p < 12) (x v : Int32) (hv : v = (if bt x p = true then f.1 p else 0)) : (((Int32.ofNat (bc (f.2.1 p &&& x)) + v) - f.1 p) &&& 1 = 0) ↔ eqv (wu_row f p) x = false := by
  rw [and1, bt0_sub, bt0_add, bt0_bc]
  have e : eqv (wu_row f p) x = ((xr (bt (f.2.1 p &&& x)) 12 ^^ bt v 0) ^^ bt (f.1 p) 0) := by
    unfold eqv
    rw [wu_row_12 B hp, xr_congr (h := fun j => bt (f.2.1 p &&& x) j ^^ (decide (j = p) && (bt x p && bt (f.1 p) 0))) (fun j hj => ?_), xr_add, xr_delta (fun _ => bt x p && bt (f.1 p) 0) hp, hv]
    · cases z : bt x p
      · rw [if_neg (by simp), bt_0]; simp
      · rw [if_pos rfl]; simp
    · rw [wu_row_bt B hp hj, bt_and]
      by_cases z : j = p
      · subst z
        rw [B.irr hp, decide_eq_true rfl]
        cases bt x j <;> cases bt (f.1 j) 0 <;> rfl
      · rw [decide_eq_false z]
        cases bt x j <;> cases bt (f.2.1 p) j <;> rfl
  rw [e]
theorem eqv_0 (S : Int32) : eqv 0 S = false := by
  unfold eqv
  rw [xr_congr (h := fun _ => false) (fun j _ => by rw [bt_0]; simp), xr_0, bt_0]; rfl
theorem wu_row_out (B : jf_B f) {p : Nat} (hp : p < 12) (hs : bt f.2.2 p = false) : wu_row f p = 0 := by
  obtain ⟨a, b⟩ := B.abs hp hs
  unfold wu_row
  rw [a, b]
  simp
theorem rr_isWu_l (R : RSt h σ) (A : AWt σ) (x : Int32) (d : Nat) : ∀ (m p : Nat), p + m = 12 → jb_137 rc (d + 1) 2 [(0, .ref 336), (1, .int x), (2, .int (Int32.ofNat p))] [] h = some (some (.int (jk_b (decide (∀ i : Nat, i < 12 → p ≤ i → eqv (wu_row (sF σ) i) x = false)))), h)
  | 0, p, e => by
    obtain rfl : p = 12 := by omega
    rw [je_137_2, if_pos (by decide), if_pos jk_b1, decide_eq_true (fun i h1 h2 => by omega)]; rfl
  | m + 1, p, e => by
    have hp : p < 12 := by omega
    have B := A.B
    have ih := rr_isWu_l R A x d m (p + 1) (by omega)
    have one : eqv (wu_row (sF σ) p) x = false → decide (∀ i : Nat, i < 12 → p ≤ i → eqv (wu_row (sF σ) i) x = false) = decide (∀ i : Nat, i < 12 → p + 1 ≤ i → eqv (wu_row (sF σ) i) x = false) := fun hh => by
      refine decide_eq_decide.mpr ⟨fun q i h1 h2 => q i h1 (by omega), fun q i h1 h2 => ?_⟩
      by_cases z : i = p
      · rw [z]; exact hh
      · exact q i h1 (by omega)
    have two : ¬ eqv (wu_row (sF σ) p) x = false → decide (∀ i : Nat, i < 12 → p ≤ i → eqv (wu_row (sF σ) i) x = false) = false := fun hh => decide_eq_false fun q => hh (q p hp (Nat.le_refl _))
    rw [je_137_2, if_neg (jk_n12 hp), R.g1, jk_bs, ro_0 R.F, jk_bs, rf_has _ _ (by omega), jk_cI, jk_if0]
    by_cases sp : bt (sF σ).2.2 p = true
    · rw [if_pos sp, R.g1, jk_bs, ro_n R.F hp, jk_bs, rf_many, jk_cI, rf_has _ _ (by omega), jk_cI, jk_if0]
      by_cases bp : bt x p = true
      · rw [if_pos bp, R.g1, jk_bs, ro_w R.F hp, jk_bs, jk_bs, ro_w R.F hp, jk_bs]
        have c := wu_cond B hp x ((sF σ).1 p) (if_pos bp).symm
        by_cases z : eqv (wu_row (sF σ) p) x = false
        · rw [if_pos (c.mpr z), jk_succ, one z]; exact ih
        · rw [if_neg (fun y => z (c.mp y)), if_pos jk_r0', two z]; rfl
      · rw [if_neg bp, R.g1, jk_bs, ro_w R.F hp, jk_bs]
        have c := wu_cond B hp x 0 (if_neg bp).symm
        by_cases z : eqv (wu_row (sF σ) p) x = false
        · rw [if_pos (c.mpr z), jk_succ, one z]; exact ih
        · rw [if_neg (fun y => z (c.mp y)), if_pos jk_r0', two z]; rfl
    · have sp' : bt (sF σ).2.2 p = false := by cases w : bt (sF σ).2.2 p <;> simp_all
      rw [if_neg sp, jk_succ, one (by rw [wu_row_out B hp sp']; exact eqv_0 x)]
      exact ih
theorem rr_isWu (R : RSt h σ) (A : AWt σ) (x : Int32) (d : Nat) : jx_C rc (d + 2) 137 [.ref 336, .int x] h = some (some (.int (jk_b (decide (∀ i : Nat, i < 12 → eqv (wu_row (sF σ) i) x = false)))), h) := by
  rw [je_137, if_pos R.is]
  have := rr_isWu_l (rc := rc) R A x d 12 0 rfl
  rw [show decide (∀ i : Nat, i < 12 → 0 ≤ i → eqv (wu_row (sF σ) i) x = false) = decide (∀ i : Nat, i < 12 → eqv (wu_row (sF σ) i) x = false) from decide_eq_decide.mpr ⟨fun q i h1 => q i h1 (Nat.zero_le _), fun q i h1 _ => q i h1⟩] at this
  exact this
theorem rr_manyWu_l (R : RSt h σ) (A : AWt σ) (d : Nat) : ∀ (m x n : Nat), x + m = 4096 → n ≤ x → jb_139 rc (d + 2) 4 [(0, .ref 336), (1, .int (Int32.ofNat n)), (2, .int (Int32.ofNat x))] [] h = some (some (.int (Int32.ofNat (n + cnt (fun x => wu_is (sF σ) (Int32.ofNat x)) x m))), h)
  | 0, x, n, e, hn => by
    obtain rfl : x = 4096 := by omega
    rw [je_139_4, if_pos (by decide)]; rfl
  | m + 1, x, n, e, hn => by
    rw [je_139_4, if_neg (by rw [show (4096 : Int32) = Int32.ofNat 4096 from rfl, jk_le (by decide) (by omega)]; omega), R.g1, jk_bs, ro_0 R.F, jk_bs]
    have c : cnt (fun x => wu_is (sF σ) (Int32.ofNat x)) x (m + 1) = (if wu_is (sF σ) (Int32.ofNat x) = true then 1 else 0) + cnt (fun x => wu_is (sF σ) (Int32.ofNat x)) (x + 1) m := rfl
    rw [c]
    have z0 : Int32.ofNat n + 0 = Int32.ofNat n := Int32.add_zero _
    by_cases c1 : Int32.ofNat x &&& ((sF σ).2.2 ^^^ (-1)) = 0
    · rw [if_pos c1, rr_isWu R A, jk_cI, jk_if0]
      by_cases c2 : ∀ i : Nat, i < 12 → eqv (wu_row (sF σ) i) (Int32.ofNat x) = false
      · have w : wu_is (sF σ) (Int32.ofNat x) = true := by unfold wu_is; rw [decide_eq_true c1, decide_eq_true c2]; rfl
        rw [if_pos (decide_eq_true c2), if_pos w, jk_succ, jk_succ, rr_manyWu_l R A d m (x + 1) (n + 1) (by omega) (by omega), ← Nat.add_assoc]
      · have w : ¬ wu_is (sF σ) (Int32.ofNat x) = true := by unfold wu_is; rw [decide_eq_false c2]; simp
        rw [if_neg (fun y => c2 (of_decide_eq_true y)), if_neg w, z0, jk_succ, Nat.zero_add]
        exact rr_manyWu_l R A d m (x + 1) n (by omega) (by omega)
    · have w : ¬ wu_is (sF σ) (Int32.ofNat x) = true := by unfold wu_is; rw [decide_eq_false c1]; simp
      rw [if_neg c1, if_neg w, z0, jk_succ, Nat.zero_add]
      exact rr_manyWu_l R A d m (x + 1) n (by omega) (by omega)
theorem rr_leastWu_l (R : RSt h σ) (A : AWt σ) {s : Nat} (hs : s < 4096) (w1 : wu_is (sF σ) (Int32.ofNat s) = true) (w2 : ∀ x, x < s → wu_is (sF σ) (Int32.ofNat x) = false) (d : Nat) : ∀ (m x : Nat), x + m = s → jb_138 rc (d + 2) 2 [(0, .ref 336), (1, .int (Int32.ofNat x))] [] h = some (some (.int (Int32.ofNat s)), h)
  | 0, x, e => by
    obtain rfl : x = s := by omega
    unfold wu_is at w1
    rw [Bool.and_eq_true, decide_eq_true_iff, decide_eq_true_iff] at w1
    rw [je_138_2, R.g1, jk_bs, ro_0 R.F, jk_bs, if_pos w1.1, rr_isWu R A, jk_cI, jk_if0, if_pos (decide_eq_true w1.2)]
  | m + 1, x, e => by
    have ih := rr_leastWu_l R A hs w1 w2 d m (x + 1) (by omega)
    have z := w2 x (by omega)
    rw [je_138_2, R.g1, jk_bs, ro_0 R.F, jk_bs]
    by_cases c1 : Int32.ofNat x &&& ((sF σ).2.2 ^^^ (-1)) = 0
    · have c2 : ¬ ∀ i : Nat, i < 12 → eqv (wu_row (sF σ) i) (Int32.ofNat x) = false := fun q => by
        unfold wu_is at z
        rw [decide_eq_true c1, decide_eq_true q] at z; cases z
      rw [if_pos c1, rr_isWu R A, jk_cI, jk_if0, if_neg (fun y => c2 (of_decide_eq_true y)), jk_succ]
      exact ih
    · rw [if_neg c1, jk_succ]
      exact ih
theorem rr_leastWu (R : RSt h σ) (A : AWt σ) (d : Nat) : jx_C rc (d + 3) 138 [.ref 336] h = some (some (.int (wu_L (wu_E (sF σ)).1 (wu_E (sF σ)).2)), h) := by
  obtain ⟨pv, J⟩ := wu_J (sF σ)
  obtain ⟨s, s1, s2⟩ := S12_nat (wu_L_S J)
  have := rr_leastWu_l (rc := rc) R A s1 (by rw [← s2]; exact wu_L_is A.B J) (fun x hx => wu_L_least A.B J s1 s2 hx) d s 0 (by omega)
  rw [je_138, if_pos R.is, s2]
  exact this
theorem rr_wu (R : RSt h σ) (A : AWt σ) (x : Int32) : ∃ h', (∀ d, jx_C rc (d + 20) 140 [.ref 336, .int x] h = some (some (.int (op_wu σ x).1), h')) ∧ RSt h' (op_wu σ x).2 ∧ rF h h' := by
  unfold op_wu
  obtain ⟨pv, J⟩ := wu_J (sF σ)
  by_cases z : x = 0
  · have c0 : jp_part x = true := by rw [z]; decide
    rw [if_pos c0, if_pos z]
    refine ⟨h, fun d => ?_, R, Fr.rfl⟩
    have := rr_manyWu_l (rc := rc) R A (d + 16) 4096 0 0 rfl (Nat.le_refl _)
    rw [Nat.zero_add, (wu_cnt A.B J).1] at this
    rw [je_140, if_pos R.is, if_pos z, je_139, if_pos R.is]
    have this : jb_139 rc (d + 18) 4 [(0, .ref 336), (1, .int (0 : Int32)), (2, .int (0 : Int32))] [] h = _ := this
    rw [this, jk_cI]
  · by_cases z1 : x = 1
    · have c0 : jp_part x = true := by rw [z1]; decide
      rw [if_pos c0, if_neg z]
      refine ⟨h, fun d => ?_, R, Fr.rfl⟩
      rw [je_140, if_pos R.is, if_neg z, if_pos z1, rr_leastWu R A, jk_cI]
    · have c0 : ¬ jp_part x = true := by unfold jp_part; rw [if_neg z, if_neg z1]; simp
      rw [if_neg c0]
      obtain ⟨e', e1, e2, e3⟩ := rr_error (rc := rc) R A (k := 1) (by decide) (K := 1) rfl
      refine ⟨e', fun d => ?_, e2, e3⟩
      rw [je_140, if_pos R.is, if_neg z, if_neg z1, e1, jk_cI]
end
