/-! LINK: both sides -/
theorem lI_div {x : Int} {g : Nat} (h1 : -(2 ^ 62) ≤ x) (h2 : x ≤ 2 ^ 62) (g0 : 0 < g) (g1 : g ≤ 2 ^ 62) : Int64.ofInt x / Int64.ofNat g = Int64.ofInt (x.tdiv g) := by
  have ab := Int.natAbs_tdiv x g
  have le : (x.tdiv g).natAbs ≤ x.natAbs := by rw [ab]; exact Nat.div_le_self _ _
  have t1 : -(2 ^ 62) ≤ x.tdiv g ∧ x.tdiv g ≤ 2 ^ 62 := by omega
  apply Int64.toInt_inj.1
  rw [Int64.toInt_div, lI_int h1 h2, lI_int t1.1 t1.2, jl_int (by omega)]
  exact Int.bmod_eq_of_le (by omega) (by omega)
theorem lI_min {x : Int} (h1 : -(2 ^ 62) ≤ x) (h2 : x ≤ 2 ^ 62) : Int64.ofInt x ≠ Int64.minValue := fun z => by
  have := lI_int h1 h2
  rw [z, show Int64.minValue.toInt = -2 ^ 63 from by decide] at this
  omega
theorem lI_ab {x : Int} (h1 : -(2 ^ 62) ≤ x) (h2 : x ≤ 2 ^ 62) : ab (Int64.ofInt x) = x.natAbs := by
  unfold ab
  rw [lI_int h1 h2]
/-- the common divisor -/
noncomputable def lkG (f : jF) (p q : Nat) : Nat := Nat.gcd (coF f p q).natAbs (MP f f.2.2).natAbs
noncomputable def lkV (f : jF) (p q : Nat) (x : Int) : Int := if 0 ≤ MP f f.2.2 then x.tdiv (lkG f p q) else (-x).tdiv (lkG f p q)
noncomputable def op_link (σ : jSt) (p q w : Int32) : Int32 × jSt := if jF_has (sF σ) p = true then (if jF_has (sF σ) q = true then (if jp_part w = true then (if MP (sF σ) (sF σ).2.2 = 0 then er σ 3 else (if w = 0 then op_tell σ (Int64.ofInt (lkV (sF σ) (pn p) (pn q) (coF (sF σ) (pn p) (pn q)))) else op_tell σ (Int64.ofInt (lkV (sF σ) (pn p) (pn q) (MP (sF σ) (sF σ).2.2))))) else er σ 1) else er σ 1) else er σ 1
section
variable {rc : Nat → Nat × (Nat → Int32)} {h h' : jxH} {a b : Nat} {f : jF} {σ : jSt}
theorem aa_link (A : AWt σ) (p q w : Int32) : AWt (op_link σ p q w).2 := by
  unfold op_link
  by_cases c0 : jF_has (sF σ) p = true
  · rw [if_pos c0]
    by_cases c1 : jF_has (sF σ) q = true
    · rw [if_pos c1]
      by_cases cw : jp_part w = true
      · rw [if_pos cw]
        by_cases m0 : MP (sF σ) (sF σ).2.2 = 0
        · rw [if_pos m0]; exact aa_er A
        · rw [if_neg m0]
          by_cases w0 : w = 0
          · rw [if_pos w0]
            generalize Int64.ofInt (lkV (sF σ) (pn p) (pn q) (coF (sF σ) (pn p) (pn q))) = z
            exact aa_tell A z
          · rw [if_neg w0]
            generalize Int64.ofInt (lkV (sF σ) (pn p) (pn q) (MP (sF σ) (sF σ).2.2)) = z
            exact aa_tell A z
      · rw [if_neg cw]; exact aa_er A
    · rw [if_neg c1]; exact aa_er A
  · rw [if_neg c0]; exact aa_er A
theorem cap12 : ((31 : Int) ^ 12) ≤ 2 ^ 62 := by decide
theorem MP_62 (B : jf_B f) (S : Int32) : -(2 ^ 62) ≤ MP f S ∧ MP f S ≤ 2 ^ 62 := by
  have := MP_le B S
  have e : (31 : Nat) ^ 12 ≤ 2 ^ 62 := by decide
  omega
theorem co_62 (B : jf_B f) (p q : Nat) : -(2 ^ 62) ≤ coF f p q ∧ coF f p q ≤ 2 ^ 62 := by
  unfold coF
  split
  · obtain ⟨h1, h2⟩ := MP_62 B (f.2.2 &&& (jq_way f p q ^^^ (-1)))
    have sq := mx_sq (bc (jq_way f p q) + 1)
    generalize (-1 : Int) ^ (bc (jq_way f p q) + 1) = s at *
    have : s = 1 ∨ s = -1 := by
      have h3 : (s - 1) * (s + 1) = 0 := by rw [Int.sub_mul, Int.mul_add]; omega
      rcases Int.mul_eq_zero.mp h3 with z | z
      · left; omega
      · right; omega
    rcases this with z | z
    · rw [z, Int.one_mul]; exact ⟨h1, h2⟩
    · rw [z]; omega
  · decide
theorem lkG_pos {p q : Nat} (h : MP f f.2.2 ≠ 0) : 0 < lkG f p q := Nat.gcd_pos_of_pos_right _ (by omega)
theorem lkG_le (B : jf_B f) {p q : Nat} (h : MP f f.2.2 ≠ 0) : lkG f p q ≤ 2 ^ 62 := by
  have h1 : lkG f p q ≤ (MP f f.2.2).natAbs := Nat.le_of_dvd (by omega) (Nat.gcd_dvd_right _ _)
  obtain ⟨a1, a2⟩ := MP_62 B f.2.2
  omega
-- the reference's signs
def lc (V : Int32) (p : Nat) : Nat := ((List.range p).filter (bt V)).length
theorem sl_split {V : Int32} {p : Nat} (hp : p < 12) (hb : bt V p = true) : ∃ l2, sl V = (List.range p).filter (bt V) ++ p :: l2 := by
  refine ⟨((List.range (11 - p)).map (fun x => p + 1 + x)).filter (bt V), ?_⟩
  unfold sl
  have e : List.range 12 = List.range p ++ p :: (List.range (11 - p)).map (fun x => p + 1 + x) := by
    rw [show (12 : Nat) = p + (1 + (11 - p)) by omega, List.range_add, List.range_add]
    simp [List.map_map]
    intro a _
    omega
  rw [e, List.filter_append, List.filter_cons_of_pos hb]
theorem sn_lc {V : Int32} {p : Nat} (hp : p < 12) (hb : bt V p = true) : sn (sl V) p = (-1) ^ (bc V + 1) * (-1) ^ lc V p := by
  obtain ⟨l2, e⟩ := sl_split hp hb
  have h1 : sn (sl V) p = (-1) ^ l2.length := by
    rw [e]
    exact sn_at (fun z => by
      have := (List.mem_filter.mp z).1
      have := List.mem_range.mp this
      omega)
  have len := congrArg List.length e
  rw [sl_length, List.length_append, List.length_cons] at len
  rw [h1, len, show ((List.range p).filter (bt V)).length + (l2.length + 1) + 1 = (lc V p + l2.length) + 2 by unfold lc; omega, Int.pow_add, Int.pow_add, show ((-1 : Int) ^ 2) = 1 from rfl, Int.mul_one]
  have := mx_sq (lc V p)
  generalize (-1 : Int) ^ lc V p = s at *
  generalize (-1 : Int) ^ l2.length = t
  rw [Int.mul_right_comm, this, Int.one_mul]
theorem jk_mask : ∀ p : Nat, p < 12 → jk_bit p - 1 = Int32.ofNat (2 ^ p - 1) := by decide
theorem rf_behind {V : Int32} {p : Nat} (hp : p < 12) (d : Nat) : jx_C rc (d + 2) 124 [.int V, .int (Int32.ofNat p)] h = some (some (.int (Int32.ofNat (lc V p))), h) := by
  have e : bc (V &&& (jk_bit p - 1)) = lc V p := by
    unfold bc lc
    rw [jk_mask p hp]
    have lt : 2 ^ p - 1 < 4096 := by
      have : 2 ^ p ≤ 2 ^ 12 := Nat.pow_le_pow_right (by decide) (by omega)
      have e12 : (2 : Nat) ^ 12 = 4096 := by decide
      omega
    have e1 : List.range 12 = List.range p ++ (List.range (12 - p)).map (fun x => p + x) := by
      rw [← List.range_add, show p + (12 - p) = 12 by omega]
    have z : ((List.range (12 - p)).map (fun x => p + x)).countP (bt (V &&& Int32.ofNat (2 ^ p - 1))) = 0 := by
      rw [List.countP_eq_zero]
      intro a ha
      obtain ⟨x, hx, rfl⟩ := List.mem_map.mp ha
      rw [bt_and, bt_ofNat lt, Nat.testBit_two_pow_sub_one, decide_eq_false (by omega), Bool.and_false]
      simp
    rw [e1, List.countP_append, z, Nat.add_zero, ← List.countP_eq_length_filter]
    apply List.countP_congr
    intro a ha
    have := List.mem_range.mp ha
    rw [bt_and, bt_ofNat lt, Nat.testBit_two_pow_sub_one, decide_eq_true this, Bool.and_true]
  have e2 : jx_C rc (d + 1) 76 [.int (V &&& (((1 : Int32) <<< (Int32.ofNat p &&& 31)) - 1))] h = some (some (.int (Int32.ofNat (lc V p))), h) := by
    rw [rf_many]
    show some (some (Value.int (Int32.ofNat (bc (V &&& (jk_bit p - 1))))), h) = _
    rw [e]
  rw [je_124, e2, jk_cI]
theorem lc_le (V : Int32) {p : Nat} (hp : p < 12) : lc V p ≤ 12 := by
  unfold lc
  have := List.length_filter_le (bt V) (List.range p)
  rw [List.length_range] at this
  omega
/-- what stands with its sign -/
theorem lk_sign (W : jf_W f) {p q : Nat} (hp : p < 12) (hq : q < 12) (sp : bt f.2.2 p = true) (sq : bt f.2.2 q = true) (h0 : MP f f.2.2 ≠ 0) : (-1) ^ (lc f.2.2 p + lc f.2.2 q) * dt (kW f) ((sl f.2.2).erase p).reverse ((sl f.2.2).erase q) = coF f p q := by
  rw [← hc_co W (sl_mem.mpr ⟨hp, sp⟩) (sl_mem.mpr ⟨hq, sq⟩) h0]
  unfold hc
  rw [sn_lc hp sp, sn_lc hq sq, Int.pow_add]
  have := mx_sq (bc f.2.2 + 1)
  generalize dt (kW f) ((sl f.2.2).erase p).reverse ((sl f.2.2).erase q) = x
  generalize (-1 : Int) ^ (bc f.2.2 + 1) = s at *
  generalize (-1 : Int) ^ lc f.2.2 p = u
  generalize (-1 : Int) ^ lc f.2.2 q = v
  have e : s * u * (s * v * x) = s * s * (u * v * x) := by simp only [Int.mul_assoc, Int.mul_left_comm]
  rw [e, this, Int.one_mul]
theorem rr_link (R : RSt h σ) (A : AWt σ) (p q w : Int32) : ∃ h', (∀ d, jx_C rc (d + 20) 126 [.ref 336, .int p, .int q, .int w] h = some (some (.int (op_link σ p q w).1), h')) ∧ RSt h' (op_link σ p q w).2 ∧ rF h h' := by
  unfold op_link
  obtain ⟨e', e1, e2, e3⟩ := rr_error (rc := rc) R A (k := 1) (by decide) (K := 1) rfl
  by_cases c0 : jF_has (sF σ) p = true
  · rw [if_pos c0]
    obtain ⟨k, hk, rfl, sk⟩ := jF_has_iff.mp c0
    rw [show pn (Int32.ofNat k) = k from jk_cl (by omega)]
    by_cases c1 : jF_has (sF σ) q = true
    · rw [if_pos c1]
      obtain ⟨l, hl, rfl, sl'⟩ := jF_has_iff.mp c1
      rw [show pn (Int32.ofNat l) = l from jk_cl (by omega)]
      by_cases cw : jp_part w = true
      · rw [if_pos cw]
        obtain ⟨h1, r1, r2, r3⟩ := rr_minorOf (rc := rc) R A (s := (sF σ).2.2) (fun _ z => z)
        obtain ⟨M1, M2⟩ := MP_62 A.B (sF σ).2.2
        have st : ∀ d, jx_C rc (d + 20) 126 [.ref 336, .int (Int32.ofNat k), .int (Int32.ofNat l), .int w] h = _ := fun d => by
          rw [je_126, if_pos R.is, rr_isVertex R, jk_cI, jk_if0, if_pos c0, rr_isVertex R, jk_cI, jk_if0, if_pos c1, rf_in, jk_cI, jk_if0, show (1 : Int64) = (1 : Int32).toInt64 from rfl, jp_bt_hi, jp_part_hi, if_pos cw, R.g1, jk_bs, ro_0 R.F, jk_bs, r1, jk_cL]
        by_cases m0 : MP (sF σ) (sF σ).2.2 = 0
        · rw [if_pos m0]
          obtain ⟨g', g1, g2, g3⟩ := rr_error (rc := rc) r2 A (k := 3) (by decide) (K := 3) rfl
          refine ⟨g', fun d => ?_, g2, r3.trans g3⟩
          rw [st d, if_pos ((lI_0 M1 M2).mpr m0), g1, jk_cI]
        · rw [if_neg m0]
          obtain ⟨h2, s1, s2, s3⟩ := rr_without (rc := rc) r2 A hk hl sk sl'
          obtain ⟨C1, C2⟩ := co_62 A.B k l
          have G0 := lkG_pos (p := k) (q := l) m0
          have G1 := lkG_le A.B (p := k) (q := l) m0
          have two : ¬ (2 : Int32) = 0 := by decide
          have lk := lk_sign A.W hk hl sk sl' m0
          have l1 := lc_le (sF σ).2.2 hk
          have l2 := lc_le (sF σ).2.2 hl
          -- up to the sign
          have st2 : ∀ d, jx_C rc (d + 20) 126 [.ref 336, .int (Int32.ofNat k), .int (Int32.ofNat l), .int w] h = jb_126 rc (d + 19) 58 [(0, .ref 336), (3, .int w), (4, .long (Int64.ofInt (MP (sF σ) (sF σ).2.2)))] [.long (Int64.ofInt (coF (sF σ) k l))] h2 := fun d => by
            rw [st d, if_neg (fun z => m0 ((lI_0 M1 M2).mp z)), s1, jk_cL, s2.g1, jk_bs, ro_0 s2.F, jk_bs, rf_behind hk, jk_cI, s2.g1, jk_bs, ro_0 s2.F, jk_bs, rf_behind hl, jk_cI, if_neg two, ← Int32.ofNat_add]
            have par := mx_al_ev (fun _ => dt (kW (sF σ)) ((sl (sF σ).2.2).erase k).reverse ((sl (sF σ).2.2).erase l)) (k := lc (sF σ).2.2 k + lc (sF σ).2.2 l)
            have par' := mx_al_od (fun _ => dt (kW (sF σ)) ((sl (sF σ).2.2).erase k).reverse ((sl (sF σ).2.2).erase l)) (k := lc (sF σ).2.2 k + lc (sF σ).2.2 l)
            unfold mx_al at par par'
            by_cases ev : (lc (sF σ).2.2 k + lc (sF σ).2.2 l) % 2 = 0
            · rw [if_pos ((jk_half _ (by omega)).mpr ev), ← lk, par ev]
            · rw [if_neg (fun z => ev ((jk_half _ (by omega)).mp z)), ← lk, par' ev, Int64.ofInt_neg]
          have gnz : ¬ Int64.ofNat (lkG (sF σ) k l) = 0 := fun z => by
            rw [jl_eq0 (by omega)] at z; omega
          have nco : ab (-(Int64.ofInt (coF (sF σ) k l))) = (coF (sF σ) k l).natAbs := by
            rw [← Int64.ofInt_neg, lI_ab (by omega) (by omega), Int.natAbs_neg]
          have nM : ab (-(Int64.ofInt (MP (sF σ) (sF σ).2.2))) = (MP (sF σ) (sF σ).2.2).natAbs := by
            rw [← Int64.ofInt_neg, lI_ab (by omega) (by omega), Int.natAbs_neg]
          have fin : ∀ d, jb_126 rc (d + 19) 58 [(0, .ref 336), (3, .int w), (4, .long (Int64.ofInt (MP (sF σ) (sF σ).2.2)))] [.long (Int64.ofInt (coF (sF σ) k l))] h2 = if w = 0 then jx_cI (jx_C rc (d + 19) 119 [.ref 336, .long (Int64.ofInt (lkV (sF σ) k l (coF (sF σ) k l)))] h2) fun v h => some (some (.int v), h) else jx_cI (jx_C rc (d + 19) 119 [.ref 336, .long (Int64.ofInt (lkV (sF σ) k l (MP (sF σ) (sF σ).2.2)))] h2) fun v h => some (some (.int v), h) := fun d => by
            rw [je_126_58]
            by_cases pos : 0 ≤ MP (sF σ) (sF σ).2.2
            · have gg : Nat.gcd (coF (sF σ) k l).natAbs (MP (sF σ) (sF σ).2.2).natAbs = lkG (sF σ) k l := rfl
              rw [if_pos ((lI_ge M1 M2).mpr pos), rf_gcd (d + 18) (lI_min C1 C2) (lI_min M1 M2), jk_cL, lI_ab C1 C2, lI_ab M1 M2, gg, if_neg gnz, if_neg gnz, lI_div C1 C2 G0 G1, lI_div M1 M2 G0 G1]
              unfold lkV
              rw [if_pos pos, if_pos pos]
            · have gg : Nat.gcd (coF (sF σ) k l).natAbs (MP (sF σ) (sF σ).2.2).natAbs = lkG (sF σ) k l := rfl
              rw [if_neg (fun z => pos ((lI_ge M1 M2).mp z)), rf_gcd (d + 18) (by rw [← Int64.ofInt_neg]; exact lI_min (by omega) (by omega)) (by rw [← Int64.ofInt_neg]; exact lI_min (by omega) (by omega)), jk_cL, nco, nM, gg, if_neg gnz, if_neg gnz, ← Int64.ofInt_neg, ← Int64.ofInt_neg, lI_div (by omega) (by omega) G0 G1, lI_div (by omega) (by omega) G0 G1]
              unfold lkV
              rw [if_neg pos, if_neg pos]
          by_cases w0 : w = 0
          · rw [if_pos w0]
            obtain ⟨g', g1, g2, g3⟩ := rr_orOver (rc := rc) s2 A (Int64.ofInt (lkV (sF σ) k l (coF (sF σ) k l)))
            refine ⟨g', fun d => ?_, g2, (r3.trans s3).trans g3⟩
            rw [st2 d, fin d, if_pos w0, g1, jk_cI]
          · rw [if_neg w0]
            obtain ⟨g', g1, g2, g3⟩ := rr_orOver (rc := rc) s2 A (Int64.ofInt (lkV (sF σ) k l (MP (sF σ) (sF σ).2.2)))
            refine ⟨g', fun d => ?_, g2, (r3.trans s3).trans g3⟩
            rw [st2 d, fin d, if_neg w0, g1, jk_cI]
      · rw [if_neg cw]
        refine ⟨e', fun d => ?_, e2, e3⟩
        rw [je_126, if_pos R.is, rr_isVertex R, jk_cI, jk_if0, if_pos c0, rr_isVertex R, jk_cI, jk_if0, if_pos c1, rf_in, jk_cI, jk_if0, show (1 : Int64) = (1 : Int32).toInt64 from rfl, jp_bt_hi, jp_part_hi, if_neg cw, e1, jk_cI]
    · rw [if_neg c1]
      refine ⟨e', fun d => ?_, e2, e3⟩
      rw [je_126, if_pos R.is, rr_isVertex R, jk_cI, jk_if0, if_pos c0, rr_isVertex R, jk_cI, jk_if0, if_neg c1, e1, jk_cI]
  · rw [if_neg c0]
    refine ⟨e', fun d => ?_, e2, e3⟩
    rw [je_126, if_pos R.is, rr_isVertex R, jk_cI, jk_if0, if_neg c0, e1, jk_cI]
-- the class
theorem lkV_neg (B : jf_B f) {p q : Nat} (h0 : MP f f.2.2 ≠ 0) : ((MP f f.2.2).tdiv (lkG f p q) < 0) ↔ ¬ 0 ≤ MP f f.2.2 := by
  obtain ⟨k, hk⟩ : lkG f p q ∣ (MP f f.2.2).natAbs := Nat.gcd_dvd_right _ _
  have g0 := lkG_pos (p := p) (q := q) h0
  by_cases pos : 0 ≤ MP f f.2.2
  · have := Int.tdiv_nonneg pos (show (0 : Int) ≤ lkG f p q by omega)
    omega
  · have k0 : 0 < k := by
      apply Classical.byContradiction; intro z
      have : k = 0 := by omega
      rw [this, Nat.mul_zero] at hk; omega
    have e : MP f f.2.2 = -((lkG f p q * k : Nat) : Int) := by omega
    rw [e, Int.neg_tdiv, Int.natCast_mul, Int.mul_tdiv_cancel_left _ (by omega)]
    omega
theorem jk_and1 {n : Nat} (h : n ≤ 12) : (Int32.ofNat n &&& 1 = 0) ↔ n % 2 = 0 := by
  have : ∀ n : Nat, n < 13 → ((Int32.ofNat n &&& 1 = 0) ↔ n % 2 = 0) := by decide
  exact this n (by omega)
theorem rk_inverse (K : rk_ok h a) (G : fo_at h b f) (W : jf_W f) (hab : b + 3 ≤ a ∨ a + 8 ≤ b) {p q : Nat} (hp : p < 12) (hq : q < 12) (sq : bt f.2.2 q = true) : ∃ h', (∀ d, jx_C rc (d + 7) 253 [.ref a, .ref b, .int (Int32.ofNat p), .int (Int32.ofNat q)] h = some (some (.int (jk_b (decide (MP f f.2.2 ≠ 0)))), h')) ∧ rk_ok h' a ∧ Fr (jI a 8) h h' ∧ (MP f f.2.2 ≠ 0 → jx_gL (jx_at h' a) 2 4 = some (Int64.ofInt (lkV f p q (coF f p q))) ∧ jx_gL (jx_at h' a) 2 5 = some (Int64.ofInt (lkV f p q (MP f f.2.2)))) := by
  have B := W.1
  have is2 : jx_is (jx_at h a) 2 = true := by obtain ⟨⟨u, l, i1, i2, i3, i4, i5, i6, o⟩, -⟩ := K; rw [o]; rfl
  have hV : ∀ x, bt f.2.2 x = true → x < 12 ∧ bt f.2.2 x = true := fun x hx => by
    refine ⟨?_, hx⟩
    apply Classical.byContradiction; intro z
    rw [B.s x (by omega)] at hx; cases hx
  obtain ⟨M1, M2⟩ := MP_62 B f.2.2
  obtain ⟨h1, m1, m2, m3, m4⟩ := rk_minorOf (rc := rc) K G W hab hV
  have F1 : Fr (jI a 8) h h1 := m4.mono fun x z => ⟨by have := z.1; omega, by have := z.2; omega⟩
  have st : ∀ d, jx_C rc (d + 7) 253 [.ref a, .ref b, .int (Int32.ofNat p), .int (Int32.ofNat q)] h = _ := fun d => by
    rw [je_253, if_pos is2, fo_g2 G, jk_bs, m1 (d + 1), jk_cL]
  by_cases m0 : MP f f.2.2 = 0
  · refine ⟨h1, fun d => ?_, m2, F1, fun z => absurd m0 z⟩
    rw [st d, if_pos ((lI_0 M1 M2).mpr m0), if_pos jk_r0', decide_eq_false (fun z => z m0)]
    rfl
  · have G1' := fo_fr m4 (fun x a b z => by have := z.1; have := z.2; omega) G
    obtain ⟨⟨u, l, i1, i2, i3, i4, i5, i6, o⟩, w, ⟨g1, e1⟩, ⟨g2, e2⟩, g3, e3⟩ := id m2
    obtain ⟨h2, X, r1, r2, r3, r4, r5⟩ := wk_path (rc := rc) w G1' W (by omega) hp hq sq
    have F2 : Fr (jI a 8) h1 h2 := r3.mono fun x z => ⟨by have := z.1; omega, by have := z.2; omega⟩
    have o2 : jx_at h2 a = _ := (r3.2.2 a (fun z => by have := z.1; omega)).trans o
    have K2 : rk_ok h2 a := ⟨⟨u, l, i1, i2, i3, i4, i5, i6, o2⟩, r2, ⟨g1, (r3.2.2 _ (fun z => by have := z.2; omega)).trans e1⟩, ⟨g2, (r3.2.2 _ (fun z => by have := z.2; omega)).trans e2⟩, g3, (r3.2.2 _ (fun z => by have := z.2; omega)).trans e3⟩
    have g0 : jx_gR (jx_at h1 a) 2 0 = some (a + 1) := by rw [o]; rfl
    obtain ⟨C1, C2⟩ := co_62 B p q
    have G0 := lkG_pos (p := p) (q := q) m0
    have G1 := lkG_le B (p := p) (q := q) m0
    have gnz : ¬ Int64.ofNat (lkG f p q) = 0 := fun z => by
      rw [jl_eq0 (by omega)] at z; omega
    have gnz' : ¬ lg_cmp (Int64.ofNat (lkG f p q)) 0 = 0 := fun z => gnz ((lg_eq0 _ _).mp z)
    -- the cofactor
    have cof : ∃ h3, (∀ d, jx_C rc (d + 7) 253 [.ref a, .ref b, .int (Int32.ofNat p), .int (Int32.ofNat q)] h = jb_253 rc (d + 6) 42 [(0, .ref a), (4, .long (Int64.ofInt (MP f f.2.2)))] [.long (Int64.ofInt (coF f p q))] h3) ∧ rk_ok h3 a ∧ Fr (jI a 8) h2 h3 := by
      by_cases tp : bt (jt_T f q) p = true
      · obtain ⟨x1, x2, x3⟩ := r4 tp
        have hX : X = jq_way f p q := (wy_eq x1).symm
        have Xn : ¬ X = 0 := fun z => by rw [z, bt_0] at x2; cases x2
        have G2 := fo_fr r3 (fun x a b z => by have := z.1; have := z.2; omega) G1'
        have X12 : S12 X := fun j hj => by
          cases c : bt X j
          · rfl
          · have := (jt_T_in B hq sq (x1.1 j c)).1; omega
        obtain ⟨h3, s1, s2, s3, s4⟩ := rk_minorOf (rc := rc) (set := f.2.2 &&& (X ^^^ (-1))) K2 G2 W hab (fun x hx => hV x (by rw [bt_and] at hx; simp at hx; exact hx.1))
        refine ⟨h3, fun d => ?_, s2, s4.mono fun x z => ⟨by have := z.1; omega, by have := z.2; omega⟩⟩
        have b12 := bc_le X
        have ec : coF f p q = (-1) ^ (bc X + 1) * MP f (f.2.2 &&& (X ^^^ (-1))) := by
          unfold coF
          rw [if_pos tp, hX]
        rw [st d, if_neg (fun z => m0 ((lI_0 M1 M2).mp z)), g0, jk_bs, r1, jk_cI, if_neg Xn, fo_g2 G2, jk_bs, s1 (d + 1), jk_cL, jk_pop X12, jk_cI]
        have par := mx_al_ev (fun _ => MP f (f.2.2 &&& (X ^^^ (-1)))) (k := bc X + 1)
        have par' := mx_al_od (fun _ => MP f (f.2.2 &&& (X ^^^ (-1)))) (k := bc X + 1)
        unfold mx_al at par par'
        by_cases ev : bc X % 2 = 0
        · rw [if_pos ((jk_and1 b12).mpr ev), ec, par' (by omega), Int64.ofInt_neg]
        · rw [if_neg (fun z => ev ((jk_and1 b12).mp z)), ec, par (by omega)]
      · have tf : bt (jt_T f q) p = false := by cases z : bt (jt_T f q) p <;> simp_all
        have X0 := r5 tf
        subst X0
        have ec : coF f p q = 0 := by unfold coF; rw [if_neg tp]
        have b0 : S12 (0 : Int32) := fun j _ => bt_0 j
        refine ⟨h2, fun d => ?_, K2, Fr.rfl⟩
        rw [st d, if_neg (fun z => m0 ((lI_0 M1 M2).mp z)), g0, jk_bs, r1, jk_cI, if_pos rfl, jk_pop b0, jk_cI, if_pos (by decide), ec]
        rfl
    obtain ⟨h3, c1, K3, F3⟩ := cof
    obtain ⟨⟨u', l', j1, j2, j3, j4, j5, j6, o3⟩, w', ⟨g1', e1'⟩, ⟨g2', e2'⟩, g3', e3'⟩ := id K3
    have FA := F1.trans (F2.trans F3)
    have pf4 : ∀ U L v : Int64, jx_pF (jxO 2 [.ref (a + 1), .ref (a + 5), .ref (a + 6), .ref (a + 7), .long U, .long L, .int j1, .int j2, .int j3, .int j4, .int j5, .int j6]) 2 4 (.long v) = some (jxO 2 [.ref (a + 1), .ref (a + 5), .ref (a + 6), .ref (a + 7), .long v, .long L, .int j1, .int j2, .int j3, .int j4, .int j5, .int j6]) := fun _ _ _ => rfl
    have pf5 : ∀ U L v : Int64, jx_pF (jxO 2 [.ref (a + 1), .ref (a + 5), .ref (a + 6), .ref (a + 7), .long U, .long L, .int j1, .int j2, .int j3, .int j4, .int j5, .int j6]) 2 5 (.long v) = some (jxO 2 [.ref (a + 1), .ref (a + 5), .ref (a + 6), .ref (a + 7), .long U, .long v, .int j1, .int j2, .int j3, .int j4, .int j5, .int j6]) := fun _ _ _ => rfl
    have gl4 : ∀ U L : Int64, jx_gL (jxO 2 [.ref (a + 1), .ref (a + 5), .ref (a + 6), .ref (a + 7), .long U, .long L, .int j1, .int j2, .int j3, .int j4, .int j5, .int j6]) 2 4 = some U := fun _ _ => rfl
    have gl5 : ∀ U L : Int64, jx_gL (jxO 2 [.ref (a + 1), .ref (a + 5), .ref (a + 6), .ref (a + 7), .long U, .long L, .int j1, .int j2, .int j3, .int j4, .int j5, .int j6]) 2 5 = some L := fun _ _ => rfl
    have done : ∀ (h5 : jxH) (U L : Int64), Fr (fun x => x = a) h3 h5 → jx_at h5 a = jxO 2 [.ref (a + 1), .ref (a + 5), .ref (a + 6), .ref (a + 7), .long U, .long L, .int j1, .int j2, .int j3, .int j4, .int j5, .int j6] → rk_ok h5 a ∧ Fr (jI a 8) h h5 ∧ jx_gL (jx_at h5 a) 2 4 = some U ∧ jx_gL (jx_at h5 a) 2 5 = some L := fun h5 U L F5 o5 => ⟨⟨⟨_, _, _, _, _, _, _, _, o5⟩, wk_fr F5 (fun x a b => by omega) w', ⟨g1', (F5.2.2 _ (by omega)).trans e1'⟩, ⟨g2', (F5.2.2 _ (by omega)).trans e2'⟩, g3', (F5.2.2 _ (by omega)).trans e3'⟩, FA.trans (F5.mono fun x z => ⟨by omega, by omega⟩), by rw [o5]; rfl, by rw [o5]; rfl⟩
    have gg : Nat.gcd (ab (Int64.ofInt (coF f p q))) (ab (Int64.ofInt (MP f f.2.2))) = lkG f p q := by rw [lI_ab C1 C2, lI_ab M1 M2]; rfl
    have t1 : -(2 ^ 62) ≤ (MP f f.2.2).tdiv (lkG f p q) ∧ (MP f f.2.2).tdiv (lkG f p q) ≤ 2 ^ 62 := by
      have ab := Int.natAbs_tdiv (MP f f.2.2) (lkG f p q)
      have le : ((MP f f.2.2).tdiv (lkG f p q)).natAbs ≤ (MP f f.2.2).natAbs := by rw [ab]; exact Nat.div_le_self _ _
      omega
    have ng := lkV_neg B (p := p) (q := q) m0
    have st3 : ∀ d, jx_C rc (d + 7) 253 [.ref a, .ref b, .int (Int32.ofNat p), .int (Int32.ofNat q)] h = _ := fun d => by
      rw [c1 d, je_253_42, cl_gcd (d + 5) (lI_min C1 C2) (lI_min M1 M2), jk_cL, gg, if_neg gnz', if_neg gnz, o3, pf4, jk_bs, if_neg gnz, jk_at_self, pf5, jk_bs, jk_at_self, gl5, jk_bs, lI_div C1 C2 G0 G1, lI_div M1 M2 G0 G1]
    have dec : jk_b (decide (MP f f.2.2 ≠ 0)) = 1 := by rw [decide_eq_true m0]; rfl
    by_cases pos : 0 ≤ MP f f.2.2
    · have v1 : lkV f p q (coF f p q) = (coF f p q).tdiv (lkG f p q) := if_pos pos
      have v2 : lkV f p q (MP f f.2.2) = (MP f f.2.2).tdiv (lkG f p q) := if_pos pos
      have nn : 0 ≤ (MP f f.2.2).tdiv (lkG f p q) := by
        apply Classical.byContradiction; intro z
        exact (ng.mp (by omega)) pos
      obtain ⟨d1, d2, d3, d4⟩ := done _ (Int64.ofInt ((coF f p q).tdiv (lkG f p q))) (Int64.ofInt ((MP f f.2.2).tdiv (lkG f p q))) (Fr.one.trans Fr.one) (jk_at_self _ _ _)
      refine ⟨_, fun d => ?_, d1, d2, fun _ => ⟨by rw [v1]; exact d3, by rw [v2]; exact d4⟩⟩
      rw [st3 d, if_pos ((lI_ge t1.1 t1.2).mpr nn), if_pos jk_b1, dec]
    · have v1 : lkV f p q (coF f p q) = -((coF f p q).tdiv (lkG f p q)) := by unfold lkV; rw [if_neg pos, Int.neg_tdiv]
      have v2 : lkV f p q (MP f f.2.2) = -((MP f f.2.2).tdiv (lkG f p q)) := by unfold lkV; rw [if_neg pos, Int.neg_tdiv]
      have nn : ¬ 0 ≤ (MP f f.2.2).tdiv (lkG f p q) := by
        have := ng.mpr pos; omega
      obtain ⟨d1, d2, d3, d4⟩ := done _ (Int64.ofInt (lkV f p q (coF f p q))) (Int64.ofInt (lkV f p q (MP f f.2.2))) (Fr.one.trans (Fr.one.trans (Fr.one.trans Fr.one))) (jk_at_self _ _ _)
      refine ⟨_, fun d => ?_, d1, d2, fun _ => ⟨d3, d4⟩⟩
      rw [st3 d, if_neg (fun z => nn ((lI_ge t1.1 t1.2).mp z)), gl4, jk_bs, pf4, jk_bs, jk_at_self, gl5, jk_bs, pf5, jk_bs, if_pos jk_b1, dec, v1, v2, Int64.ofInt_neg, Int64.ofInt_neg]
theorem cc_link (C : CSt h σ) (A : AWt σ) (p q w : Int32) : ∃ h', (∀ d, jx_C rc (d + 20) 15 [.ref 0, .int p, .int q, .int w] h = some (some (.int (op_link σ p q w).1), h')) ∧ CSt h' (op_link σ p q w).2 ∧ cF h h' := by
  unfold op_link
  obtain ⟨e', e1, e2, e3⟩ := cc_refuse (rc := rc) C A (k := 1) (by decide) (by decide) (K := 1) rfl
  by_cases c0 : jF_has (sF σ) p = true
  · rw [if_pos c0]
    obtain ⟨k, hk, rfl, sk⟩ := jF_has_iff.mp c0
    rw [show pn (Int32.ofNat k) = k from jk_cl (by omega)]
    by_cases c1 : jF_has (sF σ) q = true
    · rw [if_pos c1]
      obtain ⟨l, hl, rfl, sl'⟩ := jF_has_iff.mp c1
      rw [show pn (Int32.ofNat l) = l from jk_cl (by omega)]
      by_cases cw : jp_part w = true
      · rw [if_pos cw]
        obtain ⟨h1, r1, r2, r3, r4⟩ := rk_inverse (rc := rc) (a := 178) (b := 2) (f := sF σ) C.scr.2.2.2.1 C.F A.W (by omega) hk hl sl'
        obtain ⟨C1, F1⟩ := cc_rk C A r3 r2
        have st : ∀ d, jx_C rc (d + 20) 15 [.ref 0, .int (Int32.ofNat k), .int (Int32.ofNat l), .int w] h = _ := fun d => by
          rw [je_15, if_pos C.is, C.g1, jk_bs, fo_has C.F, jk_cI, jk_if0, if_pos c0, C.g1, jk_bs, fo_has C.F, jk_cI, jk_if0, if_pos c1, cl_isPart, jk_cI, jk_if0, if_pos cw, C.g6, jk_bs, C.g1, jk_bs, r1 (d + 12), jk_cI, jk_if0]
        by_cases m0 : MP (sF σ) (sF σ).2.2 = 0
        · rw [if_pos m0]
          obtain ⟨g', g1, g2, g3⟩ := cc_refuse (rc := rc) C1 A (k := 3) (by decide) (by decide) (K := 3) rfl
          refine ⟨g', fun d => ?_, g2, F1.trans0 ⟨r3.1, r3.2.1⟩ g3⟩
          rw [st d, if_neg (fun z => (of_decide_eq_true z) m0), g1, jk_cI]
        · rw [if_neg m0]
          obtain ⟨u1, u2⟩ := r4 m0
          by_cases w0 : w = 0
          · rw [if_pos w0]
            obtain ⟨g', g1, g2, g3⟩ := cc_tell (rc := rc) C1 A (Int64.ofInt (lkV (sF σ) k l (coF (sF σ) k l)))
            refine ⟨g', fun d => ?_, g2, F1.trans0 ⟨r3.1, r3.2.1⟩ g3⟩
            rw [st d, if_pos (decide_eq_true m0), if_pos w0, C1.g6, jk_bs, u1, jk_bs, g1, jk_cI]
          · rw [if_neg w0]
            obtain ⟨g', g1, g2, g3⟩ := cc_tell (rc := rc) C1 A (Int64.ofInt (lkV (sF σ) k l (MP (sF σ) (sF σ).2.2)))
            refine ⟨g', fun d => ?_, g2, F1.trans0 ⟨r3.1, r3.2.1⟩ g3⟩
            rw [st d, if_pos (decide_eq_true m0), if_neg w0, C1.g6, jk_bs, u2, jk_bs, g1, jk_cI]
      · rw [if_neg cw]
        refine ⟨e', fun d => ?_, e2, e3⟩
        rw [je_15, if_pos C.is, C.g1, jk_bs, fo_has C.F, jk_cI, jk_if0, if_pos c0, C.g1, jk_bs, fo_has C.F, jk_cI, jk_if0, if_pos c1, cl_isPart, jk_cI, jk_if0, if_neg cw, e1, jk_cI]
    · rw [if_neg c1]
      refine ⟨e', fun d => ?_, e2, e3⟩
      rw [je_15, if_pos C.is, C.g1, jk_bs, fo_has C.F, jk_cI, jk_if0, if_pos c0, C.g1, jk_bs, fo_has C.F, jk_cI, jk_if0, if_neg c1, e1, jk_cI]
  · rw [if_neg c0]
    refine ⟨e', fun d => ?_, e2, e3⟩
    rw [je_15, if_pos C.is, C.g1, jk_bs, fo_has C.F, jk_cI, jk_if0, if_neg c0, e1, jk_cI]
end
