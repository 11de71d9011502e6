/-! How great a minor can be; signs of longs -/
section
variable {f : jF}
theorem ew_bd (B : jf_B f) {p : Nat} (hp : p < 12) : -30 ≤ ew f p ∧ ew f p ≤ 30 := jp_wt_iff.mp (B.wt hp)
theorem MP_bd (B : jf_B f) (S : Int32) : -(31 ^ bc S) ≤ MP f S ∧ MP f S ≤ 31 ^ bc S := by
  have e : MP f S = mx_p (fun p => if p < 12 then ew f p else 0) (ec f) (sl S) := by
    rw [MP_ec]
    exact mx_p_congr (fun a ha => by rw [if_pos (sl_mem.mp ha).1]) (fun _ _ _ _ => rfl)
  have h : (MP f S).natAbs ≤ 31 ^ bc S := by
    rw [e]
    refine mx_p_le (fun a => ?_) (fun a b => ?_) (bc S) (sl S) (sl_length S) (bc_le S)
    · split
      · rename_i h
        have := ew_bd B h
        omega
      · decide
    · unfold ec ee
      split
      · have := i01_nn (bt (f.2.1 a) b)
        have := i01_le (bt (f.2.1 a) b)
        omega
      · decide
  have h2 : (((31 ^ bc S : Nat)) : Int) = 31 ^ bc S := by
    generalize bc S = n
    exact Int.natCast_pow 31 n
  rw [← h2]
  omega
end
theorem lI_int {x : Int} (h1 : -(2 ^ 62) ≤ x) (h2 : x ≤ 2 ^ 62) : (Int64.ofInt x).toInt = x := by
  rw [Int64.toInt_ofInt]
  show x.bmod (2 ^ 64) = _
  exact Int.bmod_eq_of_le (by omega) (by omega)
theorem lI_0 {x : Int} (h1 : -(2 ^ 62) ≤ x) (h2 : x ≤ 2 ^ 62) : (lg_cmp (Int64.ofInt x) 0 = 0) ↔ x = 0 := by
  rw [lg_eq0]
  constructor
  · intro h
    have := lI_int h1 h2
    rw [h] at this
    exact this.symm
  · intro h; rw [h]; rfl
theorem lI_le {x : Int} (h1 : -(2 ^ 62) ≤ x) (h2 : x ≤ 2 ^ 62) : (lg_cmp (Int64.ofInt x) 0 ≤ 0) ↔ x ≤ 0 := by
  rw [lg_cmp_le, Int64.le_iff_toInt_le, lI_int h1 h2]; rfl
theorem lI_ge {x : Int} (h1 : -(2 ^ 62) ≤ x) (h2 : x ≤ 2 ^ 62) : (0 ≤ lg_cmp (Int64.ofInt x) 0) ↔ 0 ≤ x := by
  rw [lg_cmp_ge, Int64.le_iff_toInt_le, lI_int h1 h2]; rfl
