/-! Sets of one, of two: their least and greatest -/
set_option maxRecDepth 100000 in
theorem jk_two_all : (List.range 4096).all (fun n => !(decide (bc (Int32.ofNat n) ≤ 2)) || (List.range 12).all fun k => !(bt (Int32.ofNat n) k) || (lo (Int32.ofNat n) == some k || hi (Int32.ofNat n) == some k)) = true := by decide +kernel
set_option maxRecDepth 100000 in
theorem jk_other_all : (List.range 4096).all (fun n => !(decide (bc (Int32.ofNat n) = 2)) || (lo (Int32.ofNat n &&& (Int32.ofNat n - 1)) == hi (Int32.ofNat n) && !(lo (Int32.ofNat n) == hi (Int32.ofNat n)))) = true := by decide +kernel
set_option maxRecDepth 100000 in
theorem jk_one_all : (List.range 4096).all (fun n => !(decide (bc (Int32.ofNat n) = 1)) || lo (Int32.ofNat n) == hi (Int32.ofNat n)) = true := by decide +kernel
theorem jk_two {x : Int32} (hx : S12 x) (h2 : bc x ≤ 2) {k : Nat} (hk : k < 12) (hb : bt x k = true) : lo x = some k ∨ hi x = some k := by
  obtain ⟨n, hn, rfl⟩ := S12_nat hx
  have h := List.all_eq_true.mp jk_two_all n (List.mem_range.mpr hn)
  simp only [h2, decide_true, Bool.not_true, Bool.false_or] at h
  have h' := List.all_eq_true.mp h k (List.mem_range.mpr hk)
  simpa [hb] using h'
theorem jk_other {x : Int32} (hx : S12 x) (h2 : bc x = 2) : lo (x &&& (x - 1)) = hi x ∧ lo x ≠ hi x := by
  obtain ⟨n, hn, rfl⟩ := S12_nat hx
  have h := List.all_eq_true.mp jk_other_all n (List.mem_range.mpr hn)
  simpa [h2] using h
theorem jk_one {x : Int32} (hx : S12 x) (h2 : bc x = 1) : lo x = hi x := by
  obtain ⟨n, hn, rfl⟩ := S12_nat hx
  have h := List.all_eq_true.mp jk_one_all n (List.mem_range.mpr hn)
  simpa [h2] using h
