/-! told() -/
def op_told (σ : jSt) (k : Int32) : Int32 × jSt := if k < 1 then er σ 1 else if k ≤ 7 then (σ.1 (pn k), σ) else er σ 1
section
variable {rc : Nat → Nat × (Nat → Int32)} {h h' : jxH} {σ : jSt}
theorem told_n {k : Int32} (c1 : ¬ k < 1) (c2 : k ≤ 7) : k = Int32.ofNat (pn k) ∧ pn k < 8 := by
  have n0 : ¬ k < 0 := fun z => c1 (by
    rw [Int32.lt_iff_toInt_lt] at z ⊢
    rw [show (0 : Int32).toInt = 0 from by decide] at z
    rw [show (1 : Int32).toInt = 1 from by decide]; omega)
  have e := jk_of n0
  have l := jk_of_lt k
  refine ⟨e, ?_⟩
  unfold pn
  rw [e, show (7 : Int32) = Int32.ofNat 7 from rfl, jk_le l (by decide)] at c2
  omega
theorem cc_told (C : CSt h σ) (A : AWt σ) (k : Int32) : ∃ h', (∀ d, jx_C rc (d + 20) 52 [.ref 0, .int k] h = some (some (.int (op_told σ k).1), h')) ∧ CSt h' (op_told σ k).2 ∧ cF h h' := by
  unfold op_told
  obtain ⟨e', e1, e2, e3⟩ := cc_refuse (rc := rc) C A (k := 1) (by decide) (by decide) (K := 1) rfl
  by_cases c1 : k < 1
  · rw [if_pos c1]
    refine ⟨e', fun d => ?_, e2, e3⟩
    rw [je_52, if_pos C.is, if_pos c1, e1, jk_cI]
  rw [if_neg c1]
  by_cases c2 : k ≤ 7
  · rw [if_pos c2]
    obtain ⟨e, l⟩ := told_n c1 c2
    obtain ⟨G, g, q⟩ := C.1
    refine ⟨h, fun d => ?_, C, cFid⟩
    rw [je_52, if_pos C.is, if_neg c1, if_pos c2, C.g0, jk_bs, g]
    have := jk_aI (t := 0) (n := 8) (g := G) l (by decide)
    rw [← e] at this
    rw [this, jk_bs, q _ l]
  · rw [if_neg c2]
    refine ⟨e', fun d => ?_, e2, e3⟩
    rw [je_52, if_pos C.is, if_neg c1, if_neg c2, e1, jk_cI]
theorem aa_told (A : AWt σ) (k : Int32) : AWt (op_told σ k).2 := by
  unfold op_told
  repeat' split
  all_goals first | exact A | exact aa_er A
theorem rr_told (R : RSt h σ) (A : AWt σ) (k : Int32) : ∃ h', (∀ d, jx_C rc (d + 20) 209 [.ref 336, .int k] h = some (some (.int (op_told σ k).1), h')) ∧ RSt h' (op_told σ k).2 ∧ rF h h' := by
  unfold op_told
  obtain ⟨e', e1, e2, e3⟩ := rr_error (rc := rc) R A (k := 1) (by decide) (K := 1) rfl
  have bt1 : jp_bt k.toInt64 1 7 = if k < 1 then false else if 7 < k then false else true := by
    unfold jp_bt
    rw [show (1 : Int64) = (1 : Int32).toInt64 from rfl, show (7 : Int64) = (7 : Int32).toInt64 from rfl]
    simp only [jk_l64]
  by_cases c1 : k < 1
  · rw [if_pos c1]
    refine ⟨e', fun d => ?_, e2, e3⟩
    rw [je_209, if_pos R.is, rf_in, jk_cI, jk_if0, bt1, if_pos c1, if_neg (by decide), e1, jk_cI]
  rw [if_neg c1]
  by_cases c2 : k ≤ 7
  · rw [if_pos c2]
    have c2' : ¬ 7 < k := fun z => by rw [Int32.lt_iff_toInt_lt] at z; rw [Int32.le_iff_toInt_le] at c2; omega
    obtain ⟨e, l⟩ := told_n c1 c2
    obtain ⟨G, g, q⟩ := R.told
    refine ⟨h, fun d => ?_, R, Fr.rfl⟩
    rw [je_209, if_pos R.is, rf_in, jk_cI, jk_if0, bt1, if_neg c1, if_neg c2', if_pos rfl, R.g0, jk_bs, g]
    have := jk_aI (t := 0) (n := 8) (g := G) l (by decide)
    rw [← e] at this
    rw [this, jk_bs, q _ l]
  · rw [if_neg c2]
    have c2' : 7 < k := by rw [Int32.lt_iff_toInt_lt]; rw [Int32.le_iff_toInt_le] at c2; omega
    refine ⟨e', fun d => ?_, e2, e3⟩
    rw [je_209, if_pos R.is, rf_in, jk_cI, jk_if0, bt1, if_neg c1, if_pos c2', if_neg (by decide), e1, jk_cI]
end
