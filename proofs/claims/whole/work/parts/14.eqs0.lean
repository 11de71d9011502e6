-- written by wip/whole/gen_eqs.py: what each block of each method does
noncomputable def jx_C (rc : Nat → Nat × (Nat → Int32)) (d k : Nat) (as : List Value) (h : jxH) : jxR := jx_X rc jx_dflt jx_mt d k as h
theorem jx_enter {c : Prop} [Decidable c] {a b : jxR} (h : a = b) : (if c then a else none) = (if c then b else none) := by rw [h]
