/-! The text of a forest: what is read; the class's tape -/
/-- behind the blanks -/
def ty_sk (p : jP) : Nat → Nat → Nat
  | 0, i => i
  | m + 1, i => if i < p.1 ∧ p.2 i = 32 then ty_sk p m (i + 1) else i
def ty_s (p : jP) (i : Nat) : Nat := ty_sk p (p.1 - i) i
def ty_d (p : jP) (i : Nat) : Bool := decide (i < p.1) && !decide (p.2 i < 48) && !decide (57 < p.2 i)
/-- so many digits, up to m -/
def ty_dc (p : jP) : Nat → Nat → Nat
  | 0, _ => 0
  | m + 1, k => if ty_d p k = true then ty_dc p m (k + 1) + 1 else 0
def ty_v (p : jP) : Nat → Nat → Int32 → Int32
  | 0, _, x => x
  | r + 1, j, x => ty_v p r (j + 1) (x * 10 + p.2 j - 48)
def ty_m (p : jP) (i : Nat) : Bool := decide (i < p.1) && decide (p.2 i = 45)
def ty_0 (p : jP) (i : Nat) : Nat := if ty_m p i = true then i + 1 else i
/-- a weight: its size, itself -/
def ty_w (p : jP) (i : Nat) : Option (Nat × Int32) := if ty_dc p 3 (ty_0 p i) = 0 then none else if 2 < ty_dc p 3 (ty_0 p i) then none else if ty_v p (ty_dc p 3 (ty_0 p i)) (ty_0 p i) 0 ≤ 30 then some (ty_0 p i - i + ty_dc p 3 (ty_0 p i), if ty_m p i = true then -ty_v p (ty_dc p 3 (ty_0 p i)) (ty_0 p i) 0 else ty_v p (ty_dc p 3 (ty_0 p i)) (ty_0 p i) 0) else none
/-- one more that opens -/
def ty_f (f : jF) (st : List Nat) (w : Int32) : jF := match st with
  | [] => jf_grow f (jf_free f) w
  | q :: _ => jf_join (jf_grow f (jf_free f) w) q (jf_free f)
/-- a fault's place, or a forest -/
def ty_run (p : jP) : Nat → Nat → List Nat → jF → Nat ⊕ jF
  | 0, i, _, _ => .inl i
  | m + 1, i, st, f =>
    if i < p.1 ∧ p.2 i = 40 then
      (if bc f.2.2 = 12 then .inl i
      else match ty_w p (ty_s p (i + 1)) with
        | none => .inl (ty_s p (i + 1))
        | some (z, w) => ty_run p m (ty_s p (ty_s p (i + 1) + z)) (jf_free f :: st) (ty_f f st w))
    else if i < p.1 ∧ p.2 i = 41 then (match st with
      | [] => .inl i
      | _ :: r => if r = [] ∧ p.1 ≤ ty_s p (i + 1) then .inr f else ty_run p m (ty_s p (i + 1)) r f)
    else .inl i
theorem ty_sk_le {p : jP} : ∀ {m i : Nat}, i ≤ p.1 → i ≤ ty_sk p m i ∧ ty_sk p m i ≤ p.1
  | 0, i, h => ⟨Nat.le_refl _, h⟩
  | m + 1, i, h => by
    unfold ty_sk
    split
    · rename_i c
      have := ty_sk_le (p := p) (m := m) (i := i + 1) c.1
      omega
    · omega
theorem ty_sk_stop {p : jP} : ∀ {m i : Nat}, p.1 ≤ i + m → ¬ (ty_sk p m i < p.1 ∧ p.2 (ty_sk p m i) = 32)
  | 0, i, h => fun z => by
    have : i < p.1 := z.1
    omega
  | m + 1, i, h => by
    unfold ty_sk
    split
    · exact ty_sk_stop (by omega)
    · assumption
theorem ty_sk_id {p : jP} {i : Nat} (h : ¬ (i < p.1 ∧ p.2 i = 32)) : ∀ m, ty_sk p m i = i
  | 0 => rfl
  | m + 1 => by unfold ty_sk; rw [if_neg h]
theorem ty_s_le {p : jP} {i : Nat} (h : i ≤ p.1) : i ≤ ty_s p i ∧ ty_s p i ≤ p.1 := ty_sk_le h
theorem ty_s_s {p : jP} (i : Nat) : ty_s p (ty_s p i) = ty_s p i := ty_sk_id (ty_sk_stop (by omega)) _
theorem ty_s_stop {p : jP} (i : Nat) : ¬ (ty_s p i < p.1 ∧ p.2 (ty_s p i) = 32) := ty_sk_stop (by omega)
theorem ty_s_step {p : jP} {i : Nat} (h : i < p.1 ∧ p.2 i = 32) : ty_s p i = ty_s p (i + 1) := by
  unfold ty_s
  rw [show p.1 - i = (p.1 - (i + 1)) + 1 by omega]
  show (if i < p.1 ∧ p.2 i = 32 then _ else _) = _
  rw [if_pos h]
theorem ty_s_fix {p : jP} {i : Nat} (h : ¬ (i < p.1 ∧ p.2 i = 32)) : ty_s p i = i := ty_sk_id h _
theorem ty_d_iff {p : jP} (W : p_W p) {i : Nat} : ty_d p i = true ↔ i < p.1 ∧ ∃ b, 48 ≤ b ∧ b ≤ 57 ∧ p.2 i = Int32.ofNat b := by
  unfold ty_d
  constructor
  · intro h
    simp only [Bool.and_eq_true, Bool.not_eq_true', decide_eq_true_eq, decide_eq_false_iff_not] at h
    obtain ⟨⟨h1, h2⟩, h3⟩ := h
    obtain ⟨b, hb, e⟩ := W.2 i h1
    rw [e, show (48 : Int32) = Int32.ofNat 48 from rfl, jk_lt (by omega) (by decide)] at h2
    rw [e, show (57 : Int32) = Int32.ofNat 57 from rfl, jk_lt (by decide) (by omega)] at h3
    exact ⟨h1, b, by omega, by omega, e⟩
  · rintro ⟨h1, b, h2, h3, e⟩
    rw [decide_eq_true h1, e, decide_eq_false (by rw [show (48 : Int32) = Int32.ofNat 48 from rfl, jk_lt (by omega) (by decide)]; omega), decide_eq_false (by rw [show (57 : Int32) = Int32.ofNat 57 from rfl, jk_lt (by decide) (by omega)]; omega)]
    rfl
theorem ty_dc_le {p : jP} : ∀ (m k : Nat), ty_dc p m k ≤ m
  | 0, _ => Nat.le_refl 0
  | m + 1, k => by
    unfold ty_dc
    split
    · have := ty_dc_le (p := p) m (k + 1); omega
    · omega
theorem ty_dc_d {p : jP} : ∀ {m k : Nat} (j : Nat), j < ty_dc p m k → ty_d p (k + j) = true
  | 0, k, j, h => by cases h
  | m + 1, k, j, h => by
    unfold ty_dc at h
    split at h
    · rename_i c
      cases j with
      | zero => exact c
      | succ j =>
        have := ty_dc_d (p := p) (m := m) (k := k + 1) j (by omega)
        rw [show k + (j + 1) = k + 1 + j by omega]; exact this
    · omega
theorem ty_dc_stop {p : jP} : ∀ {m k : Nat}, ty_dc p m k < m → ty_d p (k + ty_dc p m k) = false
  | 0, k, h => by cases h
  | m + 1, k, h => by
    unfold ty_dc at h ⊢
    split
    · rename_i c
      rw [if_pos c] at h
      have := ty_dc_stop (p := p) (m := m) (k := k + 1) (by omega)
      rw [show k + (ty_dc p m (k + 1) + 1) = k + 1 + ty_dc p m (k + 1) by omega]; exact this
    · rename_i c
      simpa using c
theorem ty_w_some {p : jP} (W : p_W p) {i z : Nat} {w : Int32} (h : ty_w p i = some (z, w)) : 1 ≤ z ∧ z ≤ 3 ∧ i + z ≤ p.1 ∧ jp_wt w = true := by
  unfold ty_w at h
  split at h
  · cases h
  rename_i c0
  split at h
  · cases h
  rename_i c2
  split at h
  · rename_i c30
    injection h with h
    injection h with h1 h2
    have d0 := ty_dc_d (p := p) (m := 3) (k := ty_0 p i) 0 (by omega)
    have dl := ty_dc_d (p := p) (m := 3) (k := ty_0 p i) (ty_dc p 3 (ty_0 p i) - 1) (by omega)
    have l1 := ((ty_d_iff W).mp dl).1
    have i0 : i ≤ ty_0 p i ∧ ty_0 p i ≤ i + 1 := by unfold ty_0; split <;> omega
    obtain ⟨-, b0, b1, b2, b3⟩ := (ty_d_iff W).mp d0
    refine ⟨by omega, by omega, by omega, ?_⟩
    have key : ∃ v : Nat, v ≤ 30 ∧ ty_v p (ty_dc p 3 (ty_0 p i)) (ty_0 p i) 0 = Int32.ofNat v := by
      have e0 : (0 : Int32) * 10 + p.2 (ty_0 p i) - 48 = Int32.ofNat (b0 - 48) := by
        rw [show p.2 (ty_0 p i) = Int32.ofNat b0 from b3, show (0 : Int32) * 10 = 0 from by decide, Int32.zero_add, show (48 : Int32) = Int32.ofNat 48 from rfl, jk_subN b1]
      have hd : ty_dc p 3 (ty_0 p i) = 1 ∨ ty_dc p 3 (ty_0 p i) = 2 := by omega
      rcases hd with hd | hd
      · rw [hd] at c30 ⊢
        have : ty_v p 1 (ty_0 p i) 0 = Int32.ofNat (b0 - 48) := e0
        exact ⟨b0 - 48, by omega, this⟩
      · rw [hd] at c30 ⊢ dl
        obtain ⟨-, b4, b5, b6, b7⟩ := (ty_d_iff W).mp dl
        have e1 : ty_v p 2 (ty_0 p i) 0 = Int32.ofNat ((b0 - 48) * 10 + (b4 - 48)) := by
          show ((0 : Int32) * 10 + p.2 (ty_0 p i) - 48) * 10 + p.2 (ty_0 p i + 1) - 48 = _
          rw [e0, show p.2 (ty_0 p i + 1) = Int32.ofNat b4 from b7, show (10 : Int32) = Int32.ofNat 10 from rfl, ← Int32.ofNat_mul, jk_add2, show (48 : Int32) = Int32.ofNat 48 from rfl, jk_subN (by omega)]
          congr 1; omega
        rw [e1, show (30 : Int32) = Int32.ofNat 30 from rfl, jk_le (by omega) (by decide)] at c30
        exact ⟨_, c30, e1⟩
    obtain ⟨v, v30, ev⟩ := key
    rw [← h2, ev]
    split
    · rw [jp_wt_z (by omega)]; exact decide_eq_true v30
    · exact jp_wt_iff.mpr ⟨by rw [jk_int (by omega)]; omega, by rw [jk_int (by omega)]; omega⟩
  · cases h
