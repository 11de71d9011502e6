/-! The crew: the class -/
def jp_crew (c : jC) (i : Int32) : Bool := if i < 0 then false else if Int32.ofNat c.1 ≤ i then false else true
theorem jp_crew_iff {c : jC} (h6 : c.1 ≤ 6) {i : Int32} : jp_crew c i = true ↔ ∃ k, k < c.1 ∧ i = Int32.ofNat k := by
  unfold jp_crew
  constructor
  · intro h
    by_cases c1 : i < 0
    · rw [if_pos c1] at h; cases h
    · rw [if_neg c1] at h
      by_cases c2 : Int32.ofNat c.1 ≤ i
      · rw [if_pos c2] at h; cases h
      · have e := jk_of c1
        have l := jk_of_lt i
        refine ⟨_, ?_, e⟩
        rw [e, jk_le (by omega) l] at c2
        omega
  · rintro ⟨k, hk, rfl⟩
    rw [if_neg (jk_nn (by omega)), if_neg (by rw [jk_le (by omega) (by omega)]; omega)]
theorem pn_6 {j : Nat} (hj : j < 6) : pn (Int32.ofNat j) = j := jk_cl (by omega)
theorem jp_kind_hi (k : Int32) : jp_hi k 5 = jp_kind k := by
  unfold jp_hi jp_kind
  have : (5 < k) ↔ 6 ≤ k := by
    rw [Int32.lt_iff_toInt_lt, Int32.le_iff_toInt_le, show (5 : Int32).toInt = 5 from rfl, show (6 : Int32).toInt = 6 from rfl]
    omega
  simp only [this]
theorem jp_start_hi (k : Int32) : jp_hi k 9 = jp_start k := rfl
theorem jp_kind_iff {k : Int32} : jp_kind k = true ↔ ∃ j, j < 6 ∧ k = Int32.ofNat j := by
  rw [← jp_kind_hi, show (5 : Int32) = Int32.ofNat 5 from rfl, jp_hi_iff (by decide)]
  constructor
  · rintro ⟨j, a, b⟩; exact ⟨j, by omega, b⟩
  · rintro ⟨j, a, b⟩; exact ⟨j, by omega, b⟩
theorem jp_start_iff {k : Int32} : jp_start k = true ↔ ∃ j, j ≤ 9 ∧ k = Int32.ofNat j := by
  rw [← jp_start_hi, show (9 : Int32) = Int32.ofNat 9 from rfl, jp_hi_iff (by decide)]
def jc_hire (c : jC) (k : Int32) (s : Nat) : jC := (c.1 + 1, upd c.2.1 c.1 k, va_up c.2.2.1 c.1 s, va_up c.2.2.2 c.1 0)
def jc_train (c : jC) (i : Nat) (k : Int32) : jC := (c.1, upd c.2.1 i k, c.2.2)
def jc_credit (c : jC) (i n : Nat) : jC := (c.1, c.2.1, c.2.2.1, va_up c.2.2.2 i (min 9999 (c.2.2.2 i + n)))
def jc_cost (k : Int32) (s : Nat) : Int32 := if k = 1 then 2 * (Int32.ofNat s + 1) else if k = 2 then Int32.ofNat s + 1 else if k = 3 then 2 * (Int32.ofNat s + 1) + 5 else if k = 4 then 3 * (Int32.ofNat s + 1) else if k = 5 then Int32.ofNat s + 1 - 4 else Int32.ofNat s + 1
/-- is the one under the other -/
def jc_under (x y : Int32) : Bool := decide (y = 0) || decide (y = x) || (decide (y = 1) && decide (x = 3)) || (decide (y = 2) && decide (x = 4))
def setC (σ : jSt) (c : jC) : jSt := (σ.1, σ.2.1, σ.2.2.1, σ.2.2.2.1, c, σ.2.2.2.2.2)
abbrev sC (σ : jSt) : jC := σ.2.2.2.2.1
def op_worker (σ : jSt) (k s : Int32) : Int32 × jSt := if jp_kind k = true then (if jp_start s = true then (if (sC σ).1 < 6 then (Int32.ofNat (sC σ).1, setC σ (jc_hire (sC σ) k (pn s))) else er σ 4) else er σ 1) else er σ 1
def op_workerIs (σ : jSt) (i w : Int32) : Int32 × jSt := if jp_crew (sC σ) i = true then (if w = 0 then ((sC σ).2.1 (pn i), σ) else if w = 1 then (Int32.ofNat ((sC σ).2.2.1 (pn i)), σ) else if w = 2 then (Int32.ofNat ((sC σ).2.2.2 (pn i)), σ) else if w = 3 then (jc_cost ((sC σ).2.1 (pn i)) ((sC σ).2.2.1 (pn i)), σ) else er σ 1) else er σ 1
def op_become (σ : jSt) (i k : Int32) : Int32 × jSt := if jp_crew (sC σ) i = true then (if jp_kind k = true then ((sC σ).2.1 (pn i), setC σ (jc_train (sC σ) (pn i) k)) else er σ 1) else er σ 1
def op_as (σ : jSt) (i k : Int32) : Int32 × jSt := if jp_crew (sC σ) i = true then (if jp_kind k = true then (if jc_under ((sC σ).2.1 (pn i)) k = true then (Int32.ofNat ((sC σ).2.2.1 (pn i)), σ) else er σ 6) else er σ 1) else er σ 1
section
variable {rc : Nat → Nat × (Nat → Int32)} {h h' : jxH} {σ : jSt} {P : Nat → Prop} {a : Nat} {c : jC}
theorem cr_is (H : cr_at h a c) : jx_is (jx_at h a) 0 = true := by rw [H.1]; rfl
theorem cr_g0 (H : cr_at h a c) : jx_gR (jx_at h a) 0 0 = some (a + 1) := by rw [H.1]; rfl
theorem cr_g1 (H : cr_at h a c) : jx_gR (jx_at h a) 0 1 = some (a + 2) := by rw [H.1]; rfl
theorem cr_g2 (H : cr_at h a c) : jx_gR (jx_at h a) 0 2 = some (a + 3) := by rw [H.1]; rfl
theorem cr_g3 (H : cr_at h a c) : jx_gI (jx_at h a) 0 3 = some (Int32.ofNat c.1) := by rw [H.1]; rfl
theorem cr_has (H : cr_at h a c) (h6 : c.1 ≤ 6) (i : Int32) (d : Nat) : jx_C rc (d + 1) 212 [.ref a, .int i] h = some (some (.int (jk_b (jp_crew c i))), h) := by
  rw [je_212, if_pos (cr_is H)]
  unfold jp_crew
  by_cases c1 : i < 0
  · rw [if_pos c1, if_pos c1, if_pos jk_r0']; rfl
  · rw [if_neg c1, if_neg c1, cr_g3 H, jk_bs]
    by_cases c2 : Int32.ofNat c.1 ≤ i
    · rw [if_pos c2, if_pos c2, if_pos jk_r0']; rfl
    · rw [if_neg c2, if_neg c2, if_neg ?_, if_pos (show jx_bool (1 : Int32) = true by simp [jx_bool])]
      · rfl
      · have e := jk_of c1
        have l := jk_of_lt i
        rw [e, jk_le (by omega) l] at c2
        rw [e, show (6 : Int32) = Int32.ofNat 6 from rfl, jk_le (by decide) l]
        omega
theorem cr_kind (H : cr_at h a c) (h6 : c.1 ≤ 6) {i : Nat} (hi : i < c.1) (d : Nat) : jx_C rc (d + 2) 216 [.ref a, .int (Int32.ofNat i)] h = some (some (.int (c.2.1 i)), h) := by
  obtain ⟨g, e, q⟩ := H.2.1
  rw [je_216, if_pos (cr_is H), cr_has H h6, jk_cI, jk_if0, if_pos ((jp_crew_iff h6).mpr ⟨i, hi, rfl⟩), cr_g0 H, jk_bs, e, jk_aI (by omega) (by decide), jk_bs, q i hi]
theorem cr_start (H : cr_at h a c) (h6 : c.1 ≤ 6) {i : Nat} (hi : i < c.1) (d : Nat) : jx_C rc (d + 2) 217 [.ref a, .int (Int32.ofNat i)] h = some (some (.int (Int32.ofNat (c.2.2.1 i))), h) := by
  obtain ⟨g, e, q⟩ := H.2.2.1
  rw [je_217, if_pos (cr_is H), cr_has H h6, jk_cI, jk_if0, if_pos ((jp_crew_iff h6).mpr ⟨i, hi, rfl⟩), cr_g1 H, jk_bs, e, jk_aI (by omega) (by decide), jk_bs, q i hi]
theorem cr_jobs (H : cr_at h a c) (h6 : c.1 ≤ 6) {i : Nat} (hi : i < c.1) (d : Nat) : jx_C rc (d + 2) 218 [.ref a, .int (Int32.ofNat i)] h = some (some (.int (Int32.ofNat (c.2.2.2 i))), h) := by
  obtain ⟨g, e, q⟩ := H.2.2.2
  rw [je_218, if_pos (cr_is H), cr_has H h6, jk_cI, jk_if0, if_pos ((jp_crew_iff h6).mpr ⟨i, hi, rfl⟩), cr_g2 H, jk_bs, e, jk_aI (by omega) (by decide), jk_bs, q i hi]
theorem cr_hire (H : cr_at h a c) (h6 : c.1 < 6) (k : Int32) (s : Nat) : ∃ h', (∀ d, jx_C rc (d + 1) 213 [.ref a, .int k, .int (Int32.ofNat s)] h = some (some (.int (Int32.ofNat c.1)), h')) ∧ cr_at h' a (jc_hire c k s) ∧ Fr (jI a 4) h h' := by
  obtain ⟨o, ⟨g0, e0, q0⟩, ⟨g1, e1, q1⟩, g2, e2, q2⟩ := id H
  have F1 : Fr (fun x => x = a + 1) h (jx_set h (a + 1) (jxI 0 6 (upd g0 c.1 k))) := Fr.one
  have a1 : jx_at (jx_set h (a + 1) (jxI 0 6 (upd g0 c.1 k))) (a + 1) = jxI 0 6 (upd g0 c.1 k) := jk_at_self ..
  generalize hh1 : jx_set h (a + 1) (jxI 0 6 (upd g0 c.1 k)) = h1 at F1 a1
  have F2 : Fr (fun x => x = a + 2) h1 (jx_set h1 (a + 2) (jxI 0 6 (upd g1 c.1 (Int32.ofNat s)))) := Fr.one
  have a2 : jx_at (jx_set h1 (a + 2) (jxI 0 6 (upd g1 c.1 (Int32.ofNat s)))) (a + 2) = jxI 0 6 (upd g1 c.1 (Int32.ofNat s)) := jk_at_self ..
  generalize hh2 : jx_set h1 (a + 2) (jxI 0 6 (upd g1 c.1 (Int32.ofNat s))) = h2 at F2 a2
  have F3 : Fr (fun x => x = a + 3) h2 (jx_set h2 (a + 3) (jxI 0 6 (upd g2 c.1 0))) := Fr.one
  have a3 : jx_at (jx_set h2 (a + 3) (jxI 0 6 (upd g2 c.1 0))) (a + 3) = jxI 0 6 (upd g2 c.1 0) := jk_at_self ..
  generalize hh3 : jx_set h2 (a + 3) (jxI 0 6 (upd g2 c.1 0)) = h3 at F3 a3
  have F4 : Fr (fun x => x = a) h3 (jx_set h3 a (jxO 0 [.ref (a + 1), .ref (a + 2), .ref (a + 3), .int (Int32.ofNat (c.1 + 1))])) := Fr.one
  have o1 : jx_at h1 a = _ := (F1.2.2 a (by omega)).trans o
  have o2 : jx_at h2 a = _ := (F2.2.2 a (by omega)).trans o1
  have o3 : jx_at h3 a = _ := (F3.2.2 a (by omega)).trans o2
  refine ⟨_, fun d => ?_, ⟨jk_at_self .., ⟨_, (F4.2.2 _ (by omega)).trans ((F3.2.2 _ (by omega)).trans ((F2.2.2 _ (by omega)).trans a1)), fun i hi => ?_⟩, ⟨_, (F4.2.2 _ (by omega)).trans ((F3.2.2 _ (by omega)).trans a2), fun i hi => ?_⟩, _, (F4.2.2 _ (by omega)).trans a3, fun i hi => ?_⟩, ((F1.mono fun x q => ⟨by omega, by omega⟩).trans (F2.mono fun x q => ⟨by omega, by omega⟩)).trans ((F3.mono fun x q => ⟨by omega, by omega⟩).trans (F4.mono fun x q => ⟨by omega, by omega⟩))⟩
  · have z3 : ∀ n : Int32, jx_gI (jxO 0 [Value.ref (a + 1), Value.ref (a + 2), Value.ref (a + 3), Value.int n]) 0 3 = some n := fun _ => rfl
    rw [je_213, if_pos (cr_is H), cr_g3 H, jk_bs, if_neg (jk_nn (by omega)), jk_bs, if_pos (by rw [show (6 : Int32) = Int32.ofNat 6 from rfl, jk_lt (by omega) (by decide)]; exact h6), cr_g0 H, jk_bs, jk_bs, e0, jk_sI h6 (by decide), jk_bs, hh1, o1, show jx_gR (jxO 0 [Value.ref (a + 1), Value.ref (a + 2), Value.ref (a + 3), Value.int (Int32.ofNat c.1)]) 0 1 = some (a + 2) from rfl, jk_bs, z3, jk_bs, F1.2.2 (a + 2) (by omega), e1, jk_sI h6 (by decide), jk_bs, hh2, o2, show jx_gR (jxO 0 [Value.ref (a + 1), Value.ref (a + 2), Value.ref (a + 3), Value.int (Int32.ofNat c.1)]) 0 2 = some (a + 3) from rfl, jk_bs, z3, jk_bs, F2.2.2 (a + 3) (by omega), F1.2.2 (a + 3) (by omega), e2, jk_sI h6 (by decide), jk_bs, hh3, o3, z3, jk_bs, jk_succ, show jx_pF (jxO 0 [Value.ref (a + 1), Value.ref (a + 2), Value.ref (a + 3), Value.int (Int32.ofNat c.1)]) 0 3 (.int (Int32.ofNat (c.1 + 1))) = some (jxO 0 [Value.ref (a + 1), Value.ref (a + 2), Value.ref (a + 3), Value.int (Int32.ofNat (c.1 + 1))]) from rfl, jk_bs, jk_at_self, z3, jk_bs, jk_pred]
    rfl
  · have hi : i < c.1 + 1 := hi
    show upd g0 c.1 k i = upd c.2.1 c.1 k i
    unfold upd
    by_cases z : i = c.1
    · rw [if_pos z, if_pos z]
    · rw [if_neg z, if_neg z]; exact q0 i (by omega)
  · have hi : i < c.1 + 1 := hi
    show upd g1 c.1 (Int32.ofNat s) i = Int32.ofNat (va_up c.2.2.1 c.1 s i)
    unfold upd va_up
    by_cases z : i = c.1
    · rw [if_pos z, if_pos z]
    · rw [if_neg z, if_neg z]; exact q1 i (by omega)
  · have hi : i < c.1 + 1 := hi
    show upd g2 c.1 0 i = Int32.ofNat (va_up c.2.2.2 c.1 0 i)
    unfold upd va_up
    by_cases z : i = c.1
    · rw [if_pos z, if_pos z]; rfl
    · rw [if_neg z, if_neg z]; exact q2 i (by omega)
theorem cr_train (H : cr_at h a c) (h6 : c.1 ≤ 6) {i : Nat} (hi : i < c.1) (k : Int32) : ∃ h', (∀ d, jx_C rc (d + 2) 214 [.ref a, .int (Int32.ofNat i), .int k] h = some (none, h')) ∧ cr_at h' a (jc_train c i k) ∧ Fr (jI a 4) h h' := by
  obtain ⟨o, ⟨g0, e0, q0⟩, ⟨g1, e1, q1⟩, g2, e2, q2⟩ := id H
  have F1 : Fr (fun x => x = a + 1) h (jx_set h (a + 1) (jxI 0 6 (upd g0 i k))) := Fr.one
  refine ⟨_, fun d => ?_, ⟨(F1.2.2 _ (by omega)).trans o, ⟨_, jk_at_self .., fun j hj => ?_⟩, ⟨g1, (F1.2.2 _ (by omega)).trans e1, q1⟩, g2, (F1.2.2 _ (by omega)).trans e2, q2⟩, F1.mono fun x q => ⟨by omega, by omega⟩⟩
  · rw [je_214, if_pos (cr_is H), cr_has H h6, jk_cI, jk_if0, if_pos ((jp_crew_iff h6).mpr ⟨i, hi, rfl⟩), cr_g0 H, jk_bs, e0, jk_sI (by omega) (by decide), jk_bs]
  · have hj : j < c.1 := hj
    show upd g0 i k j = upd c.2.1 i k j
    unfold upd
    by_cases z : j = i
    · rw [if_pos z, if_pos z]
    · rw [if_neg z, if_neg z]; exact q0 j hj
theorem cr_cost (k : Int32) (s : Nat) (d : Nat) : jx_C rc (d + 1) 221 [.int k, .int (Int32.ofNat s)] h = some (some (.int (jc_cost k s)), h) := by
  rw [je_221]
  unfold jc_cost
  by_cases c1 : k = 1
  · rw [if_pos c1, if_pos c1]
  rw [if_neg c1, if_neg c1]
  by_cases c2 : k = 2
  · rw [if_pos (show k = 1 + 1 from c2), if_pos c2]
  rw [if_neg (show ¬ k = 1 + 1 from c2), if_neg c2]
  by_cases c3 : k = 3
  · rw [if_pos (show k = 1 + 1 + 1 from c3), if_pos c3]
  rw [if_neg (show ¬ k = 1 + 1 + 1 from c3), if_neg c3]
  by_cases c4 : k = 4
  · rw [if_pos (show k = 1 + 1 + 1 + 1 from c4), if_pos c4]
  rw [if_neg (show ¬ k = 1 + 1 + 1 + 1 from c4), if_neg c4]
  by_cases c5 : k = 5
  · rw [if_pos (show k = 1 + 1 + 1 + 1 + 1 from c5), if_pos c5]
  rw [if_neg (show ¬ k = 1 + 1 + 1 + 1 + 1 from c5), if_neg c5]
end
