/-! The reference: factor, undo, redo, trail, move -/
section
variable {rc : Nat → Nat × (Nat → Int32)} {h h' : jxH} {P : Nat → Prop} {σ : jSt} {f : jF}
theorem jk_6 (i j : Nat) : (6 : Int32) * Int32.ofNat i + Int32.ofNat j = Int32.ofNat (6 * i + j) := by
  rw [show (6 : Int32) = Int32.ofNat 6 from rfl, ← Int32.ofNat_mul, ← Int32.ofNat_add]
theorem mt_D {t : jT} (H : m_tr h t) {i j : Nat} (hi : i < t.2.1) (hm : t.2.1 ≤ 40) (hj : j < 6) : jx_aI (jx_at h 381) 0 (6 * Int32.ofNat i + Int32.ofNat j) = some (if j = 5 then t.2.2.2.1 i else jm_k (t.2.2.1 i) (Int32.ofNat j)) := by
  obtain ⟨-, -, -, D, e, q⟩ := H
  obtain ⟨d0, d1, d2, d3, d4, d5⟩ := q i hi
  rw [jk_6, e, jk_aI (by omega) (by decide)]
  match j, hj with
  | 0, _ => rw [show 6 * i + 0 = 6 * i from rfl, d0]; rfl
  | 1, _ => rw [d1]; rfl
  | 2, _ => rw [d2]; rfl
  | 3, _ => rw [d3]; rfl
  | 4, _ => rw [d4]; rfl
  | 5, _ => rw [d5]; rfl
theorem rr_fac (R : RSt h σ) (A : AWt σ) (d : Nat) : ∀ (m k : Nat), k + m = σ.2.1.1 → jb_106 rc d 4 [(0, .ref 336), (1, .int (jk_prod σ.2.1.2.2.2.1 k)), (2, .int (Int32.ofNat k))] [] h = some (some (.int (jk_prod σ.2.1.2.2.2.1 σ.2.1.1)), h)
  | 0, k, e => by
    have n40 := Nat.le_trans A.tr.1 A.tr.2.1
    have e : k = σ.2.1.1 := by omega
    rw [je_106_4, R.done, jk_bs, if_pos ((jk_le (by omega) (by omega)).mpr (by omega)), e]
  | m + 1, k, e => by
    have n40 := Nat.le_trans A.tr.1 A.tr.2.1
    have D := mt_D R.tr (i := k) (j := 5) (Nat.lt_of_lt_of_le (by omega : k < σ.2.1.1) A.tr.1) A.tr.2.1 (by decide)
    rw [show Int32.ofNat 5 = (5 : Int32) from rfl, if_pos rfl] at D
    rw [je_106_4, R.done, jk_bs, if_neg (by rw [jk_le (by omega) (by omega)]; omega), R.g3, jk_bs, D, jk_bs, jk_succ]
    exact rr_fac R A d m (k + 1) (by omega)
theorem rr_factor (R : RSt h σ) (A : AWt σ) : ∃ h', (∀ d, jx_C rc (d + 20) 106 [.ref 336] h = some (some (.int (op_factor σ).1), h')) ∧ RSt h' (op_factor σ).2 ∧ rF h h' := by
  refine ⟨h, fun d => ?_, R, Fr.rfl⟩
  rw [je_106, if_pos R.is]
  exact rr_fac R A _ σ.2.1.1 0 (by omega)
theorem rr_trail (R : RSt h σ) (A : AWt σ) (i w : Int32) : ∃ h', (∀ d, jx_C rc (d + 20) 105 [.ref 336, .int i, .int w] h = some (some (.int (op_trail σ i w).1), h')) ∧ RSt h' (op_trail σ i w).2 ∧ rF h h' := by
  have n40 := Nat.le_trans A.tr.1 A.tr.2.1
  obtain ⟨e', e1, e2, e3⟩ := rr_error (rc := rc) R A (k := 1) (by decide) (K := 1) rfl
  obtain ⟨f', f1, f2, f3⟩ := rr_error (rc := rc) R A (k := 2) (by decide) (K := 2) rfl
  unfold op_trail
  by_cases c1 : w < 0
  · rw [if_pos c1]
    refine ⟨e', fun d => ?_, e2, e3⟩
    rw [je_105, if_pos R.is, rf_in, jk_cI, jk_if0, show (4 : Int64) = (4 : Int32).toInt64 from rfl, jp_bt_hi, if_neg (by unfold jp_hi; rw [if_pos c1]; decide), e1, jk_cI]
  rw [if_neg c1]
  by_cases c2 : 4 < w
  · rw [if_pos c2]
    refine ⟨e', fun d => ?_, e2, e3⟩
    rw [je_105, if_pos R.is, rf_in, jk_cI, jk_if0, show (4 : Int64) = (4 : Int32).toInt64 from rfl, jp_bt_hi, if_neg (by unfold jp_hi; rw [if_neg c1, if_pos c2]; decide), e1, jk_cI]
  rw [if_neg c2]
  have c12 : jp_hi w 4 = true := by unfold jp_hi; rw [if_neg c1, if_neg c2]
  have st : ∀ d, jx_C rc (d + 20) 105 [.ref 336, .int i, .int w] h = _ := fun d => by
    rw [je_105, if_pos R.is, rf_in, jk_cI, jk_if0, show jp_bt w.toInt64 0 4 = true from (jp_bt_hi w 4).trans c12, if_pos rfl, R.done, jk_bs, rf_in, jk_cI, jk_if0, jp_bt_hi]
  by_cases c3 : i < 0
  · rw [if_pos c3]
    refine ⟨f', fun d => ?_, f2, f3⟩
    have z : ¬ jp_hi i (Int32.ofNat σ.2.1.1 - 1) = true := by unfold jp_hi; rw [if_pos c3]; decide
    rw [st d, if_neg z, f1, jk_cI]
  rw [if_neg c3]
  have ei := jk_of c3
  have li := jk_of_lt i
  by_cases c4 : Int32.ofNat σ.2.1.1 ≤ i
  · rw [if_pos c4]
    refine ⟨f', fun d => ?_, f2, f3⟩
    rw [st d, if_neg ?_, f1, jk_cI]
    unfold jp_hi
    rw [if_neg c3, if_pos ?_]
    · decide
    · rw [Int32.lt_iff_toInt_lt]
      rw [Int32.le_iff_toInt_le] at c4
      match h0 : σ.2.1.1 with
      | 0 => 
        rw [h0] at c4
        rw [show (Int32.ofNat 0 - 1 : Int32).toInt = -1 from by decide]
        rw [show (Int32.ofNat 0 : Int32).toInt = 0 from by decide] at c4
        omega
      | n + 1 =>
        rw [h0] at c4 n40
        rw [jk_pred]
        rw [← Int32.le_iff_toInt_le, ei, jk_le (by omega) li] at c4
        rw [← Int32.lt_iff_toInt_lt, ei, jk_lt (by omega) li]
        omega
  · rw [if_neg c4]
    have il : pn i < σ.2.1.1 := by
      unfold pn
      rw [ei, jk_le (by omega) li] at c4
      omega
    refine ⟨h, fun d => ?_, R, Fr.rfl⟩
    obtain ⟨j, hj, rfl⟩ := (jp_hi_iff (n := 4) (by decide)).mp c12
    have D := mt_D R.tr (i := pn i) (j := j) (Nat.lt_of_lt_of_le il A.tr.1) A.tr.2.1 (by omega)
    rw [if_neg (by omega), show Int32.ofNat (pn i) = i from ei.symm] at D
    rw [st d, if_pos ?_, R.g3, jk_bs, D, jk_bs]
    unfold jp_hi
    rw [if_neg c3, if_neg ?_]
    obtain ⟨n, hn⟩ : ∃ n, σ.2.1.1 = n + 1 := ⟨σ.2.1.1 - 1, by omega⟩
    rw [hn, jk_pred]
    unfold pn at il
    rw [ei, jk_lt (by omega) li]
    omega
end
