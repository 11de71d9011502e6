/-! TEXTS: the text of a tree is five bytes a vertex at most -/
def tx_u (par : Nat → Option Nat) (v : Nat) : Int32 := match par v with | none => 0 | some y => jk_bit y
def tx_d (f : jF) (par : Nat → Option Nat) (v : Nat) : Int32 := f.2.1 v &&& (tx_u par v ^^^ (-1))
def TX (f : jF) (v : Nat) (b : Int32) : List Nat := tx f 12 v b
theorem tx_good {f : jF} (hw : ∀ k, k < 12 → jp_wt (f.1 k) = true) (hn : ∀ k, k < 12 → S12 (f.2.1 k)) : ∀ (m p : Nat) (u : Int32), p < 12 → ∀ b, b ∈ tx f m p u → b < 128
  | 0, p, u, hp, b, h => by cases h
  | m + 1, p, u, hp, b, h => by
    unfold tx at h
    rcases List.mem_cons.mp h with h | h
    · subst h; decide
    · rcases List.mem_append.mp h with h | h
      · exact (tx_w_le (hw p hp)).2 b h
      · rcases List.mem_append.mp h with h | h
        · exact tx_c_all (P := fun b => b < 128) (fun k hk b hb => tx_good hw hn m k _ (by
            rw [bt_and] at hk
            simp at hk
            rcases Nat.lt_or_ge k 12 with z | z
            · exact z
            · rw [hn p hp k z] at hk; cases hk.1) b hb) b h
        · rcases List.mem_cons.mp h with h | h
          · subst h; decide
          · cases h
section
variable {f : jF} {q : Nat} {o : Nat → Nat} {par : Nat → Option Nat} {sz : Nat}
theorem tx_d_bt (B : jf_B f) {v k : Nat} (hv : v < 12) : bt (tx_d f par v) k = true ↔ bt (f.2.1 v) k = true ∧ k < 12 ∧ bt (tx_u par v) k = false := by
  unfold tx_d
  rcases Nat.lt_or_ge k 12 with z | z
  · rw [bt_and, bt_not _ (by omega)]; simp [z]
  · rw [bt_and, B.n v hv k z]; simp
theorem tx_u_bt {v k : Nat} (hk : k < 12) : bt (tx_u par v) k = true ↔ par v = some k ∨ (∃ y, par v = some y ∧ bt (jk_bit y) k = true) := by
  unfold tx_u
  cases e : par v with
  | none => rw [bt_0]; simp
  | some y =>
    dsimp only
    constructor
    · intro h; exact Or.inr ⟨y, rfl, h⟩
    · rintro (h | ⟨z, h1, h2⟩)
      · injection h with h; subst h; exact (by rw [bt_bit (by omega) (by omega)]; simp)
      · injection h1 with h1; subst h1; exact h2
theorem tx_low (B : jf_B f) (J : wy_J f q o par sz) {i k : Nat} (hi : i < sz) (h : bt (tx_d f par (o i)) k = true) : ∃ j, i < j ∧ j < sz ∧ o j = k ∧ par k = some (o i) := by
  obtain ⟨h0, h12, oq, pq, j1, j2, j3, j4, j5⟩ := id J
  obtain ⟨oi, ti⟩ := j1 i hi
  have hq : q < 12 := by rw [← oq]; exact (j1 0 h0).1
  obtain ⟨e1, k12, e2⟩ := (tx_d_bt B oi).mp h
  have tk : bt (jt_T f q) k = true := jt_T_closed B.n hq ti oi e1
  obtain ⟨j, hj, rfl⟩ := j2 k tk
  rcases Nat.lt_trichotomy i j with z | z | z
  · exact ⟨j, z, hj, rfl, j5 j i z hj e1⟩
  · subst z; rw [B.irr oi] at e1; cases e1
  · have p1 := j5 i j z hi (by rw [B.sym k12 oi]; exact e1)
    rw [(tx_u_bt k12).mpr (Or.inl p1)] at e2
    cases e2
theorem tx_up (B : jf_B f) (J : wy_J f q o par sz) {i j : Nat} (hi : i < sz) (hj : j < sz) (h : par (o j) = some (o i)) : i < j ∧ bt (tx_d f par (o i)) (o j) = true := by
  obtain ⟨h0, h12, oq, pq, j1, j2, j3, j4, j5⟩ := id J
  have j0 : 0 < j := by
    rcases Nat.eq_zero_or_pos j with z | z
    · subst z; rw [oq, pq] at h; cases h
    · exact z
  obtain ⟨j', l, e1, e2⟩ := j4 j j0 hj
  rw [h] at e1
  injection e1 with e1
  obtain rfl := j3 i j' hi (by omega) e1
  refine ⟨l, (tx_d_bt B (j1 i hi).1).mpr ⟨e2, (j1 j hj).1, ?_⟩⟩
  cases w : bt (tx_u par (o i)) (o j)
  · rfl
  · exfalso
    rcases Nat.eq_zero_or_pos i with z | z
    · subst z
      unfold tx_u at w
      rw [oq, pq] at w
      rw [bt_0] at w; cases w
    · obtain ⟨i', l', e3, e4⟩ := j4 i z hi
      unfold tx_u at w
      rw [e3] at w
      dsimp only at w
      have := (j1 i' (by omega)).1
      have := (j1 j hj).1
      rw [bt_bit (by omega) (by omega)] at w
      have := j3 j i' hj (by omega) (of_decide_eq_true w)
      omega
theorem tx_u_some {v y : Nat} (h : par v = some y) : tx_u par v = jk_bit y := by unfold tx_u; rw [h]
theorem tx_fuel (B : jf_B f) (J : wy_J f q o par sz) : ∀ (m m' i : Nat), i < sz → sz - i ≤ m → sz - i ≤ m' → tx f m (o i) (tx_u par (o i)) = tx f m' (o i) (tx_u par (o i))
  | 0, m', i, hi, h1, h2 => by omega
  | m + 1, 0, i, hi, h1, h2 => by omega
  | m + 1, m' + 1, i, hi, h1, h2 => by
    unfold tx
    rw [tx_c_congr (t := fun k => tx f m k (jk_bit (o i))) (t' := fun k => tx f m' k (jk_bit (o i))) fun k hk => ?_]
    obtain ⟨j, l, hj, rfl, e⟩ := tx_low B J hi hk
    have := tx_fuel B J m m' j hj (by omega) (by omega)
    rw [tx_u_some e] at this
    exact this
theorem TX_eq (B : jf_B f) (J : wy_J f q o par sz) {i : Nat} (hi : i < sz) : TX f (o i) (tx_u par (o i)) = 40 :: (tx_w (f.1 (o i)) ++ (tx_c (fun k => TX f k (tx_u par k)) 12 (tx_d f par (o i)) ++ [41])) := by
  have h12 := J.2.1
  show tx f (11 + 1) _ _ = _
  unfold tx
  rw [show f.2.1 (o i) &&& (tx_u par (o i) ^^^ (-1)) = tx_d f par (o i) from rfl, tx_c_congr (t' := fun k => TX f k (tx_u par k)) fun k hk => ?_]
  obtain ⟨j, l, hj, rfl, e⟩ := tx_low B J hi hk
  have := tx_fuel B J 11 12 j hj (by omega) (by omega)
  rw [tx_u_some e] at this
  show tx f 11 _ _ = _
  unfold TX
  rw [tx_u_some e]
  exact this
/-- what stands for all that isn't held by what is done -/
def tx_A (f : jF) (par : Nat → Option Nat) (U : Nat → Bool) (v : Nat) : Int := if U v && !(match par v with | none => false | some y => U y) then ((TX f v (tx_u par v)).length : Int) else 0
theorem tx_A_le (B : jf_B f) (hw : ∀ k, k < 12 → jp_wt (f.1 k) = true) (J : wy_J f q o par sz) : ∀ (m i : Nat) (U : Nat → Bool), i + m = sz → (∀ v, U v = true ↔ ∃ j, i ≤ j ∧ j < sz ∧ o j = v) → js (tx_A f par U) 12 ≤ 5 * js (fun v => i01 (U v)) 12
  | 0, i, U, e, hU => by
    have z : ∀ v, U v = false := fun v => by
      cases w : U v
      · rfl
      · obtain ⟨j, a, b, -⟩ := (hU v).mp w; omega
    rw [js_congr (g := tx_A f par U) (h := fun _ => 0) (fun k _ => by unfold tx_A; rw [z k]; rfl), js_congr (g := fun v => i01 (U v)) (h := fun _ => 0) (fun k _ => by rw [z k]; rfl), js_0]
    decide
  | m + 1, i, U, e, hU => by
    obtain ⟨h0, h12, oq, pq, j1, j2, j3, j4, j5⟩ := id J
    have hi : i < sz := by omega
    have oi := (j1 i hi).1
    let V : Nat → Bool := fun v => U v && !decide (v = o i)
    have hV : ∀ v, V v = true ↔ ∃ j, i + 1 ≤ j ∧ j < sz ∧ o j = v := fun v => by
      show (U v && !decide (v = o i)) = true ↔ _
      rw [Bool.and_eq_true, hU v]
      constructor
      · rintro ⟨⟨j, a, b, c⟩, d⟩
        simp at d
        refine ⟨j, ?_, b, c⟩
        rcases Nat.lt_or_ge i j with z | z
        · exact z
        · obtain rfl : j = i := by omega
          exact absurd c.symm d
      · rintro ⟨j, a, b, c⟩
        refine ⟨⟨j, by omega, b, c⟩, ?_⟩
        simp
        rintro rfl
        have := j3 j i b hi c
        omega
    have ih := tx_A_le B hw J m (i + 1) V (by omega) hV
    have own : U (o i) = true := (hU _).mpr ⟨i, Nat.le_refl _, hi, rfl⟩
    have vown : V (o i) = false := by show (U (o i) && !decide (o i = o i)) = false; simp
    have vne : ∀ v, v ≠ o i → V v = U v := fun v h => by show (U v && !decide (v = o i)) = U v; simp [h]
    have e1 : js (tx_A f par U) 12 = js (tx_A f par V) 12 - js (fun k => if bt (tx_d f par (o i)) k = true then ((TX f k (tx_u par k)).length : Int) else 0) 12 + (TX f (o i) (tx_u par (o i))).length := by
      have : js (fun k => tx_A f par U k + (if bt (tx_d f par (o i)) k = true then ((TX f k (tx_u par k)).length : Int) else 0)) 12 = js (fun k => tx_A f par V k + (if k = o i then ((TX f k (tx_u par k)).length : Int) else 0)) 12 := js_congr fun v hv => by
        by_cases c1 : v = o i
        · subst c1
          have b0 : bt (tx_d f par (o i)) (o i) = false := by
            cases w : bt (tx_d f par (o i)) (o i)
            · rfl
            · obtain ⟨j, l, hj, z, -⟩ := tx_low B J hi w
              have := j3 j i hj hi z
              omega
          have u0 : (match par (o i) with | none => false | some y => U y) = false := by
            rcases Nat.eq_zero_or_pos i with z | z
            · have : par (o i) = none := by rw [z, oq, pq]
              rw [this]
            · obtain ⟨i', l', e3, e4⟩ := j4 i z hi
              rw [e3]
              cases w : U (o i')
              · exact w
              · obtain ⟨j, a, b, c⟩ := (hU _).mp w
                have := j3 j i' b (by omega) c
                omega
          unfold tx_A
          rw [own, vown, u0, b0]; simp
        · rw [if_neg c1]
          by_cases c2 : bt (tx_d f par (o i)) v = true
          · obtain ⟨j, l, hj, rfl, pe⟩ := tx_low B J hi c2
            have uv : U (o j) = true := (hU _).mpr ⟨j, by omega, hj, rfl⟩
            unfold tx_A
            rw [if_pos c2, pe, vne _ c1, uv]
            simp [own, vown]
          · rw [if_neg c2]
            unfold tx_A
            rw [vne _ c1]
            cases w : U v
            · simp
            · have pe : (match par v with | none => false | some y => U y) = (match par v with | none => false | some y => V y) := by
                cases pv : par v with
                | none => rfl
                | some y =>
                  dsimp only
                  by_cases c3 : y = o i
                  · subst c3
                    obtain ⟨j, a, b, rfl⟩ := (hU _).mp w
                    exact absurd (tx_up B J hi b pv).2 c2
                  · exact (vne _ c3).symm
              rw [pe]
      rw [js_add, js_add, js_delta, if_pos oi] at this
      omega
    have e2 : js (fun v => i01 (U v)) 12 = js (fun v => i01 (V v)) 12 + 1 := by
      rw [js_congr (g := fun v => i01 (U v)) (h := fun v => i01 (V v) + (if v = o i then 1 else 0)) (fun v hv => ?_), js_add, js_delta (fun _ => 1), if_pos oi]
      by_cases c1 : v = o i
      · subst c1; rw [own, vown]; simp [i01]
      · rw [vne _ c1, if_neg c1]; simp
    have e3 : ((TX f (o i) (tx_u par (o i))).length : Int) ≤ 5 + js (fun k => if bt (tx_d f par (o i)) k = true then ((TX f k (tx_u par k)).length : Int) else 0) 12 := by
      rw [TX_eq B J hi, ← tx_c_len (t := fun k => TX f k (tx_u par k)) (bc_le _)]
      have := (tx_w_le (hw _ oi)).1
      simp
      omega
    omega
theorem TX_len (W : jf_W f) (hw : ∀ k, k < 12 → jp_wt (f.1 k) = true) (hq : q < 12) (sq : bt f.2.2 q = true) : (TX f q 0).length ≤ 5 * bc (jt_T f q) := by
  obtain ⟨o, par, sz, J⟩ := wy_ex W hq sq
  obtain ⟨h0, h12, oq, pq, j1, j2, j3, j4, j5⟩ := id J
  have := tx_A_le W.1 hw J sz 0 (fun v => bt (jt_T f q) v) (by omega) (fun v => ⟨fun h => by obtain ⟨j, a, b⟩ := j2 v h; exact ⟨j, by omega, a, b⟩, fun ⟨j, _, a, b⟩ => by rw [← b]; exact (j1 j a).2⟩)
  rw [js_bc] at this
  have l : js (fun v => if v = q then ((TX f q 0).length : Int) else 0) 12 ≤ js (tx_A f par fun v => bt (jt_T f q) v) 12 := js_le fun v hv => by
    unfold tx_A
    by_cases c : v = q
    · subst c
      have u0 : tx_u par v = 0 := by unfold tx_u; rw [pq]
      simp [jt_T_self f hq, pq, u0]
    · rw [if_neg c]
      split <;> omega
  rw [js_delta (fun _ => ((TX f q 0).length : Int)), if_pos hq] at l
  omega
end
