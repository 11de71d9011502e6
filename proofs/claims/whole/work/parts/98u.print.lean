/-! TEXTS: what a text says: the forest that it writes -/
inductive jFo where
  | nil : jFo
  | cons : Int32 → jFo → jFo → jFo
def fo_t : jFo → List Nat
  | .nil => []
  | .cons w c r => 40 :: (tx_w w ++ (fo_t c ++ 41 :: fo_t r))
def fo_ok : jFo → Prop
  | .nil => True
  | .cons w c r => jp_wt w = true ∧ fo_ok c ∧ fo_ok r
/-- a sum over the trees -/
def fs (p : Int32 → jFo → Int) : jFo → Int
  | .nil => 0
  | .cons w c r => p w c + fs p r
def tx_e (R : List Nat) : Prop := R = [] ∨ ∃ X, R = 41 :: X
theorem cut_in {p : Nat → Prop} : ∀ {A B X Y : List Nat}, (∀ b, b ∈ A → p b) → (∀ b, b ∈ B → p b) → (∃ x X', X = x :: X' ∧ ¬ p x) → (∃ y Y', Y = y :: Y' ∧ ¬ p y) → A ++ X = B ++ Y → A = B ∧ X = Y
  | [], [], X, Y, hA, hB, hX, hY, e => ⟨rfl, e⟩
  | [], b :: B, X, Y, hA, hB, ⟨x, X', ex, nx⟩, hY, e => by
    rw [ex] at e
    injection e with e1 e2
    exact absurd (by rw [e1]; exact hB b (List.mem_cons_self ..)) nx
  | a :: A, [], X, Y, hA, hB, hX, ⟨y, Y', ey, ny⟩, e => by
    rw [ey] at e
    injection e with e1 e2
    exact absurd (by rw [← e1]; exact hA a (List.mem_cons_self ..)) ny
  | a :: A, b :: B, X, Y, hA, hB, hX, hY, e => by
    injection e with e1 e2
    obtain ⟨r1, r2⟩ := cut_in (p := p) (fun x hx => hA x (List.mem_cons_of_mem _ hx)) (fun x hx => hB x (List.mem_cons_of_mem _ hx)) hX hY e2
    exact ⟨by rw [e1, r1], r2⟩
theorem tx_n_big {v : Nat} (hv : v ≤ 30) : ∀ b, b ∈ tx_n v → 44 < b ∧ b ≠ 45 := by
  have h : ∀ v : Nat, v ≤ 30 → ∀ b, b ∈ tx_n v → 44 < b ∧ b ≠ 45 := by decide +kernel
  exact h v hv
theorem tx_w_big {w : Int32} (hw : jp_wt w = true) : ∀ b, b ∈ tx_w w → 44 < b := by
  obtain ⟨v, v30, z | z⟩ := tx_w_abs hw
  · rw [z.2.2]; exact fun b hb => (tx_n_big v30 b hb).1
  · rw [z.2.2]
    intro b hb
    rcases List.mem_cons.mp hb with rfl | hb
    · decide
    · exact (tx_n_big v30 b hb).1
theorem tx_n_inj {v u : Nat} (hv : v ≤ 30) (hu : u ≤ 30) (e : tx_n v = tx_n u) : v = u := by
  have h : ∀ v : Nat, v ≤ 30 → ∀ u : Nat, u ≤ 30 → tx_n v = tx_n u → v = u := by decide +kernel
  exact h v hv u hu e
theorem tx_w_inj {w u : Int32} (hw : jp_wt w = true) (hu : jp_wt u = true) (e : tx_w w = tx_w u) : w = u := by
  obtain ⟨v, v30, z | z⟩ := tx_w_abs hw
  · obtain ⟨v', v30', z' | z'⟩ := tx_w_abs hu
    · rw [z.2.2, z'.2.2] at e
      rw [z.2.1, z'.2.1, tx_n_inj v30 v30' e]
    · exfalso
      rw [z.2.2, z'.2.2] at e
      exact (tx_n_big v30 45 (by rw [e]; exact List.mem_cons_self ..)).2 rfl
  · obtain ⟨v', v30', z' | z'⟩ := tx_w_abs hu
    · exfalso
      rw [z.2.2, z'.2.2] at e
      exact (tx_n_big v30' 45 (by rw [← e]; exact List.mem_cons_self ..)).2 rfl
    · rw [z.2.2, z'.2.2] at e
      injection e with e1 e2
      have : -w = -u := by rw [z.2.1, z'.2.1, tx_n_inj v30 v30' e2]
      exact Int32.neg_inj.mp this
theorem fo_head (c : jFo) (R : List Nat) : ∃ x X, fo_t c ++ 41 :: R = x :: X ∧ ¬ 44 < x := by
  cases c with
  | nil => exact ⟨41, R, rfl, by decide⟩
  | cons w c r => exact ⟨40, _, rfl, by decide⟩
/-- a text is of one forest -/
theorem fo_t_inj : ∀ (F G : jFo) (R Q : List Nat), fo_ok F → fo_ok G → tx_e R → tx_e Q → fo_t F ++ R = fo_t G ++ Q → F = G ∧ R = Q
  | .nil, .nil, R, Q, hF, hG, hR, hQ, e => ⟨rfl, e⟩
  | .nil, .cons w c r, R, Q, hF, hG, hR, hQ, e => by
    exfalso
    have e : R = 40 :: _ := e
    rcases hR with z | ⟨X, z⟩
    · rw [z] at e; cases e
    · rw [z] at e; injection e with e1 e2; cases e1
  | .cons w c r, .nil, R, Q, hF, hG, hR, hQ, e => by
    exfalso
    have e : 40 :: _ = Q := e
    rcases hQ with z | ⟨X, z⟩
    · rw [z] at e; cases e
    · rw [z] at e; injection e with e1 e2; cases e1
  | .cons w c r, .cons w' c' r', R, Q, hF, hG, hR, hQ, e => by
    have e : 40 :: ((tx_w w ++ (fo_t c ++ 41 :: fo_t r)) ++ R) = 40 :: ((tx_w w' ++ (fo_t c' ++ 41 :: fo_t r')) ++ Q) := e
    injection e with _ e
    rw [List.append_assoc, List.append_assoc, List.append_assoc, List.append_assoc, List.cons_append, List.cons_append] at e
    obtain ⟨e1, e2⟩ := cut_in (p := fun b => 44 < b) (tx_w_big hF.1) (tx_w_big hG.1) (fo_head _ _) (fo_head _ _) e
    obtain ⟨e3, e4⟩ := fo_t_inj c c' (41 :: (fo_t r ++ R)) (41 :: (fo_t r' ++ Q)) hF.2.1 hG.2.1 (Or.inr ⟨_, rfl⟩) (Or.inr ⟨_, rfl⟩) e2
    injection e4 with _ e4
    obtain ⟨e5, e6⟩ := fo_t_inj r r' R Q hF.2.2 hG.2.2 hR hQ e4
    exact ⟨by rw [tx_w_inj hF.1 hG.1 e1, e3, e5], e6⟩
/-- some trees in the order of their texts -/
def fc (r : Nat → Int32 × jFo) (t : Nat → List Nat) : Nat → Int32 → jFo
  | 0, _ => .nil
  | m + 1, S => match tx_sl t S with
    | none => .nil
    | some j => .cons (r j).1 (r j).2 (fc r t m (S &&& (jk_bit j ^^^ (-1))))
section
variable {r r' : Nat → Int32 × jFo} {t t' : Nat → List Nat}
theorem fc_t : ∀ {m : Nat} {S : Int32}, (∀ k, bt S k = true → t k = 40 :: (tx_w (r k).1 ++ (fo_t (r k).2 ++ [41]))) → fo_t (fc r t m S) = tx_c t m S
  | 0, S, h => rfl
  | m + 1, S, h => by
    unfold fc tx_c
    cases q : tx_sl t S with
    | none => rfl
    | some j =>
      dsimp only
      have ih := fc_t (m := m) (S := S &&& (jk_bit j ^^^ (-1))) fun k hk => h k (clr_sub hk)
      rw [h j (tx_sl_some q).2, ← ih]
      simp [fo_t]
theorem fc_ok : ∀ {m : Nat} {S : Int32}, (∀ k, bt S k = true → jp_wt (r k).1 = true ∧ fo_ok (r k).2) → fo_ok (fc r t m S)
  | 0, S, h => trivial
  | m + 1, S, h => by
    unfold fc
    cases q : tx_sl t S with
    | none => trivial
    | some j =>
      obtain ⟨a, b⟩ := h j (tx_sl_some q).2
      exact ⟨a, b, fc_ok fun k hk => h k (clr_sub hk)⟩
theorem fc_congr : ∀ {m : Nat} {S : Int32}, (∀ k, bt S k = true → r k = r' k ∧ t k = t' k) → fc r t m S = fc r' t' m S
  | 0, S, h => rfl
  | m + 1, S, h => by
    unfold fc
    rw [tx_sl_congr fun k hk => (h k hk).2]
    cases q : tx_sl t' S with
    | none => rfl
    | some j => dsimp only; rw [(h j (tx_sl_some q).2).1, fc_congr fun k hk => h k (clr_sub hk)]
theorem fc_sum (p : Int32 → jFo → Int) : ∀ {m : Nat} {S : Int32}, bc S ≤ m → fs p (fc r t m S) = js (fun k => if bt S k = true then p (r k).1 (r k).2 else 0) 12
  | 0, S, h => by
    have z : ∀ k, k < 12 → bt S k = false := fun k hk => by
      cases q : bt S k
      · rfl
      · have := bc_pos hk q; omega
    rw [js_congr (h := fun _ => 0) (fun k hk => by rw [if_neg (by rw [z k hk]; simp)]), js_0]; rfl
  | m + 1, S, h => by
    cases q : tx_sl t S with
    | none =>
      have z : ∀ k, k < 12 → bt S k = false := fun k hk => by
        cases w : bt S k
        · rfl
        · obtain ⟨j, e⟩ := tx_sl_ex (t := t) hk w; rw [q] at e; cases e
      have e : fc r t (m + 1) S = .nil := by
        show (match tx_sl t S with | none => jFo.nil | some j => .cons (r j).1 (r j).2 (fc r t m (S &&& (jk_bit j ^^^ (-1))))) = _
        rw [q]
      rw [e, js_congr (h := fun _ => 0) (fun k hk => by rw [if_neg (by rw [z k hk]; simp)]), js_0]; rfl
    | some j =>
      obtain ⟨j12, bj⟩ := tx_sl_some q
      have c := bc_clr_eq j12 bj
      have e : fc r t (m + 1) S = .cons (r j).1 (r j).2 (fc r t m (S &&& (jk_bit j ^^^ (-1)))) := by
        show (match tx_sl t S with | none => jFo.nil | some j => .cons (r j).1 (r j).2 (fc r t m (S &&& (jk_bit j ^^^ (-1))))) = _
        rw [q]
      rw [e]
      show p (r j).1 (r j).2 + fs p (fc r t m _) = _
      rw [fc_sum p (by omega)]
      rw [js_congr (g := fun k => if bt S k = true then p (r k).1 (r k).2 else 0) (h := fun k => (if k = j then p (r k).1 (r k).2 else 0) + (if bt (S &&& (jk_bit j ^^^ (-1))) k = true then p (r k).1 (r k).2 else 0)) (fun k hk => ?_), js_add, js_delta (fun k => p (r k).1 (r k).2), if_pos j12]
      rw [clr_bt j12 (by omega)]
      by_cases z : k = j
      · subst z; rw [bj]; simp
      · rw [if_neg z]; simp [z]
end
def fx (f : jF) : Nat → Nat → Int32 → jFo
  | 0, _, _ => .nil
  | m + 1, p, u => fc (fun k => (f.1 k, fx f m k (jk_bit p))) (fun k => tx f m k (jk_bit p)) 12 (f.2.1 p &&& (u ^^^ (-1)))
def FX (f : jF) (v : Nat) (u : Int32) : jFo := fx f 12 v u
section
variable {f : jF} {q : Nat} {o : Nat → Nat} {par : Nat → Option Nat} {sz : Nat}
theorem fx_fuel (B : jf_B f) (J : wy_J f q o par sz) : ∀ (m m' i : Nat), i < sz → sz - i ≤ m → sz - i ≤ m' → fx f m (o i) (tx_u par (o i)) = fx f m' (o i) (tx_u par (o i))
  | 0, m', i, hi, h1, h2 => by omega
  | m + 1, 0, i, hi, h1, h2 => by omega
  | m + 1, m' + 1, i, hi, h1, h2 => by
    unfold fx
    refine fc_congr fun k hk => ?_
    obtain ⟨j, l, hj, rfl, e⟩ := tx_low B J hi hk
    have a1 := fx_fuel B J m m' j hj (by omega) (by omega)
    have a2 := tx_fuel B J m m' j hj (by omega) (by omega)
    rw [tx_u_some e] at a1 a2
    exact ⟨by rw [a1], a2⟩
theorem FX_eq (B : jf_B f) (J : wy_J f q o par sz) {i : Nat} (hi : i < sz) : FX f (o i) (tx_u par (o i)) = fc (fun k => (f.1 k, FX f k (tx_u par k))) (fun k => TX f k (tx_u par k)) 12 (tx_d f par (o i)) := by
  have h12 := J.2.1
  show fx f (11 + 1) _ _ = _
  unfold fx
  refine fc_congr fun k hk => ?_
  obtain ⟨j, l, hj, rfl, e⟩ := tx_low B J hi hk
  have a1 := fx_fuel B J 11 12 j hj (by omega) (by omega)
  have a2 := tx_fuel B J 11 12 j hj (by omega) (by omega)
  rw [tx_u_some e] at a1 a2
  unfold FX TX
  rw [tx_u_some e]
  exact ⟨by rw [a1], a2⟩
theorem FX_t (B : jf_B f) (J : wy_J f q o par sz) : ∀ (m i : Nat), i < sz → sz - i ≤ m → TX f (o i) (tx_u par (o i)) = 40 :: (tx_w (f.1 (o i)) ++ (fo_t (FX f (o i) (tx_u par (o i))) ++ [41])) ∧ fo_ok (FX f (o i) (tx_u par (o i)))
  | 0, i, hi, hm => by omega
  | m + 1, i, hi, hm => by
    rw [TX_eq B J hi, FX_eq B J hi]
    have K : ∀ k, bt (tx_d f par (o i)) k = true → TX f k (tx_u par k) = 40 :: (tx_w (f.1 k) ++ (fo_t (FX f k (tx_u par k)) ++ [41])) ∧ fo_ok (FX f k (tx_u par k)) ∧ k < 12 := fun k hk => by
      obtain ⟨j, l, hj, rfl, e⟩ := tx_low B J hi hk
      obtain ⟨a, b⟩ := FX_t B J m j hj (by omega)
      exact ⟨a, b, (J.2.2.2.2.1 j hj).1⟩
    refine ⟨?_, fc_ok fun k hk => ⟨B.wt (K k hk).2.2, (K k hk).2.1⟩⟩
    rw [fc_t fun k hk => (K k hk).1]
/-- sums over a tree from what hangs -/
theorem tx_pot (B : jf_B f) (J : wy_J f q o par sz) (P own : Nat → Int) (hP : ∀ i, i < sz → P (o i) = own (o i) + js (fun k => if bt (tx_d f par (o i)) k = true then P k else 0) 12) : P q = js (fun v => if bt (jt_T f q) v = true then own v else 0) 12 := by
  obtain ⟨h0, h12, oq, pq, j1, j2, j3, j4, j5⟩ := id J
  let A : (Nat → Bool) → Nat → Int := fun U v => if U v && !(match par v with | none => false | some y => U y) then P v else 0
  have main : ∀ (m i : Nat) (U : Nat → Bool), i + m = sz → (∀ v, U v = true ↔ ∃ j, i ≤ j ∧ j < sz ∧ o j = v) → js (A U) 12 = js (fun v => if U v = true then own v else 0) 12 := by
    intro m
    induction m with
    | zero =>
      intro i U e hU
      have z : ∀ v, U v = false := fun v => by
        cases w : U v
        · rfl
        · obtain ⟨j, a, b, -⟩ := (hU v).mp w; omega
      exact js_congr fun k _ => by show (if _ then _ else _) = _; rw [z k]; rfl
    | succ m ih =>
      intro i U e hU
      have hi : i < sz := by omega
      have oi := (j1 i hi).1
      let V : Nat → Bool := fun v => U v && !decide (v = o i)
      have hV : ∀ v, V v = true ↔ ∃ j, i + 1 ≤ j ∧ j < sz ∧ o j = v := fun v => by
        show (U v && !decide (v = o i)) = true ↔ _
        rw [Bool.and_eq_true, hU v]
        constructor
        · rintro ⟨⟨j, a, b, c⟩, d⟩
          simp at d
          refine ⟨j, ?_, b, c⟩
          rcases Nat.lt_or_ge i j with z | z
          · exact z
          · obtain rfl : j = i := by omega
            exact absurd c.symm d
        · rintro ⟨j, a, b, c⟩
          refine ⟨⟨j, by omega, b, c⟩, ?_⟩
          simp
          rintro rfl
          have := j3 j i b hi c
          omega
      have ih := ih (i + 1) V (by omega) hV
      have own1 : U (o i) = true := (hU _).mpr ⟨i, Nat.le_refl _, hi, rfl⟩
      have vown : V (o i) = false := by show (U (o i) && !decide (o i = o i)) = false; simp
      have vne : ∀ v, v ≠ o i → V v = U v := fun v h => by show (U v && !decide (v = o i)) = U v; simp [h]
      have e1 : js (fun k => A U k + (if bt (tx_d f par (o i)) k = true then P k else 0)) 12 = js (fun k => A V k + (if k = o i then P k else 0)) 12 := js_congr fun v hv => by
        by_cases c1 : v = o i
        · subst c1
          have b0 : bt (tx_d f par (o i)) (o i) = false := by
            cases w : bt (tx_d f par (o i)) (o i)
            · rfl
            · obtain ⟨j, l, hj, z, -⟩ := tx_low B J hi w
              have := j3 j i hj hi z
              omega
          have u0 : (match par (o i) with | none => false | some y => U y) = false := by
            rcases Nat.eq_zero_or_pos i with z | z
            · have : par (o i) = none := by rw [z, oq, pq]
              rw [this]
            · obtain ⟨i', l', e3, e4⟩ := j4 i z hi
              rw [e3]
              cases w : U (o i')
              · exact w
              · obtain ⟨j, a, b, c⟩ := (hU _).mp w
                have := j3 j i' b (by omega) c
                omega
          show (if _ then _ else _) + _ = (if _ then _ else _) + _
          rw [own1, vown, u0, b0]; simp
        · rw [if_neg c1]
          show (if _ then _ else _) + _ = (if _ then _ else _) + _
          by_cases c2 : bt (tx_d f par (o i)) v = true
          · obtain ⟨j, l, hj, rfl, pe⟩ := tx_low B J hi c2
            have uv : U (o j) = true := (hU _).mpr ⟨j, by omega, hj, rfl⟩
            rw [if_pos c2, pe, vne _ c1, uv]
            simp [own1, vown]
          · rw [if_neg c2, vne _ c1]
            cases w : U v
            · simp
            · have pe : (match par v with | none => false | some y => U y) = (match par v with | none => false | some y => V y) := by
                cases pv : par v with
                | none => rfl
                | some y =>
                  dsimp only
                  by_cases c3 : y = o i
                  · subst c3
                    obtain ⟨j, a, b, rfl⟩ := (hU _).mp w
                    exact absurd (tx_up B J hi b pv).2 c2
                  · exact (vne _ c3).symm
              rw [pe]
      rw [js_add, js_add, js_delta, if_pos oi] at e1
      have e2 : js (fun v => if U v = true then own v else 0) 12 = js (fun v => if V v = true then own v else 0) 12 + own (o i) := by
        rw [js_congr (g := fun v => if U v = true then own v else 0) (h := fun v => (if V v = true then own v else 0) + (if v = o i then own v else 0)) (fun v hv => ?_), js_add, js_delta own, if_pos oi]
        by_cases c1 : v = o i
        · subst c1; rw [own1, vown]; simp
        · rw [vne _ c1, if_neg c1]; simp
      have e3 := hP i hi
      omega
  have := main sz 0 (fun v => bt (jt_T f q) v) (by omega) (fun v => ⟨fun h => by obtain ⟨j, a, b⟩ := j2 v h; exact ⟨j, by omega, a, b⟩, fun ⟨j, _, a, b⟩ => by rw [← b]; exact (j1 j a).2⟩)
  rw [← this]
  have hq : q < 12 := by rw [← oq]; exact (j1 0 h0).1
  rw [js_congr (g := A fun v => bt (jt_T f q) v) (h := fun v => if v = q then P v else 0) (fun v hv => ?_), js_delta, if_pos hq]
  show (if _ then _ else _) = _
  by_cases c : v = q
  · subst c
    simp [jt_T_self f hq, pq]
  · rw [if_neg c]
    cases w : bt (jt_T f q) v
    · simp [w]
    · obtain ⟨i, hi, rfl⟩ := j2 v w
      have i0 : 0 < i := by
        rcases Nat.eq_zero_or_pos i with z | z
        · rw [z] at c; exact absurd oq c
        · exact z
      obtain ⟨j, l, p1, p2⟩ := j4 i i0 hi
      simp [p1, (j1 j (by omega)).2]
end
