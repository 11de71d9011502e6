/-! TEXTS: sums that a text says: it is read with a stack -/
-- a vertex that is read: has it a sign, its digits, how many hang at it, the sum of their weights
abbrev jFr := Bool × Nat × Int × Int
def fr_w (f : jFr) : Int32 := if f.1 = true then -Int32.ofNat f.2.1 else Int32.ofNat f.2.1
def dec (c : Int32 → Int32 → Int32 → Int) : List Nat → List jFr → Int → Int
  | [], _, acc => acc
  | b :: t, st, acc => if b = 40 then dec c t ((false, 0, 0, 0) :: st) acc else match st with
    | [] => acc
    | x :: st => if b = 41 then (match st with
        | [] => dec c t [] (acc + c (fr_w x) (Int32.ofInt x.2.2.1) (Int32.ofInt x.2.2.2))
        | y :: st => dec c t ((y.1, y.2.1, y.2.2.1 + 1, y.2.2.2 + (fr_w x).toInt) :: st) (acc + c (fr_w x) (Int32.ofInt (1 + x.2.2.1)) (Int32.ofInt ((fr_w y).toInt + x.2.2.2))))
      else if b = 45 then dec c t ((true, x.2) :: st) acc else dec c t ((x.1, x.2.1 * 10 + (b - 48), x.2.2) :: st) acc
section
variable {c : Int32 → Int32 → Int32 → Int}
theorem dec_40 (t : List Nat) (st : List jFr) (acc : Int) : dec c (40 :: t) st acc = dec c t ((false, 0, 0, 0) :: st) acc := rfl
theorem dec_41 (t : List Nat) (x : jFr) (acc : Int) : dec c (41 :: t) [x] acc = dec c t [] (acc + c (fr_w x) (Int32.ofInt x.2.2.1) (Int32.ofInt x.2.2.2)) := rfl
theorem dec_41' (t : List Nat) (x y : jFr) (st : List jFr) (acc : Int) : dec c (41 :: t) (x :: y :: st) acc = dec c t ((y.1, y.2.1, y.2.2.1 + 1, y.2.2.2 + (fr_w x).toInt) :: st) (acc + c (fr_w x) (Int32.ofInt (1 + x.2.2.1)) (Int32.ofInt ((fr_w y).toInt + x.2.2.2))) := rfl
theorem dec_45 (t : List Nat) (x : jFr) (st : List jFr) (acc : Int) : dec c (45 :: t) (x :: st) acc = dec c t ((true, x.2) :: st) acc := rfl
theorem dec_d {b : Nat} (h : 48 ≤ b) (t : List Nat) (x : jFr) (st : List jFr) (acc : Int) : dec c (b :: t) (x :: st) acc = dec c t ((x.1, x.2.1 * 10 + (b - 48), x.2.2) :: st) acc := by
  show (if b = 40 then _ else _) = _
  rw [if_neg (by omega)]
  show (if b = 41 then _ else if b = 45 then _ else _) = _
  rw [if_neg (by omega), if_neg (by omega)]
theorem dec_n {v : Nat} (hv : v ≤ 30) (R : List Nat) (s : Bool) (y : Int × Int) (st : List jFr) (acc : Int) : dec c (tx_n v ++ R) ((s, 0, y) :: st) acc = dec c R ((s, v, y) :: st) acc := by
  unfold tx_n
  by_cases z : 10 ≤ v
  · rw [if_pos z]
    show dec c ((48 + v / 10) :: (48 + v % 10) :: R) _ acc = _
    rw [dec_d (by omega), dec_d (by omega)]
    dsimp only
    rw [show (0 * 10 + (48 + v / 10 - 48)) * 10 + (48 + v % 10 - 48) = v by omega]
  · rw [if_neg z]
    show dec c ((48 + v % 10) :: R) _ acc = _
    rw [dec_d (by omega)]
    dsimp only
    rw [show 0 * 10 + (48 + v % 10 - 48) = v by omega]
theorem dec_w {w : Int32} (hw : jp_wt w = true) : ∃ s v, fr_w (s, v, 0, 0) = w ∧ (∀ n z, fr_w (s, v, n, z) = w) ∧ ∀ R st acc, dec c (tx_w w ++ R) ((false, 0, 0, 0) :: st) acc = dec c R ((s, v, 0, 0) :: st) acc := by
  obtain ⟨v, v30, z | z⟩ := tx_w_abs hw
  · refine ⟨false, v, ?_, fun n z' => ?_, fun R st acc => ?_⟩
    · rw [z.2.1]; rfl
    · rw [z.2.1]; rfl
    · rw [z.2.2, dec_n v30]
  · have e : -Int32.ofNat v = w := by rw [← z.2.1]; exact Int32.neg_neg
    refine ⟨true, v, ?_, fun n z' => ?_, fun R st acc => ?_⟩
    · unfold fr_w; rw [if_pos rfl]; exact e
    · unfold fr_w; rw [if_pos rfl]; exact e
    · rw [z.2.2]
      show dec c (45 :: (tx_n v ++ R)) _ acc = _
      rw [dec_45, dec_n v30]
/-- some texts one after the other, at a vertex -/
theorem dec_c {t : Nat → List Nat} {P w : Nat → Int} {y0 : Bool} {y1 : Nat} {st : List jFr} : ∀ {m : Nat} {S : Int32}, bc S ≤ m → (∀ k, bt S k = true → ∀ n s R acc, dec c (t k ++ R) ((y0, y1, n, s) :: st) acc = dec c R ((y0, y1, n + 1, s + w k) :: st) (acc + P k)) → ∀ n s R acc, dec c (tx_c t m S ++ R) ((y0, y1, n, s) :: st) acc = dec c R ((y0, y1, n + bc S, s + js (fun k => if bt S k = true then w k else 0) 12) :: st) (acc + js (fun k => if bt S k = true then P k else 0) 12)
  | 0, S, hS, h, n, s, R, acc => by
    have z : ∀ k, k < 12 → bt S k = false := fun k hk => by
      cases q : bt S k
      · rfl
      · have := bc_pos hk q; omega
    have e : ∀ g : Nat → Int, js (fun k => if bt S k = true then g k else 0) 12 = 0 := fun g => by
      rw [js_congr (h := fun _ => 0) (fun k hk => by rw [if_neg (by rw [z k hk]; simp)]), js_0]
    rw [e, e, show bc S = 0 by omega]
    simp [tx_c]
  | m + 1, S, hS, h, n, s, R, acc => by
    cases q : tx_sl t S with
    | none =>
      have z : ∀ k, k < 12 → bt S k = false := fun k hk => by
        cases w : bt S k
        · rfl
        · obtain ⟨j, e⟩ := tx_sl_ex (t := t) hk w; rw [q] at e; cases e
      have e : ∀ g : Nat → Int, js (fun k => if bt S k = true then g k else 0) 12 = 0 := fun g => by
        rw [js_congr (h := fun _ => 0) (fun k hk => by rw [if_neg (by rw [z k hk]; simp)]), js_0]
      have b0 : bc S = 0 := by
        rcases Nat.eq_zero_or_pos (bc S) with y | y
        · exact y
        · obtain ⟨a, ha⟩ := bc_lo y
          obtain ⟨a1, a2, -⟩ := lo_some.mp ha
          rw [z a a1] at a2; cases a2
      rw [e, e, b0, tx_c_nil z]
      simp
    | some j =>
      obtain ⟨j12, bj⟩ := tx_sl_some q
      have cl := bc_clr_eq j12 bj
      have ce : tx_c t (m + 1) S = t j ++ tx_c t m (S &&& (jk_bit j ^^^ (-1))) := by
        show (match tx_sl t S with | none => [] | some j => t j ++ tx_c t m (S &&& (jk_bit j ^^^ (-1)))) = _
        rw [q]
      have sp : ∀ g : Nat → Int, js (fun k => if bt S k = true then g k else 0) 12 = g j + js (fun k => if bt (S &&& (jk_bit j ^^^ (-1))) k = true then g k else 0) 12 := fun g => by
        rw [js_congr (g := fun k => if bt S k = true then g k else 0) (h := fun k => (if k = j then g k else 0) + (if bt (S &&& (jk_bit j ^^^ (-1))) k = true then g k else 0)) (fun k hk => ?_), js_add, js_delta g, if_pos j12]
        rw [clr_bt j12 (by omega)]
        by_cases z : k = j
        · subst z; rw [bj]; simp
        · rw [if_neg z]; simp [z]
      rw [ce, List.append_assoc, h j bj, dec_c (by omega) (fun k hk => h k (clr_sub hk)), sp, sp, ← cl]
      congr 1
      · congr 1
        simp only [Prod.mk.injEq, true_and]
        constructor <;> omega
      · omega
/-- some texts one after the other, at no vertex -/
theorem dec_r {t : Nat → List Nat} {P : Nat → Int} : ∀ {m : Nat} {S : Int32}, bc S ≤ m → (∀ k, bt S k = true → ∀ R acc, dec c (t k ++ R) [] acc = dec c R [] (acc + P k)) → ∀ R acc, dec c (tx_c t m S ++ R) [] acc = dec c R [] (acc + js (fun k => if bt S k = true then P k else 0) 12)
  | 0, S, hS, h, R, acc => by
    have z : ∀ k, k < 12 → bt S k = false := fun k hk => by
      cases q : bt S k
      · rfl
      · have := bc_pos hk q; omega
    rw [js_congr (h := fun _ => 0) (fun k hk => by rw [if_neg (by rw [z k hk]; simp)]), js_0]
    simp [tx_c]
  | m + 1, S, hS, h, R, acc => by
    cases q : tx_sl t S with
    | none =>
      have z : ∀ k, k < 12 → bt S k = false := fun k hk => by
        cases w : bt S k
        · rfl
        · obtain ⟨j, e⟩ := tx_sl_ex (t := t) hk w; rw [q] at e; cases e
      rw [js_congr (h := fun _ => 0) (fun k hk => by rw [if_neg (by rw [z k hk]; simp)]), js_0, tx_c_nil z]
      simp
    | some j =>
      obtain ⟨j12, bj⟩ := tx_sl_some q
      have cl := bc_clr_eq j12 bj
      have ce : tx_c t (m + 1) S = t j ++ tx_c t m (S &&& (jk_bit j ^^^ (-1))) := by
        show (match tx_sl t S with | none => [] | some j => t j ++ tx_c t m (S &&& (jk_bit j ^^^ (-1)))) = _
        rw [q]
      have sp : js (fun k => if bt S k = true then P k else 0) 12 = P j + js (fun k => if bt (S &&& (jk_bit j ^^^ (-1))) k = true then P k else 0) 12 := by
        rw [js_congr (g := fun k => if bt S k = true then P k else 0) (h := fun k => (if k = j then P k else 0) + (if bt (S &&& (jk_bit j ^^^ (-1))) k = true then P k else 0)) (fun k hk => ?_), js_add, js_delta P, if_pos j12]
        rw [clr_bt j12 (by omega)]
        by_cases z : k = j
        · subst z; rw [bj]; simp
        · rw [if_neg z]; simp [z]
      rw [ce, List.append_assoc, h j bj, dec_r (by omega) (fun k hk => h k (clr_sub hk)), sp]
      congr 1
      omega
end
section
variable {f : jF} {q : Nat} {o : Nat → Nat} {par : Nat → Option Nat} {sz : Nat}
/-- sums over a tree from what hangs -/
theorem tx_pot (B : jf_B f) (J : wy_J f q o par sz) (P own : Nat → Int) (hP : ∀ i, i < sz → P (o i) = own (o i) + js (fun k => if bt (tx_d f par (o i)) k = true then P k else 0) 12) : P q = js (fun v => if bt (jt_T f q) v = true then own v else 0) 12 := by
  obtain ⟨h0, h12, oq, pq, j1, j2, j3, j4, j5⟩ := id J
  let A : (Nat → Bool) → Nat → Int := fun U v => if U v && !(match par v with | none => false | some y => U y) then P v else 0
  have main : ∀ (m i : Nat) (U : Nat → Bool), i + m = sz → (∀ v, U v = true ↔ ∃ j, i ≤ j ∧ j < sz ∧ o j = v) → js (A U) 12 = js (fun v => if U v = true then own v else 0) 12 := by
    intro m
    induction m with
    | zero =>
      intro i U e hU
      have z : ∀ v, U v = false := fun v => by
        cases w : U v
        · rfl
        · obtain ⟨j, a, b, -⟩ := (hU v).mp w; omega
      exact js_congr fun k _ => by show (if _ then _ else _) = _; rw [z k]; rfl
    | succ m ih =>
      intro i U e hU
      have hi : i < sz := by omega
      have oi := (j1 i hi).1
      let V : Nat → Bool := fun v => U v && !decide (v = o i)
      have hV : ∀ v, V v = true ↔ ∃ j, i + 1 ≤ j ∧ j < sz ∧ o j = v := fun v => by
        show (U v && !decide (v = o i)) = true ↔ _
        rw [Bool.and_eq_true, hU v]
        constructor
        · rintro ⟨⟨j, a, b, c⟩, d⟩
          simp at d
          refine ⟨j, ?_, b, c⟩
          rcases Nat.lt_or_ge i j with z | z
          · exact z
          · obtain rfl : j = i := by omega
            exact absurd c.symm d
        · rintro ⟨j, a, b, c⟩
          refine ⟨⟨j, by omega, b, c⟩, ?_⟩
          simp
          rintro rfl
          have := j3 j i b hi c
          omega
      have ih := ih (i + 1) V (by omega) hV
      have own1 : U (o i) = true := (hU _).mpr ⟨i, Nat.le_refl _, hi, rfl⟩
      have vown : V (o i) = false := by show (U (o i) && !decide (o i = o i)) = false; simp
      have vne : ∀ v, v ≠ o i → V v = U v := fun v h => by show (U v && !decide (v = o i)) = U v; simp [h]
      have e1 : js (fun k => A U k + (if bt (tx_d f par (o i)) k = true then P k else 0)) 12 = js (fun k => A V k + (if k = o i then P k else 0)) 12 := js_congr fun v hv => by
        by_cases c1 : v = o i
        · subst c1
          have b0 : bt (tx_d f par (o i)) (o i) = false := by
            cases w : bt (tx_d f par (o i)) (o i)
            · rfl
            · obtain ⟨j, l, hj, z, -⟩ := tx_low B J hi w
              have := j3 j i hj hi z
              omega
          have u0 : (match par (o i) with | none => false | some y => U y) = false := by
            rcases Nat.eq_zero_or_pos i with z | z
            · have : par (o i) = none := by rw [z, oq, pq]
              rw [this]
            · obtain ⟨i', l', e3, e4⟩ := j4 i z hi
              rw [e3]
              cases w : U (o i')
              · exact w
              · obtain ⟨j, a, b, c⟩ := (hU _).mp w
                have := j3 j i' b (by omega) c
                omega
          show (if _ then _ else _) + _ = (if _ then _ else _) + _
          rw [own1, vown, u0, b0]; simp
        · rw [if_neg c1]
          show (if _ then _ else _) + _ = (if _ then _ else _) + _
          by_cases c2 : bt (tx_d f par (o i)) v = true
          · obtain ⟨j, l, hj, rfl, pe⟩ := tx_low B J hi c2
            have uv : U (o j) = true := (hU _).mpr ⟨j, by omega, hj, rfl⟩
            rw [if_pos c2, pe, vne _ c1, uv]
            simp [own1, vown]
          · rw [if_neg c2, vne _ c1]
            cases w : U v
            · simp
            · have pe : (match par v with | none => false | some y => U y) = (match par v with | none => false | some y => V y) := by
                cases pv : par v with
                | none => rfl
                | some y =>
                  dsimp only
                  by_cases c3 : y = o i
                  · subst c3
                    obtain ⟨j, a, b, rfl⟩ := (hU _).mp w
                    exact absurd (tx_up B J hi b pv).2 c2
                  · exact (vne _ c3).symm
              rw [pe]
      rw [js_add, js_add, js_delta, if_pos oi] at e1
      have e2 : js (fun v => if U v = true then own v else 0) 12 = js (fun v => if V v = true then own v else 0) 12 + own (o i) := by
        rw [js_congr (g := fun v => if U v = true then own v else 0) (h := fun v => (if V v = true then own v else 0) + (if v = o i then own v else 0)) (fun v hv => ?_), js_add, js_delta own, if_pos oi]
        by_cases c1 : v = o i
        · subst c1; rw [own1, vown]; simp
        · rw [vne _ c1, if_neg c1]; simp
      have e3 := hP i hi
      omega
  have := main sz 0 (fun v => bt (jt_T f q) v) (by omega) (fun v => ⟨fun h => by obtain ⟨j, a, b⟩ := j2 v h; exact ⟨j, by omega, a, b⟩, fun ⟨j, _, a, b⟩ => by rw [← b]; exact (j1 j a).2⟩)
  rw [← this]
  have hq : q < 12 := by rw [← oq]; exact (j1 0 h0).1
  rw [js_congr (g := A fun v => bt (jt_T f q) v) (h := fun v => if v = q then P v else 0) (fun v hv => ?_), js_delta, if_pos hq]
  show (if _ then _ else _) = _
  by_cases c : v = q
  · subst c
    simp [jt_T_self f hq, pq]
  · rw [if_neg c]
    cases w : bt (jt_T f q) v
    · simp [w]
    · obtain ⟨i, hi, rfl⟩ := j2 v w
      have i0 : 0 < i := by
        rcases Nat.eq_zero_or_pos i with z | z
        · rw [z] at c; exact absurd oq c
        · exact z
      obtain ⟨j, l, p1, p2⟩ := j4 i i0 hi
      simp [p1, (j1 j (by omega)).2]
end
